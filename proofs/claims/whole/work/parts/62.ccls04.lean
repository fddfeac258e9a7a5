set_option maxRecDepth 100000 in
set_option maxHeartbeats 4000000 in
theorem b_X11_isMoment_17 {X : h_X} (hX : h_ok X cX11_isMoment 2 RX11 0 0) {Q : Int32 → h_S → Prop} (hE : h_end X (some .boolean) (h_QI (x_Z X) Q)) {y0 : Int32} (s : h_S) (h : w_X11_isMoment_17 Q y0 s) : h_V X 2 17 [] [pI y0] s 0 0 := by
  unfold w_X11_isMoment_17 at h
  exact v_zret hX hE dX11_isMoment_17 h.1 h.2
set_option maxRecDepth 100000 in
set_option maxHeartbeats 4000000 in
theorem b_X11_isMoment_16 {X : h_X} (hX : h_ok X cX11_isMoment 2 RX11 0 0) {Q : Int32 → h_S → Prop} (hE : h_end X (some .boolean) (h_QI (x_Z X) Q)) (s : h_S) (h : w_X11_isMoment_16 Q s) : h_V X 2 16 [] [] s 0 0 := by
  unfold w_X11_isMoment_16 at h
  refine v_iconst (v := 0) hX dX11_isMoment_16 (by decide) ?_
  refine v_pick [] rfl ?_
  exact b_X11_isMoment_17 hX hE _ h
set_option maxRecDepth 100000 in
set_option maxHeartbeats 4000000 in
theorem m_X11_isMoment {Z : h_Z} {o0 : Nat} {x1 : Int32} {s : h_S} {Q : Int32 → h_S → Prop} (h : w_X11_isMoment o0 x1 s Q) : h_M Z yX11_isMoment cX11_isMoment 2 (some .boolean) 0 0 [pR (some o0), pI x1] s 0 0 (h_QI Z Q) := by
  refine h_M.of (by decide) (Nat.le_of_ble_eq_true rfl) (fun X hZ hX hE hI => ?_)
  subst hZ
  unfold w_X11_isMoment at h
  show h_V X 2 0 [(0, pR (some o0)), (1, pI x1)] [] s 0 0
  refine v_iload_n hX dX11_isMoment_0 1 rfl rfl ?_
  refine v_if_lt (tgt := 16) hX dX11_isMoment_1 (by decide) (fun c1 => ?_) (fun c1 => ?_)
  · have h := h_T c1 h
    refine v_pick [] rfl ?_
    exact b_X11_isMoment_16 hX hE _ h
  · have h := h_E c1 h
    refine v_iload_n hX dX11_isMoment_4 1 rfl rfl ?_
    refine v_aload_n hX dX11_isMoment_5 0 rfl rfl ?_
    obtain ⟨k2, h⟩ := h
    refine v_getI hX dX11_isMoment_6 f_RX11_84 rfl k2 ?_
    refine v_icmp_gt (tgt := 16) hX dX11_isMoment_9 (by decide) (fun c3 => ?_) (fun c3 => ?_)
    · have h := h_T c3 h
      refine v_pick [] rfl ?_
      exact b_X11_isMoment_16 hX hE _ h
    · have h := h_E c3 h
      refine v_iconst (v := 1) hX dX11_isMoment_12 (by decide) ?_
      refine v_goto (tgt := 17) hX dX11_isMoment_13 (by decide) ?_
      refine v_pick [] rfl ?_
      exact b_X11_isMoment_17 hX hE _ h
set_option maxRecDepth 100000 in
set_option maxHeartbeats 4000000 in
theorem b_X11_again_16 {X : h_X} (hX : h_ok X cX11_again 3 RX11 3 67) {Q : Int32 → h_S → Prop} (hE : h_end X (some .int) (h_QI (x_Z X) Q)) (s : h_S) {bc bs : Nat} (h : w_X11_again_16 Q s bc bs) : h_V X 3 16 [] [] s bc bs := by
  unfold w_X11_again_16 at h
  refine v_iconst (v := -1) hX dX11_again_16 (by decide) ?_
  exact v_iret hX hE dX11_again_17 h
set_option maxRecDepth 100000 in
set_option maxHeartbeats 4000000 in
theorem m_X11_again {Z : h_Z} {o0 : Nat} {x1 : Int32} {x2 : Int32} {s : h_S} {mc ms : Nat} {Q : Int32 → h_S → Prop} (h : w_X11_again o0 x1 x2 s mc ms Q) : h_M Z yX11_again cX11_again 3 (some .int) 3 67 [pR (some o0), pI x1, pI x2] s mc ms (h_QI Z Q) := by
  refine h_M.of (by decide) (Nat.le_of_ble_eq_true rfl) (fun X hZ hX hE hI => ?_)
  subst hZ
  unfold w_X11_again at h
  show h_V X 3 0 [(0, pR (some o0)), (1, pI x1), (2, pI x2)] [] s mc ms
  refine v_aload_n hX dX11_again_0 0 rfl rfl ?_
  refine v_iload_n hX dX11_again_1 1 rfl rfl ?_
  obtain ⟨k1, h⟩ := h
  refine v_callVi hX dX11_again_2 c_RX11_152 cV_X11_isWriting (ci := 12) (T := TX11) (N := 19) rfl (by exact k1) [pI _] rfl rfl (Nat.le_of_ble_eq_true rfl) (by decide) (by decide) (Nat.zero_le _) (Nat.zero_le _) (m_X11_isWriting h) (fun p3 s2 h => ?_)
  refine v_if_eq (tgt := 16) hX dX11_again_5 (by decide) (fun c4 => ?_) (fun c4 => ?_)
  · have h := h_T c4 h
    refine v_pick [] rfl ?_
    exact b_X11_again_16 hX hE _ h
  · have h := h_E c4 h
    refine v_aload_n hX dX11_again_8 0 rfl rfl ?_
    refine v_iload_n hX dX11_again_9 2 rfl rfl ?_
    obtain ⟨k5, h⟩ := h
    refine v_callVi hX dX11_again_10 c_RX11_155 cV_X11_isMoment (ci := 12) (T := TX11) (N := 19) rfl (by exact k5) [pI _] rfl rfl (Nat.le_of_ble_eq_true rfl) (by decide) (by decide) (Nat.zero_le _) (Nat.zero_le _) (m_X11_isMoment h) (fun p7 s6 h => ?_)
    refine v_if_ne (tgt := 18) hX dX11_again_13 (by decide) (fun c8 => ?_) (fun c8 => ?_)
    · have h := h_E c8 h
      refine v_aload_n hX dX11_again_18 0 rfl rfl ?_
      obtain ⟨k9, h⟩ := h
      refine v_getR hX dX11_again_19 f_RX11_23 rfl k9 ?_
      refine v_iload_n hX dX11_again_22 1 rfl rfl ?_
      refine v_iload_n hX dX11_again_23 2 rfl rfl ?_
      refine v_aload_n hX dX11_again_24 0 rfl rfl ?_
      refine v_getI hX dX11_again_25 f_RX11_84 rfl k9 ?_
      refine v_iconst (v := 1) hX dX11_again_28 (by decide) ?_
      refine v_iadd hX dX11_again_29 ?_
      obtain ⟨a10, e_a10, h⟩ := h
      refine v_nn3 e_a10 ?_
      obtain ⟨k11, h⟩ := h
      obtain ⟨mc14, ms15, b16, b17, h⟩ := h
      refine v_callVv hX dX11_again_30 c_RX11_193 cV_X7_returnTo (ci := 8) (T := TX7) (N := 13) rfl (by exact k11) [pI _, pI _, pI _] rfl rfl (Nat.le_of_ble_eq_true rfl) (by decide) (by decide) b16 b17 (m_X7_returnTo h) (fun s12 h => ?_)
      refine v_aload_n hX dX11_again_33 0 rfl rfl ?_
      refine v_aload_n hX dX11_again_34 0 rfl rfl ?_
      obtain ⟨k18, h⟩ := h
      refine v_getR hX dX11_again_35 f_RX11_23 rfl k18 ?_
      refine v_iload_n hX dX11_again_38 1 rfl rfl ?_
      obtain ⟨a19, e_a19, h⟩ := h
      refine v_nn1 e_a19 ?_
      obtain ⟨k20, h⟩ := h
      refine v_callVi hX dX11_again_39 c_RX11_190 cV_X7_pieceCount (ci := 8) (T := TX7) (N := 13) rfl (by exact k20) [pI _] rfl rfl (Nat.le_of_ble_eq_true rfl) (by decide) (by decide) (Nat.zero_le _) (Nat.zero_le _) (m_X7_pieceCount h) (fun p22 s21 h => ?_)
      obtain ⟨k23, h⟩ := h
      refine v_callVi hX dX11_again_42 c_RX11_76 cV_X11_acted (ci := 12) (T := TX11) (N := 19) rfl (by exact k23) [pI _] rfl rfl (Nat.le_of_ble_eq_true rfl) (by decide) (by decide) (Nat.zero_le _) (Nat.zero_le _) (m_X11_acted h) (fun p25 s24 h => ?_)
      exact v_iret hX hE dX11_again_45 h
    · have h := h_T c8 h
      refine v_pick [] rfl ?_
      exact b_X11_again_16 hX hE _ h
set_option maxRecDepth 100000 in
set_option maxHeartbeats 4000000 in
theorem b_X11_pieces_20 {X : h_X} (hX : h_ok X cX11_pieces 2 RX11 2 42) {Q : Int32 → h_S → Prop} (hE : h_end X (some .int) (h_QI (x_Z X) Q)) {y0 : Int32} (s : h_S) (h : w_X11_pieces_20 Q y0 s) : h_V X 2 20 [] [pI y0] s 0 0 := by
  unfold w_X11_pieces_20 at h
  exact v_iret hX hE dX11_pieces_20 h
set_option maxRecDepth 100000 in
set_option maxHeartbeats 4000000 in
theorem m_X11_pieces {Z : h_Z} {o0 : Nat} {x1 : Int32} {s : h_S} {Q : Int32 → h_S → Prop} (h : w_X11_pieces o0 x1 s Q) : h_M Z yX11_pieces cX11_pieces 2 (some .int) 2 42 [pR (some o0), pI x1] s 0 0 (h_QI Z Q) := by
  refine h_M.of (by decide) (Nat.le_of_ble_eq_true rfl) (fun X hZ hX hE hI => ?_)
  subst hZ
  unfold w_X11_pieces at h
  show h_V X 2 0 [(0, pR (some o0)), (1, pI x1)] [] s 0 0
  refine v_aload_n hX dX11_pieces_0 0 rfl rfl ?_
  refine v_iload_n hX dX11_pieces_1 1 rfl rfl ?_
  obtain ⟨k1, h⟩ := h
  refine v_callVi hX dX11_pieces_2 c_RX11_152 cV_X11_isWriting (ci := 12) (T := TX11) (N := 19) rfl (by exact k1) [pI _] rfl rfl (Nat.le_of_ble_eq_true rfl) (by decide) (by decide) (Nat.zero_le _) (Nat.zero_le _) (m_X11_isWriting h) (fun p3 s2 h => ?_)
  refine v_if_eq (tgt := 19) hX dX11_pieces_5 (by decide) (fun c4 => ?_) (fun c4 => ?_)
  · have h := h_T c4 h
    refine v_iconst (v := -1) hX dX11_pieces_19 (by decide) ?_
    refine v_pick [] rfl ?_
    exact b_X11_pieces_20 hX hE _ h
  · have h := h_E c4 h
    refine v_aload_n hX dX11_pieces_8 0 rfl rfl ?_
    obtain ⟨k5, h⟩ := h
    refine v_getR hX dX11_pieces_9 f_RX11_23 rfl k5 ?_
    refine v_iload_n hX dX11_pieces_12 1 rfl rfl ?_
    obtain ⟨a6, e_a6, h⟩ := h
    refine v_nn1 e_a6 ?_
    obtain ⟨k7, h⟩ := h
    refine v_callVi hX dX11_pieces_13 c_RX11_190 cV_X7_pieceCount (ci := 8) (T := TX7) (N := 13) rfl (by exact k7) [pI _] rfl rfl (Nat.le_of_ble_eq_true rfl) (by decide) (by decide) (Nat.zero_le _) (Nat.zero_le _) (m_X7_pieceCount h) (fun p9 s8 h => ?_)
    refine v_goto (tgt := 20) hX dX11_pieces_16 (by decide) ?_
    refine v_pick [] rfl ?_
    exact b_X11_pieces_20 hX hE _ h
set_option maxRecDepth 100000 in
set_option maxHeartbeats 4000000 in
theorem m_X11_piece {Z : h_Z} {o0 : Nat} {x1 : Int32} {x2 : Int32} {x3 : Int32} {s : h_S} {Q : Int32 → h_S → Prop} (h : w_X11_piece o0 x1 x2 x3 s Q) : h_M Z yX11_piece cX11_piece 5 (some .int) 3 64 [pR (some o0), pI x1, pI x2, pI x3] s 0 0 (h_QI Z Q) := by
  refine h_M.of (by decide) (Nat.le_of_ble_eq_true rfl) (fun X hZ hX hE hI => ?_)
  subst hZ
  unfold w_X11_piece at h
  show h_V X 5 0 [(0, pR (some o0)), (1, pI x1), (2, pI x2), (3, pI x3)] [] s 0 0
  refine v_aload_n hX dX11_piece_0 0 rfl rfl ?_
  refine v_iload_n hX dX11_piece_1 1 rfl rfl ?_
  obtain ⟨k1, h⟩ := h
  refine v_callVi hX dX11_piece_2 c_RX11_152 cV_X11_isWriting (ci := 12) (T := TX11) (N := 19) rfl (by exact k1) [pI _] rfl rfl (Nat.le_of_ble_eq_true rfl) (by decide) (by decide) (Nat.zero_le _) (Nat.zero_le _) (m_X11_isWriting h) (fun p3 s2 h => ?_)
  refine v_if_ne (tgt := 10) hX dX11_piece_5 (by decide) (fun c4 => ?_) (fun c4 => ?_)
  · have h := h_E c4 h
    refine v_aload_n hX dX11_piece_10 0 rfl rfl ?_
    obtain ⟨k5, h⟩ := h
    refine v_getR hX dX11_piece_11 f_RX11_23 rfl k5 ?_
    refine v_iload_n hX dX11_piece_14 1 rfl rfl ?_
    refine v_iload_n hX dX11_piece_15 2 rfl rfl ?_
    obtain ⟨a6, e_a6, h⟩ := h
    refine v_nn2 e_a6 ?_
    obtain ⟨k7, h⟩ := h
    refine v_callVr hX dX11_piece_16 c_RX11_208 cV_X7_pieceAt (ci := 8) (T := TX7) (N := 13) rfl (by exact k7) [pI _, pI _] rfl rfl (Nat.le_of_ble_eq_true rfl) (by decide) (by decide) (Nat.zero_le _) (Nat.zero_le _) (m_X7_pieceAt h) (fun p9 s8 h => ?_)
    refine v_astore (lv' := [(4, _), (0, _), (1, _), (2, _), (3, _)]) hX dX11_piece_19 (by decide) rfl ?_
    refine v_aload hX dX11_piece_21 0 rfl ?_
    refine v_ifnonnull (tgt := 28) hX dX11_piece_23 (by decide) (fun c10 => ?_) (fun c10 => ?_)
    · have h := h_E c10 h
      refine v_iload_n hX dX11_piece_28 4 rfl rfl ?_
      refine v_gen (fun q26 e_q26 => ?_)
      rw [← e_q26] at h
      by_cases c11 : q26 = (0 : Int32)
      · have h := h_T c11 h
        refine v_tabIn (tgt := 64) hX dX11_piece_29 (by rw [c11]; decide) (by rw [c11]; decide) (by rw [c11]; rfl) (by decide) ?_
        refine v_aload hX dX11_piece_64 0 rfl ?_
        obtain ⟨a12, e_a12, h⟩ := h
        refine v_nn0 e_a12 ?_
        obtain ⟨k13, h⟩ := h
        refine v_getI hX dX11_piece_66 f_RX11_212 rfl k13 ?_
        exact v_iret hX hE dX11_piece_69 h
      · have h := h_E c11 h
        by_cases c14 : q26 = (1 : Int32)
        · have h := h_T c14 h
          refine v_tabIn (tgt := 70) hX dX11_piece_29 (by rw [c14]; decide) (by rw [c14]; decide) (by rw [c14]; rfl) (by decide) ?_
          refine v_aload hX dX11_piece_70 0 rfl ?_
          obtain ⟨a15, e_a15, h⟩ := h
          refine v_nn0 e_a15 ?_
          obtain ⟨k16, h⟩ := h
          refine v_getI hX dX11_piece_72 f_RX11_215 rfl k16 ?_
          exact v_iret hX hE dX11_piece_75 h
        · have h := h_E c14 h
          by_cases c17 : q26 = (2 : Int32)
          · have h := h_T c17 h
            refine v_tabIn (tgt := 76) hX dX11_piece_29 (by rw [c17]; decide) (by rw [c17]; decide) (by rw [c17]; rfl) (by decide) ?_
            refine v_aload hX dX11_piece_76 0 rfl ?_
            obtain ⟨a18, e_a18, h⟩ := h
            refine v_nn0 e_a18 ?_
            obtain ⟨k19, h⟩ := h
            refine v_getI hX dX11_piece_78 f_RX11_218 rfl k19 ?_
            exact v_iret hX hE dX11_piece_81 h
          · have h := h_E c17 h
            by_cases c20 : q26 = (3 : Int32)
            · have h := h_T c20 h
              refine v_tabIn (tgt := 82) hX dX11_piece_29 (by rw [c20]; decide) (by rw [c20]; decide) (by rw [c20]; rfl) (by decide) ?_
              refine v_aload hX dX11_piece_82 0 rfl ?_
              obtain ⟨a21, e_a21, h⟩ := h
              refine v_nn0 e_a21 ?_
              obtain ⟨k22, h⟩ := h
              refine v_getI hX dX11_piece_84 f_RX11_221 rfl k22 ?_
              exact v_iret hX hE dX11_piece_87 h
            · have h := h_E c20 h
              by_cases c23 : q26 = (4 : Int32)
              · have h := h_T c23 h
                refine v_tabIn (tgt := 88) hX dX11_piece_29 (by rw [c23]; decide) (by rw [c23]; decide) (by rw [c23]; rfl) (by decide) ?_
                refine v_aload hX dX11_piece_88 0 rfl ?_
                obtain ⟨a24, e_a24, h⟩ := h
                refine v_nn0 e_a24 ?_
                obtain ⟨k25, h⟩ := h
                refine v_getI hX dX11_piece_90 f_RX11_224 rfl k25 ?_
                exact v_iret hX hE dX11_piece_93 h
              · have h := h_E c23 h
                refine v_tabOut (tgt := 94) hX dX11_piece_29 (by have := h_ti c11 (n := 0) rfl; have := h_ti c14 (n := 1) rfl; have := h_ti c17 (n := 2) rfl; have := h_ti c20 (n := 3) rfl; have := h_ti c23 (n := 4) rfl; omega) (by decide) ?_
                refine v_bipush (v := -2) hX dX11_piece_94 (by decide) ?_
                exact v_iret hX hE dX11_piece_96 h
    · have h := h_T c10 h
      refine v_iconst (v := -1) hX dX11_piece_26 (by decide) ?_
      exact v_iret hX hE dX11_piece_27 h
  · have h := h_T c4 h
    refine v_iconst (v := -1) hX dX11_piece_8 (by decide) ?_
    exact v_iret hX hE dX11_piece_9 h
set_option maxRecDepth 100000 in
set_option maxHeartbeats 4000000 in
theorem m_X11_word {Z : h_Z} {o0 : Nat} {x1 : Int32} {x2 : Int32} {s : h_S} {Q : Int32 → h_S → Prop} (h : w_X11_word o0 x1 x2 s Q) : h_M Z yX11_word cX11_word 4 (some .int) 4 85 [pR (some o0), pI x1, pI x2] s 0 0 (h_QI Z Q) := by
  refine h_M.of (by decide) (Nat.le_of_ble_eq_true rfl) (fun X hZ hX hE hI => ?_)
  subst hZ
  unfold w_X11_word at h
  show h_V X 4 0 [(0, pR (some o0)), (1, pI x1), (2, pI x2)] [] s 0 0
  refine v_aload_n hX dX11_word_0 0 rfl rfl ?_
  obtain ⟨k1, h⟩ := h
  refine v_getR hX dX11_word_1 f_RX11_23 rfl k1 ?_
  refine v_iload_n hX dX11_word_4 1 rfl rfl ?_
  obtain ⟨a2, e_a2, h⟩ := h
  refine v_nn1 e_a2 ?_
  obtain ⟨k3, h⟩ := h
  refine v_callVr hX dX11_word_5 c_RX11_227 cV_X7_wordAt (ci := 8) (T := TX7) (N := 13) rfl (by exact k3) [pI _] rfl rfl (Nat.le_of_ble_eq_true rfl) (by decide) (by decide) (Nat.zero_le _) (Nat.zero_le _) (m_X7_wordAt h) (fun p5 s4 h => ?_)
  refine v_astore_n (lv' := [(3, _), (0, _), (1, _), (2, _)]) hX dX11_word_8 rfl (by decide) rfl ?_
  refine v_aload_n hX dX11_word_9 0 rfl rfl ?_
  refine v_ifnonnull (tgt := 15) hX dX11_word_10 (by decide) (fun c6 => ?_) (fun c6 => ?_)
  · have h := h_E c6 h
    refine v_iload_n hX dX11_word_15 3 rfl rfl ?_
    refine v_gen (fun q22 e_q22 => ?_)
    rw [← e_q22] at h
    by_cases c7 : q22 = (0 : Int32)
    · have h := h_T c7 h
      refine v_tabIn (tgt := 52) hX dX11_word_16 (by rw [c7]; decide) (by rw [c7]; decide) (by rw [c7]; rfl) (by decide) ?_
      refine v_aload_n hX dX11_word_52 0 rfl rfl ?_
      obtain ⟨a8, e_a8, h⟩ := h
      refine v_nn0 e_a8 ?_
      obtain ⟨k9, h⟩ := h
      refine v_getI hX dX11_word_53 f_RX11_231 rfl k9 ?_
      exact v_iret hX hE dX11_word_56 h
    · have h := h_E c7 h
      by_cases c10 : q22 = (1 : Int32)
      · have h := h_T c10 h
        refine v_tabIn (tgt := 57) hX dX11_word_16 (by rw [c10]; decide) (by rw [c10]; decide) (by rw [c10]; rfl) (by decide) ?_
        refine v_aload_n hX dX11_word_57 0 rfl rfl ?_
        obtain ⟨a11, e_a11, h⟩ := h
        refine v_nn0 e_a11 ?_
        obtain ⟨k12, h⟩ := h
        refine v_getI hX dX11_word_58 f_RX11_236 rfl k12 ?_
        exact v_iret hX hE dX11_word_61 h
      · have h := h_E c10 h
        by_cases c13 : q22 = (2 : Int32)
        · have h := h_T c13 h
          refine v_tabIn (tgt := 62) hX dX11_word_16 (by rw [c13]; decide) (by rw [c13]; decide) (by rw [c13]; rfl) (by decide) ?_
          refine v_aload_n hX dX11_word_62 0 rfl rfl ?_
          obtain ⟨a14, e_a14, h⟩ := h
          refine v_nn0 e_a14 ?_
          obtain ⟨k15, h⟩ := h
          refine v_getI hX dX11_word_63 f_RX11_239 rfl k15 ?_
          exact v_iret hX hE dX11_word_66 h
        · have h := h_E c13 h
          by_cases c16 : q22 = (3 : Int32)
          · have h := h_T c16 h
            refine v_tabIn (tgt := 67) hX dX11_word_16 (by rw [c16]; decide) (by rw [c16]; decide) (by rw [c16]; rfl) (by decide) ?_
            refine v_aload_n hX dX11_word_67 0 rfl rfl ?_
            obtain ⟨a17, e_a17, h⟩ := h
            refine v_nn0 e_a17 ?_
            obtain ⟨k18, h⟩ := h
            refine v_getI hX dX11_word_68 f_RX11_242 rfl k18 ?_
            exact v_iret hX hE dX11_word_71 h
          · have h := h_E c16 h
            by_cases c19 : q22 = (4 : Int32)
            · have h := h_T c19 h
              refine v_tabIn (tgt := 72) hX dX11_word_16 (by rw [c19]; decide) (by rw [c19]; decide) (by rw [c19]; rfl) (by decide) ?_
              refine v_aload_n hX dX11_word_72 0 rfl rfl ?_
              obtain ⟨a20, e_a20, h⟩ := h
              refine v_nn0 e_a20 ?_
              obtain ⟨k21, h⟩ := h
              refine v_getI hX dX11_word_73 f_RX11_243 rfl k21 ?_
              exact v_iret hX hE dX11_word_76 h
            · have h := h_E c19 h
              refine v_tabOut (tgt := 77) hX dX11_word_16 (by have := h_ti c7 (n := 0) rfl; have := h_ti c10 (n := 1) rfl; have := h_ti c13 (n := 2) rfl; have := h_ti c16 (n := 3) rfl; have := h_ti c19 (n := 4) rfl; omega) (by decide) ?_
              refine v_bipush (v := -2) hX dX11_word_77 (by decide) ?_
              exact v_iret hX hE dX11_word_79 h
  · have h := h_T c6 h
    refine v_iconst (v := -1) hX dX11_word_13 (by decide) ?_
    exact v_iret hX hE dX11_word_14 h
set_option maxRecDepth 100000 in
set_option maxHeartbeats 4000000 in
theorem b_X11_versionAt_29 {X : h_X} (hX : h_ok X cX11_versionAt 2 RX11 3 64) {Q : Option Nat → h_S → Prop} (hE : h_end X (some (.object "SeenWords$Version")) (h_QR (x_Z X) Q)) {t0 : Option Nat} (s : h_S) (h : w_X11_versionAt_29 Q t0 s) : h_V X 2 29 [] [pR t0] s 0 0 := by
  unfold w_X11_versionAt_29 at h
  exact v_aret hX hE (Or.inl ⟨_, rfl⟩) dX11_versionAt_29 h
set_option maxRecDepth 100000 in
set_option maxHeartbeats 4000000 in
theorem m_X11_versionAt {Z : h_Z} {o0 : Nat} {x1 : Int32} {s : h_S} {Q : Option Nat → h_S → Prop} (h : w_X11_versionAt o0 x1 s Q) : h_M Z yX11_versionAt cX11_versionAt 2 (some (.object "SeenWords$Version")) 3 64 [pR (some o0), pI x1] s 0 0 (h_QR Z Q) := by
  refine h_M.of (by decide) (Nat.le_of_ble_eq_true rfl) (fun X hZ hX hE hI => ?_)
  subst hZ
  unfold w_X11_versionAt at h
  show h_V X 2 0 [(0, pR (some o0)), (1, pI x1)] [] s 0 0
  refine v_iload_n hX dX11_versionAt_0 1 rfl rfl ?_
  refine v_aload_n hX dX11_versionAt_1 0 rfl rfl ?_
  obtain ⟨k1, h⟩ := h
  refine v_getR hX dX11_versionAt_2 f_RX11_30 rfl k1 ?_
  obtain ⟨a2, e_a2, h⟩ := h
  refine v_nn0 e_a2 ?_
  obtain ⟨k3, h⟩ := h
  refine v_callVi hX dX11_versionAt_5 c_RX11_246 cV_Jx4a65c_size_8abf5 (ci := 0) (T := TJx4a65c) (N := 3) rfl (by exact k3) [] rfl rfl (Nat.le_of_ble_eq_true rfl) (by decide) (by decide) (Nat.zero_le _) (Nat.zero_le _) (m_Jx4a65c_size_8abf5 h) (fun p5 s4 h => ?_)
  refine v_callSi hX dX11_versionAt_8 c_RX11_80 cS_X11_within [pI _, pI _] rfl rfl (Nat.le_of_ble_eq_true rfl) (by decide) (by decide) (Nat.zero_le _) (Nat.zero_le _) (m_X11_within h) (fun p7 s6 h => ?_)
  refine v_if_eq (tgt := 28) hX dX11_versionAt_11 (by decide) (fun c8 => ?_) (fun c8 => ?_)
  · have h := h_T c8 h
    refine v_null hX dX11_versionAt_28 ?_
    refine v_pick [] rfl ?_
    exact b_X11_versionAt_29 hX hE _ h
  · have h := h_E c8 h
    refine v_aload_n hX dX11_versionAt_14 0 rfl rfl ?_
    obtain ⟨k9, h⟩ := h
    refine v_getR hX dX11_versionAt_15 f_RX11_30 rfl k9 ?_
    refine v_iload_n hX dX11_versionAt_18 1 rfl rfl ?_
    obtain ⟨a10, e_a10, h⟩ := h
    refine v_nn1 e_a10 ?_
    obtain ⟨k11, h⟩ := h
    refine v_callVr hX dX11_versionAt_19 c_RX11_314 cV_Jx4a65c_get_915e3 (ci := 0) (T := TJx4a65c) (N := 3) rfl (by exact k11) [pI _] rfl rfl (Nat.le_of_ble_eq_true rfl) (by decide) (by decide) (Nat.zero_le _) (Nat.zero_le _) (m_Jx4a65c_get_915e3 h) (fun p13 s12 h => ?_)
    obtain ⟨b14, h⟩ := h
    refine v_cast (ci := 9) hX dX11_versionAt_22 kl_RX11_248 rfl b14 ?_
    refine v_goto (tgt := 29) hX dX11_versionAt_25 (by decide) ?_
    refine v_pick [] rfl ?_
    exact b_X11_versionAt_29 hX hE _ h
set_option maxRecDepth 100000 in
set_option maxHeartbeats 4000000 in
theorem m_X11_give {Z : h_Z} {o0 : Nat} {x1 : Int32} {s : h_S} {Q : Int32 → h_S → Prop} (h : w_X11_give o0 x1 s Q) : h_M Z yX11_give cX11_give 3 (some .int) 4 85 [pR (some o0), pI x1] s 0 0 (h_QI Z Q) := by
  refine h_M.of (by decide) (Nat.le_of_ble_eq_true rfl) (fun X hZ hX hE hI => ?_)
  subst hZ
  unfold w_X11_give at h
  show h_V X 3 0 [(0, pR (some o0)), (1, pI x1)] [] s 0 0
  refine v_aload_n hX dX11_give_0 0 rfl rfl ?_
  refine v_iload_n hX dX11_give_1 1 rfl rfl ?_
  obtain ⟨k1, h⟩ := h
  refine v_callVr hX dX11_give_2 c_RX11_263 cV_X11_versionAt (ci := 12) (T := TX11) (N := 19) rfl (by exact k1) [pI _] rfl rfl (Nat.le_of_ble_eq_true rfl) (by decide) (by decide) (Nat.zero_le _) (Nat.zero_le _) (m_X11_versionAt h) (fun p3 s2 h => ?_)
  refine v_astore_n (lv' := [(2, _), (0, _), (1, _)]) hX dX11_give_5 rfl (by decide) rfl ?_
  refine v_aload_n hX dX11_give_6 0 rfl rfl ?_
  refine v_ifnonnull (tgt := 12) hX dX11_give_7 (by decide) (fun c4 => ?_) (fun c4 => ?_)
  · have h := h_E c4 h
    refine v_aload_n hX dX11_give_12 0 rfl rfl ?_
    obtain ⟨a5, e_a5, h⟩ := h
    refine v_nn0 e_a5 ?_
    obtain ⟨k6, h⟩ := h
    refine v_callVi hX dX11_give_13 c_RX11_267 cV_X8_kind (ci := 9) (T := TX8) (N := 5) rfl (by exact k6) [] rfl rfl (Nat.le_of_ble_eq_true rfl) (by decide) (by decide) (Nat.zero_le _) (Nat.zero_le _) (m_X8_kind h) (fun p8 s7 h => ?_)
    refine v_if_eq (tgt := 22) hX dX11_give_16 (by decide) (fun c9 => ?_) (fun c9 => ?_)
    · have h := h_T c9 h
      refine v_aload_n hX dX11_give_22 0 rfl rfl ?_
      refine v_aload_n hX dX11_give_23 1 rfl rfl ?_
      obtain ⟨k10, h⟩ := h
      refine v_getI hX dX11_give_24 f_RX11_84 rfl k10 ?_
      refine v_iconst (v := 1) hX dX11_give_27 (by decide) ?_
      refine v_iadd hX dX11_give_28 ?_
      obtain ⟨a11, e_a11, h⟩ := h
      refine v_nn1 e_a11 ?_
      obtain ⟨k12, h⟩ := h
      refine v_putI hX dX11_give_29 f_RX11_269 k12 ?_
      refine v_aload_n hX dX11_give_32 1 rfl rfl ?_
      refine v_aload_n hX dX11_give_33 0 rfl rfl ?_
      obtain ⟨a14, e_a14, h⟩ := h
      refine v_nn0 e_a14 ?_
      obtain ⟨k15, h⟩ := h
      refine v_getR hX dX11_give_34 f_RX11_272 rfl k15 ?_
      obtain ⟨a16, e_a16, h⟩ := h
      refine v_nn0 e_a16 ?_
      obtain ⟨k17, h⟩ := h
      refine v_alenK hX dX11_give_37 (k := 1) rfl (by decide) (by decide) k17 ?_
      refine v_callVi hX dX11_give_38 c_RX11_76 cV_X11_acted (ci := 12) (T := TX11) (N := 19) rfl (by exact k10) [pI _] rfl rfl (Nat.le_of_ble_eq_true rfl) (by decide) (by decide) (Nat.zero_le _) (Nat.zero_le _) (m_X11_acted h) (fun p19 s18 h => ?_)
      exact v_iret hX hE dX11_give_41 h
    · have h := h_E c9 h
      refine v_bipush (v := -3) hX dX11_give_19 (by decide) ?_
      exact v_iret hX hE dX11_give_21 h
  · have h := h_T c4 h
    refine v_iconst (v := -1) hX dX11_give_10 (by decide) ?_
    exact v_iret hX hE dX11_give_11 h
set_option maxRecDepth 100000 in
set_option maxHeartbeats 4000000 in
theorem m_X11_back {Z : h_Z} {o0 : Nat} {x1 : Int32} {s : h_S} {Q : Int32 → h_S → Prop} (h : w_X11_back o0 x1 s Q) : h_M Z yX11_back cX11_back 3 (some .int) 4 85 [pR (some o0), pI x1] s 0 0 (h_QI Z Q) := by
  refine h_M.of (by decide) (Nat.le_of_ble_eq_true rfl) (fun X hZ hX hE hI => ?_)
  subst hZ
  unfold w_X11_back at h
  show h_V X 3 0 [(0, pR (some o0)), (1, pI x1)] [] s 0 0
  refine v_aload_n hX dX11_back_0 0 rfl rfl ?_
  refine v_iload_n hX dX11_back_1 1 rfl rfl ?_
  obtain ⟨k1, h⟩ := h
  refine v_callVr hX dX11_back_2 c_RX11_263 cV_X11_versionAt (ci := 12) (T := TX11) (N := 19) rfl (by exact k1) [pI _] rfl rfl (Nat.le_of_ble_eq_true rfl) (by decide) (by decide) (Nat.zero_le _) (Nat.zero_le _) (m_X11_versionAt h) (fun p3 s2 h => ?_)
  refine v_astore_n (lv' := [(2, _), (0, _), (1, _)]) hX dX11_back_5 rfl (by decide) rfl ?_
  refine v_aload_n hX dX11_back_6 0 rfl rfl ?_
  refine v_ifnonnull (tgt := 12) hX dX11_back_7 (by decide) (fun c4 => ?_) (fun c4 => ?_)
  · have h := h_E c4 h
    refine v_aload_n hX dX11_back_12 0 rfl rfl ?_
    obtain ⟨a5, e_a5, h⟩ := h
    refine v_nn0 e_a5 ?_
    obtain ⟨k6, h⟩ := h
    refine v_callVi hX dX11_back_13 c_RX11_267 cV_X8_kind (ci := 9) (T := TX8) (N := 5) rfl (by exact k6) [] rfl rfl (Nat.le_of_ble_eq_true rfl) (by decide) (by decide) (Nat.zero_le _) (Nat.zero_le _) (m_X8_kind h) (fun p8 s7 h => ?_)
    refine v_iconst (v := 1) hX dX11_back_16 (by decide) ?_
    refine v_icmp_eq (tgt := 23) hX dX11_back_17 (by decide) (fun c9 => ?_) (fun c9 => ?_)
    · have h := h_T c9 h
      refine v_aload_n hX dX11_back_23 0 rfl rfl ?_
      refine v_aload_n hX dX11_back_24 1 rfl rfl ?_
      obtain ⟨k10, h⟩ := h
      refine v_getI hX dX11_back_25 f_RX11_84 rfl k10 ?_
      refine v_iconst (v := 1) hX dX11_back_28 (by decide) ?_
      refine v_iadd hX dX11_back_29 ?_
      obtain ⟨a11, e_a11, h⟩ := h
      refine v_nn1 e_a11 ?_
      obtain ⟨k12, h⟩ := h
      refine v_putI hX dX11_back_30 f_RX11_273 k12 ?_
      refine v_aload_n hX dX11_back_33 1 rfl rfl ?_
      refine v_aload_n hX dX11_back_34 0 rfl rfl ?_
      obtain ⟨a14, e_a14, h⟩ := h
      refine v_nn0 e_a14 ?_
      obtain ⟨k15, h⟩ := h
      refine v_getR hX dX11_back_35 f_RX11_272 rfl k15 ?_
      obtain ⟨a16, e_a16, h⟩ := h
      refine v_nn0 e_a16 ?_
      obtain ⟨k17, h⟩ := h
      refine v_alenK hX dX11_back_38 (k := 1) rfl (by decide) (by decide) k17 ?_
      refine v_callVi hX dX11_back_39 c_RX11_76 cV_X11_acted (ci := 12) (T := TX11) (N := 19) rfl (by exact k10) [pI _] rfl rfl (Nat.le_of_ble_eq_true rfl) (by decide) (by decide) (Nat.zero_le _) (Nat.zero_le _) (m_X11_acted h) (fun p19 s18 h => ?_)
      exact v_iret hX hE dX11_back_42 h
    · have h := h_E c9 h
      refine v_bipush (v := -3) hX dX11_back_20 (by decide) ?_
      exact v_iret hX hE dX11_back_22 h
  · have h := h_T c4 h
    refine v_iconst (v := -1) hX dX11_back_10 (by decide) ?_
    exact v_iret hX hE dX11_back_11 h
set_option maxRecDepth 100000 in
set_option maxHeartbeats 4000000 in
theorem m_X11_about {Z : h_Z} {o0 : Nat} {x1 : Int32} {x2 : Int32} {s : h_S} {Q : Int32 → h_S → Prop} (h : w_X11_about o0 x1 x2 s Q) : h_M Z yX11_about cX11_about 4 (some .int) 4 85 [pR (some o0), pI x1, pI x2] s 0 0 (h_QI Z Q) := by
  refine h_M.of (by decide) (Nat.le_of_ble_eq_true rfl) (fun X hZ hX hE hI => ?_)
  subst hZ
  unfold w_X11_about at h
  show h_V X 4 0 [(0, pR (some o0)), (1, pI x1), (2, pI x2)] [] s 0 0
  refine v_aload_n hX dX11_about_0 0 rfl rfl ?_
  refine v_iload_n hX dX11_about_1 1 rfl rfl ?_
  obtain ⟨k1, h⟩ := h
  refine v_callVr hX dX11_about_2 c_RX11_263 cV_X11_versionAt (ci := 12) (T := TX11) (N := 19) rfl (by exact k1) [pI _] rfl rfl (Nat.le_of_ble_eq_true rfl) (by decide) (by decide) (Nat.zero_le _) (Nat.zero_le _) (m_X11_versionAt h) (fun p3 s2 h => ?_)
  refine v_astore_n (lv' := [(3, _), (0, _), (1, _), (2, _)]) hX dX11_about_5 rfl (by decide) rfl ?_
  refine v_aload_n hX dX11_about_6 0 rfl rfl ?_
  refine v_ifnonnull (tgt := 12) hX dX11_about_7 (by decide) (fun c4 => ?_) (fun c4 => ?_)
  · have h := h_E c4 h
    refine v_iload_n hX dX11_about_12 3 rfl rfl ?_
    refine v_gen (fun q26 e_q26 => ?_)
    rw [← e_q26] at h
    by_cases c5 : q26 = (0 : Int32)
    · have h := h_T c5 h
      refine v_tabIn (tgt := 48) hX dX11_about_13 (by rw [c5]; decide) (by rw [c5]; decide) (by rw [c5]; rfl) (by decide) ?_
      refine v_aload_n hX dX11_about_48 0 rfl rfl ?_
      obtain ⟨a6, e_a6, h⟩ := h
      refine v_nn0 e_a6 ?_
      obtain ⟨k7, h⟩ := h
      refine v_callVi hX dX11_about_49 c_RX11_267 cV_X8_kind (ci := 9) (T := TX8) (N := 5) rfl (by exact k7) [] rfl rfl (Nat.le_of_ble_eq_true rfl) (by decide) (by decide) (Nat.zero_le _) (Nat.zero_le _) (m_X8_kind h) (fun p9 s8 h => ?_)
      exact v_iret hX hE dX11_about_52 h
    · have h := h_E c5 h
      by_cases c10 : q26 = (1 : Int32)
      · have h := h_T c10 h
        refine v_tabIn (tgt := 53) hX dX11_about_13 (by rw [c10]; decide) (by rw [c10]; decide) (by rw [c10]; rfl) (by decide) ?_
        refine v_aload_n hX dX11_about_53 0 rfl rfl ?_
        obtain ⟨a11, e_a11, h⟩ := h
        refine v_nn0 e_a11 ?_
        obtain ⟨k12, h⟩ := h
        refine v_getI hX dX11_about_54 f_RX11_276 rfl k12 ?_
        exact v_iret hX hE dX11_about_57 h
      · have h := h_E c10 h
        by_cases c13 : q26 = (2 : Int32)
        · have h := h_T c13 h
          refine v_tabIn (tgt := 58) hX dX11_about_13 (by rw [c13]; decide) (by rw [c13]; decide) (by rw [c13]; rfl) (by decide) ?_
          refine v_aload_n hX dX11_about_58 0 rfl rfl ?_
          obtain ⟨a14, e_a14, h⟩ := h
          refine v_nn0 e_a14 ?_
          obtain ⟨k15, h⟩ := h
          refine v_getI hX dX11_about_59 f_RX11_279 rfl k15 ?_
          exact v_iret hX hE dX11_about_62 h
        · have h := h_E c13 h
          by_cases c16 : q26 = (3 : Int32)
          · have h := h_T c16 h
            refine v_tabIn (tgt := 63) hX dX11_about_13 (by rw [c16]; decide) (by rw [c16]; decide) (by rw [c16]; rfl) (by decide) ?_
            refine v_aload_n hX dX11_about_63 0 rfl rfl ?_
            obtain ⟨a17, e_a17, h⟩ := h
            refine v_nn0 e_a17 ?_
            obtain ⟨k18, h⟩ := h
            refine v_getR hX dX11_about_64 f_RX11_272 rfl k18 ?_
            obtain ⟨a19, e_a19, h⟩ := h
            refine v_nn0 e_a19 ?_
            obtain ⟨k20, h⟩ := h
            refine v_alenK hX dX11_about_67 (k := 1) rfl (by decide) (by decide) k20 ?_
            exact v_iret hX hE dX11_about_68 h
          · have h := h_E c16 h
            by_cases c21 : q26 = (4 : Int32)
            · have h := h_T c21 h
              refine v_tabIn (tgt := 69) hX dX11_about_13 (by rw [c21]; decide) (by rw [c21]; decide) (by rw [c21]; rfl) (by decide) ?_
              refine v_aload_n hX dX11_about_69 0 rfl rfl ?_
              obtain ⟨a22, e_a22, h⟩ := h
              refine v_nn0 e_a22 ?_
              obtain ⟨k23, h⟩ := h
              refine v_callVi hX dX11_about_70 c_RX11_280 cV_X8_gaps (ci := 9) (T := TX8) (N := 5) rfl (by exact k23) [] rfl rfl (Nat.le_of_ble_eq_true rfl) (by decide) (by decide) (Nat.zero_le _) (Nat.zero_le _) (m_X8_gaps h) (fun p25 s24 h => ?_)
              exact v_iret hX hE dX11_about_73 h
            · have h := h_E c21 h
              refine v_tabOut (tgt := 74) hX dX11_about_13 (by have := h_ti c5 (n := 0) rfl; have := h_ti c10 (n := 1) rfl; have := h_ti c13 (n := 2) rfl; have := h_ti c16 (n := 3) rfl; have := h_ti c21 (n := 4) rfl; omega) (by decide) ?_
              refine v_bipush (v := -2) hX dX11_about_74 (by decide) ?_
              exact v_iret hX hE dX11_about_76 h
  · have h := h_T c4 h
    refine v_iconst (v := -1) hX dX11_about_10 (by decide) ?_
    exact v_iret hX hE dX11_about_11 h
set_option maxRecDepth 100000 in
set_option maxHeartbeats 4000000 in
theorem b_X11_at_22 {X : h_X} (hX : h_ok X cX11_at 4 RX11 4 85) {Q : Int32 → h_S → Prop} (hE : h_end X (some .int) (h_QI (x_Z X) Q)) (s : h_S) (h : w_X11_at_22 Q s) : h_V X 4 22 [] [] s 0 0 := by
  unfold w_X11_at_22 at h
  refine v_iconst (v := -1) hX dX11_at_22 (by decide) ?_
  exact v_iret hX hE dX11_at_23 h
set_option maxRecDepth 100000 in
set_option maxHeartbeats 4000000 in
theorem m_X11_at {Z : h_Z} {o0 : Nat} {x1 : Int32} {x2 : Int32} {s : h_S} {Q : Int32 → h_S → Prop} (h : w_X11_at o0 x1 x2 s Q) : h_M Z yX11_at cX11_at 4 (some .int) 4 85 [pR (some o0), pI x1, pI x2] s 0 0 (h_QI Z Q) := by
  refine h_M.of (by decide) (Nat.le_of_ble_eq_true rfl) (fun X hZ hX hE hI => ?_)
  subst hZ
  unfold w_X11_at at h
  show h_V X 4 0 [(0, pR (some o0)), (1, pI x1), (2, pI x2)] [] s 0 0
  refine v_aload_n hX dX11_at_0 0 rfl rfl ?_
  refine v_iload_n hX dX11_at_1 1 rfl rfl ?_
  obtain ⟨k1, h⟩ := h
  refine v_callVr hX dX11_at_2 c_RX11_263 cV_X11_versionAt (ci := 12) (T := TX11) (N := 19) rfl (by exact k1) [pI _] rfl rfl (Nat.le_of_ble_eq_true rfl) (by decide) (by decide) (Nat.zero_le _) (Nat.zero_le _) (m_X11_versionAt h) (fun p3 s2 h => ?_)
  refine v_astore_n (lv' := [(3, _), (0, _), (1, _), (2, _)]) hX dX11_at_5 rfl (by decide) rfl ?_
  refine v_aload_n hX dX11_at_6 0 rfl rfl ?_
  refine v_ifnull (tgt := 22) hX dX11_at_7 (by decide) (fun c4 => ?_) (fun c4 => ?_)
  · have h := h_T c4 h
    refine v_pick [] rfl ?_
    exact b_X11_at_22 hX hE _ h
  · have h := h_E c4 h
    refine v_iload_n hX dX11_at_10 3 rfl rfl ?_
    refine v_aload_n hX dX11_at_11 0 rfl rfl ?_
    obtain ⟨a5, e_a5, h⟩ := h
    refine v_nn0 e_a5 ?_
    obtain ⟨k6, h⟩ := h
    refine v_getR hX dX11_at_12 f_RX11_272 rfl k6 ?_
    obtain ⟨a7, e_a7, h⟩ := h
    refine v_nn0 e_a7 ?_
    obtain ⟨k8, h⟩ := h
    refine v_alenK hX dX11_at_15 (k := 1) rfl (by decide) (by decide) k8 ?_
    refine v_callSi hX dX11_at_16 c_RX11_80 cS_X11_within [pI _, pI _] rfl rfl (Nat.le_of_ble_eq_true rfl) (by decide) (by decide) (Nat.zero_le _) (Nat.zero_le _) (m_X11_within h) (fun p10 s9 h => ?_)
    refine v_if_ne (tgt := 24) hX dX11_at_19 (by decide) (fun c11 => ?_) (fun c11 => ?_)
    · have h := h_E c11 h
      refine v_aload_n hX dX11_at_24 0 rfl rfl ?_
      obtain ⟨a12, e_a12, h⟩ := h
      refine v_nn0 e_a12 ?_
      obtain ⟨k13, h⟩ := h
      refine v_getR hX dX11_at_25 f_RX11_272 rfl k13 ?_
      refine v_iload_n hX dX11_at_28 3 rfl rfl ?_
      obtain ⟨a14, e_a14, h⟩ := h
      refine v_nn1 e_a14 ?_
      obtain ⟨k15, h⟩ := h
      obtain ⟨i16, h⟩ := h
      refine v_iald hX dX11_at_29 k15 i16 ?_
      exact v_iret hX hE dX11_at_30 h
    · have h := h_T c11 h
      refine v_pick [] rfl ?_
      exact b_X11_at_22 hX hE _ h
set_option maxRecDepth 100000 in
set_option maxHeartbeats 4000000 in
theorem b_X11_compare_24 {X : h_X} (hX : h_ok X cX11_compare 7 RX11 4 85) {Q : Int32 → h_S → Prop} (hE : h_end X (some .int) (h_QI (x_Z X) Q)) (s : h_S) (h : w_X11_compare_24 Q s) : h_V X 7 24 [] [] s 0 0 := by
  unfold w_X11_compare_24 at h
  refine v_iconst (v := -1) hX dX11_compare_24 (by decide) ?_
  exact v_iret hX hE dX11_compare_25 h
set_option maxRecDepth 100000 in
set_option maxHeartbeats 4000000 in
theorem m_X11_compare {Z : h_Z} {o0 : Nat} {x1 : Int32} {x2 : Int32} {x3 : Int32} {s : h_S} {Q : Int32 → h_S → Prop} (h : w_X11_compare o0 x1 x2 x3 s Q) : h_M Z yX11_compare cX11_compare 7 (some .int) 4 85 [pR (some o0), pI x1, pI x2, pI x3] s 0 0 (h_QI Z Q) := by
  refine h_M.of (by decide) (Nat.le_of_ble_eq_true rfl) (fun X hZ hX hE hI => ?_)
  subst hZ
  unfold w_X11_compare at h
  show h_V X 7 0 [(0, pR (some o0)), (1, pI x1), (2, pI x2), (3, pI x3)] [] s 0 0
  refine v_aload_n hX dX11_compare_0 0 rfl rfl ?_
  refine v_iload_n hX dX11_compare_1 1 rfl rfl ?_
  obtain ⟨k1, h⟩ := h
  refine v_callVr hX dX11_compare_2 c_RX11_263 cV_X11_versionAt (ci := 12) (T := TX11) (N := 19) rfl (by exact k1) [pI _] rfl rfl (Nat.le_of_ble_eq_true rfl) (by decide) (by decide) (Nat.zero_le _) (Nat.zero_le _) (m_X11_versionAt h) (fun p3 s2 h => ?_)
  refine v_astore (lv' := [(4, _), (0, _), (1, _), (2, _), (3, _)]) hX dX11_compare_5 (by decide) rfl ?_
  refine v_aload_n hX dX11_compare_7 1 rfl rfl ?_
  refine v_iload_n hX dX11_compare_8 3 rfl rfl ?_
  obtain ⟨k4, h⟩ := h
  refine v_callVr hX dX11_compare_9 c_RX11_263 cV_X11_versionAt (ci := 12) (T := TX11) (N := 19) rfl (by exact k4) [pI _] rfl rfl (Nat.le_of_ble_eq_true rfl) (by decide) (by decide) (Nat.zero_le _) (Nat.zero_le _) (m_X11_versionAt h) (fun p6 s5 h => ?_)
  refine v_astore (lv' := [(5, _), (4, _), (0, _), (1, _), (2, _), (3, _)]) hX dX11_compare_12 (by decide) rfl ?_
  refine v_aload hX dX11_compare_14 1 rfl ?_
  refine v_ifnull (tgt := 24) hX dX11_compare_16 (by decide) (fun c7 => ?_) (fun c7 => ?_)
  · have h := h_T c7 h
    refine v_pick [] rfl ?_
    exact b_X11_compare_24 hX hE _ h
  · have h := h_E c7 h
    refine v_aload hX dX11_compare_19 0 rfl ?_
    refine v_ifnonnull (tgt := 26) hX dX11_compare_21 (by decide) (fun c8 => ?_) (fun c8 => ?_)
    · have h := h_E c8 h
      refine v_iload_n hX dX11_compare_26 5 rfl rfl ?_
      refine v_iconst (v := 4) hX dX11_compare_27 (by decide) ?_
      refine v_callSi hX dX11_compare_28 c_RX11_80 cS_X11_within [pI _, pI _] rfl rfl (Nat.le_of_ble_eq_true rfl) (by decide) (by decide) (Nat.zero_le _) (Nat.zero_le _) (m_X11_within h) (fun p10 s9 h => ?_)
      refine v_if_ne (tgt := 37) hX dX11_compare_31 (by decide) (fun c11 => ?_) (fun c11 => ?_)
      · have h := h_E c11 h
        refine v_aload_n hX dX11_compare_37 2 rfl rfl ?_
        obtain ⟨k12, h⟩ := h
        refine v_getR hX dX11_compare_38 f_RX11_52 rfl k12 ?_
        refine v_aload hX dX11_compare_41 1 rfl ?_
        obtain ⟨a13, e_a13, h⟩ := h
        refine v_nn0 e_a13 ?_
        obtain ⟨k14, h⟩ := h
        refine v_getR hX dX11_compare_43 f_RX11_272 rfl k14 ?_
        refine v_aload hX dX11_compare_46 0 rfl ?_
        obtain ⟨a15, e_a15, h⟩ := h
        refine v_nn0 e_a15 ?_
        obtain ⟨k16, h⟩ := h
        refine v_getR hX dX11_compare_48 f_RX11_272 rfl k16 ?_
        obtain ⟨a17, e_a17, h⟩ := h
        refine v_nn2 e_a17 ?_
        obtain ⟨k18, h⟩ := h
        refine v_callVi hX dX11_compare_51 c_RX11_283 cV_X9_sharedBy (ci := 10) (T := TX9) (N := 16) rfl (by exact k18) [pR _, pR _] rfl rfl (Nat.le_of_ble_eq_true rfl) (by decide) (by decide) (Nat.zero_le _) (Nat.zero_le _) (m_X9_sharedBy h) (fun p20 s19 h => ?_)
        refine v_istore (lv' := [(6, _), (5, _), (4, _), (0, _), (1, _), (2, _), (3, _)]) hX dX11_compare_54 (by decide) rfl ?_
        refine v_iload_n hX dX11_compare_56 6 rfl rfl ?_
        refine v_gen (fun q41 e_q41 => ?_)
        rw [← e_q41] at h
        by_cases c21 : q41 = (1 : Int32)
        · have h := h_T c21 h
          refine v_tabIn (tgt := 84) hX dX11_compare_57 (by rw [c21]; decide) (by rw [c21]; decide) (by rw [c21]; rfl) (by decide) ?_
          refine v_aload hX dX11_compare_84 2 rfl ?_
          obtain ⟨a22, e_a22, h⟩ := h
          refine v_nn0 e_a22 ?_
          obtain ⟨k23, h⟩ := h
          refine v_getR hX dX11_compare_86 f_RX11_272 rfl k23 ?_
          obtain ⟨a24, e_a24, h⟩ := h
          refine v_nn0 e_a24 ?_
          obtain ⟨k25, h⟩ := h
          refine v_alenK hX dX11_compare_89 (k := 1) rfl (by decide) (by decide) k25 ?_
          refine v_iload hX dX11_compare_90 0 rfl ?_
          refine v_isub hX dX11_compare_92 ?_
          exact v_iret hX hE dX11_compare_93 h
        · have h := h_E c21 h
          by_cases c26 : q41 = (2 : Int32)
          · have h := h_T c26 h
            refine v_tabIn (tgt := 94) hX dX11_compare_57 (by rw [c26]; decide) (by rw [c26]; decide) (by rw [c26]; rfl) (by decide) ?_
            refine v_aload hX dX11_compare_94 1 rfl ?_
            obtain ⟨a27, e_a27, h⟩ := h
            refine v_nn0 e_a27 ?_
            obtain ⟨k28, h⟩ := h
            refine v_getR hX dX11_compare_96 f_RX11_272 rfl k28 ?_
            obtain ⟨a29, e_a29, h⟩ := h
            refine v_nn0 e_a29 ?_
            obtain ⟨k30, h⟩ := h
            refine v_alenK hX dX11_compare_99 (k := 1) rfl (by decide) (by decide) k30 ?_
            refine v_iload hX dX11_compare_100 0 rfl ?_
            refine v_isub hX dX11_compare_102 ?_
            exact v_iret hX hE dX11_compare_103 h
          · have h := h_E c26 h
            by_cases c31 : q41 = (3 : Int32)
            · have h := h_T c31 h
              refine v_tabIn (tgt := 104) hX dX11_compare_57 (by rw [c31]; decide) (by rw [c31]; decide) (by rw [c31]; rfl) (by decide) ?_
              refine v_aload_n hX dX11_compare_104 3 rfl rfl ?_
              obtain ⟨k32, h⟩ := h
              refine v_getR hX dX11_compare_105 f_RX11_52 rfl k32 ?_
              refine v_aload hX dX11_compare_108 2 rfl ?_
              obtain ⟨a33, e_a33, h⟩ := h
              refine v_nn0 e_a33 ?_
              obtain ⟨k34, h⟩ := h
              refine v_getR hX dX11_compare_110 f_RX11_272 rfl k34 ?_
              refine v_aload hX dX11_compare_113 1 rfl ?_
              obtain ⟨a35, e_a35, h⟩ := h
              refine v_nn0 e_a35 ?_
              obtain ⟨k36, h⟩ := h
              refine v_getR hX dX11_compare_115 f_RX11_272 rfl k36 ?_
              obtain ⟨a37, e_a37, h⟩ := h
              refine v_nn2 e_a37 ?_
              obtain ⟨k38, h⟩ := h
              refine v_callVi hX dX11_compare_118 c_RX11_287 cV_X9_commonTo (ci := 10) (T := TX9) (N := 16) rfl (by exact k38) [pR _, pR _] rfl rfl (Nat.le_of_ble_eq_true rfl) (by decide) (by decide) (Nat.zero_le _) (Nat.zero_le _) (m_X9_commonTo h) (fun p40 s39 h => ?_)
              refine v_iload hX dX11_compare_121 0 rfl ?_
              refine v_isub hX dX11_compare_123 ?_
              exact v_iret hX hE dX11_compare_124 h
            · have h := h_E c31 h
              refine v_tabOut (tgt := 125) hX dX11_compare_57 (by have := h_ti c21 (n := 1) rfl; have := h_ti c26 (n := 2) rfl; have := h_ti c31 (n := 3) rfl; omega) (by decide) ?_
              refine v_iload hX dX11_compare_125 0 rfl ?_
              exact v_iret hX hE dX11_compare_127 h
      · have h := h_T c11 h
        refine v_bipush (v := -2) hX dX11_compare_34 (by decide) ?_
        exact v_iret hX hE dX11_compare_36 h
    · have h := h_T c8 h
      refine v_pick [] rfl ?_
      exact b_X11_compare_24 hX hE _ h
set_option maxRecDepth 100000 in
set_option maxHeartbeats 4000000 in
theorem b_X11_join_36 {X : h_X} (hX : h_ok X cX11_join 9 RX11 7 191) {Q : Int32 → h_S → Prop} (hE : h_end X (some .int) (h_QI (x_Z X) Q)) (s : h_S) {bc bs : Nat} (h : w_X11_join_36 (x_G X) Q s bc bs) : h_V X 9 36 [] [] s bc bs := by
  unfold w_X11_join_36 at h
  refine v_iconst (v := -1) hX dX11_join_36 (by decide) ?_
  exact v_iret hX hE dX11_join_37 h
set_option maxRecDepth 100000 in
set_option maxHeartbeats 4000000 in
theorem b_X11_join_105 {X : h_X} (hX : h_ok X cX11_join 9 RX11 7 191) {Q : Int32 → h_S → Prop} (hE : h_end X (some .int) (h_QI (x_Z X) Q)) (s : h_S) {bc bs : Nat} (h : w_X11_join_105 (x_G X) Q s bc bs) : h_V X 9 105 [] [] s bc bs := by
  unfold w_X11_join_105 at h
  refine v_bipush (v := -4) hX dX11_join_105 (by decide) ?_
  exact v_iret hX hE dX11_join_107 h
set_option maxRecDepth 100000 in
set_option maxHeartbeats 4000000 in
theorem b_X11_join_175 {X : h_X} (hX : h_ok X cX11_join 9 RX11 7 191) {Q : Int32 → h_S → Prop} (hE : h_end X (some .int) (h_QI (x_Z X) Q)) : ∀ (n : Nat) (o0 : Nat) (x7 : Int32) (x8 : Int32) (s : h_S) (bc bs : Nat), w_X11_join_175 (x_G X) Q n o0 x7 x8 s bc bs → h_V X 9 175 [(0, pR (some o0)), (7, pI x7), (8, pI x8)] [] s bc bs := by
  intro n
  induction n with
  | zero => intro _ _ _ s bc bs h; exact h.elim
  | succ n hK175 =>
    intro o0 x7 x8 s bc bs h
    have h : w_X11_join_175b (x_G X) Q (w_X11_join_175 (x_G X) Q n) o0 x7 x8 s bc bs := h
    unfold w_X11_join_175b at h
    refine v_iload hX dX11_join_175 2 rfl ?_
    refine v_aload_n hX dX11_join_177 0 rfl rfl ?_
    obtain ⟨k1, h⟩ := h
    refine v_getR hX dX11_join_178 f_RX11_52 rfl k1 ?_
    obtain ⟨a2, e_a2, h⟩ := h
    refine v_nn0 e_a2 ?_
    obtain ⟨k3, h⟩ := h
    refine v_getI hX dX11_join_181 f_RX11_297 rfl k3 ?_
    refine v_icmp_ge (tgt := 212) hX dX11_join_184 (by decide) (fun c4 => ?_) (fun c4 => ?_)
    · have h := h_T c4 h
      refine v_aload_n hX dX11_join_212 0 rfl rfl ?_
      refine v_iload hX dX11_join_213 1 rfl ?_
      refine v_callVi hX dX11_join_215 c_RX11_76 cV_X11_acted (ci := 12) (T := TX11) (N := 19) rfl (by exact k1) [pI _] rfl rfl (Nat.le_of_ble_eq_true rfl) (by decide) (by decide) (Nat.zero_le _) (Nat.zero_le _) (m_X11_acted h) (fun p6 s5 h => ?_)
      exact v_iret hX hE dX11_join_218 h
    · have h := h_E c4 h
      refine v_aload_n hX dX11_join_187 0 rfl rfl ?_
      refine v_getR hX dX11_join_188 f_RX11_34 rfl k1 ?_
      refine v_aload_n hX dX11_join_191 0 rfl rfl ?_
      refine v_getR hX dX11_join_192 f_RX11_52 rfl k1 ?_
      refine v_iload hX dX11_join_195 2 rfl ?_
      refine v_iload hX dX11_join_197 1 rfl ?_
      obtain ⟨a7, e_a7, h⟩ := h
      refine v_nn2 e_a7 ?_
      obtain ⟨k8, h⟩ := h
      obtain ⟨mc11, ms12, b13, b14, h⟩ := h
      refine v_callVr hX dX11_join_199 c_RX11_310 cV_X9_clashAt (ci := 10) (T := TX9) (N := 16) rfl (by exact k8) [pI _, pI _] rfl rfl (Nat.le_of_ble_eq_true rfl) (by decide) (by decide) b13 b14 (m_X9_clashAt h) (fun p10 s9 h => ?_)
      obtain ⟨a15, e_a15, h⟩ := h
      refine v_nn1 e_a15 ?_
      obtain ⟨k16, h⟩ := h
      obtain ⟨mc19, ms20, b21, b22, h⟩ := h
      refine v_callVi hX dX11_join_202 c_RX11_259 cV_Jx4a65c_add_9ea2d (ci := 0) (T := TJx4a65c) (N := 3) rfl (by exact k16) [pR _] rfl rfl (Nat.le_of_ble_eq_true rfl) (by decide) (by decide) b21 b22 (m_Jx4a65c_add_9ea2d h) (fun p18 s17 h => ?_)
      refine v_pop hX dX11_join_205 rfl ?_
      refine v_iinc (c := 1) (lv' := [(8, _), (0, _), (7, _)]) hX dX11_join_206 2 rfl (by decide) (by decide) rfl ?_
      refine v_goto (tgt := 175) hX dX11_join_209 (by decide) ?_
      refine v_pick [1, 2, 0] rfl ?_
      exact hK175 _ _ _ _ _ _ h
set_option maxRecDepth 100000 in
set_option maxHeartbeats 4000000 in
theorem m_X11_join {Z : h_Z} {o0 : Nat} {x1 : Int32} {x2 : Int32} {x3 : Int32} {s : h_S} {mc ms : Nat} {Q : Int32 → h_S → Prop} (h : w_X11_join Z.2.2.2.2 o0 x1 x2 x3 s mc ms Q) : h_M Z yX11_join cX11_join 9 (some .int) 7 191 [pR (some o0), pI x1, pI x2, pI x3] s mc ms (h_QI Z Q) := by
  refine h_M.of (by decide) (Nat.le_of_ble_eq_true rfl) (fun X hZ hX hE hI => ?_)
  subst hZ
  unfold w_X11_join at h
  show h_V X 9 0 [(0, pR (some o0)), (1, pI x1), (2, pI x2), (3, pI x3)] [] s mc ms
  refine v_aload_n hX dX11_join_0 0 rfl rfl ?_
  refine v_iload_n hX dX11_join_1 1 rfl rfl ?_
  obtain ⟨k1, h⟩ := h
  refine v_callVr hX dX11_join_2 c_RX11_263 cV_X11_versionAt (ci := 12) (T := TX11) (N := 19) rfl (by exact k1) [pI _] rfl rfl (Nat.le_of_ble_eq_true rfl) (by decide) (by decide) (Nat.zero_le _) (Nat.zero_le _) (m_X11_versionAt h) (fun p3 s2 h => ?_)
  refine v_astore (lv' := [(4, _), (0, _), (1, _), (2, _), (3, _)]) hX dX11_join_5 (by decide) rfl ?_
  refine v_aload_n hX dX11_join_7 1 rfl rfl ?_
  refine v_iload_n hX dX11_join_8 3 rfl rfl ?_
  obtain ⟨k4, h⟩ := h
  refine v_callVr hX dX11_join_9 c_RX11_263 cV_X11_versionAt (ci := 12) (T := TX11) (N := 19) rfl (by exact k4) [pI _] rfl rfl (Nat.le_of_ble_eq_true rfl) (by decide) (by decide) (Nat.zero_le _) (Nat.zero_le _) (m_X11_versionAt h) (fun p6 s5 h => ?_)
  refine v_astore (lv' := [(5, _), (4, _), (0, _), (1, _), (2, _), (3, _)]) hX dX11_join_12 (by decide) rfl ?_
  refine v_aload_n hX dX11_join_14 2 rfl rfl ?_
  refine v_iload_n hX dX11_join_15 5 rfl rfl ?_
  obtain ⟨k7, h⟩ := h
  refine v_callVr hX dX11_join_16 c_RX11_263 cV_X11_versionAt (ci := 12) (T := TX11) (N := 19) rfl (by exact k7) [pI _] rfl rfl (Nat.le_of_ble_eq_true rfl) (by decide) (by decide) (Nat.zero_le _) (Nat.zero_le _) (m_X11_versionAt h) (fun p9 s8 h => ?_)
  refine v_astore (lv' := [(6, _), (5, _), (4, _), (0, _), (1, _), (2, _), (3, _)]) hX dX11_join_19 (by decide) rfl ?_
  refine v_aload hX dX11_join_21 2 rfl ?_
  refine v_ifnull (tgt := 36) hX dX11_join_23 (by decide) (fun c10 => ?_) (fun c10 => ?_)
  · have h := h_T c10 h
    refine v_pick [] rfl ?_
    exact b_X11_join_36 hX hE _ h
  · have h := h_E c10 h
    refine v_aload hX dX11_join_26 1 rfl ?_
    refine v_ifnull (tgt := 36) hX dX11_join_28 (by decide) (fun c11 => ?_) (fun c11 => ?_)
    · have h := h_T c11 h
      refine v_pick [] rfl ?_
      exact b_X11_join_36 hX hE _ h
    · have h := h_E c11 h
      refine v_aload hX dX11_join_31 0 rfl ?_
      refine v_ifnonnull (tgt := 38) hX dX11_join_33 (by decide) (fun c12 => ?_) (fun c12 => ?_)
      · have h := h_E c12 h
        refine v_aload_n hX dX11_join_38 3 rfl rfl ?_
        obtain ⟨k13, h⟩ := h
        refine v_getR hX dX11_join_39 f_RX11_23 rfl k13 ?_
        obtain ⟨a14, e_a14, h⟩ := h
        refine v_nn0 e_a14 ?_
        obtain ⟨k15, h⟩ := h
        refine v_callVi hX dX11_join_42 c_RX11_95 cV_X7_isFull (ci := 8) (T := TX7) (N := 13) rfl (by exact k15) [] rfl rfl (Nat.le_of_ble_eq_true rfl) (by decide) (by decide) (Nat.zero_le _) (Nat.zero_le _) (m_X7_isFull h) (fun p17 s16 h => ?_)
        refine v_if_eq (tgt := 51) hX dX11_join_45 (by decide) (fun c18 => ?_) (fun c18 => ?_)
        · have h := h_T c18 h
          refine v_aload_n hX dX11_join_51 3 rfl rfl ?_
          obtain ⟨k19, h⟩ := h
          refine v_getR hX dX11_join_52 f_RX11_52 rfl k19 ?_
          refine v_aload hX dX11_join_55 2 rfl ?_
          obtain ⟨a20, e_a20, h⟩ := h
          refine v_nn0 e_a20 ?_
          obtain ⟨k21, h⟩ := h
          refine v_getR hX dX11_join_57 f_RX11_272 rfl k21 ?_
          refine v_aload hX dX11_join_60 1 rfl ?_
          obtain ⟨a22, e_a22, h⟩ := h
          refine v_nn0 e_a22 ?_
          obtain ⟨k23, h⟩ := h
          refine v_getR hX dX11_join_62 f_RX11_272 rfl k23 ?_
          refine v_aload hX dX11_join_65 0 rfl ?_
          obtain ⟨a24, e_a24, h⟩ := h
          refine v_nn0 e_a24 ?_
          obtain ⟨k25, h⟩ := h
          refine v_getR hX dX11_join_67 f_RX11_272 rfl k25 ?_
          obtain ⟨a26, e_a26, h⟩ := h
          refine v_nn3 e_a26 ?_
          obtain ⟨k27, h⟩ := h
          refine v_callVv hX dX11_join_70 c_RX11_290 cV_X9_weaveBy (ci := 10) (T := TX9) (N := 16) rfl (by exact k27) [pR _, pR _, pR _] rfl rfl (Nat.le_of_ble_eq_true rfl) (by decide) (by decide) (Nat.zero_le _) (Nat.zero_le _) (m_X9_weaveBy h) (fun s28 h => ?_)
          refine v_aload_n hX dX11_join_73 3 rfl rfl ?_
          obtain ⟨k30, h⟩ := h
          refine v_getR hX dX11_join_74 f_RX11_52 rfl k30 ?_
          obtain ⟨a31, e_a31, h⟩ := h
          refine v_nn0 e_a31 ?_
          obtain ⟨k32, h⟩ := h
          refine v_callVi hX dX11_join_77 c_RX11_294 cV_X9_runs (ci := 10) (T := TX9) (N := 16) rfl (by exact k32) [] rfl rfl (Nat.le_of_ble_eq_true rfl) (by decide) (by decide) (Nat.zero_le _) (Nat.zero_le _) (m_X9_runs h) (fun p34 s33 h => ?_)
          refine v_bipush (v := 24) hX dX11_join_80 (by decide) ?_
          refine v_icmp_gt (tgt := 105) hX dX11_join_82 (by decide) (fun c35 => ?_) (fun c35 => ?_)
          · have h := h_T c35 h
            refine v_pick [] rfl ?_
            exact b_X11_join_105 hX hE _ h
          · have h := h_E c35 h
            refine v_aload_n hX dX11_join_85 3 rfl rfl ?_
            obtain ⟨k36, h⟩ := h
            refine v_getR hX dX11_join_86 f_RX11_52 rfl k36 ?_
            obtain ⟨a37, e_a37, h⟩ := h
            refine v_nn0 e_a37 ?_
            obtain ⟨k38, h⟩ := h
            refine v_getI hX dX11_join_89 f_RX11_297 rfl k38 ?_
            refine v_bipush (v := 12) hX dX11_join_92 (by decide) ?_
            refine v_aload_n hX dX11_join_94 3 rfl rfl ?_
            refine v_getR hX dX11_join_95 f_RX11_34 rfl k36 ?_
            obtain ⟨a39, e_a39, h⟩ := h
            refine v_nn0 e_a39 ?_
            obtain ⟨k40, h⟩ := h
            refine v_callVi hX dX11_join_98 c_RX11_246 cV_Jx4a65c_size_8abf5 (ci := 0) (T := TJx4a65c) (N := 3) rfl (by exact k40) [] rfl rfl (Nat.le_of_ble_eq_true rfl) (by decide) (by decide) (Nat.zero_le _) (Nat.zero_le _) (m_Jx4a65c_size_8abf5 h) (fun p42 s41 h => ?_)
            refine v_isub hX dX11_join_101 ?_
            refine v_icmp_le (tgt := 108) hX dX11_join_102 (by decide) (fun c43 => ?_) (fun c43 => ?_)
            · have h := h_T c43 h
              refine v_aload_n hX dX11_join_108 3 rfl rfl ?_
              obtain ⟨k44, h⟩ := h
              refine v_getR hX dX11_join_109 f_RX11_23 rfl k44 ?_
              refine v_aload_n hX dX11_join_112 3 rfl rfl ?_
              refine v_getR hX dX11_join_113 f_RX11_23 rfl k44 ?_
              refine v_aload hX dX11_join_116 2 rfl ?_
              obtain ⟨a45, e_a45, h⟩ := h
              refine v_nn0 e_a45 ?_
              obtain ⟨k46, h⟩ := h
              refine v_getI hX dX11_join_118 f_RX11_276 rfl k46 ?_
              obtain ⟨a47, e_a47, h⟩ := h
              refine v_nn1 e_a47 ?_
              obtain ⟨k48, h⟩ := h
              refine v_callVi hX dX11_join_121 c_RX11_141 cV_X7_ownerOf (ci := 8) (T := TX7) (N := 13) rfl (by exact k48) [pI _] rfl rfl (Nat.le_of_ble_eq_true rfl) (by decide) (by decide) (Nat.zero_le _) (Nat.zero_le _) (m_X7_ownerOf h) (fun p50 s49 h => ?_)
              refine v_aload_n hX dX11_join_124 3 rfl rfl ?_
              obtain ⟨k51, h⟩ := h
              refine v_getI hX dX11_join_125 f_RX11_84 rfl k51 ?_
              refine v_iconst (v := 1) hX dX11_join_128 (by decide) ?_
              refine v_iadd hX dX11_join_129 ?_
              obtain ⟨a52, e_a52, h⟩ := h
              refine v_nn2 e_a52 ?_
              obtain ⟨k53, h⟩ := h
              obtain ⟨mc56, ms57, b58, b59, h⟩ := h
              refine v_callVi hX dX11_join_130 c_RX11_99 cV_X7_begin (ci := 8) (T := TX7) (N := 13) rfl (by exact k53) [pI _, pI _] rfl rfl (Nat.le_of_ble_eq_true rfl) (by decide) (by decide) b58 b59 (m_X7_begin h) (fun p55 s54 h => ?_)
              refine v_istore (lv' := [(7, _), (6, _), (5, _), (4, _), (0, _), (1, _), (2, _), (3, _)]) hX dX11_join_133 (by decide) rfl ?_
              refine v_aload_n hX dX11_join_135 4 rfl rfl ?_
              obtain ⟨k60, h⟩ := h
              refine v_getR hX dX11_join_136 f_RX11_23 rfl k60 ?_
              refine v_aload_n hX dX11_join_139 4 rfl rfl ?_
              refine v_getR hX dX11_join_140 f_RX11_52 rfl k60 ?_
              obtain ⟨a61, e_a61, h⟩ := h
              refine v_nn0 e_a61 ?_
              obtain ⟨k62, h⟩ := h
              refine v_getR hX dX11_join_143 f_RX11_300 rfl k62 ?_
              refine v_aload_n hX dX11_join_146 4 rfl rfl ?_
              refine v_getR hX dX11_join_147 f_RX11_52 rfl k60 ?_
              obtain ⟨a63, e_a63, h⟩ := h
              refine v_nn0 e_a63 ?_
              obtain ⟨k64, h⟩ := h
              refine v_getI hX dX11_join_150 f_RX11_303 rfl k64 ?_
              obtain ⟨a65, e_a65, h⟩ := h
              refine v_nn2 e_a65 ?_
              obtain ⟨k66, h⟩ := h
              obtain ⟨mc69, ms70, b71, b72, h⟩ := h
              refine v_callVv hX dX11_join_153 c_RX11_306 cV_X7_layRuns (ci := 8) (T := TX7) (N := 13) rfl (by exact k66) [pR _, pI _] rfl rfl (Nat.le_of_ble_eq_true rfl) (by decide) (by decide) b71 b72 (m_X7_layRuns h) (fun s67 h => ?_)
              refine v_aload_n hX dX11_join_156 4 rfl rfl ?_
              obtain ⟨k73, h⟩ := h
              refine v_getR hX dX11_join_157 f_RX11_23 rfl k73 ?_
              refine v_iload hX dX11_join_160 0 rfl ?_
              refine v_aload_n hX dX11_join_162 4 rfl rfl ?_
              refine v_getI hX dX11_join_163 f_RX11_84 rfl k73 ?_
              refine v_iconst (v := 1) hX dX11_join_166 (by decide) ?_
              refine v_iadd hX dX11_join_167 ?_
              obtain ⟨a74, e_a74, h⟩ := h
              refine v_nn2 e_a74 ?_
              obtain ⟨k75, h⟩ := h
              obtain ⟨mc78, ms79, b80, b81, h⟩ := h
              refine v_callVi hX dX11_join_168 c_RX11_187 cV_X7_keepLaid (ci := 8) (T := TX7) (N := 13) rfl (by exact k75) [pI _, pI _] rfl rfl (Nat.le_of_ble_eq_true rfl) (by decide) (by decide) b80 b81 (m_X7_keepLaid h) (fun p77 s76 h => ?_)
              refine v_pop hX dX11_join_171 rfl ?_
              refine v_iconst (v := 0) hX dX11_join_172 (by decide) ?_
              refine v_istore (lv' := [(8, _), (7, _), (6, _), (5, _), (4, _), (0, _), (1, _), (2, _), (3, _)]) hX dX11_join_173 (by decide) rfl ?_
              refine v_pick [5, 1, 0] rfl ?_
              obtain ⟨n, h⟩ := h
              exact b_X11_join_175 hX hE n _ _ _ _ _ _ h
            · have h := h_E c43 h
              refine v_pick [] rfl ?_
              exact b_X11_join_105 hX hE _ h
        · have h := h_E c18 h
          refine v_bipush (v := -4) hX dX11_join_48 (by decide) ?_
          exact v_iret hX hE dX11_join_50 h
      · have h := h_T c12 h
        refine v_pick [] rfl ?_
        exact b_X11_join_36 hX hE _ h
set_option maxRecDepth 100000 in
set_option maxHeartbeats 4000000 in
theorem b_X11_clash_93 {X : h_X} (hX : h_ok X cX11_clash 4 RX11 3 64) {Q : Int32 → h_S → Prop} (hE : h_end X (some .int) (h_QI (x_Z X) Q)) {y0 : Int32} (s : h_S) (h : w_X11_clash_93 Q y0 s) : h_V X 4 93 [] [pI y0] s 0 0 := by
  unfold w_X11_clash_93 at h
  exact v_iret hX hE dX11_clash_93 h
set_option maxRecDepth 100000 in
set_option maxHeartbeats 4000000 in
theorem m_X11_clash {Z : h_Z} {o0 : Nat} {x1 : Int32} {x2 : Int32} {s : h_S} {Q : Int32 → h_S → Prop} (h : w_X11_clash o0 x1 x2 s Q) : h_M Z yX11_clash cX11_clash 4 (some .int) 3 64 [pR (some o0), pI x1, pI x2] s 0 0 (h_QI Z Q) := by
  refine h_M.of (by decide) (Nat.le_of_ble_eq_true rfl) (fun X hZ hX hE hI => ?_)
  subst hZ
  unfold w_X11_clash at h
  show h_V X 4 0 [(0, pR (some o0)), (1, pI x1), (2, pI x2)] [] s 0 0
  refine v_iload_n hX dX11_clash_0 1 rfl rfl ?_
  refine v_aload_n hX dX11_clash_1 0 rfl rfl ?_
  obtain ⟨k1, h⟩ := h
  refine v_getR hX dX11_clash_2 f_RX11_34 rfl k1 ?_
  obtain ⟨a2, e_a2, h⟩ := h
  refine v_nn0 e_a2 ?_
  obtain ⟨k3, h⟩ := h
  refine v_callVi hX dX11_clash_5 c_RX11_246 cV_Jx4a65c_size_8abf5 (ci := 0) (T := TJx4a65c) (N := 3) rfl (by exact k3) [] rfl rfl (Nat.le_of_ble_eq_true rfl) (by decide) (by decide) (Nat.zero_le _) (Nat.zero_le _) (m_Jx4a65c_size_8abf5 h) (fun p5 s4 h => ?_)
  refine v_callSi hX dX11_clash_8 c_RX11_80 cS_X11_within [pI _, pI _] rfl rfl (Nat.le_of_ble_eq_true rfl) (by decide) (by decide) (Nat.zero_le _) (Nat.zero_le _) (m_X11_within h) (fun p7 s6 h => ?_)
  refine v_if_ne (tgt := 16) hX dX11_clash_11 (by decide) (fun c8 => ?_) (fun c8 => ?_)
  · have h := h_E c8 h
    refine v_aload_n hX dX11_clash_16 0 rfl rfl ?_
    obtain ⟨k9, h⟩ := h
    refine v_getR hX dX11_clash_17 f_RX11_34 rfl k9 ?_
    refine v_iload_n hX dX11_clash_20 1 rfl rfl ?_
    obtain ⟨a10, e_a10, h⟩ := h
    refine v_nn1 e_a10 ?_
    obtain ⟨k11, h⟩ := h
    refine v_callVr hX dX11_clash_21 c_RX11_314 cV_Jx4a65c_get_915e3 (ci := 0) (T := TJx4a65c) (N := 3) rfl (by exact k11) [pI _] rfl rfl (Nat.le_of_ble_eq_true rfl) (by decide) (by decide) (Nat.zero_le _) (Nat.zero_le _) (m_Jx4a65c_get_915e3 h) (fun p13 s12 h => ?_)
    obtain ⟨b14, h⟩ := h
    refine v_cast (ci := 1) hX dX11_clash_24 kl_RX11_318 rfl b14 ?_
    refine v_astore_n (lv' := [(3, _), (0, _), (1, _), (2, _)]) hX dX11_clash_27 rfl (by decide) rfl ?_
    refine v_iload_n hX dX11_clash_28 3 rfl rfl ?_
    refine v_gen (fun q32 e_q32 => ?_)
    rw [← e_q32] at h
    by_cases c15 : q32 = (0 : Int32)
    · have h := h_T c15 h
      refine v_tabIn (tgt := 60) hX dX11_clash_29 (by rw [c15]; decide) (by rw [c15]; decide) (by rw [c15]; rfl) (by decide) ?_
      refine v_aload_n hX dX11_clash_60 0 rfl rfl ?_
      obtain ⟨a16, e_a16, h⟩ := h
      refine v_nn0 e_a16 ?_
      obtain ⟨k17, h⟩ := h
      refine v_getI hX dX11_clash_61 f_RX11_320 rfl k17 ?_
      exact v_iret hX hE dX11_clash_64 h
    · have h := h_E c15 h
      by_cases c18 : q32 = (1 : Int32)
      · have h := h_T c18 h
        refine v_tabIn (tgt := 65) hX dX11_clash_29 (by rw [c18]; decide) (by rw [c18]; decide) (by rw [c18]; rfl) (by decide) ?_
        refine v_aload_n hX dX11_clash_65 0 rfl rfl ?_
        obtain ⟨a19, e_a19, h⟩ := h
        refine v_nn0 e_a19 ?_
        obtain ⟨k20, h⟩ := h
        refine v_getI hX dX11_clash_66 f_RX11_321 rfl k20 ?_
        exact v_iret hX hE dX11_clash_69 h
      · have h := h_E c18 h
        by_cases c21 : q32 = (2 : Int32)
        · have h := h_T c21 h
          refine v_tabIn (tgt := 70) hX dX11_clash_29 (by rw [c21]; decide) (by rw [c21]; decide) (by rw [c21]; rfl) (by decide) ?_
          refine v_aload_n hX dX11_clash_70 0 rfl rfl ?_
          obtain ⟨a22, e_a22, h⟩ := h
          refine v_nn0 e_a22 ?_
          obtain ⟨k23, h⟩ := h
          refine v_getR hX dX11_clash_71 f_RX11_324 rfl k23 ?_
          obtain ⟨a24, e_a24, h⟩ := h
          refine v_nn0 e_a24 ?_
          obtain ⟨k25, h⟩ := h
          refine v_alenK hX dX11_clash_74 (k := 1) rfl (by decide) (by decide) k25 ?_
          refine v_aload_n hX dX11_clash_75 0 rfl rfl ?_
          obtain ⟨a26, e_a26, h⟩ := h
          refine v_nn0 e_a26 ?_
          obtain ⟨k27, h⟩ := h
          refine v_getI hX dX11_clash_76 f_RX11_321 rfl k27 ?_
          refine v_isub hX dX11_clash_79 ?_
          exact v_iret hX hE dX11_clash_80 h
        · have h := h_E c21 h
          by_cases c28 : q32 = (3 : Int32)
          · have h := h_T c28 h
            refine v_tabIn (tgt := 81) hX dX11_clash_29 (by rw [c28]; decide) (by rw [c28]; decide) (by rw [c28]; rfl) (by decide) ?_
            refine v_aload_n hX dX11_clash_81 0 rfl rfl ?_
            obtain ⟨a29, e_a29, h⟩ := h
            refine v_nn0 e_a29 ?_
            obtain ⟨k30, h⟩ := h
            refine v_getI hX dX11_clash_82 f_RX11_327 rfl k30 ?_
            refine v_if_eq (tgt := 92) hX dX11_clash_85 (by decide) (fun c31 => ?_) (fun c31 => ?_)
            · have h := h_T c31 h
              refine v_iconst (v := 0) hX dX11_clash_92 (by decide) ?_
              refine v_pick [] rfl ?_
              exact b_X11_clash_93 hX hE _ h
            · have h := h_E c31 h
              refine v_iconst (v := 1) hX dX11_clash_88 (by decide) ?_
              refine v_goto (tgt := 93) hX dX11_clash_89 (by decide) ?_
              refine v_pick [] rfl ?_
              exact b_X11_clash_93 hX hE _ h
          · have h := h_E c28 h
            refine v_tabOut (tgt := 94) hX dX11_clash_29 (by have := h_ti c15 (n := 0) rfl; have := h_ti c18 (n := 1) rfl; have := h_ti c21 (n := 2) rfl; have := h_ti c28 (n := 3) rfl; omega) (by decide) ?_
            refine v_bipush (v := -2) hX dX11_clash_94 (by decide) ?_
            exact v_iret hX hE dX11_clash_96 h
  · have h := h_T c8 h
    refine v_iconst (v := -1) hX dX11_clash_14 (by decide) ?_
    exact v_iret hX hE dX11_clash_15 h
set_option maxRecDepth 100000 in
set_option maxHeartbeats 4000000 in
theorem b_X11_linkAt_29 {X : h_X} (hX : h_ok X cX11_linkAt 2 RX11 3 64) {Q : Option Nat → h_S → Prop} (hE : h_end X (some (.object "SeenWords$Link")) (h_QR (x_Z X) Q)) {t0 : Option Nat} (s : h_S) (h : w_X11_linkAt_29 Q t0 s) : h_V X 2 29 [] [pR t0] s 0 0 := by
  unfold w_X11_linkAt_29 at h
  exact v_aret hX hE (Or.inl ⟨_, rfl⟩) dX11_linkAt_29 h
set_option maxRecDepth 100000 in
set_option maxHeartbeats 4000000 in
theorem m_X11_linkAt {Z : h_Z} {o0 : Nat} {x1 : Int32} {s : h_S} {Q : Option Nat → h_S → Prop} (h : w_X11_linkAt o0 x1 s Q) : h_M Z yX11_linkAt cX11_linkAt 2 (some (.object "SeenWords$Link")) 3 64 [pR (some o0), pI x1] s 0 0 (h_QR Z Q) := by
  refine h_M.of (by decide) (Nat.le_of_ble_eq_true rfl) (fun X hZ hX hE hI => ?_)
  subst hZ
  unfold w_X11_linkAt at h
  show h_V X 2 0 [(0, pR (some o0)), (1, pI x1)] [] s 0 0
  refine v_iload_n hX dX11_linkAt_0 1 rfl rfl ?_
  refine v_aload_n hX dX11_linkAt_1 0 rfl rfl ?_
  obtain ⟨k1, h⟩ := h
  refine v_getR hX dX11_linkAt_2 f_RX11_37 rfl k1 ?_
  obtain ⟨a2, e_a2, h⟩ := h
  refine v_nn0 e_a2 ?_
  obtain ⟨k3, h⟩ := h
  refine v_callVi hX dX11_linkAt_5 c_RX11_246 cV_Jx4a65c_size_8abf5 (ci := 0) (T := TJx4a65c) (N := 3) rfl (by exact k3) [] rfl rfl (Nat.le_of_ble_eq_true rfl) (by decide) (by decide) (Nat.zero_le _) (Nat.zero_le _) (m_Jx4a65c_size_8abf5 h) (fun p5 s4 h => ?_)
  refine v_callSi hX dX11_linkAt_8 c_RX11_80 cS_X11_within [pI _, pI _] rfl rfl (Nat.le_of_ble_eq_true rfl) (by decide) (by decide) (Nat.zero_le _) (Nat.zero_le _) (m_X11_within h) (fun p7 s6 h => ?_)
  refine v_if_eq (tgt := 28) hX dX11_linkAt_11 (by decide) (fun c8 => ?_) (fun c8 => ?_)
  · have h := h_T c8 h
    refine v_null hX dX11_linkAt_28 ?_
    refine v_pick [] rfl ?_
    exact b_X11_linkAt_29 hX hE _ h
  · have h := h_E c8 h
    refine v_aload_n hX dX11_linkAt_14 0 rfl rfl ?_
    obtain ⟨k9, h⟩ := h
    refine v_getR hX dX11_linkAt_15 f_RX11_37 rfl k9 ?_
    refine v_iload_n hX dX11_linkAt_18 1 rfl rfl ?_
    obtain ⟨a10, e_a10, h⟩ := h
    refine v_nn1 e_a10 ?_
    obtain ⟨k11, h⟩ := h
    refine v_callVr hX dX11_linkAt_19 c_RX11_314 cV_Jx4a65c_get_915e3 (ci := 0) (T := TJx4a65c) (N := 3) rfl (by exact k11) [pI _] rfl rfl (Nat.le_of_ble_eq_true rfl) (by decide) (by decide) (Nat.zero_le _) (Nat.zero_le _) (m_Jx4a65c_get_915e3 h) (fun p13 s12 h => ?_)
    obtain ⟨b14, h⟩ := h
    refine v_cast (ci := 2) hX dX11_linkAt_22 kl_RX11_347 rfl b14 ?_
    refine v_goto (tgt := 29) hX dX11_linkAt_25 (by decide) ?_
    refine v_pick [] rfl ?_
    exact b_X11_linkAt_29 hX hE _ h
set_option maxRecDepth 100000 in
set_option maxHeartbeats 4000000 in
theorem m_X11_failed {Z : h_Z} {o0 : Nat} {x1 : Int32} {s : h_S} {Q : Int32 → h_S → Prop} (h : w_X11_failed o0 x1 s Q) : h_M Z yX11_failed cX11_failed 2 (some .int) 0 0 [pR (some o0), pI x1] s 0 0 (h_QI Z Q) := by
  refine h_M.of (by decide) (Nat.le_of_ble_eq_true rfl) (fun X hZ hX hE hI => ?_)
  subst hZ
  unfold w_X11_failed at h
  show h_V X 2 0 [(0, pR (some o0)), (1, pI x1)] [] s 0 0
  refine v_aload_n hX dX11_failed_0 0 rfl rfl ?_
  refine v_iload_n hX dX11_failed_1 1 rfl rfl ?_
  obtain ⟨k1, h⟩ := h
  refine v_putI hX dX11_failed_2 f_RX11_102 k1 ?_
  refine v_bipush (v := -10) hX dX11_failed_5 (by decide) ?_
  refine v_iload_n hX dX11_failed_7 1 rfl rfl ?_
  refine v_isub hX dX11_failed_8 ?_
  exact v_iret hX hE dX11_failed_9 h
set_option maxRecDepth 100000 in
set_option maxHeartbeats 4000000 in
theorem m_X11_keepLink {Z : h_Z} {o0 : Nat} {r1 : Option Nat} {s : h_S} {mc ms : Nat} {Q : Int32 → h_S → Prop} (h : w_X11_keepLink Z.2.2.2.2 o0 r1 s mc ms Q) : h_M Z yX11_keepLink cX11_keepLink 2 (some .int) 7 191 [pR (some o0), pR r1] s mc ms (h_QI Z Q) := by
  refine h_M.of (by decide) (Nat.le_of_ble_eq_true rfl) (fun X hZ hX hE hI => ?_)
  subst hZ
  unfold w_X11_keepLink at h
  show h_V X 2 0 [(0, pR (some o0)), (1, pR r1)] [] s mc ms
  refine v_aload_n hX dX11_keepLink_0 0 rfl rfl ?_
  obtain ⟨k1, h⟩ := h
  refine v_getR hX dX11_keepLink_1 f_RX11_37 rfl k1 ?_
  obtain ⟨a2, e_a2, h⟩ := h
  refine v_nn0 e_a2 ?_
  obtain ⟨k3, h⟩ := h
  refine v_callVi hX dX11_keepLink_4 c_RX11_246 cV_Jx4a65c_size_8abf5 (ci := 0) (T := TJx4a65c) (N := 3) rfl (by exact k3) [] rfl rfl (Nat.le_of_ble_eq_true rfl) (by decide) (by decide) (Nat.zero_le _) (Nat.zero_le _) (m_Jx4a65c_size_8abf5 h) (fun p5 s4 h => ?_)
  refine v_bipush (v := 24) hX dX11_keepLink_7 (by decide) ?_
  refine v_icmp_lt (tgt := 15) hX dX11_keepLink_9 (by decide) (fun c6 => ?_) (fun c6 => ?_)
  · have h := h_T c6 h
    refine v_aload_n hX dX11_keepLink_15 0 rfl rfl ?_
    obtain ⟨k7, h⟩ := h
    refine v_getR hX dX11_keepLink_16 f_RX11_37 rfl k7 ?_
    refine v_aload_n hX dX11_keepLink_19 1 rfl rfl ?_
    obtain ⟨a8, e_a8, h⟩ := h
    refine v_nn1 e_a8 ?_
    obtain ⟨k9, h⟩ := h
    obtain ⟨mc12, ms13, b14, b15, h⟩ := h
    refine v_callVi hX dX11_keepLink_20 c_RX11_259 cV_Jx4a65c_add_9ea2d (ci := 0) (T := TJx4a65c) (N := 3) rfl (by exact k9) [pR _] rfl rfl (Nat.le_of_ble_eq_true rfl) (by decide) (by decide) b14 b15 (m_Jx4a65c_add_9ea2d h) (fun p11 s10 h => ?_)
    refine v_pop hX dX11_keepLink_23 rfl ?_
    refine v_aload_n hX dX11_keepLink_24 0 rfl rfl ?_
    refine v_aload_n hX dX11_keepLink_25 0 rfl rfl ?_
    obtain ⟨k16, h⟩ := h
    refine v_getR hX dX11_keepLink_26 f_RX11_37 rfl k16 ?_
    obtain ⟨a17, e_a17, h⟩ := h
    refine v_nn0 e_a17 ?_
    obtain ⟨k18, h⟩ := h
    refine v_callVi hX dX11_keepLink_29 c_RX11_246 cV_Jx4a65c_size_8abf5 (ci := 0) (T := TJx4a65c) (N := 3) rfl (by exact k18) [] rfl rfl (Nat.le_of_ble_eq_true rfl) (by decide) (by decide) (Nat.zero_le _) (Nat.zero_le _) (m_Jx4a65c_size_8abf5 h) (fun p20 s19 h => ?_)
    refine v_iconst (v := 1) hX dX11_keepLink_32 (by decide) ?_
    refine v_isub hX dX11_keepLink_33 ?_
    obtain ⟨k21, h⟩ := h
    refine v_callVi hX dX11_keepLink_34 c_RX11_76 cV_X11_acted (ci := 12) (T := TX11) (N := 19) rfl (by exact k21) [pI _] rfl rfl (Nat.le_of_ble_eq_true rfl) (by decide) (by decide) (Nat.zero_le _) (Nat.zero_le _) (m_X11_acted h) (fun p23 s22 h => ?_)
    exact v_iret hX hE dX11_keepLink_37 h
  · have h := h_E c6 h
    refine v_bipush (v := -4) hX dX11_keepLink_12 (by decide) ?_
    exact v_iret hX hE dX11_keepLink_14 h
set_option maxRecDepth 100000 in
set_option maxHeartbeats 4000000 in
theorem m_X11_reply {Z : h_Z} {o0 : Nat} {x1 : Int32} {x2 : Int32} {x3 : Int32} {s : h_S} {mc ms : Nat} {Q : Int32 → h_S → Prop} (h : w_X11_reply Z.2.2.2.2 o0 x1 x2 x3 s mc ms Q) : h_M Z yX11_reply cX11_reply 5 (some .int) 8 212 [pR (some o0), pI x1, pI x2, pI x3] s mc ms (h_QI Z Q) := by
  refine h_M.of (by decide) (Nat.le_of_ble_eq_true rfl) (fun X hZ hX hE hI => ?_)
  subst hZ
  unfold w_X11_reply at h
  show h_V X 5 0 [(0, pR (some o0)), (1, pI x1), (2, pI x2), (3, pI x3)] [] s mc ms
  refine v_aload_n hX dX11_reply_0 0 rfl rfl ?_
  refine v_iload_n hX dX11_reply_1 3 rfl rfl ?_
  obtain ⟨k1, h⟩ := h
  refine v_callVr hX dX11_reply_2 c_RX11_342 cV_X11_linkAt (ci := 12) (T := TX11) (N := 19) rfl (by exact k1) [pI _] rfl rfl (Nat.le_of_ble_eq_true rfl) (by decide) (by decide) (Nat.zero_le _) (Nat.zero_le _) (m_X11_linkAt h) (fun p3 s2 h => ?_)
  refine v_astore (lv' := [(4, _), (0, _), (1, _), (2, _), (3, _)]) hX dX11_reply_5 (by decide) rfl ?_
  refine v_aload hX dX11_reply_7 0 rfl ?_
  refine v_ifnonnull (tgt := 14) hX dX11_reply_9 (by decide) (fun c4 => ?_) (fun c4 => ?_)
  · have h := h_E c4 h
    refine v_aload hX dX11_reply_14 0 rfl ?_
    refine v_iconst (v := 1) hX dX11_reply_16 (by decide) ?_
    obtain ⟨a5, e_a5, h⟩ := h
    refine v_nn1 e_a5 ?_
    obtain ⟨k6, h⟩ := h
    refine v_callVi hX dX11_reply_17 c_RX11_346 cV_X1_isA (ci := 2) (T := TX1) (N := 4) rfl (by exact k6) [pI _] rfl rfl (Nat.le_of_ble_eq_true rfl) (by decide) (by decide) (Nat.zero_le _) (Nat.zero_le _) (m_X1_isA h) (fun p8 s7 h => ?_)
    refine v_if_ne (tgt := 29) hX dX11_reply_20 (by decide) (fun c9 => ?_) (fun c9 => ?_)
    · have h := h_E c9 h
      refine v_aload_n hX dX11_reply_29 1 rfl rfl ?_
      obtain ⟨b12, b13, h⟩ := h
      refine v_new hX dX11_reply_30 n_RX11_347 b12 b13 (fun q10 k11 => ?_)
      have h := h q10 k11
      refine v_dup hX dX11_reply_33 rfl ?_
      refine v_iconst (v := 2) hX dX11_reply_34 (by decide) ?_
      refine v_iload_n hX dX11_reply_35 2 rfl rfl ?_
      refine v_iload_n hX dX11_reply_36 3 rfl rfl ?_
      refine v_aload hX dX11_reply_37 0 rfl ?_
      obtain ⟨a17, e_a17, h⟩ := h
      refine v_nn0 e_a17 ?_
      obtain ⟨k18, h⟩ := h
      refine v_getR hX dX11_reply_39 f_RX11_354 rfl k18 ?_
      refine v_iconst (v := 0) hX dX11_reply_42 (by decide) ?_
      obtain ⟨a19, e_a19, h⟩ := h
      refine v_nn1 e_a19 ?_
      obtain ⟨k20, h⟩ := h
      obtain ⟨i21, h⟩ := h
      refine v_iald hX dX11_reply_43 k20 i21 ?_
      refine v_aload hX dX11_reply_44 0 rfl ?_
      obtain ⟨a22, e_a22, h⟩ := h
      refine v_nn0 e_a22 ?_
      obtain ⟨k23, h⟩ := h
      refine v_getR hX dX11_reply_46 f_RX11_357 rfl k23 ?_
      refine v_iconst (v := 0) hX dX11_reply_49 (by decide) ?_
      obtain ⟨a24, e_a24, h⟩ := h
      refine v_nn1 e_a24 ?_
      obtain ⟨k25, h⟩ := h
      obtain ⟨i26, h⟩ := h
      refine v_iald hX dX11_reply_50 k25 i26 ?_
      refine v_iload_n hX dX11_reply_51 4 rfl rfl ?_
      obtain ⟨mc29, ms30, b31, b32, h⟩ := h
      refine v_callIv hX dX11_reply_52 c_RX11_360 cI_X1_init [pI _, pI _, pI _, pI _, pI _, pI _] rfl rfl (Nat.le_of_ble_eq_true rfl) (by decide) (by decide) b31 b32 (m_X1_init h) (fun s27 h => ?_)
      obtain ⟨k33, h⟩ := h
      obtain ⟨mc36, ms37, b38, b39, h⟩ := h
      refine v_callVi hX dX11_reply_55 c_RX11_363 cV_X11_keepLink (ci := 12) (T := TX11) (N := 19) rfl (by exact k33) [pR _] rfl rfl (Nat.le_of_ble_eq_true rfl) (by decide) (by decide) b38 b39 (m_X11_keepLink h) (fun p35 s34 h => ?_)
      exact v_iret hX hE dX11_reply_58 h
    · have h := h_T c9 h
      refine v_aload_n hX dX11_reply_23 1 rfl rfl ?_
      refine v_iconst (v := 2) hX dX11_reply_24 (by decide) ?_
      obtain ⟨k40, h⟩ := h
      refine v_callVi hX dX11_reply_25 c_RX11_351 cV_X11_failed (ci := 12) (T := TX11) (N := 19) rfl (by exact k40) [pI _] rfl rfl (Nat.le_of_ble_eq_true rfl) (by decide) (by decide) (Nat.zero_le _) (Nat.zero_le _) (m_X11_failed h) (fun p42 s41 h => ?_)
      exact v_iret hX hE dX11_reply_28 h
  · have h := h_T c4 h
    refine v_iconst (v := -1) hX dX11_reply_12 (by decide) ?_
    exact v_iret hX hE dX11_reply_13 h
set_option maxRecDepth 100000 in
set_option maxHeartbeats 4000000 in
theorem b_X11_linkOfWords_44 {X : h_X} (hX : h_ok X cX11_linkOfWords 6 RX11 8 212) {Q : Int32 → h_S → Prop} (hE : h_end X (some .int) (h_QI (x_Z X) Q)) {o0 : Nat} {x1 : Int32} {x2 : Int32} {x3 : Int32} {x4 : Int32} {x5 : Int32} (s : h_S) {bc bs : Nat} (h : w_X11_linkOfWords_44 (x_G X) Q o0 x1 x2 x3 x4 x5 s bc bs) : h_V X 6 44 [(0, pR (some o0)), (1, pI x1), (2, pI x2), (3, pI x3), (4, pI x4), (5, pI x5)] [] s bc bs := by
  unfold w_X11_linkOfWords_44 at h
  refine v_aload_n hX dX11_linkOfWords_44 0 rfl rfl ?_
  obtain ⟨b3, b4, h⟩ := h
  refine v_new hX dX11_linkOfWords_45 n_RX11_347 b3 b4 (fun q1 k2 => ?_)
  have h := h q1 k2
  refine v_dup hX dX11_linkOfWords_48 rfl ?_
  refine v_iload_n hX dX11_linkOfWords_49 1 rfl rfl ?_
  refine v_iload_n hX dX11_linkOfWords_50 2 rfl rfl ?_
  refine v_iload_n hX dX11_linkOfWords_51 3 rfl rfl ?_
  refine v_iload hX dX11_linkOfWords_52 4 rfl ?_
  refine v_iload hX dX11_linkOfWords_54 5 rfl ?_
  refine v_bipush (v := -9) hX dX11_linkOfWords_56 (by decide) ?_
  obtain ⟨mc10, ms11, b12, b13, h⟩ := h
  refine v_callIv hX dX11_linkOfWords_58 c_RX11_360 cI_X1_init [pI _, pI _, pI _, pI _, pI _, pI _] rfl rfl (Nat.le_of_ble_eq_true rfl) (by decide) (by decide) b12 b13 (m_X1_init h) (fun s8 h => ?_)
  obtain ⟨k14, h⟩ := h
  obtain ⟨mc17, ms18, b19, b20, h⟩ := h
  refine v_callVi hX dX11_linkOfWords_61 c_RX11_363 cV_X11_keepLink (ci := 12) (T := TX11) (N := 19) rfl (by exact k14) [pR _] rfl rfl (Nat.le_of_ble_eq_true rfl) (by decide) (by decide) b19 b20 (m_X11_keepLink h) (fun p16 s15 h => ?_)
  exact v_iret hX hE dX11_linkOfWords_64 h
set_option maxRecDepth 100000 in
set_option maxHeartbeats 4000000 in
theorem m_X11_linkOfWords {Z : h_Z} {o0 : Nat} {x1 : Int32} {x2 : Int32} {x3 : Int32} {x4 : Int32} {x5 : Int32} {s : h_S} {mc ms : Nat} {Q : Int32 → h_S → Prop} (h : w_X11_linkOfWords Z.2.2.2.2 o0 x1 x2 x3 x4 x5 s mc ms Q) : h_M Z yX11_linkOfWords cX11_linkOfWords 6 (some .int) 8 212 [pR (some o0), pI x1, pI x2, pI x3, pI x4, pI x5] s mc ms (h_QI Z Q) := by
  refine h_M.of (by decide) (Nat.le_of_ble_eq_true rfl) (fun X hZ hX hE hI => ?_)
  subst hZ
  unfold w_X11_linkOfWords at h
  show h_V X 6 0 [(0, pR (some o0)), (1, pI x1), (2, pI x2), (3, pI x3), (4, pI x4), (5, pI x5)] [] s mc ms
  refine v_aload_n hX dX11_linkOfWords_0 0 rfl rfl ?_
  obtain ⟨k1, h⟩ := h
  refine v_getR hX dX11_linkOfWords_1 f_RX11_23 rfl k1 ?_
  refine v_iload hX dX11_linkOfWords_4 4 rfl ?_
  refine v_iload hX dX11_linkOfWords_6 5 rfl ?_
  obtain ⟨a2, e_a2, h⟩ := h
  refine v_nn2 e_a2 ?_
  obtain ⟨k3, h⟩ := h
  refine v_callVi hX dX11_linkOfWords_8 c_RX11_135 cV_X7_areWords (ci := 8) (T := TX7) (N := 13) rfl (by exact k3) [pI _, pI _] rfl rfl (Nat.le_of_ble_eq_true rfl) (by decide) (by decide) (Nat.zero_le _) (Nat.zero_le _) (m_X7_areWords h) (fun p5 s4 h => ?_)
  refine v_if_ne (tgt := 16) hX dX11_linkOfWords_11 (by decide) (fun c6 => ?_) (fun c6 => ?_)
  · have h := h_E c6 h
    refine v_iload_n hX dX11_linkOfWords_16 1 rfl rfl ?_
    refine v_iconst (v := 4) hX dX11_linkOfWords_17 (by decide) ?_
    refine v_icmp_ne (tgt := 44) hX dX11_linkOfWords_18 (by decide) (fun c7 => ?_) (fun c7 => ?_)
    · have h := h_E c7 h
      refine v_pick [0, 1, 2, 3, 4, 5] rfl ?_
      exact b_X11_linkOfWords_44 hX hE _ h
    · have h := h_T c7 h
      refine v_iload_n hX dX11_linkOfWords_21 3 rfl rfl ?_
      refine v_iload hX dX11_linkOfWords_22 5 rfl ?_
      refine v_icmp_ne (tgt := 44) hX dX11_linkOfWords_24 (by decide) (fun c8 => ?_) (fun c8 => ?_)
      · have h := h_E c8 h
        refine v_pick [0, 1, 2, 3, 4, 5] rfl ?_
        exact b_X11_linkOfWords_44 hX hE _ h
      · have h := h_T c8 h
        refine v_aload_n hX dX11_linkOfWords_27 0 rfl rfl ?_
        obtain ⟨k9, h⟩ := h
        refine v_getR hX dX11_linkOfWords_28 f_RX11_23 rfl k9 ?_
        refine v_iload_n hX dX11_linkOfWords_31 2 rfl rfl ?_
        refine v_iload hX dX11_linkOfWords_32 4 rfl ?_
        refine v_iload_n hX dX11_linkOfWords_34 3 rfl rfl ?_
        obtain ⟨a10, e_a10, h⟩ := h
        refine v_nn3 e_a10 ?_
        obtain ⟨k11, h⟩ := h
        refine v_callVi hX dX11_linkOfWords_35 c_RX11_367 cV_X7_codesAlike (ci := 8) (T := TX7) (N := 13) rfl (by exact k11) [pI _, pI _, pI _] rfl rfl (Nat.le_of_ble_eq_true rfl) (by decide) (by decide) (Nat.zero_le _) (Nat.zero_le _) (m_X7_codesAlike h) (fun p13 s12 h => ?_)
        refine v_if_eq (tgt := 44) hX dX11_linkOfWords_38 (by decide) (fun c14 => ?_) (fun c14 => ?_)
        · have h := h_T c14 h
          refine v_pick [0, 1, 2, 3, 4, 5] rfl ?_
          exact b_X11_linkOfWords_44 hX hE _ h
        · have h := h_E c14 h
          refine v_bipush (v := -3) hX dX11_linkOfWords_41 (by decide) ?_
          exact v_iret hX hE dX11_linkOfWords_43 h
  · have h := h_T c6 h
    refine v_iconst (v := -1) hX dX11_linkOfWords_14 (by decide) ?_
    exact v_iret hX hE dX11_linkOfWords_15 h
set_option maxRecDepth 100000 in
set_option maxHeartbeats 4000000 in
theorem b_X11_link_29 {X : h_X} (hX : h_ok X cX11_link 6 RX11 9 237) {Q : Int32 → h_S → Prop} (hE : h_end X (some .int) (h_QI (x_Z X) Q)) (s : h_S) {bc bs : Nat} (h : w_X11_link_29 (x_G X) Q s bc bs) : h_V X 6 29 [] [] s bc bs := by
  unfold w_X11_link_29 at h
  refine v_bipush (v := -2) hX dX11_link_29 (by decide) ?_
  exact v_iret hX hE dX11_link_31 h
set_option maxRecDepth 100000 in
set_option maxHeartbeats 4000000 in
theorem b_X11_link_73 {X : h_X} (hX : h_ok X cX11_link 6 RX11 9 237) {Q : Int32 → h_S → Prop} (hE : h_end X (some .int) (h_QI (x_Z X) Q)) {y0 : Int32} (s : h_S) {bc bs : Nat} (h : w_X11_link_73 (x_G X) Q y0 s bc bs) : h_V X 6 73 [] [pI y0] s bc bs := by
  unfold w_X11_link_73 at h
  exact v_iret hX hE dX11_link_73 h
set_option maxRecDepth 100000 in
set_option maxHeartbeats 4000000 in
theorem b_X11_link_32 {X : h_X} (hX : h_ok X cX11_link 6 RX11 9 237) {Q : Int32 → h_S → Prop} (hE : h_end X (some .int) (h_QI (x_Z X) Q)) {o0 : Nat} {x1 : Int32} {x2 : Int32} {x3 : Int32} {x4 : Int32} {x5 : Int32} (s : h_S) {bc bs : Nat} (h : w_X11_link_32 (x_G X) Q o0 x1 x2 x3 x4 x5 s bc bs) : h_V X 6 32 [(0, pR (some o0)), (1, pI x1), (2, pI x2), (3, pI x3), (4, pI x4), (5, pI x5)] [] s bc bs := by
  unfold w_X11_link_32 at h
  refine v_aload_n hX dX11_link_32 0 rfl rfl ?_
  obtain ⟨k1, h⟩ := h
  refine v_getR hX dX11_link_33 f_RX11_23 rfl k1 ?_
  refine v_iload_n hX dX11_link_36 2 rfl rfl ?_
  refine v_iload_n hX dX11_link_37 3 rfl rfl ?_
  obtain ⟨a2, e_a2, h⟩ := h
  refine v_nn2 e_a2 ?_
  obtain ⟨k3, h⟩ := h
  refine v_callVi hX dX11_link_38 c_RX11_135 cV_X7_areWords (ci := 8) (T := TX7) (N := 13) rfl (by exact k3) [pI _, pI _] rfl rfl (Nat.le_of_ble_eq_true rfl) (by decide) (by decide) (Nat.zero_le _) (Nat.zero_le _) (m_X7_areWords h) (fun p5 s4 h => ?_)
  refine v_if_ne (tgt := 46) hX dX11_link_41 (by decide) (fun c6 => ?_) (fun c6 => ?_)
  · have h := h_E c6 h
    refine v_iload_n hX dX11_link_46 1 rfl rfl ?_
    refine v_iconst (v := 2) hX dX11_link_47 (by decide) ?_
    refine v_icmp_ne (tgt := 62) hX dX11_link_48 (by decide) (fun c7 => ?_) (fun c7 => ?_)
    · have h := h_E c7 h
      refine v_aload_n hX dX11_link_62 0 rfl rfl ?_
      refine v_iload_n hX dX11_link_63 1 rfl rfl ?_
      refine v_iload_n hX dX11_link_64 2 rfl rfl ?_
      refine v_iload_n hX dX11_link_65 3 rfl rfl ?_
      refine v_iload hX dX11_link_66 4 rfl ?_
      refine v_iload hX dX11_link_68 5 rfl ?_
      obtain ⟨k8, h⟩ := h
      obtain ⟨mc11, ms12, b13, b14, h⟩ := h
      refine v_callVi hX dX11_link_70 c_RX11_338 cV_X11_linkOfWords (ci := 12) (T := TX11) (N := 19) rfl (by exact k8) [pI _, pI _, pI _, pI _, pI _] rfl rfl (Nat.le_of_ble_eq_true rfl) (by decide) (by decide) b13 b14 (m_X11_linkOfWords h) (fun p10 s9 h => ?_)
      refine v_pick [] rfl ?_
      exact b_X11_link_73 hX hE _ h
    · have h := h_T c7 h
      refine v_aload_n hX dX11_link_51 0 rfl rfl ?_
      refine v_iload_n hX dX11_link_52 2 rfl rfl ?_
      refine v_iload_n hX dX11_link_53 3 rfl rfl ?_
      refine v_iload hX dX11_link_54 4 rfl ?_
      obtain ⟨k15, h⟩ := h
      obtain ⟨mc18, ms19, b20, b21, h⟩ := h
      refine v_callVi hX dX11_link_56 c_RX11_335 cV_X11_reply (ci := 12) (T := TX11) (N := 19) rfl (by exact k15) [pI _, pI _, pI _] rfl rfl (Nat.le_of_ble_eq_true rfl) (by decide) (by decide) b20 b21 (m_X11_reply h) (fun p17 s16 h => ?_)
      refine v_goto (tgt := 73) hX dX11_link_59 (by decide) ?_
      refine v_pick [] rfl ?_
      exact b_X11_link_73 hX hE _ h
  · have h := h_T c6 h
    refine v_iconst (v := -1) hX dX11_link_44 (by decide) ?_
    exact v_iret hX hE dX11_link_45 h
set_option maxRecDepth 100000 in
set_option maxHeartbeats 4000000 in
theorem m_X11_link {Z : h_Z} {o0 : Nat} {x1 : Int32} {x2 : Int32} {x3 : Int32} {x4 : Int32} {x5 : Int32} {s : h_S} {mc ms : Nat} {Q : Int32 → h_S → Prop} (h : w_X11_link Z.2.2.2.2 o0 x1 x2 x3 x4 x5 s mc ms Q) : h_M Z yX11_link cX11_link 6 (some .int) 9 237 [pR (some o0), pI x1, pI x2, pI x3, pI x4, pI x5] s mc ms (h_QI Z Q) := by
  refine h_M.of (by decide) (Nat.le_of_ble_eq_true rfl) (fun X hZ hX hE hI => ?_)
  subst hZ
  unfold w_X11_link at h
  show h_V X 6 0 [(0, pR (some o0)), (1, pI x1), (2, pI x2), (3, pI x3), (4, pI x4), (5, pI x5)] [] s mc ms
  refine v_aload_n hX dX11_link_0 0 rfl rfl ?_
  refine v_iconst (v := 0) hX dX11_link_1 (by decide) ?_
  obtain ⟨k1, h⟩ := h
  refine v_putI hX dX11_link_2 f_RX11_102 k1 ?_
  refine v_iload_n hX dX11_link_5 1 rfl rfl ?_
  refine v_iconst (v := 5) hX dX11_link_6 (by decide) ?_
  refine v_callSi hX dX11_link_7 c_RX11_80 cS_X11_within [pI _, pI _] rfl rfl (Nat.le_of_ble_eq_true rfl) (by decide) (by decide) (Nat.zero_le _) (Nat.zero_le _) (m_X11_within h) (fun p4 s3 h => ?_)
  refine v_if_eq (tgt := 29) hX dX11_link_10 (by decide) (fun c5 => ?_) (fun c5 => ?_)
  · have h := h_T c5 h
    refine v_pick [] rfl ?_
    exact b_X11_link_29 hX hE _ h
  · have h := h_E c5 h
    refine v_iload_n hX dX11_link_13 3 rfl rfl ?_
    refine v_iconst (v := 1) hX dX11_link_14 (by decide) ?_
    refine v_icmp_lt (tgt := 29) hX dX11_link_15 (by decide) (fun c6 => ?_) (fun c6 => ?_)
    · have h := h_T c6 h
      refine v_pick [] rfl ?_
      exact b_X11_link_29 hX hE _ h
    · have h := h_E c6 h
      refine v_iload_n hX dX11_link_18 1 rfl rfl ?_
      refine v_iconst (v := 2) hX dX11_link_19 (by decide) ?_
      refine v_icmp_eq (tgt := 32) hX dX11_link_20 (by decide) (fun c7 => ?_) (fun c7 => ?_)
      · have h := h_T c7 h
        refine v_pick [0, 1, 2, 3, 4, 5] rfl ?_
        exact b_X11_link_32 hX hE _ h
      · have h := h_E c7 h
        refine v_iload hX dX11_link_23 5 rfl ?_
        refine v_iconst (v := 1) hX dX11_link_25 (by decide) ?_
        refine v_icmp_ge (tgt := 32) hX dX11_link_26 (by decide) (fun c8 => ?_) (fun c8 => ?_)
        · have h := h_T c8 h
          refine v_pick [0, 1, 2, 3, 4, 5] rfl ?_
          exact b_X11_link_32 hX hE _ h
        · have h := h_E c8 h
          refine v_pick [] rfl ?_
          exact b_X11_link_29 hX hE _ h
set_option maxRecDepth 100000 in
set_option maxHeartbeats 4000000 in
theorem m_X11_ofLink {Z : h_Z} {o0 : Nat} {x1 : Int32} {x2 : Int32} {s : h_S} {Q : Int32 → h_S → Prop} (h : w_X11_ofLink o0 x1 x2 s Q) : h_M Z yX11_ofLink cX11_ofLink 4 (some .int) 4 85 [pR (some o0), pI x1, pI x2] s 0 0 (h_QI Z Q) := by
  refine h_M.of (by decide) (Nat.le_of_ble_eq_true rfl) (fun X hZ hX hE hI => ?_)
  subst hZ
  unfold w_X11_ofLink at h
  show h_V X 4 0 [(0, pR (some o0)), (1, pI x1), (2, pI x2)] [] s 0 0
  refine v_aload_n hX dX11_ofLink_0 0 rfl rfl ?_
  refine v_iload_n hX dX11_ofLink_1 1 rfl rfl ?_
  obtain ⟨k1, h⟩ := h
  refine v_callVr hX dX11_ofLink_2 c_RX11_342 cV_X11_linkAt (ci := 12) (T := TX11) (N := 19) rfl (by exact k1) [pI _] rfl rfl (Nat.le_of_ble_eq_true rfl) (by decide) (by decide) (Nat.zero_le _) (Nat.zero_le _) (m_X11_linkAt h) (fun p3 s2 h => ?_)
  refine v_astore_n (lv' := [(3, _), (0, _), (1, _), (2, _)]) hX dX11_ofLink_5 rfl (by decide) rfl ?_
  refine v_aload_n hX dX11_ofLink_6 0 rfl rfl ?_
  refine v_ifnonnull (tgt := 12) hX dX11_ofLink_7 (by decide) (fun c4 => ?_) (fun c4 => ?_)
  · have h := h_E c4 h
    refine v_iload_n hX dX11_ofLink_12 3 rfl rfl ?_
    refine v_gen (fun q35 e_q35 => ?_)
    rw [← e_q35] at h
    by_cases c5 : q35 = (0 : Int32)
    · have h := h_T c5 h
      refine v_tabIn (tgt := 52) hX dX11_ofLink_13 (by rw [c5]; decide) (by rw [c5]; decide) (by rw [c5]; rfl) (by decide) ?_
      refine v_aload_n hX dX11_ofLink_52 0 rfl rfl ?_
      obtain ⟨a6, e_a6, h⟩ := h
      refine v_nn0 e_a6 ?_
      obtain ⟨k7, h⟩ := h
      refine v_getI hX dX11_ofLink_53 f_RX11_370 rfl k7 ?_
      exact v_iret hX hE dX11_ofLink_56 h
    · have h := h_E c5 h
      by_cases c8 : q35 = (1 : Int32)
      · have h := h_T c8 h
        refine v_tabIn (tgt := 57) hX dX11_ofLink_13 (by rw [c8]; decide) (by rw [c8]; decide) (by rw [c8]; rfl) (by decide) ?_
        refine v_aload_n hX dX11_ofLink_57 0 rfl rfl ?_
        obtain ⟨a9, e_a9, h⟩ := h
        refine v_nn0 e_a9 ?_
        obtain ⟨k10, h⟩ := h
        refine v_getR hX dX11_ofLink_58 f_RX11_354 rfl k10 ?_
        refine v_iconst (v := 0) hX dX11_ofLink_61 (by decide) ?_
        obtain ⟨a11, e_a11, h⟩ := h
        refine v_nn1 e_a11 ?_
        obtain ⟨k12, h⟩ := h
        obtain ⟨i13, h⟩ := h
        refine v_iald hX dX11_ofLink_62 k12 i13 ?_
        exact v_iret hX hE dX11_ofLink_63 h
      · have h := h_E c8 h
        by_cases c14 : q35 = (2 : Int32)
        · have h := h_T c14 h
          refine v_tabIn (tgt := 64) hX dX11_ofLink_13 (by rw [c14]; decide) (by rw [c14]; decide) (by rw [c14]; rfl) (by decide) ?_
          refine v_aload_n hX dX11_ofLink_64 0 rfl rfl ?_
          obtain ⟨a15, e_a15, h⟩ := h
          refine v_nn0 e_a15 ?_
          obtain ⟨k16, h⟩ := h
          refine v_getR hX dX11_ofLink_65 f_RX11_357 rfl k16 ?_
          refine v_iconst (v := 0) hX dX11_ofLink_68 (by decide) ?_
          obtain ⟨a17, e_a17, h⟩ := h
          refine v_nn1 e_a17 ?_
          obtain ⟨k18, h⟩ := h
          obtain ⟨i19, h⟩ := h
          refine v_iald hX dX11_ofLink_69 k18 i19 ?_
          exact v_iret hX hE dX11_ofLink_70 h
        · have h := h_E c14 h
          by_cases c20 : q35 = (3 : Int32)
          · have h := h_T c20 h
            refine v_tabIn (tgt := 71) hX dX11_ofLink_13 (by rw [c20]; decide) (by rw [c20]; decide) (by rw [c20]; rfl) (by decide) ?_
            refine v_aload_n hX dX11_ofLink_71 0 rfl rfl ?_
            obtain ⟨a21, e_a21, h⟩ := h
            refine v_nn0 e_a21 ?_
            obtain ⟨k22, h⟩ := h
            refine v_getR hX dX11_ofLink_72 f_RX11_354 rfl k22 ?_
            refine v_iconst (v := 1) hX dX11_ofLink_75 (by decide) ?_
            obtain ⟨a23, e_a23, h⟩ := h
            refine v_nn1 e_a23 ?_
            obtain ⟨k24, h⟩ := h
            obtain ⟨i25, h⟩ := h
            refine v_iald hX dX11_ofLink_76 k24 i25 ?_
            exact v_iret hX hE dX11_ofLink_77 h
          · have h := h_E c20 h
            by_cases c26 : q35 = (4 : Int32)
            · have h := h_T c26 h
              refine v_tabIn (tgt := 78) hX dX11_ofLink_13 (by rw [c26]; decide) (by rw [c26]; decide) (by rw [c26]; rfl) (by decide) ?_
              refine v_aload_n hX dX11_ofLink_78 0 rfl rfl ?_
              obtain ⟨a27, e_a27, h⟩ := h
              refine v_nn0 e_a27 ?_
              obtain ⟨k28, h⟩ := h
              refine v_getR hX dX11_ofLink_79 f_RX11_357 rfl k28 ?_
              refine v_iconst (v := 1) hX dX11_ofLink_82 (by decide) ?_
              obtain ⟨a29, e_a29, h⟩ := h
              refine v_nn1 e_a29 ?_
              obtain ⟨k30, h⟩ := h
              obtain ⟨i31, h⟩ := h
              refine v_iald hX dX11_ofLink_83 k30 i31 ?_
              exact v_iret hX hE dX11_ofLink_84 h
            · have h := h_E c26 h
              by_cases c32 : q35 = (5 : Int32)
              · have h := h_T c32 h
                refine v_tabIn (tgt := 85) hX dX11_ofLink_13 (by rw [c32]; decide) (by rw [c32]; decide) (by rw [c32]; rfl) (by decide) ?_
                refine v_aload_n hX dX11_ofLink_85 0 rfl rfl ?_
                obtain ⟨a33, e_a33, h⟩ := h
                refine v_nn0 e_a33 ?_
                obtain ⟨k34, h⟩ := h
                refine v_getI hX dX11_ofLink_86 f_RX11_371 rfl k34 ?_
                exact v_iret hX hE dX11_ofLink_89 h
              · have h := h_E c32 h
                refine v_tabOut (tgt := 90) hX dX11_ofLink_13 (by have := h_ti c5 (n := 0) rfl; have := h_ti c8 (n := 1) rfl; have := h_ti c14 (n := 2) rfl; have := h_ti c20 (n := 3) rfl; have := h_ti c26 (n := 4) rfl; have := h_ti c32 (n := 5) rfl; omega) (by decide) ?_
                refine v_bipush (v := -2) hX dX11_ofLink_90 (by decide) ?_
                exact v_iret hX hE dX11_ofLink_92 h
  · have h := h_T c4 h
    refine v_iconst (v := -1) hX dX11_ofLink_10 (by decide) ?_
    exact v_iret hX hE dX11_ofLink_11 h
set_option maxRecDepth 100000 in
set_option maxHeartbeats 4000000 in
theorem b_X11_ends_24 {X : h_X} (hX : h_ok X cX11_ends 9 RX11 4 107) {Q : Int32 → h_S → Prop} (hE : h_end X (some .int) (h_QI (x_Z X) Q)) (s : h_S) (h : w_X11_ends_24 Q s) : h_V X 9 24 [] [] s 0 0 := by
  unfold w_X11_ends_24 at h
  refine v_iconst (v := -1) hX dX11_ends_24 (by decide) ?_
  exact v_iret hX hE dX11_ends_25 h
set_option maxRecDepth 100000 in
set_option maxHeartbeats 4000000 in
theorem b_X11_ends_96 {X : h_X} (hX : h_ok X cX11_ends 9 RX11 4 107) {Q : Int32 → h_S → Prop} (hE : h_end X (some .int) (h_QI (x_Z X) Q)) {x6 : Int32} (s : h_S) (h : w_X11_ends_96 Q x6 s) : h_V X 9 96 [(6, pI x6)] [] s 0 0 := by
  unfold w_X11_ends_96 at h
  refine v_iload hX dX11_ends_96 0 rfl ?_
  exact v_iret hX hE dX11_ends_98 h
set_option maxRecDepth 100000 in
set_option maxHeartbeats 4000000 in
theorem b_X11_ends_57 {X : h_X} (hX : h_ok X cX11_ends 9 RX11 4 107) {Q : Int32 → h_S → Prop} (hE : h_end X (some .int) (h_QI (x_Z X) Q)) : ∀ (n : Nat) (x2 : Int32) (r4 : Option Nat) (r5 : Option Nat) (x6 : Int32) (x7 : Int32) (x8 : Int32) (s : h_S), w_X11_ends_57 Q n x2 r4 r5 x6 x7 x8 s → h_V X 9 57 [(2, pI x2), (4, pR r4), (5, pR r5), (6, pI x6), (7, pI x7), (8, pI x8)] [] s 0 0 := by
  intro n
  induction n with
  | zero => intro _ _ _ _ _ _ s h; exact h.elim
  | succ n hK57 =>
    intro x2 r4 r5 x6 x7 x8 s h
    have h : w_X11_ends_57b Q (w_X11_ends_57 Q n) x2 r4 r5 x6 x7 x8 s := h
    unfold w_X11_ends_57b at h
    refine v_iload hX dX11_ends_57 5 rfl ?_
    refine v_sipush (v := 300) hX dX11_ends_59 (by decide) ?_
    refine v_icmp_ge (tgt := 96) hX dX11_ends_62 (by decide) (fun c1 => ?_) (fun c1 => ?_)
    · have h := h_T c1 h
      refine v_pick [3] rfl ?_
      exact b_X11_ends_96 hX hE _ h
    · have h := h_E c1 h
      refine v_iload hX dX11_ends_65 4 rfl ?_
      refine v_bipush (v := -9) hX dX11_ends_67 (by decide) ?_
      refine v_icmp_eq (tgt := 96) hX dX11_ends_69 (by decide) (fun c2 => ?_) (fun c2 => ?_)
      · have h := h_T c2 h
        refine v_pick [3] rfl ?_
        exact b_X11_ends_96 hX hE _ h
      · have h := h_E c2 h
        refine v_iinc (c := 1) (lv' := [(6, _), (2, _), (4, _), (5, _), (7, _), (8, _)]) hX dX11_ends_72 3 rfl (by decide) (by decide) rfl ?_
        refine v_aload hX dX11_ends_75 2 rfl ?_
        refine v_iload_n hX dX11_ends_77 1 rfl rfl ?_
        refine v_aload hX dX11_ends_78 3 rfl ?_
        obtain ⟨a3, e_a3, h⟩ := h
        refine v_nn0 e_a3 ?_
        obtain ⟨k4, h⟩ := h
        refine v_getR hX dX11_ends_80 f_RX11_272 rfl k4 ?_
        refine v_iload hX dX11_ends_83 4 rfl ?_
        obtain ⟨a5, e_a5, h⟩ := h
        refine v_nn3 e_a5 ?_
        obtain ⟨k6, h⟩ := h
        refine v_callVi hX dX11_ends_85 c_RX11_378 cV_X1_partBehind (ci := 2) (T := TX1) (N := 4) rfl (by exact k6) [pI _, pR _, pI _] rfl rfl (Nat.le_of_ble_eq_true rfl) (by decide) (by decide) (Nat.zero_le _) (Nat.zero_le _) (m_X1_partBehind h) (fun p8 s7 h => ?_)
        refine v_istore (lv' := [(7, _), (6, _), (2, _), (4, _), (5, _), (8, _)]) hX dX11_ends_88 (by decide) rfl ?_
        refine v_iinc (c := 1) (lv' := [(8, _), (7, _), (6, _), (2, _), (4, _), (5, _)]) hX dX11_ends_90 5 rfl (by decide) (by decide) rfl ?_
        refine v_goto (tgt := 57) hX dX11_ends_93 (by decide) ?_
        refine v_pick [3, 4, 5, 2, 1, 0] rfl ?_
        exact hK57 _ _ _ _ _ _ _ h
set_option maxRecDepth 100000 in
set_option maxHeartbeats 4000000 in
theorem m_X11_ends {Z : h_Z} {o0 : Nat} {x1 : Int32} {x2 : Int32} {x3 : Int32} {s : h_S} {Q : Int32 → h_S → Prop} (h : w_X11_ends o0 x1 x2 x3 s Q) : h_M Z yX11_ends cX11_ends 9 (some .int) 4 107 [pR (some o0), pI x1, pI x2, pI x3] s 0 0 (h_QI Z Q) := by
  refine h_M.of (by decide) (Nat.le_of_ble_eq_true rfl) (fun X hZ hX hE hI => ?_)
  subst hZ
  unfold w_X11_ends at h
  show h_V X 9 0 [(0, pR (some o0)), (1, pI x1), (2, pI x2), (3, pI x3)] [] s 0 0
  refine v_aload_n hX dX11_ends_0 0 rfl rfl ?_
  refine v_iload_n hX dX11_ends_1 1 rfl rfl ?_
  obtain ⟨k1, h⟩ := h
  refine v_callVr hX dX11_ends_2 c_RX11_342 cV_X11_linkAt (ci := 12) (T := TX11) (N := 19) rfl (by exact k1) [pI _] rfl rfl (Nat.le_of_ble_eq_true rfl) (by decide) (by decide) (Nat.zero_le _) (Nat.zero_le _) (m_X11_linkAt h) (fun p3 s2 h => ?_)
  refine v_astore (lv' := [(4, _), (0, _), (1, _), (2, _), (3, _)]) hX dX11_ends_5 (by decide) rfl ?_
  refine v_aload_n hX dX11_ends_7 1 rfl rfl ?_
  refine v_iload_n hX dX11_ends_8 4 rfl rfl ?_
  obtain ⟨k4, h⟩ := h
  refine v_callVr hX dX11_ends_9 c_RX11_263 cV_X11_versionAt (ci := 12) (T := TX11) (N := 19) rfl (by exact k4) [pI _] rfl rfl (Nat.le_of_ble_eq_true rfl) (by decide) (by decide) (Nat.zero_le _) (Nat.zero_le _) (m_X11_versionAt h) (fun p6 s5 h => ?_)
  refine v_astore (lv' := [(5, _), (4, _), (0, _), (1, _), (2, _), (3, _)]) hX dX11_ends_12 (by decide) rfl ?_
  refine v_aload hX dX11_ends_14 1 rfl ?_
  refine v_ifnull (tgt := 24) hX dX11_ends_16 (by decide) (fun c7 => ?_) (fun c7 => ?_)
  · have h := h_T c7 h
    refine v_pick [] rfl ?_
    exact b_X11_ends_24 hX hE _ h
  · have h := h_E c7 h
    refine v_aload hX dX11_ends_19 0 rfl ?_
    refine v_ifnonnull (tgt := 26) hX dX11_ends_21 (by decide) (fun c8 => ?_) (fun c8 => ?_)
    · have h := h_E c8 h
      refine v_iload_n hX dX11_ends_26 4 rfl rfl ?_
      refine v_iconst (v := 2) hX dX11_ends_27 (by decide) ?_
      refine v_callSi hX dX11_ends_28 c_RX11_80 cS_X11_within [pI _, pI _] rfl rfl (Nat.le_of_ble_eq_true rfl) (by decide) (by decide) (Nat.zero_le _) (Nat.zero_le _) (m_X11_within h) (fun p10 s9 h => ?_)
      refine v_if_ne (tgt := 37) hX dX11_ends_31 (by decide) (fun c11 => ?_) (fun c11 => ?_)
      · have h := h_E c11 h
        refine v_iconst (v := 0) hX dX11_ends_37 (by decide) ?_
        refine v_istore (lv' := [(6, _), (5, _), (4, _), (0, _), (1, _), (2, _), (3, _)]) hX dX11_ends_38 (by decide) rfl ?_
        refine v_aload hX dX11_ends_40 2 rfl ?_
        refine v_iload_n hX dX11_ends_42 5 rfl rfl ?_
        refine v_aload hX dX11_ends_43 1 rfl ?_
        obtain ⟨a12, e_a12, h⟩ := h
        refine v_nn0 e_a12 ?_
        obtain ⟨k13, h⟩ := h
        refine v_getR hX dX11_ends_45 f_RX11_272 rfl k13 ?_
        refine v_iconst (v := 0) hX dX11_ends_48 (by decide) ?_
        obtain ⟨a14, e_a14, h⟩ := h
        refine v_nn3 e_a14 ?_
        obtain ⟨k15, h⟩ := h
        refine v_callVi hX dX11_ends_49 c_RX11_374 cV_X1_partFrom (ci := 2) (T := TX1) (N := 4) rfl (by exact k15) [pI _, pR _, pI _] rfl rfl (Nat.le_of_ble_eq_true rfl) (by decide) (by decide) (Nat.zero_le _) (Nat.zero_le _) (m_X1_partFrom h) (fun p17 s16 h => ?_)
        refine v_istore (lv' := [(7, _), (6, _), (5, _), (4, _), (0, _), (1, _), (2, _), (3, _)]) hX dX11_ends_52 (by decide) rfl ?_
        refine v_iconst (v := 0) hX dX11_ends_54 (by decide) ?_
        refine v_istore (lv' := [(8, _), (7, _), (6, _), (5, _), (4, _), (0, _), (1, _), (2, _), (3, _)]) hX dX11_ends_55 (by decide) rfl ?_
        refine v_pick [7, 4, 3, 2, 1, 0] rfl ?_
        obtain ⟨n, h⟩ := h
        exact b_X11_ends_57 hX hE n _ _ _ _ _ _ _ h
      · have h := h_T c11 h
        refine v_bipush (v := -2) hX dX11_ends_34 (by decide) ?_
        exact v_iret hX hE dX11_ends_36 h
    · have h := h_T c8 h
      refine v_pick [] rfl ?_
      exact b_X11_ends_24 hX hE _ h
set_option maxRecDepth 100000 in
set_option maxHeartbeats 4000000 in
theorem b_X11_part_29 {X : h_X} (hX : h_ok X cX11_part 10 RX11 4 107) {Q : Int32 → h_S → Prop} (hE : h_end X (some .int) (h_QI (x_Z X) Q)) (s : h_S) (h : w_X11_part_29 Q s) : h_V X 10 29 [] [] s 0 0 := by
  unfold w_X11_part_29 at h
  refine v_iconst (v := -1) hX dX11_part_29 (by decide) ?_
  exact v_iret hX hE dX11_part_30 h
set_option maxRecDepth 100000 in
set_option maxHeartbeats 4000000 in
theorem b_X11_part_48 {X : h_X} (hX : h_ok X cX11_part 10 RX11 4 107) {Q : Int32 → h_S → Prop} (hE : h_end X (some .int) (h_QI (x_Z X) Q)) (s : h_S) (h : w_X11_part_48 Q s) : h_V X 10 48 [] [] s 0 0 := by
  unfold w_X11_part_48 at h
  refine v_bipush (v := -2) hX dX11_part_48 (by decide) ?_
  exact v_iret hX hE dX11_part_50 h
set_option maxRecDepth 100000 in
set_option maxHeartbeats 4000000 in
theorem b_X11_part_126 {X : h_X} (hX : h_ok X cX11_part 10 RX11 4 107) {Q : Int32 → h_S → Prop} (hE : h_end X (some .int) (h_QI (x_Z X) Q)) (s : h_S) (h : w_X11_part_126 Q s) : h_V X 10 126 [] [] s 0 0 := by
  unfold w_X11_part_126 at h
  refine v_iconst (v := -1) hX dX11_part_126 (by decide) ?_
  exact v_iret hX hE dX11_part_127 h
set_option maxRecDepth 100000 in
set_option maxHeartbeats 4000000 in
theorem b_X11_part_111 {X : h_X} (hX : h_ok X cX11_part 10 RX11 4 107) {Q : Int32 → h_S → Prop} (hE : h_end X (some .int) (h_QI (x_Z X) Q)) {x2 : Int32} {x4 : Int32} {x5 : Int32} {r6 : Option Nat} {r7 : Option Nat} {x8 : Int32} (s : h_S) (h : w_X11_part_111 Q x2 x4 x5 r6 r7 x8 s) : h_V X 10 111 [(2, pI x2), (4, pI x4), (5, pI x5), (6, pR r6), (7, pR r7), (8, pI x8)] [] s 0 0 := by
  unfold w_X11_part_111 at h
  refine v_iload hX dX11_part_111 5 rfl ?_
  refine v_bipush (v := -9) hX dX11_part_113 (by decide) ?_
  refine v_icmp_eq (tgt := 126) hX dX11_part_115 (by decide) (fun c1 => ?_) (fun c1 => ?_)
  · have h := h_T c1 h
    refine v_pick [] rfl ?_
    exact b_X11_part_126 hX hE _ h
  · have h := h_E c1 h
    refine v_iload hX dX11_part_118 1 rfl ?_
    refine v_sipush (v := 300) hX dX11_part_120 (by decide) ?_
    refine v_icmp_lt (tgt := 128) hX dX11_part_123 (by decide) (fun c2 => ?_) (fun c2 => ?_)
    · have h := h_T c2 h
      refine v_iload hX dX11_part_128 2 rfl ?_
      refine v_gen (fun q16 e_q16 => ?_)
      rw [← e_q16] at h
      by_cases c3 : q16 = (0 : Int32)
      · have h := h_T c3 h
        refine v_lookup (off := 26) (tgt := 156) hX dX11_part_130 (by decide) (by rw [c3]; decide) (by decide) ?_
        refine v_iload hX dX11_part_156 5 rfl ?_
        exact v_iret hX hE dX11_part_158 h
      · have h := h_E c3 h
        by_cases c4 : q16 = (1 : Int32)
        · have h := h_T c4 h
          refine v_lookup (off := 29) (tgt := 159) hX dX11_part_130 (by decide) (by rw [c4]; decide) (by decide) ?_
          refine v_aload hX dX11_part_159 4 rfl ?_
          obtain ⟨a5, e_a5, h⟩ := h
          refine v_nn0 e_a5 ?_
          obtain ⟨k6, h⟩ := h
          refine v_getR hX dX11_part_161 f_RX11_272 rfl k6 ?_
          refine v_iload hX dX11_part_164 5 rfl ?_
          obtain ⟨a7, e_a7, h⟩ := h
          refine v_nn1 e_a7 ?_
          obtain ⟨k8, h⟩ := h
          obtain ⟨i9, h⟩ := h
          refine v_iald hX dX11_part_166 k8 i9 ?_
          exact v_iret hX hE dX11_part_167 h
        · have h := h_E c4 h
          refine v_lookup (off := 38) (tgt := 168) hX dX11_part_130 (by decide) (by have n_c3 := Ne.symm (h_ti c3 (n := 0) rfl); have n_c4 := Ne.symm (h_ti c4 (n := 1) rfl); simp [Op.lookupswitch.offset, n_c3, n_c4]) (by decide) ?_
          refine v_aload hX dX11_part_168 3 rfl ?_
          refine v_iload_n hX dX11_part_170 0 rfl rfl ?_
          refine v_aload hX dX11_part_171 4 rfl ?_
          obtain ⟨a10, e_a10, h⟩ := h
          refine v_nn0 e_a10 ?_
          obtain ⟨k11, h⟩ := h
          refine v_getR hX dX11_part_173 f_RX11_272 rfl k11 ?_
          refine v_iload hX dX11_part_176 5 rfl ?_
          obtain ⟨a12, e_a12, h⟩ := h
          refine v_nn3 e_a12 ?_
          obtain ⟨k13, h⟩ := h
          refine v_callVi hX dX11_part_178 c_RX11_381 cV_X1_partSize (ci := 2) (T := TX1) (N := 4) rfl (by exact k13) [pI _, pR _, pI _] rfl rfl (Nat.le_of_ble_eq_true rfl) (by decide) (by decide) (Nat.zero_le _) (Nat.zero_le _) (m_X1_partSize h) (fun p15 s14 h => ?_)
          exact v_iret hX hE dX11_part_181 h
    · have h := h_E c2 h
      refine v_pick [] rfl ?_
      exact b_X11_part_126 hX hE _ h
set_option maxRecDepth 100000 in
set_option maxHeartbeats 4000000 in
theorem b_X11_part_68 {X : h_X} (hX : h_ok X cX11_part 10 RX11 4 107) {Q : Int32 → h_S → Prop} (hE : h_end X (some .int) (h_QI (x_Z X) Q)) : ∀ (n : Nat) (x2 : Int32) (x4 : Int32) (x5 : Int32) (r6 : Option Nat) (r7 : Option Nat) (x8 : Int32) (x9 : Int32) (s : h_S), w_X11_part_68 Q n x2 x4 x5 r6 r7 x8 x9 s → h_V X 10 68 [(2, pI x2), (4, pI x4), (5, pI x5), (6, pR r6), (7, pR r7), (8, pI x8), (9, pI x9)] [] s 0 0 := by
  intro n
  induction n with
  | zero => intro _ _ _ _ _ _ _ s h; exact h.elim
  | succ n hK68 =>
    intro x2 x4 x5 r6 r7 x8 x9 s h
    have h : w_X11_part_68b Q (w_X11_part_68 Q n) x2 x4 x5 r6 r7 x8 x9 s := h
    unfold w_X11_part_68b at h
    refine v_iload hX dX11_part_68 6 rfl ?_
    refine v_sipush (v := 300) hX dX11_part_70 (by decide) ?_
    refine v_icmp_ge (tgt := 111) hX dX11_part_73 (by decide) (fun c1 => ?_) (fun c1 => ?_)
    · have h := h_T c1 h
      refine v_pick [0, 1, 2, 3, 4, 5] rfl ?_
      exact b_X11_part_111 hX hE _ h
    · have h := h_E c1 h
      refine v_iload hX dX11_part_76 6 rfl ?_
      refine v_iload hX dX11_part_78 1 rfl ?_
      refine v_icmp_ge (tgt := 111) hX dX11_part_80 (by decide) (fun c2 => ?_) (fun c2 => ?_)
      · have h := h_T c2 h
        refine v_pick [0, 1, 2, 3, 4, 5] rfl ?_
        exact b_X11_part_111 hX hE _ h
      · have h := h_E c2 h
        refine v_iload hX dX11_part_83 5 rfl ?_
        refine v_bipush (v := -9) hX dX11_part_85 (by decide) ?_
        refine v_icmp_eq (tgt := 111) hX dX11_part_87 (by decide) (fun c3 => ?_) (fun c3 => ?_)
        · have h := h_T c3 h
          refine v_pick [0, 1, 2, 3, 4, 5] rfl ?_
          exact b_X11_part_111 hX hE _ h
        · have h := h_E c3 h
          refine v_aload hX dX11_part_90 3 rfl ?_
          refine v_iload_n hX dX11_part_92 0 rfl rfl ?_
          refine v_aload hX dX11_part_93 4 rfl ?_
          obtain ⟨a4, e_a4, h⟩ := h
          refine v_nn0 e_a4 ?_
          obtain ⟨k5, h⟩ := h
          refine v_getR hX dX11_part_95 f_RX11_272 rfl k5 ?_
          refine v_iload hX dX11_part_98 5 rfl ?_
          obtain ⟨a6, e_a6, h⟩ := h
          refine v_nn3 e_a6 ?_
          obtain ⟨k7, h⟩ := h
          refine v_callVi hX dX11_part_100 c_RX11_378 cV_X1_partBehind (ci := 2) (T := TX1) (N := 4) rfl (by exact k7) [pI _, pR _, pI _] rfl rfl (Nat.le_of_ble_eq_true rfl) (by decide) (by decide) (Nat.zero_le _) (Nat.zero_le _) (m_X1_partBehind h) (fun p9 s8 h => ?_)
          refine v_istore (lv' := [(8, _), (2, _), (4, _), (5, _), (6, _), (7, _), (9, _)]) hX dX11_part_103 (by decide) rfl ?_
          refine v_iinc (c := 1) (lv' := [(9, _), (8, _), (2, _), (4, _), (5, _), (6, _), (7, _)]) hX dX11_part_105 6 rfl (by decide) (by decide) rfl ?_
          refine v_goto (tgt := 68) hX dX11_part_108 (by decide) ?_
          refine v_pick [2, 3, 4, 5, 6, 1, 0] rfl ?_
          exact hK68 _ _ _ _ _ _ _ _ h
set_option maxRecDepth 100000 in
set_option maxHeartbeats 4000000 in
theorem m_X11_part {Z : h_Z} {o0 : Nat} {x1 : Int32} {x2 : Int32} {x3 : Int32} {x4 : Int32} {x5 : Int32} {s : h_S} {Q : Int32 → h_S → Prop} (h : w_X11_part o0 x1 x2 x3 x4 x5 s Q) : h_M Z yX11_part cX11_part 10 (some .int) 4 107 [pR (some o0), pI x1, pI x2, pI x3, pI x4, pI x5] s 0 0 (h_QI Z Q) := by
  refine h_M.of (by decide) (Nat.le_of_ble_eq_true rfl) (fun X hZ hX hE hI => ?_)
  subst hZ
  unfold w_X11_part at h
  show h_V X 10 0 [(0, pR (some o0)), (1, pI x1), (2, pI x2), (3, pI x3), (4, pI x4), (5, pI x5)] [] s 0 0
  refine v_aload_n hX dX11_part_0 0 rfl rfl ?_
  refine v_iload_n hX dX11_part_1 1 rfl rfl ?_
  obtain ⟨k1, h⟩ := h
  refine v_callVr hX dX11_part_2 c_RX11_342 cV_X11_linkAt (ci := 12) (T := TX11) (N := 19) rfl (by exact k1) [pI _] rfl rfl (Nat.le_of_ble_eq_true rfl) (by decide) (by decide) (Nat.zero_le _) (Nat.zero_le _) (m_X11_linkAt h) (fun p3 s2 h => ?_)
  refine v_astore (lv' := [(6, _), (0, _), (1, _), (2, _), (3, _), (4, _), (5, _)]) hX dX11_part_5 (by decide) rfl ?_
  refine v_aload_n hX dX11_part_7 1 rfl rfl ?_
  refine v_iload_n hX dX11_part_8 4 rfl rfl ?_
  obtain ⟨k4, h⟩ := h
  refine v_callVr hX dX11_part_9 c_RX11_263 cV_X11_versionAt (ci := 12) (T := TX11) (N := 19) rfl (by exact k4) [pI _] rfl rfl (Nat.le_of_ble_eq_true rfl) (by decide) (by decide) (Nat.zero_le _) (Nat.zero_le _) (m_X11_versionAt h) (fun p6 s5 h => ?_)
  refine v_astore (lv' := [(7, _), (6, _), (0, _), (1, _), (2, _), (3, _), (4, _), (5, _)]) hX dX11_part_12 (by decide) rfl ?_
  refine v_aload hX dX11_part_14 1 rfl ?_
  refine v_ifnull (tgt := 29) hX dX11_part_16 (by decide) (fun c7 => ?_) (fun c7 => ?_)
  · have h := h_T c7 h
    refine v_pick [] rfl ?_
    exact b_X11_part_29 hX hE _ h
  · have h := h_E c7 h
    refine v_aload hX dX11_part_19 0 rfl ?_
    refine v_ifnull (tgt := 29) hX dX11_part_21 (by decide) (fun c8 => ?_) (fun c8 => ?_)
    · have h := h_T c8 h
      refine v_pick [] rfl ?_
      exact b_X11_part_29 hX hE _ h
    · have h := h_E c8 h
      refine v_iload hX dX11_part_24 6 rfl ?_
      refine v_if_ge (tgt := 31) hX dX11_part_26 (by decide) (fun c9 => ?_) (fun c9 => ?_)
      · have h := h_T c9 h
        refine v_iload_n hX dX11_part_31 4 rfl rfl ?_
        refine v_iconst (v := 2) hX dX11_part_32 (by decide) ?_
        refine v_callSi hX dX11_part_33 c_RX11_80 cS_X11_within [pI _, pI _] rfl rfl (Nat.le_of_ble_eq_true rfl) (by decide) (by decide) (Nat.zero_le _) (Nat.zero_le _) (m_X11_within h) (fun p11 s10 h => ?_)
        refine v_if_eq (tgt := 48) hX dX11_part_36 (by decide) (fun c12 => ?_) (fun c12 => ?_)
        · have h := h_T c12 h
          refine v_pick [] rfl ?_
          exact b_X11_part_48 hX hE _ h
        · have h := h_E c12 h
          refine v_iload hX dX11_part_39 7 rfl ?_
          refine v_iconst (v := 3) hX dX11_part_41 (by decide) ?_
          refine v_callSi hX dX11_part_42 c_RX11_80 cS_X11_within [pI _, pI _] rfl rfl (Nat.le_of_ble_eq_true rfl) (by decide) (by decide) (Nat.zero_le _) (Nat.zero_le _) (m_X11_within h) (fun p14 s13 h => ?_)
          refine v_if_ne (tgt := 51) hX dX11_part_45 (by decide) (fun c15 => ?_) (fun c15 => ?_)
          · have h := h_E c15 h
            refine v_aload hX dX11_part_51 1 rfl ?_
            refine v_iload_n hX dX11_part_53 4 rfl rfl ?_
            refine v_aload hX dX11_part_54 0 rfl ?_
            obtain ⟨a16, e_a16, h⟩ := h
            refine v_nn0 e_a16 ?_
            obtain ⟨k17, h⟩ := h
            refine v_getR hX dX11_part_56 f_RX11_272 rfl k17 ?_
            refine v_iconst (v := 0) hX dX11_part_59 (by decide) ?_
            obtain ⟨a18, e_a18, h⟩ := h
            refine v_nn3 e_a18 ?_
            obtain ⟨k19, h⟩ := h
            refine v_callVi hX dX11_part_60 c_RX11_374 cV_X1_partFrom (ci := 2) (T := TX1) (N := 4) rfl (by exact k19) [pI _, pR _, pI _] rfl rfl (Nat.le_of_ble_eq_true rfl) (by decide) (by decide) (Nat.zero_le _) (Nat.zero_le _) (m_X1_partFrom h) (fun p21 s20 h => ?_)
            refine v_istore (lv' := [(8, _), (7, _), (6, _), (0, _), (1, _), (2, _), (3, _), (4, _), (5, _)]) hX dX11_part_63 (by decide) rfl ?_
            refine v_iconst (v := 0) hX dX11_part_65 (by decide) ?_
            refine v_istore (lv' := [(9, _), (8, _), (7, _), (6, _), (0, _), (1, _), (2, _), (3, _), (4, _), (5, _)]) hX dX11_part_66 (by decide) rfl ?_
            refine v_pick [6, 8, 9, 3, 2, 1, 0] rfl ?_
            obtain ⟨n, h⟩ := h
            exact b_X11_part_68 hX hE n _ _ _ _ _ _ _ _ h
          · have h := h_T c15 h
            refine v_pick [] rfl ?_
            exact b_X11_part_48 hX hE _ h
      · have h := h_E c9 h
        refine v_pick [] rfl ?_
        exact b_X11_part_29 hX hE _ h
set_option maxRecDepth 100000 in
set_option maxHeartbeats 4000000 in
theorem b_X11_refusedCells_41 {X : h_X} (hX : h_ok X cX11_refusedCells 6 RX11 2 45) {Q : Int32 → h_S → Prop} (hE : h_end X (some .int) (h_QI (x_Z X) Q)) {y0 : Int32} (s : h_S) (h : w_X11_refusedCells_41 Q y0 s) : h_V X 6 41 [] [pI y0] s 0 0 := by
  unfold w_X11_refusedCells_41 at h
  exact v_iret hX hE dX11_refusedCells_41 h
set_option maxRecDepth 100000 in
set_option maxHeartbeats 4000000 in
theorem m_X11_refusedCells {Z : h_Z} {o0 : Nat} {x1 : Int32} {x2 : Int32} {x3 : Int32} {x4 : Int32} {s : h_S} {Q : Int32 → h_S → Prop} (h : w_X11_refusedCells o0 x1 x2 x3 x4 s Q) : h_M Z yX11_refusedCells cX11_refusedCells 6 (some .int) 2 45 [pR (some o0), pI x1, pI x2, pI x3, pI x4] s 0 0 (h_QI Z Q) := by
  refine h_M.of (by decide) (Nat.le_of_ble_eq_true rfl) (fun X hZ hX hE hI => ?_)
  subst hZ
  unfold w_X11_refusedCells at h
  show h_V X 6 0 [(0, pR (some o0)), (1, pI x1), (2, pI x2), (3, pI x3), (4, pI x4)] [] s 0 0
  refine v_iload_n hX dX11_refusedCells_0 2 rfl rfl ?_
  refine v_iconst (v := 3) hX dX11_refusedCells_1 (by decide) ?_
  refine v_callSi hX dX11_refusedCells_2 c_RX11_80 cS_X11_within [pI _, pI _] rfl rfl (Nat.le_of_ble_eq_true rfl) (by decide) (by decide) (Nat.zero_le _) (Nat.zero_le _) (m_X11_within h) (fun p2 s1 h => ?_)
  refine v_if_ne (tgt := 11) hX dX11_refusedCells_5 (by decide) (fun c3 => ?_) (fun c3 => ?_)
  · have h := h_E c3 h
    refine v_aload_n hX dX11_refusedCells_11 0 rfl rfl ?_
    obtain ⟨k4, h⟩ := h
    refine v_getR hX dX11_refusedCells_12 f_RX11_45 rfl k4 ?_
    refine v_iload_n hX dX11_refusedCells_15 1 rfl rfl ?_
    obtain ⟨a5, e_a5, h⟩ := h
    refine v_nn1 e_a5 ?_
    obtain ⟨k6, h⟩ := h
    obtain ⟨i7, h⟩ := h
    refine v_aald (k := 5) hX dX11_refusedCells_16 rfl rfl (by decide) (by decide) k6 i7 ?_
    refine v_iload_n hX dX11_refusedCells_17 2 rfl rfl ?_
    refine v_iload_n hX dX11_refusedCells_18 3 rfl rfl ?_
    refine v_iload hX dX11_refusedCells_19 4 rfl ?_
    obtain ⟨a8, e_a8, h⟩ := h
    refine v_nn3 e_a8 ?_
    obtain ⟨k9, h⟩ := h
    refine v_callVi hX dX11_refusedCells_21 c_RX11_503 cV_X5_faultOf (ci := 6) (T := TX5) (N := 3) rfl (by exact k9) [pI _, pI _, pI _] rfl rfl (Nat.le_of_ble_eq_true rfl) (by decide) (by decide) (Nat.zero_le _) (Nat.zero_le _) (m_X5_faultOf h) (fun p11 s10 h => ?_)
    refine v_istore (lv' := [(5, _), (0, _), (1, _), (2, _), (3, _), (4, _)]) hX dX11_refusedCells_24 (by decide) rfl ?_
    refine v_iload hX dX11_refusedCells_26 0 rfl ?_
    refine v_if_ne (tgt := 35) hX dX11_refusedCells_28 (by decide) (fun c12 => ?_) (fun c12 => ?_)
    · have h := h_E c12 h
      refine v_aload_n hX dX11_refusedCells_35 1 rfl rfl ?_
      refine v_iload hX dX11_refusedCells_36 0 rfl ?_
      obtain ⟨k13, h⟩ := h
      refine v_callVi hX dX11_refusedCells_38 c_RX11_351 cV_X11_failed (ci := 12) (T := TX11) (N := 19) rfl (by exact k13) [pI _] rfl rfl (Nat.le_of_ble_eq_true rfl) (by decide) (by decide) (Nat.zero_le _) (Nat.zero_le _) (m_X11_failed h) (fun p15 s14 h => ?_)
      refine v_pick [] rfl ?_
      exact b_X11_refusedCells_41 hX hE _ h
    · have h := h_T c12 h
      refine v_iconst (v := 0) hX dX11_refusedCells_31 (by decide) ?_
      refine v_goto (tgt := 41) hX dX11_refusedCells_32 (by decide) ?_
      refine v_pick [] rfl ?_
      exact b_X11_refusedCells_41 hX hE _ h
  · have h := h_T c3 h
    refine v_bipush (v := -2) hX dX11_refusedCells_8 (by decide) ?_
    exact v_iret hX hE dX11_refusedCells_10 h
set_option maxRecDepth 100000 in
set_option maxHeartbeats 4000000 in
theorem m_X11_keepRight {Z : h_Z} {o0 : Nat} {r1 : Option Nat} {s : h_S} {mc ms : Nat} {Q : Int32 → h_S → Prop} (h : w_X11_keepRight Z.2.2.2.2 o0 r1 s mc ms Q) : h_M Z yX11_keepRight cX11_keepRight 2 (some .int) 7 191 [pR (some o0), pR r1] s mc ms (h_QI Z Q) := by
  refine h_M.of (by decide) (Nat.le_of_ble_eq_true rfl) (fun X hZ hX hE hI => ?_)
  subst hZ
  unfold w_X11_keepRight at h
  show h_V X 2 0 [(0, pR (some o0)), (1, pR r1)] [] s mc ms
  refine v_aload_n hX dX11_keepRight_0 0 rfl rfl ?_
  obtain ⟨k1, h⟩ := h
  refine v_getR hX dX11_keepRight_1 f_RX11_40 rfl k1 ?_
  obtain ⟨a2, e_a2, h⟩ := h
  refine v_nn0 e_a2 ?_
  obtain ⟨k3, h⟩ := h
  refine v_callVi hX dX11_keepRight_4 c_RX11_246 cV_Jx4a65c_size_8abf5 (ci := 0) (T := TJx4a65c) (N := 3) rfl (by exact k3) [] rfl rfl (Nat.le_of_ble_eq_true rfl) (by decide) (by decide) (Nat.zero_le _) (Nat.zero_le _) (m_Jx4a65c_size_8abf5 h) (fun p5 s4 h => ?_)
  refine v_bipush (v := 20) hX dX11_keepRight_7 (by decide) ?_
  refine v_icmp_lt (tgt := 15) hX dX11_keepRight_9 (by decide) (fun c6 => ?_) (fun c6 => ?_)
  · have h := h_T c6 h
    refine v_aload_n hX dX11_keepRight_15 0 rfl rfl ?_
    obtain ⟨k7, h⟩ := h
    refine v_getR hX dX11_keepRight_16 f_RX11_40 rfl k7 ?_
    refine v_aload_n hX dX11_keepRight_19 1 rfl rfl ?_
    obtain ⟨a8, e_a8, h⟩ := h
    refine v_nn1 e_a8 ?_
    obtain ⟨k9, h⟩ := h
    obtain ⟨mc12, ms13, b14, b15, h⟩ := h
    refine v_callVi hX dX11_keepRight_20 c_RX11_259 cV_Jx4a65c_add_9ea2d (ci := 0) (T := TJx4a65c) (N := 3) rfl (by exact k9) [pR _] rfl rfl (Nat.le_of_ble_eq_true rfl) (by decide) (by decide) b14 b15 (m_Jx4a65c_add_9ea2d h) (fun p11 s10 h => ?_)
    refine v_pop hX dX11_keepRight_23 rfl ?_
    refine v_aload_n hX dX11_keepRight_24 0 rfl rfl ?_
    refine v_aload_n hX dX11_keepRight_25 0 rfl rfl ?_
    obtain ⟨k16, h⟩ := h
    refine v_getR hX dX11_keepRight_26 f_RX11_40 rfl k16 ?_
    obtain ⟨a17, e_a17, h⟩ := h
    refine v_nn0 e_a17 ?_
    obtain ⟨k18, h⟩ := h
    refine v_callVi hX dX11_keepRight_29 c_RX11_246 cV_Jx4a65c_size_8abf5 (ci := 0) (T := TJx4a65c) (N := 3) rfl (by exact k18) [] rfl rfl (Nat.le_of_ble_eq_true rfl) (by decide) (by decide) (Nat.zero_le _) (Nat.zero_le _) (m_Jx4a65c_size_8abf5 h) (fun p20 s19 h => ?_)
    refine v_iconst (v := 1) hX dX11_keepRight_32 (by decide) ?_
    refine v_isub hX dX11_keepRight_33 ?_
    obtain ⟨k21, h⟩ := h
    refine v_callVi hX dX11_keepRight_34 c_RX11_76 cV_X11_acted (ci := 12) (T := TX11) (N := 19) rfl (by exact k21) [pI _] rfl rfl (Nat.le_of_ble_eq_true rfl) (by decide) (by decide) (Nat.zero_le _) (Nat.zero_le _) (m_X11_acted h) (fun p23 s22 h => ?_)
    exact v_iret hX hE dX11_keepRight_37 h
  · have h := h_E c6 h
    refine v_bipush (v := -4) hX dX11_keepRight_12 (by decide) ?_
    exact v_iret hX hE dX11_keepRight_14 h
set_option maxRecDepth 100000 in
set_option maxHeartbeats 4000000 in
theorem b_X11_right_21 {X : h_X} (hX : h_ok X cX11_right 9 RX11 8 212) {Q : Int32 → h_S → Prop} (hE : h_end X (some .int) (h_QI (x_Z X) Q)) (s : h_S) {bc bs : Nat} (h : w_X11_right_21 (x_G X) Q s bc bs) : h_V X 9 21 [] [] s bc bs := by
  unfold w_X11_right_21 at h
  refine v_iconst (v := -1) hX dX11_right_21 (by decide) ?_
  exact v_iret hX hE dX11_right_22 h
set_option maxRecDepth 100000 in
set_option maxHeartbeats 4000000 in
theorem m_X11_right {Z : h_Z} {o0 : Nat} {x1 : Int32} {x2 : Int32} {x3 : Int32} {x4 : Int32} {x5 : Int32} {s : h_S} {mc ms : Nat} {Q : Int32 → h_S → Prop} (h : w_X11_right Z.2.2.2.2 o0 x1 x2 x3 x4 x5 s mc ms Q) : h_M Z yX11_right cX11_right 9 (some .int) 8 212 [pR (some o0), pI x1, pI x2, pI x3, pI x4, pI x5] s mc ms (h_QI Z Q) := by
  refine h_M.of (by decide) (Nat.le_of_ble_eq_true rfl) (fun X hZ hX hE hI => ?_)
  subst hZ
  unfold w_X11_right at h
  show h_V X 9 0 [(0, pR (some o0)), (1, pI x1), (2, pI x2), (3, pI x3), (4, pI x4), (5, pI x5)] [] s mc ms
  refine v_aload_n hX dX11_right_0 0 rfl rfl ?_
  refine v_iconst (v := 0) hX dX11_right_1 (by decide) ?_
  obtain ⟨k1, h⟩ := h
  refine v_putI hX dX11_right_2 f_RX11_102 k1 ?_
  refine v_aload_n hX dX11_right_5 0 rfl rfl ?_
  refine v_iload_n hX dX11_right_6 1 rfl rfl ?_
  refine v_callVi hX dX11_right_7 c_RX11_152 cV_X11_isWriting (ci := 12) (T := TX11) (N := 19) rfl (by exact k1) [pI _] rfl rfl (Nat.le_of_ble_eq_true rfl) (by decide) (by decide) (Nat.zero_le _) (Nat.zero_le _) (m_X11_isWriting h) (fun p4 s3 h => ?_)
  refine v_if_eq (tgt := 21) hX dX11_right_10 (by decide) (fun c5 => ?_) (fun c5 => ?_)
  · have h := h_T c5 h
    refine v_pick [] rfl ?_
    exact b_X11_right_21 hX hE _ h
  · have h := h_E c5 h
    refine v_iload_n hX dX11_right_13 2 rfl rfl ?_
    refine v_iconst (v := 4) hX dX11_right_14 (by decide) ?_
    refine v_callSi hX dX11_right_15 c_RX11_80 cS_X11_within [pI _, pI _] rfl rfl (Nat.le_of_ble_eq_true rfl) (by decide) (by decide) (Nat.zero_le _) (Nat.zero_le _) (m_X11_within h) (fun p7 s6 h => ?_)
    refine v_if_ne (tgt := 23) hX dX11_right_18 (by decide) (fun c8 => ?_) (fun c8 => ?_)
    · have h := h_E c8 h
      refine v_aload_n hX dX11_right_23 0 rfl rfl ?_
      refine v_iload_n hX dX11_right_24 2 rfl rfl ?_
      refine v_iload_n hX dX11_right_25 3 rfl rfl ?_
      refine v_iload hX dX11_right_26 4 rfl ?_
      refine v_iload hX dX11_right_28 5 rfl ?_
      obtain ⟨k9, h⟩ := h
      refine v_callVi hX dX11_right_30 c_RX11_108 cV_X11_refusedCells (ci := 12) (T := TX11) (N := 19) rfl (by exact k9) [pI _, pI _, pI _, pI _] rfl rfl (Nat.le_of_ble_eq_true rfl) (by decide) (by decide) (Nat.zero_le _) (Nat.zero_le _) (m_X11_refusedCells h) (fun p11 s10 h => ?_)
      refine v_istore (lv' := [(6, _), (0, _), (1, _), (2, _), (3, _), (4, _), (5, _)]) hX dX11_right_33 (by decide) rfl ?_
      refine v_iload hX dX11_right_35 0 rfl ?_
      refine v_if_eq (tgt := 43) hX dX11_right_37 (by decide) (fun c12 => ?_) (fun c12 => ?_)
      · have h := h_T c12 h
        obtain ⟨b15, b16, h⟩ := h
        refine v_new hX dX11_right_43 n_RX11_384 b15 b16 (fun q13 k14 => ?_)
        have h := h q13 k14
        refine v_dup hX dX11_right_46 rfl ?_
        refine v_iload_n hX dX11_right_47 2 rfl rfl ?_
        refine v_aload_n hX dX11_right_48 1 rfl rfl ?_
        obtain ⟨k20, h⟩ := h
        refine v_getI hX dX11_right_49 f_RX11_84 rfl k20 ?_
        refine v_iconst (v := 1) hX dX11_right_52 (by decide) ?_
        refine v_iadd hX dX11_right_53 ?_
        refine v_callIv hX dX11_right_54 c_RX11_386 cI_X3_init [pI _, pI _] rfl rfl (Nat.le_of_ble_eq_true rfl) (by decide) (by decide) (Nat.zero_le _) (Nat.zero_le _) (m_X3_init h) (fun s21 h => ?_)
        refine v_astore (lv' := [(7, _), (6, _), (0, _), (1, _), (2, _), (3, _), (4, _), (5, _)]) hX dX11_right_57 (by decide) rfl ?_
        refine v_aload hX dX11_right_59 0 rfl ?_
        refine v_aload_n hX dX11_right_61 2 rfl rfl ?_
        obtain ⟨k23, h⟩ := h
        refine v_getR hX dX11_right_62 f_RX11_45 rfl k23 ?_
        refine v_iload_n hX dX11_right_65 4 rfl rfl ?_
        obtain ⟨a24, e_a24, h⟩ := h
        refine v_nn1 e_a24 ?_
        obtain ⟨k25, h⟩ := h
        obtain ⟨i26, h⟩ := h
        refine v_aald (k := 5) hX dX11_right_66 rfl rfl (by decide) (by decide) k25 i26 ?_
        refine v_iload hX dX11_right_67 6 rfl ?_
        refine v_iload hX dX11_right_69 7 rfl ?_
        obtain ⟨k27, h⟩ := h
        refine v_callVi hX dX11_right_71 c_RX11_388 cV_X3_readText (ci := 4) (T := TX3) (N := 10) rfl (by exact k27) [pR _, pI _, pI _] rfl rfl (Nat.le_of_ble_eq_true rfl) (by decide) (by decide) (Nat.zero_le _) (Nat.zero_le _) (m_X3_readText h) (fun p29 s28 h => ?_)
        refine v_istore (lv' := [(8, _), (7, _), (6, _), (0, _), (1, _), (2, _), (3, _), (4, _), (5, _)]) hX dX11_right_74 (by decide) rfl ?_
        refine v_iload hX dX11_right_76 0 rfl ?_
        refine v_bipush (v := -9) hX dX11_right_78 (by decide) ?_
        refine v_icmp_eq (tgt := 89) hX dX11_right_80 (by decide) (fun c30 => ?_) (fun c30 => ?_)
        · have h := h_T c30 h
          refine v_aload_n hX dX11_right_89 3 rfl rfl ?_
          refine v_aload hX dX11_right_90 1 rfl ?_
          obtain ⟨k31, h⟩ := h
          obtain ⟨mc34, ms35, b36, b37, h⟩ := h
          refine v_callVi hX dX11_right_92 c_RX11_392 cV_X11_keepRight (ci := 12) (T := TX11) (N := 19) rfl (by exact k31) [pR _] rfl rfl (Nat.le_of_ble_eq_true rfl) (by decide) (by decide) b36 b37 (m_X11_keepRight h) (fun p33 s32 h => ?_)
          exact v_iret hX hE dX11_right_95 h
        · have h := h_E c30 h
          refine v_bipush (v := -100) hX dX11_right_83 (by decide) ?_
          refine v_iload hX dX11_right_85 0 rfl ?_
          refine v_isub hX dX11_right_87 ?_
          exact v_iret hX hE dX11_right_88 h
      · have h := h_E c12 h
        refine v_iload hX dX11_right_40 0 rfl ?_
        exact v_iret hX hE dX11_right_42 h
    · have h := h_T c8 h
      refine v_pick [] rfl ?_
      exact b_X11_right_21 hX hE _ h
set_option maxRecDepth 100000 in
set_option maxHeartbeats 4000000 in
theorem b_X11_allows_20 {X : h_X} (hX : h_ok X cX11_allows 5 RX11 2 43) {Q : Int32 → h_S → Prop} (hE : h_end X (some .boolean) (h_QI (x_Z X) Q)) (s : h_S) (h : w_X11_allows_20 Q s) : h_V X 5 20 [] [] s 0 0 := by
  unfold w_X11_allows_20 at h
  refine v_iconst (v := 0) hX dX11_allows_20 (by decide) ?_
  exact v_zret hX hE dX11_allows_21 (Or.inl rfl) h
set_option maxRecDepth 100000 in
set_option maxHeartbeats 4000000 in
theorem b_X11_allows_45 {X : h_X} (hX : h_ok X cX11_allows 5 RX11 2 43) {Q : Int32 → h_S → Prop} (hE : h_end X (some .boolean) (h_QI (x_Z X) Q)) {y0 : Int32} (s : h_S) (h : w_X11_allows_45 Q y0 s) : h_V X 5 45 [] [pI y0] s 0 0 := by
  unfold w_X11_allows_45 at h
  exact v_zret hX hE dX11_allows_45 h.1 h.2
set_option maxRecDepth 100000 in
set_option maxHeartbeats 4000000 in
theorem b_X11_allows_69 {X : h_X} (hX : h_ok X cX11_allows 5 RX11 2 43) {Q : Int32 → h_S → Prop} (hE : h_end X (some .boolean) (h_QI (x_Z X) Q)) {y0 : Int32} (s : h_S) (h : w_X11_allows_69 Q y0 s) : h_V X 5 69 [] [pI y0] s 0 0 := by
  unfold w_X11_allows_69 at h
  exact v_zret hX hE dX11_allows_69 h.1 h.2
set_option maxRecDepth 100000 in
set_option maxHeartbeats 4000000 in
theorem m_X11_allows {Z : h_Z} {o0 : Nat} {r1 : Option Nat} {x2 : Int32} {x3 : Int32} {x4 : Int32} {s : h_S} {Q : Int32 → h_S → Prop} (h : w_X11_allows o0 r1 x2 x3 x4 s Q) : h_M Z yX11_allows cX11_allows 5 (some .boolean) 2 43 [pR (some o0), pR r1, pI x2, pI x3, pI x4] s 0 0 (h_QI Z Q) := by
  refine h_M.of (by decide) (Nat.le_of_ble_eq_true rfl) (fun X hZ hX hE hI => ?_)
  subst hZ
  unfold w_X11_allows at h
  show h_V X 5 0 [(0, pR (some o0)), (1, pR r1), (2, pI x2), (3, pI x3), (4, pI x4)] [] s 0 0
  refine v_aload_n hX dX11_allows_0 1 rfl rfl ?_
  refine v_iload hX dX11_allows_1 4 rfl ?_
  obtain ⟨a1, e_a1, h⟩ := h
  refine v_nn1 e_a1 ?_
  obtain ⟨k2, h⟩ := h
  refine v_callVi hX dX11_allows_3 c_RX11_534 cV_X3_holdsAt (ci := 4) (T := TX3) (N := 10) rfl (by exact k2) [pI _] rfl rfl (Nat.le_of_ble_eq_true rfl) (by decide) (by decide) (Nat.zero_le _) (Nat.zero_le _) (m_X3_holdsAt h) (fun p4 s3 h => ?_)
  refine v_if_eq (tgt := 20) hX dX11_allows_6 (by decide) (fun c5 => ?_) (fun c5 => ?_)
  · have h := h_T c5 h
    refine v_pick [] rfl ?_
    exact b_X11_allows_20 hX hE _ h
  · have h := h_E c5 h
    refine v_aload_n hX dX11_allows_9 1 rfl rfl ?_
    obtain ⟨a6, e_a6, h⟩ := h
    refine v_nn0 e_a6 ?_
    obtain ⟨k7, h⟩ := h
    refine v_getI hX dX11_allows_10 f_RX11_417 rfl k7 ?_
    refine v_iconst (v := 1) hX dX11_allows_13 (by decide) ?_
    refine v_iload_n hX dX11_allows_14 3 rfl rfl ?_
    refine v_ishl hX dX11_allows_15 ?_
    refine v_iand hX dX11_allows_16 ?_
    refine v_if_ne (tgt := 22) hX dX11_allows_17 (by decide) (fun c8 => ?_) (fun c8 => ?_)
    · have h := h_E c8 h
      refine v_aload_n hX dX11_allows_22 1 rfl rfl ?_
      obtain ⟨a9, e_a9, h⟩ := h
      refine v_nn0 e_a9 ?_
      obtain ⟨k10, h⟩ := h
      refine v_callVi hX dX11_allows_23 c_RX11_537 cV_X3_isLent (ci := 4) (T := TX3) (N := 10) rfl (by exact k10) [] rfl rfl (Nat.le_of_ble_eq_true rfl) (by decide) (by decide) (Nat.zero_le _) (Nat.zero_le _) (m_X3_isLent h) (fun p12 s11 h => ?_)
      refine v_if_eq (tgt := 46) hX dX11_allows_26 (by decide) (fun c13 => ?_) (fun c13 => ?_)
      · have h := h_T c13 h
        refine v_aload_n hX dX11_allows_46 0 rfl rfl ?_
        refine v_aload_n hX dX11_allows_47 1 rfl rfl ?_
        obtain ⟨a14, e_a14, h⟩ := h
        refine v_nn0 e_a14 ?_
        obtain ⟨k15, h⟩ := h
        refine v_getI hX dX11_allows_48 f_RX11_414 rfl k15 ?_
        refine v_iload hX dX11_allows_51 4 rfl ?_
        obtain ⟨k16, h⟩ := h
        refine v_callVi hX dX11_allows_53 c_RX11_87 cV_X11_groupAsOf (ci := 12) (T := TX11) (N := 19) rfl (by exact k16) [pI _, pI _] rfl rfl (Nat.le_of_ble_eq_true rfl) (by decide) (by decide) (Nat.zero_le _) (Nat.zero_le _) (m_X11_groupAsOf h) (fun p18 s17 h => ?_)
        refine v_iload_n hX dX11_allows_56 2 rfl rfl ?_
        refine v_ishr hX dX11_allows_57 ?_
        refine v_iconst (v := 1) hX dX11_allows_58 (by decide) ?_
        refine v_iand hX dX11_allows_59 ?_
        refine v_iconst (v := 1) hX dX11_allows_60 (by decide) ?_
        refine v_icmp_ne (tgt := 68) hX dX11_allows_61 (by decide) (fun c19 => ?_) (fun c19 => ?_)
        · have h := h_E c19 h
          refine v_iconst (v := 0) hX dX11_allows_68 (by decide) ?_
          refine v_pick [] rfl ?_
          exact b_X11_allows_69 hX hE _ h
        · have h := h_T c19 h
          refine v_iconst (v := 1) hX dX11_allows_64 (by decide) ?_
          refine v_goto (tgt := 69) hX dX11_allows_65 (by decide) ?_
          refine v_pick [] rfl ?_
          exact b_X11_allows_69 hX hE _ h
      · have h := h_E c13 h
        refine v_aload_n hX dX11_allows_29 1 rfl rfl ?_
        obtain ⟨a20, e_a20, h⟩ := h
        refine v_nn0 e_a20 ?_
        obtain ⟨k21, h⟩ := h
        refine v_getI hX dX11_allows_30 f_RX11_414 rfl k21 ?_
        refine v_bipush (v := 8) hX dX11_allows_33 (by decide) ?_
        refine v_iload_n hX dX11_allows_35 2 rfl rfl ?_
        refine v_iadd hX dX11_allows_36 ?_
        refine v_icmp_ne (tgt := 44) hX dX11_allows_37 (by decide) (fun c22 => ?_) (fun c22 => ?_)
        · have h := h_E c22 h
          refine v_iconst (v := 0) hX dX11_allows_44 (by decide) ?_
          refine v_pick [] rfl ?_
          exact b_X11_allows_45 hX hE _ h
        · have h := h_T c22 h
          refine v_iconst (v := 1) hX dX11_allows_40 (by decide) ?_
          refine v_goto (tgt := 45) hX dX11_allows_41 (by decide) ?_
          refine v_pick [] rfl ?_
          exact b_X11_allows_45 hX hE _ h
    · have h := h_T c8 h
      refine v_pick [] rfl ?_
      exact b_X11_allows_20 hX hE _ h
set_option maxRecDepth 100000 in
set_option maxHeartbeats 4000000 in
theorem b_X11_lend_30 {X : h_X} (hX : h_ok X cX11_lend 6 RX11 8 212) {Q : Int32 → h_S → Prop} (hE : h_end X (some .int) (h_QI (x_Z X) Q)) (s : h_S) {bc bs : Nat} (h : w_X11_lend_30 (x_G X) Q s bc bs) : h_V X 6 30 [] [] s bc bs := by
  unfold w_X11_lend_30 at h
  refine v_iconst (v := -1) hX dX11_lend_30 (by decide) ?_
  exact v_iret hX hE dX11_lend_31 h
set_option maxRecDepth 100000 in
set_option maxHeartbeats 4000000 in
theorem m_X11_lend {Z : h_Z} {o0 : Nat} {x1 : Int32} {x2 : Int32} {x3 : Int32} {s : h_S} {mc ms : Nat} {Q : Int32 → h_S → Prop} (h : w_X11_lend Z.2.2.2.2 o0 x1 x2 x3 s mc ms Q) : h_M Z yX11_lend cX11_lend 6 (some .int) 8 212 [pR (some o0), pI x1, pI x2, pI x3] s mc ms (h_QI Z Q) := by
  refine h_M.of (by decide) (Nat.le_of_ble_eq_true rfl) (fun X hZ hX hE hI => ?_)
  subst hZ
  unfold w_X11_lend at h
  show h_V X 6 0 [(0, pR (some o0)), (1, pI x1), (2, pI x2), (3, pI x3)] [] s mc ms
  refine v_iload_n hX dX11_lend_0 1 rfl rfl ?_
  refine v_aload_n hX dX11_lend_1 0 rfl rfl ?_
  obtain ⟨k1, h⟩ := h
  refine v_getR hX dX11_lend_2 f_RX11_40 rfl k1 ?_
  obtain ⟨a2, e_a2, h⟩ := h
  refine v_nn0 e_a2 ?_
  obtain ⟨k3, h⟩ := h
  refine v_callVi hX dX11_lend_5 c_RX11_246 cV_Jx4a65c_size_8abf5 (ci := 0) (T := TJx4a65c) (N := 3) rfl (by exact k3) [] rfl rfl (Nat.le_of_ble_eq_true rfl) (by decide) (by decide) (Nat.zero_le _) (Nat.zero_le _) (m_Jx4a65c_size_8abf5 h) (fun p5 s4 h => ?_)
  refine v_callSi hX dX11_lend_8 c_RX11_80 cS_X11_within [pI _, pI _] rfl rfl (Nat.le_of_ble_eq_true rfl) (by decide) (by decide) (Nat.zero_le _) (Nat.zero_le _) (m_X11_within h) (fun p7 s6 h => ?_)
  refine v_if_eq (tgt := 30) hX dX11_lend_11 (by decide) (fun c8 => ?_) (fun c8 => ?_)
  · have h := h_T c8 h
    refine v_pick [] rfl ?_
    exact b_X11_lend_30 hX hE _ h
  · have h := h_E c8 h
    refine v_aload_n hX dX11_lend_14 0 rfl rfl ?_
    refine v_iload_n hX dX11_lend_15 2 rfl rfl ?_
    obtain ⟨k9, h⟩ := h
    refine v_callVi hX dX11_lend_16 c_RX11_91 cV_X11_isHand (ci := 12) (T := TX11) (N := 19) rfl (by exact k9) [pI _] rfl rfl (Nat.le_of_ble_eq_true rfl) (by decide) (by decide) (Nat.zero_le _) (Nat.zero_le _) (m_X11_isHand h) (fun p11 s10 h => ?_)
    refine v_if_eq (tgt := 30) hX dX11_lend_19 (by decide) (fun c12 => ?_) (fun c12 => ?_)
    · have h := h_T c12 h
      refine v_pick [] rfl ?_
      exact b_X11_lend_30 hX hE _ h
    · have h := h_E c12 h
      refine v_aload_n hX dX11_lend_22 0 rfl rfl ?_
      refine v_iload_n hX dX11_lend_23 3 rfl rfl ?_
      obtain ⟨k13, h⟩ := h
      refine v_callVi hX dX11_lend_24 c_RX11_91 cV_X11_isHand (ci := 12) (T := TX11) (N := 19) rfl (by exact k13) [pI _] rfl rfl (Nat.le_of_ble_eq_true rfl) (by decide) (by decide) (Nat.zero_le _) (Nat.zero_le _) (m_X11_isHand h) (fun p15 s14 h => ?_)
      refine v_if_ne (tgt := 32) hX dX11_lend_27 (by decide) (fun c16 => ?_) (fun c16 => ?_)
      · have h := h_E c16 h
        refine v_iload_n hX dX11_lend_32 2 rfl rfl ?_
        refine v_iload_n hX dX11_lend_33 3 rfl rfl ?_
        refine v_icmp_ne (tgt := 40) hX dX11_lend_34 (by decide) (fun c17 => ?_) (fun c17 => ?_)
        · have h := h_E c17 h
          refine v_aload_n hX dX11_lend_40 0 rfl rfl ?_
          obtain ⟨k18, h⟩ := h
          refine v_getR hX dX11_lend_41 f_RX11_40 rfl k18 ?_
          refine v_iload_n hX dX11_lend_44 1 rfl rfl ?_
          obtain ⟨a19, e_a19, h⟩ := h
          refine v_nn1 e_a19 ?_
          obtain ⟨k20, h⟩ := h
          refine v_callVr hX dX11_lend_45 c_RX11_314 cV_Jx4a65c_get_915e3 (ci := 0) (T := TJx4a65c) (N := 3) rfl (by exact k20) [pI _] rfl rfl (Nat.le_of_ble_eq_true rfl) (by decide) (by decide) (Nat.zero_le _) (Nat.zero_le _) (m_Jx4a65c_get_915e3 h) (fun p22 s21 h => ?_)
          obtain ⟨b23, h⟩ := h
          refine v_cast (ci := 4) hX dX11_lend_48 kl_RX11_384 rfl b23 ?_
          refine v_astore (lv' := [(4, _), (0, _), (1, _), (2, _), (3, _)]) hX dX11_lend_51 (by decide) rfl ?_
          refine v_aload_n hX dX11_lend_53 1 rfl rfl ?_
          refine v_aload hX dX11_lend_54 0 rfl ?_
          refine v_iload_n hX dX11_lend_56 3 rfl rfl ?_
          refine v_iconst (v := 2) hX dX11_lend_57 (by decide) ?_
          refine v_aload_n hX dX11_lend_58 1 rfl rfl ?_
          obtain ⟨k24, h⟩ := h
          refine v_getI hX dX11_lend_59 f_RX11_84 rfl k24 ?_
          refine v_callVi hX dX11_lend_62 c_RX11_396 cV_X11_allows (ci := 12) (T := TX11) (N := 19) rfl (by exact k24) [pR _, pI _, pI _, pI _] rfl rfl (Nat.le_of_ble_eq_true rfl) (by decide) (by decide) (Nat.zero_le _) (Nat.zero_le _) (m_X11_allows h) (fun p26 s25 h => ?_)
          refine v_if_ne (tgt := 71) hX dX11_lend_65 (by decide) (fun c27 => ?_) (fun c27 => ?_)
          · have h := h_E c27 h
            obtain ⟨b30, b31, h⟩ := h
            refine v_new hX dX11_lend_71 n_RX11_384 b30 b31 (fun q28 k29 => ?_)
            have h := h q28 k29
            refine v_dup hX dX11_lend_74 rfl ?_
            refine v_aload hX dX11_lend_75 0 rfl ?_
            obtain ⟨a35, e_a35, h⟩ := h
            refine v_nn0 e_a35 ?_
            obtain ⟨k36, h⟩ := h
            refine v_getI hX dX11_lend_77 f_RX11_400 rfl k36 ?_
            refine v_aload_n hX dX11_lend_80 1 rfl rfl ?_
            obtain ⟨k37, h⟩ := h
            refine v_getI hX dX11_lend_81 f_RX11_84 rfl k37 ?_
            refine v_iconst (v := 1) hX dX11_lend_84 (by decide) ?_
            refine v_iadd hX dX11_lend_85 ?_
            refine v_callIv hX dX11_lend_86 c_RX11_386 cI_X3_init [pI _, pI _] rfl rfl (Nat.le_of_ble_eq_true rfl) (by decide) (by decide) (Nat.zero_le _) (Nat.zero_le _) (m_X3_init h) (fun s38 h => ?_)
            refine v_astore (lv' := [(5, _), (4, _), (0, _), (1, _), (2, _), (3, _)]) hX dX11_lend_89 (by decide) rfl ?_
            refine v_aload hX dX11_lend_91 0 rfl ?_
            refine v_aload hX dX11_lend_93 1 rfl ?_
            refine v_iload_n hX dX11_lend_95 3 rfl rfl ?_
            refine v_iload_n hX dX11_lend_96 5 rfl rfl ?_
            obtain ⟨k40, h⟩ := h
            refine v_callVv hX dX11_lend_97 c_RX11_401 cV_X3_hangOn (ci := 4) (T := TX3) (N := 10) rfl (by exact k40) [pR _, pI _, pI _] rfl rfl (Nat.le_of_ble_eq_true rfl) (by decide) (by decide) (Nat.zero_le _) (Nat.zero_le _) (m_X3_hangOn h) (fun s41 h => ?_)
            refine v_aload_n hX dX11_lend_100 2 rfl rfl ?_
            refine v_aload hX dX11_lend_101 0 rfl ?_
            obtain ⟨k43, h⟩ := h
            obtain ⟨mc46, ms47, b48, b49, h⟩ := h
            refine v_callVi hX dX11_lend_103 c_RX11_392 cV_X11_keepRight (ci := 12) (T := TX11) (N := 19) rfl (by exact k43) [pR _] rfl rfl (Nat.le_of_ble_eq_true rfl) (by decide) (by decide) b48 b49 (m_X11_keepRight h) (fun p45 s44 h => ?_)
            exact v_iret hX hE dX11_lend_106 h
          · have h := h_T c27 h
            refine v_bipush (v := -3) hX dX11_lend_68 (by decide) ?_
            exact v_iret hX hE dX11_lend_70 h
        · have h := h_T c17 h
          refine v_bipush (v := -2) hX dX11_lend_37 (by decide) ?_
          exact v_iret hX hE dX11_lend_39 h
      · have h := h_T c16 h
        refine v_pick [] rfl ?_
        exact b_X11_lend_30 hX hE _ h
set_option maxRecDepth 100000 in
set_option maxHeartbeats 4000000 in
theorem b_X11_take_100 {X : h_X} (hX : h_ok X cX11_take 5 RX11 3 64) {Q : Int32 → h_S → Prop} (hE : h_end X (some .int) (h_QI (x_Z X) Q)) {K40 : Nat → Int32 → Int32 → Int32 → h_S → Prop} (hK40 : ∀ (o0 : Nat) (x1 : Int32) (x2 : Int32) (x3 : Int32) (s : h_S), K40 o0 x1 x2 x3 s → h_V X 5 40 [(0, pR (some o0)), (1, pI x1), (2, pI x2), (3, pI x3)] [] s 0 0) {o0 : Nat} {x1 : Int32} {x2 : Int32} {x3 : Int32} (s : h_S) (h : w_X11_take_100 Q K40 o0 x1 x2 x3 s) : h_V X 5 100 [(0, pR (some o0)), (1, pI x1), (2, pI x2), (3, pI x3)] [] s 0 0 := by
  unfold w_X11_take_100 at h
  refine v_iinc (c := 1) (lv' := [(3, _), (0, _), (1, _), (2, _)]) hX dX11_take_100 3 rfl (by decide) (by decide) rfl ?_
  refine v_goto (tgt := 40) hX dX11_take_103 (by decide) ?_
  refine v_pick [1, 2, 3, 0] rfl ?_
  exact hK40 _ _ _ _ _ h
set_option maxRecDepth 100000 in
set_option maxHeartbeats 4000000 in
theorem b_X11_take_78 {X : h_X} (hX : h_ok X cX11_take 5 RX11 3 64) {Q : Int32 → h_S → Prop} (hE : h_end X (some .int) (h_QI (x_Z X) Q)) {K40 : Nat → Int32 → Int32 → Int32 → h_S → Prop} (hK40 : ∀ (o0 : Nat) (x1 : Int32) (x2 : Int32) (x3 : Int32) (s : h_S), K40 o0 x1 x2 x3 s → h_V X 5 40 [(0, pR (some o0)), (1, pI x1), (2, pI x2), (3, pI x3)] [] s 0 0) {o0 : Nat} {x1 : Int32} {x2 : Int32} {x3 : Int32} {r4 : Option Nat} (s : h_S) (h : w_X11_take_78 Q K40 o0 x1 x2 x3 r4 s) : h_V X 5 78 [(0, pR (some o0)), (1, pI x1), (2, pI x2), (3, pI x3), (4, pR r4)] [] s 0 0 := by
  unfold w_X11_take_78 at h
  refine v_aload hX dX11_take_78 4 rfl ?_
  obtain ⟨a1, e_a1, h⟩ := h
  refine v_nn0 e_a1 ?_
  obtain ⟨k2, h⟩ := h
  refine v_callVi hX dX11_take_80 c_RX11_405 cV_X3_isThere (ci := 4) (T := TX3) (N := 10) rfl (by exact k2) [] rfl rfl (Nat.le_of_ble_eq_true rfl) (by decide) (by decide) (Nat.zero_le _) (Nat.zero_le _) (m_X3_isThere h) (fun p4 s3 h => ?_)
  refine v_if_eq (tgt := 100) hX dX11_take_83 (by decide) (fun c5 => ?_) (fun c5 => ?_)
  · have h := h_T c5 h
    refine v_pick [0, 1, 2, 3] rfl ?_
    exact b_X11_take_100 hX hE hK40 _ h
  · have h := h_E c5 h
    refine v_aload hX dX11_take_86 4 rfl ?_
    refine v_aload_n hX dX11_take_88 0 rfl rfl ?_
    obtain ⟨k6, h⟩ := h
    refine v_getI hX dX11_take_89 f_RX11_84 rfl k6 ?_
    refine v_iconst (v := 1) hX dX11_take_92 (by decide) ?_
    refine v_iadd hX dX11_take_93 ?_
    obtain ⟨a7, e_a7, h⟩ := h
    refine v_nn1 e_a7 ?_
    obtain ⟨k8, h⟩ := h
    refine v_putI hX dX11_take_94 f_RX11_411 k8 ?_
    refine v_iinc (c := 1) (lv' := [(2, _), (0, _), (1, _), (3, _), (4, _)]) hX dX11_take_97 2 rfl (by decide) (by decide) rfl ?_
    refine v_pick [1, 2, 0, 3] rfl ?_
    exact b_X11_take_100 hX hE hK40 _ h
set_option maxRecDepth 100000 in
set_option maxHeartbeats 4000000 in
theorem b_X11_take_40 {X : h_X} (hX : h_ok X cX11_take 5 RX11 3 64) {Q : Int32 → h_S → Prop} (hE : h_end X (some .int) (h_QI (x_Z X) Q)) : ∀ (n : Nat) (o0 : Nat) (x1 : Int32) (x2 : Int32) (x3 : Int32) (s : h_S), w_X11_take_40 Q n o0 x1 x2 x3 s → h_V X 5 40 [(0, pR (some o0)), (1, pI x1), (2, pI x2), (3, pI x3)] [] s 0 0 := by
  intro n
  induction n with
  | zero => intro _ _ _ _ s h; exact h.elim
  | succ n hK40 =>
    intro o0 x1 x2 x3 s h
    have h : w_X11_take_40b Q (w_X11_take_40 Q n) o0 x1 x2 x3 s := h
    unfold w_X11_take_40b at h
    refine v_iload_n hX dX11_take_40 3 rfl rfl ?_
    refine v_aload_n hX dX11_take_41 0 rfl rfl ?_
    obtain ⟨k1, h⟩ := h
    refine v_getR hX dX11_take_42 f_RX11_40 rfl k1 ?_
    obtain ⟨a2, e_a2, h⟩ := h
    refine v_nn0 e_a2 ?_
    obtain ⟨k3, h⟩ := h
    refine v_callVi hX dX11_take_45 c_RX11_246 cV_Jx4a65c_size_8abf5 (ci := 0) (T := TJx4a65c) (N := 3) rfl (by exact k3) [] rfl rfl (Nat.le_of_ble_eq_true rfl) (by decide) (by decide) (Nat.zero_le _) (Nat.zero_le _) (m_Jx4a65c_size_8abf5 h) (fun p5 s4 h => ?_)
    refine v_icmp_ge (tgt := 106) hX dX11_take_48 (by decide) (fun c6 => ?_) (fun c6 => ?_)
    · have h := h_T c6 h
      refine v_aload_n hX dX11_take_106 0 rfl rfl ?_
      refine v_iload_n hX dX11_take_107 2 rfl rfl ?_
      obtain ⟨k7, h⟩ := h
      refine v_callVi hX dX11_take_108 c_RX11_76 cV_X11_acted (ci := 12) (T := TX11) (N := 19) rfl (by exact k7) [pI _] rfl rfl (Nat.le_of_ble_eq_true rfl) (by decide) (by decide) (Nat.zero_le _) (Nat.zero_le _) (m_X11_acted h) (fun p9 s8 h => ?_)
      exact v_iret hX hE dX11_take_111 h
    · have h := h_E c6 h
      refine v_aload_n hX dX11_take_51 0 rfl rfl ?_
      obtain ⟨k10, h⟩ := h
      refine v_getR hX dX11_take_52 f_RX11_40 rfl k10 ?_
      refine v_iload_n hX dX11_take_55 3 rfl rfl ?_
      obtain ⟨a11, e_a11, h⟩ := h
      refine v_nn1 e_a11 ?_
      obtain ⟨k12, h⟩ := h
      refine v_callVr hX dX11_take_56 c_RX11_314 cV_Jx4a65c_get_915e3 (ci := 0) (T := TJx4a65c) (N := 3) rfl (by exact k12) [pI _] rfl rfl (Nat.le_of_ble_eq_true rfl) (by decide) (by decide) (Nat.zero_le _) (Nat.zero_le _) (m_Jx4a65c_get_915e3 h) (fun p14 s13 h => ?_)
      obtain ⟨b15, h⟩ := h
      refine v_cast (ci := 4) hX dX11_take_59 kl_RX11_384 rfl b15 ?_
      refine v_astore (lv' := [(4, _), (0, _), (1, _), (2, _), (3, _)]) hX dX11_take_62 (by decide) rfl ?_
      refine v_iload_n hX dX11_take_64 4 rfl rfl ?_
      refine v_iload_n hX dX11_take_65 2 rfl rfl ?_
      refine v_icmp_eq (tgt := 78) hX dX11_take_66 (by decide) (fun c16 => ?_) (fun c16 => ?_)
      · have h := h_T c16 h
        refine v_pick [1, 2, 3, 4, 0] rfl ?_
        exact b_X11_take_78 hX hE hK40 _ h
      · have h := h_E c16 h
        refine v_aload hX dX11_take_69 0 rfl ?_
        obtain ⟨a17, e_a17, h⟩ := h
        refine v_nn0 e_a17 ?_
        obtain ⟨k18, h⟩ := h
        refine v_getI hX dX11_take_71 f_RX11_408 rfl k18 ?_
        refine v_iload_n hX dX11_take_74 2 rfl rfl ?_
        refine v_icmp_ne (tgt := 100) hX dX11_take_75 (by decide) (fun c19 => ?_) (fun c19 => ?_)
        · have h := h_E c19 h
          refine v_pick [1, 2, 3, 4] rfl ?_
          exact b_X11_take_100 hX hE hK40 _ h
        · have h := h_T c19 h
          refine v_pick [1, 2, 3, 4, 0] rfl ?_
          exact b_X11_take_78 hX hE hK40 _ h
