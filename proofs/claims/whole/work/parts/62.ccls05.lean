set_option maxRecDepth 100000 in
set_option maxHeartbeats 4000000 in
theorem b_X11_isMoment_16 {X : h_X} (hX : h_ok X cX11_isMoment 2 RX11 0 0) {Q : Int32 → h_S → Prop} (hE : h_end X (some .boolean) (h_QI (x_Z X) Q)) (s : h_S) (h : w_X11_isMoment_16 Q s) : h_V X 2 16 [] [] s 0 0 := by
  unfold w_X11_isMoment_16 at h
  refine v_iconst (v := 0) hX dX11_isMoment_16 (by decide) ?_
  refine v_pick [] rfl ?_
  exact b_X11_isMoment_17 hX hE _ h
set_option maxRecDepth 100000 in
set_option maxHeartbeats 4000000 in
theorem m_X11_isMoment {Z : h_Z} {o0 : Nat} {x1 : Int32} {s : h_S} {Q : Int32 → h_S → Prop} (h : w_X11_isMoment o0 x1 s Q) : h_M Z yX11_isMoment cX11_isMoment 2 (some .boolean) 0 0 [pR (some o0), pI x1] s 0 0 (h_QI Z Q) := by
  refine h_M.of (by decide) (Nat.le_of_ble_eq_true rfl) (fun X hZ hX hE hI => ?_)
  subst hZ
  unfold w_X11_isMoment at h
  show h_V X 2 0 [(0, pR (some o0)), (1, pI x1)] [] s 0 0
  refine v_iload_n hX dX11_isMoment_0 1 rfl rfl ?_
  refine v_if_lt (tgt := 16) hX dX11_isMoment_1 (by decide) (fun c1 => ?_) (fun c1 => ?_)
  · have h := h_T c1 h
    refine v_pick [] rfl ?_
    exact b_X11_isMoment_16 hX hE _ h
  · have h := h_E c1 h
    refine v_iload_n hX dX11_isMoment_4 1 rfl rfl ?_
    refine v_aload_n hX dX11_isMoment_5 0 rfl rfl ?_
    obtain ⟨k2, h⟩ := h
    refine v_getI hX dX11_isMoment_6 f_RX11_82 rfl k2 ?_
    refine v_icmp_gt (tgt := 16) hX dX11_isMoment_9 (by decide) (fun c3 => ?_) (fun c3 => ?_)
    · have h := h_T c3 h
      refine v_pick [] rfl ?_
      exact b_X11_isMoment_16 hX hE _ h
    · have h := h_E c3 h
      refine v_iconst (v := 1) hX dX11_isMoment_12 (by decide) ?_
      refine v_goto (tgt := 17) hX dX11_isMoment_13 (by decide) ?_
      refine v_pick [] rfl ?_
      exact b_X11_isMoment_17 hX hE _ h
set_option maxRecDepth 100000 in
set_option maxHeartbeats 4000000 in
theorem b_X11_isStretch_27 {X : h_X} (hX : h_ok X cX11_isStretch 2 RX11 1 21) {Q : Int32 → h_S → Prop} (hE : h_end X (some .boolean) (h_QI (x_Z X) Q)) {y0 : Int32} (s : h_S) (h : w_X11_isStretch_27 Q y0 s) : h_V X 2 27 [] [pI y0] s 0 0 := by
  unfold w_X11_isStretch_27 at h
  exact v_zret hX hE dX11_isStretch_27 h.1 h.2
set_option maxRecDepth 100000 in
set_option maxHeartbeats 4000000 in
theorem b_X11_isStretch_26 {X : h_X} (hX : h_ok X cX11_isStretch 2 RX11 1 21) {Q : Int32 → h_S → Prop} (hE : h_end X (some .boolean) (h_QI (x_Z X) Q)) (s : h_S) (h : w_X11_isStretch_26 Q s) : h_V X 2 26 [] [] s 0 0 := by
  unfold w_X11_isStretch_26 at h
  refine v_iconst (v := 0) hX dX11_isStretch_26 (by decide) ?_
  refine v_pick [] rfl ?_
  exact b_X11_isStretch_27 hX hE _ h
set_option maxRecDepth 100000 in
set_option maxHeartbeats 4000000 in
theorem m_X11_isStretch {Z : h_Z} {x0 : Int32} {x1 : Int32} {s : h_S} {Q : Int32 → h_S → Prop} (h : w_X11_isStretch x0 x1 s Q) : h_M Z yX11_isStretch cX11_isStretch 2 (some .boolean) 1 21 [pI x0, pI x1] s 0 0 (h_QI Z Q) := by
  refine h_M.of (by decide) (Nat.le_of_ble_eq_true rfl) (fun X hZ hX hE hI => ?_)
  subst hZ
  unfold w_X11_isStretch at h
  show h_V X 2 0 [(0, pI x0), (1, pI x1)] [] s 0 0
  refine v_iload_n hX dX11_isStretch_0 0 rfl rfl ?_
  refine v_sipush (v := 500) hX dX11_isStretch_1 (by decide) ?_
  refine v_callSi0 hX dX11_isStretch_4 c_RX11_78 cS_X11_within [pI _, pI _] rfl rfl (Nat.le_of_ble_eq_true rfl) (by decide) (by decide)  (m_X11_within h) (fun p2 s1 h => ?_)
  refine v_if_eq (tgt := 26) hX dX11_isStretch_7 (by decide) (fun c3 => ?_) (fun c3 => ?_)
  · have h := h_T c3 h
    refine v_pick [] rfl ?_
    exact b_X11_isStretch_26 hX hE _ h
  · have h := h_E c3 h
    refine v_iload_n hX dX11_isStretch_10 1 rfl rfl ?_
    refine v_iconst (v := 1) hX dX11_isStretch_11 (by decide) ?_
    refine v_icmp_lt (tgt := 26) hX dX11_isStretch_12 (by decide) (fun c4 => ?_) (fun c4 => ?_)
    · have h := h_T c4 h
      refine v_pick [] rfl ?_
      exact b_X11_isStretch_26 hX hE _ h
    · have h := h_E c4 h
      refine v_iload_n hX dX11_isStretch_15 1 rfl rfl ?_
      refine v_sipush (v := 500) hX dX11_isStretch_16 (by decide) ?_
      refine v_icmp_gt (tgt := 26) hX dX11_isStretch_19 (by decide) (fun c5 => ?_) (fun c5 => ?_)
      · have h := h_T c5 h
        refine v_pick [] rfl ?_
        exact b_X11_isStretch_26 hX hE _ h
      · have h := h_E c5 h
        refine v_iconst (v := 1) hX dX11_isStretch_22 (by decide) ?_
        refine v_goto (tgt := 27) hX dX11_isStretch_23 (by decide) ?_
        refine v_pick [] rfl ?_
        exact b_X11_isStretch_27 hX hE _ h
set_option maxRecDepth 100000 in
set_option maxHeartbeats 4000000 in
theorem b_X11_span_26 {X : h_X} (hX : h_ok X cX11_span 7 RX11 19 556) {Q : Int32 → h_S → Prop} (hE : h_end X (some .int) (h_QI (x_Z X) Q)) (s : h_S) {bc bs : Nat} (h : w_X11_span_26 Q s bc bs) : h_V X 7 26 [] [] s bc bs := by
  unfold w_X11_span_26 at h
  refine v_iconst (v := -1) hX dX11_span_26 (by decide) ?_
  exact v_iret hX hE dX11_span_27 h
set_option maxRecDepth 100000 in
set_option maxHeartbeats 4000000 in
theorem m_X11_span {Z : h_Z} {o0 : Nat} {x1 : Int32} {x2 : Int32} {x3 : Int32} {x4 : Int32} {x5 : Int32} {x6 : Int32} {s : h_S} {mc ms : Nat} {Q : Int32 → h_S → Prop} (h : w_X11_span o0 x1 x2 x3 x4 x5 x6 s mc ms Q) : h_M Z yX11_span cX11_span 7 (some .int) 19 556 [pR (some o0), pI x1, pI x2, pI x3, pI x4, pI x5, pI x6] s mc ms (h_QI Z Q) := by
  refine h_M.of (by decide) (Nat.le_of_ble_eq_true rfl) (fun X hZ hX hE hI => ?_)
  subst hZ
  unfold w_X11_span at h
  show h_V X 7 0 [(0, pR (some o0)), (1, pI x1), (2, pI x2), (3, pI x3), (4, pI x4), (5, pI x5), (6, pI x6)] [] s mc ms
  refine v_aload_n hX dX11_span_0 0 rfl rfl ?_
  refine v_iload_n hX dX11_span_1 1 rfl rfl ?_
  refine v_iload_n hX dX11_span_2 2 rfl rfl ?_
  obtain ⟨k1, h⟩ := h
  obtain ⟨mc4, ms5, b6, b7, h⟩ := h
  refine v_callVi hX dX11_span_3 c_RX11_103 cV_X11_takesAhead (ci := 12) (T := TX11) (N := 19) rfl (by exact k1) [pI _, pI _] rfl rfl (Nat.le_of_ble_eq_true rfl) (by decide) (by decide) b6 b7 (m_X11_takesAhead h) (fun p3 s2 h => ?_)
  refine v_if_eq (tgt := 26) hX dX11_span_6 (by decide) (fun c8 => ?_) (fun c8 => ?_)
  · have h := h_T c8 h
    refine v_pick [] rfl ?_
    exact b_X11_span_26 hX hE _ h
  · have h := h_E c8 h
    refine v_aload_n hX dX11_span_9 0 rfl rfl ?_
    refine v_iload_n hX dX11_span_10 3 rfl rfl ?_
    obtain ⟨k9, h⟩ := h
    refine v_callVi0 hX dX11_span_11 c_RX11_150 cV_X11_isWriting (ci := 12) (T := TX11) (N := 19) rfl (by exact k9) [pI _] rfl rfl (Nat.le_of_ble_eq_true rfl) (by decide) (by decide)  (m_X11_isWriting h) (fun p11 s10 h => ?_)
    refine v_if_eq (tgt := 26) hX dX11_span_14 (by decide) (fun c12 => ?_) (fun c12 => ?_)
    · have h := h_T c12 h
      refine v_pick [] rfl ?_
      exact b_X11_span_26 hX hE _ h
    · have h := h_E c12 h
      refine v_aload_n hX dX11_span_17 0 rfl rfl ?_
      refine v_iload hX dX11_span_18 4 rfl ?_
      obtain ⟨k13, h⟩ := h
      refine v_callVi0 hX dX11_span_20 c_RX11_153 cV_X11_isMoment (ci := 12) (T := TX11) (N := 19) rfl (by exact k13) [pI _] rfl rfl (Nat.le_of_ble_eq_true rfl) (by decide) (by decide)  (m_X11_isMoment h) (fun p15 s14 h => ?_)
      refine v_if_ne (tgt := 28) hX dX11_span_23 (by decide) (fun c16 => ?_) (fun c16 => ?_)
      · have h := h_E c16 h
        refine v_iload hX dX11_span_28 5 rfl ?_
        refine v_iload hX dX11_span_30 6 rfl ?_
        refine v_callSi0 hX dX11_span_32 c_RX11_156 cS_X11_isStretch [pI _, pI _] rfl rfl (Nat.le_of_ble_eq_true rfl) (by decide) (by decide)  (m_X11_isStretch h) (fun p18 s17 h => ?_)
        refine v_if_ne (tgt := 41) hX dX11_span_35 (by decide) (fun c19 => ?_) (fun c19 => ?_)
        · have h := h_E c19 h
          refine v_aload_n hX dX11_span_41 0 rfl rfl ?_
          refine v_aload_n hX dX11_span_42 0 rfl rfl ?_
          obtain ⟨k20, h⟩ := h
          refine v_getR hX dX11_span_43 f_RX11_21 rfl k20 ?_
          refine v_iload_n hX dX11_span_46 1 rfl rfl ?_
          obtain ⟨a21, e_a21, h⟩ := h
          refine v_nn1 e_a21 ?_
          obtain ⟨k22, h⟩ := h
          refine v_callVi0 hX dX11_span_47 c_RX11_139 cV_X7_ownerOf (ci := 8) (T := TX7) (N := 13) rfl (by exact k22) [pI _] rfl rfl (Nat.le_of_ble_eq_true rfl) (by decide) (by decide)  (m_X7_ownerOf h) (fun p24 s23 h => ?_)
          refine v_iload_n hX dX11_span_50 3 rfl rfl ?_
          refine v_iconst (v := 1) hX dX11_span_51 (by decide) ?_
          refine v_aload_n hX dX11_span_52 0 rfl rfl ?_
          obtain ⟨k25, h⟩ := h
          refine v_getI hX dX11_span_53 f_RX11_82 rfl k25 ?_
          refine v_callVi0 hX dX11_span_56 c_RX11_159 cV_X11_mayUse (ci := 12) (T := TX11) (N := 19) rfl (by exact k25) [pI _, pI _, pI _, pI _] rfl rfl (Nat.le_of_ble_eq_true rfl) (by decide) (by decide)  (m_X11_mayUse h) (fun p27 s26 h => ?_)
          refine v_if_ne (tgt := 65) hX dX11_span_59 (by decide) (fun c28 => ?_) (fun c28 => ?_)
          · have h := h_E c28 h
            refine v_aload_n hX dX11_span_65 0 rfl rfl ?_
            refine v_iload_n hX dX11_span_66 1 rfl rfl ?_
            refine v_iload_n hX dX11_span_67 2 rfl rfl ?_
            obtain ⟨b31, b32, h⟩ := h
            refine v_new hX dX11_span_68 n_RX11_117 b31 b32 (fun q29 k30 => ?_)
            have h := h q29 k30
            refine v_dup hX dX11_span_71 rfl ?_
            refine v_iconst (v := 2) hX dX11_span_72 (by decide) ?_
            refine v_iload hX dX11_span_73 5 rfl ?_
            refine v_iload hX dX11_span_75 6 rfl ?_
            refine v_iload_n hX dX11_span_77 3 rfl rfl ?_
            refine v_iload hX dX11_span_78 4 rfl ?_
            refine v_callIv0 hX dX11_span_80 c_RX11_119 cI_X2_init [pI _, pI _, pI _, pI _, pI _] rfl rfl (Nat.le_of_ble_eq_true rfl) (by decide) (by decide)  (m_X2_init h) (fun s36 h => ?_)
            obtain ⟨k38, h⟩ := h
            obtain ⟨mc41, ms42, b43, b44, h⟩ := h
            refine v_callVi hX dX11_span_83 c_RX11_146 cV_X11_showsWith (ci := 12) (T := TX11) (N := 19) rfl (by exact k38) [pI _, pI _, pR _] rfl rfl (Nat.le_of_ble_eq_true rfl) (by decide) (by decide) b43 b44 (m_X11_showsWith h) (fun p40 s39 h => ?_)
            exact v_iret hX hE dX11_span_86 h
          · have h := h_T c28 h
            refine v_bipush (v := -3) hX dX11_span_62 (by decide) ?_
            exact v_iret hX hE dX11_span_64 h
        · have h := h_T c19 h
          refine v_bipush (v := -2) hX dX11_span_38 (by decide) ?_
          exact v_iret hX hE dX11_span_40 h
      · have h := h_T c16 h
        refine v_pick [] rfl ?_
        exact b_X11_span_26 hX hE _ h
set_option maxRecDepth 100000 in
set_option maxHeartbeats 4000000 in
theorem b_X11_live_17 {X : h_X} (hX : h_ok X cX11_live 7 RX11 19 556) {Q : Int32 → h_S → Prop} (hE : h_end X (some .int) (h_QI (x_Z X) Q)) (s : h_S) {bc bs : Nat} (h : w_X11_live_17 Q s bc bs) : h_V X 7 17 [] [] s bc bs := by
  unfold w_X11_live_17 at h
  refine v_iconst (v := -1) hX dX11_live_17 (by decide) ?_
  exact v_iret hX hE dX11_live_18 h
set_option maxRecDepth 100000 in
set_option maxHeartbeats 4000000 in
theorem m_X11_live {Z : h_Z} {o0 : Nat} {x1 : Int32} {x2 : Int32} {x3 : Int32} {x4 : Int32} {x5 : Int32} {s : h_S} {mc ms : Nat} {Q : Int32 → h_S → Prop} (h : w_X11_live o0 x1 x2 x3 x4 x5 s mc ms Q) : h_M Z yX11_live cX11_live 7 (some .int) 19 556 [pR (some o0), pI x1, pI x2, pI x3, pI x4, pI x5] s mc ms (h_QI Z Q) := by
  refine h_M.of (by decide) (Nat.le_of_ble_eq_true rfl) (fun X hZ hX hE hI => ?_)
  subst hZ
  unfold w_X11_live at h
  show h_V X 7 0 [(0, pR (some o0)), (1, pI x1), (2, pI x2), (3, pI x3), (4, pI x4), (5, pI x5)] [] s mc ms
  refine v_aload_n hX dX11_live_0 0 rfl rfl ?_
  refine v_iload_n hX dX11_live_1 1 rfl rfl ?_
  refine v_iload_n hX dX11_live_2 2 rfl rfl ?_
  obtain ⟨k1, h⟩ := h
  obtain ⟨mc4, ms5, b6, b7, h⟩ := h
  refine v_callVi hX dX11_live_3 c_RX11_103 cV_X11_takesAhead (ci := 12) (T := TX11) (N := 19) rfl (by exact k1) [pI _, pI _] rfl rfl (Nat.le_of_ble_eq_true rfl) (by decide) (by decide) b6 b7 (m_X11_takesAhead h) (fun p3 s2 h => ?_)
  refine v_if_eq (tgt := 17) hX dX11_live_6 (by decide) (fun c8 => ?_) (fun c8 => ?_)
  · have h := h_T c8 h
    refine v_pick [] rfl ?_
    exact b_X11_live_17 hX hE _ h
  · have h := h_E c8 h
    refine v_aload_n hX dX11_live_9 0 rfl rfl ?_
    refine v_iload_n hX dX11_live_10 3 rfl rfl ?_
    obtain ⟨k9, h⟩ := h
    refine v_callVi0 hX dX11_live_11 c_RX11_150 cV_X11_isWriting (ci := 12) (T := TX11) (N := 19) rfl (by exact k9) [pI _] rfl rfl (Nat.le_of_ble_eq_true rfl) (by decide) (by decide)  (m_X11_isWriting h) (fun p11 s10 h => ?_)
    refine v_if_ne (tgt := 19) hX dX11_live_14 (by decide) (fun c12 => ?_) (fun c12 => ?_)
    · have h := h_E c12 h
      refine v_iload hX dX11_live_19 4 rfl ?_
      refine v_iload hX dX11_live_21 5 rfl ?_
      refine v_callSi0 hX dX11_live_23 c_RX11_156 cS_X11_isStretch [pI _, pI _] rfl rfl (Nat.le_of_ble_eq_true rfl) (by decide) (by decide)  (m_X11_isStretch h) (fun p14 s13 h => ?_)
      refine v_if_ne (tgt := 32) hX dX11_live_26 (by decide) (fun c15 => ?_) (fun c15 => ?_)
      · have h := h_E c15 h
        refine v_aload_n hX dX11_live_32 0 rfl rfl ?_
        refine v_aload_n hX dX11_live_33 0 rfl rfl ?_
        obtain ⟨k16, h⟩ := h
        refine v_getR hX dX11_live_34 f_RX11_21 rfl k16 ?_
        refine v_iload_n hX dX11_live_37 1 rfl rfl ?_
        obtain ⟨a17, e_a17, h⟩ := h
        refine v_nn1 e_a17 ?_
        obtain ⟨k18, h⟩ := h
        refine v_callVi0 hX dX11_live_38 c_RX11_139 cV_X7_ownerOf (ci := 8) (T := TX7) (N := 13) rfl (by exact k18) [pI _] rfl rfl (Nat.le_of_ble_eq_true rfl) (by decide) (by decide)  (m_X7_ownerOf h) (fun p20 s19 h => ?_)
        refine v_iload_n hX dX11_live_41 3 rfl rfl ?_
        refine v_iconst (v := 1) hX dX11_live_42 (by decide) ?_
        refine v_aload_n hX dX11_live_43 0 rfl rfl ?_
        obtain ⟨k21, h⟩ := h
        refine v_getI hX dX11_live_44 f_RX11_82 rfl k21 ?_
        refine v_callVi0 hX dX11_live_47 c_RX11_159 cV_X11_mayUse (ci := 12) (T := TX11) (N := 19) rfl (by exact k21) [pI _, pI _, pI _, pI _] rfl rfl (Nat.le_of_ble_eq_true rfl) (by decide) (by decide)  (m_X11_mayUse h) (fun p23 s22 h => ?_)
        refine v_if_ne (tgt := 56) hX dX11_live_50 (by decide) (fun c24 => ?_) (fun c24 => ?_)
        · have h := h_E c24 h
          refine v_aload_n hX dX11_live_56 0 rfl rfl ?_
          obtain ⟨k25, h⟩ := h
          refine v_getR hX dX11_live_57 f_RX11_21 rfl k25 ?_
          refine v_iload_n hX dX11_live_60 3 rfl rfl ?_
          refine v_iload_n hX dX11_live_61 1 rfl rfl ?_
          refine v_iconst (v := 1) hX dX11_live_62 (by decide) ?_
          obtain ⟨a26, e_a26, h⟩ := h
          refine v_nn3 e_a26 ?_
          obtain ⟨k27, h⟩ := h
          refine v_callVi0 hX dX11_live_63 c_RX11_163 cV_X7_stepsBetween (ci := 8) (T := TX7) (N := 13) rfl (by exact k27) [pI _, pI _, pI _] rfl rfl (Nat.le_of_ble_eq_true rfl) (by decide) (by decide)  (m_X7_stepsBetween h) (fun p29 s28 h => ?_)
          refine v_istore (lv' := [(6, _), (0, _), (1, _), (2, _), (3, _), (4, _), (5, _)]) hX dX11_live_66 (by decide) rfl ?_
          refine v_iload hX dX11_live_68 0 rfl ?_
          refine v_bipush (v := -9) hX dX11_live_70 (by decide) ?_
          refine v_icmp_eq (tgt := 81) hX dX11_live_72 (by decide) (fun c30 => ?_) (fun c30 => ?_)
          · have h := h_T c30 h
            refine v_aload_n hX dX11_live_81 1 rfl rfl ?_
            refine v_iload_n hX dX11_live_82 2 rfl rfl ?_
            refine v_iload_n hX dX11_live_83 3 rfl rfl ?_
            obtain ⟨b33, b34, h⟩ := h
            refine v_new hX dX11_live_84 n_RX11_117 b33 b34 (fun q31 k32 => ?_)
            have h := h q31 k32
            refine v_dup hX dX11_live_87 rfl ?_
            refine v_iconst (v := 3) hX dX11_live_88 (by decide) ?_
            refine v_iload hX dX11_live_89 5 rfl ?_
            refine v_iload hX dX11_live_91 6 rfl ?_
            refine v_iload_n hX dX11_live_93 4 rfl rfl ?_
            refine v_bipush (v := -9) hX dX11_live_94 (by decide) ?_
            refine v_callIv0 hX dX11_live_96 c_RX11_119 cI_X2_init [pI _, pI _, pI _, pI _, pI _] rfl rfl (Nat.le_of_ble_eq_true rfl) (by decide) (by decide)  (m_X2_init h) (fun s38 h => ?_)
            obtain ⟨k40, h⟩ := h
            obtain ⟨mc43, ms44, b45, b46, h⟩ := h
            refine v_callVi hX dX11_live_99 c_RX11_146 cV_X11_showsWith (ci := 12) (T := TX11) (N := 19) rfl (by exact k40) [pI _, pI _, pR _] rfl rfl (Nat.le_of_ble_eq_true rfl) (by decide) (by decide) b45 b46 (m_X11_showsWith h) (fun p42 s41 h => ?_)
            exact v_iret hX hE dX11_live_102 h
          · have h := h_E c30 h
            refine v_bipush (v := -100) hX dX11_live_75 (by decide) ?_
            refine v_iload hX dX11_live_77 0 rfl ?_
            refine v_isub hX dX11_live_79 ?_
            exact v_iret hX hE dX11_live_80 h
        · have h := h_T c24 h
          refine v_bipush (v := -3) hX dX11_live_53 (by decide) ?_
          exact v_iret hX hE dX11_live_55 h
      · have h := h_T c15 h
        refine v_bipush (v := -2) hX dX11_live_29 (by decide) ?_
        exact v_iret hX hE dX11_live_31 h
    · have h := h_T c12 h
      refine v_pick [] rfl ?_
      exact b_X11_live_17 hX hE _ h
set_option maxRecDepth 100000 in
set_option maxHeartbeats 4000000 in
theorem b_X11_isPlaceOf_32 {X : h_X} (hX : h_ok X cX11_isPlaceOf 3 RX11 16 483) {Q : Int32 → h_S → Prop} (hE : h_end X (some .boolean) (h_QI (x_Z X) Q)) {y0 : Int32} (s : h_S) {bc bs : Nat} (h : w_X11_isPlaceOf_32 Q y0 s bc bs) : h_V X 3 32 [] [pI y0] s bc bs := by
  unfold w_X11_isPlaceOf_32 at h
  exact v_zret hX hE dX11_isPlaceOf_32 h.1 h.2
set_option maxRecDepth 100000 in
set_option maxHeartbeats 4000000 in
theorem b_X11_isPlaceOf_31 {X : h_X} (hX : h_ok X cX11_isPlaceOf 3 RX11 16 483) {Q : Int32 → h_S → Prop} (hE : h_end X (some .boolean) (h_QI (x_Z X) Q)) (s : h_S) {bc bs : Nat} (h : w_X11_isPlaceOf_31 Q s bc bs) : h_V X 3 31 [] [] s bc bs := by
  unfold w_X11_isPlaceOf_31 at h
  refine v_iconst (v := 0) hX dX11_isPlaceOf_31 (by decide) ?_
  refine v_pick [] rfl ?_
  exact b_X11_isPlaceOf_32 hX hE _ h
set_option maxRecDepth 100000 in
set_option maxHeartbeats 4000000 in
theorem m_X11_isPlaceOf {Z : h_Z} {o0 : Nat} {x1 : Int32} {x2 : Int32} {s : h_S} {mc ms : Nat} {Q : Int32 → h_S → Prop} (h : w_X11_isPlaceOf o0 x1 x2 s mc ms Q) : h_M Z yX11_isPlaceOf cX11_isPlaceOf 3 (some .boolean) 16 483 [pR (some o0), pI x1, pI x2] s mc ms (h_QI Z Q) := by
  refine h_M.of (by decide) (Nat.le_of_ble_eq_true rfl) (fun X hZ hX hE hI => ?_)
  subst hZ
  unfold w_X11_isPlaceOf at h
  show h_V X 3 0 [(0, pR (some o0)), (1, pI x1), (2, pI x2)] [] s mc ms
  refine v_aload_n hX dX11_isPlaceOf_0 0 rfl rfl ?_
  refine v_iload_n hX dX11_isPlaceOf_1 1 rfl rfl ?_
  obtain ⟨k1, h⟩ := h
  refine v_callVi0 hX dX11_isPlaceOf_2 c_RX11_150 cV_X11_isWriting (ci := 12) (T := TX11) (N := 19) rfl (by exact k1) [pI _] rfl rfl (Nat.le_of_ble_eq_true rfl) (by decide) (by decide)  (m_X11_isWriting h) (fun p3 s2 h => ?_)
  refine v_if_eq (tgt := 31) hX dX11_isPlaceOf_5 (by decide) (fun c4 => ?_) (fun c4 => ?_)
  · have h := h_T c4 h
    refine v_pick [] rfl ?_
    exact b_X11_isPlaceOf_31 hX hE _ h
  · have h := h_E c4 h
    refine v_iload_n hX dX11_isPlaceOf_8 2 rfl rfl ?_
    refine v_aload_n hX dX11_isPlaceOf_9 0 rfl rfl ?_
    obtain ⟨k5, h⟩ := h
    refine v_getR hX dX11_isPlaceOf_10 f_RX11_21 rfl k5 ?_
    refine v_iload_n hX dX11_isPlaceOf_13 1 rfl rfl ?_
    refine v_aload_n hX dX11_isPlaceOf_14 0 rfl rfl ?_
    refine v_getI hX dX11_isPlaceOf_15 f_RX11_82 rfl k5 ?_
    obtain ⟨a6, e_a6, h⟩ := h
    refine v_nn2 e_a6 ?_
    obtain ⟨k7, h⟩ := h
    obtain ⟨mc10, ms11, b12, b13, h⟩ := h
    refine v_callVi hX dX11_isPlaceOf_18 c_RX11_170 cV_X7_sizeAsOf (ci := 8) (T := TX7) (N := 13) rfl (by exact k7) [pI _, pI _] rfl rfl (Nat.le_of_ble_eq_true rfl) (by decide) (by decide) b12 b13 (m_X7_sizeAsOf h) (fun p9 s8 h => ?_)
    refine v_callSi0 hX dX11_isPlaceOf_21 c_RX11_78 cS_X11_within [pI _, pI _] rfl rfl (Nat.le_of_ble_eq_true rfl) (by decide) (by decide)  (m_X11_within h) (fun p15 s14 h => ?_)
    refine v_if_eq (tgt := 31) hX dX11_isPlaceOf_24 (by decide) (fun c16 => ?_) (fun c16 => ?_)
    · have h := h_T c16 h
      refine v_pick [] rfl ?_
      exact b_X11_isPlaceOf_31 hX hE _ h
    · have h := h_E c16 h
      refine v_iconst (v := 1) hX dX11_isPlaceOf_27 (by decide) ?_
      refine v_goto (tgt := 32) hX dX11_isPlaceOf_28 (by decide) ?_
      refine v_pick [] rfl ?_
      exact b_X11_isPlaceOf_32 hX hE _ h
set_option maxRecDepth 100000 in
set_option maxHeartbeats 4000000 in
theorem m_X11_takeOut {Z : h_Z} {o0 : Nat} {x1 : Int32} {x2 : Int32} {x3 : Int32} {s : h_S} {mc ms : Nat} {Q : Int32 → h_S → Prop} (h : w_X11_takeOut o0 x1 x2 x3 s mc ms Q) : h_M Z yX11_takeOut cX11_takeOut 4 (some .boolean) 18 536 [pR (some o0), pI x1, pI x2, pI x3] s mc ms (h_QI Z Q) := by
  refine h_M.of (by decide) (Nat.le_of_ble_eq_true rfl) (fun X hZ hX hE hI => ?_)
  subst hZ
  unfold w_X11_takeOut at h
  show h_V X 4 0 [(0, pR (some o0)), (1, pI x1), (2, pI x2), (3, pI x3)] [] s mc ms
  refine v_aload_n hX dX11_takeOut_0 0 rfl rfl ?_
  obtain ⟨k1, h⟩ := h
  refine v_getR hX dX11_takeOut_1 f_RX11_21 rfl k1 ?_
  refine v_iload_n hX dX11_takeOut_4 1 rfl rfl ?_
  refine v_iload_n hX dX11_takeOut_5 2 rfl rfl ?_
  refine v_iload_n hX dX11_takeOut_6 3 rfl rfl ?_
  refine v_aload_n hX dX11_takeOut_7 0 rfl rfl ?_
  refine v_getI hX dX11_takeOut_8 f_RX11_82 rfl k1 ?_
  obtain ⟨a2, e_a2, h⟩ := h
  refine v_nn4 e_a2 ?_
  obtain ⟨k3, h⟩ := h
  obtain ⟨mc6, ms7, b8, b9, h⟩ := h
  refine v_callVv hX dX11_takeOut_11 c_RX11_177 cV_X7_lift (ci := 8) (T := TX7) (N := 13) rfl (by exact k3) [pI _, pI _, pI _, pI _] rfl rfl (Nat.le_of_ble_eq_true rfl) (by decide) (by decide) b8 b9 (m_X7_lift h) (fun s4 h => ?_)
  refine v_aload_n hX dX11_takeOut_14 0 rfl rfl ?_
  obtain ⟨k10, h⟩ := h
  refine v_getR hX dX11_takeOut_15 f_RX11_21 rfl k10 ?_
  refine v_iload_n hX dX11_takeOut_18 1 rfl rfl ?_
  refine v_aload_n hX dX11_takeOut_19 0 rfl rfl ?_
  refine v_getI hX dX11_takeOut_20 f_RX11_82 rfl k10 ?_
  refine v_iconst (v := 1) hX dX11_takeOut_23 (by decide) ?_
  refine v_iadd hX dX11_takeOut_24 ?_
  obtain ⟨a11, e_a11, h⟩ := h
  refine v_nn2 e_a11 ?_
  obtain ⟨k12, h⟩ := h
  obtain ⟨mc15, ms16, b17, b18, h⟩ := h
  refine v_callVi hX dX11_takeOut_25 c_RX11_185 cV_X7_keepLaid (ci := 8) (T := TX7) (N := 13) rfl (by exact k12) [pI _, pI _] rfl rfl (Nat.le_of_ble_eq_true rfl) (by decide) (by decide) b17 b18 (m_X7_keepLaid h) (fun p14 s13 h => ?_)
  exact v_zret hX hE dX11_takeOut_28 h.1 h.2
set_option maxRecDepth 100000 in
set_option maxHeartbeats 4000000 in
theorem b_X11_cut_34 {X : h_X} (hX : h_ok X cX11_cut 4 RX11 19 559) {Q : Int32 → h_S → Prop} (hE : h_end X (some .int) (h_QI (x_Z X) Q)) (s : h_S) {bc bs : Nat} (h : w_X11_cut_34 Q s bc bs) : h_V X 4 34 [] [] s bc bs := by
  unfold w_X11_cut_34 at h
  refine v_bipush (v := -2) hX dX11_cut_34 (by decide) ?_
  exact v_iret hX hE dX11_cut_36 h
set_option maxRecDepth 100000 in
set_option maxHeartbeats 4000000 in
theorem m_X11_cut {Z : h_Z} {o0 : Nat} {x1 : Int32} {x2 : Int32} {x3 : Int32} {s : h_S} {mc ms : Nat} {Q : Int32 → h_S → Prop} (h : w_X11_cut o0 x1 x2 x3 s mc ms Q) : h_M Z yX11_cut cX11_cut 4 (some .int) 19 559 [pR (some o0), pI x1, pI x2, pI x3] s mc ms (h_QI Z Q) := by
  refine h_M.of (by decide) (Nat.le_of_ble_eq_true rfl) (fun X hZ hX hE hI => ?_)
  subst hZ
  unfold w_X11_cut at h
  show h_V X 4 0 [(0, pR (some o0)), (1, pI x1), (2, pI x2), (3, pI x3)] [] s mc ms
  refine v_aload_n hX dX11_cut_0 0 rfl rfl ?_
  refine v_iload_n hX dX11_cut_1 1 rfl rfl ?_
  refine v_iload_n hX dX11_cut_2 2 rfl rfl ?_
  obtain ⟨k1, h⟩ := h
  obtain ⟨mc4, ms5, b6, b7, h⟩ := h
  refine v_callVi hX dX11_cut_3 c_RX11_167 cV_X11_isPlaceOf (ci := 12) (T := TX11) (N := 19) rfl (by exact k1) [pI _, pI _] rfl rfl (Nat.le_of_ble_eq_true rfl) (by decide) (by decide) b6 b7 (m_X11_isPlaceOf h) (fun p3 s2 h => ?_)
  refine v_if_ne (tgt := 11) hX dX11_cut_6 (by decide) (fun c8 => ?_) (fun c8 => ?_)
  · have h := h_E c8 h
    refine v_iload_n hX dX11_cut_11 3 rfl rfl ?_
    refine v_iconst (v := 1) hX dX11_cut_12 (by decide) ?_
    refine v_icmp_lt (tgt := 34) hX dX11_cut_13 (by decide) (fun c9 => ?_) (fun c9 => ?_)
    · have h := h_T c9 h
      refine v_pick [] rfl ?_
      exact b_X11_cut_34 hX hE _ h
    · have h := h_E c9 h
      refine v_iload_n hX dX11_cut_16 3 rfl rfl ?_
      refine v_aload_n hX dX11_cut_17 0 rfl rfl ?_
      obtain ⟨k10, h⟩ := h
      refine v_getR hX dX11_cut_18 f_RX11_21 rfl k10 ?_
      refine v_iload_n hX dX11_cut_21 1 rfl rfl ?_
      refine v_aload_n hX dX11_cut_22 0 rfl rfl ?_
      refine v_getI hX dX11_cut_23 f_RX11_82 rfl k10 ?_
      obtain ⟨a11, e_a11, h⟩ := h
      refine v_nn2 e_a11 ?_
      obtain ⟨k12, h⟩ := h
      obtain ⟨mc15, ms16, b17, b18, h⟩ := h
      refine v_callVi hX dX11_cut_26 c_RX11_170 cV_X7_sizeAsOf (ci := 8) (T := TX7) (N := 13) rfl (by exact k12) [pI _, pI _] rfl rfl (Nat.le_of_ble_eq_true rfl) (by decide) (by decide) b17 b18 (m_X7_sizeAsOf h) (fun p14 s13 h => ?_)
      refine v_iload_n hX dX11_cut_29 2 rfl rfl ?_
      refine v_isub hX dX11_cut_30 ?_
      refine v_icmp_le (tgt := 37) hX dX11_cut_31 (by decide) (fun c19 => ?_) (fun c19 => ?_)
      · have h := h_T c19 h
        refine v_aload_n hX dX11_cut_37 0 rfl rfl ?_
        refine v_iload_n hX dX11_cut_38 1 rfl rfl ?_
        refine v_iload_n hX dX11_cut_39 2 rfl rfl ?_
        refine v_iload_n hX dX11_cut_40 3 rfl rfl ?_
        obtain ⟨k20, h⟩ := h
        obtain ⟨mc23, ms24, b25, b26, h⟩ := h
        refine v_callVi hX dX11_cut_41 c_RX11_173 cV_X11_takeOut (ci := 12) (T := TX11) (N := 19) rfl (by exact k20) [pI _, pI _, pI _] rfl rfl (Nat.le_of_ble_eq_true rfl) (by decide) (by decide) b25 b26 (m_X11_takeOut h) (fun p22 s21 h => ?_)
        refine v_if_ne (tgt := 50) hX dX11_cut_44 (by decide) (fun c27 => ?_) (fun c27 => ?_)
        · have h := h_E c27 h
          refine v_aload_n hX dX11_cut_50 0 rfl rfl ?_
          refine v_aload_n hX dX11_cut_51 0 rfl rfl ?_
          obtain ⟨k28, h⟩ := h
          refine v_getR hX dX11_cut_52 f_RX11_21 rfl k28 ?_
          refine v_iload_n hX dX11_cut_55 1 rfl rfl ?_
          refine v_aload_n hX dX11_cut_56 0 rfl rfl ?_
          refine v_getI hX dX11_cut_57 f_RX11_82 rfl k28 ?_
          refine v_iconst (v := 1) hX dX11_cut_60 (by decide) ?_
          refine v_iadd hX dX11_cut_61 ?_
          obtain ⟨a29, e_a29, h⟩ := h
          refine v_nn2 e_a29 ?_
          obtain ⟨k30, h⟩ := h
          obtain ⟨mc33, ms34, b35, b36, h⟩ := h
          refine v_callVi hX dX11_cut_62 c_RX11_170 cV_X7_sizeAsOf (ci := 8) (T := TX7) (N := 13) rfl (by exact k30) [pI _, pI _] rfl rfl (Nat.le_of_ble_eq_true rfl) (by decide) (by decide) b35 b36 (m_X7_sizeAsOf h) (fun p32 s31 h => ?_)
          obtain ⟨k37, h⟩ := h
          refine v_callVi0 hX dX11_cut_65 c_RX11_74 cV_X11_acted (ci := 12) (T := TX11) (N := 19) rfl (by exact k37) [pI _] rfl rfl (Nat.le_of_ble_eq_true rfl) (by decide) (by decide)  (m_X11_acted h) (fun p39 s38 h => ?_)
          exact v_iret hX hE dX11_cut_68 h
        · have h := h_T c27 h
          refine v_bipush (v := -4) hX dX11_cut_47 (by decide) ?_
          exact v_iret hX hE dX11_cut_49 h
      · have h := h_E c19 h
        refine v_pick [] rfl ?_
        exact b_X11_cut_34 hX hE _ h
  · have h := h_T c8 h
    refine v_iconst (v := -1) hX dX11_cut_9 (by decide) ?_
    exact v_iret hX hE dX11_cut_10 h
set_option maxRecDepth 100000 in
set_option maxHeartbeats 4000000 in
theorem b_X11_move_19 {X : h_X} (hX : h_ok X cX11_move 5 RX11 18 536) {Q : Int32 → h_S → Prop} (hE : h_end X (some .int) (h_QI (x_Z X) Q)) (s : h_S) {bc bs : Nat} (h : w_X11_move_19 Q s bc bs) : h_V X 5 19 [] [] s bc bs := by
  unfold w_X11_move_19 at h
  refine v_iconst (v := -1) hX dX11_move_19 (by decide) ?_
  exact v_iret hX hE dX11_move_20 h
set_option maxRecDepth 100000 in
set_option maxHeartbeats 4000000 in
theorem b_X11_move_44 {X : h_X} (hX : h_ok X cX11_move 5 RX11 18 536) {Q : Int32 → h_S → Prop} (hE : h_end X (some .int) (h_QI (x_Z X) Q)) (s : h_S) {bc bs : Nat} (h : w_X11_move_44 Q s bc bs) : h_V X 5 44 [] [] s bc bs := by
  unfold w_X11_move_44 at h
  refine v_bipush (v := -2) hX dX11_move_44 (by decide) ?_
  exact v_iret hX hE dX11_move_46 h
set_option maxRecDepth 100000 in
set_option maxHeartbeats 4000000 in
theorem b_X11_move_97 {X : h_X} (hX : h_ok X cX11_move 5 RX11 18 536) {Q : Int32 → h_S → Prop} (hE : h_end X (some .int) (h_QI (x_Z X) Q)) {o0 : Nat} {x1 : Int32} {y0 : Int32} {t1 : Option Nat} (s : h_S) {bc bs : Nat} (h : w_X11_move_97 Q o0 x1 y0 t1 s bc bs) : h_V X 5 97 [(0, pR (some o0)), (1, pI x1)] [pI y0, pR t1] s bc bs := by
  unfold w_X11_move_97 at h
  refine v_aload_n hX dX11_move_97 0 rfl rfl ?_
  obtain ⟨k1, h⟩ := h
  refine v_getI hX dX11_move_98 f_RX11_82 rfl k1 ?_
  obtain ⟨a2, e_a2, h⟩ := h
  refine v_nn2 e_a2 ?_
  obtain ⟨k3, h⟩ := h
  obtain ⟨mc6, ms7, b8, b9, h⟩ := h
  refine v_callVv hX dX11_move_101 c_RX11_181 cV_X7_bringLifted (ci := 8) (T := TX7) (N := 13) rfl (by exact k3) [pI _, pI _] rfl rfl (Nat.le_of_ble_eq_true rfl) (by decide) (by decide) b8 b9 (m_X7_bringLifted h) (fun s4 h => ?_)
  refine v_aload_n hX dX11_move_104 0 rfl rfl ?_
  obtain ⟨k10, h⟩ := h
  refine v_getR hX dX11_move_105 f_RX11_21 rfl k10 ?_
  refine v_iload_n hX dX11_move_108 1 rfl rfl ?_
  refine v_aload_n hX dX11_move_109 0 rfl rfl ?_
  refine v_getI hX dX11_move_110 f_RX11_82 rfl k10 ?_
  refine v_iconst (v := 1) hX dX11_move_113 (by decide) ?_
  refine v_iadd hX dX11_move_114 ?_
  obtain ⟨a11, e_a11, h⟩ := h
  refine v_nn2 e_a11 ?_
  obtain ⟨k12, h⟩ := h
  obtain ⟨mc15, ms16, b17, b18, h⟩ := h
  refine v_callVi hX dX11_move_115 c_RX11_185 cV_X7_keepLaid (ci := 8) (T := TX7) (N := 13) rfl (by exact k12) [pI _, pI _] rfl rfl (Nat.le_of_ble_eq_true rfl) (by decide) (by decide) b17 b18 (m_X7_keepLaid h) (fun p14 s13 h => ?_)
  refine v_if_ne (tgt := 124) hX dX11_move_118 (by decide) (fun c19 => ?_) (fun c19 => ?_)
  · have h := h_E c19 h
    refine v_aload_n hX dX11_move_124 0 rfl rfl ?_
    refine v_aload_n hX dX11_move_125 0 rfl rfl ?_
    obtain ⟨k20, h⟩ := h
    refine v_getR hX dX11_move_126 f_RX11_21 rfl k20 ?_
    refine v_iload_n hX dX11_move_129 1 rfl rfl ?_
    obtain ⟨a21, e_a21, h⟩ := h
    refine v_nn1 e_a21 ?_
    obtain ⟨k22, h⟩ := h
    refine v_callVi0 hX dX11_move_130 c_RX11_188 cV_X7_pieceCount (ci := 8) (T := TX7) (N := 13) rfl (by exact k22) [pI _] rfl rfl (Nat.le_of_ble_eq_true rfl) (by decide) (by decide)  (m_X7_pieceCount h) (fun p24 s23 h => ?_)
    obtain ⟨k25, h⟩ := h
    refine v_callVi0 hX dX11_move_133 c_RX11_74 cV_X11_acted (ci := 12) (T := TX11) (N := 19) rfl (by exact k25) [pI _] rfl rfl (Nat.le_of_ble_eq_true rfl) (by decide) (by decide)  (m_X11_acted h) (fun p27 s26 h => ?_)
    exact v_iret hX hE dX11_move_136 h
  · have h := h_T c19 h
    refine v_bipush (v := -4) hX dX11_move_121 (by decide) ?_
    exact v_iret hX hE dX11_move_123 h
set_option maxRecDepth 100000 in
set_option maxHeartbeats 4000000 in
theorem b_X11_move_64 {X : h_X} (hX : h_ok X cX11_move 5 RX11 18 536) {Q : Int32 → h_S → Prop} (hE : h_end X (some .int) (h_QI (x_Z X) Q)) {o0 : Nat} {x1 : Int32} {x2 : Int32} {x3 : Int32} {x4 : Int32} (s : h_S) {bc bs : Nat} (h : w_X11_move_64 Q o0 x1 x2 x3 x4 s bc bs) : h_V X 5 64 [(0, pR (some o0)), (1, pI x1), (2, pI x2), (3, pI x3), (4, pI x4)] [] s bc bs := by
  unfold w_X11_move_64 at h
  refine v_aload_n hX dX11_move_64 0 rfl rfl ?_
  obtain ⟨k1, h⟩ := h
  refine v_getR hX dX11_move_65 f_RX11_21 rfl k1 ?_
  refine v_iload_n hX dX11_move_68 1 rfl rfl ?_
  refine v_iload_n hX dX11_move_69 2 rfl rfl ?_
  refine v_iload_n hX dX11_move_70 3 rfl rfl ?_
  refine v_aload_n hX dX11_move_71 0 rfl rfl ?_
  refine v_getI hX dX11_move_72 f_RX11_82 rfl k1 ?_
  obtain ⟨a2, e_a2, h⟩ := h
  refine v_nn4 e_a2 ?_
  obtain ⟨k3, h⟩ := h
  obtain ⟨mc6, ms7, b8, b9, h⟩ := h
  refine v_callVv hX dX11_move_75 c_RX11_177 cV_X7_lift (ci := 8) (T := TX7) (N := 13) rfl (by exact k3) [pI _, pI _, pI _, pI _] rfl rfl (Nat.le_of_ble_eq_true rfl) (by decide) (by decide) b8 b9 (m_X7_lift h) (fun s4 h => ?_)
  refine v_aload_n hX dX11_move_78 0 rfl rfl ?_
  obtain ⟨k10, h⟩ := h
  refine v_getR hX dX11_move_79 f_RX11_21 rfl k10 ?_
  refine v_iload hX dX11_move_82 4 rfl ?_
  refine v_iload_n hX dX11_move_84 2 rfl rfl ?_
  refine v_icmp_le (tgt := 95) hX dX11_move_85 (by decide) (fun c11 => ?_) (fun c11 => ?_)
  · have h := h_T c11 h
    refine v_iload hX dX11_move_95 4 rfl ?_
    refine v_pick [0, 1] rfl ?_
    exact b_X11_move_97 hX hE _ h
  · have h := h_E c11 h
    refine v_iload hX dX11_move_88 4 rfl ?_
    refine v_iload_n hX dX11_move_90 3 rfl rfl ?_
    refine v_isub hX dX11_move_91 ?_
    refine v_goto (tgt := 97) hX dX11_move_92 (by decide) ?_
    refine v_pick [0, 1] rfl ?_
    exact b_X11_move_97 hX hE _ h
set_option maxRecDepth 100000 in
set_option maxHeartbeats 4000000 in
theorem m_X11_move {Z : h_Z} {o0 : Nat} {x1 : Int32} {x2 : Int32} {x3 : Int32} {x4 : Int32} {s : h_S} {mc ms : Nat} {Q : Int32 → h_S → Prop} (h : w_X11_move o0 x1 x2 x3 x4 s mc ms Q) : h_M Z yX11_move cX11_move 5 (some .int) 18 536 [pR (some o0), pI x1, pI x2, pI x3, pI x4] s mc ms (h_QI Z Q) := by
  refine h_M.of (by decide) (Nat.le_of_ble_eq_true rfl) (fun X hZ hX hE hI => ?_)
  subst hZ
  unfold w_X11_move at h
  show h_V X 5 0 [(0, pR (some o0)), (1, pI x1), (2, pI x2), (3, pI x3), (4, pI x4)] [] s mc ms
  refine v_aload_n hX dX11_move_0 0 rfl rfl ?_
  refine v_iload_n hX dX11_move_1 1 rfl rfl ?_
  refine v_iload_n hX dX11_move_2 2 rfl rfl ?_
  obtain ⟨k1, h⟩ := h
  obtain ⟨mc4, ms5, b6, b7, h⟩ := h
  refine v_callVi hX dX11_move_3 c_RX11_167 cV_X11_isPlaceOf (ci := 12) (T := TX11) (N := 19) rfl (by exact k1) [pI _, pI _] rfl rfl (Nat.le_of_ble_eq_true rfl) (by decide) (by decide) b6 b7 (m_X11_isPlaceOf h) (fun p3 s2 h => ?_)
  refine v_if_eq (tgt := 19) hX dX11_move_6 (by decide) (fun c8 => ?_) (fun c8 => ?_)
  · have h := h_T c8 h
    refine v_pick [] rfl ?_
    exact b_X11_move_19 hX hE _ h
  · have h := h_E c8 h
    refine v_aload_n hX dX11_move_9 0 rfl rfl ?_
    refine v_iload_n hX dX11_move_10 1 rfl rfl ?_
    refine v_iload hX dX11_move_11 4 rfl ?_
    obtain ⟨k9, h⟩ := h
    obtain ⟨mc12, ms13, b14, b15, h⟩ := h
    refine v_callVi hX dX11_move_13 c_RX11_103 cV_X11_takesAhead (ci := 12) (T := TX11) (N := 19) rfl (by exact k9) [pI _, pI _] rfl rfl (Nat.le_of_ble_eq_true rfl) (by decide) (by decide) b14 b15 (m_X11_takesAhead h) (fun p11 s10 h => ?_)
    refine v_if_ne (tgt := 21) hX dX11_move_16 (by decide) (fun c16 => ?_) (fun c16 => ?_)
    · have h := h_E c16 h
      refine v_iload_n hX dX11_move_21 3 rfl rfl ?_
      refine v_iconst (v := 1) hX dX11_move_22 (by decide) ?_
      refine v_icmp_lt (tgt := 44) hX dX11_move_23 (by decide) (fun c17 => ?_) (fun c17 => ?_)
      · have h := h_T c17 h
        refine v_pick [] rfl ?_
        exact b_X11_move_44 hX hE _ h
      · have h := h_E c17 h
        refine v_iload_n hX dX11_move_26 3 rfl rfl ?_
        refine v_aload_n hX dX11_move_27 0 rfl rfl ?_
        obtain ⟨k18, h⟩ := h
        refine v_getR hX dX11_move_28 f_RX11_21 rfl k18 ?_
        refine v_iload_n hX dX11_move_31 1 rfl rfl ?_
        refine v_aload_n hX dX11_move_32 0 rfl rfl ?_
        refine v_getI hX dX11_move_33 f_RX11_82 rfl k18 ?_
        obtain ⟨a19, e_a19, h⟩ := h
        refine v_nn2 e_a19 ?_
        obtain ⟨k20, h⟩ := h
        obtain ⟨mc23, ms24, b25, b26, h⟩ := h
        refine v_callVi hX dX11_move_36 c_RX11_170 cV_X7_sizeAsOf (ci := 8) (T := TX7) (N := 13) rfl (by exact k20) [pI _, pI _] rfl rfl (Nat.le_of_ble_eq_true rfl) (by decide) (by decide) b25 b26 (m_X7_sizeAsOf h) (fun p22 s21 h => ?_)
        refine v_iload_n hX dX11_move_39 2 rfl rfl ?_
        refine v_isub hX dX11_move_40 ?_
        refine v_icmp_le (tgt := 47) hX dX11_move_41 (by decide) (fun c27 => ?_) (fun c27 => ?_)
        · have h := h_T c27 h
          refine v_iload hX dX11_move_47 4 rfl ?_
          refine v_iload_n hX dX11_move_49 2 rfl rfl ?_
          refine v_icmp_le (tgt := 64) hX dX11_move_50 (by decide) (fun c28 => ?_) (fun c28 => ?_)
          · have h := h_T c28 h
            refine v_pick [0, 1, 2, 3, 4] rfl ?_
            exact b_X11_move_64 hX hE _ h
          · have h := h_E c28 h
            refine v_iload hX dX11_move_53 4 rfl ?_
            refine v_iload_n hX dX11_move_55 2 rfl rfl ?_
            refine v_iload_n hX dX11_move_56 3 rfl rfl ?_
            refine v_iadd hX dX11_move_57 ?_
            refine v_icmp_ge (tgt := 64) hX dX11_move_58 (by decide) (fun c29 => ?_) (fun c29 => ?_)
            · have h := h_T c29 h
              refine v_pick [0, 1, 2, 3, 4] rfl ?_
              exact b_X11_move_64 hX hE _ h
            · have h := h_E c29 h
              refine v_bipush (v := -3) hX dX11_move_61 (by decide) ?_
              exact v_iret hX hE dX11_move_63 h
        · have h := h_E c27 h
          refine v_pick [] rfl ?_
          exact b_X11_move_44 hX hE _ h
    · have h := h_T c16 h
      refine v_pick [] rfl ?_
      exact b_X11_move_19 hX hE _ h
set_option maxRecDepth 100000 in
set_option maxHeartbeats 4000000 in
theorem b_X11_again_16 {X : h_X} (hX : h_ok X cX11_again 3 RX11 3 67) {Q : Int32 → h_S → Prop} (hE : h_end X (some .int) (h_QI (x_Z X) Q)) (s : h_S) {bc bs : Nat} (h : w_X11_again_16 Q s bc bs) : h_V X 3 16 [] [] s bc bs := by
  unfold w_X11_again_16 at h
  refine v_iconst (v := -1) hX dX11_again_16 (by decide) ?_
  exact v_iret hX hE dX11_again_17 h
set_option maxRecDepth 100000 in
set_option maxHeartbeats 4000000 in
theorem m_X11_again {Z : h_Z} {o0 : Nat} {x1 : Int32} {x2 : Int32} {s : h_S} {mc ms : Nat} {Q : Int32 → h_S → Prop} (h : w_X11_again o0 x1 x2 s mc ms Q) : h_M Z yX11_again cX11_again 3 (some .int) 3 67 [pR (some o0), pI x1, pI x2] s mc ms (h_QI Z Q) := by
  refine h_M.of (by decide) (Nat.le_of_ble_eq_true rfl) (fun X hZ hX hE hI => ?_)
  subst hZ
  unfold w_X11_again at h
  show h_V X 3 0 [(0, pR (some o0)), (1, pI x1), (2, pI x2)] [] s mc ms
  refine v_aload_n hX dX11_again_0 0 rfl rfl ?_
  refine v_iload_n hX dX11_again_1 1 rfl rfl ?_
  obtain ⟨k1, h⟩ := h
  refine v_callVi0 hX dX11_again_2 c_RX11_150 cV_X11_isWriting (ci := 12) (T := TX11) (N := 19) rfl (by exact k1) [pI _] rfl rfl (Nat.le_of_ble_eq_true rfl) (by decide) (by decide)  (m_X11_isWriting h) (fun p3 s2 h => ?_)
  refine v_if_eq (tgt := 16) hX dX11_again_5 (by decide) (fun c4 => ?_) (fun c4 => ?_)
  · have h := h_T c4 h
    refine v_pick [] rfl ?_
    exact b_X11_again_16 hX hE _ h
  · have h := h_E c4 h
    refine v_aload_n hX dX11_again_8 0 rfl rfl ?_
    refine v_iload_n hX dX11_again_9 2 rfl rfl ?_
    obtain ⟨k5, h⟩ := h
    refine v_callVi0 hX dX11_again_10 c_RX11_153 cV_X11_isMoment (ci := 12) (T := TX11) (N := 19) rfl (by exact k5) [pI _] rfl rfl (Nat.le_of_ble_eq_true rfl) (by decide) (by decide)  (m_X11_isMoment h) (fun p7 s6 h => ?_)
    refine v_if_ne (tgt := 18) hX dX11_again_13 (by decide) (fun c8 => ?_) (fun c8 => ?_)
    · have h := h_E c8 h
      refine v_aload_n hX dX11_again_18 0 rfl rfl ?_
      obtain ⟨k9, h⟩ := h
      refine v_getR hX dX11_again_19 f_RX11_21 rfl k9 ?_
      refine v_iload_n hX dX11_again_22 1 rfl rfl ?_
      refine v_iload_n hX dX11_again_23 2 rfl rfl ?_
      refine v_aload_n hX dX11_again_24 0 rfl rfl ?_
      refine v_getI hX dX11_again_25 f_RX11_82 rfl k9 ?_
      refine v_iconst (v := 1) hX dX11_again_28 (by decide) ?_
      refine v_iadd hX dX11_again_29 ?_
      obtain ⟨a10, e_a10, h⟩ := h
      refine v_nn3 e_a10 ?_
      obtain ⟨k11, h⟩ := h
      obtain ⟨mc14, ms15, b16, b17, h⟩ := h
      refine v_callVv hX dX11_again_30 c_RX11_191 cV_X7_returnTo (ci := 8) (T := TX7) (N := 13) rfl (by exact k11) [pI _, pI _, pI _] rfl rfl (Nat.le_of_ble_eq_true rfl) (by decide) (by decide) b16 b17 (m_X7_returnTo h) (fun s12 h => ?_)
      refine v_aload_n hX dX11_again_33 0 rfl rfl ?_
      refine v_aload_n hX dX11_again_34 0 rfl rfl ?_
      obtain ⟨k18, h⟩ := h
      refine v_getR hX dX11_again_35 f_RX11_21 rfl k18 ?_
      refine v_iload_n hX dX11_again_38 1 rfl rfl ?_
      obtain ⟨a19, e_a19, h⟩ := h
      refine v_nn1 e_a19 ?_
      obtain ⟨k20, h⟩ := h
      refine v_callVi0 hX dX11_again_39 c_RX11_188 cV_X7_pieceCount (ci := 8) (T := TX7) (N := 13) rfl (by exact k20) [pI _] rfl rfl (Nat.le_of_ble_eq_true rfl) (by decide) (by decide)  (m_X7_pieceCount h) (fun p22 s21 h => ?_)
      obtain ⟨k23, h⟩ := h
      refine v_callVi0 hX dX11_again_42 c_RX11_74 cV_X11_acted (ci := 12) (T := TX11) (N := 19) rfl (by exact k23) [pI _] rfl rfl (Nat.le_of_ble_eq_true rfl) (by decide) (by decide)  (m_X11_acted h) (fun p25 s24 h => ?_)
      exact v_iret hX hE dX11_again_45 h
    · have h := h_T c8 h
      refine v_pick [] rfl ?_
      exact b_X11_again_16 hX hE _ h
set_option maxRecDepth 100000 in
set_option maxHeartbeats 4000000 in
theorem b_X11_length_16 {X : h_X} (hX : h_ok X cX11_length 3 RX11 16 483) {Q : Int32 → h_S → Prop} (hE : h_end X (some .int) (h_QI (x_Z X) Q)) (s : h_S) {bc bs : Nat} (h : w_X11_length_16 Q s bc bs) : h_V X 3 16 [] [] s bc bs := by
  unfold w_X11_length_16 at h
  refine v_iconst (v := -1) hX dX11_length_16 (by decide) ?_
  exact v_iret hX hE dX11_length_17 h
set_option maxRecDepth 100000 in
set_option maxHeartbeats 4000000 in
theorem m_X11_length {Z : h_Z} {o0 : Nat} {x1 : Int32} {x2 : Int32} {s : h_S} {mc ms : Nat} {Q : Int32 → h_S → Prop} (h : w_X11_length o0 x1 x2 s mc ms Q) : h_M Z yX11_length cX11_length 3 (some .int) 16 483 [pR (some o0), pI x1, pI x2] s mc ms (h_QI Z Q) := by
  refine h_M.of (by decide) (Nat.le_of_ble_eq_true rfl) (fun X hZ hX hE hI => ?_)
  subst hZ
  unfold w_X11_length at h
  show h_V X 3 0 [(0, pR (some o0)), (1, pI x1), (2, pI x2)] [] s mc ms
  refine v_aload_n hX dX11_length_0 0 rfl rfl ?_
  refine v_iload_n hX dX11_length_1 1 rfl rfl ?_
  obtain ⟨k1, h⟩ := h
  refine v_callVi0 hX dX11_length_2 c_RX11_150 cV_X11_isWriting (ci := 12) (T := TX11) (N := 19) rfl (by exact k1) [pI _] rfl rfl (Nat.le_of_ble_eq_true rfl) (by decide) (by decide)  (m_X11_isWriting h) (fun p3 s2 h => ?_)
  refine v_if_eq (tgt := 16) hX dX11_length_5 (by decide) (fun c4 => ?_) (fun c4 => ?_)
  · have h := h_T c4 h
    refine v_pick [] rfl ?_
    exact b_X11_length_16 hX hE _ h
  · have h := h_E c4 h
    refine v_aload_n hX dX11_length_8 0 rfl rfl ?_
    refine v_iload_n hX dX11_length_9 2 rfl rfl ?_
    obtain ⟨k5, h⟩ := h
    refine v_callVi0 hX dX11_length_10 c_RX11_153 cV_X11_isMoment (ci := 12) (T := TX11) (N := 19) rfl (by exact k5) [pI _] rfl rfl (Nat.le_of_ble_eq_true rfl) (by decide) (by decide)  (m_X11_isMoment h) (fun p7 s6 h => ?_)
    refine v_if_ne (tgt := 18) hX dX11_length_13 (by decide) (fun c8 => ?_) (fun c8 => ?_)
    · have h := h_E c8 h
      refine v_aload_n hX dX11_length_18 0 rfl rfl ?_
      obtain ⟨k9, h⟩ := h
      refine v_getR hX dX11_length_19 f_RX11_21 rfl k9 ?_
      refine v_iload_n hX dX11_length_22 1 rfl rfl ?_
      refine v_iload_n hX dX11_length_23 2 rfl rfl ?_
      obtain ⟨a10, e_a10, h⟩ := h
      refine v_nn2 e_a10 ?_
      obtain ⟨k11, h⟩ := h
      obtain ⟨mc14, ms15, b16, b17, h⟩ := h
      refine v_callVi hX dX11_length_24 c_RX11_170 cV_X7_sizeAsOf (ci := 8) (T := TX7) (N := 13) rfl (by exact k11) [pI _, pI _] rfl rfl (Nat.le_of_ble_eq_true rfl) (by decide) (by decide) b16 b17 (m_X7_sizeAsOf h) (fun p13 s12 h => ?_)
      exact v_iret hX hE dX11_length_27 h
    · have h := h_T c8 h
      refine v_pick [] rfl ?_
      exact b_X11_length_16 hX hE _ h
set_option maxRecDepth 100000 in
set_option maxHeartbeats 4000000 in
theorem b_X11_shown_16 {X : h_X} (hX : h_ok X cX11_shown 5 RX11 15 461) {Q : Int32 → h_S → Prop} (hE : h_end X (some .int) (h_QI (x_Z X) Q)) (s : h_S) {bc bs : Nat} (h : w_X11_shown_16 Q s bc bs) : h_V X 5 16 [] [] s bc bs := by
  unfold w_X11_shown_16 at h
  refine v_iconst (v := -1) hX dX11_shown_16 (by decide) ?_
  exact v_iret hX hE dX11_shown_17 h
set_option maxRecDepth 100000 in
set_option maxHeartbeats 4000000 in
theorem b_X11_shown_53 {X : h_X} (hX : h_ok X cX11_shown 5 RX11 15 461) {Q : Int32 → h_S → Prop} (hE : h_end X (some .int) (h_QI (x_Z X) Q)) {y0 : Int32} (s : h_S) {bc bs : Nat} (h : w_X11_shown_53 Q y0 s bc bs) : h_V X 5 53 [] [pI y0] s bc bs := by
  unfold w_X11_shown_53 at h
  exact v_iret hX hE dX11_shown_53 h
set_option maxRecDepth 100000 in
set_option maxHeartbeats 4000000 in
theorem m_X11_shown {Z : h_Z} {o0 : Nat} {x1 : Int32} {x2 : Int32} {x3 : Int32} {s : h_S} {mc ms : Nat} {Q : Int32 → h_S → Prop} (h : w_X11_shown o0 x1 x2 x3 s mc ms Q) : h_M Z yX11_shown cX11_shown 5 (some .int) 15 461 [pR (some o0), pI x1, pI x2, pI x3] s mc ms (h_QI Z Q) := by
  refine h_M.of (by decide) (Nat.le_of_ble_eq_true rfl) (fun X hZ hX hE hI => ?_)
  subst hZ
  unfold w_X11_shown at h
  show h_V X 5 0 [(0, pR (some o0)), (1, pI x1), (2, pI x2), (3, pI x3)] [] s mc ms
  refine v_aload_n hX dX11_shown_0 0 rfl rfl ?_
  refine v_iload_n hX dX11_shown_1 1 rfl rfl ?_
  obtain ⟨k1, h⟩ := h
  refine v_callVi0 hX dX11_shown_2 c_RX11_150 cV_X11_isWriting (ci := 12) (T := TX11) (N := 19) rfl (by exact k1) [pI _] rfl rfl (Nat.le_of_ble_eq_true rfl) (by decide) (by decide)  (m_X11_isWriting h) (fun p3 s2 h => ?_)
  refine v_if_eq (tgt := 16) hX dX11_shown_5 (by decide) (fun c4 => ?_) (fun c4 => ?_)
  · have h := h_T c4 h
    refine v_pick [] rfl ?_
    exact b_X11_shown_16 hX hE _ h
  · have h := h_E c4 h
    refine v_aload_n hX dX11_shown_8 0 rfl rfl ?_
    refine v_iload_n hX dX11_shown_9 2 rfl rfl ?_
    obtain ⟨k5, h⟩ := h
    refine v_callVi0 hX dX11_shown_10 c_RX11_153 cV_X11_isMoment (ci := 12) (T := TX11) (N := 19) rfl (by exact k5) [pI _] rfl rfl (Nat.le_of_ble_eq_true rfl) (by decide) (by decide)  (m_X11_isMoment h) (fun p7 s6 h => ?_)
    refine v_if_ne (tgt := 18) hX dX11_shown_13 (by decide) (fun c8 => ?_) (fun c8 => ?_)
    · have h := h_E c8 h
      refine v_aload_n hX dX11_shown_18 0 rfl rfl ?_
      obtain ⟨k9, h⟩ := h
      refine v_getR hX dX11_shown_19 f_RX11_21 rfl k9 ?_
      refine v_iload_n hX dX11_shown_22 1 rfl rfl ?_
      refine v_iload_n hX dX11_shown_23 2 rfl rfl ?_
      refine v_iconst (v := 0) hX dX11_shown_24 (by decide) ?_
      obtain ⟨a10, e_a10, h⟩ := h
      refine v_nn3 e_a10 ?_
      obtain ⟨k11, h⟩ := h
      obtain ⟨mc14, ms15, b16, b17, h⟩ := h
      refine v_callVr hX dX11_shown_25 c_RX11_194 cV_X7_shownOf (ci := 8) (T := TX7) (N := 13) rfl (by exact k11) [pI _, pI _, pI _] rfl rfl (Nat.le_of_ble_eq_true rfl) (by decide) (by decide) b16 b17 (m_X7_shownOf 6 _ _ _ _ _ _ _ _ h) (fun p13 s12 h => ?_)
      refine v_astore (lv' := [(4, _), (0, _), (1, _), (2, _), (3, _)]) hX dX11_shown_28 (by decide) rfl ?_
      refine v_iload_n hX dX11_shown_30 4 rfl rfl ?_
      refine v_aload hX dX11_shown_31 0 rfl ?_
      obtain ⟨a18, e_a18, h⟩ := h
      refine v_nn0 e_a18 ?_
      obtain ⟨k19, h⟩ := h
      refine v_getI hX dX11_shown_33 f_RX11_198 rfl k19 ?_
      refine v_callSi0 hX dX11_shown_36 c_RX11_78 cS_X11_within [pI _, pI _] rfl rfl (Nat.le_of_ble_eq_true rfl) (by decide) (by decide)  (m_X11_within h) (fun p21 s20 h => ?_)
      refine v_if_eq (tgt := 52) hX dX11_shown_39 (by decide) (fun c22 => ?_) (fun c22 => ?_)
      · have h := h_T c22 h
        refine v_iconst (v := -1) hX dX11_shown_52 (by decide) ?_
        refine v_pick [] rfl ?_
        exact b_X11_shown_53 hX hE _ h
      · have h := h_E c22 h
        refine v_aload hX dX11_shown_42 0 rfl ?_
        obtain ⟨a23, e_a23, h⟩ := h
        refine v_nn0 e_a23 ?_
        obtain ⟨k24, h⟩ := h
        refine v_getR hX dX11_shown_44 f_RX11_203 rfl k24 ?_
        refine v_iload_n hX dX11_shown_47 4 rfl rfl ?_
        obtain ⟨a25, e_a25, h⟩ := h
        refine v_nn1 e_a25 ?_
        obtain ⟨k26, h⟩ := h
        obtain ⟨i27, h⟩ := h
        refine v_iald hX dX11_shown_48 k26 i27 ?_
        refine v_goto (tgt := 53) hX dX11_shown_49 (by decide) ?_
        refine v_pick [] rfl ?_
        exact b_X11_shown_53 hX hE _ h
    · have h := h_T c8 h
      refine v_pick [] rfl ?_
      exact b_X11_shown_16 hX hE _ h
set_option maxRecDepth 100000 in
set_option maxHeartbeats 4000000 in
theorem b_X11_pieces_20 {X : h_X} (hX : h_ok X cX11_pieces 2 RX11 2 42) {Q : Int32 → h_S → Prop} (hE : h_end X (some .int) (h_QI (x_Z X) Q)) {y0 : Int32} (s : h_S) (h : w_X11_pieces_20 Q y0 s) : h_V X 2 20 [] [pI y0] s 0 0 := by
  unfold w_X11_pieces_20 at h
  exact v_iret hX hE dX11_pieces_20 h
set_option maxRecDepth 100000 in
set_option maxHeartbeats 4000000 in
theorem m_X11_pieces {Z : h_Z} {o0 : Nat} {x1 : Int32} {s : h_S} {Q : Int32 → h_S → Prop} (h : w_X11_pieces o0 x1 s Q) : h_M Z yX11_pieces cX11_pieces 2 (some .int) 2 42 [pR (some o0), pI x1] s 0 0 (h_QI Z Q) := by
  refine h_M.of (by decide) (Nat.le_of_ble_eq_true rfl) (fun X hZ hX hE hI => ?_)
  subst hZ
  unfold w_X11_pieces at h
  show h_V X 2 0 [(0, pR (some o0)), (1, pI x1)] [] s 0 0
  refine v_aload_n hX dX11_pieces_0 0 rfl rfl ?_
  refine v_iload_n hX dX11_pieces_1 1 rfl rfl ?_
  obtain ⟨k1, h⟩ := h
  refine v_callVi0 hX dX11_pieces_2 c_RX11_150 cV_X11_isWriting (ci := 12) (T := TX11) (N := 19) rfl (by exact k1) [pI _] rfl rfl (Nat.le_of_ble_eq_true rfl) (by decide) (by decide)  (m_X11_isWriting h) (fun p3 s2 h => ?_)
  refine v_if_eq (tgt := 19) hX dX11_pieces_5 (by decide) (fun c4 => ?_) (fun c4 => ?_)
  · have h := h_T c4 h
    refine v_iconst (v := -1) hX dX11_pieces_19 (by decide) ?_
    refine v_pick [] rfl ?_
    exact b_X11_pieces_20 hX hE _ h
  · have h := h_E c4 h
    refine v_aload_n hX dX11_pieces_8 0 rfl rfl ?_
    obtain ⟨k5, h⟩ := h
    refine v_getR hX dX11_pieces_9 f_RX11_21 rfl k5 ?_
    refine v_iload_n hX dX11_pieces_12 1 rfl rfl ?_
    obtain ⟨a6, e_a6, h⟩ := h
    refine v_nn1 e_a6 ?_
    obtain ⟨k7, h⟩ := h
    refine v_callVi0 hX dX11_pieces_13 c_RX11_188 cV_X7_pieceCount (ci := 8) (T := TX7) (N := 13) rfl (by exact k7) [pI _] rfl rfl (Nat.le_of_ble_eq_true rfl) (by decide) (by decide)  (m_X7_pieceCount h) (fun p9 s8 h => ?_)
    refine v_goto (tgt := 20) hX dX11_pieces_16 (by decide) ?_
    refine v_pick [] rfl ?_
    exact b_X11_pieces_20 hX hE _ h
set_option maxRecDepth 100000 in
set_option maxHeartbeats 4000000 in
theorem m_X11_piece {Z : h_Z} {o0 : Nat} {x1 : Int32} {x2 : Int32} {x3 : Int32} {s : h_S} {Q : Int32 → h_S → Prop} (h : w_X11_piece o0 x1 x2 x3 s Q) : h_M Z yX11_piece cX11_piece 5 (some .int) 3 64 [pR (some o0), pI x1, pI x2, pI x3] s 0 0 (h_QI Z Q) := by
  refine h_M.of (by decide) (Nat.le_of_ble_eq_true rfl) (fun X hZ hX hE hI => ?_)
  subst hZ
  unfold w_X11_piece at h
  show h_V X 5 0 [(0, pR (some o0)), (1, pI x1), (2, pI x2), (3, pI x3)] [] s 0 0
  refine v_aload_n hX dX11_piece_0 0 rfl rfl ?_
  refine v_iload_n hX dX11_piece_1 1 rfl rfl ?_
  obtain ⟨k1, h⟩ := h
  refine v_callVi0 hX dX11_piece_2 c_RX11_150 cV_X11_isWriting (ci := 12) (T := TX11) (N := 19) rfl (by exact k1) [pI _] rfl rfl (Nat.le_of_ble_eq_true rfl) (by decide) (by decide)  (m_X11_isWriting h) (fun p3 s2 h => ?_)
  refine v_if_ne (tgt := 10) hX dX11_piece_5 (by decide) (fun c4 => ?_) (fun c4 => ?_)
  · have h := h_E c4 h
    refine v_aload_n hX dX11_piece_10 0 rfl rfl ?_
    obtain ⟨k5, h⟩ := h
    refine v_getR hX dX11_piece_11 f_RX11_21 rfl k5 ?_
    refine v_iload_n hX dX11_piece_14 1 rfl rfl ?_
    refine v_iload_n hX dX11_piece_15 2 rfl rfl ?_
    obtain ⟨a6, e_a6, h⟩ := h
    refine v_nn2 e_a6 ?_
    obtain ⟨k7, h⟩ := h
    refine v_callVr0 hX dX11_piece_16 c_RX11_206 cV_X7_pieceAt (ci := 8) (T := TX7) (N := 13) rfl (by exact k7) [pI _, pI _] rfl rfl (Nat.le_of_ble_eq_true rfl) (by decide) (by decide)  (m_X7_pieceAt h) (fun p9 s8 h => ?_)
    refine v_astore (lv' := [(4, _), (0, _), (1, _), (2, _), (3, _)]) hX dX11_piece_19 (by decide) rfl ?_
    refine v_aload hX dX11_piece_21 0 rfl ?_
    refine v_ifnonnull (tgt := 28) hX dX11_piece_23 (by decide) (fun c10 => ?_) (fun c10 => ?_)
    · have h := h_E c10 h
      refine v_iload_n hX dX11_piece_28 4 rfl rfl ?_
      refine v_gen (fun q26 e_q26 => ?_)
      rw [← e_q26] at h
      by_cases c11 : q26 = (0 : Int32)
      · have h := h_T c11 h
        refine v_tabIn (tgt := 64) hX dX11_piece_29 (by rw [c11]; decide) (by rw [c11]; decide) (by rw [c11]; rfl) (by decide) ?_
        refine v_aload hX dX11_piece_64 0 rfl ?_
        obtain ⟨a12, e_a12, h⟩ := h
        refine v_nn0 e_a12 ?_
        obtain ⟨k13, h⟩ := h
        refine v_getI hX dX11_piece_66 f_RX11_210 rfl k13 ?_
        exact v_iret hX hE dX11_piece_69 h
      · have h := h_E c11 h
        by_cases c14 : q26 = (1 : Int32)
        · have h := h_T c14 h
          refine v_tabIn (tgt := 70) hX dX11_piece_29 (by rw [c14]; decide) (by rw [c14]; decide) (by rw [c14]; rfl) (by decide) ?_
          refine v_aload hX dX11_piece_70 0 rfl ?_
          obtain ⟨a15, e_a15, h⟩ := h
          refine v_nn0 e_a15 ?_
          obtain ⟨k16, h⟩ := h
          refine v_getI hX dX11_piece_72 f_RX11_213 rfl k16 ?_
          exact v_iret hX hE dX11_piece_75 h
        · have h := h_E c14 h
          by_cases c17 : q26 = (2 : Int32)
          · have h := h_T c17 h
            refine v_tabIn (tgt := 76) hX dX11_piece_29 (by rw [c17]; decide) (by rw [c17]; decide) (by rw [c17]; rfl) (by decide) ?_
            refine v_aload hX dX11_piece_76 0 rfl ?_
            obtain ⟨a18, e_a18, h⟩ := h
            refine v_nn0 e_a18 ?_
            obtain ⟨k19, h⟩ := h
            refine v_getI hX dX11_piece_78 f_RX11_216 rfl k19 ?_
            exact v_iret hX hE dX11_piece_81 h
          · have h := h_E c17 h
            by_cases c20 : q26 = (3 : Int32)
            · have h := h_T c20 h
              refine v_tabIn (tgt := 82) hX dX11_piece_29 (by rw [c20]; decide) (by rw [c20]; decide) (by rw [c20]; rfl) (by decide) ?_
              refine v_aload hX dX11_piece_82 0 rfl ?_
              obtain ⟨a21, e_a21, h⟩ := h
              refine v_nn0 e_a21 ?_
              obtain ⟨k22, h⟩ := h
              refine v_getI hX dX11_piece_84 f_RX11_219 rfl k22 ?_
              exact v_iret hX hE dX11_piece_87 h
            · have h := h_E c20 h
              by_cases c23 : q26 = (4 : Int32)
              · have h := h_T c23 h
                refine v_tabIn (tgt := 88) hX dX11_piece_29 (by rw [c23]; decide) (by rw [c23]; decide) (by rw [c23]; rfl) (by decide) ?_
                refine v_aload hX dX11_piece_88 0 rfl ?_
                obtain ⟨a24, e_a24, h⟩ := h
                refine v_nn0 e_a24 ?_
                obtain ⟨k25, h⟩ := h
                refine v_getI hX dX11_piece_90 f_RX11_222 rfl k25 ?_
                exact v_iret hX hE dX11_piece_93 h
              · have h := h_E c23 h
                refine v_tabOut (tgt := 94) hX dX11_piece_29 (by have := h_ti c11 (n := 0) rfl; have := h_ti c14 (n := 1) rfl; have := h_ti c17 (n := 2) rfl; have := h_ti c20 (n := 3) rfl; have := h_ti c23 (n := 4) rfl; omega) (by decide) ?_
                refine v_bipush (v := -2) hX dX11_piece_94 (by decide) ?_
                exact v_iret hX hE dX11_piece_96 h
    · have h := h_T c10 h
      refine v_iconst (v := -1) hX dX11_piece_26 (by decide) ?_
      exact v_iret hX hE dX11_piece_27 h
  · have h := h_T c4 h
    refine v_iconst (v := -1) hX dX11_piece_8 (by decide) ?_
    exact v_iret hX hE dX11_piece_9 h
set_option maxRecDepth 100000 in
set_option maxHeartbeats 4000000 in
theorem m_X11_word {Z : h_Z} {o0 : Nat} {x1 : Int32} {x2 : Int32} {s : h_S} {Q : Int32 → h_S → Prop} (h : w_X11_word o0 x1 x2 s Q) : h_M Z yX11_word cX11_word 4 (some .int) 4 85 [pR (some o0), pI x1, pI x2] s 0 0 (h_QI Z Q) := by
  refine h_M.of (by decide) (Nat.le_of_ble_eq_true rfl) (fun X hZ hX hE hI => ?_)
  subst hZ
  unfold w_X11_word at h
  show h_V X 4 0 [(0, pR (some o0)), (1, pI x1), (2, pI x2)] [] s 0 0
  refine v_aload_n hX dX11_word_0 0 rfl rfl ?_
  obtain ⟨k1, h⟩ := h
  refine v_getR hX dX11_word_1 f_RX11_21 rfl k1 ?_
  refine v_iload_n hX dX11_word_4 1 rfl rfl ?_
  obtain ⟨a2, e_a2, h⟩ := h
  refine v_nn1 e_a2 ?_
  obtain ⟨k3, h⟩ := h
  refine v_callVr0 hX dX11_word_5 c_RX11_225 cV_X7_wordAt (ci := 8) (T := TX7) (N := 13) rfl (by exact k3) [pI _] rfl rfl (Nat.le_of_ble_eq_true rfl) (by decide) (by decide)  (m_X7_wordAt h) (fun p5 s4 h => ?_)
  refine v_astore_n (lv' := [(3, _), (0, _), (1, _), (2, _)]) hX dX11_word_8 rfl (by decide) rfl ?_
  refine v_aload_n hX dX11_word_9 0 rfl rfl ?_
  refine v_ifnonnull (tgt := 15) hX dX11_word_10 (by decide) (fun c6 => ?_) (fun c6 => ?_)
  · have h := h_E c6 h
    refine v_iload_n hX dX11_word_15 3 rfl rfl ?_
    refine v_gen (fun q22 e_q22 => ?_)
    rw [← e_q22] at h
    by_cases c7 : q22 = (0 : Int32)
    · have h := h_T c7 h
      refine v_tabIn (tgt := 52) hX dX11_word_16 (by rw [c7]; decide) (by rw [c7]; decide) (by rw [c7]; rfl) (by decide) ?_
      refine v_aload_n hX dX11_word_52 0 rfl rfl ?_
      obtain ⟨a8, e_a8, h⟩ := h
      refine v_nn0 e_a8 ?_
      obtain ⟨k9, h⟩ := h
      refine v_getI hX dX11_word_53 f_RX11_229 rfl k9 ?_
      exact v_iret hX hE dX11_word_56 h
    · have h := h_E c7 h
      by_cases c10 : q22 = (1 : Int32)
      · have h := h_T c10 h
        refine v_tabIn (tgt := 57) hX dX11_word_16 (by rw [c10]; decide) (by rw [c10]; decide) (by rw [c10]; rfl) (by decide) ?_
        refine v_aload_n hX dX11_word_57 0 rfl rfl ?_
        obtain ⟨a11, e_a11, h⟩ := h
        refine v_nn0 e_a11 ?_
        obtain ⟨k12, h⟩ := h
        refine v_getI hX dX11_word_58 f_RX11_234 rfl k12 ?_
        exact v_iret hX hE dX11_word_61 h
      · have h := h_E c10 h
        by_cases c13 : q22 = (2 : Int32)
        · have h := h_T c13 h
          refine v_tabIn (tgt := 62) hX dX11_word_16 (by rw [c13]; decide) (by rw [c13]; decide) (by rw [c13]; rfl) (by decide) ?_
          refine v_aload_n hX dX11_word_62 0 rfl rfl ?_
          obtain ⟨a14, e_a14, h⟩ := h
          refine v_nn0 e_a14 ?_
          obtain ⟨k15, h⟩ := h
          refine v_getI hX dX11_word_63 f_RX11_237 rfl k15 ?_
          exact v_iret hX hE dX11_word_66 h
        · have h := h_E c13 h
          by_cases c16 : q22 = (3 : Int32)
          · have h := h_T c16 h
            refine v_tabIn (tgt := 67) hX dX11_word_16 (by rw [c16]; decide) (by rw [c16]; decide) (by rw [c16]; rfl) (by decide) ?_
            refine v_aload_n hX dX11_word_67 0 rfl rfl ?_
            obtain ⟨a17, e_a17, h⟩ := h
            refine v_nn0 e_a17 ?_
            obtain ⟨k18, h⟩ := h
            refine v_getI hX dX11_word_68 f_RX11_240 rfl k18 ?_
            exact v_iret hX hE dX11_word_71 h
          · have h := h_E c16 h
            by_cases c19 : q22 = (4 : Int32)
            · have h := h_T c19 h
              refine v_tabIn (tgt := 72) hX dX11_word_16 (by rw [c19]; decide) (by rw [c19]; decide) (by rw [c19]; rfl) (by decide) ?_
              refine v_aload_n hX dX11_word_72 0 rfl rfl ?_
              obtain ⟨a20, e_a20, h⟩ := h
              refine v_nn0 e_a20 ?_
              obtain ⟨k21, h⟩ := h
              refine v_getI hX dX11_word_73 f_RX11_241 rfl k21 ?_
              exact v_iret hX hE dX11_word_76 h
            · have h := h_E c19 h
              refine v_tabOut (tgt := 77) hX dX11_word_16 (by have := h_ti c7 (n := 0) rfl; have := h_ti c10 (n := 1) rfl; have := h_ti c13 (n := 2) rfl; have := h_ti c16 (n := 3) rfl; have := h_ti c19 (n := 4) rfl; omega) (by decide) ?_
              refine v_bipush (v := -2) hX dX11_word_77 (by decide) ?_
              exact v_iret hX hE dX11_word_79 h
  · have h := h_T c6 h
    refine v_iconst (v := -1) hX dX11_word_13 (by decide) ?_
    exact v_iret hX hE dX11_word_14 h
set_option maxRecDepth 100000 in
set_option maxHeartbeats 4000000 in
theorem m_J7_copyOf_59c91 {Z : h_Z} {r0 : Option Nat} {x1 : Int32} {s : h_S} {mc ms : Nat} {Q : Option Nat → h_S → Prop} (h : w_J7_copyOf_59c91 r0 x1 s mc ms Q) : h_M Z yJ7_copyOf_59c91 cJ7_copyOf_59c91 3 (some (.array .int)) 1 60 [pR r0, pI x1] s mc ms (h_QR Z Q) := by
  refine h_M.of (by decide) (Nat.le_of_ble_eq_true rfl) (fun X hZ hX hE hI => ?_)
  subst hZ
  unfold w_J7_copyOf_59c91 at h
  show h_V X 3 0 [(0, pR r0), (1, pI x1)] [] s mc ms
  refine v_iload_n hX dJ7_copyOf_59c91_0 1 rfl rfl ?_
  refine v_aload_n hX dJ7_copyOf_59c91_1 0 rfl rfl ?_
  obtain ⟨a1, e_a1, h⟩ := h
  refine v_nn0 e_a1 ?_
  obtain ⟨k2, h⟩ := h
  refine v_alenK hX dJ7_copyOf_59c91_2 (k := 1) rfl (by decide) (by decide) k2 ?_
  refine v_icmp_ne (tgt := 14) hX dJ7_copyOf_59c91_3 (by decide) (fun c3 => ?_) (fun c3 => ?_)
  · have h := h_E c3 h
    refine v_iload_n hX dJ7_copyOf_59c91_14 1 rfl rfl ?_
    obtain ⟨n8, n9, b6, b7, h⟩ := h
    refine v_newI hX dJ7_copyOf_59c91_15 ac_int rfl n8 n9 b6 b7 (fun q4 k5 => ?_)
    have h := h q4 k5
    refine v_astore_n (lv' := [(2, _), (0, _), (1, _)]) hX dJ7_copyOf_59c91_17 rfl (by decide) rfl ?_
    refine v_aload_n hX dJ7_copyOf_59c91_18 1 rfl rfl ?_
    refine v_iconst (v := 0) hX dJ7_copyOf_59c91_19 (by decide) ?_
    refine v_aload_n hX dJ7_copyOf_59c91_20 0 rfl rfl ?_
    refine v_iconst (v := 0) hX dJ7_copyOf_59c91_21 (by decide) ?_
    refine v_aload_n hX dJ7_copyOf_59c91_22 1 rfl rfl ?_
    obtain ⟨a13, e_a13, h⟩ := h
    refine v_nn0 e_a13 ?_
    obtain ⟨k14, h⟩ := h
    refine v_alenK hX dJ7_copyOf_59c91_23 (k := 1) rfl (by decide) (by decide) k14 ?_
    refine v_iload_n hX dJ7_copyOf_59c91_24 2 rfl rfl ?_
    refine v_min hX dJ7_copyOf_59c91_25 mm_min_RJ7_304 (by decide) (Nat.le_of_ble_eq_true rfl) ?_
    obtain ⟨k15, h⟩ := h
    obtain ⟨a16, e_a16, h⟩ := h
    refine v_nn4 e_a16 ?_
    obtain ⟨k17, h⟩ := h
    obtain ⟨i18, i19, i20, i21, i22, h⟩ := h
    refine v_copy hX dJ7_copyOf_59c91_28 sy_RJ7_150 sy_nat sy_stat sy_ini (by decide) (Nat.le_of_ble_eq_true rfl) k17 k15 i18 i19 i20 i21 i22 ?_
    refine v_aload_n hX dJ7_copyOf_59c91_31 0 rfl rfl ?_
    exact v_aret hX hE (Or.inr ⟨_, rfl⟩) dJ7_copyOf_59c91_32 h
  · have h := h_T c3 h
    refine v_aload_n hX dJ7_copyOf_59c91_6 0 rfl rfl ?_
    obtain ⟨a24, e_a24, h⟩ := h
    refine v_nn0 e_a24 ?_
    obtain ⟨k25, h⟩ := h
    obtain ⟨b28, b29, h⟩ := h
    refine v_clone hX dJ7_copyOf_59c91_7 (by decide) (Nat.le_of_ble_eq_true rfl) k25 b28 b29 (fun q26 k27 => ?_)
    have h := h q26 k27
    obtain ⟨k33, h⟩ := h
    refine v_castI hX dJ7_copyOf_59c91_10 kl_RJ7_317 k33 ?_
    exact v_aret hX hE (Or.inr ⟨_, rfl⟩) dJ7_copyOf_59c91_13 h
set_option maxRecDepth 100000 in
set_option maxHeartbeats 4000000 in
theorem m_X11_version {Z : h_Z} {o0 : Nat} {x1 : Int32} {s : h_S} {mc ms : Nat} {Q : Int32 → h_S → Prop} (h : w_X11_version Z.2.2.2.2 o0 x1 s mc ms Q) : h_M Z yX11_version cX11_version 3 (some .int) 15 461 [pR (some o0), pI x1] s mc ms (h_QI Z Q) := by
  refine h_M.of (by decide) (Nat.le_of_ble_eq_true rfl) (fun X hZ hX hE hI => ?_)
  subst hZ
  unfold w_X11_version at h
  show h_V X 3 0 [(0, pR (some o0)), (1, pI x1)] [] s mc ms
  refine v_aload_n hX dX11_version_0 0 rfl rfl ?_
  refine v_iload_n hX dX11_version_1 1 rfl rfl ?_
  obtain ⟨k1, h⟩ := h
  refine v_callVi0 hX dX11_version_2 c_RX11_150 cV_X11_isWriting (ci := 12) (T := TX11) (N := 19) rfl (by exact k1) [pI _] rfl rfl (Nat.le_of_ble_eq_true rfl) (by decide) (by decide)  (m_X11_isWriting h) (fun p3 s2 h => ?_)
  refine v_if_ne (tgt := 10) hX dX11_version_5 (by decide) (fun c4 => ?_) (fun c4 => ?_)
  · have h := h_E c4 h
    refine v_aload_n hX dX11_version_10 0 rfl rfl ?_
    obtain ⟨k5, h⟩ := h
    refine v_getR hX dX11_version_11 f_RX11_28 rfl k5 ?_
    obtain ⟨a6, e_a6, h⟩ := h
    refine v_nn0 e_a6 ?_
    obtain ⟨k7, h⟩ := h
    refine v_callVi0 hX dX11_version_14 c_RX11_244 cV_Jx4a65c_size_8abf5 (ci := 0) (T := TJx4a65c) (N := 3) rfl (by exact k7) [] rfl rfl (Nat.le_of_ble_eq_true rfl) (by decide) (by decide)  (m_Jx4a65c_size_8abf5 h) (fun p9 s8 h => ?_)
    refine v_bipush (v := 16) hX dX11_version_17 (by decide) ?_
    refine v_icmp_lt (tgt := 25) hX dX11_version_19 (by decide) (fun c10 => ?_) (fun c10 => ?_)
    · have h := h_T c10 h
      refine v_aload_n hX dX11_version_25 0 rfl rfl ?_
      obtain ⟨k11, h⟩ := h
      refine v_getR hX dX11_version_26 f_RX11_21 rfl k11 ?_
      refine v_iload_n hX dX11_version_29 1 rfl rfl ?_
      refine v_aload_n hX dX11_version_30 0 rfl rfl ?_
      refine v_getI hX dX11_version_31 f_RX11_82 rfl k11 ?_
      refine v_iconst (v := 1) hX dX11_version_34 (by decide) ?_
      refine v_iadd hX dX11_version_35 ?_
      refine v_iconst (v := 0) hX dX11_version_36 (by decide) ?_
      obtain ⟨a12, e_a12, h⟩ := h
      refine v_nn3 e_a12 ?_
      obtain ⟨k13, h⟩ := h
      obtain ⟨mc16, ms17, b18, b19, h⟩ := h
      refine v_callVr hX dX11_version_37 c_RX11_194 cV_X7_shownOf (ci := 8) (T := TX7) (N := 13) rfl (by exact k13) [pI _, pI _, pI _] rfl rfl (Nat.le_of_ble_eq_true rfl) (by decide) (by decide) b18 b19 (m_X7_shownOf 6 _ _ _ _ _ _ _ _ h) (fun p15 s14 h => ?_)
      refine v_astore_n (lv' := [(2, _), (0, _), (1, _)]) hX dX11_version_40 rfl (by decide) rfl ?_
      refine v_aload_n hX dX11_version_41 1 rfl rfl ?_
      obtain ⟨k20, h⟩ := h
      refine v_getR hX dX11_version_42 f_RX11_28 rfl k20 ?_
      obtain ⟨b23, b24, h⟩ := h
      refine v_new hX dX11_version_45 n_RX11_246 b23 b24 (fun q21 k22 => ?_)
      have h := h q21 k22
      refine v_dup hX dX11_version_48 rfl ?_
      refine v_iload_n hX dX11_version_49 2 rfl rfl ?_
      refine v_aload_n hX dX11_version_50 1 rfl rfl ?_
      obtain ⟨k28, h⟩ := h
      refine v_getI hX dX11_version_51 f_RX11_82 rfl k28 ?_
      refine v_iconst (v := 1) hX dX11_version_54 (by decide) ?_
      refine v_iadd hX dX11_version_55 ?_
      refine v_aload_n hX dX11_version_56 0 rfl rfl ?_
      obtain ⟨a29, e_a29, h⟩ := h
      refine v_nn0 e_a29 ?_
      obtain ⟨k30, h⟩ := h
      refine v_getR hX dX11_version_57 f_RX11_203 rfl k30 ?_
      refine v_aload_n hX dX11_version_60 0 rfl rfl ?_
      obtain ⟨a31, e_a31, h⟩ := h
      refine v_nn0 e_a31 ?_
      obtain ⟨k32, h⟩ := h
      refine v_getI hX dX11_version_61 f_RX11_198 rfl k32 ?_
      obtain ⟨mc35, ms36, b37, b38, h⟩ := h
      refine v_callSr hX dX11_version_64 c_RX11_248 cS_J7_copyOf_59c91 [pR _, pI _] rfl rfl (Nat.le_of_ble_eq_true rfl) (by decide) (by decide) b37 b38 (m_J7_copyOf_59c91 h) (fun p34 s33 h => ?_)
      refine v_callIv0 hX dX11_version_67 c_RX11_254 cI_X8_init [pI _, pI _, pR _] rfl rfl (Nat.le_of_ble_eq_true rfl) (by decide) (by decide)  (m_X8_init h) (fun s39 h => ?_)
      obtain ⟨a41, e_a41, h⟩ := h
      refine v_nn1 e_a41 ?_
      obtain ⟨k42, h⟩ := h
      obtain ⟨mc45, ms46, b47, b48, h⟩ := h
      refine v_callVi hX dX11_version_70 c_RX11_257 cV_Jx4a65c_add_9ea2d (ci := 0) (T := TJx4a65c) (N := 3) rfl (by exact k42) [pR _] rfl rfl (Nat.le_of_ble_eq_true rfl) (by decide) (by decide) b47 b48 (m_Jx4a65c_add_9ea2d h) (fun p44 s43 h => ?_)
      refine v_pop hX dX11_version_73 rfl ?_
      refine v_aload_n hX dX11_version_74 1 rfl rfl ?_
      refine v_aload_n hX dX11_version_75 1 rfl rfl ?_
      obtain ⟨k49, h⟩ := h
      refine v_getR hX dX11_version_76 f_RX11_28 rfl k49 ?_
      obtain ⟨a50, e_a50, h⟩ := h
      refine v_nn0 e_a50 ?_
      obtain ⟨k51, h⟩ := h
      refine v_callVi0 hX dX11_version_79 c_RX11_244 cV_Jx4a65c_size_8abf5 (ci := 0) (T := TJx4a65c) (N := 3) rfl (by exact k51) [] rfl rfl (Nat.le_of_ble_eq_true rfl) (by decide) (by decide)  (m_Jx4a65c_size_8abf5 h) (fun p53 s52 h => ?_)
      refine v_iconst (v := 1) hX dX11_version_82 (by decide) ?_
      refine v_isub hX dX11_version_83 ?_
      obtain ⟨k54, h⟩ := h
      refine v_callVi0 hX dX11_version_84 c_RX11_74 cV_X11_acted (ci := 12) (T := TX11) (N := 19) rfl (by exact k54) [pI _] rfl rfl (Nat.le_of_ble_eq_true rfl) (by decide) (by decide)  (m_X11_acted h) (fun p56 s55 h => ?_)
      exact v_iret hX hE dX11_version_87 h
    · have h := h_E c10 h
      refine v_bipush (v := -4) hX dX11_version_22 (by decide) ?_
      exact v_iret hX hE dX11_version_24 h
  · have h := h_T c4 h
    refine v_iconst (v := -1) hX dX11_version_8 (by decide) ?_
    exact v_iret hX hE dX11_version_9 h
set_option maxRecDepth 100000 in
set_option maxHeartbeats 4000000 in
theorem b_X11_versionAt_29 {X : h_X} (hX : h_ok X cX11_versionAt 2 RX11 3 64) {Q : Option Nat → h_S → Prop} (hE : h_end X (some (.object "SeenWords$Version")) (h_QR (x_Z X) Q)) {t0 : Option Nat} (s : h_S) (h : w_X11_versionAt_29 Q t0 s) : h_V X 2 29 [] [pR t0] s 0 0 := by
  unfold w_X11_versionAt_29 at h
  exact v_aret hX hE (Or.inl ⟨_, rfl⟩) dX11_versionAt_29 h
set_option maxRecDepth 100000 in
set_option maxHeartbeats 4000000 in
theorem m_X11_versionAt {Z : h_Z} {o0 : Nat} {x1 : Int32} {s : h_S} {Q : Option Nat → h_S → Prop} (h : w_X11_versionAt o0 x1 s Q) : h_M Z yX11_versionAt cX11_versionAt 2 (some (.object "SeenWords$Version")) 3 64 [pR (some o0), pI x1] s 0 0 (h_QR Z Q) := by
  refine h_M.of (by decide) (Nat.le_of_ble_eq_true rfl) (fun X hZ hX hE hI => ?_)
  subst hZ
  unfold w_X11_versionAt at h
  show h_V X 2 0 [(0, pR (some o0)), (1, pI x1)] [] s 0 0
  refine v_iload_n hX dX11_versionAt_0 1 rfl rfl ?_
  refine v_aload_n hX dX11_versionAt_1 0 rfl rfl ?_
  obtain ⟨k1, h⟩ := h
  refine v_getR hX dX11_versionAt_2 f_RX11_28 rfl k1 ?_
  obtain ⟨a2, e_a2, h⟩ := h
  refine v_nn0 e_a2 ?_
  obtain ⟨k3, h⟩ := h
  refine v_callVi0 hX dX11_versionAt_5 c_RX11_244 cV_Jx4a65c_size_8abf5 (ci := 0) (T := TJx4a65c) (N := 3) rfl (by exact k3) [] rfl rfl (Nat.le_of_ble_eq_true rfl) (by decide) (by decide)  (m_Jx4a65c_size_8abf5 h) (fun p5 s4 h => ?_)
  refine v_callSi0 hX dX11_versionAt_8 c_RX11_78 cS_X11_within [pI _, pI _] rfl rfl (Nat.le_of_ble_eq_true rfl) (by decide) (by decide)  (m_X11_within h) (fun p7 s6 h => ?_)
  refine v_if_eq (tgt := 28) hX dX11_versionAt_11 (by decide) (fun c8 => ?_) (fun c8 => ?_)
  · have h := h_T c8 h
    refine v_null hX dX11_versionAt_28 ?_
    refine v_pick [] rfl ?_
    exact b_X11_versionAt_29 hX hE _ h
  · have h := h_E c8 h
    refine v_aload_n hX dX11_versionAt_14 0 rfl rfl ?_
    obtain ⟨k9, h⟩ := h
    refine v_getR hX dX11_versionAt_15 f_RX11_28 rfl k9 ?_
    refine v_iload_n hX dX11_versionAt_18 1 rfl rfl ?_
    obtain ⟨a10, e_a10, h⟩ := h
    refine v_nn1 e_a10 ?_
    obtain ⟨k11, h⟩ := h
    refine v_callVr0 hX dX11_versionAt_19 c_RX11_312 cV_Jx4a65c_get_915e3 (ci := 0) (T := TJx4a65c) (N := 3) rfl (by exact k11) [pI _] rfl rfl (Nat.le_of_ble_eq_true rfl) (by decide) (by decide)  (m_Jx4a65c_get_915e3 h) (fun p13 s12 h => ?_)
    obtain ⟨b14, h⟩ := h
    refine v_cast (ci := 9) hX dX11_versionAt_22 kl_RX11_246 rfl b14 ?_
    refine v_goto (tgt := 29) hX dX11_versionAt_25 (by decide) ?_
    refine v_pick [] rfl ?_
    exact b_X11_versionAt_29 hX hE _ h
set_option maxRecDepth 100000 in
set_option maxHeartbeats 4000000 in
theorem m_X11_give {Z : h_Z} {o0 : Nat} {x1 : Int32} {s : h_S} {Q : Int32 → h_S → Prop} (h : w_X11_give o0 x1 s Q) : h_M Z yX11_give cX11_give 3 (some .int) 4 85 [pR (some o0), pI x1] s 0 0 (h_QI Z Q) := by
  refine h_M.of (by decide) (Nat.le_of_ble_eq_true rfl) (fun X hZ hX hE hI => ?_)
  subst hZ
  unfold w_X11_give at h
  show h_V X 3 0 [(0, pR (some o0)), (1, pI x1)] [] s 0 0
  refine v_aload_n hX dX11_give_0 0 rfl rfl ?_
  refine v_iload_n hX dX11_give_1 1 rfl rfl ?_
  obtain ⟨k1, h⟩ := h
  refine v_callVr0 hX dX11_give_2 c_RX11_261 cV_X11_versionAt (ci := 12) (T := TX11) (N := 19) rfl (by exact k1) [pI _] rfl rfl (Nat.le_of_ble_eq_true rfl) (by decide) (by decide)  (m_X11_versionAt h) (fun p3 s2 h => ?_)
  refine v_astore_n (lv' := [(2, _), (0, _), (1, _)]) hX dX11_give_5 rfl (by decide) rfl ?_
  refine v_aload_n hX dX11_give_6 0 rfl rfl ?_
  refine v_ifnonnull (tgt := 12) hX dX11_give_7 (by decide) (fun c4 => ?_) (fun c4 => ?_)
  · have h := h_E c4 h
    refine v_aload_n hX dX11_give_12 0 rfl rfl ?_
    obtain ⟨a5, e_a5, h⟩ := h
    refine v_nn0 e_a5 ?_
    obtain ⟨k6, h⟩ := h
    refine v_callVi0 hX dX11_give_13 c_RX11_265 cV_X8_kind (ci := 9) (T := TX8) (N := 5) rfl (by exact k6) [] rfl rfl (Nat.le_of_ble_eq_true rfl) (by decide) (by decide)  (m_X8_kind h) (fun p8 s7 h => ?_)
    refine v_if_eq (tgt := 22) hX dX11_give_16 (by decide) (fun c9 => ?_) (fun c9 => ?_)
    · have h := h_T c9 h
      refine v_aload_n hX dX11_give_22 0 rfl rfl ?_
      refine v_aload_n hX dX11_give_23 1 rfl rfl ?_
      obtain ⟨k10, h⟩ := h
      refine v_getI hX dX11_give_24 f_RX11_82 rfl k10 ?_
      refine v_iconst (v := 1) hX dX11_give_27 (by decide) ?_
      refine v_iadd hX dX11_give_28 ?_
      obtain ⟨a11, e_a11, h⟩ := h
      refine v_nn1 e_a11 ?_
      obtain ⟨k12, h⟩ := h
      refine v_putI hX dX11_give_29 f_RX11_267 k12 ?_
      refine v_aload_n hX dX11_give_32 1 rfl rfl ?_
      refine v_aload_n hX dX11_give_33 0 rfl rfl ?_
      obtain ⟨a14, e_a14, h⟩ := h
      refine v_nn0 e_a14 ?_
      obtain ⟨k15, h⟩ := h
      refine v_getR hX dX11_give_34 f_RX11_270 rfl k15 ?_
      obtain ⟨a16, e_a16, h⟩ := h
      refine v_nn0 e_a16 ?_
      obtain ⟨k17, h⟩ := h
      refine v_alenK hX dX11_give_37 (k := 1) rfl (by decide) (by decide) k17 ?_
      refine v_callVi0 hX dX11_give_38 c_RX11_74 cV_X11_acted (ci := 12) (T := TX11) (N := 19) rfl (by exact k10) [pI _] rfl rfl (Nat.le_of_ble_eq_true rfl) (by decide) (by decide)  (m_X11_acted h) (fun p19 s18 h => ?_)
      exact v_iret hX hE dX11_give_41 h
    · have h := h_E c9 h
      refine v_bipush (v := -3) hX dX11_give_19 (by decide) ?_
      exact v_iret hX hE dX11_give_21 h
  · have h := h_T c4 h
    refine v_iconst (v := -1) hX dX11_give_10 (by decide) ?_
    exact v_iret hX hE dX11_give_11 h
set_option maxRecDepth 100000 in
set_option maxHeartbeats 4000000 in
theorem m_X11_back {Z : h_Z} {o0 : Nat} {x1 : Int32} {s : h_S} {Q : Int32 → h_S → Prop} (h : w_X11_back o0 x1 s Q) : h_M Z yX11_back cX11_back 3 (some .int) 4 85 [pR (some o0), pI x1] s 0 0 (h_QI Z Q) := by
  refine h_M.of (by decide) (Nat.le_of_ble_eq_true rfl) (fun X hZ hX hE hI => ?_)
  subst hZ
  unfold w_X11_back at h
  show h_V X 3 0 [(0, pR (some o0)), (1, pI x1)] [] s 0 0
  refine v_aload_n hX dX11_back_0 0 rfl rfl ?_
  refine v_iload_n hX dX11_back_1 1 rfl rfl ?_
  obtain ⟨k1, h⟩ := h
  refine v_callVr0 hX dX11_back_2 c_RX11_261 cV_X11_versionAt (ci := 12) (T := TX11) (N := 19) rfl (by exact k1) [pI _] rfl rfl (Nat.le_of_ble_eq_true rfl) (by decide) (by decide)  (m_X11_versionAt h) (fun p3 s2 h => ?_)
  refine v_astore_n (lv' := [(2, _), (0, _), (1, _)]) hX dX11_back_5 rfl (by decide) rfl ?_
  refine v_aload_n hX dX11_back_6 0 rfl rfl ?_
  refine v_ifnonnull (tgt := 12) hX dX11_back_7 (by decide) (fun c4 => ?_) (fun c4 => ?_)
  · have h := h_E c4 h
    refine v_aload_n hX dX11_back_12 0 rfl rfl ?_
    obtain ⟨a5, e_a5, h⟩ := h
    refine v_nn0 e_a5 ?_
    obtain ⟨k6, h⟩ := h
    refine v_callVi0 hX dX11_back_13 c_RX11_265 cV_X8_kind (ci := 9) (T := TX8) (N := 5) rfl (by exact k6) [] rfl rfl (Nat.le_of_ble_eq_true rfl) (by decide) (by decide)  (m_X8_kind h) (fun p8 s7 h => ?_)
    refine v_iconst (v := 1) hX dX11_back_16 (by decide) ?_
    refine v_icmp_eq (tgt := 23) hX dX11_back_17 (by decide) (fun c9 => ?_) (fun c9 => ?_)
    · have h := h_T c9 h
      refine v_aload_n hX dX11_back_23 0 rfl rfl ?_
      refine v_aload_n hX dX11_back_24 1 rfl rfl ?_
      obtain ⟨k10, h⟩ := h
      refine v_getI hX dX11_back_25 f_RX11_82 rfl k10 ?_
      refine v_iconst (v := 1) hX dX11_back_28 (by decide) ?_
      refine v_iadd hX dX11_back_29 ?_
      obtain ⟨a11, e_a11, h⟩ := h
      refine v_nn1 e_a11 ?_
      obtain ⟨k12, h⟩ := h
      refine v_putI hX dX11_back_30 f_RX11_271 k12 ?_
      refine v_aload_n hX dX11_back_33 1 rfl rfl ?_
      refine v_aload_n hX dX11_back_34 0 rfl rfl ?_
      obtain ⟨a14, e_a14, h⟩ := h
      refine v_nn0 e_a14 ?_
      obtain ⟨k15, h⟩ := h
      refine v_getR hX dX11_back_35 f_RX11_270 rfl k15 ?_
      obtain ⟨a16, e_a16, h⟩ := h
      refine v_nn0 e_a16 ?_
      obtain ⟨k17, h⟩ := h
      refine v_alenK hX dX11_back_38 (k := 1) rfl (by decide) (by decide) k17 ?_
      refine v_callVi0 hX dX11_back_39 c_RX11_74 cV_X11_acted (ci := 12) (T := TX11) (N := 19) rfl (by exact k10) [pI _] rfl rfl (Nat.le_of_ble_eq_true rfl) (by decide) (by decide)  (m_X11_acted h) (fun p19 s18 h => ?_)
      exact v_iret hX hE dX11_back_42 h
    · have h := h_E c9 h
      refine v_bipush (v := -3) hX dX11_back_20 (by decide) ?_
      exact v_iret hX hE dX11_back_22 h
  · have h := h_T c4 h
    refine v_iconst (v := -1) hX dX11_back_10 (by decide) ?_
    exact v_iret hX hE dX11_back_11 h
set_option maxRecDepth 100000 in
set_option maxHeartbeats 4000000 in
theorem m_X11_about {Z : h_Z} {o0 : Nat} {x1 : Int32} {x2 : Int32} {s : h_S} {Q : Int32 → h_S → Prop} (h : w_X11_about o0 x1 x2 s Q) : h_M Z yX11_about cX11_about 4 (some .int) 4 85 [pR (some o0), pI x1, pI x2] s 0 0 (h_QI Z Q) := by
  refine h_M.of (by decide) (Nat.le_of_ble_eq_true rfl) (fun X hZ hX hE hI => ?_)
  subst hZ
  unfold w_X11_about at h
  show h_V X 4 0 [(0, pR (some o0)), (1, pI x1), (2, pI x2)] [] s 0 0
  refine v_aload_n hX dX11_about_0 0 rfl rfl ?_
  refine v_iload_n hX dX11_about_1 1 rfl rfl ?_
  obtain ⟨k1, h⟩ := h
  refine v_callVr0 hX dX11_about_2 c_RX11_261 cV_X11_versionAt (ci := 12) (T := TX11) (N := 19) rfl (by exact k1) [pI _] rfl rfl (Nat.le_of_ble_eq_true rfl) (by decide) (by decide)  (m_X11_versionAt h) (fun p3 s2 h => ?_)
  refine v_astore_n (lv' := [(3, _), (0, _), (1, _), (2, _)]) hX dX11_about_5 rfl (by decide) rfl ?_
  refine v_aload_n hX dX11_about_6 0 rfl rfl ?_
  refine v_ifnonnull (tgt := 12) hX dX11_about_7 (by decide) (fun c4 => ?_) (fun c4 => ?_)
  · have h := h_E c4 h
    refine v_iload_n hX dX11_about_12 3 rfl rfl ?_
    refine v_gen (fun q26 e_q26 => ?_)
    rw [← e_q26] at h
    by_cases c5 : q26 = (0 : Int32)
    · have h := h_T c5 h
      refine v_tabIn (tgt := 48) hX dX11_about_13 (by rw [c5]; decide) (by rw [c5]; decide) (by rw [c5]; rfl) (by decide) ?_
      refine v_aload_n hX dX11_about_48 0 rfl rfl ?_
      obtain ⟨a6, e_a6, h⟩ := h
      refine v_nn0 e_a6 ?_
      obtain ⟨k7, h⟩ := h
      refine v_callVi0 hX dX11_about_49 c_RX11_265 cV_X8_kind (ci := 9) (T := TX8) (N := 5) rfl (by exact k7) [] rfl rfl (Nat.le_of_ble_eq_true rfl) (by decide) (by decide)  (m_X8_kind h) (fun p9 s8 h => ?_)
      exact v_iret hX hE dX11_about_52 h
    · have h := h_E c5 h
      by_cases c10 : q26 = (1 : Int32)
      · have h := h_T c10 h
        refine v_tabIn (tgt := 53) hX dX11_about_13 (by rw [c10]; decide) (by rw [c10]; decide) (by rw [c10]; rfl) (by decide) ?_
        refine v_aload_n hX dX11_about_53 0 rfl rfl ?_
        obtain ⟨a11, e_a11, h⟩ := h
        refine v_nn0 e_a11 ?_
        obtain ⟨k12, h⟩ := h
        refine v_getI hX dX11_about_54 f_RX11_274 rfl k12 ?_
        exact v_iret hX hE dX11_about_57 h
      · have h := h_E c10 h
        by_cases c13 : q26 = (2 : Int32)
        · have h := h_T c13 h
          refine v_tabIn (tgt := 58) hX dX11_about_13 (by rw [c13]; decide) (by rw [c13]; decide) (by rw [c13]; rfl) (by decide) ?_
          refine v_aload_n hX dX11_about_58 0 rfl rfl ?_
          obtain ⟨a14, e_a14, h⟩ := h
          refine v_nn0 e_a14 ?_
          obtain ⟨k15, h⟩ := h
          refine v_getI hX dX11_about_59 f_RX11_277 rfl k15 ?_
          exact v_iret hX hE dX11_about_62 h
        · have h := h_E c13 h
          by_cases c16 : q26 = (3 : Int32)
          · have h := h_T c16 h
            refine v_tabIn (tgt := 63) hX dX11_about_13 (by rw [c16]; decide) (by rw [c16]; decide) (by rw [c16]; rfl) (by decide) ?_
            refine v_aload_n hX dX11_about_63 0 rfl rfl ?_
            obtain ⟨a17, e_a17, h⟩ := h
            refine v_nn0 e_a17 ?_
            obtain ⟨k18, h⟩ := h
            refine v_getR hX dX11_about_64 f_RX11_270 rfl k18 ?_
            obtain ⟨a19, e_a19, h⟩ := h
            refine v_nn0 e_a19 ?_
            obtain ⟨k20, h⟩ := h
            refine v_alenK hX dX11_about_67 (k := 1) rfl (by decide) (by decide) k20 ?_
            exact v_iret hX hE dX11_about_68 h
          · have h := h_E c16 h
            by_cases c21 : q26 = (4 : Int32)
            · have h := h_T c21 h
              refine v_tabIn (tgt := 69) hX dX11_about_13 (by rw [c21]; decide) (by rw [c21]; decide) (by rw [c21]; rfl) (by decide) ?_
              refine v_aload_n hX dX11_about_69 0 rfl rfl ?_
              obtain ⟨a22, e_a22, h⟩ := h
              refine v_nn0 e_a22 ?_
              obtain ⟨k23, h⟩ := h
              refine v_callVi0 hX dX11_about_70 c_RX11_278 cV_X8_gaps (ci := 9) (T := TX8) (N := 5) rfl (by exact k23) [] rfl rfl (Nat.le_of_ble_eq_true rfl) (by decide) (by decide)  (m_X8_gaps h) (fun p25 s24 h => ?_)
              exact v_iret hX hE dX11_about_73 h
            · have h := h_E c21 h
              refine v_tabOut (tgt := 74) hX dX11_about_13 (by have := h_ti c5 (n := 0) rfl; have := h_ti c10 (n := 1) rfl; have := h_ti c13 (n := 2) rfl; have := h_ti c16 (n := 3) rfl; have := h_ti c21 (n := 4) rfl; omega) (by decide) ?_
              refine v_bipush (v := -2) hX dX11_about_74 (by decide) ?_
              exact v_iret hX hE dX11_about_76 h
  · have h := h_T c4 h
    refine v_iconst (v := -1) hX dX11_about_10 (by decide) ?_
    exact v_iret hX hE dX11_about_11 h
set_option maxRecDepth 100000 in
set_option maxHeartbeats 4000000 in
theorem b_X11_at_22 {X : h_X} (hX : h_ok X cX11_at 4 RX11 4 85) {Q : Int32 → h_S → Prop} (hE : h_end X (some .int) (h_QI (x_Z X) Q)) (s : h_S) (h : w_X11_at_22 Q s) : h_V X 4 22 [] [] s 0 0 := by
  unfold w_X11_at_22 at h
  refine v_iconst (v := -1) hX dX11_at_22 (by decide) ?_
  exact v_iret hX hE dX11_at_23 h
set_option maxRecDepth 100000 in
set_option maxHeartbeats 4000000 in
theorem m_X11_at {Z : h_Z} {o0 : Nat} {x1 : Int32} {x2 : Int32} {s : h_S} {Q : Int32 → h_S → Prop} (h : w_X11_at o0 x1 x2 s Q) : h_M Z yX11_at cX11_at 4 (some .int) 4 85 [pR (some o0), pI x1, pI x2] s 0 0 (h_QI Z Q) := by
  refine h_M.of (by decide) (Nat.le_of_ble_eq_true rfl) (fun X hZ hX hE hI => ?_)
  subst hZ
  unfold w_X11_at at h
  show h_V X 4 0 [(0, pR (some o0)), (1, pI x1), (2, pI x2)] [] s 0 0
  refine v_aload_n hX dX11_at_0 0 rfl rfl ?_
  refine v_iload_n hX dX11_at_1 1 rfl rfl ?_
  obtain ⟨k1, h⟩ := h
  refine v_callVr0 hX dX11_at_2 c_RX11_261 cV_X11_versionAt (ci := 12) (T := TX11) (N := 19) rfl (by exact k1) [pI _] rfl rfl (Nat.le_of_ble_eq_true rfl) (by decide) (by decide)  (m_X11_versionAt h) (fun p3 s2 h => ?_)
  refine v_astore_n (lv' := [(3, _), (0, _), (1, _), (2, _)]) hX dX11_at_5 rfl (by decide) rfl ?_
  refine v_aload_n hX dX11_at_6 0 rfl rfl ?_
  refine v_ifnull (tgt := 22) hX dX11_at_7 (by decide) (fun c4 => ?_) (fun c4 => ?_)
  · have h := h_T c4 h
    refine v_pick [] rfl ?_
    exact b_X11_at_22 hX hE _ h
  · have h := h_E c4 h
    refine v_iload_n hX dX11_at_10 3 rfl rfl ?_
    refine v_aload_n hX dX11_at_11 0 rfl rfl ?_
    obtain ⟨a5, e_a5, h⟩ := h
    refine v_nn0 e_a5 ?_
    obtain ⟨k6, h⟩ := h
    refine v_getR hX dX11_at_12 f_RX11_270 rfl k6 ?_
    obtain ⟨a7, e_a7, h⟩ := h
    refine v_nn0 e_a7 ?_
    obtain ⟨k8, h⟩ := h
    refine v_alenK hX dX11_at_15 (k := 1) rfl (by decide) (by decide) k8 ?_
    refine v_callSi0 hX dX11_at_16 c_RX11_78 cS_X11_within [pI _, pI _] rfl rfl (Nat.le_of_ble_eq_true rfl) (by decide) (by decide)  (m_X11_within h) (fun p10 s9 h => ?_)
    refine v_if_ne (tgt := 24) hX dX11_at_19 (by decide) (fun c11 => ?_) (fun c11 => ?_)
    · have h := h_E c11 h
      refine v_aload_n hX dX11_at_24 0 rfl rfl ?_
      obtain ⟨a12, e_a12, h⟩ := h
      refine v_nn0 e_a12 ?_
      obtain ⟨k13, h⟩ := h
      refine v_getR hX dX11_at_25 f_RX11_270 rfl k13 ?_
      refine v_iload_n hX dX11_at_28 3 rfl rfl ?_
      obtain ⟨a14, e_a14, h⟩ := h
      refine v_nn1 e_a14 ?_
      obtain ⟨k15, h⟩ := h
      obtain ⟨i16, h⟩ := h
      refine v_iald hX dX11_at_29 k15 i16 ?_
      exact v_iret hX hE dX11_at_30 h
    · have h := h_T c11 h
      refine v_pick [] rfl ?_
      exact b_X11_at_22 hX hE _ h
set_option maxRecDepth 100000 in
set_option maxHeartbeats 4000000 in
theorem b_X11_compare_24 {X : h_X} (hX : h_ok X cX11_compare 7 RX11 4 85) {Q : Int32 → h_S → Prop} (hE : h_end X (some .int) (h_QI (x_Z X) Q)) (s : h_S) (h : w_X11_compare_24 Q s) : h_V X 7 24 [] [] s 0 0 := by
  unfold w_X11_compare_24 at h
  refine v_iconst (v := -1) hX dX11_compare_24 (by decide) ?_
  exact v_iret hX hE dX11_compare_25 h
set_option maxRecDepth 100000 in
set_option maxHeartbeats 4000000 in
theorem m_X11_compare {Z : h_Z} {o0 : Nat} {x1 : Int32} {x2 : Int32} {x3 : Int32} {s : h_S} {Q : Int32 → h_S → Prop} (h : w_X11_compare o0 x1 x2 x3 s Q) : h_M Z yX11_compare cX11_compare 7 (some .int) 4 85 [pR (some o0), pI x1, pI x2, pI x3] s 0 0 (h_QI Z Q) := by
  refine h_M.of (by decide) (Nat.le_of_ble_eq_true rfl) (fun X hZ hX hE hI => ?_)
  subst hZ
  unfold w_X11_compare at h
  show h_V X 7 0 [(0, pR (some o0)), (1, pI x1), (2, pI x2), (3, pI x3)] [] s 0 0
  refine v_aload_n hX dX11_compare_0 0 rfl rfl ?_
  refine v_iload_n hX dX11_compare_1 1 rfl rfl ?_
  obtain ⟨k1, h⟩ := h
  refine v_callVr0 hX dX11_compare_2 c_RX11_261 cV_X11_versionAt (ci := 12) (T := TX11) (N := 19) rfl (by exact k1) [pI _] rfl rfl (Nat.le_of_ble_eq_true rfl) (by decide) (by decide)  (m_X11_versionAt h) (fun p3 s2 h => ?_)
  refine v_astore (lv' := [(4, _), (0, _), (1, _), (2, _), (3, _)]) hX dX11_compare_5 (by decide) rfl ?_
  refine v_aload_n hX dX11_compare_7 1 rfl rfl ?_
  refine v_iload_n hX dX11_compare_8 3 rfl rfl ?_
  obtain ⟨k4, h⟩ := h
  refine v_callVr0 hX dX11_compare_9 c_RX11_261 cV_X11_versionAt (ci := 12) (T := TX11) (N := 19) rfl (by exact k4) [pI _] rfl rfl (Nat.le_of_ble_eq_true rfl) (by decide) (by decide)  (m_X11_versionAt h) (fun p6 s5 h => ?_)
  refine v_astore (lv' := [(5, _), (4, _), (0, _), (1, _), (2, _), (3, _)]) hX dX11_compare_12 (by decide) rfl ?_
  refine v_aload hX dX11_compare_14 1 rfl ?_
  refine v_ifnull (tgt := 24) hX dX11_compare_16 (by decide) (fun c7 => ?_) (fun c7 => ?_)
  · have h := h_T c7 h
    refine v_pick [] rfl ?_
    exact b_X11_compare_24 hX hE _ h
  · have h := h_E c7 h
    refine v_aload hX dX11_compare_19 0 rfl ?_
    refine v_ifnonnull (tgt := 26) hX dX11_compare_21 (by decide) (fun c8 => ?_) (fun c8 => ?_)
    · have h := h_E c8 h
      refine v_iload_n hX dX11_compare_26 5 rfl rfl ?_
      refine v_iconst (v := 4) hX dX11_compare_27 (by decide) ?_
      refine v_callSi0 hX dX11_compare_28 c_RX11_78 cS_X11_within [pI _, pI _] rfl rfl (Nat.le_of_ble_eq_true rfl) (by decide) (by decide)  (m_X11_within h) (fun p10 s9 h => ?_)
      refine v_if_ne (tgt := 37) hX dX11_compare_31 (by decide) (fun c11 => ?_) (fun c11 => ?_)
      · have h := h_E c11 h
        refine v_aload_n hX dX11_compare_37 2 rfl rfl ?_
        obtain ⟨k12, h⟩ := h
        refine v_getR hX dX11_compare_38 f_RX11_50 rfl k12 ?_
        refine v_aload hX dX11_compare_41 1 rfl ?_
        obtain ⟨a13, e_a13, h⟩ := h
        refine v_nn0 e_a13 ?_
        obtain ⟨k14, h⟩ := h
        refine v_getR hX dX11_compare_43 f_RX11_270 rfl k14 ?_
        refine v_aload hX dX11_compare_46 0 rfl ?_
        obtain ⟨a15, e_a15, h⟩ := h
        refine v_nn0 e_a15 ?_
        obtain ⟨k16, h⟩ := h
        refine v_getR hX dX11_compare_48 f_RX11_270 rfl k16 ?_
        obtain ⟨a17, e_a17, h⟩ := h
        refine v_nn2 e_a17 ?_
        obtain ⟨k18, h⟩ := h
        refine v_callVi0 hX dX11_compare_51 c_RX11_281 cV_X9_sharedBy (ci := 10) (T := TX9) (N := 16) rfl (by exact k18) [pR _, pR _] rfl rfl (Nat.le_of_ble_eq_true rfl) (by decide) (by decide)  (m_X9_sharedBy h) (fun p20 s19 h => ?_)
        refine v_istore (lv' := [(6, _), (5, _), (4, _), (0, _), (1, _), (2, _), (3, _)]) hX dX11_compare_54 (by decide) rfl ?_
        refine v_iload_n hX dX11_compare_56 6 rfl rfl ?_
        refine v_gen (fun q41 e_q41 => ?_)
        rw [← e_q41] at h
        by_cases c21 : q41 = (1 : Int32)
        · have h := h_T c21 h
          refine v_tabIn (tgt := 84) hX dX11_compare_57 (by rw [c21]; decide) (by rw [c21]; decide) (by rw [c21]; rfl) (by decide) ?_
          refine v_aload hX dX11_compare_84 2 rfl ?_
          obtain ⟨a22, e_a22, h⟩ := h
          refine v_nn0 e_a22 ?_
          obtain ⟨k23, h⟩ := h
          refine v_getR hX dX11_compare_86 f_RX11_270 rfl k23 ?_
          obtain ⟨a24, e_a24, h⟩ := h
          refine v_nn0 e_a24 ?_
          obtain ⟨k25, h⟩ := h
          refine v_alenK hX dX11_compare_89 (k := 1) rfl (by decide) (by decide) k25 ?_
          refine v_iload hX dX11_compare_90 0 rfl ?_
          refine v_isub hX dX11_compare_92 ?_
          exact v_iret hX hE dX11_compare_93 h
        · have h := h_E c21 h
          by_cases c26 : q41 = (2 : Int32)
          · have h := h_T c26 h
            refine v_tabIn (tgt := 94) hX dX11_compare_57 (by rw [c26]; decide) (by rw [c26]; decide) (by rw [c26]; rfl) (by decide) ?_
            refine v_aload hX dX11_compare_94 1 rfl ?_
            obtain ⟨a27, e_a27, h⟩ := h
            refine v_nn0 e_a27 ?_
            obtain ⟨k28, h⟩ := h
            refine v_getR hX dX11_compare_96 f_RX11_270 rfl k28 ?_
            obtain ⟨a29, e_a29, h⟩ := h
            refine v_nn0 e_a29 ?_
            obtain ⟨k30, h⟩ := h
            refine v_alenK hX dX11_compare_99 (k := 1) rfl (by decide) (by decide) k30 ?_
            refine v_iload hX dX11_compare_100 0 rfl ?_
            refine v_isub hX dX11_compare_102 ?_
            exact v_iret hX hE dX11_compare_103 h
          · have h := h_E c26 h
            by_cases c31 : q41 = (3 : Int32)
            · have h := h_T c31 h
              refine v_tabIn (tgt := 104) hX dX11_compare_57 (by rw [c31]; decide) (by rw [c31]; decide) (by rw [c31]; rfl) (by decide) ?_
              refine v_aload_n hX dX11_compare_104 3 rfl rfl ?_
              obtain ⟨k32, h⟩ := h
              refine v_getR hX dX11_compare_105 f_RX11_50 rfl k32 ?_
              refine v_aload hX dX11_compare_108 2 rfl ?_
              obtain ⟨a33, e_a33, h⟩ := h
              refine v_nn0 e_a33 ?_
              obtain ⟨k34, h⟩ := h
              refine v_getR hX dX11_compare_110 f_RX11_270 rfl k34 ?_
              refine v_aload hX dX11_compare_113 1 rfl ?_
              obtain ⟨a35, e_a35, h⟩ := h
              refine v_nn0 e_a35 ?_
              obtain ⟨k36, h⟩ := h
              refine v_getR hX dX11_compare_115 f_RX11_270 rfl k36 ?_
              obtain ⟨a37, e_a37, h⟩ := h
              refine v_nn2 e_a37 ?_
              obtain ⟨k38, h⟩ := h
              refine v_callVi0 hX dX11_compare_118 c_RX11_285 cV_X9_commonTo (ci := 10) (T := TX9) (N := 16) rfl (by exact k38) [pR _, pR _] rfl rfl (Nat.le_of_ble_eq_true rfl) (by decide) (by decide)  (m_X9_commonTo h) (fun p40 s39 h => ?_)
              refine v_iload hX dX11_compare_121 0 rfl ?_
              refine v_isub hX dX11_compare_123 ?_
              exact v_iret hX hE dX11_compare_124 h
            · have h := h_E c31 h
              refine v_tabOut (tgt := 125) hX dX11_compare_57 (by have := h_ti c21 (n := 1) rfl; have := h_ti c26 (n := 2) rfl; have := h_ti c31 (n := 3) rfl; omega) (by decide) ?_
              refine v_iload hX dX11_compare_125 0 rfl ?_
              exact v_iret hX hE dX11_compare_127 h
      · have h := h_T c11 h
        refine v_bipush (v := -2) hX dX11_compare_34 (by decide) ?_
        exact v_iret hX hE dX11_compare_36 h
    · have h := h_T c8 h
      refine v_pick [] rfl ?_
      exact b_X11_compare_24 hX hE _ h
set_option maxRecDepth 100000 in
set_option maxHeartbeats 4000000 in
theorem b_X11_join_36 {X : h_X} (hX : h_ok X cX11_join 9 RX11 7 191) {Q : Int32 → h_S → Prop} (hE : h_end X (some .int) (h_QI (x_Z X) Q)) (s : h_S) {bc bs : Nat} (h : w_X11_join_36 (x_G X) Q s bc bs) : h_V X 9 36 [] [] s bc bs := by
  unfold w_X11_join_36 at h
  refine v_iconst (v := -1) hX dX11_join_36 (by decide) ?_
  exact v_iret hX hE dX11_join_37 h
set_option maxRecDepth 100000 in
set_option maxHeartbeats 4000000 in
theorem b_X11_join_105 {X : h_X} (hX : h_ok X cX11_join 9 RX11 7 191) {Q : Int32 → h_S → Prop} (hE : h_end X (some .int) (h_QI (x_Z X) Q)) (s : h_S) {bc bs : Nat} (h : w_X11_join_105 (x_G X) Q s bc bs) : h_V X 9 105 [] [] s bc bs := by
  unfold w_X11_join_105 at h
  refine v_bipush (v := -4) hX dX11_join_105 (by decide) ?_
  exact v_iret hX hE dX11_join_107 h
set_option maxRecDepth 100000 in
set_option maxHeartbeats 4000000 in
theorem b_X11_join_175 {X : h_X} (hX : h_ok X cX11_join 9 RX11 7 191) {Q : Int32 → h_S → Prop} (hE : h_end X (some .int) (h_QI (x_Z X) Q)) : ∀ (n : Nat) (o0 : Nat) (x7 : Int32) (x8 : Int32) (s : h_S) (bc bs : Nat), w_X11_join_175 (x_G X) Q n o0 x7 x8 s bc bs → h_V X 9 175 [(0, pR (some o0)), (7, pI x7), (8, pI x8)] [] s bc bs := by
  intro n
  induction n with
  | zero => intro _ _ _ s bc bs h; exact h.elim
  | succ n hK175 =>
    intro o0 x7 x8 s bc bs h
    have h : w_X11_join_175b (x_G X) Q (w_X11_join_175 (x_G X) Q n) o0 x7 x8 s bc bs := h
    unfold w_X11_join_175b at h
    refine v_iload hX dX11_join_175 2 rfl ?_
    refine v_aload_n hX dX11_join_177 0 rfl rfl ?_
    obtain ⟨k1, h⟩ := h
    refine v_getR hX dX11_join_178 f_RX11_50 rfl k1 ?_
    obtain ⟨a2, e_a2, h⟩ := h
    refine v_nn0 e_a2 ?_
    obtain ⟨k3, h⟩ := h
    refine v_getI hX dX11_join_181 f_RX11_295 rfl k3 ?_
    refine v_icmp_ge (tgt := 212) hX dX11_join_184 (by decide) (fun c4 => ?_) (fun c4 => ?_)
    · have h := h_T c4 h
      refine v_aload_n hX dX11_join_212 0 rfl rfl ?_
      refine v_iload hX dX11_join_213 1 rfl ?_
      refine v_callVi0 hX dX11_join_215 c_RX11_74 cV_X11_acted (ci := 12) (T := TX11) (N := 19) rfl (by exact k1) [pI _] rfl rfl (Nat.le_of_ble_eq_true rfl) (by decide) (by decide)  (m_X11_acted h) (fun p6 s5 h => ?_)
      exact v_iret hX hE dX11_join_218 h
    · have h := h_E c4 h
      refine v_aload_n hX dX11_join_187 0 rfl rfl ?_
      refine v_getR hX dX11_join_188 f_RX11_32 rfl k1 ?_
      refine v_aload_n hX dX11_join_191 0 rfl rfl ?_
      refine v_getR hX dX11_join_192 f_RX11_50 rfl k1 ?_
      refine v_iload hX dX11_join_195 2 rfl ?_
      refine v_iload hX dX11_join_197 1 rfl ?_
      obtain ⟨a7, e_a7, h⟩ := h
      refine v_nn2 e_a7 ?_
      obtain ⟨k8, h⟩ := h
      obtain ⟨mc11, ms12, b13, b14, h⟩ := h
      refine v_callVr hX dX11_join_199 c_RX11_308 cV_X9_clashAt (ci := 10) (T := TX9) (N := 16) rfl (by exact k8) [pI _, pI _] rfl rfl (Nat.le_of_ble_eq_true rfl) (by decide) (by decide) b13 b14 (m_X9_clashAt h) (fun p10 s9 h => ?_)
      obtain ⟨a15, e_a15, h⟩ := h
      refine v_nn1 e_a15 ?_
      obtain ⟨k16, h⟩ := h
      obtain ⟨mc19, ms20, b21, b22, h⟩ := h
      refine v_callVi hX dX11_join_202 c_RX11_257 cV_Jx4a65c_add_9ea2d (ci := 0) (T := TJx4a65c) (N := 3) rfl (by exact k16) [pR _] rfl rfl (Nat.le_of_ble_eq_true rfl) (by decide) (by decide) b21 b22 (m_Jx4a65c_add_9ea2d h) (fun p18 s17 h => ?_)
      refine v_pop hX dX11_join_205 rfl ?_
      refine v_iinc (c := 1) (lv' := [(8, _), (0, _), (7, _)]) hX dX11_join_206 2 rfl (by decide) (by decide) rfl ?_
      refine v_goto (tgt := 175) hX dX11_join_209 (by decide) ?_
      refine v_pick [1, 2, 0] rfl ?_
      exact hK175 _ _ _ _ _ _ h
set_option maxRecDepth 100000 in
set_option maxHeartbeats 4000000 in
theorem m_X11_join {Z : h_Z} {o0 : Nat} {x1 : Int32} {x2 : Int32} {x3 : Int32} {s : h_S} {mc ms : Nat} {Q : Int32 → h_S → Prop} (h : w_X11_join Z.2.2.2.2 o0 x1 x2 x3 s mc ms Q) : h_M Z yX11_join cX11_join 9 (some .int) 7 191 [pR (some o0), pI x1, pI x2, pI x3] s mc ms (h_QI Z Q) := by
  refine h_M.of (by decide) (Nat.le_of_ble_eq_true rfl) (fun X hZ hX hE hI => ?_)
  subst hZ
  unfold w_X11_join at h
  show h_V X 9 0 [(0, pR (some o0)), (1, pI x1), (2, pI x2), (3, pI x3)] [] s mc ms
  refine v_aload_n hX dX11_join_0 0 rfl rfl ?_
  refine v_iload_n hX dX11_join_1 1 rfl rfl ?_
  obtain ⟨k1, h⟩ := h
  refine v_callVr0 hX dX11_join_2 c_RX11_261 cV_X11_versionAt (ci := 12) (T := TX11) (N := 19) rfl (by exact k1) [pI _] rfl rfl (Nat.le_of_ble_eq_true rfl) (by decide) (by decide)  (m_X11_versionAt h) (fun p3 s2 h => ?_)
  refine v_astore (lv' := [(4, _), (0, _), (1, _), (2, _), (3, _)]) hX dX11_join_5 (by decide) rfl ?_
  refine v_aload_n hX dX11_join_7 1 rfl rfl ?_
  refine v_iload_n hX dX11_join_8 3 rfl rfl ?_
  obtain ⟨k4, h⟩ := h
  refine v_callVr0 hX dX11_join_9 c_RX11_261 cV_X11_versionAt (ci := 12) (T := TX11) (N := 19) rfl (by exact k4) [pI _] rfl rfl (Nat.le_of_ble_eq_true rfl) (by decide) (by decide)  (m_X11_versionAt h) (fun p6 s5 h => ?_)
  refine v_astore (lv' := [(5, _), (4, _), (0, _), (1, _), (2, _), (3, _)]) hX dX11_join_12 (by decide) rfl ?_
  refine v_aload_n hX dX11_join_14 2 rfl rfl ?_
  refine v_iload_n hX dX11_join_15 5 rfl rfl ?_
  obtain ⟨k7, h⟩ := h
  refine v_callVr0 hX dX11_join_16 c_RX11_261 cV_X11_versionAt (ci := 12) (T := TX11) (N := 19) rfl (by exact k7) [pI _] rfl rfl (Nat.le_of_ble_eq_true rfl) (by decide) (by decide)  (m_X11_versionAt h) (fun p9 s8 h => ?_)
  refine v_astore (lv' := [(6, _), (5, _), (4, _), (0, _), (1, _), (2, _), (3, _)]) hX dX11_join_19 (by decide) rfl ?_
  refine v_aload hX dX11_join_21 2 rfl ?_
  refine v_ifnull (tgt := 36) hX dX11_join_23 (by decide) (fun c10 => ?_) (fun c10 => ?_)
  · have h := h_T c10 h
    refine v_pick [] rfl ?_
    exact b_X11_join_36 hX hE _ h
  · have h := h_E c10 h
    refine v_aload hX dX11_join_26 1 rfl ?_
    refine v_ifnull (tgt := 36) hX dX11_join_28 (by decide) (fun c11 => ?_) (fun c11 => ?_)
    · have h := h_T c11 h
      refine v_pick [] rfl ?_
      exact b_X11_join_36 hX hE _ h
    · have h := h_E c11 h
      refine v_aload hX dX11_join_31 0 rfl ?_
      refine v_ifnonnull (tgt := 38) hX dX11_join_33 (by decide) (fun c12 => ?_) (fun c12 => ?_)
      · have h := h_E c12 h
        refine v_aload_n hX dX11_join_38 3 rfl rfl ?_
        obtain ⟨k13, h⟩ := h
        refine v_getR hX dX11_join_39 f_RX11_21 rfl k13 ?_
        obtain ⟨a14, e_a14, h⟩ := h
        refine v_nn0 e_a14 ?_
        obtain ⟨k15, h⟩ := h
        refine v_callVi0 hX dX11_join_42 c_RX11_93 cV_X7_isFull (ci := 8) (T := TX7) (N := 13) rfl (by exact k15) [] rfl rfl (Nat.le_of_ble_eq_true rfl) (by decide) (by decide)  (m_X7_isFull h) (fun p17 s16 h => ?_)
        refine v_if_eq (tgt := 51) hX dX11_join_45 (by decide) (fun c18 => ?_) (fun c18 => ?_)
        · have h := h_T c18 h
          refine v_aload_n hX dX11_join_51 3 rfl rfl ?_
          obtain ⟨k19, h⟩ := h
          refine v_getR hX dX11_join_52 f_RX11_50 rfl k19 ?_
          refine v_aload hX dX11_join_55 2 rfl ?_
          obtain ⟨a20, e_a20, h⟩ := h
          refine v_nn0 e_a20 ?_
          obtain ⟨k21, h⟩ := h
          refine v_getR hX dX11_join_57 f_RX11_270 rfl k21 ?_
          refine v_aload hX dX11_join_60 1 rfl ?_
          obtain ⟨a22, e_a22, h⟩ := h
          refine v_nn0 e_a22 ?_
          obtain ⟨k23, h⟩ := h
          refine v_getR hX dX11_join_62 f_RX11_270 rfl k23 ?_
          refine v_aload hX dX11_join_65 0 rfl ?_
          obtain ⟨a24, e_a24, h⟩ := h
          refine v_nn0 e_a24 ?_
          obtain ⟨k25, h⟩ := h
          refine v_getR hX dX11_join_67 f_RX11_270 rfl k25 ?_
          obtain ⟨a26, e_a26, h⟩ := h
          refine v_nn3 e_a26 ?_
          obtain ⟨k27, h⟩ := h
          refine v_callVv0 hX dX11_join_70 c_RX11_288 cV_X9_weaveBy (ci := 10) (T := TX9) (N := 16) rfl (by exact k27) [pR _, pR _, pR _] rfl rfl (Nat.le_of_ble_eq_true rfl) (by decide) (by decide)  (m_X9_weaveBy h) (fun s28 h => ?_)
          refine v_aload_n hX dX11_join_73 3 rfl rfl ?_
          obtain ⟨k30, h⟩ := h
          refine v_getR hX dX11_join_74 f_RX11_50 rfl k30 ?_
          obtain ⟨a31, e_a31, h⟩ := h
          refine v_nn0 e_a31 ?_
          obtain ⟨k32, h⟩ := h
          refine v_callVi0 hX dX11_join_77 c_RX11_292 cV_X9_runs (ci := 10) (T := TX9) (N := 16) rfl (by exact k32) [] rfl rfl (Nat.le_of_ble_eq_true rfl) (by decide) (by decide)  (m_X9_runs h) (fun p34 s33 h => ?_)
          refine v_bipush (v := 24) hX dX11_join_80 (by decide) ?_
          refine v_icmp_gt (tgt := 105) hX dX11_join_82 (by decide) (fun c35 => ?_) (fun c35 => ?_)
          · have h := h_T c35 h
            refine v_pick [] rfl ?_
            exact b_X11_join_105 hX hE _ h
          · have h := h_E c35 h
            refine v_aload_n hX dX11_join_85 3 rfl rfl ?_
            obtain ⟨k36, h⟩ := h
            refine v_getR hX dX11_join_86 f_RX11_50 rfl k36 ?_
            obtain ⟨a37, e_a37, h⟩ := h
            refine v_nn0 e_a37 ?_
            obtain ⟨k38, h⟩ := h
            refine v_getI hX dX11_join_89 f_RX11_295 rfl k38 ?_
            refine v_bipush (v := 12) hX dX11_join_92 (by decide) ?_
            refine v_aload_n hX dX11_join_94 3 rfl rfl ?_
            refine v_getR hX dX11_join_95 f_RX11_32 rfl k36 ?_
            obtain ⟨a39, e_a39, h⟩ := h
            refine v_nn0 e_a39 ?_
            obtain ⟨k40, h⟩ := h
            refine v_callVi0 hX dX11_join_98 c_RX11_244 cV_Jx4a65c_size_8abf5 (ci := 0) (T := TJx4a65c) (N := 3) rfl (by exact k40) [] rfl rfl (Nat.le_of_ble_eq_true rfl) (by decide) (by decide)  (m_Jx4a65c_size_8abf5 h) (fun p42 s41 h => ?_)
            refine v_isub hX dX11_join_101 ?_
            refine v_icmp_le (tgt := 108) hX dX11_join_102 (by decide) (fun c43 => ?_) (fun c43 => ?_)
            · have h := h_T c43 h
              refine v_aload_n hX dX11_join_108 3 rfl rfl ?_
              obtain ⟨k44, h⟩ := h
              refine v_getR hX dX11_join_109 f_RX11_21 rfl k44 ?_
              refine v_aload_n hX dX11_join_112 3 rfl rfl ?_
              refine v_getR hX dX11_join_113 f_RX11_21 rfl k44 ?_
              refine v_aload hX dX11_join_116 2 rfl ?_
              obtain ⟨a45, e_a45, h⟩ := h
              refine v_nn0 e_a45 ?_
              obtain ⟨k46, h⟩ := h
              refine v_getI hX dX11_join_118 f_RX11_274 rfl k46 ?_
              obtain ⟨a47, e_a47, h⟩ := h
              refine v_nn1 e_a47 ?_
              obtain ⟨k48, h⟩ := h
              refine v_callVi0 hX dX11_join_121 c_RX11_139 cV_X7_ownerOf (ci := 8) (T := TX7) (N := 13) rfl (by exact k48) [pI _] rfl rfl (Nat.le_of_ble_eq_true rfl) (by decide) (by decide)  (m_X7_ownerOf h) (fun p50 s49 h => ?_)
              refine v_aload_n hX dX11_join_124 3 rfl rfl ?_
              obtain ⟨k51, h⟩ := h
              refine v_getI hX dX11_join_125 f_RX11_82 rfl k51 ?_
              refine v_iconst (v := 1) hX dX11_join_128 (by decide) ?_
              refine v_iadd hX dX11_join_129 ?_
              obtain ⟨a52, e_a52, h⟩ := h
              refine v_nn2 e_a52 ?_
              obtain ⟨k53, h⟩ := h
              obtain ⟨mc56, ms57, b58, b59, h⟩ := h
              refine v_callVi hX dX11_join_130 c_RX11_97 cV_X7_begin (ci := 8) (T := TX7) (N := 13) rfl (by exact k53) [pI _, pI _] rfl rfl (Nat.le_of_ble_eq_true rfl) (by decide) (by decide) b58 b59 (m_X7_begin h) (fun p55 s54 h => ?_)
              refine v_istore (lv' := [(7, _), (6, _), (5, _), (4, _), (0, _), (1, _), (2, _), (3, _)]) hX dX11_join_133 (by decide) rfl ?_
              refine v_aload_n hX dX11_join_135 4 rfl rfl ?_
              obtain ⟨k60, h⟩ := h
              refine v_getR hX dX11_join_136 f_RX11_21 rfl k60 ?_
              refine v_aload_n hX dX11_join_139 4 rfl rfl ?_
              refine v_getR hX dX11_join_140 f_RX11_50 rfl k60 ?_
              obtain ⟨a61, e_a61, h⟩ := h
              refine v_nn0 e_a61 ?_
              obtain ⟨k62, h⟩ := h
              refine v_getR hX dX11_join_143 f_RX11_298 rfl k62 ?_
              refine v_aload_n hX dX11_join_146 4 rfl rfl ?_
              refine v_getR hX dX11_join_147 f_RX11_50 rfl k60 ?_
              obtain ⟨a63, e_a63, h⟩ := h
              refine v_nn0 e_a63 ?_
              obtain ⟨k64, h⟩ := h
              refine v_getI hX dX11_join_150 f_RX11_301 rfl k64 ?_
              obtain ⟨a65, e_a65, h⟩ := h
              refine v_nn2 e_a65 ?_
              obtain ⟨k66, h⟩ := h
              obtain ⟨mc69, ms70, b71, b72, h⟩ := h
              refine v_callVv hX dX11_join_153 c_RX11_304 cV_X7_layRuns (ci := 8) (T := TX7) (N := 13) rfl (by exact k66) [pR _, pI _] rfl rfl (Nat.le_of_ble_eq_true rfl) (by decide) (by decide) b71 b72 (m_X7_layRuns h) (fun s67 h => ?_)
              refine v_aload_n hX dX11_join_156 4 rfl rfl ?_
              obtain ⟨k73, h⟩ := h
              refine v_getR hX dX11_join_157 f_RX11_21 rfl k73 ?_
              refine v_iload hX dX11_join_160 0 rfl ?_
              refine v_aload_n hX dX11_join_162 4 rfl rfl ?_
              refine v_getI hX dX11_join_163 f_RX11_82 rfl k73 ?_
              refine v_iconst (v := 1) hX dX11_join_166 (by decide) ?_
              refine v_iadd hX dX11_join_167 ?_
              obtain ⟨a74, e_a74, h⟩ := h
              refine v_nn2 e_a74 ?_
              obtain ⟨k75, h⟩ := h
              obtain ⟨mc78, ms79, b80, b81, h⟩ := h
              refine v_callVi hX dX11_join_168 c_RX11_185 cV_X7_keepLaid (ci := 8) (T := TX7) (N := 13) rfl (by exact k75) [pI _, pI _] rfl rfl (Nat.le_of_ble_eq_true rfl) (by decide) (by decide) b80 b81 (m_X7_keepLaid h) (fun p77 s76 h => ?_)
              refine v_pop hX dX11_join_171 rfl ?_
              refine v_iconst (v := 0) hX dX11_join_172 (by decide) ?_
              refine v_istore (lv' := [(8, _), (7, _), (6, _), (5, _), (4, _), (0, _), (1, _), (2, _), (3, _)]) hX dX11_join_173 (by decide) rfl ?_
              refine v_pick [5, 1, 0] rfl ?_
              obtain ⟨n, h⟩ := h
              exact b_X11_join_175 hX hE n _ _ _ _ _ _ h
            · have h := h_E c43 h
              refine v_pick [] rfl ?_
              exact b_X11_join_105 hX hE _ h
        · have h := h_E c18 h
          refine v_bipush (v := -4) hX dX11_join_48 (by decide) ?_
          exact v_iret hX hE dX11_join_50 h
      · have h := h_T c12 h
        refine v_pick [] rfl ?_
        exact b_X11_join_36 hX hE _ h
set_option maxRecDepth 100000 in
set_option maxHeartbeats 4000000 in
theorem b_X11_clash_93 {X : h_X} (hX : h_ok X cX11_clash 4 RX11 3 64) {Q : Int32 → h_S → Prop} (hE : h_end X (some .int) (h_QI (x_Z X) Q)) {y0 : Int32} (s : h_S) (h : w_X11_clash_93 Q y0 s) : h_V X 4 93 [] [pI y0] s 0 0 := by
  unfold w_X11_clash_93 at h
  exact v_iret hX hE dX11_clash_93 h
set_option maxRecDepth 100000 in
set_option maxHeartbeats 4000000 in
theorem m_X11_clash {Z : h_Z} {o0 : Nat} {x1 : Int32} {x2 : Int32} {s : h_S} {Q : Int32 → h_S → Prop} (h : w_X11_clash o0 x1 x2 s Q) : h_M Z yX11_clash cX11_clash 4 (some .int) 3 64 [pR (some o0), pI x1, pI x2] s 0 0 (h_QI Z Q) := by
  refine h_M.of (by decide) (Nat.le_of_ble_eq_true rfl) (fun X hZ hX hE hI => ?_)
  subst hZ
  unfold w_X11_clash at h
  show h_V X 4 0 [(0, pR (some o0)), (1, pI x1), (2, pI x2)] [] s 0 0
  refine v_iload_n hX dX11_clash_0 1 rfl rfl ?_
  refine v_aload_n hX dX11_clash_1 0 rfl rfl ?_
  obtain ⟨k1, h⟩ := h
  refine v_getR hX dX11_clash_2 f_RX11_32 rfl k1 ?_
  obtain ⟨a2, e_a2, h⟩ := h
  refine v_nn0 e_a2 ?_
  obtain ⟨k3, h⟩ := h
  refine v_callVi0 hX dX11_clash_5 c_RX11_244 cV_Jx4a65c_size_8abf5 (ci := 0) (T := TJx4a65c) (N := 3) rfl (by exact k3) [] rfl rfl (Nat.le_of_ble_eq_true rfl) (by decide) (by decide)  (m_Jx4a65c_size_8abf5 h) (fun p5 s4 h => ?_)
  refine v_callSi0 hX dX11_clash_8 c_RX11_78 cS_X11_within [pI _, pI _] rfl rfl (Nat.le_of_ble_eq_true rfl) (by decide) (by decide)  (m_X11_within h) (fun p7 s6 h => ?_)
  refine v_if_ne (tgt := 16) hX dX11_clash_11 (by decide) (fun c8 => ?_) (fun c8 => ?_)
  · have h := h_E c8 h
    refine v_aload_n hX dX11_clash_16 0 rfl rfl ?_
    obtain ⟨k9, h⟩ := h
    refine v_getR hX dX11_clash_17 f_RX11_32 rfl k9 ?_
    refine v_iload_n hX dX11_clash_20 1 rfl rfl ?_
    obtain ⟨a10, e_a10, h⟩ := h
    refine v_nn1 e_a10 ?_
    obtain ⟨k11, h⟩ := h
    refine v_callVr0 hX dX11_clash_21 c_RX11_312 cV_Jx4a65c_get_915e3 (ci := 0) (T := TJx4a65c) (N := 3) rfl (by exact k11) [pI _] rfl rfl (Nat.le_of_ble_eq_true rfl) (by decide) (by decide)  (m_Jx4a65c_get_915e3 h) (fun p13 s12 h => ?_)
    obtain ⟨b14, h⟩ := h
    refine v_cast (ci := 1) hX dX11_clash_24 kl_RX11_316 rfl b14 ?_
    refine v_astore_n (lv' := [(3, _), (0, _), (1, _), (2, _)]) hX dX11_clash_27 rfl (by decide) rfl ?_
    refine v_iload_n hX dX11_clash_28 3 rfl rfl ?_
    refine v_gen (fun q32 e_q32 => ?_)
    rw [← e_q32] at h
    by_cases c15 : q32 = (0 : Int32)
    · have h := h_T c15 h
      refine v_tabIn (tgt := 60) hX dX11_clash_29 (by rw [c15]; decide) (by rw [c15]; decide) (by rw [c15]; rfl) (by decide) ?_
      refine v_aload_n hX dX11_clash_60 0 rfl rfl ?_
      obtain ⟨a16, e_a16, h⟩ := h
      refine v_nn0 e_a16 ?_
      obtain ⟨k17, h⟩ := h
      refine v_getI hX dX11_clash_61 f_RX11_318 rfl k17 ?_
      exact v_iret hX hE dX11_clash_64 h
    · have h := h_E c15 h
      by_cases c18 : q32 = (1 : Int32)
      · have h := h_T c18 h
        refine v_tabIn (tgt := 65) hX dX11_clash_29 (by rw [c18]; decide) (by rw [c18]; decide) (by rw [c18]; rfl) (by decide) ?_
        refine v_aload_n hX dX11_clash_65 0 rfl rfl ?_
        obtain ⟨a19, e_a19, h⟩ := h
        refine v_nn0 e_a19 ?_
        obtain ⟨k20, h⟩ := h
        refine v_getI hX dX11_clash_66 f_RX11_319 rfl k20 ?_
        exact v_iret hX hE dX11_clash_69 h
      · have h := h_E c18 h
        by_cases c21 : q32 = (2 : Int32)
        · have h := h_T c21 h
          refine v_tabIn (tgt := 70) hX dX11_clash_29 (by rw [c21]; decide) (by rw [c21]; decide) (by rw [c21]; rfl) (by decide) ?_
          refine v_aload_n hX dX11_clash_70 0 rfl rfl ?_
          obtain ⟨a22, e_a22, h⟩ := h
          refine v_nn0 e_a22 ?_
          obtain ⟨k23, h⟩ := h
          refine v_getR hX dX11_clash_71 f_RX11_322 rfl k23 ?_
          obtain ⟨a24, e_a24, h⟩ := h
          refine v_nn0 e_a24 ?_
          obtain ⟨k25, h⟩ := h
          refine v_alenK hX dX11_clash_74 (k := 1) rfl (by decide) (by decide) k25 ?_
          refine v_aload_n hX dX11_clash_75 0 rfl rfl ?_
          obtain ⟨a26, e_a26, h⟩ := h
          refine v_nn0 e_a26 ?_
          obtain ⟨k27, h⟩ := h
          refine v_getI hX dX11_clash_76 f_RX11_319 rfl k27 ?_
          refine v_isub hX dX11_clash_79 ?_
          exact v_iret hX hE dX11_clash_80 h
        · have h := h_E c21 h
          by_cases c28 : q32 = (3 : Int32)
          · have h := h_T c28 h
            refine v_tabIn (tgt := 81) hX dX11_clash_29 (by rw [c28]; decide) (by rw [c28]; decide) (by rw [c28]; rfl) (by decide) ?_
            refine v_aload_n hX dX11_clash_81 0 rfl rfl ?_
            obtain ⟨a29, e_a29, h⟩ := h
            refine v_nn0 e_a29 ?_
            obtain ⟨k30, h⟩ := h
            refine v_getI hX dX11_clash_82 f_RX11_325 rfl k30 ?_
            refine v_if_eq (tgt := 92) hX dX11_clash_85 (by decide) (fun c31 => ?_) (fun c31 => ?_)
            · have h := h_T c31 h
              refine v_iconst (v := 0) hX dX11_clash_92 (by decide) ?_
              refine v_pick [] rfl ?_
              exact b_X11_clash_93 hX hE _ h
            · have h := h_E c31 h
              refine v_iconst (v := 1) hX dX11_clash_88 (by decide) ?_
              refine v_goto (tgt := 93) hX dX11_clash_89 (by decide) ?_
              refine v_pick [] rfl ?_
              exact b_X11_clash_93 hX hE _ h
          · have h := h_E c28 h
            refine v_tabOut (tgt := 94) hX dX11_clash_29 (by have := h_ti c15 (n := 0) rfl; have := h_ti c18 (n := 1) rfl; have := h_ti c21 (n := 2) rfl; have := h_ti c28 (n := 3) rfl; omega) (by decide) ?_
            refine v_bipush (v := -2) hX dX11_clash_94 (by decide) ?_
            exact v_iret hX hE dX11_clash_96 h
  · have h := h_T c8 h
    refine v_iconst (v := -1) hX dX11_clash_14 (by decide) ?_
    exact v_iret hX hE dX11_clash_15 h
set_option maxRecDepth 100000 in
set_option maxHeartbeats 4000000 in
theorem b_X11_settle_118 {X : h_X} (hX : h_ok X cX11_settle 8 RX11 19 559) {Q : Int32 → h_S → Prop} (hE : h_end X (some .int) (h_QI (x_Z X) Q)) {o0 : Nat} {r3 : Option Nat} {x4 : Int32} {x6 : Int32} {y0 : Int32} (s : h_S) {bc bs : Nat} (h : w_X11_settle_118 Q o0 r3 x4 x6 y0 s bc bs) : h_V X 8 118 [(0, pR (some o0)), (3, pR r3), (4, pI x4), (6, pI x6)] [pI y0] s bc bs := by
  unfold w_X11_settle_118 at h
  refine v_istore (lv' := [(7, _), (0, _), (3, _), (4, _), (6, _)]) hX dX11_settle_118 (by decide) rfl ?_
  refine v_aload_n hX dX11_settle_120 1 rfl rfl ?_
  refine v_aload_n hX dX11_settle_121 2 rfl rfl ?_
  obtain ⟨a1, e_a1, h⟩ := h
  refine v_nn0 e_a1 ?_
  obtain ⟨k2, h⟩ := h
  refine v_getI hX dX11_settle_122 f_RX11_318 rfl k2 ?_
  refine v_iload hX dX11_settle_125 3 rfl ?_
  refine v_iload hX dX11_settle_127 4 rfl ?_
  refine v_iadd hX dX11_settle_129 ?_
  refine v_iload hX dX11_settle_130 0 rfl ?_
  refine v_iload hX dX11_settle_132 4 rfl ?_
  refine v_isub hX dX11_settle_134 ?_
  obtain ⟨k3, h⟩ := h
  obtain ⟨mc6, ms7, b8, b9, h⟩ := h
  refine v_callVi hX dX11_settle_135 c_RX11_173 cV_X11_takeOut (ci := 12) (T := TX11) (N := 19) rfl (by exact k3) [pI _, pI _, pI _] rfl rfl (Nat.le_of_ble_eq_true rfl) (by decide) (by decide) b8 b9 (m_X11_takeOut h) (fun p5 s4 h => ?_)
  refine v_if_ne (tgt := 144) hX dX11_settle_138 (by decide) (fun c10 => ?_) (fun c10 => ?_)
  · have h := h_E c10 h
    refine v_aload_n hX dX11_settle_144 2 rfl rfl ?_
    refine v_iconst (v := 1) hX dX11_settle_145 (by decide) ?_
    obtain ⟨a11, e_a11, h⟩ := h
    refine v_nn1 e_a11 ?_
    obtain ⟨k12, h⟩ := h
    refine v_putZ hX dX11_settle_146 f_RX11_325 k12 (Or.inr rfl) ?_
    refine v_aload_n hX dX11_settle_149 1 rfl rfl ?_
    refine v_iload hX dX11_settle_150 0 rfl ?_
    refine v_iload hX dX11_settle_152 4 rfl ?_
    refine v_isub hX dX11_settle_154 ?_
    obtain ⟨k14, h⟩ := h
    refine v_callVi0 hX dX11_settle_155 c_RX11_74 cV_X11_acted (ci := 12) (T := TX11) (N := 19) rfl (by exact k14) [pI _] rfl rfl (Nat.le_of_ble_eq_true rfl) (by decide) (by decide)  (m_X11_acted h) (fun p16 s15 h => ?_)
    exact v_iret hX hE dX11_settle_158 h
  · have h := h_T c10 h
    refine v_bipush (v := -4) hX dX11_settle_141 (by decide) ?_
    exact v_iret hX hE dX11_settle_143 h
set_option maxRecDepth 100000 in
set_option maxHeartbeats 4000000 in
theorem b_X11_settle_102 {X : h_X} (hX : h_ok X cX11_settle 8 RX11 19 559) {Q : Int32 → h_S → Prop} (hE : h_end X (some .int) (h_QI (x_Z X) Q)) {o0 : Nat} {x2 : Int32} {r3 : Option Nat} {x4 : Int32} {x5 : Int32} {y0 : Int32} (s : h_S) {bc bs : Nat} (h : w_X11_settle_102 Q o0 x2 r3 x4 x5 y0 s bc bs) : h_V X 8 102 [(0, pR (some o0)), (2, pI x2), (3, pR r3), (4, pI x4), (5, pI x5)] [pI y0] s bc bs := by
  unfold w_X11_settle_102 at h
  refine v_istore (lv' := [(6, _), (0, _), (2, _), (3, _), (4, _), (5, _)]) hX dX11_settle_102 (by decide) rfl ?_
  refine v_iload_n hX dX11_settle_104 2 rfl rfl ?_
  refine v_iconst (v := 1) hX dX11_settle_105 (by decide) ?_
  refine v_icmp_ne (tgt := 116) hX dX11_settle_106 (by decide) (fun c1 => ?_) (fun c1 => ?_)
  · have h := h_E c1 h
    refine v_iload hX dX11_settle_116 5 rfl ?_
    refine v_pick [1, 3, 4, 0] rfl ?_
    exact b_X11_settle_118 hX hE _ h
  · have h := h_T c1 h
    refine v_aload_n hX dX11_settle_109 3 rfl rfl ?_
    obtain ⟨a2, e_a2, h⟩ := h
    refine v_nn0 e_a2 ?_
    obtain ⟨k3, h⟩ := h
    refine v_getI hX dX11_settle_110 f_RX11_319 rfl k3 ?_
    refine v_goto (tgt := 118) hX dX11_settle_113 (by decide) ?_
    refine v_pick [1, 3, 4, 0] rfl ?_
    exact b_X11_settle_118 hX hE _ h
set_option maxRecDepth 100000 in
set_option maxHeartbeats 4000000 in
theorem b_X11_settle_71 {X : h_X} (hX : h_ok X cX11_settle 8 RX11 19 559) {Q : Int32 → h_S → Prop} (hE : h_end X (some .int) (h_QI (x_Z X) Q)) {o0 : Nat} {x2 : Int32} {r3 : Option Nat} {y0 : Int32} (s : h_S) {bc bs : Nat} (h : w_X11_settle_71 Q o0 x2 r3 y0 s bc bs) : h_V X 8 71 [(0, pR (some o0)), (2, pI x2), (3, pR r3)] [pI y0] s bc bs := by
  unfold w_X11_settle_71 at h
  refine v_istore (lv' := [(4, _), (0, _), (2, _), (3, _)]) hX dX11_settle_71 (by decide) rfl ?_
  refine v_iload hX dX11_settle_73 0 rfl ?_
  refine v_bipush (v := -9) hX dX11_settle_75 (by decide) ?_
  refine v_icmp_ne (tgt := 83) hX dX11_settle_77 (by decide) (fun c1 => ?_) (fun c1 => ?_)
  · have h := h_E c1 h
    refine v_aload_n hX dX11_settle_83 3 rfl rfl ?_
    obtain ⟨a2, e_a2, h⟩ := h
    refine v_nn0 e_a2 ?_
    obtain ⟨k3, h⟩ := h
    refine v_getR hX dX11_settle_84 f_RX11_322 rfl k3 ?_
    obtain ⟨a4, e_a4, h⟩ := h
    refine v_nn0 e_a4 ?_
    obtain ⟨k5, h⟩ := h
    refine v_alenK hX dX11_settle_87 (k := 1) rfl (by decide) (by decide) k5 ?_
    refine v_istore (lv' := [(5, _), (4, _), (0, _), (2, _), (3, _)]) hX dX11_settle_88 (by decide) rfl ?_
    refine v_iload_n hX dX11_settle_90 3 rfl rfl ?_
    refine v_if_ne (tgt := 101) hX dX11_settle_91 (by decide) (fun c6 => ?_) (fun c6 => ?_)
    · have h := h_E c6 h
      refine v_iconst (v := 0) hX dX11_settle_101 (by decide) ?_
      refine v_pick [2, 3, 4, 1, 0] rfl ?_
      exact b_X11_settle_102 hX hE _ h
    · have h := h_T c6 h
      refine v_aload_n hX dX11_settle_94 4 rfl rfl ?_
      obtain ⟨a7, e_a7, h⟩ := h
      refine v_nn0 e_a7 ?_
      obtain ⟨k8, h⟩ := h
      refine v_getI hX dX11_settle_95 f_RX11_319 rfl k8 ?_
      refine v_goto (tgt := 102) hX dX11_settle_98 (by decide) ?_
      refine v_pick [2, 3, 4, 1, 0] rfl ?_
      exact b_X11_settle_102 hX hE _ h
  · have h := h_T c1 h
    refine v_bipush (v := -3) hX dX11_settle_80 (by decide) ?_
    exact v_iret hX hE dX11_settle_82 h
set_option maxRecDepth 100000 in
set_option maxHeartbeats 4000000 in
theorem m_X11_settle {Z : h_Z} {o0 : Nat} {x1 : Int32} {x2 : Int32} {s : h_S} {mc ms : Nat} {Q : Int32 → h_S → Prop} (h : w_X11_settle o0 x1 x2 s mc ms Q) : h_M Z yX11_settle cX11_settle 8 (some .int) 19 559 [pR (some o0), pI x1, pI x2] s mc ms (h_QI Z Q) := by
  refine h_M.of (by decide) (Nat.le_of_ble_eq_true rfl) (fun X hZ hX hE hI => ?_)
  subst hZ
  unfold w_X11_settle at h
  show h_V X 8 0 [(0, pR (some o0)), (1, pI x1), (2, pI x2)] [] s mc ms
  refine v_iload_n hX dX11_settle_0 1 rfl rfl ?_
  refine v_aload_n hX dX11_settle_1 0 rfl rfl ?_
  obtain ⟨k1, h⟩ := h
  refine v_getR hX dX11_settle_2 f_RX11_32 rfl k1 ?_
  obtain ⟨a2, e_a2, h⟩ := h
  refine v_nn0 e_a2 ?_
  obtain ⟨k3, h⟩ := h
  refine v_callVi0 hX dX11_settle_5 c_RX11_244 cV_Jx4a65c_size_8abf5 (ci := 0) (T := TJx4a65c) (N := 3) rfl (by exact k3) [] rfl rfl (Nat.le_of_ble_eq_true rfl) (by decide) (by decide)  (m_Jx4a65c_size_8abf5 h) (fun p5 s4 h => ?_)
  refine v_callSi0 hX dX11_settle_8 c_RX11_78 cS_X11_within [pI _, pI _] rfl rfl (Nat.le_of_ble_eq_true rfl) (by decide) (by decide)  (m_X11_within h) (fun p7 s6 h => ?_)
  refine v_if_ne (tgt := 16) hX dX11_settle_11 (by decide) (fun c8 => ?_) (fun c8 => ?_)
  · have h := h_E c8 h
    refine v_iload_n hX dX11_settle_16 2 rfl rfl ?_
    refine v_iconst (v := 3) hX dX11_settle_17 (by decide) ?_
    refine v_callSi0 hX dX11_settle_18 c_RX11_78 cS_X11_within [pI _, pI _] rfl rfl (Nat.le_of_ble_eq_true rfl) (by decide) (by decide)  (m_X11_within h) (fun p10 s9 h => ?_)
    refine v_if_ne (tgt := 27) hX dX11_settle_21 (by decide) (fun c11 => ?_) (fun c11 => ?_)
    · have h := h_E c11 h
      refine v_aload_n hX dX11_settle_27 0 rfl rfl ?_
      obtain ⟨k12, h⟩ := h
      refine v_getR hX dX11_settle_28 f_RX11_32 rfl k12 ?_
      refine v_iload_n hX dX11_settle_31 1 rfl rfl ?_
      obtain ⟨a13, e_a13, h⟩ := h
      refine v_nn1 e_a13 ?_
      obtain ⟨k14, h⟩ := h
      refine v_callVr0 hX dX11_settle_32 c_RX11_312 cV_Jx4a65c_get_915e3 (ci := 0) (T := TJx4a65c) (N := 3) rfl (by exact k14) [pI _] rfl rfl (Nat.le_of_ble_eq_true rfl) (by decide) (by decide)  (m_Jx4a65c_get_915e3 h) (fun p16 s15 h => ?_)
      obtain ⟨b17, h⟩ := h
      refine v_cast (ci := 1) hX dX11_settle_35 kl_RX11_316 rfl b17 ?_
      refine v_astore_n (lv' := [(3, _), (0, _), (1, _), (2, _)]) hX dX11_settle_38 rfl (by decide) rfl ?_
      refine v_aload_n hX dX11_settle_39 0 rfl rfl ?_
      obtain ⟨a18, e_a18, h⟩ := h
      refine v_nn0 e_a18 ?_
      obtain ⟨k19, h⟩ := h
      refine v_getI hX dX11_settle_40 f_RX11_325 rfl k19 ?_
      refine v_if_eq (tgt := 51) hX dX11_settle_43 (by decide) (fun c20 => ?_) (fun c20 => ?_)
      · have h := h_T c20 h
        refine v_aload_n hX dX11_settle_51 0 rfl rfl ?_
        refine v_aload_n hX dX11_settle_52 1 rfl rfl ?_
        obtain ⟨k21, h⟩ := h
        refine v_getR hX dX11_settle_53 f_RX11_21 rfl k21 ?_
        refine v_aload_n hX dX11_settle_56 0 rfl rfl ?_
        obtain ⟨a22, e_a22, h⟩ := h
        refine v_nn0 e_a22 ?_
        obtain ⟨k23, h⟩ := h
        refine v_getI hX dX11_settle_57 f_RX11_318 rfl k23 ?_
        refine v_aload_n hX dX11_settle_60 1 rfl rfl ?_
        refine v_getI hX dX11_settle_61 f_RX11_82 rfl k21 ?_
        refine v_iconst (v := 0) hX dX11_settle_64 (by decide) ?_
        obtain ⟨a24, e_a24, h⟩ := h
        refine v_nn3 e_a24 ?_
        obtain ⟨k25, h⟩ := h
        obtain ⟨mc28, ms29, b30, b31, h⟩ := h
        refine v_callVr hX dX11_settle_65 c_RX11_194 cV_X7_shownOf (ci := 8) (T := TX7) (N := 13) rfl (by exact k25) [pI _, pI _, pI _] rfl rfl (Nat.le_of_ble_eq_true rfl) (by decide) (by decide) b30 b31 (m_X7_shownOf 6 _ _ _ _ _ _ _ _ h) (fun p27 s26 h => ?_)
        obtain ⟨a32, e_a32, h⟩ := h
        refine v_nn1 e_a32 ?_
        obtain ⟨k33, h⟩ := h
        refine v_callVi0 hX dX11_settle_68 c_RX11_329 cV_X0_placeIn (ci := 1) (T := TX0) (N := 4) rfl (by exact k33) [pR _] rfl rfl (Nat.le_of_ble_eq_true rfl) (by decide) (by decide)  (m_X0_placeIn h) (fun p35 s34 h => ?_)
        refine v_pick [1, 3, 0] rfl ?_
        exact b_X11_settle_71 hX hE _ h
      · have h := h_E c20 h
        refine v_bipush (v := -9) hX dX11_settle_46 (by decide) ?_
        refine v_goto (tgt := 71) hX dX11_settle_48 (by decide) ?_
        refine v_pick [1, 3, 0] rfl ?_
        exact b_X11_settle_71 hX hE _ h
    · have h := h_T c11 h
      refine v_bipush (v := -2) hX dX11_settle_24 (by decide) ?_
      exact v_iret hX hE dX11_settle_26 h
  · have h := h_T c8 h
    refine v_iconst (v := -1) hX dX11_settle_14 (by decide) ?_
    exact v_iret hX hE dX11_settle_15 h
set_option maxRecDepth 100000 in
set_option maxHeartbeats 4000000 in
theorem b_X11_linkAt_29 {X : h_X} (hX : h_ok X cX11_linkAt 2 RX11 3 64) {Q : Option Nat → h_S → Prop} (hE : h_end X (some (.object "SeenWords$Link")) (h_QR (x_Z X) Q)) {t0 : Option Nat} (s : h_S) (h : w_X11_linkAt_29 Q t0 s) : h_V X 2 29 [] [pR t0] s 0 0 := by
  unfold w_X11_linkAt_29 at h
  exact v_aret hX hE (Or.inl ⟨_, rfl⟩) dX11_linkAt_29 h
set_option maxRecDepth 100000 in
set_option maxHeartbeats 4000000 in
theorem m_X11_linkAt {Z : h_Z} {o0 : Nat} {x1 : Int32} {s : h_S} {Q : Option Nat → h_S → Prop} (h : w_X11_linkAt o0 x1 s Q) : h_M Z yX11_linkAt cX11_linkAt 2 (some (.object "SeenWords$Link")) 3 64 [pR (some o0), pI x1] s 0 0 (h_QR Z Q) := by
  refine h_M.of (by decide) (Nat.le_of_ble_eq_true rfl) (fun X hZ hX hE hI => ?_)
  subst hZ
  unfold w_X11_linkAt at h
  show h_V X 2 0 [(0, pR (some o0)), (1, pI x1)] [] s 0 0
  refine v_iload_n hX dX11_linkAt_0 1 rfl rfl ?_
  refine v_aload_n hX dX11_linkAt_1 0 rfl rfl ?_
  obtain ⟨k1, h⟩ := h
  refine v_getR hX dX11_linkAt_2 f_RX11_35 rfl k1 ?_
  obtain ⟨a2, e_a2, h⟩ := h
  refine v_nn0 e_a2 ?_
  obtain ⟨k3, h⟩ := h
  refine v_callVi0 hX dX11_linkAt_5 c_RX11_244 cV_Jx4a65c_size_8abf5 (ci := 0) (T := TJx4a65c) (N := 3) rfl (by exact k3) [] rfl rfl (Nat.le_of_ble_eq_true rfl) (by decide) (by decide)  (m_Jx4a65c_size_8abf5 h) (fun p5 s4 h => ?_)
  refine v_callSi0 hX dX11_linkAt_8 c_RX11_78 cS_X11_within [pI _, pI _] rfl rfl (Nat.le_of_ble_eq_true rfl) (by decide) (by decide)  (m_X11_within h) (fun p7 s6 h => ?_)
  refine v_if_eq (tgt := 28) hX dX11_linkAt_11 (by decide) (fun c8 => ?_) (fun c8 => ?_)
  · have h := h_T c8 h
    refine v_null hX dX11_linkAt_28 ?_
    refine v_pick [] rfl ?_
    exact b_X11_linkAt_29 hX hE _ h
  · have h := h_E c8 h
    refine v_aload_n hX dX11_linkAt_14 0 rfl rfl ?_
    obtain ⟨k9, h⟩ := h
    refine v_getR hX dX11_linkAt_15 f_RX11_35 rfl k9 ?_
    refine v_iload_n hX dX11_linkAt_18 1 rfl rfl ?_
    obtain ⟨a10, e_a10, h⟩ := h
    refine v_nn1 e_a10 ?_
    obtain ⟨k11, h⟩ := h
    refine v_callVr0 hX dX11_linkAt_19 c_RX11_312 cV_Jx4a65c_get_915e3 (ci := 0) (T := TJx4a65c) (N := 3) rfl (by exact k11) [pI _] rfl rfl (Nat.le_of_ble_eq_true rfl) (by decide) (by decide)  (m_Jx4a65c_get_915e3 h) (fun p13 s12 h => ?_)
    obtain ⟨b14, h⟩ := h
    refine v_cast (ci := 2) hX dX11_linkAt_22 kl_RX11_345 rfl b14 ?_
    refine v_goto (tgt := 29) hX dX11_linkAt_25 (by decide) ?_
    refine v_pick [] rfl ?_
    exact b_X11_linkAt_29 hX hE _ h
set_option maxRecDepth 100000 in
set_option maxHeartbeats 4000000 in
theorem m_X11_keepLink {Z : h_Z} {o0 : Nat} {r1 : Option Nat} {s : h_S} {mc ms : Nat} {Q : Int32 → h_S → Prop} (h : w_X11_keepLink Z.2.2.2.2 o0 r1 s mc ms Q) : h_M Z yX11_keepLink cX11_keepLink 2 (some .int) 7 191 [pR (some o0), pR r1] s mc ms (h_QI Z Q) := by
  refine h_M.of (by decide) (Nat.le_of_ble_eq_true rfl) (fun X hZ hX hE hI => ?_)
  subst hZ
  unfold w_X11_keepLink at h
  show h_V X 2 0 [(0, pR (some o0)), (1, pR r1)] [] s mc ms
  refine v_aload_n hX dX11_keepLink_0 0 rfl rfl ?_
  obtain ⟨k1, h⟩ := h
  refine v_getR hX dX11_keepLink_1 f_RX11_35 rfl k1 ?_
  obtain ⟨a2, e_a2, h⟩ := h
  refine v_nn0 e_a2 ?_
  obtain ⟨k3, h⟩ := h
  refine v_callVi0 hX dX11_keepLink_4 c_RX11_244 cV_Jx4a65c_size_8abf5 (ci := 0) (T := TJx4a65c) (N := 3) rfl (by exact k3) [] rfl rfl (Nat.le_of_ble_eq_true rfl) (by decide) (by decide)  (m_Jx4a65c_size_8abf5 h) (fun p5 s4 h => ?_)
  refine v_bipush (v := 24) hX dX11_keepLink_7 (by decide) ?_
  refine v_icmp_lt (tgt := 15) hX dX11_keepLink_9 (by decide) (fun c6 => ?_) (fun c6 => ?_)
  · have h := h_T c6 h
    refine v_aload_n hX dX11_keepLink_15 0 rfl rfl ?_
    obtain ⟨k7, h⟩ := h
    refine v_getR hX dX11_keepLink_16 f_RX11_35 rfl k7 ?_
    refine v_aload_n hX dX11_keepLink_19 1 rfl rfl ?_
    obtain ⟨a8, e_a8, h⟩ := h
    refine v_nn1 e_a8 ?_
    obtain ⟨k9, h⟩ := h
    obtain ⟨mc12, ms13, b14, b15, h⟩ := h
    refine v_callVi hX dX11_keepLink_20 c_RX11_257 cV_Jx4a65c_add_9ea2d (ci := 0) (T := TJx4a65c) (N := 3) rfl (by exact k9) [pR _] rfl rfl (Nat.le_of_ble_eq_true rfl) (by decide) (by decide) b14 b15 (m_Jx4a65c_add_9ea2d h) (fun p11 s10 h => ?_)
    refine v_pop hX dX11_keepLink_23 rfl ?_
    refine v_aload_n hX dX11_keepLink_24 0 rfl rfl ?_
    refine v_aload_n hX dX11_keepLink_25 0 rfl rfl ?_
    obtain ⟨k16, h⟩ := h
    refine v_getR hX dX11_keepLink_26 f_RX11_35 rfl k16 ?_
    obtain ⟨a17, e_a17, h⟩ := h
    refine v_nn0 e_a17 ?_
    obtain ⟨k18, h⟩ := h
    refine v_callVi0 hX dX11_keepLink_29 c_RX11_244 cV_Jx4a65c_size_8abf5 (ci := 0) (T := TJx4a65c) (N := 3) rfl (by exact k18) [] rfl rfl (Nat.le_of_ble_eq_true rfl) (by decide) (by decide)  (m_Jx4a65c_size_8abf5 h) (fun p20 s19 h => ?_)
    refine v_iconst (v := 1) hX dX11_keepLink_32 (by decide) ?_
    refine v_isub hX dX11_keepLink_33 ?_
    obtain ⟨k21, h⟩ := h
    refine v_callVi0 hX dX11_keepLink_34 c_RX11_74 cV_X11_acted (ci := 12) (T := TX11) (N := 19) rfl (by exact k21) [pI _] rfl rfl (Nat.le_of_ble_eq_true rfl) (by decide) (by decide)  (m_X11_acted h) (fun p23 s22 h => ?_)
    exact v_iret hX hE dX11_keepLink_37 h
  · have h := h_E c6 h
    refine v_bipush (v := -4) hX dX11_keepLink_12 (by decide) ?_
    exact v_iret hX hE dX11_keepLink_14 h
set_option maxRecDepth 100000 in
set_option maxHeartbeats 4000000 in
theorem m_X11_reply {Z : h_Z} {o0 : Nat} {x1 : Int32} {x2 : Int32} {x3 : Int32} {s : h_S} {mc ms : Nat} {Q : Int32 → h_S → Prop} (h : w_X11_reply Z.2.2.2.2 o0 x1 x2 x3 s mc ms Q) : h_M Z yX11_reply cX11_reply 5 (some .int) 8 212 [pR (some o0), pI x1, pI x2, pI x3] s mc ms (h_QI Z Q) := by
  refine h_M.of (by decide) (Nat.le_of_ble_eq_true rfl) (fun X hZ hX hE hI => ?_)
  subst hZ
  unfold w_X11_reply at h
  show h_V X 5 0 [(0, pR (some o0)), (1, pI x1), (2, pI x2), (3, pI x3)] [] s mc ms
  refine v_aload_n hX dX11_reply_0 0 rfl rfl ?_
  refine v_iload_n hX dX11_reply_1 3 rfl rfl ?_
  obtain ⟨k1, h⟩ := h
  refine v_callVr0 hX dX11_reply_2 c_RX11_340 cV_X11_linkAt (ci := 12) (T := TX11) (N := 19) rfl (by exact k1) [pI _] rfl rfl (Nat.le_of_ble_eq_true rfl) (by decide) (by decide)  (m_X11_linkAt h) (fun p3 s2 h => ?_)
  refine v_astore (lv' := [(4, _), (0, _), (1, _), (2, _), (3, _)]) hX dX11_reply_5 (by decide) rfl ?_
  refine v_aload hX dX11_reply_7 0 rfl ?_
  refine v_ifnonnull (tgt := 14) hX dX11_reply_9 (by decide) (fun c4 => ?_) (fun c4 => ?_)
  · have h := h_E c4 h
    refine v_aload hX dX11_reply_14 0 rfl ?_
    refine v_iconst (v := 1) hX dX11_reply_16 (by decide) ?_
    obtain ⟨a5, e_a5, h⟩ := h
    refine v_nn1 e_a5 ?_
    obtain ⟨k6, h⟩ := h
    refine v_callVi0 hX dX11_reply_17 c_RX11_344 cV_X1_isA (ci := 2) (T := TX1) (N := 4) rfl (by exact k6) [pI _] rfl rfl (Nat.le_of_ble_eq_true rfl) (by decide) (by decide)  (m_X1_isA h) (fun p8 s7 h => ?_)
    refine v_if_ne (tgt := 29) hX dX11_reply_20 (by decide) (fun c9 => ?_) (fun c9 => ?_)
    · have h := h_E c9 h
      refine v_aload_n hX dX11_reply_29 1 rfl rfl ?_
      obtain ⟨b12, b13, h⟩ := h
      refine v_new hX dX11_reply_30 n_RX11_345 b12 b13 (fun q10 k11 => ?_)
      have h := h q10 k11
      refine v_dup hX dX11_reply_33 rfl ?_
      refine v_iconst (v := 2) hX dX11_reply_34 (by decide) ?_
      refine v_iload_n hX dX11_reply_35 2 rfl rfl ?_
      refine v_iload_n hX dX11_reply_36 3 rfl rfl ?_
      refine v_aload hX dX11_reply_37 0 rfl ?_
      obtain ⟨a17, e_a17, h⟩ := h
      refine v_nn0 e_a17 ?_
      obtain ⟨k18, h⟩ := h
      refine v_getR hX dX11_reply_39 f_RX11_352 rfl k18 ?_
      refine v_iconst (v := 0) hX dX11_reply_42 (by decide) ?_
      obtain ⟨a19, e_a19, h⟩ := h
      refine v_nn1 e_a19 ?_
      obtain ⟨k20, h⟩ := h
      obtain ⟨i21, h⟩ := h
      refine v_iald hX dX11_reply_43 k20 i21 ?_
      refine v_aload hX dX11_reply_44 0 rfl ?_
      obtain ⟨a22, e_a22, h⟩ := h
      refine v_nn0 e_a22 ?_
      obtain ⟨k23, h⟩ := h
      refine v_getR hX dX11_reply_46 f_RX11_355 rfl k23 ?_
      refine v_iconst (v := 0) hX dX11_reply_49 (by decide) ?_
      obtain ⟨a24, e_a24, h⟩ := h
      refine v_nn1 e_a24 ?_
      obtain ⟨k25, h⟩ := h
      obtain ⟨i26, h⟩ := h
      refine v_iald hX dX11_reply_50 k25 i26 ?_
      refine v_iload_n hX dX11_reply_51 4 rfl rfl ?_
      obtain ⟨mc29, ms30, b31, b32, h⟩ := h
      refine v_callIv hX dX11_reply_52 c_RX11_358 cI_X1_init [pI _, pI _, pI _, pI _, pI _, pI _] rfl rfl (Nat.le_of_ble_eq_true rfl) (by decide) (by decide) b31 b32 (m_X1_init h) (fun s27 h => ?_)
      obtain ⟨k33, h⟩ := h
      obtain ⟨mc36, ms37, b38, b39, h⟩ := h
      refine v_callVi hX dX11_reply_55 c_RX11_361 cV_X11_keepLink (ci := 12) (T := TX11) (N := 19) rfl (by exact k33) [pR _] rfl rfl (Nat.le_of_ble_eq_true rfl) (by decide) (by decide) b38 b39 (m_X11_keepLink h) (fun p35 s34 h => ?_)
      exact v_iret hX hE dX11_reply_58 h
    · have h := h_T c9 h
      refine v_aload_n hX dX11_reply_23 1 rfl rfl ?_
      refine v_iconst (v := 2) hX dX11_reply_24 (by decide) ?_
      obtain ⟨k40, h⟩ := h
      refine v_callVi0 hX dX11_reply_25 c_RX11_349 cV_X11_failed (ci := 12) (T := TX11) (N := 19) rfl (by exact k40) [pI _] rfl rfl (Nat.le_of_ble_eq_true rfl) (by decide) (by decide)  (m_X11_failed h) (fun p42 s41 h => ?_)
      exact v_iret hX hE dX11_reply_28 h
  · have h := h_T c4 h
    refine v_iconst (v := -1) hX dX11_reply_12 (by decide) ?_
    exact v_iret hX hE dX11_reply_13 h
set_option maxRecDepth 100000 in
set_option maxHeartbeats 4000000 in
theorem b_X11_linkOfWords_44 {X : h_X} (hX : h_ok X cX11_linkOfWords 6 RX11 8 212) {Q : Int32 → h_S → Prop} (hE : h_end X (some .int) (h_QI (x_Z X) Q)) {o0 : Nat} {x1 : Int32} {x2 : Int32} {x3 : Int32} {x4 : Int32} {x5 : Int32} (s : h_S) {bc bs : Nat} (h : w_X11_linkOfWords_44 (x_G X) Q o0 x1 x2 x3 x4 x5 s bc bs) : h_V X 6 44 [(0, pR (some o0)), (1, pI x1), (2, pI x2), (3, pI x3), (4, pI x4), (5, pI x5)] [] s bc bs := by
  unfold w_X11_linkOfWords_44 at h
  refine v_aload_n hX dX11_linkOfWords_44 0 rfl rfl ?_
  obtain ⟨b3, b4, h⟩ := h
  refine v_new hX dX11_linkOfWords_45 n_RX11_345 b3 b4 (fun q1 k2 => ?_)
  have h := h q1 k2
  refine v_dup hX dX11_linkOfWords_48 rfl ?_
  refine v_iload_n hX dX11_linkOfWords_49 1 rfl rfl ?_
  refine v_iload_n hX dX11_linkOfWords_50 2 rfl rfl ?_
  refine v_iload_n hX dX11_linkOfWords_51 3 rfl rfl ?_
  refine v_iload hX dX11_linkOfWords_52 4 rfl ?_
  refine v_iload hX dX11_linkOfWords_54 5 rfl ?_
  refine v_bipush (v := -9) hX dX11_linkOfWords_56 (by decide) ?_
  obtain ⟨mc10, ms11, b12, b13, h⟩ := h
  refine v_callIv hX dX11_linkOfWords_58 c_RX11_358 cI_X1_init [pI _, pI _, pI _, pI _, pI _, pI _] rfl rfl (Nat.le_of_ble_eq_true rfl) (by decide) (by decide) b12 b13 (m_X1_init h) (fun s8 h => ?_)
  obtain ⟨k14, h⟩ := h
  obtain ⟨mc17, ms18, b19, b20, h⟩ := h
  refine v_callVi hX dX11_linkOfWords_61 c_RX11_361 cV_X11_keepLink (ci := 12) (T := TX11) (N := 19) rfl (by exact k14) [pR _] rfl rfl (Nat.le_of_ble_eq_true rfl) (by decide) (by decide) b19 b20 (m_X11_keepLink h) (fun p16 s15 h => ?_)
  exact v_iret hX hE dX11_linkOfWords_64 h
set_option maxRecDepth 100000 in
set_option maxHeartbeats 4000000 in
theorem m_X11_linkOfWords {Z : h_Z} {o0 : Nat} {x1 : Int32} {x2 : Int32} {x3 : Int32} {x4 : Int32} {x5 : Int32} {s : h_S} {mc ms : Nat} {Q : Int32 → h_S → Prop} (h : w_X11_linkOfWords Z.2.2.2.2 o0 x1 x2 x3 x4 x5 s mc ms Q) : h_M Z yX11_linkOfWords cX11_linkOfWords 6 (some .int) 8 212 [pR (some o0), pI x1, pI x2, pI x3, pI x4, pI x5] s mc ms (h_QI Z Q) := by
  refine h_M.of (by decide) (Nat.le_of_ble_eq_true rfl) (fun X hZ hX hE hI => ?_)
  subst hZ
  unfold w_X11_linkOfWords at h
  show h_V X 6 0 [(0, pR (some o0)), (1, pI x1), (2, pI x2), (3, pI x3), (4, pI x4), (5, pI x5)] [] s mc ms
  refine v_aload_n hX dX11_linkOfWords_0 0 rfl rfl ?_
  obtain ⟨k1, h⟩ := h
  refine v_getR hX dX11_linkOfWords_1 f_RX11_21 rfl k1 ?_
  refine v_iload hX dX11_linkOfWords_4 4 rfl ?_
  refine v_iload hX dX11_linkOfWords_6 5 rfl ?_
  obtain ⟨a2, e_a2, h⟩ := h
  refine v_nn2 e_a2 ?_
  obtain ⟨k3, h⟩ := h
  refine v_callVi0 hX dX11_linkOfWords_8 c_RX11_133 cV_X7_areWords (ci := 8) (T := TX7) (N := 13) rfl (by exact k3) [pI _, pI _] rfl rfl (Nat.le_of_ble_eq_true rfl) (by decide) (by decide)  (m_X7_areWords h) (fun p5 s4 h => ?_)
  refine v_if_ne (tgt := 16) hX dX11_linkOfWords_11 (by decide) (fun c6 => ?_) (fun c6 => ?_)
  · have h := h_E c6 h
    refine v_iload_n hX dX11_linkOfWords_16 1 rfl rfl ?_
    refine v_iconst (v := 4) hX dX11_linkOfWords_17 (by decide) ?_
    refine v_icmp_ne (tgt := 44) hX dX11_linkOfWords_18 (by decide) (fun c7 => ?_) (fun c7 => ?_)
    · have h := h_E c7 h
      refine v_pick [0, 1, 2, 3, 4, 5] rfl ?_
      exact b_X11_linkOfWords_44 hX hE _ h
    · have h := h_T c7 h
      refine v_iload_n hX dX11_linkOfWords_21 3 rfl rfl ?_
      refine v_iload hX dX11_linkOfWords_22 5 rfl ?_
      refine v_icmp_ne (tgt := 44) hX dX11_linkOfWords_24 (by decide) (fun c8 => ?_) (fun c8 => ?_)
      · have h := h_E c8 h
        refine v_pick [0, 1, 2, 3, 4, 5] rfl ?_
        exact b_X11_linkOfWords_44 hX hE _ h
      · have h := h_T c8 h
        refine v_aload_n hX dX11_linkOfWords_27 0 rfl rfl ?_
        obtain ⟨k9, h⟩ := h
        refine v_getR hX dX11_linkOfWords_28 f_RX11_21 rfl k9 ?_
        refine v_iload_n hX dX11_linkOfWords_31 2 rfl rfl ?_
        refine v_iload hX dX11_linkOfWords_32 4 rfl ?_
        refine v_iload_n hX dX11_linkOfWords_34 3 rfl rfl ?_
        obtain ⟨a10, e_a10, h⟩ := h
        refine v_nn3 e_a10 ?_
        obtain ⟨k11, h⟩ := h
        refine v_callVi0 hX dX11_linkOfWords_35 c_RX11_365 cV_X7_codesAlike (ci := 8) (T := TX7) (N := 13) rfl (by exact k11) [pI _, pI _, pI _] rfl rfl (Nat.le_of_ble_eq_true rfl) (by decide) (by decide)  (m_X7_codesAlike h) (fun p13 s12 h => ?_)
        refine v_if_eq (tgt := 44) hX dX11_linkOfWords_38 (by decide) (fun c14 => ?_) (fun c14 => ?_)
        · have h := h_T c14 h
          refine v_pick [0, 1, 2, 3, 4, 5] rfl ?_
          exact b_X11_linkOfWords_44 hX hE _ h
        · have h := h_E c14 h
          refine v_bipush (v := -3) hX dX11_linkOfWords_41 (by decide) ?_
          exact v_iret hX hE dX11_linkOfWords_43 h
  · have h := h_T c6 h
    refine v_iconst (v := -1) hX dX11_linkOfWords_14 (by decide) ?_
    exact v_iret hX hE dX11_linkOfWords_15 h
set_option maxRecDepth 100000 in
set_option maxHeartbeats 4000000 in
theorem b_X11_link_29 {X : h_X} (hX : h_ok X cX11_link 6 RX11 9 237) {Q : Int32 → h_S → Prop} (hE : h_end X (some .int) (h_QI (x_Z X) Q)) (s : h_S) {bc bs : Nat} (h : w_X11_link_29 (x_G X) Q s bc bs) : h_V X 6 29 [] [] s bc bs := by
  unfold w_X11_link_29 at h
  refine v_bipush (v := -2) hX dX11_link_29 (by decide) ?_
  exact v_iret hX hE dX11_link_31 h
set_option maxRecDepth 100000 in
set_option maxHeartbeats 4000000 in
theorem b_X11_link_73 {X : h_X} (hX : h_ok X cX11_link 6 RX11 9 237) {Q : Int32 → h_S → Prop} (hE : h_end X (some .int) (h_QI (x_Z X) Q)) {y0 : Int32} (s : h_S) {bc bs : Nat} (h : w_X11_link_73 (x_G X) Q y0 s bc bs) : h_V X 6 73 [] [pI y0] s bc bs := by
  unfold w_X11_link_73 at h
  exact v_iret hX hE dX11_link_73 h
