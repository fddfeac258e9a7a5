set_option maxRecDepth 100000 in
set_option maxHeartbeats 4000000 in
theorem b_X7_homesOf_5 {X : h_X} (hX : h_ok X cX7_homesOf 6 RX7 4 85) {Q : Int32 → h_S → Prop} (hE : h_end X (some .int) (h_QI (x_Z X) Q)) : ∀ (n : Nat) (o0 : Nat) (x1 : Int32) (x2 : Int32) (x3 : Int32) (x4 : Int32) (s : h_S), w_X7_homesOf_5 Q n o0 x1 x2 x3 x4 s → h_V X 6 5 [(0, pR (some o0)), (1, pI x1), (2, pI x2), (3, pI x3), (4, pI x4)] [] s 0 0 := by
  intro n
  induction n with
  | zero => intro _ _ _ _ _ s h; exact h.elim
  | succ n hK5 =>
    intro o0 x1 x2 x3 x4 s h
    have h : w_X7_homesOf_5b Q (w_X7_homesOf_5 Q n) o0 x1 x2 x3 x4 s := h
    unfold w_X7_homesOf_5b at h
    refine v_iload hX dX7_homesOf_5 4 rfl ?_
    refine v_iload_n hX dX7_homesOf_7 2 rfl rfl ?_
    refine v_icmp_ge (tgt := 42) hX dX7_homesOf_8 (by decide) (fun c1 => ?_) (fun c1 => ?_)
    · have h := h_T c1 h
      refine v_iload_n hX dX7_homesOf_42 3 rfl rfl ?_
      exact v_iret hX hE dX7_homesOf_43 h
    · have h := h_E c1 h
      refine v_aload_n hX dX7_homesOf_11 0 rfl rfl ?_
      refine v_iload_n hX dX7_homesOf_12 1 rfl rfl ?_
      refine v_iload hX dX7_homesOf_13 4 rfl ?_
      refine v_iadd hX dX7_homesOf_15 ?_
      obtain ⟨k2, h⟩ := h
      refine v_callVr hX dX7_homesOf_16 c_RX7_93 cV_X7_wordAt (ci := 8) (T := TX7) (N := 13) rfl (by exact k2) [pI _] rfl rfl (Nat.le_of_ble_eq_true rfl) (by decide) (by decide) (Nat.zero_le _) (Nat.zero_le _) (m_X7_wordAt h) (fun p4 s3 h => ?_)
      refine v_astore (lv' := [(5, _), (0, _), (1, _), (2, _), (3, _), (4, _)]) hX dX7_homesOf_19 (by decide) rfl ?_
      refine v_aload hX dX7_homesOf_21 0 rfl ?_
      refine v_ifnull (tgt := 36) hX dX7_homesOf_23 (by decide) (fun c5 => ?_) (fun c5 => ?_)
      · have h := h_T c5 h
        refine v_pick [1, 2, 3, 4, 5] rfl ?_
        exact b_X7_homesOf_36 hX hE hK5 _ h
      · have h := h_E c5 h
        refine v_iload_n hX dX7_homesOf_26 4 rfl rfl ?_
        refine v_iconst (v := 1) hX dX7_homesOf_27 (by decide) ?_
        refine v_aload hX dX7_homesOf_28 0 rfl ?_
        obtain ⟨a6, e_a6, h⟩ := h
        refine v_nn0 e_a6 ?_
        obtain ⟨k7, h⟩ := h
        refine v_getI hX dX7_homesOf_30 f_RX7_103 rfl k7 ?_
        refine v_ishl hX dX7_homesOf_33 ?_
        refine v_ior hX dX7_homesOf_34 ?_
        refine v_istore_n (lv' := [(3, _), (5, _), (0, _), (1, _), (2, _), (4, _)]) hX dX7_homesOf_35 rfl (by decide) rfl ?_
        refine v_pick [2, 3, 4, 0, 5] rfl ?_
        exact b_X7_homesOf_36 hX hE hK5 _ h
set_option maxRecDepth 100000 in
set_option maxHeartbeats 4000000 in
theorem m_X7_homesOf {Z : h_Z} {o0 : Nat} {x1 : Int32} {x2 : Int32} {s : h_S} {Q : Int32 → h_S → Prop} (h : w_X7_homesOf o0 x1 x2 s Q) : h_M Z yX7_homesOf cX7_homesOf 6 (some .int) 4 85 [pR (some o0), pI x1, pI x2] s 0 0 (h_QI Z Q) := by
  refine h_M.of (by decide) (Nat.le_of_ble_eq_true rfl) (fun X hZ hX hE hI => ?_)
  subst hZ
  unfold w_X7_homesOf at h
  show h_V X 6 0 [(0, pR (some o0)), (1, pI x1), (2, pI x2)] [] s 0 0
  refine v_iconst (v := 0) hX dX7_homesOf_0 (by decide) ?_
  refine v_istore_n (lv' := [(3, _), (0, _), (1, _), (2, _)]) hX dX7_homesOf_1 rfl (by decide) rfl ?_
  refine v_iconst (v := 0) hX dX7_homesOf_2 (by decide) ?_
  refine v_istore (lv' := [(4, _), (3, _), (0, _), (1, _), (2, _)]) hX dX7_homesOf_3 (by decide) rfl ?_
  refine v_pick [2, 3, 4, 1, 0] rfl ?_
  obtain ⟨n, h⟩ := h
  exact b_X7_homesOf_5 hX hE n _ _ _ _ _ _ h
set_option maxRecDepth 100000 in
set_option maxHeartbeats 4000000 in
theorem b_X7_codesAlike_3 {X : h_X} (hX : h_ok X cX7_codesAlike 5 RX7 5 107) {Q : Int32 → h_S → Prop} (hE : h_end X (some .boolean) (h_QI (x_Z X) Q)) : ∀ (n : Nat) (o0 : Nat) (x1 : Int32) (x2 : Int32) (x3 : Int32) (x4 : Int32) (s : h_S), w_X7_codesAlike_3 Q n o0 x1 x2 x3 x4 s → h_V X 5 3 [(0, pR (some o0)), (1, pI x1), (2, pI x2), (3, pI x3), (4, pI x4)] [] s 0 0 := by
  intro n
  induction n with
  | zero => intro _ _ _ _ _ s h; exact h.elim
  | succ n hK3 =>
    intro o0 x1 x2 x3 x4 s h
    have h : w_X7_codesAlike_3b Q (w_X7_codesAlike_3 Q n) o0 x1 x2 x3 x4 s := h
    unfold w_X7_codesAlike_3b at h
    refine v_iload hX dX7_codesAlike_3 4 rfl ?_
    refine v_iload_n hX dX7_codesAlike_5 3 rfl rfl ?_
    refine v_icmp_ge (tgt := 36) hX dX7_codesAlike_6 (by decide) (fun c1 => ?_) (fun c1 => ?_)
    · have h := h_T c1 h
      refine v_iconst (v := 1) hX dX7_codesAlike_36 (by decide) ?_
      exact v_zret hX hE dX7_codesAlike_37 (Or.inr rfl) h
    · have h := h_E c1 h
      refine v_aload_n hX dX7_codesAlike_9 0 rfl rfl ?_
      refine v_iload_n hX dX7_codesAlike_10 1 rfl rfl ?_
      refine v_iload hX dX7_codesAlike_11 4 rfl ?_
      refine v_iadd hX dX7_codesAlike_13 ?_
      obtain ⟨k2, h⟩ := h
      refine v_callVi hX dX7_codesAlike_14 c_RX7_106 cV_X7_codeOf (ci := 8) (T := TX7) (N := 13) rfl (by exact k2) [pI _] rfl rfl (Nat.le_of_ble_eq_true rfl) (by decide) (by decide) (Nat.zero_le _) (Nat.zero_le _) (m_X7_codeOf h) (fun p4 s3 h => ?_)
      refine v_aload_n hX dX7_codesAlike_17 0 rfl rfl ?_
      refine v_iload_n hX dX7_codesAlike_18 2 rfl rfl ?_
      refine v_iload hX dX7_codesAlike_19 4 rfl ?_
      refine v_iadd hX dX7_codesAlike_21 ?_
      obtain ⟨k5, h⟩ := h
      refine v_callVi hX dX7_codesAlike_22 c_RX7_106 cV_X7_codeOf (ci := 8) (T := TX7) (N := 13) rfl (by exact k5) [pI _] rfl rfl (Nat.le_of_ble_eq_true rfl) (by decide) (by decide) (Nat.zero_le _) (Nat.zero_le _) (m_X7_codeOf h) (fun p7 s6 h => ?_)
      refine v_icmp_eq (tgt := 30) hX dX7_codesAlike_25 (by decide) (fun c8 => ?_) (fun c8 => ?_)
      · have h := h_T c8 h
        refine v_iinc (c := 1) (lv' := [(4, _), (0, _), (1, _), (2, _), (3, _)]) hX dX7_codesAlike_30 4 rfl (by decide) (by decide) rfl ?_
        refine v_goto (tgt := 3) hX dX7_codesAlike_33 (by decide) ?_
        refine v_pick [1, 2, 3, 4, 0] rfl ?_
        exact hK3 _ _ _ _ _ _ h
      · have h := h_E c8 h
        refine v_iconst (v := 0) hX dX7_codesAlike_28 (by decide) ?_
        exact v_zret hX hE dX7_codesAlike_29 (Or.inl rfl) h
set_option maxRecDepth 100000 in
set_option maxHeartbeats 4000000 in
theorem m_X7_codesAlike {Z : h_Z} {o0 : Nat} {x1 : Int32} {x2 : Int32} {x3 : Int32} {s : h_S} {Q : Int32 → h_S → Prop} (h : w_X7_codesAlike o0 x1 x2 x3 s Q) : h_M Z yX7_codesAlike cX7_codesAlike 5 (some .boolean) 5 107 [pR (some o0), pI x1, pI x2, pI x3] s 0 0 (h_QI Z Q) := by
  refine h_M.of (by decide) (Nat.le_of_ble_eq_true rfl) (fun X hZ hX hE hI => ?_)
  subst hZ
  unfold w_X7_codesAlike at h
  show h_V X 5 0 [(0, pR (some o0)), (1, pI x1), (2, pI x2), (3, pI x3)] [] s 0 0
  refine v_iconst (v := 0) hX dX7_codesAlike_0 (by decide) ?_
  refine v_istore (lv' := [(4, _), (0, _), (1, _), (2, _), (3, _)]) hX dX7_codesAlike_1 (by decide) rfl ?_
  refine v_pick [1, 2, 3, 4, 0] rfl ?_
  obtain ⟨n, h⟩ := h
  exact b_X7_codesAlike_3 hX hE n _ _ _ _ _ _ h
set_option maxRecDepth 100000 in
set_option maxHeartbeats 4000000 in
theorem b_X7_piecesAsOf_43 {X : h_X} (hX : h_ok X cX7_piecesAsOf 4 RX7 1 21) {Q : Option Nat → h_S → Prop} (hE : h_end X (some (.array (.object "SeenWords$Piece"))) (h_QR (x_Z X) Q)) {o0 : Nat} (s : h_S) (h : w_X7_piecesAsOf_43 Q o0 s) : h_V X 4 43 [(0, pR (some o0))] [] s 0 0 := by
  unfold w_X7_piecesAsOf_43 at h
  refine v_aload_n hX dX7_piecesAsOf_43 0 rfl rfl ?_
  obtain ⟨k1, h⟩ := h
  refine v_getR hX dX7_piecesAsOf_44 f_RX7_23 rfl k1 ?_
  exact v_aret hX hE (Or.inr ⟨_, rfl⟩) dX7_piecesAsOf_47 h
set_option maxRecDepth 100000 in
set_option maxHeartbeats 4000000 in
theorem b_X7_piecesAsOf_18 {X : h_X} (hX : h_ok X cX7_piecesAsOf 4 RX7 1 21) {Q : Option Nat → h_S → Prop} (hE : h_end X (some (.array (.object "SeenWords$Piece"))) (h_QR (x_Z X) Q)) : ∀ (n : Nat) (o0 : Nat) (x2 : Int32) (r3 : Option Nat) (s : h_S), w_X7_piecesAsOf_18 Q n o0 x2 r3 s → h_V X 4 18 [(0, pR (some o0)), (2, pI x2), (3, pR r3)] [] s 0 0 := by
  intro n
  induction n with
  | zero => intro _ _ _ s h; exact h.elim
  | succ n hK18 =>
    intro o0 x2 r3 s h
    have h : w_X7_piecesAsOf_18b Q (w_X7_piecesAsOf_18 Q n) o0 x2 r3 s := h
    unfold w_X7_piecesAsOf_18b at h
    refine v_aload_n hX dX7_piecesAsOf_18 2 rfl rfl ?_
    refine v_ifnull (tgt := 43) hX dX7_piecesAsOf_19 (by decide) (fun c1 => ?_) (fun c1 => ?_)
    · have h := h_T c1 h
      refine v_pick [0] rfl ?_
      exact b_X7_piecesAsOf_43 hX hE _ h
    · have h := h_E c1 h
      refine v_aload_n hX dX7_piecesAsOf_22 2 rfl rfl ?_
      obtain ⟨a2, e_a2, h⟩ := h
      refine v_nn0 e_a2 ?_
      obtain ⟨k3, h⟩ := h
      refine v_getI hX dX7_piecesAsOf_23 f_RX7_109 rfl k3 ?_
      refine v_iload_n hX dX7_piecesAsOf_26 1 rfl rfl ?_
      refine v_icmp_gt (tgt := 35) hX dX7_piecesAsOf_27 (by decide) (fun c4 => ?_) (fun c4 => ?_)
      · have h := h_T c4 h
        refine v_aload_n hX dX7_piecesAsOf_35 2 rfl rfl ?_
        obtain ⟨a5, e_a5, h⟩ := h
        refine v_nn0 e_a5 ?_
        obtain ⟨k6, h⟩ := h
        refine v_getR hX dX7_piecesAsOf_36 f_RX7_115 rfl k6 ?_
        refine v_astore_n (lv' := [(3, _), (0, _), (2, _)]) hX dX7_piecesAsOf_39 rfl (by decide) rfl ?_
        refine v_goto (tgt := 18) hX dX7_piecesAsOf_40 (by decide) ?_
        refine v_pick [1, 2, 0] rfl ?_
        exact hK18 _ _ _ _ h
      · have h := h_E c4 h
        refine v_aload_n hX dX7_piecesAsOf_30 2 rfl rfl ?_
        obtain ⟨a7, e_a7, h⟩ := h
        refine v_nn0 e_a7 ?_
        obtain ⟨k8, h⟩ := h
        refine v_getR hX dX7_piecesAsOf_31 f_RX7_112 rfl k8 ?_
        exact v_aret hX hE (Or.inr ⟨_, rfl⟩) dX7_piecesAsOf_34 h
set_option maxRecDepth 100000 in
set_option maxHeartbeats 4000000 in
theorem m_X7_piecesAsOf {Z : h_Z} {o0 : Nat} {x1 : Int32} {x2 : Int32} {s : h_S} {Q : Option Nat → h_S → Prop} (h : w_X7_piecesAsOf o0 x1 x2 s Q) : h_M Z yX7_piecesAsOf cX7_piecesAsOf 4 (some (.array (.object "SeenWords$Piece"))) 1 21 [pR (some o0), pI x1, pI x2] s 0 0 (h_QR Z Q) := by
  refine h_M.of (by decide) (Nat.le_of_ble_eq_true rfl) (fun X hZ hX hE hI => ?_)
  subst hZ
  unfold w_X7_piecesAsOf at h
  show h_V X 4 0 [(0, pR (some o0)), (1, pI x1), (2, pI x2)] [] s 0 0
  refine v_iload_n hX dX7_piecesAsOf_0 1 rfl rfl ?_
  refine v_aload_n hX dX7_piecesAsOf_1 0 rfl rfl ?_
  obtain ⟨k1, h⟩ := h
  refine v_getI hX dX7_piecesAsOf_2 f_RX7_57 rfl k1 ?_
  refine v_callSi hX dX7_piecesAsOf_5 c_RX7_68 cS_X11_within [pI _, pI _] rfl rfl (Nat.le_of_ble_eq_true rfl) (by decide) (by decide) (Nat.zero_le _) (Nat.zero_le _) (m_X11_within h) (fun p3 s2 h => ?_)
  refine v_if_eq (tgt := 43) hX dX7_piecesAsOf_8 (by decide) (fun c4 => ?_) (fun c4 => ?_)
  · have h := h_T c4 h
    refine v_pick [0] rfl ?_
    exact b_X7_piecesAsOf_43 hX hE _ h
  · have h := h_E c4 h
    refine v_aload_n hX dX7_piecesAsOf_11 0 rfl rfl ?_
    obtain ⟨k5, h⟩ := h
    refine v_getR hX dX7_piecesAsOf_12 f_RX7_17 rfl k5 ?_
    refine v_iload_n hX dX7_piecesAsOf_15 1 rfl rfl ?_
    obtain ⟨a6, e_a6, h⟩ := h
    refine v_nn1 e_a6 ?_
    obtain ⟨k7, h⟩ := h
    obtain ⟨i8, h⟩ := h
    refine v_aald (k := 4) hX dX7_piecesAsOf_16 rfl rfl (by decide) (by decide) k7 i8 ?_
    refine v_astore_n (lv' := [(3, _), (0, _), (1, _), (2, _)]) hX dX7_piecesAsOf_17 rfl (by decide) rfl ?_
    refine v_pick [1, 3, 0] rfl ?_
    obtain ⟨n, h⟩ := h
    exact b_X7_piecesAsOf_18 hX hE n _ _ _ _ h
set_option maxRecDepth 100000 in
set_option maxHeartbeats 4000000 in
theorem b_X7_pieceCount_34 {X : h_X} (hX : h_ok X cX7_pieceCount 2 RX7 1 21) {Q : Int32 → h_S → Prop} (hE : h_end X (some .int) (h_QI (x_Z X) Q)) {y0 : Int32} (s : h_S) (h : w_X7_pieceCount_34 Q y0 s) : h_V X 2 34 [] [pI y0] s 0 0 := by
  unfold w_X7_pieceCount_34 at h
  exact v_iret hX hE dX7_pieceCount_34 h
set_option maxRecDepth 100000 in
set_option maxHeartbeats 4000000 in
theorem b_X7_pieceCount_33 {X : h_X} (hX : h_ok X cX7_pieceCount 2 RX7 1 21) {Q : Int32 → h_S → Prop} (hE : h_end X (some .int) (h_QI (x_Z X) Q)) (s : h_S) (h : w_X7_pieceCount_33 Q s) : h_V X 2 33 [] [] s 0 0 := by
  unfold w_X7_pieceCount_33 at h
  refine v_iconst (v := 0) hX dX7_pieceCount_33 (by decide) ?_
  refine v_pick [] rfl ?_
  exact b_X7_pieceCount_34 hX hE _ h
set_option maxRecDepth 100000 in
set_option maxHeartbeats 4000000 in
theorem m_X7_pieceCount {Z : h_Z} {o0 : Nat} {x1 : Int32} {s : h_S} {Q : Int32 → h_S → Prop} (h : w_X7_pieceCount o0 x1 s Q) : h_M Z yX7_pieceCount cX7_pieceCount 2 (some .int) 1 21 [pR (some o0), pI x1] s 0 0 (h_QI Z Q) := by
  refine h_M.of (by decide) (Nat.le_of_ble_eq_true rfl) (fun X hZ hX hE hI => ?_)
  subst hZ
  unfold w_X7_pieceCount at h
  show h_V X 2 0 [(0, pR (some o0)), (1, pI x1)] [] s 0 0
  refine v_iload_n hX dX7_pieceCount_0 1 rfl rfl ?_
  refine v_aload_n hX dX7_pieceCount_1 0 rfl rfl ?_
  obtain ⟨k1, h⟩ := h
  refine v_getI hX dX7_pieceCount_2 f_RX7_57 rfl k1 ?_
  refine v_callSi hX dX7_pieceCount_5 c_RX7_68 cS_X11_within [pI _, pI _] rfl rfl (Nat.le_of_ble_eq_true rfl) (by decide) (by decide) (Nat.zero_le _) (Nat.zero_le _) (m_X11_within h) (fun p3 s2 h => ?_)
  refine v_if_eq (tgt := 33) hX dX7_pieceCount_8 (by decide) (fun c4 => ?_) (fun c4 => ?_)
  · have h := h_T c4 h
    refine v_pick [] rfl ?_
    exact b_X7_pieceCount_33 hX hE _ h
  · have h := h_E c4 h
    refine v_aload_n hX dX7_pieceCount_11 0 rfl rfl ?_
    obtain ⟨k5, h⟩ := h
    refine v_getR hX dX7_pieceCount_12 f_RX7_17 rfl k5 ?_
    refine v_iload_n hX dX7_pieceCount_15 1 rfl rfl ?_
    obtain ⟨a6, e_a6, h⟩ := h
    refine v_nn1 e_a6 ?_
    obtain ⟨k7, h⟩ := h
    obtain ⟨i8, h⟩ := h
    refine v_aald (k := 4) hX dX7_pieceCount_16 rfl rfl (by decide) (by decide) k7 i8 ?_
    refine v_ifnull (tgt := 33) hX dX7_pieceCount_17 (by decide) (fun c9 => ?_) (fun c9 => ?_)
    · have h := h_T c9 h
      refine v_pick [] rfl ?_
      exact b_X7_pieceCount_33 hX hE _ h
    · have h := h_E c9 h
      refine v_aload_n hX dX7_pieceCount_20 0 rfl rfl ?_
      refine v_getR hX dX7_pieceCount_21 f_RX7_17 rfl k5 ?_
      refine v_iload_n hX dX7_pieceCount_24 1 rfl rfl ?_
      obtain ⟨a10, e_a10, h⟩ := h
      refine v_nn1 e_a10 ?_
      obtain ⟨k11, h⟩ := h
      obtain ⟨i12, h⟩ := h
      refine v_aald (k := 4) hX dX7_pieceCount_25 rfl rfl (by decide) (by decide) k11 i12 ?_
      obtain ⟨a13, e_a13, h⟩ := h
      refine v_nn0 e_a13 ?_
      obtain ⟨k14, h⟩ := h
      refine v_getR hX dX7_pieceCount_26 f_RX7_112 rfl k14 ?_
      obtain ⟨a15, e_a15, h⟩ := h
      refine v_nn0 e_a15 ?_
      obtain ⟨k16, h⟩ := h
      refine v_alenK hX dX7_pieceCount_29 (k := 3) rfl (by decide) (by decide) k16 ?_
      refine v_goto (tgt := 34) hX dX7_pieceCount_30 (by decide) ?_
      refine v_pick [] rfl ?_
      exact b_X7_pieceCount_34 hX hE _ h
set_option maxRecDepth 100000 in
set_option maxHeartbeats 4000000 in
theorem b_X7_pieceAt_27 {X : h_X} (hX : h_ok X cX7_pieceAt 3 RX7 2 42) {Q : Option Nat → h_S → Prop} (hE : h_end X (some (.object "SeenWords$Piece")) (h_QR (x_Z X) Q)) {t0 : Option Nat} (s : h_S) (h : w_X7_pieceAt_27 Q t0 s) : h_V X 3 27 [] [pR t0] s 0 0 := by
  unfold w_X7_pieceAt_27 at h
  exact v_aret hX hE (Or.inl ⟨_, rfl⟩) dX7_pieceAt_27 h
set_option maxRecDepth 100000 in
set_option maxHeartbeats 4000000 in
theorem m_X7_pieceAt {Z : h_Z} {o0 : Nat} {x1 : Int32} {x2 : Int32} {s : h_S} {Q : Option Nat → h_S → Prop} (h : w_X7_pieceAt o0 x1 x2 s Q) : h_M Z yX7_pieceAt cX7_pieceAt 3 (some (.object "SeenWords$Piece")) 2 42 [pR (some o0), pI x1, pI x2] s 0 0 (h_QR Z Q) := by
  refine h_M.of (by decide) (Nat.le_of_ble_eq_true rfl) (fun X hZ hX hE hI => ?_)
  subst hZ
  unfold w_X7_pieceAt at h
  show h_V X 3 0 [(0, pR (some o0)), (1, pI x1), (2, pI x2)] [] s 0 0
  refine v_iload_n hX dX7_pieceAt_0 2 rfl rfl ?_
  refine v_aload_n hX dX7_pieceAt_1 0 rfl rfl ?_
  refine v_iload_n hX dX7_pieceAt_2 1 rfl rfl ?_
  obtain ⟨k1, h⟩ := h
  refine v_callVi hX dX7_pieceAt_3 c_RX7_119 cV_X7_pieceCount (ci := 8) (T := TX7) (N := 13) rfl (by exact k1) [pI _] rfl rfl (Nat.le_of_ble_eq_true rfl) (by decide) (by decide) (Nat.zero_le _) (Nat.zero_le _) (m_X7_pieceCount h) (fun p3 s2 h => ?_)
  refine v_callSi hX dX7_pieceAt_6 c_RX7_68 cS_X11_within [pI _, pI _] rfl rfl (Nat.le_of_ble_eq_true rfl) (by decide) (by decide) (Nat.zero_le _) (Nat.zero_le _) (m_X11_within h) (fun p5 s4 h => ?_)
  refine v_if_eq (tgt := 26) hX dX7_pieceAt_9 (by decide) (fun c6 => ?_) (fun c6 => ?_)
  · have h := h_T c6 h
    refine v_null hX dX7_pieceAt_26 ?_
    refine v_pick [] rfl ?_
    exact b_X7_pieceAt_27 hX hE _ h
  · have h := h_E c6 h
    refine v_aload_n hX dX7_pieceAt_12 0 rfl rfl ?_
    obtain ⟨k7, h⟩ := h
    refine v_getR hX dX7_pieceAt_13 f_RX7_17 rfl k7 ?_
    refine v_iload_n hX dX7_pieceAt_16 1 rfl rfl ?_
    obtain ⟨a8, e_a8, h⟩ := h
    refine v_nn1 e_a8 ?_
    obtain ⟨k9, h⟩ := h
    obtain ⟨i10, h⟩ := h
    refine v_aald (k := 4) hX dX7_pieceAt_17 rfl rfl (by decide) (by decide) k9 i10 ?_
    obtain ⟨a11, e_a11, h⟩ := h
    refine v_nn0 e_a11 ?_
    obtain ⟨k12, h⟩ := h
    refine v_getR hX dX7_pieceAt_18 f_RX7_112 rfl k12 ?_
    refine v_iload_n hX dX7_pieceAt_21 2 rfl rfl ?_
    obtain ⟨a13, e_a13, h⟩ := h
    refine v_nn1 e_a13 ?_
    obtain ⟨k14, h⟩ := h
    obtain ⟨i15, h⟩ := h
    refine v_aald (k := 3) hX dX7_pieceAt_22 rfl rfl (by decide) (by decide) k14 i15 ?_
    refine v_goto (tgt := 27) hX dX7_pieceAt_23 (by decide) ?_
    refine v_pick [] rfl ?_
    exact b_X7_pieceAt_27 hX hE _ h
set_option maxRecDepth 100000 in
set_option maxHeartbeats 4000000 in
theorem b_X7_stretch_35 {X : h_X} (hX : h_ok X cX7_stretch 3 RX7 0 0) {Q : Int32 → h_S → Prop} (hE : h_end X (some .int) (h_QI (x_Z X) Q)) {y0 : Int32} (s : h_S) (h : w_X7_stretch_35 Q y0 s) : h_V X 3 35 [] [pI y0] s 0 0 := by
  unfold w_X7_stretch_35 at h
  exact v_iret hX hE dX7_stretch_35 h
set_option maxRecDepth 100000 in
set_option maxHeartbeats 4000000 in
theorem b_X7_stretch_18 {X : h_X} (hX : h_ok X cX7_stretch 3 RX7 0 0) {Q : Int32 → h_S → Prop} (hE : h_end X (some .int) (h_QI (x_Z X) Q)) {r0 : Option Nat} {y0 : Int32} (s : h_S) (h : w_X7_stretch_18 Q r0 y0 s) : h_V X 3 18 [(0, pR r0)] [pI y0] s 0 0 := by
  unfold w_X7_stretch_18 at h
  refine v_istore_n (lv' := [(2, _), (0, _)]) hX dX7_stretch_18 rfl (by decide) rfl ?_
  refine v_iload_n hX dX7_stretch_19 0 rfl rfl ?_
  refine v_aload_n hX dX7_stretch_20 1 rfl rfl ?_
  obtain ⟨a1, e_a1, h⟩ := h
  refine v_nn0 e_a1 ?_
  obtain ⟨k2, h⟩ := h
  refine v_getI hX dX7_stretch_21 f_RX7_157 rfl k2 ?_
  refine v_icmp_ge (tgt := 31) hX dX7_stretch_24 (by decide) (fun c3 => ?_) (fun c3 => ?_)
  · have h := h_T c3 h
    refine v_aload_n hX dX7_stretch_31 1 rfl rfl ?_
    obtain ⟨a4, e_a4, h⟩ := h
    refine v_nn0 e_a4 ?_
    obtain ⟨k5, h⟩ := h
    refine v_getI hX dX7_stretch_32 f_RX7_157 rfl k5 ?_
    refine v_pick [] rfl ?_
    exact b_X7_stretch_35 hX hE _ h
  · have h := h_E c3 h
    refine v_iload_n hX dX7_stretch_27 0 rfl rfl ?_
    refine v_goto (tgt := 35) hX dX7_stretch_28 (by decide) ?_
    refine v_pick [] rfl ?_
    exact b_X7_stretch_35 hX hE _ h
set_option maxRecDepth 100000 in
set_option maxHeartbeats 4000000 in
theorem m_X7_stretch {Z : h_Z} {r0 : Option Nat} {x1 : Int32} {s : h_S} {Q : Int32 → h_S → Prop} (h : w_X7_stretch r0 x1 s Q) : h_M Z yX7_stretch cX7_stretch 3 (some .int) 0 0 [pR r0, pI x1] s 0 0 (h_QI Z Q) := by
  refine h_M.of (by decide) (Nat.le_of_ble_eq_true rfl) (fun X hZ hX hE hI => ?_)
  subst hZ
  unfold w_X7_stretch at h
  show h_V X 3 0 [(0, pR r0), (1, pI x1)] [] s 0 0
  refine v_iload_n hX dX7_stretch_0 1 rfl rfl ?_
  refine v_aload_n hX dX7_stretch_1 0 rfl rfl ?_
  obtain ⟨a1, e_a1, h⟩ := h
  refine v_nn0 e_a1 ?_
  obtain ⟨k2, h⟩ := h
  refine v_getI hX dX7_stretch_2 f_RX7_158 rfl k2 ?_
  refine v_icmp_le (tgt := 17) hX dX7_stretch_5 (by decide) (fun c3 => ?_) (fun c3 => ?_)
  · have h := h_T c3 h
    refine v_iconst (v := 0) hX dX7_stretch_17 (by decide) ?_
    refine v_pick [0] rfl ?_
    exact b_X7_stretch_18 hX hE _ h
  · have h := h_E c3 h
    refine v_iload_n hX dX7_stretch_8 1 rfl rfl ?_
    refine v_aload_n hX dX7_stretch_9 0 rfl rfl ?_
    obtain ⟨a4, e_a4, h⟩ := h
    refine v_nn0 e_a4 ?_
    obtain ⟨k5, h⟩ := h
    refine v_getI hX dX7_stretch_10 f_RX7_158 rfl k5 ?_
    refine v_isub hX dX7_stretch_13 ?_
    refine v_goto (tgt := 18) hX dX7_stretch_14 (by decide) ?_
    refine v_pick [0] rfl ?_
    exact b_X7_stretch_18 hX hE _ h
set_option maxRecDepth 100000 in
set_option maxHeartbeats 4000000 in
theorem b_X7_layOut_55 {X : h_X} (hX : h_ok X cX7_layOut 3 RX7 2 42) {Q : h_S → Prop} (hE : h_end X none (h_QV (x_Z X) Q)) (s : h_S) (h : w_X7_layOut_55 Q s) : h_V X 3 55 [] [] s 0 0 := by
  unfold w_X7_layOut_55 at h
  exact v_vret hX hE dX7_layOut_55 h
set_option maxRecDepth 100000 in
set_option maxHeartbeats 4000000 in
theorem b_X7_layOut_7 {X : h_X} (hX : h_ok X cX7_layOut 3 RX7 2 42) {Q : h_S → Prop} (hE : h_end X none (h_QV (x_Z X) Q)) : ∀ (n : Nat) (o0 : Nat) (x1 : Int32) (x2 : Int32) (s : h_S), w_X7_layOut_7 Q n o0 x1 x2 s → h_V X 3 7 [(0, pR (some o0)), (1, pI x1), (2, pI x2)] [] s 0 0 := by
  intro n
  induction n with
  | zero => intro _ _ _ s h; exact h.elim
  | succ n hK7 =>
    intro o0 x1 x2 s h
    have h : w_X7_layOut_7b Q (w_X7_layOut_7 Q n) o0 x1 x2 s := h
    unfold w_X7_layOut_7b at h
    refine v_iload_n hX dX7_layOut_7 2 rfl rfl ?_
    refine v_aload_n hX dX7_layOut_8 0 rfl rfl ?_
    refine v_iload_n hX dX7_layOut_9 1 rfl rfl ?_
    obtain ⟨k1, h⟩ := h
    refine v_callVi hX dX7_layOut_10 c_RX7_119 cV_X7_pieceCount (ci := 8) (T := TX7) (N := 13) rfl (by exact k1) [pI _] rfl rfl (Nat.le_of_ble_eq_true rfl) (by decide) (by decide) (Nat.zero_le _) (Nat.zero_le _) (m_X7_pieceCount h) (fun p3 s2 h => ?_)
    refine v_icmp_ge (tgt := 55) hX dX7_layOut_13 (by decide) (fun c4 => ?_) (fun c4 => ?_)
    · have h := h_T c4 h
      refine v_pick [] rfl ?_
      exact b_X7_layOut_55 hX hE _ h
    · have h := h_E c4 h
      refine v_iload_n hX dX7_layOut_16 2 rfl rfl ?_
      refine v_bipush (v := 24) hX dX7_layOut_17 (by decide) ?_
      refine v_icmp_ge (tgt := 55) hX dX7_layOut_19 (by decide) (fun c5 => ?_) (fun c5 => ?_)
      · have h := h_T c5 h
        refine v_pick [] rfl ?_
        exact b_X7_layOut_55 hX hE _ h
      · have h := h_E c5 h
        refine v_aload_n hX dX7_layOut_22 0 rfl rfl ?_
        obtain ⟨k6, h⟩ := h
        refine v_getR hX dX7_layOut_23 f_RX7_48 rfl k6 ?_
        refine v_iload_n hX dX7_layOut_26 2 rfl rfl ?_
        refine v_aload_n hX dX7_layOut_27 0 rfl rfl ?_
        refine v_getR hX dX7_layOut_28 f_RX7_17 rfl k6 ?_
        refine v_iload_n hX dX7_layOut_31 1 rfl rfl ?_
        obtain ⟨a7, e_a7, h⟩ := h
        refine v_nn1 e_a7 ?_
        obtain ⟨k8, h⟩ := h
        obtain ⟨i9, h⟩ := h
        refine v_aald (k := 4) hX dX7_layOut_32 rfl rfl (by decide) (by decide) k8 i9 ?_
        obtain ⟨a10, e_a10, h⟩ := h
        refine v_nn0 e_a10 ?_
        obtain ⟨k11, h⟩ := h
        refine v_getR hX dX7_layOut_33 f_RX7_112 rfl k11 ?_
        refine v_iload_n hX dX7_layOut_36 2 rfl rfl ?_
        obtain ⟨a12, e_a12, h⟩ := h
        refine v_nn1 e_a12 ?_
        obtain ⟨k13, h⟩ := h
        obtain ⟨i14, h⟩ := h
        refine v_aald (k := 3) hX dX7_layOut_37 rfl rfl (by decide) (by decide) k13 i14 ?_
        obtain ⟨a15, e_a15, h⟩ := h
        refine v_nn2 e_a15 ?_
        obtain ⟨k16, h⟩ := h
        obtain ⟨i17, h⟩ := h
        obtain ⟨b18, h⟩ := h
        refine v_aastQ (k := 3) (ci := 3) hX dX7_layOut_38 rfl rfl (by decide) (by decide) k16 i17 b18 ?_
        refine v_aload_n hX dX7_layOut_39 0 rfl rfl ?_
        refine v_dup hX dX7_layOut_40 rfl ?_
        refine v_getI hX dX7_layOut_41 f_RX7_180 rfl k6 ?_
        refine v_iconst (v := 1) hX dX7_layOut_44 (by decide) ?_
        refine v_iadd hX dX7_layOut_45 ?_
        refine v_putI hX dX7_layOut_46 f_RX7_180 k6 ?_
        refine v_iinc (c := 1) (lv' := [(2, _), (0, _), (1, _)]) hX dX7_layOut_49 2 rfl (by decide) (by decide) rfl ?_
        refine v_goto (tgt := 7) hX dX7_layOut_52 (by decide) ?_
        refine v_pick [1, 2, 0] rfl ?_
        exact hK7 _ _ _ _ h
set_option maxRecDepth 100000 in
set_option maxHeartbeats 4000000 in
theorem m_X7_layOut {Z : h_Z} {o0 : Nat} {x1 : Int32} {s : h_S} {Q : h_S → Prop} (h : w_X7_layOut o0 x1 s Q) : h_M Z yX7_layOut cX7_layOut 3 none 2 42 [pR (some o0), pI x1] s 0 0 (h_QV Z Q) := by
  refine h_M.of (by decide) (Nat.le_of_ble_eq_true rfl) (fun X hZ hX hE hI => ?_)
  subst hZ
  unfold w_X7_layOut at h
  show h_V X 3 0 [(0, pR (some o0)), (1, pI x1)] [] s 0 0
  refine v_aload_n hX dX7_layOut_0 0 rfl rfl ?_
  refine v_iconst (v := 0) hX dX7_layOut_1 (by decide) ?_
  obtain ⟨k1, h⟩ := h
  refine v_putI hX dX7_layOut_2 f_RX7_180 k1 ?_
  refine v_iconst (v := 0) hX dX7_layOut_5 (by decide) ?_
  refine v_istore_n (lv' := [(2, _), (0, _), (1, _)]) hX dX7_layOut_6 rfl (by decide) rfl ?_
  refine v_pick [1, 2, 0] rfl ?_
  obtain ⟨n, h⟩ := h
  exact b_X7_layOut_7 hX hE n _ _ _ _ h
set_option maxRecDepth 100000 in
set_option maxHeartbeats 4000000 in
theorem b_X7_insert_21 {X : h_X} (hX : h_ok X cX7_insert 4 RX7 0 0) {Q : h_S → Prop} (hE : h_end X none (h_QV (x_Z X) Q)) (s : h_S) (h : w_X7_insert_21 Q s) : h_V X 4 21 [] [] s 0 0 := by
  unfold w_X7_insert_21 at h
  exact v_vret hX hE dX7_insert_21 h
set_option maxRecDepth 100000 in
set_option maxHeartbeats 4000000 in
theorem b_X7_insert_27 {X : h_X} (hX : h_ok X cX7_insert 4 RX7 0 0) {Q : h_S → Prop} (hE : h_end X none (h_QV (x_Z X) Q)) : ∀ (n : Nat) (o0 : Nat) (x1 : Int32) (r2 : Option Nat) (x3 : Int32) (s : h_S), w_X7_insert_27 Q n o0 x1 r2 x3 s → h_V X 4 27 [(0, pR (some o0)), (1, pI x1), (2, pR r2), (3, pI x3)] [] s 0 0 := by
  intro n
  induction n with
  | zero => intro _ _ _ _ s h; exact h.elim
  | succ n hK27 =>
    intro o0 x1 r2 x3 s h
    have h : w_X7_insert_27b Q (w_X7_insert_27 Q n) o0 x1 r2 x3 s := h
    unfold w_X7_insert_27b at h
    refine v_iload_n hX dX7_insert_27 3 rfl rfl ?_
    refine v_iload_n hX dX7_insert_28 1 rfl rfl ?_
    refine v_icmp_le (tgt := 52) hX dX7_insert_29 (by decide) (fun c1 => ?_) (fun c1 => ?_)
    · have h := h_T c1 h
      refine v_aload_n hX dX7_insert_52 0 rfl rfl ?_
      obtain ⟨k2, h⟩ := h
      refine v_getR hX dX7_insert_53 f_RX7_48 rfl k2 ?_
      refine v_iload_n hX dX7_insert_56 1 rfl rfl ?_
      refine v_aload_n hX dX7_insert_57 2 rfl rfl ?_
      obtain ⟨a3, e_a3, h⟩ := h
      refine v_nn2 e_a3 ?_
      obtain ⟨k4, h⟩ := h
      obtain ⟨i5, h⟩ := h
      obtain ⟨b6, h⟩ := h
      refine v_aastQ (k := 3) (ci := 3) hX dX7_insert_58 rfl rfl (by decide) (by decide) k4 i5 b6 ?_
      refine v_aload_n hX dX7_insert_59 0 rfl rfl ?_
      refine v_dup hX dX7_insert_60 rfl ?_
      refine v_getI hX dX7_insert_61 f_RX7_180 rfl k2 ?_
      refine v_iconst (v := 1) hX dX7_insert_64 (by decide) ?_
      refine v_iadd hX dX7_insert_65 ?_
      refine v_putI hX dX7_insert_66 f_RX7_180 k2 ?_
      exact v_vret hX hE dX7_insert_69 h
    · have h := h_E c1 h
      refine v_aload_n hX dX7_insert_32 0 rfl rfl ?_
      obtain ⟨k9, h⟩ := h
      refine v_getR hX dX7_insert_33 f_RX7_48 rfl k9 ?_
      refine v_iload_n hX dX7_insert_36 3 rfl rfl ?_
      refine v_aload_n hX dX7_insert_37 0 rfl rfl ?_
      refine v_getR hX dX7_insert_38 f_RX7_48 rfl k9 ?_
      refine v_iload_n hX dX7_insert_41 3 rfl rfl ?_
      refine v_iconst (v := 1) hX dX7_insert_42 (by decide) ?_
      refine v_isub hX dX7_insert_43 ?_
      obtain ⟨a10, e_a10, h⟩ := h
      refine v_nn1 e_a10 ?_
      obtain ⟨k11, h⟩ := h
      obtain ⟨i12, h⟩ := h
      refine v_aald (k := 3) hX dX7_insert_44 rfl rfl (by decide) (by decide) k11 i12 ?_
      obtain ⟨a13, e_a13, h⟩ := h
      refine v_nn2 e_a13 ?_
      obtain ⟨k14, h⟩ := h
      obtain ⟨i15, h⟩ := h
      obtain ⟨b16, h⟩ := h
      refine v_aastQ (k := 3) (ci := 3) hX dX7_insert_45 rfl rfl (by decide) (by decide) k14 i15 b16 ?_
      refine v_iinc (c := -1) (lv' := [(3, _), (0, _), (1, _), (2, _)]) hX dX7_insert_46 3 rfl (by decide) (by decide) rfl ?_
      refine v_goto (tgt := 27) hX dX7_insert_49 (by decide) ?_
      refine v_pick [1, 2, 3, 0] rfl ?_
      exact hK27 _ _ _ _ _ h
set_option maxRecDepth 100000 in
set_option maxHeartbeats 4000000 in
theorem m_X7_insert {Z : h_Z} {o0 : Nat} {x1 : Int32} {r2 : Option Nat} {s : h_S} {Q : h_S → Prop} (h : w_X7_insert o0 x1 r2 s Q) : h_M Z yX7_insert cX7_insert 4 none 0 0 [pR (some o0), pI x1, pR r2] s 0 0 (h_QV Z Q) := by
  refine h_M.of (by decide) (Nat.le_of_ble_eq_true rfl) (fun X hZ hX hE hI => ?_)
  subst hZ
  unfold w_X7_insert at h
  show h_V X 4 0 [(0, pR (some o0)), (1, pI x1), (2, pR r2)] [] s 0 0
  refine v_aload_n hX dX7_insert_0 0 rfl rfl ?_
  obtain ⟨k1, h⟩ := h
  refine v_getI hX dX7_insert_1 f_RX7_180 rfl k1 ?_
  refine v_bipush (v := 32) hX dX7_insert_4 (by decide) ?_
  refine v_icmp_ge (tgt := 21) hX dX7_insert_6 (by decide) (fun c2 => ?_) (fun c2 => ?_)
  · have h := h_T c2 h
    refine v_pick [] rfl ?_
    exact b_X7_insert_21 hX hE _ h
  · have h := h_E c2 h
    refine v_iload_n hX dX7_insert_9 1 rfl rfl ?_
    refine v_if_lt (tgt := 21) hX dX7_insert_10 (by decide) (fun c3 => ?_) (fun c3 => ?_)
    · have h := h_T c3 h
      refine v_pick [] rfl ?_
      exact b_X7_insert_21 hX hE _ h
    · have h := h_E c3 h
      refine v_iload_n hX dX7_insert_13 1 rfl rfl ?_
      refine v_aload_n hX dX7_insert_14 0 rfl rfl ?_
      refine v_getI hX dX7_insert_15 f_RX7_180 rfl k1 ?_
      refine v_icmp_le (tgt := 22) hX dX7_insert_18 (by decide) (fun c4 => ?_) (fun c4 => ?_)
      · have h := h_T c4 h
        refine v_aload_n hX dX7_insert_22 0 rfl rfl ?_
        refine v_getI hX dX7_insert_23 f_RX7_180 rfl k1 ?_
        refine v_istore_n (lv' := [(3, _), (0, _), (1, _), (2, _)]) hX dX7_insert_26 rfl (by decide) rfl ?_
        refine v_pick [1, 2, 3, 0] rfl ?_
        obtain ⟨n, h⟩ := h
        exact b_X7_insert_27 hX hE n _ _ _ _ _ h
      · have h := h_E c4 h
        refine v_pick [] rfl ?_
        exact b_X7_insert_21 hX hE _ h
set_option maxRecDepth 100000 in
set_option maxHeartbeats 4000000 in
theorem b_X7_layRuns_74 {X : h_X} (hX : h_ok X cX7_layRuns 5 RX7 2 45) {Q : h_S → Prop} (hE : h_end X none (h_QV (x_Z X) Q)) {K10 : Nat → Option Nat → Int32 → Int32 → Int32 → h_S → Nat → Nat → Prop} (hK10 : ∀ (o0 : Nat) (r1 : Option Nat) (x2 : Int32) (x3 : Int32) (x4 : Int32) (s : h_S) (bc bs : Nat), K10 o0 r1 x2 x3 x4 s bc bs → h_V X 5 10 [(0, pR (some o0)), (1, pR r1), (2, pI x2), (3, pI x3), (4, pI x4)] [] s bc bs) {o0 : Nat} {r1 : Option Nat} {x2 : Int32} {x3 : Int32} {x4 : Int32} (s : h_S) {bc bs : Nat} (h : w_X7_layRuns_74 Q K10 o0 r1 x2 x3 x4 s bc bs) : h_V X 5 74 [(0, pR (some o0)), (1, pR r1), (2, pI x2), (3, pI x3), (4, pI x4)] [] s bc bs := by
  unfold w_X7_layRuns_74 at h
  refine v_iinc (c := 1) (lv' := [(4, _), (0, _), (1, _), (2, _), (3, _)]) hX dX7_layRuns_74 4 rfl (by decide) (by decide) rfl ?_
  refine v_goto (tgt := 10) hX dX7_layRuns_77 (by decide) ?_
  refine v_pick [1, 2, 3, 4, 0] rfl ?_
  exact hK10 _ _ _ _ _ _ _ _ h
set_option maxRecDepth 100000 in
set_option maxHeartbeats 4000000 in
theorem b_X7_layRuns_44 {X : h_X} (hX : h_ok X cX7_layRuns 5 RX7 2 45) {Q : h_S → Prop} (hE : h_end X none (h_QV (x_Z X) Q)) {K10 : Nat → Option Nat → Int32 → Int32 → Int32 → h_S → Nat → Nat → Prop} (hK10 : ∀ (o0 : Nat) (r1 : Option Nat) (x2 : Int32) (x3 : Int32) (x4 : Int32) (s : h_S) (bc bs : Nat), K10 o0 r1 x2 x3 x4 s bc bs → h_V X 5 10 [(0, pR (some o0)), (1, pR r1), (2, pI x2), (3, pI x3), (4, pI x4)] [] s bc bs) {o0 : Nat} {r1 : Option Nat} {x2 : Int32} {x3 : Int32} {x4 : Int32} (s : h_S) {bc bs : Nat} (h : w_X7_layRuns_44 Q K10 o0 r1 x2 x3 x4 s bc bs) : h_V X 5 44 [(0, pR (some o0)), (1, pR r1), (2, pI x2), (3, pI x3), (4, pI x4)] [] s bc bs := by
  unfold w_X7_layRuns_44 at h
  refine v_aload_n hX dX7_layRuns_44 0 rfl rfl ?_
  refine v_aload_n hX dX7_layRuns_45 0 rfl rfl ?_
  obtain ⟨k1, h⟩ := h
  refine v_getI hX dX7_layRuns_46 f_RX7_180 rfl k1 ?_
  obtain ⟨b4, b5, h⟩ := h
  refine v_new hX dX7_layRuns_49 n_RX7_21 b4 b5 (fun q2 k3 => ?_)
  have h := h q2 k3
  refine v_dup hX dX7_layRuns_52 rfl ?_
  refine v_iconst (v := 1) hX dX7_layRuns_53 (by decide) ?_
  refine v_aload_n hX dX7_layRuns_54 1 rfl rfl ?_
  refine v_iload_n hX dX7_layRuns_55 3 rfl rfl ?_
  obtain ⟨a9, e_a9, h⟩ := h
  refine v_nn1 e_a9 ?_
  obtain ⟨k10, h⟩ := h
  obtain ⟨i11, h⟩ := h
  refine v_iald hX dX7_layRuns_56 k10 i11 ?_
  refine v_iload hX dX7_layRuns_57 4 rfl ?_
  refine v_iload_n hX dX7_layRuns_59 3 rfl rfl ?_
  refine v_isub hX dX7_layRuns_60 ?_
  refine v_bipush (v := -9) hX dX7_layRuns_61 (by decide) ?_
  refine v_bipush (v := -9) hX dX7_layRuns_63 (by decide) ?_
  refine v_callIv hX dX7_layRuns_65 c_RX7_183 cI_X2_init [pI _, pI _, pI _, pI _, pI _] rfl rfl (Nat.le_of_ble_eq_true rfl) (by decide) (by decide) (Nat.zero_le _) (Nat.zero_le _) (m_X2_init h) (fun s12 h => ?_)
  obtain ⟨k14, h⟩ := h
  refine v_callVv hX dX7_layRuns_68 c_RX7_184 cV_X7_insert (ci := 8) (T := TX7) (N := 13) rfl (by exact k14) [pI _, pR _] rfl rfl (Nat.le_of_ble_eq_true rfl) (by decide) (by decide) (Nat.zero_le _) (Nat.zero_le _) (m_X7_insert h) (fun s15 h => ?_)
  refine v_iload hX dX7_layRuns_71 4 rfl ?_
  refine v_istore_n (lv' := [(3, _), (0, _), (1, _), (2, _), (4, _)]) hX dX7_layRuns_73 rfl (by decide) rfl ?_
  refine v_pick [1, 2, 3, 0, 4] rfl ?_
  exact b_X7_layRuns_74 hX hE hK10 _ h
set_option maxRecDepth 100000 in
set_option maxHeartbeats 4000000 in
theorem b_X7_layRuns_80 {X : h_X} (hX : h_ok X cX7_layRuns 5 RX7 2 45) {Q : h_S → Prop} (hE : h_end X none (h_QV (x_Z X) Q)) (s : h_S) {bc bs : Nat} (h : w_X7_layRuns_80 Q s bc bs) : h_V X 5 80 [] [] s bc bs := by
  unfold w_X7_layRuns_80 at h
  exact v_vret hX hE dX7_layRuns_80 h
set_option maxRecDepth 100000 in
set_option maxHeartbeats 4000000 in
theorem b_X7_layRuns_10 {X : h_X} (hX : h_ok X cX7_layRuns 5 RX7 2 45) {Q : h_S → Prop} (hE : h_end X none (h_QV (x_Z X) Q)) : ∀ (n : Nat) (o0 : Nat) (r1 : Option Nat) (x2 : Int32) (x3 : Int32) (x4 : Int32) (s : h_S) (bc bs : Nat), w_X7_layRuns_10 Q n o0 r1 x2 x3 x4 s bc bs → h_V X 5 10 [(0, pR (some o0)), (1, pR r1), (2, pI x2), (3, pI x3), (4, pI x4)] [] s bc bs := by
  intro n
  induction n with
  | zero => intro _ _ _ _ _ s bc bs h; exact h.elim
  | succ n hK10 =>
    intro o0 r1 x2 x3 x4 s bc bs h
    have h : w_X7_layRuns_10b Q (w_X7_layRuns_10 Q n) o0 r1 x2 x3 x4 s bc bs := h
    unfold w_X7_layRuns_10b at h
    refine v_iload hX dX7_layRuns_10 4 rfl ?_
    refine v_iload_n hX dX7_layRuns_12 2 rfl rfl ?_
    refine v_icmp_gt (tgt := 80) hX dX7_layRuns_13 (by decide) (fun c1 => ?_) (fun c1 => ?_)
    · have h := h_T c1 h
      refine v_pick [] rfl ?_
      exact b_X7_layRuns_80 hX hE _ h
    · have h := h_E c1 h
      refine v_iload hX dX7_layRuns_16 4 rfl ?_
      refine v_aload_n hX dX7_layRuns_18 1 rfl rfl ?_
      obtain ⟨a2, e_a2, h⟩ := h
      refine v_nn0 e_a2 ?_
      obtain ⟨k3, h⟩ := h
      refine v_alenK hX dX7_layRuns_19 (k := 1) rfl (by decide) (by decide) k3 ?_
      refine v_icmp_gt (tgt := 80) hX dX7_layRuns_20 (by decide) (fun c4 => ?_) (fun c4 => ?_)
      · have h := h_T c4 h
        refine v_pick [] rfl ?_
        exact b_X7_layRuns_80 hX hE _ h
      · have h := h_E c4 h
        refine v_iload hX dX7_layRuns_23 4 rfl ?_
        refine v_iload_n hX dX7_layRuns_25 2 rfl rfl ?_
        refine v_icmp_eq (tgt := 44) hX dX7_layRuns_26 (by decide) (fun c5 => ?_) (fun c5 => ?_)
        · have h := h_T c5 h
          refine v_pick [0, 1, 2, 3, 4] rfl ?_
          exact b_X7_layRuns_44 hX hE hK10 _ h
        · have h := h_E c5 h
          refine v_aload_n hX dX7_layRuns_29 1 rfl rfl ?_
          refine v_iload hX dX7_layRuns_30 4 rfl ?_
          obtain ⟨a6, e_a6, h⟩ := h
          refine v_nn1 e_a6 ?_
          obtain ⟨k7, h⟩ := h
          obtain ⟨i8, h⟩ := h
          refine v_iald hX dX7_layRuns_32 k7 i8 ?_
          refine v_aload_n hX dX7_layRuns_33 1 rfl rfl ?_
          refine v_iload hX dX7_layRuns_34 4 rfl ?_
          refine v_iconst (v := 1) hX dX7_layRuns_36 (by decide) ?_
          refine v_isub hX dX7_layRuns_37 ?_
          obtain ⟨a9, e_a9, h⟩ := h
          refine v_nn1 e_a9 ?_
          obtain ⟨k10, h⟩ := h
          obtain ⟨i11, h⟩ := h
          refine v_iald hX dX7_layRuns_38 k10 i11 ?_
          refine v_iconst (v := 1) hX dX7_layRuns_39 (by decide) ?_
          refine v_iadd hX dX7_layRuns_40 ?_
          refine v_icmp_eq (tgt := 74) hX dX7_layRuns_41 (by decide) (fun c12 => ?_) (fun c12 => ?_)
          · have h := h_T c12 h
            refine v_pick [0, 1, 2, 3, 4] rfl ?_
            exact b_X7_layRuns_74 hX hE hK10 _ h
          · have h := h_E c12 h
            refine v_pick [0, 1, 2, 3, 4] rfl ?_
            exact b_X7_layRuns_44 hX hE hK10 _ h
set_option maxRecDepth 100000 in
set_option maxHeartbeats 4000000 in
theorem m_X7_layRuns {Z : h_Z} {o0 : Nat} {r1 : Option Nat} {x2 : Int32} {s : h_S} {mc ms : Nat} {Q : h_S → Prop} (h : w_X7_layRuns o0 r1 x2 s mc ms Q) : h_M Z yX7_layRuns cX7_layRuns 5 none 2 45 [pR (some o0), pR r1, pI x2] s mc ms (h_QV Z Q) := by
  refine h_M.of (by decide) (Nat.le_of_ble_eq_true rfl) (fun X hZ hX hE hI => ?_)
  subst hZ
  unfold w_X7_layRuns at h
  show h_V X 5 0 [(0, pR (some o0)), (1, pR r1), (2, pI x2)] [] s mc ms
  refine v_aload_n hX dX7_layRuns_0 0 rfl rfl ?_
  refine v_iconst (v := 0) hX dX7_layRuns_1 (by decide) ?_
  obtain ⟨k1, h⟩ := h
  refine v_putI hX dX7_layRuns_2 f_RX7_180 k1 ?_
  refine v_iconst (v := 0) hX dX7_layRuns_5 (by decide) ?_
  refine v_istore_n (lv' := [(3, _), (0, _), (1, _), (2, _)]) hX dX7_layRuns_6 rfl (by decide) rfl ?_
  refine v_iconst (v := 1) hX dX7_layRuns_7 (by decide) ?_
  refine v_istore (lv' := [(4, _), (3, _), (0, _), (1, _), (2, _)]) hX dX7_layRuns_8 (by decide) rfl ?_
  refine v_pick [2, 3, 4, 1, 0] rfl ?_
  obtain ⟨n, h⟩ := h
  exact b_X7_layRuns_10 hX hE n _ _ _ _ _ _ _ _ h
set_option maxRecDepth 100000 in
set_option maxHeartbeats 4000000 in
theorem m_X7_partAt {Z : h_Z} {o0 : Nat} {x1 : Int32} {x2 : Int32} {s : h_S} {mc ms : Nat} {Q : Int32 → h_S → Prop} (h : w_X7_partAt o0 x1 x2 s mc ms Q) : h_M Z yX7_partAt cX7_partAt 4 (some .int) 3 66 [pR (some o0), pI x1, pI x2] s mc ms (h_QI Z Q) := by
  refine h_M.of (by decide) (Nat.le_of_ble_eq_true rfl) (fun X hZ hX hE hI => ?_)
  subst hZ
  unfold w_X7_partAt at h
  show h_V X 4 0 [(0, pR (some o0)), (1, pI x1), (2, pI x2)] [] s mc ms
  refine v_aload_n hX dX7_partAt_0 0 rfl rfl ?_
  obtain ⟨k1, h⟩ := h
  refine v_getR hX dX7_partAt_1 f_RX7_48 rfl k1 ?_
  refine v_iload_n hX dX7_partAt_4 1 rfl rfl ?_
  obtain ⟨a2, e_a2, h⟩ := h
  refine v_nn1 e_a2 ?_
  obtain ⟨k3, h⟩ := h
  obtain ⟨i4, h⟩ := h
  refine v_aald (k := 3) hX dX7_partAt_5 rfl rfl (by decide) (by decide) k3 i4 ?_
  refine v_astore_n (lv' := [(3, _), (0, _), (1, _), (2, _)]) hX dX7_partAt_6 rfl (by decide) rfl ?_
  refine v_aload_n hX dX7_partAt_7 1 rfl rfl ?_
  refine v_getR hX dX7_partAt_8 f_RX7_48 rfl k1 ?_
  refine v_iload_n hX dX7_partAt_11 2 rfl rfl ?_
  refine v_aload_n hX dX7_partAt_12 0 rfl rfl ?_
  refine v_iload_n hX dX7_partAt_13 3 rfl rfl ?_
  obtain ⟨a5, e_a5, h⟩ := h
  refine v_nn1 e_a5 ?_
  obtain ⟨k6, h⟩ := h
  obtain ⟨mc9, ms10, b11, b12, h⟩ := h
  refine v_callVr hX dX7_partAt_14 c_RX7_188 cV_X2_head (ci := 3) (T := TX2) (N := 5) rfl (by exact k6) [pI _] rfl rfl (Nat.le_of_ble_eq_true rfl) (by decide) (by decide) b11 b12 (m_X2_head h) (fun p8 s7 h => ?_)
  obtain ⟨a13, e_a13, h⟩ := h
  refine v_nn2 e_a13 ?_
  obtain ⟨k14, h⟩ := h
  obtain ⟨i15, h⟩ := h
  obtain ⟨b16, h⟩ := h
  refine v_aastQ (k := 3) (ci := 3) hX dX7_partAt_17 rfl rfl (by decide) (by decide) k14 i15 b16 ?_
  refine v_aload_n hX dX7_partAt_18 1 rfl rfl ?_
  refine v_iload_n hX dX7_partAt_19 2 rfl rfl ?_
  refine v_iconst (v := 1) hX dX7_partAt_20 (by decide) ?_
  refine v_iadd hX dX7_partAt_21 ?_
  refine v_aload_n hX dX7_partAt_22 0 rfl rfl ?_
  refine v_iload_n hX dX7_partAt_23 3 rfl rfl ?_
  obtain ⟨a18, e_a18, h⟩ := h
  refine v_nn1 e_a18 ?_
  obtain ⟨k19, h⟩ := h
  obtain ⟨mc22, ms23, b24, b25, h⟩ := h
  refine v_callVr hX dX7_partAt_24 c_RX7_192 cV_X2_tail (ci := 3) (T := TX2) (N := 5) rfl (by exact k19) [pI _] rfl rfl (Nat.le_of_ble_eq_true rfl) (by decide) (by decide) b24 b25 (m_X2_tail h) (fun p21 s20 h => ?_)
  obtain ⟨k26, h⟩ := h
  refine v_callVv hX dX7_partAt_27 c_RX7_184 cV_X7_insert (ci := 8) (T := TX7) (N := 13) rfl (by exact k26) [pI _, pR _] rfl rfl (Nat.le_of_ble_eq_true rfl) (by decide) (by decide) (Nat.zero_le _) (Nat.zero_le _) (m_X7_insert h) (fun s27 h => ?_)
  refine v_iload_n hX dX7_partAt_30 2 rfl rfl ?_
  refine v_iconst (v := 1) hX dX7_partAt_31 (by decide) ?_
  refine v_iadd hX dX7_partAt_32 ?_
  exact v_iret hX hE dX7_partAt_33 h
set_option maxRecDepth 100000 in
set_option maxHeartbeats 4000000 in
theorem b_X7_keepLaid_20 {X : h_X} (hX : h_ok X cX7_keepLaid 5 RX7 2 43) {Q : Int32 → h_S → Prop} (hE : h_end X (some .boolean) (h_QI (x_Z X) Q)) (s : h_S) {bc bs : Nat} (h : w_X7_keepLaid_20 Q s bc bs) : h_V X 5 20 [] [] s bc bs := by
  unfold w_X7_keepLaid_20 at h
  refine v_iconst (v := 0) hX dX7_keepLaid_20 (by decide) ?_
  exact v_zret hX hE dX7_keepLaid_21 (Or.inl rfl) h
set_option maxRecDepth 100000 in
set_option maxHeartbeats 4000000 in
theorem b_X7_keepLaid_33 {X : h_X} (hX : h_ok X cX7_keepLaid 5 RX7 2 43) {Q : Int32 → h_S → Prop} (hE : h_end X (some .boolean) (h_QI (x_Z X) Q)) : ∀ (n : Nat) (o0 : Nat) (x1 : Int32) (x2 : Int32) (o3 : Nat) (x4 : Int32) (s : h_S) (bc bs : Nat), w_X7_keepLaid_33 Q n o0 x1 x2 o3 x4 s bc bs → h_V X 5 33 [(0, pR (some o0)), (1, pI x1), (2, pI x2), (3, pR (some o3)), (4, pI x4)] [] s bc bs := by
  intro n
  induction n with
  | zero => intro _ _ _ _ _ s bc bs h; exact h.elim
  | succ n hK33 =>
    intro o0 x1 x2 o3 x4 s bc bs h
    have h : w_X7_keepLaid_33b Q (w_X7_keepLaid_33 Q n) o0 x1 x2 o3 x4 s bc bs := h
    unfold w_X7_keepLaid_33b at h
    refine v_iload hX dX7_keepLaid_33 4 rfl ?_
    refine v_aload_n hX dX7_keepLaid_35 0 rfl rfl ?_
    obtain ⟨k1, h⟩ := h
    refine v_getI hX dX7_keepLaid_36 f_RX7_180 rfl k1 ?_
    refine v_icmp_ge (tgt := 59) hX dX7_keepLaid_39 (by decide) (fun c2 => ?_) (fun c2 => ?_)
    · have h := h_T c2 h
      refine v_aload_n hX dX7_keepLaid_59 0 rfl rfl ?_
      refine v_getR hX dX7_keepLaid_60 f_RX7_17 rfl k1 ?_
      refine v_iload_n hX dX7_keepLaid_63 1 rfl rfl ?_
      obtain ⟨b5, b6, h⟩ := h
      refine v_new hX dX7_keepLaid_64 n_RX7_15 b5 b6 (fun q3 k4 => ?_)
      have h := h q3 k4
      refine v_dup hX dX7_keepLaid_67 rfl ?_
      refine v_iload_n hX dX7_keepLaid_68 2 rfl rfl ?_
      refine v_aload_n hX dX7_keepLaid_69 3 rfl rfl ?_
      refine v_aload_n hX dX7_keepLaid_70 0 rfl rfl ?_
      obtain ⟨k10, h⟩ := h
      refine v_getR hX dX7_keepLaid_71 f_RX7_17 rfl k10 ?_
      refine v_iload_n hX dX7_keepLaid_74 1 rfl rfl ?_
      obtain ⟨a11, e_a11, h⟩ := h
      refine v_nn1 e_a11 ?_
      obtain ⟨k12, h⟩ := h
      obtain ⟨i13, h⟩ := h
      refine v_aald (k := 4) hX dX7_keepLaid_75 rfl rfl (by decide) (by decide) k12 i13 ?_
      refine v_callIv hX dX7_keepLaid_76 c_RX7_65 cI_X4_init [pI _, pR _, pR _] rfl rfl (Nat.le_of_ble_eq_true rfl) (by decide) (by decide) (Nat.zero_le _) (Nat.zero_le _) (m_X4_init h) (fun s14 h => ?_)
      obtain ⟨a16, e_a16, h⟩ := h
      refine v_nn2 e_a16 ?_
      obtain ⟨k17, h⟩ := h
      obtain ⟨i18, h⟩ := h
      obtain ⟨k19, h⟩ := h
      refine v_aast (k := 4) (ci := 5) hX dX7_keepLaid_79 rfl rfl (by decide) (by decide) k17 i18 k19 ?_
      refine v_iconst (v := 1) hX dX7_keepLaid_80 (by decide) ?_
      exact v_zret hX hE dX7_keepLaid_81 (Or.inr rfl) h
    · have h := h_E c2 h
      refine v_aload_n hX dX7_keepLaid_42 3 rfl rfl ?_
      refine v_iload hX dX7_keepLaid_43 4 rfl ?_
      refine v_aload_n hX dX7_keepLaid_45 0 rfl rfl ?_
      refine v_getR hX dX7_keepLaid_46 f_RX7_48 rfl k1 ?_
      refine v_iload hX dX7_keepLaid_49 4 rfl ?_
      obtain ⟨a21, e_a21, h⟩ := h
      refine v_nn1 e_a21 ?_
      obtain ⟨k22, h⟩ := h
      obtain ⟨i23, h⟩ := h
      refine v_aald (k := 3) hX dX7_keepLaid_51 rfl rfl (by decide) (by decide) k22 i23 ?_
      obtain ⟨k24, h⟩ := h
      obtain ⟨i25, h⟩ := h
      obtain ⟨b26, h⟩ := h
      refine v_aastQ (k := 3) (ci := 3) hX dX7_keepLaid_52 rfl rfl (by decide) (by decide) k24 i25 b26 ?_
      refine v_iinc (c := 1) (lv' := [(4, _), (0, _), (1, _), (2, _), (3, _)]) hX dX7_keepLaid_53 4 rfl (by decide) (by decide) rfl ?_
      refine v_goto (tgt := 33) hX dX7_keepLaid_56 (by decide) ?_
      refine v_pick [1, 2, 3, 4, 0] rfl ?_
      exact hK33 _ _ _ _ _ _ _ _ h
set_option maxRecDepth 100000 in
set_option maxHeartbeats 4000000 in
theorem m_X7_keepLaid {Z : h_Z} {o0 : Nat} {x1 : Int32} {x2 : Int32} {s : h_S} {mc ms : Nat} {Q : Int32 → h_S → Prop} (h : w_X7_keepLaid o0 x1 x2 s mc ms Q) : h_M Z yX7_keepLaid cX7_keepLaid 5 (some .boolean) 2 43 [pR (some o0), pI x1, pI x2] s mc ms (h_QI Z Q) := by
  refine h_M.of (by decide) (Nat.le_of_ble_eq_true rfl) (fun X hZ hX hE hI => ?_)
  subst hZ
  unfold w_X7_keepLaid at h
  show h_V X 5 0 [(0, pR (some o0)), (1, pI x1), (2, pI x2)] [] s mc ms
  refine v_aload_n hX dX7_keepLaid_0 0 rfl rfl ?_
  obtain ⟨k1, h⟩ := h
  refine v_getI hX dX7_keepLaid_1 f_RX7_180 rfl k1 ?_
  refine v_bipush (v := 24) hX dX7_keepLaid_4 (by decide) ?_
  refine v_icmp_gt (tgt := 20) hX dX7_keepLaid_6 (by decide) (fun c2 => ?_) (fun c2 => ?_)
  · have h := h_T c2 h
    refine v_pick [] rfl ?_
    exact b_X7_keepLaid_20 hX hE _ h
  · have h := h_E c2 h
    refine v_iload_n hX dX7_keepLaid_9 1 rfl rfl ?_
    refine v_aload_n hX dX7_keepLaid_10 0 rfl rfl ?_
    refine v_getI hX dX7_keepLaid_11 f_RX7_57 rfl k1 ?_
    refine v_callSi hX dX7_keepLaid_14 c_RX7_68 cS_X11_within [pI _, pI _] rfl rfl (Nat.le_of_ble_eq_true rfl) (by decide) (by decide) (Nat.zero_le _) (Nat.zero_le _) (m_X11_within h) (fun p4 s3 h => ?_)
    refine v_if_ne (tgt := 22) hX dX7_keepLaid_17 (by decide) (fun c5 => ?_) (fun c5 => ?_)
    · have h := h_E c5 h
      refine v_aload_n hX dX7_keepLaid_22 0 rfl rfl ?_
      obtain ⟨k6, h⟩ := h
      refine v_getI hX dX7_keepLaid_23 f_RX7_180 rfl k6 ?_
      obtain ⟨n11, n12, b9, b10, h⟩ := h
      refine v_anew (k := 3) hX dX7_keepLaid_26 kl_RX7_21 ao_3 rfl (by decide) (by decide) rfl n11 n12 b9 b10 (fun q7 k8 => ?_)
      have h := h q7 k8
      refine v_astore_n (lv' := [(3, _), (0, _), (1, _), (2, _)]) hX dX7_keepLaid_29 rfl (by decide) rfl ?_
      refine v_iconst (v := 0) hX dX7_keepLaid_30 (by decide) ?_
      refine v_istore (lv' := [(4, _), (3, _), (0, _), (1, _), (2, _)]) hX dX7_keepLaid_31 (by decide) rfl ?_
      refine v_pick [2, 3, 4, 1, 0] rfl ?_
      obtain ⟨n, h⟩ := h
      exact b_X7_keepLaid_33 hX hE n _ _ _ _ _ _ _ _ h
    · have h := h_T c5 h
      refine v_pick [] rfl ?_
      exact b_X7_keepLaid_20 hX hE _ h
set_option maxRecDepth 100000 in
set_option maxHeartbeats 4000000 in
theorem b_X7_returnTo_37 {X : h_X} (hX : h_ok X cX7_returnTo 4 RX7 2 44) {Q : h_S → Prop} (hE : h_end X none (h_QV (x_Z X) Q)) (s : h_S) {bc bs : Nat} (h : w_X7_returnTo_37 Q s bc bs) : h_V X 4 37 [] [] s bc bs := by
  unfold w_X7_returnTo_37 at h
  exact v_vret hX hE dX7_returnTo_37 h
set_option maxRecDepth 100000 in
set_option maxHeartbeats 4000000 in
theorem m_X7_returnTo {Z : h_Z} {o0 : Nat} {x1 : Int32} {x2 : Int32} {x3 : Int32} {s : h_S} {mc ms : Nat} {Q : h_S → Prop} (h : w_X7_returnTo o0 x1 x2 x3 s mc ms Q) : h_M Z yX7_returnTo cX7_returnTo 4 none 2 44 [pR (some o0), pI x1, pI x2, pI x3] s mc ms (h_QV Z Q) := by
  refine h_M.of (by decide) (Nat.le_of_ble_eq_true rfl) (fun X hZ hX hE hI => ?_)
  subst hZ
  unfold w_X7_returnTo at h
  show h_V X 4 0 [(0, pR (some o0)), (1, pI x1), (2, pI x2), (3, pI x3)] [] s mc ms
  refine v_iload_n hX dX7_returnTo_0 1 rfl rfl ?_
  refine v_aload_n hX dX7_returnTo_1 0 rfl rfl ?_
  obtain ⟨k1, h⟩ := h
  refine v_getI hX dX7_returnTo_2 f_RX7_57 rfl k1 ?_
  refine v_callSi hX dX7_returnTo_5 c_RX7_68 cS_X11_within [pI _, pI _] rfl rfl (Nat.le_of_ble_eq_true rfl) (by decide) (by decide) (Nat.zero_le _) (Nat.zero_le _) (m_X11_within h) (fun p3 s2 h => ?_)
  refine v_if_eq (tgt := 37) hX dX7_returnTo_8 (by decide) (fun c4 => ?_) (fun c4 => ?_)
  · have h := h_T c4 h
    refine v_pick [] rfl ?_
    exact b_X7_returnTo_37 hX hE _ h
  · have h := h_E c4 h
    refine v_aload_n hX dX7_returnTo_11 0 rfl rfl ?_
    obtain ⟨k5, h⟩ := h
    refine v_getR hX dX7_returnTo_12 f_RX7_17 rfl k5 ?_
    refine v_iload_n hX dX7_returnTo_15 1 rfl rfl ?_
    obtain ⟨b8, b9, h⟩ := h
    refine v_new hX dX7_returnTo_16 n_RX7_15 b8 b9 (fun q6 k7 => ?_)
    have h := h q6 k7
    refine v_dup hX dX7_returnTo_19 rfl ?_
    refine v_iload_n hX dX7_returnTo_20 3 rfl rfl ?_
    refine v_aload_n hX dX7_returnTo_21 0 rfl rfl ?_
    refine v_iload_n hX dX7_returnTo_22 1 rfl rfl ?_
    refine v_iload_n hX dX7_returnTo_23 2 rfl rfl ?_
    obtain ⟨k13, h⟩ := h
    refine v_callVr hX dX7_returnTo_24 c_RX7_142 cV_X7_piecesAsOf (ci := 8) (T := TX7) (N := 13) rfl (by exact k13) [pI _, pI _] rfl rfl (Nat.le_of_ble_eq_true rfl) (by decide) (by decide) (Nat.zero_le _) (Nat.zero_le _) (m_X7_piecesAsOf h) (fun p15 s14 h => ?_)
    refine v_aload_n hX dX7_returnTo_27 0 rfl rfl ?_
    obtain ⟨k16, h⟩ := h
    refine v_getR hX dX7_returnTo_28 f_RX7_17 rfl k16 ?_
    refine v_iload_n hX dX7_returnTo_31 1 rfl rfl ?_
    obtain ⟨a17, e_a17, h⟩ := h
    refine v_nn1 e_a17 ?_
    obtain ⟨k18, h⟩ := h
    obtain ⟨i19, h⟩ := h
    refine v_aald (k := 4) hX dX7_returnTo_32 rfl rfl (by decide) (by decide) k18 i19 ?_
    refine v_callIv hX dX7_returnTo_33 c_RX7_65 cI_X4_init [pI _, pR _, pR _] rfl rfl (Nat.le_of_ble_eq_true rfl) (by decide) (by decide) (Nat.zero_le _) (Nat.zero_le _) (m_X4_init h) (fun s20 h => ?_)
    obtain ⟨a22, e_a22, h⟩ := h
    refine v_nn2 e_a22 ?_
    obtain ⟨k23, h⟩ := h
    obtain ⟨i24, h⟩ := h
    obtain ⟨k25, h⟩ := h
    refine v_aast (k := 4) (ci := 5) hX dX7_returnTo_36 rfl rfl (by decide) (by decide) k23 i24 k25 ?_
    refine v_pick [] rfl ?_
    exact b_X7_returnTo_37 hX hE _ h
set_option maxRecDepth 100000 in
set_option maxHeartbeats 4000000 in
theorem b_X7_endAtHome_30 {X : h_X} (hX : h_ok X cX7_endAtHome 5 RX7 4 85) {Q : Int32 → h_S → Prop} (hE : h_end X (some .int) (h_QI (x_Z X) Q)) {x1 : Int32} (s : h_S) (h : w_X7_endAtHome_30 Q x1 s) : h_V X 5 30 [(1, pI x1)] [] s 0 0 := by
  unfold w_X7_endAtHome_30 at h
  refine v_iload_n hX dX7_endAtHome_30 0 rfl rfl ?_
  exact v_iret hX hE dX7_endAtHome_31 h
set_option maxRecDepth 100000 in
set_option maxHeartbeats 4000000 in
theorem m_X7_endAtHome {Z : h_Z} {o0 : Nat} {x1 : Int32} {x2 : Int32} {x3 : Int32} {s : h_S} {Q : Int32 → h_S → Prop} (h : w_X7_endAtHome o0 x1 x2 x3 s Q) : h_M Z yX7_endAtHome cX7_endAtHome 5 (some .int) 4 85 [pR (some o0), pI x1, pI x2, pI x3] s 0 0 (h_QI Z Q) := by
  refine h_M.of (by decide) (Nat.le_of_ble_eq_true rfl) (fun X hZ hX hE hI => ?_)
  subst hZ
  unfold w_X7_endAtHome at h
  show h_V X 5 0 [(0, pR (some o0)), (1, pI x1), (2, pI x2), (3, pI x3)] [] s 0 0
  refine v_aload_n hX dX7_endAtHome_0 0 rfl rfl ?_
  refine v_iload_n hX dX7_endAtHome_1 3 rfl rfl ?_
  obtain ⟨k1, h⟩ := h
  refine v_callVr hX dX7_endAtHome_2 c_RX7_93 cV_X7_wordAt (ci := 8) (T := TX7) (N := 13) rfl (by exact k1) [pI _] rfl rfl (Nat.le_of_ble_eq_true rfl) (by decide) (by decide) (Nat.zero_le _) (Nat.zero_le _) (m_X7_wordAt h) (fun p3 s2 h => ?_)
  refine v_astore (lv' := [(4, _), (0, _), (1, _), (2, _), (3, _)]) hX dX7_endAtHome_5 (by decide) rfl ?_
  refine v_aload hX dX7_endAtHome_7 0 rfl ?_
  refine v_ifnull (tgt := 30) hX dX7_endAtHome_9 (by decide) (fun c4 => ?_) (fun c4 => ?_)
  · have h := h_T c4 h
    refine v_pick [2] rfl ?_
    exact b_X7_endAtHome_30 hX hE _ h
  · have h := h_E c4 h
    refine v_aload hX dX7_endAtHome_12 0 rfl ?_
    obtain ⟨a5, e_a5, h⟩ := h
    refine v_nn0 e_a5 ?_
    obtain ⟨k6, h⟩ := h
    refine v_getI hX dX7_endAtHome_14 f_RX7_103 rfl k6 ?_
    refine v_iload_n hX dX7_endAtHome_17 3 rfl rfl ?_
    refine v_icmp_eq (tgt := 30) hX dX7_endAtHome_18 (by decide) (fun c7 => ?_) (fun c7 => ?_)
    · have h := h_T c7 h
      refine v_pick [2] rfl ?_
      exact b_X7_endAtHome_30 hX hE _ h
    · have h := h_E c7 h
      refine v_iload_n hX dX7_endAtHome_21 2 rfl rfl ?_
      refine v_aload_n hX dX7_endAtHome_22 1 rfl rfl ?_
      obtain ⟨k8, h⟩ := h
      refine v_getR hX dX7_endAtHome_23 f_RX7_54 rfl k8 ?_
      obtain ⟨a9, e_a9, h⟩ := h
      refine v_nn0 e_a9 ?_
      obtain ⟨k10, h⟩ := h
      refine v_alenK hX dX7_endAtHome_26 (k := 1) rfl (by decide) (by decide) k10 ?_
      refine v_icmp_lt (tgt := 32) hX dX7_endAtHome_27 (by decide) (fun c11 => ?_) (fun c11 => ?_)
      · have h := h_T c11 h
        refine v_aload_n hX dX7_endAtHome_32 1 rfl rfl ?_
        refine v_getR hX dX7_endAtHome_33 f_RX7_54 rfl k8 ?_
        refine v_iload_n hX dX7_endAtHome_36 2 rfl rfl ?_
        refine v_aload hX dX7_endAtHome_37 0 rfl ?_
        obtain ⟨a12, e_a12, h⟩ := h
        refine v_nn0 e_a12 ?_
        obtain ⟨k13, h⟩ := h
        refine v_getI hX dX7_endAtHome_39 f_RX7_103 rfl k13 ?_
        obtain ⟨a14, e_a14, h⟩ := h
        refine v_nn2 e_a14 ?_
        obtain ⟨k15, h⟩ := h
        obtain ⟨i16, h⟩ := h
        refine v_iast hX dX7_endAtHome_42 k15 i16 ?_
        refine v_iload_n hX dX7_endAtHome_43 2 rfl rfl ?_
        refine v_iconst (v := 1) hX dX7_endAtHome_44 (by decide) ?_
        refine v_iadd hX dX7_endAtHome_45 ?_
        exact v_iret hX hE dX7_endAtHome_46 h
      · have h := h_E c11 h
        refine v_pick [2] rfl ?_
        exact b_X7_endAtHome_30 hX hE _ h
set_option maxRecDepth 100000 in
set_option maxHeartbeats 4000000 in
theorem b_X7_livesOf_45 {X : h_X} (hX : h_ok X cX7_livesOf 5 RX7 2 42) {Q : Int32 → h_S → Prop} (hE : h_end X (some .int) (h_QI (x_Z X) Q)) {K4 : Nat → Int32 → Int32 → Int32 → h_S → Prop} (hK4 : ∀ (o0 : Nat) (x1 : Int32) (x2 : Int32) (x3 : Int32) (s : h_S), K4 o0 x1 x2 x3 s → h_V X 5 4 [(0, pR (some o0)), (1, pI x1), (2, pI x2), (3, pI x3)] [] s 0 0) {o0 : Nat} {x1 : Int32} {x2 : Int32} {x3 : Int32} (s : h_S) (h : w_X7_livesOf_45 Q K4 o0 x1 x2 x3 s) : h_V X 5 45 [(0, pR (some o0)), (1, pI x1), (2, pI x2), (3, pI x3)] [] s 0 0 := by
  unfold w_X7_livesOf_45 at h
  refine v_iinc (c := 1) (lv' := [(3, _), (0, _), (1, _), (2, _)]) hX dX7_livesOf_45 3 rfl (by decide) (by decide) rfl ?_
  refine v_goto (tgt := 4) hX dX7_livesOf_48 (by decide) ?_
  refine v_pick [1, 2, 3, 0] rfl ?_
  exact hK4 _ _ _ _ _ h
set_option maxRecDepth 100000 in
set_option maxHeartbeats 4000000 in
theorem b_X7_livesOf_4 {X : h_X} (hX : h_ok X cX7_livesOf 5 RX7 2 42) {Q : Int32 → h_S → Prop} (hE : h_end X (some .int) (h_QI (x_Z X) Q)) : ∀ (n : Nat) (o0 : Nat) (x1 : Int32) (x2 : Int32) (x3 : Int32) (s : h_S), w_X7_livesOf_4 Q n o0 x1 x2 x3 s → h_V X 5 4 [(0, pR (some o0)), (1, pI x1), (2, pI x2), (3, pI x3)] [] s 0 0 := by
  intro n
  induction n with
  | zero => intro _ _ _ _ s h; exact h.elim
  | succ n hK4 =>
    intro o0 x1 x2 x3 s h
    have h : w_X7_livesOf_4b Q (w_X7_livesOf_4 Q n) o0 x1 x2 x3 s := h
    unfold w_X7_livesOf_4b at h
    refine v_iload_n hX dX7_livesOf_4 3 rfl rfl ?_
    refine v_aload_n hX dX7_livesOf_5 0 rfl rfl ?_
    refine v_iload_n hX dX7_livesOf_6 1 rfl rfl ?_
    obtain ⟨k1, h⟩ := h
    refine v_callVi hX dX7_livesOf_7 c_RX7_119 cV_X7_pieceCount (ci := 8) (T := TX7) (N := 13) rfl (by exact k1) [pI _] rfl rfl (Nat.le_of_ble_eq_true rfl) (by decide) (by decide) (Nat.zero_le _) (Nat.zero_le _) (m_X7_pieceCount h) (fun p3 s2 h => ?_)
    refine v_icmp_ge (tgt := 51) hX dX7_livesOf_10 (by decide) (fun c4 => ?_) (fun c4 => ?_)
    · have h := h_T c4 h
      refine v_iload_n hX dX7_livesOf_51 2 rfl rfl ?_
      exact v_iret hX hE dX7_livesOf_52 h
    · have h := h_E c4 h
      refine v_aload_n hX dX7_livesOf_13 0 rfl rfl ?_
      obtain ⟨k5, h⟩ := h
      refine v_getR hX dX7_livesOf_14 f_RX7_17 rfl k5 ?_
      refine v_iload_n hX dX7_livesOf_17 1 rfl rfl ?_
      obtain ⟨a6, e_a6, h⟩ := h
      refine v_nn1 e_a6 ?_
      obtain ⟨k7, h⟩ := h
      obtain ⟨i8, h⟩ := h
      refine v_aald (k := 4) hX dX7_livesOf_18 rfl rfl (by decide) (by decide) k7 i8 ?_
      obtain ⟨a9, e_a9, h⟩ := h
      refine v_nn0 e_a9 ?_
      obtain ⟨k10, h⟩ := h
      refine v_getR hX dX7_livesOf_19 f_RX7_112 rfl k10 ?_
      refine v_iload_n hX dX7_livesOf_22 3 rfl rfl ?_
      obtain ⟨a11, e_a11, h⟩ := h
      refine v_nn1 e_a11 ?_
      obtain ⟨k12, h⟩ := h
      obtain ⟨i13, h⟩ := h
      refine v_aald (k := 3) hX dX7_livesOf_23 rfl rfl (by decide) (by decide) k12 i13 ?_
      refine v_astore (lv' := [(4, _), (0, _), (1, _), (2, _), (3, _)]) hX dX7_livesOf_24 (by decide) rfl ?_
      refine v_aload hX dX7_livesOf_26 0 rfl ?_
      obtain ⟨a14, e_a14, h⟩ := h
      refine v_nn0 e_a14 ?_
      obtain ⟨k15, h⟩ := h
      refine v_getI hX dX7_livesOf_28 f_RX7_228 rfl k15 ?_
      refine v_iconst (v := 3) hX dX7_livesOf_31 (by decide) ?_
      refine v_icmp_ne (tgt := 45) hX dX7_livesOf_32 (by decide) (fun c16 => ?_) (fun c16 => ?_)
      · have h := h_E c16 h
        refine v_pick [1, 2, 3, 4] rfl ?_
        exact b_X7_livesOf_45 hX hE hK4 _ h
      · have h := h_T c16 h
        refine v_iload_n hX dX7_livesOf_35 3 rfl rfl ?_
        refine v_iconst (v := 1) hX dX7_livesOf_36 (by decide) ?_
        refine v_aload hX dX7_livesOf_37 0 rfl ?_
        obtain ⟨a17, e_a17, h⟩ := h
        refine v_nn0 e_a17 ?_
        obtain ⟨k18, h⟩ := h
        refine v_getI hX dX7_livesOf_39 f_RX7_161 rfl k18 ?_
        refine v_ishl hX dX7_livesOf_42 ?_
        refine v_ior hX dX7_livesOf_43 ?_
        refine v_istore_n (lv' := [(2, _), (4, _), (0, _), (1, _), (3, _)]) hX dX7_livesOf_44 rfl (by decide) rfl ?_
        refine v_pick [2, 3, 0, 4] rfl ?_
        exact b_X7_livesOf_45 hX hE hK4 _ h
set_option maxRecDepth 100000 in
set_option maxHeartbeats 4000000 in
theorem m_X7_livesOf {Z : h_Z} {o0 : Nat} {x1 : Int32} {s : h_S} {Q : Int32 → h_S → Prop} (h : w_X7_livesOf o0 x1 s Q) : h_M Z yX7_livesOf cX7_livesOf 5 (some .int) 2 42 [pR (some o0), pI x1] s 0 0 (h_QI Z Q) := by
  refine h_M.of (by decide) (Nat.le_of_ble_eq_true rfl) (fun X hZ hX hE hI => ?_)
  subst hZ
  unfold w_X7_livesOf at h
  show h_V X 5 0 [(0, pR (some o0)), (1, pI x1)] [] s 0 0
  refine v_iconst (v := 0) hX dX7_livesOf_0 (by decide) ?_
  refine v_istore_n (lv' := [(2, _), (0, _), (1, _)]) hX dX7_livesOf_1 rfl (by decide) rfl ?_
  refine v_iconst (v := 0) hX dX7_livesOf_2 (by decide) ?_
  refine v_istore_n (lv' := [(3, _), (2, _), (0, _), (1, _)]) hX dX7_livesOf_3 rfl (by decide) rfl ?_
  refine v_pick [2, 3, 1, 0] rfl ?_
  obtain ⟨n, h⟩ := h
  exact b_X7_livesOf_4 hX hE n _ _ _ _ _ h
set_option maxRecDepth 100000 in
set_option maxHeartbeats 4000000 in
theorem b_X7_quotedBy_73 {X : h_X} (hX : h_ok X cX7_quotedBy 5 RX7 5 110) {Q : Int32 → h_S → Prop} (hE : h_end X (some .int) (h_QI (x_Z X) Q)) {K4 : Nat → Int32 → Int32 → Int32 → h_S → Prop} (hK4 : ∀ (o0 : Nat) (x1 : Int32) (x2 : Int32) (x3 : Int32) (s : h_S), K4 o0 x1 x2 x3 s → h_V X 5 4 [(0, pR (some o0)), (1, pI x1), (2, pI x2), (3, pI x3)] [] s 0 0) {o0 : Nat} {x1 : Int32} {x2 : Int32} {x3 : Int32} (s : h_S) (h : w_X7_quotedBy_73 Q K4 o0 x1 x2 x3 s) : h_V X 5 73 [(0, pR (some o0)), (1, pI x1), (2, pI x2), (3, pI x3)] [] s 0 0 := by
  unfold w_X7_quotedBy_73 at h
  refine v_iinc (c := 1) (lv' := [(3, _), (0, _), (1, _), (2, _)]) hX dX7_quotedBy_73 3 rfl (by decide) (by decide) rfl ?_
  refine v_goto (tgt := 4) hX dX7_quotedBy_76 (by decide) ?_
  refine v_pick [1, 2, 3, 0] rfl ?_
  exact hK4 _ _ _ _ _ h
set_option maxRecDepth 100000 in
set_option maxHeartbeats 4000000 in
theorem b_X7_quotedBy_4 {X : h_X} (hX : h_ok X cX7_quotedBy 5 RX7 5 110) {Q : Int32 → h_S → Prop} (hE : h_end X (some .int) (h_QI (x_Z X) Q)) : ∀ (n : Nat) (o0 : Nat) (x1 : Int32) (x2 : Int32) (x3 : Int32) (s : h_S), w_X7_quotedBy_4 Q n o0 x1 x2 x3 s → h_V X 5 4 [(0, pR (some o0)), (1, pI x1), (2, pI x2), (3, pI x3)] [] s 0 0 := by
  intro n
  induction n with
  | zero => intro _ _ _ _ s h; exact h.elim
  | succ n hK4 =>
    intro o0 x1 x2 x3 s h
    have h : w_X7_quotedBy_4b Q (w_X7_quotedBy_4 Q n) o0 x1 x2 x3 s := h
    unfold w_X7_quotedBy_4b at h
    refine v_iload_n hX dX7_quotedBy_4 3 rfl rfl ?_
    refine v_aload_n hX dX7_quotedBy_5 0 rfl rfl ?_
    refine v_iload_n hX dX7_quotedBy_6 1 rfl rfl ?_
    obtain ⟨k1, h⟩ := h
    refine v_callVi hX dX7_quotedBy_7 c_RX7_119 cV_X7_pieceCount (ci := 8) (T := TX7) (N := 13) rfl (by exact k1) [pI _] rfl rfl (Nat.le_of_ble_eq_true rfl) (by decide) (by decide) (Nat.zero_le _) (Nat.zero_le _) (m_X7_pieceCount h) (fun p3 s2 h => ?_)
    refine v_icmp_ge (tgt := 79) hX dX7_quotedBy_10 (by decide) (fun c4 => ?_) (fun c4 => ?_)
    · have h := h_T c4 h
      refine v_iload_n hX dX7_quotedBy_79 2 rfl rfl ?_
      exact v_iret hX hE dX7_quotedBy_80 h
    · have h := h_E c4 h
      refine v_aload_n hX dX7_quotedBy_13 0 rfl rfl ?_
      obtain ⟨k5, h⟩ := h
      refine v_getR hX dX7_quotedBy_14 f_RX7_17 rfl k5 ?_
      refine v_iload_n hX dX7_quotedBy_17 1 rfl rfl ?_
      obtain ⟨a6, e_a6, h⟩ := h
      refine v_nn1 e_a6 ?_
      obtain ⟨k7, h⟩ := h
      obtain ⟨i8, h⟩ := h
      refine v_aald (k := 4) hX dX7_quotedBy_18 rfl rfl (by decide) (by decide) k7 i8 ?_
      obtain ⟨a9, e_a9, h⟩ := h
      refine v_nn0 e_a9 ?_
      obtain ⟨k10, h⟩ := h
      refine v_getR hX dX7_quotedBy_19 f_RX7_112 rfl k10 ?_
      refine v_iload_n hX dX7_quotedBy_22 3 rfl rfl ?_
      obtain ⟨a11, e_a11, h⟩ := h
      refine v_nn1 e_a11 ?_
      obtain ⟨k12, h⟩ := h
      obtain ⟨i13, h⟩ := h
      refine v_aald (k := 3) hX dX7_quotedBy_23 rfl rfl (by decide) (by decide) k12 i13 ?_
      refine v_astore (lv' := [(4, _), (0, _), (1, _), (2, _), (3, _)]) hX dX7_quotedBy_24 (by decide) rfl ?_
      refine v_aload hX dX7_quotedBy_26 0 rfl ?_
      obtain ⟨a14, e_a14, h⟩ := h
      refine v_nn0 e_a14 ?_
      obtain ⟨k15, h⟩ := h
      refine v_getI hX dX7_quotedBy_28 f_RX7_228 rfl k15 ?_
      refine v_iconst (v := 1) hX dX7_quotedBy_31 (by decide) ?_
      refine v_icmp_ne (tgt := 55) hX dX7_quotedBy_32 (by decide) (fun c16 => ?_) (fun c16 => ?_)
      · have h := h_E c16 h
        refine v_aload hX dX7_quotedBy_55 0 rfl ?_
        obtain ⟨a17, e_a17, h⟩ := h
        refine v_nn0 e_a17 ?_
        obtain ⟨k18, h⟩ := h
        refine v_callVi hX dX7_quotedBy_57 c_RX7_154 cV_X2_hasWords (ci := 3) (T := TX2) (N := 5) rfl (by exact k18) [] rfl rfl (Nat.le_of_ble_eq_true rfl) (by decide) (by decide) (Nat.zero_le _) (Nat.zero_le _) (m_X2_hasWords h) (fun p20 s19 h => ?_)
        refine v_if_ne (tgt := 73) hX dX7_quotedBy_60 (by decide) (fun c21 => ?_) (fun c21 => ?_)
        · have h := h_E c21 h
          refine v_pick [1, 2, 3, 4] rfl ?_
          exact b_X7_quotedBy_73 hX hE hK4 _ h
        · have h := h_T c21 h
          refine v_iload_n hX dX7_quotedBy_63 3 rfl rfl ?_
          refine v_iconst (v := 1) hX dX7_quotedBy_64 (by decide) ?_
          refine v_aload hX dX7_quotedBy_65 0 rfl ?_
          obtain ⟨a22, e_a22, h⟩ := h
          refine v_nn0 e_a22 ?_
          obtain ⟨k23, h⟩ := h
          refine v_getI hX dX7_quotedBy_67 f_RX7_161 rfl k23 ?_
          refine v_ishl hX dX7_quotedBy_70 ?_
          refine v_ior hX dX7_quotedBy_71 ?_
          refine v_istore_n (lv' := [(2, _), (4, _), (0, _), (1, _), (3, _)]) hX dX7_quotedBy_72 rfl (by decide) rfl ?_
          refine v_pick [2, 3, 0, 4] rfl ?_
          exact b_X7_quotedBy_73 hX hE hK4 _ h
      · have h := h_T c16 h
        refine v_iload_n hX dX7_quotedBy_35 3 rfl rfl ?_
        refine v_aload_n hX dX7_quotedBy_36 1 rfl rfl ?_
        refine v_aload hX dX7_quotedBy_37 0 rfl ?_
        obtain ⟨a25, e_a25, h⟩ := h
        refine v_nn0 e_a25 ?_
        obtain ⟨k26, h⟩ := h
        refine v_getI hX dX7_quotedBy_39 f_RX7_158 rfl k26 ?_
        refine v_aload hX dX7_quotedBy_42 0 rfl ?_
        obtain ⟨a27, e_a27, h⟩ := h
        refine v_nn0 e_a27 ?_
        obtain ⟨k28, h⟩ := h
        refine v_getI hX dX7_quotedBy_44 f_RX7_157 rfl k28 ?_
        refine v_callVi hX dX7_quotedBy_47 c_RX7_231 cV_X7_homesOf (ci := 8) (T := TX7) (N := 13) rfl (by exact k5) [pI _, pI _] rfl rfl (Nat.le_of_ble_eq_true rfl) (by decide) (by decide) (Nat.zero_le _) (Nat.zero_le _) (m_X7_homesOf h) (fun p30 s29 h => ?_)
        refine v_ior hX dX7_quotedBy_50 ?_
        refine v_istore_n (lv' := [(2, _), (4, _), (0, _), (1, _), (3, _)]) hX dX7_quotedBy_51 rfl (by decide) rfl ?_
        refine v_goto (tgt := 73) hX dX7_quotedBy_52 (by decide) ?_
        refine v_pick [2, 3, 0, 4] rfl ?_
        exact b_X7_quotedBy_73 hX hE hK4 _ h
set_option maxRecDepth 100000 in
set_option maxHeartbeats 4000000 in
theorem m_X7_quotedBy {Z : h_Z} {o0 : Nat} {x1 : Int32} {s : h_S} {Q : Int32 → h_S → Prop} (h : w_X7_quotedBy o0 x1 s Q) : h_M Z yX7_quotedBy cX7_quotedBy 5 (some .int) 5 110 [pR (some o0), pI x1] s 0 0 (h_QI Z Q) := by
  refine h_M.of (by decide) (Nat.le_of_ble_eq_true rfl) (fun X hZ hX hE hI => ?_)
  subst hZ
  unfold w_X7_quotedBy at h
  show h_V X 5 0 [(0, pR (some o0)), (1, pI x1)] [] s 0 0
  refine v_iconst (v := 0) hX dX7_quotedBy_0 (by decide) ?_
  refine v_istore_n (lv' := [(2, _), (0, _), (1, _)]) hX dX7_quotedBy_1 rfl (by decide) rfl ?_
  refine v_iconst (v := 0) hX dX7_quotedBy_2 (by decide) ?_
  refine v_istore_n (lv' := [(3, _), (2, _), (0, _), (1, _)]) hX dX7_quotedBy_3 rfl (by decide) rfl ?_
  refine v_pick [2, 3, 1, 0] rfl ?_
  obtain ⟨n, h⟩ := h
  exact b_X7_quotedBy_4 hX hE n _ _ _ _ _ h
set_option maxRecDepth 100000 in
set_option maxHeartbeats 4000000 in
theorem b_X7_stepsBetween_82 {X : h_X} (hX : h_ok X cX7_stepsBetween 9 RX7 6 134) {Q : Int32 → h_S → Prop} (hE : h_end X (some .int) (h_QI (x_Z X) Q)) {K12 : Nat → Int32 → Int32 → Int32 → Int32 → Int32 → h_S → Prop} (hK12 : ∀ (o0 : Nat) (x2 : Int32) (x3 : Int32) (x4 : Int32) (x5 : Int32) (x6 : Int32) (s : h_S), K12 o0 x2 x3 x4 x5 x6 s → h_V X 9 12 [(0, pR (some o0)), (2, pI x2), (3, pI x3), (4, pI x4), (5, pI x5), (6, pI x6)] [] s 0 0) {K38 : Nat → Int32 → Int32 → Int32 → Int32 → Int32 → Int32 → Int32 → h_S → Prop} (hK38 : ∀ (o0 : Nat) (x2 : Int32) (x3 : Int32) (x4 : Int32) (x5 : Int32) (x6 : Int32) (x7 : Int32) (x8 : Int32) (s : h_S), K38 o0 x2 x3 x4 x5 x6 x7 x8 s → h_V X 9 38 [(0, pR (some o0)), (2, pI x2), (3, pI x3), (4, pI x4), (5, pI x5), (6, pI x6), (7, pI x7), (8, pI x8)] [] s 0 0) {o0 : Nat} {x2 : Int32} {x3 : Int32} {x4 : Int32} {x5 : Int32} {x6 : Int32} {x7 : Int32} {x8 : Int32} (s : h_S) (h : w_X7_stepsBetween_82 Q K12 K38 o0 x2 x3 x4 x5 x6 x7 x8 s) : h_V X 9 82 [(0, pR (some o0)), (2, pI x2), (3, pI x3), (4, pI x4), (5, pI x5), (6, pI x6), (7, pI x7), (8, pI x8)] [] s 0 0 := by
  unfold w_X7_stepsBetween_82 at h
  refine v_iinc (c := 1) (lv' := [(8, _), (0, _), (2, _), (3, _), (4, _), (5, _), (6, _), (7, _)]) hX dX7_stepsBetween_82 7 rfl (by decide) (by decide) rfl ?_
  refine v_goto (tgt := 38) hX dX7_stepsBetween_85 (by decide) ?_
  refine v_pick [1, 2, 3, 4, 5, 6, 7, 0] rfl ?_
  exact hK38 _ _ _ _ _ _ _ _ _ h
set_option maxRecDepth 100000 in
set_option maxHeartbeats 4000000 in
theorem b_X7_stepsBetween_79 {X : h_X} (hX : h_ok X cX7_stepsBetween 9 RX7 6 134) {Q : Int32 → h_S → Prop} (hE : h_end X (some .int) (h_QI (x_Z X) Q)) {K12 : Nat → Int32 → Int32 → Int32 → Int32 → Int32 → h_S → Prop} (hK12 : ∀ (o0 : Nat) (x2 : Int32) (x3 : Int32) (x4 : Int32) (x5 : Int32) (x6 : Int32) (s : h_S), K12 o0 x2 x3 x4 x5 x6 s → h_V X 9 12 [(0, pR (some o0)), (2, pI x2), (3, pI x3), (4, pI x4), (5, pI x5), (6, pI x6)] [] s 0 0) {K38 : Nat → Int32 → Int32 → Int32 → Int32 → Int32 → Int32 → Int32 → h_S → Prop} (hK38 : ∀ (o0 : Nat) (x2 : Int32) (x3 : Int32) (x4 : Int32) (x5 : Int32) (x6 : Int32) (x7 : Int32) (x8 : Int32) (s : h_S), K38 o0 x2 x3 x4 x5 x6 x7 x8 s → h_V X 9 38 [(0, pR (some o0)), (2, pI x2), (3, pI x3), (4, pI x4), (5, pI x5), (6, pI x6), (7, pI x7), (8, pI x8)] [] s 0 0) {o0 : Nat} {x2 : Int32} {x3 : Int32} {x4 : Int32} {x5 : Int32} {x6 : Int32} {x8 : Int32} {y0 : Int32} {y1 : Int32} (s : h_S) (h : w_X7_stepsBetween_79 Q K12 K38 o0 x2 x3 x4 x5 x6 x8 y0 y1 s) : h_V X 9 79 [(0, pR (some o0)), (2, pI x2), (3, pI x3), (4, pI x4), (5, pI x5), (6, pI x6), (8, pI x8)] [pI y0, pI y1] s 0 0 := by
  unfold w_X7_stepsBetween_79 at h
  refine v_ior hX dX7_stepsBetween_79 ?_
  refine v_istore (lv' := [(7, _), (0, _), (2, _), (3, _), (4, _), (5, _), (6, _), (8, _)]) hX dX7_stepsBetween_80 (by decide) rfl ?_
  refine v_pick [1, 2, 3, 4, 5, 6, 0, 7] rfl ?_
  exact b_X7_stepsBetween_82 hX hE hK12 hK38 _ h
set_option maxRecDepth 100000 in
set_option maxHeartbeats 4000000 in
theorem b_X7_stepsBetween_38 {X : h_X} (hX : h_ok X cX7_stepsBetween 9 RX7 6 134) {Q : Int32 → h_S → Prop} (hE : h_end X (some .int) (h_QI (x_Z X) Q)) {K12 : Nat → Int32 → Int32 → Int32 → Int32 → Int32 → h_S → Prop} (hK12 : ∀ (o0 : Nat) (x2 : Int32) (x3 : Int32) (x4 : Int32) (x5 : Int32) (x6 : Int32) (s : h_S), K12 o0 x2 x3 x4 x5 x6 s → h_V X 9 12 [(0, pR (some o0)), (2, pI x2), (3, pI x3), (4, pI x4), (5, pI x5), (6, pI x6)] [] s 0 0) : ∀ (n : Nat) (o0 : Nat) (x2 : Int32) (x3 : Int32) (x4 : Int32) (x5 : Int32) (x6 : Int32) (x7 : Int32) (x8 : Int32) (s : h_S), w_X7_stepsBetween_38 Q K12 n o0 x2 x3 x4 x5 x6 x7 x8 s → h_V X 9 38 [(0, pR (some o0)), (2, pI x2), (3, pI x3), (4, pI x4), (5, pI x5), (6, pI x6), (7, pI x7), (8, pI x8)] [] s 0 0 := by
  intro n
  induction n with
  | zero => intro _ _ _ _ _ _ _ _ s h; exact h.elim
  | succ n hK38 =>
    intro o0 x2 x3 x4 x5 x6 x7 x8 s h
    have h : w_X7_stepsBetween_38b Q K12 (w_X7_stepsBetween_38 Q K12 n) o0 x2 x3 x4 x5 x6 x7 x8 s := h
    unfold w_X7_stepsBetween_38b at h
    refine v_iload hX dX7_stepsBetween_38 7 rfl ?_
    refine v_aload_n hX dX7_stepsBetween_40 0 rfl rfl ?_
    obtain ⟨k1, h⟩ := h
    refine v_getI hX dX7_stepsBetween_41 f_RX7_57 rfl k1 ?_
    refine v_icmp_ge (tgt := 88) hX dX7_stepsBetween_44 (by decide) (fun c2 => ?_) (fun c2 => ?_)
    · have h := h_T c2 h
      refine v_iload hX dX7_stepsBetween_88 6 rfl ?_
      refine v_iload hX dX7_stepsBetween_90 3 rfl ?_
      refine v_iconst (v := -1) hX dX7_stepsBetween_92 (by decide) ?_
      refine v_ixor hX dX7_stepsBetween_93 ?_
      refine v_iand hX dX7_stepsBetween_94 ?_
      refine v_istore (lv' := [(5, _), (0, _), (2, _), (3, _), (4, _), (6, _), (7, _), (8, _)]) hX dX7_stepsBetween_95 (by decide) rfl ?_
      refine v_iload hX dX7_stepsBetween_97 4 rfl ?_
      refine v_iload hX dX7_stepsBetween_99 0 rfl ?_
      refine v_ior hX dX7_stepsBetween_101 ?_
      refine v_istore (lv' := [(4, _), (5, _), (0, _), (2, _), (3, _), (6, _), (7, _), (8, _)]) hX dX7_stepsBetween_102 (by decide) rfl ?_
      refine v_iinc (c := 1) (lv' := [(6, _), (4, _), (5, _), (0, _), (2, _), (3, _), (7, _), (8, _)]) hX dX7_stepsBetween_104 5 rfl (by decide) (by decide) rfl ?_
      refine v_goto (tgt := 12) hX dX7_stepsBetween_107 (by decide) ?_
      refine v_pick [3, 4, 5, 1, 2, 0] rfl ?_
      exact hK12 _ _ _ _ _ _ _ h
    · have h := h_E c2 h
      refine v_iload hX dX7_stepsBetween_47 4 rfl ?_
      refine v_iload hX dX7_stepsBetween_49 7 rfl ?_
      refine v_ishr hX dX7_stepsBetween_51 ?_
      refine v_iconst (v := 1) hX dX7_stepsBetween_52 (by decide) ?_
      refine v_iand hX dX7_stepsBetween_53 ?_
      refine v_iconst (v := 1) hX dX7_stepsBetween_54 (by decide) ?_
      refine v_icmp_ne (tgt := 82) hX dX7_stepsBetween_55 (by decide) (fun c4 => ?_) (fun c4 => ?_)
      · have h := h_E c4 h
        refine v_pick [0, 1, 2, 3, 4, 5, 6, 7] rfl ?_
        exact b_X7_stepsBetween_82 hX hE hK12 hK38 _ h
      · have h := h_T c4 h
        refine v_iload hX dX7_stepsBetween_58 6 rfl ?_
        refine v_iload_n hX dX7_stepsBetween_60 2 rfl rfl ?_
        refine v_if_eq (tgt := 73) hX dX7_stepsBetween_61 (by decide) (fun c5 => ?_) (fun c5 => ?_)
        · have h := h_T c5 h
          refine v_aload_n hX dX7_stepsBetween_73 0 rfl rfl ?_
          refine v_iload hX dX7_stepsBetween_74 7 rfl ?_
          refine v_callVi hX dX7_stepsBetween_76 c_RX7_225 cV_X7_quotedBy (ci := 8) (T := TX7) (N := 13) rfl (by exact k1) [pI _] rfl rfl (Nat.le_of_ble_eq_true rfl) (by decide) (by decide) (Nat.zero_le _) (Nat.zero_le _) (m_X7_quotedBy h) (fun p7 s6 h => ?_)
          refine v_pick [0, 1, 2, 3, 4, 5, 7] rfl ?_
          exact b_X7_stepsBetween_79 hX hE hK12 hK38 _ h
        · have h := h_E c5 h
          refine v_aload_n hX dX7_stepsBetween_64 0 rfl rfl ?_
          refine v_iload hX dX7_stepsBetween_65 7 rfl ?_
          refine v_callVi hX dX7_stepsBetween_67 c_RX7_222 cV_X7_livesOf (ci := 8) (T := TX7) (N := 13) rfl (by exact k1) [pI _] rfl rfl (Nat.le_of_ble_eq_true rfl) (by decide) (by decide) (Nat.zero_le _) (Nat.zero_le _) (m_X7_livesOf h) (fun p9 s8 h => ?_)
          refine v_goto (tgt := 79) hX dX7_stepsBetween_70 (by decide) ?_
          refine v_pick [0, 1, 2, 3, 4, 5, 7] rfl ?_
          exact b_X7_stepsBetween_79 hX hE hK12 hK38 _ h
set_option maxRecDepth 100000 in
set_option maxHeartbeats 4000000 in
theorem b_X7_stepsBetween_12 {X : h_X} (hX : h_ok X cX7_stepsBetween 9 RX7 6 134) {Q : Int32 → h_S → Prop} (hE : h_end X (some .int) (h_QI (x_Z X) Q)) : ∀ (n : Nat) (o0 : Nat) (x2 : Int32) (x3 : Int32) (x4 : Int32) (x5 : Int32) (x6 : Int32) (s : h_S), w_X7_stepsBetween_12 Q n o0 x2 x3 x4 x5 x6 s → h_V X 9 12 [(0, pR (some o0)), (2, pI x2), (3, pI x3), (4, pI x4), (5, pI x5), (6, pI x6)] [] s 0 0 := by
  intro n
  induction n with
  | zero => intro _ _ _ _ _ _ s h; exact h.elim
  | succ n hK12 =>
    intro o0 x2 x3 x4 x5 x6 s h
    have h : w_X7_stepsBetween_12b Q (w_X7_stepsBetween_12 Q n) o0 x2 x3 x4 x5 x6 s := h
    unfold w_X7_stepsBetween_12b at h
    refine v_iload hX dX7_stepsBetween_12 5 rfl ?_
    refine v_bipush (v := 12) hX dX7_stepsBetween_14 (by decide) ?_
    refine v_icmp_ge (tgt := 110) hX dX7_stepsBetween_16 (by decide) (fun c1 => ?_) (fun c1 => ?_)
    · have h := h_T c1 h
      refine v_bipush (v := -9) hX dX7_stepsBetween_110 (by decide) ?_
      exact v_iret hX hE dX7_stepsBetween_112 h
    · have h := h_E c1 h
      refine v_iload hX dX7_stepsBetween_19 4 rfl ?_
      refine v_iload_n hX dX7_stepsBetween_21 1 rfl rfl ?_
      refine v_ishr hX dX7_stepsBetween_22 ?_
      refine v_iconst (v := 1) hX dX7_stepsBetween_23 (by decide) ?_
      refine v_iand hX dX7_stepsBetween_24 ?_
      refine v_iconst (v := 1) hX dX7_stepsBetween_25 (by decide) ?_
      refine v_icmp_ne (tgt := 32) hX dX7_stepsBetween_26 (by decide) (fun c2 => ?_) (fun c2 => ?_)
      · have h := h_E c2 h
        refine v_iconst (v := 0) hX dX7_stepsBetween_32 (by decide) ?_
        refine v_istore (lv' := [(7, _), (0, _), (2, _), (3, _), (4, _), (5, _), (6, _)]) hX dX7_stepsBetween_33 (by decide) rfl ?_
        refine v_iconst (v := 0) hX dX7_stepsBetween_35 (by decide) ?_
        refine v_istore (lv' := [(8, _), (7, _), (0, _), (2, _), (3, _), (4, _), (5, _), (6, _)]) hX dX7_stepsBetween_36 (by decide) rfl ?_
        refine v_pick [2, 3, 4, 5, 6, 7, 1, 0] rfl ?_
        obtain ⟨n, h⟩ := h
        exact b_X7_stepsBetween_38 hX hE hK12 n _ _ _ _ _ _ _ _ _ h
      · have h := h_T c2 h
        refine v_iload hX dX7_stepsBetween_29 5 rfl ?_
        exact v_iret hX hE dX7_stepsBetween_31 h
set_option maxRecDepth 100000 in
set_option maxHeartbeats 4000000 in
theorem m_X7_stepsBetween {Z : h_Z} {o0 : Nat} {x1 : Int32} {x2 : Int32} {x3 : Int32} {s : h_S} {Q : Int32 → h_S → Prop} (h : w_X7_stepsBetween o0 x1 x2 x3 s Q) : h_M Z yX7_stepsBetween cX7_stepsBetween 9 (some .int) 6 134 [pR (some o0), pI x1, pI x2, pI x3] s 0 0 (h_QI Z Q) := by
  refine h_M.of (by decide) (Nat.le_of_ble_eq_true rfl) (fun X hZ hX hE hI => ?_)
  subst hZ
  unfold w_X7_stepsBetween at h
  show h_V X 9 0 [(0, pR (some o0)), (1, pI x1), (2, pI x2), (3, pI x3)] [] s 0 0
  refine v_iconst (v := 1) hX dX7_stepsBetween_0 (by decide) ?_
  refine v_iload_n hX dX7_stepsBetween_1 1 rfl rfl ?_
  refine v_ishl hX dX7_stepsBetween_2 ?_
  refine v_istore (lv' := [(4, _), (0, _), (1, _), (2, _), (3, _)]) hX dX7_stepsBetween_3 (by decide) rfl ?_
  refine v_iload hX dX7_stepsBetween_5 0 rfl ?_
  refine v_istore (lv' := [(5, _), (4, _), (0, _), (1, _), (2, _), (3, _)]) hX dX7_stepsBetween_7 (by decide) rfl ?_
  refine v_iconst (v := 0) hX dX7_stepsBetween_9 (by decide) ?_
  refine v_istore (lv' := [(6, _), (5, _), (4, _), (0, _), (1, _), (2, _), (3, _)]) hX dX7_stepsBetween_10 (by decide) rfl ?_
  refine v_pick [3, 5, 6, 2, 1, 0] rfl ?_
  obtain ⟨n, h⟩ := h
  exact b_X7_stepsBetween_12 hX hE n _ _ _ _ _ _ _ h
set_option maxRecDepth 100000 in
set_option maxHeartbeats 4000000 in
theorem m_X8_init {Z : h_Z} {o0 : Nat} {x1 : Int32} {x2 : Int32} {r3 : Option Nat} {s : h_S} {Q : h_S → Prop} (h : w_X8_init o0 x1 x2 r3 s Q) : h_M Z yX8_init cX8_init 4 none 1 20 [pR (some o0), pI x1, pI x2, pR r3] s 0 0 (h_QV Z Q) := by
  refine h_M.of (by decide) (Nat.le_of_ble_eq_true rfl) (fun X hZ hX hE hI => ?_)
  subst hZ
  have hN : (x_me X).name = "<init>" := hI.symm
  unfold w_X8_init at h
  show h_V X 4 0 [(0, pR (some o0)), (1, pI x1), (2, pI x2), (3, pR r3)] [] s 0 0
  refine v_aload_n hX dX8_init_0 0 rfl rfl ?_
  refine v_objInit hX dX8_init_1 oi_RX8_3 (Nat.le_of_ble_eq_true rfl) (by decide) ?_
  refine v_aload_n hX dX8_init_4 0 rfl rfl ?_
  refine v_ldc hX dX8_init_5 k_RX8_9 ?_
  obtain ⟨k1, h⟩ := h
  refine v_putI hX dX8_init_7 f_RX8_10 k1 ?_
  refine v_aload_n hX dX8_init_10 0 rfl rfl ?_
  refine v_ldc hX dX8_init_11 k_RX8_9 ?_
  refine v_putI hX dX8_init_13 f_RX8_16 k1 ?_
  refine v_aload_n hX dX8_init_16 0 rfl rfl ?_
  refine v_iload_n hX dX8_init_17 1 rfl rfl ?_
  refine v_putFI hX dX8_init_18 f_RX8_19 g_RX8_19 hN k1 ?_
  refine v_aload_n hX dX8_init_21 0 rfl rfl ?_
  refine v_iload_n hX dX8_init_22 2 rfl rfl ?_
  refine v_putFI hX dX8_init_23 f_RX8_22 g_RX8_22 hN k1 ?_
  refine v_aload_n hX dX8_init_26 0 rfl rfl ?_
  refine v_aload_n hX dX8_init_27 3 rfl rfl ?_
  refine v_putFR hX dX8_init_28 f_RX8_25 g_RX8_25 rfl (Or.inr ⟨_, rfl⟩) hN k1 ?_
  exact v_vret hX hE dX8_init_31 h
set_option maxRecDepth 100000 in
set_option maxHeartbeats 4000000 in
theorem b_X8_kind_25 {X : h_X} (hX : h_ok X cX8_kind 1 RX8 0 0) {Q : Int32 → h_S → Prop} (hE : h_end X (some .int) (h_QI (x_Z X) Q)) {y0 : Int32} (s : h_S) (h : w_X8_kind_25 Q y0 s) : h_V X 1 25 [] [pI y0] s 0 0 := by
  unfold w_X8_kind_25 at h
  exact v_iret hX hE dX8_kind_25 h
set_option maxRecDepth 100000 in
set_option maxHeartbeats 4000000 in
theorem m_X8_kind {Z : h_Z} {o0 : Nat} {s : h_S} {Q : Int32 → h_S → Prop} (h : w_X8_kind o0 s Q) : h_M Z yX8_kind cX8_kind 1 (some .int) 0 0 [pR (some o0)] s 0 0 (h_QI Z Q) := by
  refine h_M.of (by decide) (Nat.le_of_ble_eq_true rfl) (fun X hZ hX hE hI => ?_)
  subst hZ
  unfold w_X8_kind at h
  show h_V X 1 0 [(0, pR (some o0))] [] s 0 0
  refine v_aload_n hX dX8_kind_0 0 rfl rfl ?_
  obtain ⟨k1, h⟩ := h
  refine v_getI hX dX8_kind_1 f_RX8_10 rfl k1 ?_
  refine v_ldc hX dX8_kind_4 k_RX8_9 ?_
  refine v_icmp_ne (tgt := 11) hX dX8_kind_6 (by decide) (fun c2 => ?_) (fun c2 => ?_)
  · have h := h_E c2 h
    refine v_aload_n hX dX8_kind_11 0 rfl rfl ?_
    refine v_getI hX dX8_kind_12 f_RX8_16 rfl k1 ?_
    refine v_ldc hX dX8_kind_15 k_RX8_9 ?_
    refine v_icmp_ne (tgt := 24) hX dX8_kind_17 (by decide) (fun c3 => ?_) (fun c3 => ?_)
    · have h := h_E c3 h
      refine v_iconst (v := 2) hX dX8_kind_24 (by decide) ?_
      refine v_pick [] rfl ?_
      exact b_X8_kind_25 hX hE _ h
    · have h := h_T c3 h
      refine v_iconst (v := 1) hX dX8_kind_20 (by decide) ?_
      refine v_goto (tgt := 25) hX dX8_kind_21 (by decide) ?_
      refine v_pick [] rfl ?_
      exact b_X8_kind_25 hX hE _ h
  · have h := h_T c2 h
    refine v_iconst (v := 0) hX dX8_kind_9 (by decide) ?_
    exact v_iret hX hE dX8_kind_10 h
set_option maxRecDepth 100000 in
set_option maxHeartbeats 4000000 in
theorem b_X8_isGivenAt_21 {X : h_X} (hX : h_ok X cX8_isGivenAt 2 RX8 0 0) {Q : Int32 → h_S → Prop} (hE : h_end X (some .boolean) (h_QI (x_Z X) Q)) {y0 : Int32} (s : h_S) (h : w_X8_isGivenAt_21 Q y0 s) : h_V X 2 21 [] [pI y0] s 0 0 := by
  unfold w_X8_isGivenAt_21 at h
  exact v_zret hX hE dX8_isGivenAt_21 h.1 h.2
set_option maxRecDepth 100000 in
set_option maxHeartbeats 4000000 in
theorem b_X8_isGivenAt_20 {X : h_X} (hX : h_ok X cX8_isGivenAt 2 RX8 0 0) {Q : Int32 → h_S → Prop} (hE : h_end X (some .boolean) (h_QI (x_Z X) Q)) (s : h_S) (h : w_X8_isGivenAt_20 Q s) : h_V X 2 20 [] [] s 0 0 := by
  unfold w_X8_isGivenAt_20 at h
  refine v_iconst (v := 0) hX dX8_isGivenAt_20 (by decide) ?_
  refine v_pick [] rfl ?_
  exact b_X8_isGivenAt_21 hX hE _ h
set_option maxRecDepth 100000 in
set_option maxHeartbeats 4000000 in
theorem m_X8_isGivenAt {Z : h_Z} {o0 : Nat} {x1 : Int32} {s : h_S} {Q : Int32 → h_S → Prop} (h : w_X8_isGivenAt o0 x1 s Q) : h_M Z yX8_isGivenAt cX8_isGivenAt 2 (some .boolean) 0 0 [pR (some o0), pI x1] s 0 0 (h_QI Z Q) := by
  refine h_M.of (by decide) (Nat.le_of_ble_eq_true rfl) (fun X hZ hX hE hI => ?_)
  subst hZ
  unfold w_X8_isGivenAt at h
  show h_V X 2 0 [(0, pR (some o0)), (1, pI x1)] [] s 0 0
  refine v_aload_n hX dX8_isGivenAt_0 0 rfl rfl ?_
  obtain ⟨k1, h⟩ := h
  refine v_getI hX dX8_isGivenAt_1 f_RX8_10 rfl k1 ?_
  refine v_iload_n hX dX8_isGivenAt_4 1 rfl rfl ?_
  refine v_icmp_gt (tgt := 20) hX dX8_isGivenAt_5 (by decide) (fun c2 => ?_) (fun c2 => ?_)
  · have h := h_T c2 h
    refine v_pick [] rfl ?_
    exact b_X8_isGivenAt_20 hX hE _ h
  · have h := h_E c2 h
    refine v_aload_n hX dX8_isGivenAt_8 0 rfl rfl ?_
    refine v_getI hX dX8_isGivenAt_9 f_RX8_16 rfl k1 ?_
    refine v_iload_n hX dX8_isGivenAt_12 1 rfl rfl ?_
    refine v_icmp_le (tgt := 20) hX dX8_isGivenAt_13 (by decide) (fun c3 => ?_) (fun c3 => ?_)
    · have h := h_T c3 h
      refine v_pick [] rfl ?_
      exact b_X8_isGivenAt_20 hX hE _ h
    · have h := h_E c3 h
      refine v_iconst (v := 1) hX dX8_isGivenAt_16 (by decide) ?_
      refine v_goto (tgt := 21) hX dX8_isGivenAt_17 (by decide) ?_
      refine v_pick [] rfl ?_
      exact b_X8_isGivenAt_21 hX hE _ h
set_option maxRecDepth 100000 in
set_option maxHeartbeats 4000000 in
theorem b_X8_placeAt_23 {X : h_X} (hX : h_ok X cX8_placeAt 2 RX8 1 21) {Q : Int32 → h_S → Prop} (hE : h_end X (some .int) (h_QI (x_Z X) Q)) {y0 : Int32} (s : h_S) (h : w_X8_placeAt_23 Q y0 s) : h_V X 2 23 [] [pI y0] s 0 0 := by
  unfold w_X8_placeAt_23 at h
  exact v_iret hX hE dX8_placeAt_23 h
set_option maxRecDepth 100000 in
set_option maxHeartbeats 4000000 in
theorem m_X8_placeAt {Z : h_Z} {o0 : Nat} {x1 : Int32} {s : h_S} {Q : Int32 → h_S → Prop} (h : w_X8_placeAt o0 x1 s Q) : h_M Z yX8_placeAt cX8_placeAt 2 (some .int) 1 21 [pR (some o0), pI x1] s 0 0 (h_QI Z Q) := by
  refine h_M.of (by decide) (Nat.le_of_ble_eq_true rfl) (fun X hZ hX hE hI => ?_)
  subst hZ
  unfold w_X8_placeAt at h
  show h_V X 2 0 [(0, pR (some o0)), (1, pI x1)] [] s 0 0
  refine v_iload_n hX dX8_placeAt_0 1 rfl rfl ?_
  refine v_aload_n hX dX8_placeAt_1 0 rfl rfl ?_
  obtain ⟨k1, h⟩ := h
  refine v_getR hX dX8_placeAt_2 f_RX8_25 rfl k1 ?_
  obtain ⟨a2, e_a2, h⟩ := h
  refine v_nn0 e_a2 ?_
  obtain ⟨k3, h⟩ := h
  refine v_alenK hX dX8_placeAt_5 (k := 1) rfl (by decide) (by decide) k3 ?_
  refine v_callSi hX dX8_placeAt_6 c_RX8_29 cS_X11_within [pI _, pI _] rfl rfl (Nat.le_of_ble_eq_true rfl) (by decide) (by decide) (Nat.zero_le _) (Nat.zero_le _) (m_X11_within h) (fun p5 s4 h => ?_)
  refine v_if_eq (tgt := 21) hX dX8_placeAt_9 (by decide) (fun c6 => ?_) (fun c6 => ?_)
  · have h := h_T c6 h
    refine v_bipush (v := -7) hX dX8_placeAt_21 (by decide) ?_
    refine v_pick [] rfl ?_
    exact b_X8_placeAt_23 hX hE _ h
  · have h := h_E c6 h
    refine v_aload_n hX dX8_placeAt_12 0 rfl rfl ?_
    obtain ⟨k7, h⟩ := h
    refine v_getR hX dX8_placeAt_13 f_RX8_25 rfl k7 ?_
    refine v_iload_n hX dX8_placeAt_16 1 rfl rfl ?_
    obtain ⟨a8, e_a8, h⟩ := h
    refine v_nn1 e_a8 ?_
    obtain ⟨k9, h⟩ := h
    obtain ⟨i10, h⟩ := h
    refine v_iald hX dX8_placeAt_17 k9 i10 ?_
    refine v_goto (tgt := 23) hX dX8_placeAt_18 (by decide) ?_
    refine v_pick [] rfl ?_
    exact b_X8_placeAt_23 hX hE _ h
set_option maxRecDepth 100000 in
set_option maxHeartbeats 4000000 in
theorem b_X8_gaps_35 {X : h_X} (hX : h_ok X cX8_gaps 6 RX8 0 0) {Q : Int32 → h_S → Prop} (hE : h_end X (some .int) (h_QI (x_Z X) Q)) {K13 : Int32 → Option Nat → Int32 → Int32 → h_S → Prop} (hK13 : ∀ (x1 : Int32) (r2 : Option Nat) (x3 : Int32) (x4 : Int32) (s : h_S), K13 x1 r2 x3 x4 s → h_V X 6 13 [(1, pI x1), (2, pR r2), (3, pI x3), (4, pI x4)] [] s 0 0) {x1 : Int32} {r2 : Option Nat} {x3 : Int32} {x4 : Int32} (s : h_S) (h : w_X8_gaps_35 Q K13 x1 r2 x3 x4 s) : h_V X 6 35 [(1, pI x1), (2, pR r2), (3, pI x3), (4, pI x4)] [] s 0 0 := by
  unfold w_X8_gaps_35 at h
  refine v_iinc (c := 1) (lv' := [(4, _), (1, _), (2, _), (3, _)]) hX dX8_gaps_35 3 rfl (by decide) (by decide) rfl ?_
  refine v_goto (tgt := 13) hX dX8_gaps_38 (by decide) ?_
  refine v_pick [1, 2, 3, 0] rfl ?_
  exact hK13 _ _ _ _ _ h
set_option maxRecDepth 100000 in
set_option maxHeartbeats 4000000 in
theorem b_X8_gaps_13 {X : h_X} (hX : h_ok X cX8_gaps 6 RX8 0 0) {Q : Int32 → h_S → Prop} (hE : h_end X (some .int) (h_QI (x_Z X) Q)) : ∀ (n : Nat) (x1 : Int32) (r2 : Option Nat) (x3 : Int32) (x4 : Int32) (s : h_S), w_X8_gaps_13 Q n x1 r2 x3 x4 s → h_V X 6 13 [(1, pI x1), (2, pR r2), (3, pI x3), (4, pI x4)] [] s 0 0 := by
  intro n
  induction n with
  | zero => intro _ _ _ _ s h; exact h.elim
  | succ n hK13 =>
    intro x1 r2 x3 x4 s h
    have h : w_X8_gaps_13b Q (w_X8_gaps_13 Q n) x1 r2 x3 x4 s := h
    unfold w_X8_gaps_13b at h
    refine v_iload hX dX8_gaps_13 3 rfl ?_
    refine v_iload_n hX dX8_gaps_15 2 rfl rfl ?_
    refine v_icmp_ge (tgt := 41) hX dX8_gaps_16 (by decide) (fun c1 => ?_) (fun c1 => ?_)
    · have h := h_T c1 h
      refine v_iload_n hX dX8_gaps_41 0 rfl rfl ?_
      exact v_iret hX hE dX8_gaps_42 h
    · have h := h_E c1 h
      refine v_aload_n hX dX8_gaps_19 1 rfl rfl ?_
      refine v_iload hX dX8_gaps_20 3 rfl ?_
      obtain ⟨a2, e_a2, h⟩ := h
      refine v_nn1 e_a2 ?_
      obtain ⟨k3, h⟩ := h
      obtain ⟨i4, h⟩ := h
      refine v_iald hX dX8_gaps_22 k3 i4 ?_
      refine v_istore (lv' := [(5, _), (1, _), (2, _), (3, _), (4, _)]) hX dX8_gaps_23 (by decide) rfl ?_
      refine v_iload hX dX8_gaps_25 0 rfl ?_
      refine v_bipush (v := -7) hX dX8_gaps_27 (by decide) ?_
      refine v_icmp_ne (tgt := 35) hX dX8_gaps_29 (by decide) (fun c5 => ?_) (fun c5 => ?_)
      · have h := h_E c5 h
        refine v_pick [1, 2, 3, 4] rfl ?_
        exact b_X8_gaps_35 hX hE hK13 _ h
      · have h := h_T c5 h
        refine v_iinc (c := 1) (lv' := [(1, _), (5, _), (2, _), (3, _), (4, _)]) hX dX8_gaps_32 1 rfl (by decide) (by decide) rfl ?_
        refine v_pick [0, 2, 3, 4] rfl ?_
        exact b_X8_gaps_35 hX hE hK13 _ h
set_option maxRecDepth 100000 in
set_option maxHeartbeats 4000000 in
theorem m_X8_gaps {Z : h_Z} {o0 : Nat} {s : h_S} {Q : Int32 → h_S → Prop} (h : w_X8_gaps o0 s Q) : h_M Z yX8_gaps cX8_gaps 6 (some .int) 0 0 [pR (some o0)] s 0 0 (h_QI Z Q) := by
  refine h_M.of (by decide) (Nat.le_of_ble_eq_true rfl) (fun X hZ hX hE hI => ?_)
  subst hZ
  unfold w_X8_gaps at h
  show h_V X 6 0 [(0, pR (some o0))] [] s 0 0
  refine v_iconst (v := 0) hX dX8_gaps_0 (by decide) ?_
  refine v_istore_n (lv' := [(1, _), (0, _)]) hX dX8_gaps_1 rfl (by decide) rfl ?_
  refine v_aload_n hX dX8_gaps_2 1 rfl rfl ?_
  obtain ⟨k1, h⟩ := h
  refine v_getR hX dX8_gaps_3 f_RX8_25 rfl k1 ?_
  refine v_astore_n (lv' := [(2, _), (1, _), (0, _)]) hX dX8_gaps_6 rfl (by decide) rfl ?_
  refine v_aload_n hX dX8_gaps_7 0 rfl rfl ?_
  obtain ⟨a2, e_a2, h⟩ := h
  refine v_nn0 e_a2 ?_
  obtain ⟨k3, h⟩ := h
  refine v_alenK hX dX8_gaps_8 (k := 1) rfl (by decide) (by decide) k3 ?_
  refine v_istore_n (lv' := [(3, _), (2, _), (1, _), (0, _)]) hX dX8_gaps_9 rfl (by decide) rfl ?_
  refine v_iconst (v := 0) hX dX8_gaps_10 (by decide) ?_
  refine v_istore (lv' := [(4, _), (3, _), (2, _), (1, _), (0, _)]) hX dX8_gaps_11 (by decide) rfl ?_
  refine v_pick [3, 2, 1, 0] rfl ?_
  obtain ⟨n, h⟩ := h
  exact b_X8_gaps_13 hX hE n _ _ _ _ _ h
set_option maxRecDepth 100000 in
set_option maxHeartbeats 4000000 in
theorem b_X9_alike_16 {X : h_X} (hX : h_ok X cX9_alike 2 RX9 0 0) {Q : Int32 → h_S → Prop} (hE : h_end X (some .boolean) (h_QI (x_Z X) Q)) {y0 : Int32} (s : h_S) (h : w_X9_alike_16 Q y0 s) : h_V X 2 16 [] [pI y0] s 0 0 := by
  unfold w_X9_alike_16 at h
  exact v_zret hX hE dX9_alike_16 h.1 h.2
set_option maxRecDepth 100000 in
set_option maxHeartbeats 4000000 in
theorem b_X9_alike_15 {X : h_X} (hX : h_ok X cX9_alike 2 RX9 0 0) {Q : Int32 → h_S → Prop} (hE : h_end X (some .boolean) (h_QI (x_Z X) Q)) (s : h_S) (h : w_X9_alike_15 Q s) : h_V X 2 15 [] [] s 0 0 := by
  unfold w_X9_alike_15 at h
  refine v_iconst (v := 0) hX dX9_alike_15 (by decide) ?_
  refine v_pick [] rfl ?_
  exact b_X9_alike_16 hX hE _ h
set_option maxRecDepth 100000 in
set_option maxHeartbeats 4000000 in
theorem m_X9_alike {Z : h_Z} {x0 : Int32} {x1 : Int32} {s : h_S} {Q : Int32 → h_S → Prop} (h : w_X9_alike x0 x1 s Q) : h_M Z yX9_alike cX9_alike 2 (some .boolean) 0 0 [pI x0, pI x1] s 0 0 (h_QI Z Q) := by
  refine h_M.of (by decide) (Nat.le_of_ble_eq_true rfl) (fun X hZ hX hE hI => ?_)
  subst hZ
  unfold w_X9_alike at h
  show h_V X 2 0 [(0, pI x0), (1, pI x1)] [] s 0 0
  refine v_iload_n hX dX9_alike_0 0 rfl rfl ?_
  refine v_iload_n hX dX9_alike_1 1 rfl rfl ?_
  refine v_icmp_ne (tgt := 15) hX dX9_alike_2 (by decide) (fun c1 => ?_) (fun c1 => ?_)
  · have h := h_E c1 h
    refine v_pick [] rfl ?_
    exact b_X9_alike_15 hX hE _ h
  · have h := h_T c1 h
    refine v_iload_n hX dX9_alike_5 0 rfl rfl ?_
    refine v_bipush (v := -7) hX dX9_alike_6 (by decide) ?_
    refine v_icmp_eq (tgt := 15) hX dX9_alike_8 (by decide) (fun c2 => ?_) (fun c2 => ?_)
    · have h := h_T c2 h
      refine v_pick [] rfl ?_
      exact b_X9_alike_15 hX hE _ h
    · have h := h_E c2 h
      refine v_iconst (v := 1) hX dX9_alike_11 (by decide) ?_
      refine v_goto (tgt := 16) hX dX9_alike_12 (by decide) ?_
      refine v_pick [] rfl ?_
      exact b_X9_alike_16 hX hE _ h
set_option maxRecDepth 100000 in
set_option maxHeartbeats 4000000 in
theorem b_X9_sharedOf_184 {X : h_X} (hX : h_ok X cX9_sharedOf 11 RX9 1 23) {Q : Int32 → h_S → Prop} (hE : h_end X (some .int) (h_QI (x_Z X) Q)) {K17 : Nat → Option Nat → Option Nat → Int32 → Int32 → h_S → Prop} (hK17 : ∀ (o0 : Nat) (r1 : Option Nat) (r3 : Option Nat) (x4 : Int32) (x5 : Int32) (s : h_S), K17 o0 r1 r3 x4 x5 s → h_V X 11 17 [(0, pR (some o0)), (1, pR r1), (3, pR r3), (4, pI x4), (5, pI x5)] [] s 0 0) {K61 : Nat → Option Nat → Option Nat → Int32 → Int32 → Option Nat → Option Nat → Int32 → Int32 → h_S → Prop} (hK61 : ∀ (o0 : Nat) (r1 : Option Nat) (r3 : Option Nat) (x4 : Int32) (x5 : Int32) (r6 : Option Nat) (r7 : Option Nat) (x8 : Int32) (x9 : Int32) (s : h_S), K61 o0 r1 r3 x4 x5 r6 r7 x8 x9 s → h_V X 11 61 [(0, pR (some o0)), (1, pR r1), (3, pR r3), (4, pI x4), (5, pI x5), (6, pR r6), (7, pR r7), (8, pI x8), (9, pI x9)] [] s 0 0) {o0 : Nat} {r1 : Option Nat} {r3 : Option Nat} {x4 : Int32} {x5 : Int32} {r6 : Option Nat} {r7 : Option Nat} {x8 : Int32} {x9 : Int32} (s : h_S) (h : w_X9_sharedOf_184 Q K17 K61 o0 r1 r3 x4 x5 r6 r7 x8 x9 s) : h_V X 11 184 [(0, pR (some o0)), (1, pR r1), (3, pR r3), (4, pI x4), (5, pI x5), (6, pR r6), (7, pR r7), (8, pI x8), (9, pI x9)] [] s 0 0 := by
  unfold w_X9_sharedOf_184 at h
  refine v_iinc (c := -1) (lv' := [(9, _), (0, _), (1, _), (3, _), (4, _), (5, _), (6, _), (7, _), (8, _)]) hX dX9_sharedOf_184 8 rfl (by decide) (by decide) rfl ?_
  refine v_goto (tgt := 61) hX dX9_sharedOf_187 (by decide) ?_
  refine v_pick [1, 2, 3, 4, 5, 6, 7, 8, 0] rfl ?_
  exact hK61 _ _ _ _ _ _ _ _ _ _ h
