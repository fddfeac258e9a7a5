set_option maxRecDepth 100000 in
set_option maxHeartbeats 4000000 in
theorem b_X7_homesOf_36 {X : h_X} (hX : h_ok X cX7_homesOf 6 RX7 4 85) {Q : Int32 → h_S → Prop} (hE : h_end X (some .int) (h_QI (x_Z X) Q)) {K5 : Nat → Int32 → Int32 → Int32 → Int32 → h_S → Prop} (hK5 : ∀ (o0 : Nat) (x1 : Int32) (x2 : Int32) (x3 : Int32) (x4 : Int32) (s : h_S), K5 o0 x1 x2 x3 x4 s → h_V X 6 5 [(0, pR (some o0)), (1, pI x1), (2, pI x2), (3, pI x3), (4, pI x4)] [] s 0 0) {o0 : Nat} {x1 : Int32} {x2 : Int32} {x3 : Int32} {x4 : Int32} (s : h_S) (h : w_X7_homesOf_36 Q K5 o0 x1 x2 x3 x4 s) : h_V X 6 36 [(0, pR (some o0)), (1, pI x1), (2, pI x2), (3, pI x3), (4, pI x4)] [] s 0 0 := by
  unfold w_X7_homesOf_36 at h
  refine v_iinc (c := 1) (lv' := [(4, _), (0, _), (1, _), (2, _), (3, _)]) hX dX7_homesOf_36 4 rfl (by decide) (by decide) rfl ?_
  refine v_goto (tgt := 5) hX dX7_homesOf_39 (by decide) ?_
  refine v_pick [1, 2, 3, 4, 0] rfl ?_
  exact hK5 _ _ _ _ _ _ h
set_option maxRecDepth 100000 in
set_option maxHeartbeats 4000000 in
theorem b_X7_homesOf_5 {X : h_X} (hX : h_ok X cX7_homesOf 6 RX7 4 85) {Q : Int32 → h_S → Prop} (hE : h_end X (some .int) (h_QI (x_Z X) Q)) : ∀ (n : Nat) (o0 : Nat) (x1 : Int32) (x2 : Int32) (x3 : Int32) (x4 : Int32) (s : h_S), w_X7_homesOf_5 Q n o0 x1 x2 x3 x4 s → h_V X 6 5 [(0, pR (some o0)), (1, pI x1), (2, pI x2), (3, pI x3), (4, pI x4)] [] s 0 0 := by
  intro n
  induction n with
  | zero => intro _ _ _ _ _ s h; exact h.elim
  | succ n hK5 =>
    intro o0 x1 x2 x3 x4 s h
    have h : w_X7_homesOf_5b Q (w_X7_homesOf_5 Q n) o0 x1 x2 x3 x4 s := h
    unfold w_X7_homesOf_5b at h
    refine v_iload hX dX7_homesOf_5 4 rfl ?_
    refine v_iload_n hX dX7_homesOf_7 2 rfl rfl ?_
    refine v_icmp_ge (tgt := 42) hX dX7_homesOf_8 (by decide) (fun c1 => ?_) (fun c1 => ?_)
    · have h := h_T c1 h
      refine v_iload_n hX dX7_homesOf_42 3 rfl rfl ?_
      exact v_iret hX hE dX7_homesOf_43 h
    · have h := h_E c1 h
      refine v_aload_n hX dX7_homesOf_11 0 rfl rfl ?_
      refine v_iload_n hX dX7_homesOf_12 1 rfl rfl ?_
      refine v_iload hX dX7_homesOf_13 4 rfl ?_
      refine v_iadd hX dX7_homesOf_15 ?_
      obtain ⟨k2, h⟩ := h
      refine v_callVr0 hX dX7_homesOf_16 c_RX7_93 cV_X7_wordAt (ci := 8) (T := TX7) (N := 13) rfl (by exact k2) [pI _] rfl rfl (Nat.le_of_ble_eq_true rfl) (by decide) (by decide)  (m_X7_wordAt h) (fun p4 s3 h => ?_)
      refine v_astore (lv' := [(5, _), (0, _), (1, _), (2, _), (3, _), (4, _)]) hX dX7_homesOf_19 (by decide) rfl ?_
      refine v_aload hX dX7_homesOf_21 0 rfl ?_
      refine v_ifnull (tgt := 36) hX dX7_homesOf_23 (by decide) (fun c5 => ?_) (fun c5 => ?_)
      · have h := h_T c5 h
        refine v_pick [1, 2, 3, 4, 5] rfl ?_
        exact b_X7_homesOf_36 hX hE hK5 _ h
      · have h := h_E c5 h
        refine v_iload_n hX dX7_homesOf_26 4 rfl rfl ?_
        refine v_iconst (v := 1) hX dX7_homesOf_27 (by decide) ?_
        refine v_aload hX dX7_homesOf_28 0 rfl ?_
        obtain ⟨a6, e_a6, h⟩ := h
        refine v_nn0 e_a6 ?_
        obtain ⟨k7, h⟩ := h
        refine v_getI hX dX7_homesOf_30 f_RX7_103 rfl k7 ?_
        refine v_ishl hX dX7_homesOf_33 ?_
        refine v_ior hX dX7_homesOf_34 ?_
        refine v_istore_n (lv' := [(3, _), (5, _), (0, _), (1, _), (2, _), (4, _)]) hX dX7_homesOf_35 rfl (by decide) rfl ?_
        refine v_pick [2, 3, 4, 0, 5] rfl ?_
        exact b_X7_homesOf_36 hX hE hK5 _ h
set_option maxRecDepth 100000 in
set_option maxHeartbeats 4000000 in
theorem m_X7_homesOf {Z : h_Z} {o0 : Nat} {x1 : Int32} {x2 : Int32} {s : h_S} {Q : Int32 → h_S → Prop} (h : w_X7_homesOf o0 x1 x2 s Q) : h_M Z yX7_homesOf cX7_homesOf 6 (some .int) 4 85 [pR (some o0), pI x1, pI x2] s 0 0 (h_QI Z Q) := by
  refine h_M.of (by decide) (Nat.le_of_ble_eq_true rfl) (fun X hZ hX hE hI => ?_)
  subst hZ
  unfold w_X7_homesOf at h
  show h_V X 6 0 [(0, pR (some o0)), (1, pI x1), (2, pI x2)] [] s 0 0
  refine v_iconst (v := 0) hX dX7_homesOf_0 (by decide) ?_
  refine v_istore_n (lv' := [(3, _), (0, _), (1, _), (2, _)]) hX dX7_homesOf_1 rfl (by decide) rfl ?_
  refine v_iconst (v := 0) hX dX7_homesOf_2 (by decide) ?_
  refine v_istore (lv' := [(4, _), (3, _), (0, _), (1, _), (2, _)]) hX dX7_homesOf_3 (by decide) rfl ?_
  refine v_pick [2, 3, 4, 1, 0] rfl ?_
  obtain ⟨n, h⟩ := h
  exact b_X7_homesOf_5 hX hE n _ _ _ _ _ _ h
set_option maxRecDepth 100000 in
set_option maxHeartbeats 4000000 in
theorem b_X7_codesAlike_3 {X : h_X} (hX : h_ok X cX7_codesAlike 5 RX7 5 107) {Q : Int32 → h_S → Prop} (hE : h_end X (some .boolean) (h_QI (x_Z X) Q)) : ∀ (n : Nat) (o0 : Nat) (x1 : Int32) (x2 : Int32) (x3 : Int32) (x4 : Int32) (s : h_S), w_X7_codesAlike_3 Q n o0 x1 x2 x3 x4 s → h_V X 5 3 [(0, pR (some o0)), (1, pI x1), (2, pI x2), (3, pI x3), (4, pI x4)] [] s 0 0 := by
  intro n
  induction n with
  | zero => intro _ _ _ _ _ s h; exact h.elim
  | succ n hK3 =>
    intro o0 x1 x2 x3 x4 s h
    have h : w_X7_codesAlike_3b Q (w_X7_codesAlike_3 Q n) o0 x1 x2 x3 x4 s := h
    unfold w_X7_codesAlike_3b at h
    refine v_iload hX dX7_codesAlike_3 4 rfl ?_
    refine v_iload_n hX dX7_codesAlike_5 3 rfl rfl ?_
    refine v_icmp_ge (tgt := 36) hX dX7_codesAlike_6 (by decide) (fun c1 => ?_) (fun c1 => ?_)
    · have h := h_T c1 h
      refine v_iconst (v := 1) hX dX7_codesAlike_36 (by decide) ?_
      exact v_zret hX hE dX7_codesAlike_37 (Or.inr rfl) h
    · have h := h_E c1 h
      refine v_aload_n hX dX7_codesAlike_9 0 rfl rfl ?_
      refine v_iload_n hX dX7_codesAlike_10 1 rfl rfl ?_
      refine v_iload hX dX7_codesAlike_11 4 rfl ?_
      refine v_iadd hX dX7_codesAlike_13 ?_
      obtain ⟨k2, h⟩ := h
      refine v_callVi0 hX dX7_codesAlike_14 c_RX7_106 cV_X7_codeOf (ci := 8) (T := TX7) (N := 13) rfl (by exact k2) [pI _] rfl rfl (Nat.le_of_ble_eq_true rfl) (by decide) (by decide)  (m_X7_codeOf h) (fun p4 s3 h => ?_)
      refine v_aload_n hX dX7_codesAlike_17 0 rfl rfl ?_
      refine v_iload_n hX dX7_codesAlike_18 2 rfl rfl ?_
      refine v_iload hX dX7_codesAlike_19 4 rfl ?_
      refine v_iadd hX dX7_codesAlike_21 ?_
      obtain ⟨k5, h⟩ := h
      refine v_callVi0 hX dX7_codesAlike_22 c_RX7_106 cV_X7_codeOf (ci := 8) (T := TX7) (N := 13) rfl (by exact k5) [pI _] rfl rfl (Nat.le_of_ble_eq_true rfl) (by decide) (by decide)  (m_X7_codeOf h) (fun p7 s6 h => ?_)
      refine v_icmp_eq (tgt := 30) hX dX7_codesAlike_25 (by decide) (fun c8 => ?_) (fun c8 => ?_)
      · have h := h_T c8 h
        refine v_iinc (c := 1) (lv' := [(4, _), (0, _), (1, _), (2, _), (3, _)]) hX dX7_codesAlike_30 4 rfl (by decide) (by decide) rfl ?_
        refine v_goto (tgt := 3) hX dX7_codesAlike_33 (by decide) ?_
        refine v_pick [1, 2, 3, 4, 0] rfl ?_
        exact hK3 _ _ _ _ _ _ h
      · have h := h_E c8 h
        refine v_iconst (v := 0) hX dX7_codesAlike_28 (by decide) ?_
        exact v_zret hX hE dX7_codesAlike_29 (Or.inl rfl) h
set_option maxRecDepth 100000 in
set_option maxHeartbeats 4000000 in
theorem m_X7_codesAlike {Z : h_Z} {o0 : Nat} {x1 : Int32} {x2 : Int32} {x3 : Int32} {s : h_S} {Q : Int32 → h_S → Prop} (h : w_X7_codesAlike o0 x1 x2 x3 s Q) : h_M Z yX7_codesAlike cX7_codesAlike 5 (some .boolean) 5 107 [pR (some o0), pI x1, pI x2, pI x3] s 0 0 (h_QI Z Q) := by
  refine h_M.of (by decide) (Nat.le_of_ble_eq_true rfl) (fun X hZ hX hE hI => ?_)
  subst hZ
  unfold w_X7_codesAlike at h
  show h_V X 5 0 [(0, pR (some o0)), (1, pI x1), (2, pI x2), (3, pI x3)] [] s 0 0
  refine v_iconst (v := 0) hX dX7_codesAlike_0 (by decide) ?_
  refine v_istore (lv' := [(4, _), (0, _), (1, _), (2, _), (3, _)]) hX dX7_codesAlike_1 (by decide) rfl ?_
  refine v_pick [1, 2, 3, 4, 0] rfl ?_
  obtain ⟨n, h⟩ := h
  exact b_X7_codesAlike_3 hX hE n _ _ _ _ _ _ h
set_option maxRecDepth 100000 in
set_option maxHeartbeats 4000000 in
theorem b_X7_piecesAsOf_43 {X : h_X} (hX : h_ok X cX7_piecesAsOf 4 RX7 1 21) {Q : Option Nat → h_S → Prop} (hE : h_end X (some (.array (.object "SeenWords$Piece"))) (h_QR (x_Z X) Q)) {o0 : Nat} (s : h_S) (h : w_X7_piecesAsOf_43 Q o0 s) : h_V X 4 43 [(0, pR (some o0))] [] s 0 0 := by
  unfold w_X7_piecesAsOf_43 at h
  refine v_aload_n hX dX7_piecesAsOf_43 0 rfl rfl ?_
  obtain ⟨k1, h⟩ := h
  refine v_getR hX dX7_piecesAsOf_44 f_RX7_23 rfl k1 ?_
  exact v_aret hX hE (Or.inr ⟨_, rfl⟩) dX7_piecesAsOf_47 h
set_option maxRecDepth 100000 in
set_option maxHeartbeats 4000000 in
theorem b_X7_piecesAsOf_18 {X : h_X} (hX : h_ok X cX7_piecesAsOf 4 RX7 1 21) {Q : Option Nat → h_S → Prop} (hE : h_end X (some (.array (.object "SeenWords$Piece"))) (h_QR (x_Z X) Q)) : ∀ (n : Nat) (o0 : Nat) (x2 : Int32) (r3 : Option Nat) (s : h_S), w_X7_piecesAsOf_18 Q n o0 x2 r3 s → h_V X 4 18 [(0, pR (some o0)), (2, pI x2), (3, pR r3)] [] s 0 0 := by
  intro n
  induction n with
  | zero => intro _ _ _ s h; exact h.elim
  | succ n hK18 =>
    intro o0 x2 r3 s h
    have h : w_X7_piecesAsOf_18b Q (w_X7_piecesAsOf_18 Q n) o0 x2 r3 s := h
    unfold w_X7_piecesAsOf_18b at h
    refine v_aload_n hX dX7_piecesAsOf_18 2 rfl rfl ?_
    refine v_ifnull (tgt := 43) hX dX7_piecesAsOf_19 (by decide) (fun c1 => ?_) (fun c1 => ?_)
    · have h := h_T c1 h
      refine v_pick [0] rfl ?_
      exact b_X7_piecesAsOf_43 hX hE _ h
    · have h := h_E c1 h
      refine v_aload_n hX dX7_piecesAsOf_22 2 rfl rfl ?_
      obtain ⟨a2, e_a2, h⟩ := h
      refine v_nn0 e_a2 ?_
      obtain ⟨k3, h⟩ := h
      refine v_getI hX dX7_piecesAsOf_23 f_RX7_109 rfl k3 ?_
      refine v_iload_n hX dX7_piecesAsOf_26 1 rfl rfl ?_
      refine v_icmp_gt (tgt := 35) hX dX7_piecesAsOf_27 (by decide) (fun c4 => ?_) (fun c4 => ?_)
      · have h := h_T c4 h
        refine v_aload_n hX dX7_piecesAsOf_35 2 rfl rfl ?_
        obtain ⟨a5, e_a5, h⟩ := h
        refine v_nn0 e_a5 ?_
        obtain ⟨k6, h⟩ := h
        refine v_getR hX dX7_piecesAsOf_36 f_RX7_115 rfl k6 ?_
        refine v_astore_n (lv' := [(3, _), (0, _), (2, _)]) hX dX7_piecesAsOf_39 rfl (by decide) rfl ?_
        refine v_goto (tgt := 18) hX dX7_piecesAsOf_40 (by decide) ?_
        refine v_pick [1, 2, 0] rfl ?_
        exact hK18 _ _ _ _ h
      · have h := h_E c4 h
        refine v_aload_n hX dX7_piecesAsOf_30 2 rfl rfl ?_
        obtain ⟨a7, e_a7, h⟩ := h
        refine v_nn0 e_a7 ?_
        obtain ⟨k8, h⟩ := h
        refine v_getR hX dX7_piecesAsOf_31 f_RX7_112 rfl k8 ?_
        exact v_aret hX hE (Or.inr ⟨_, rfl⟩) dX7_piecesAsOf_34 h
set_option maxRecDepth 100000 in
set_option maxHeartbeats 4000000 in
theorem m_X7_piecesAsOf {Z : h_Z} {o0 : Nat} {x1 : Int32} {x2 : Int32} {s : h_S} {Q : Option Nat → h_S → Prop} (h : w_X7_piecesAsOf o0 x1 x2 s Q) : h_M Z yX7_piecesAsOf cX7_piecesAsOf 4 (some (.array (.object "SeenWords$Piece"))) 1 21 [pR (some o0), pI x1, pI x2] s 0 0 (h_QR Z Q) := by
  refine h_M.of (by decide) (Nat.le_of_ble_eq_true rfl) (fun X hZ hX hE hI => ?_)
  subst hZ
  unfold w_X7_piecesAsOf at h
  show h_V X 4 0 [(0, pR (some o0)), (1, pI x1), (2, pI x2)] [] s 0 0
  refine v_iload_n hX dX7_piecesAsOf_0 1 rfl rfl ?_
  refine v_aload_n hX dX7_piecesAsOf_1 0 rfl rfl ?_
  obtain ⟨k1, h⟩ := h
  refine v_getI hX dX7_piecesAsOf_2 f_RX7_57 rfl k1 ?_
  refine v_callSi0 hX dX7_piecesAsOf_5 c_RX7_68 cS_X11_within [pI _, pI _] rfl rfl (Nat.le_of_ble_eq_true rfl) (by decide) (by decide)  (m_X11_within h) (fun p3 s2 h => ?_)
  refine v_if_eq (tgt := 43) hX dX7_piecesAsOf_8 (by decide) (fun c4 => ?_) (fun c4 => ?_)
  · have h := h_T c4 h
    refine v_pick [0] rfl ?_
    exact b_X7_piecesAsOf_43 hX hE _ h
  · have h := h_E c4 h
    refine v_aload_n hX dX7_piecesAsOf_11 0 rfl rfl ?_
    obtain ⟨k5, h⟩ := h
    refine v_getR hX dX7_piecesAsOf_12 f_RX7_17 rfl k5 ?_
    refine v_iload_n hX dX7_piecesAsOf_15 1 rfl rfl ?_
    obtain ⟨a6, e_a6, h⟩ := h
    refine v_nn1 e_a6 ?_
    obtain ⟨k7, h⟩ := h
    obtain ⟨i8, h⟩ := h
    refine v_aald (k := 4) hX dX7_piecesAsOf_16 rfl rfl (by decide) (by decide) k7 i8 ?_
    refine v_astore_n (lv' := [(3, _), (0, _), (1, _), (2, _)]) hX dX7_piecesAsOf_17 rfl (by decide) rfl ?_
    refine v_pick [1, 3, 0] rfl ?_
    obtain ⟨n, h⟩ := h
    exact b_X7_piecesAsOf_18 hX hE n _ _ _ _ h
set_option maxRecDepth 100000 in
set_option maxHeartbeats 4000000 in
theorem b_X7_pieceCount_34 {X : h_X} (hX : h_ok X cX7_pieceCount 2 RX7 1 21) {Q : Int32 → h_S → Prop} (hE : h_end X (some .int) (h_QI (x_Z X) Q)) {y0 : Int32} (s : h_S) (h : w_X7_pieceCount_34 Q y0 s) : h_V X 2 34 [] [pI y0] s 0 0 := by
  unfold w_X7_pieceCount_34 at h
  exact v_iret hX hE dX7_pieceCount_34 h
set_option maxRecDepth 100000 in
set_option maxHeartbeats 4000000 in
theorem b_X7_pieceCount_33 {X : h_X} (hX : h_ok X cX7_pieceCount 2 RX7 1 21) {Q : Int32 → h_S → Prop} (hE : h_end X (some .int) (h_QI (x_Z X) Q)) (s : h_S) (h : w_X7_pieceCount_33 Q s) : h_V X 2 33 [] [] s 0 0 := by
  unfold w_X7_pieceCount_33 at h
  refine v_iconst (v := 0) hX dX7_pieceCount_33 (by decide) ?_
  refine v_pick [] rfl ?_
  exact b_X7_pieceCount_34 hX hE _ h
set_option maxRecDepth 100000 in
set_option maxHeartbeats 4000000 in
theorem m_X7_pieceCount {Z : h_Z} {o0 : Nat} {x1 : Int32} {s : h_S} {Q : Int32 → h_S → Prop} (h : w_X7_pieceCount o0 x1 s Q) : h_M Z yX7_pieceCount cX7_pieceCount 2 (some .int) 1 21 [pR (some o0), pI x1] s 0 0 (h_QI Z Q) := by
  refine h_M.of (by decide) (Nat.le_of_ble_eq_true rfl) (fun X hZ hX hE hI => ?_)
  subst hZ
  unfold w_X7_pieceCount at h
  show h_V X 2 0 [(0, pR (some o0)), (1, pI x1)] [] s 0 0
  refine v_iload_n hX dX7_pieceCount_0 1 rfl rfl ?_
  refine v_aload_n hX dX7_pieceCount_1 0 rfl rfl ?_
  obtain ⟨k1, h⟩ := h
  refine v_getI hX dX7_pieceCount_2 f_RX7_57 rfl k1 ?_
  refine v_callSi0 hX dX7_pieceCount_5 c_RX7_68 cS_X11_within [pI _, pI _] rfl rfl (Nat.le_of_ble_eq_true rfl) (by decide) (by decide)  (m_X11_within h) (fun p3 s2 h => ?_)
  refine v_if_eq (tgt := 33) hX dX7_pieceCount_8 (by decide) (fun c4 => ?_) (fun c4 => ?_)
  · have h := h_T c4 h
    refine v_pick [] rfl ?_
    exact b_X7_pieceCount_33 hX hE _ h
  · have h := h_E c4 h
    refine v_aload_n hX dX7_pieceCount_11 0 rfl rfl ?_
    obtain ⟨k5, h⟩ := h
    refine v_getR hX dX7_pieceCount_12 f_RX7_17 rfl k5 ?_
    refine v_iload_n hX dX7_pieceCount_15 1 rfl rfl ?_
    obtain ⟨a6, e_a6, h⟩ := h
    refine v_nn1 e_a6 ?_
    obtain ⟨k7, h⟩ := h
    obtain ⟨i8, h⟩ := h
    refine v_aald (k := 4) hX dX7_pieceCount_16 rfl rfl (by decide) (by decide) k7 i8 ?_
    refine v_ifnull (tgt := 33) hX dX7_pieceCount_17 (by decide) (fun c9 => ?_) (fun c9 => ?_)
    · have h := h_T c9 h
      refine v_pick [] rfl ?_
      exact b_X7_pieceCount_33 hX hE _ h
    · have h := h_E c9 h
      refine v_aload_n hX dX7_pieceCount_20 0 rfl rfl ?_
      refine v_getR hX dX7_pieceCount_21 f_RX7_17 rfl k5 ?_
      refine v_iload_n hX dX7_pieceCount_24 1 rfl rfl ?_
      obtain ⟨a10, e_a10, h⟩ := h
      refine v_nn1 e_a10 ?_
      obtain ⟨k11, h⟩ := h
      obtain ⟨i12, h⟩ := h
      refine v_aald (k := 4) hX dX7_pieceCount_25 rfl rfl (by decide) (by decide) k11 i12 ?_
      obtain ⟨a13, e_a13, h⟩ := h
      refine v_nn0 e_a13 ?_
      obtain ⟨k14, h⟩ := h
      refine v_getR hX dX7_pieceCount_26 f_RX7_112 rfl k14 ?_
      obtain ⟨a15, e_a15, h⟩ := h
      refine v_nn0 e_a15 ?_
      obtain ⟨k16, h⟩ := h
      refine v_alenK hX dX7_pieceCount_29 (k := 3) rfl (by decide) (by decide) k16 ?_
      refine v_goto (tgt := 34) hX dX7_pieceCount_30 (by decide) ?_
      refine v_pick [] rfl ?_
      exact b_X7_pieceCount_34 hX hE _ h
set_option maxRecDepth 100000 in
set_option maxHeartbeats 4000000 in
theorem b_X7_pieceAt_27 {X : h_X} (hX : h_ok X cX7_pieceAt 3 RX7 2 42) {Q : Option Nat → h_S → Prop} (hE : h_end X (some (.object "SeenWords$Piece")) (h_QR (x_Z X) Q)) {t0 : Option Nat} (s : h_S) (h : w_X7_pieceAt_27 Q t0 s) : h_V X 3 27 [] [pR t0] s 0 0 := by
  unfold w_X7_pieceAt_27 at h
  exact v_aret hX hE (Or.inl ⟨_, rfl⟩) dX7_pieceAt_27 h
set_option maxRecDepth 100000 in
set_option maxHeartbeats 4000000 in
theorem m_X7_pieceAt {Z : h_Z} {o0 : Nat} {x1 : Int32} {x2 : Int32} {s : h_S} {Q : Option Nat → h_S → Prop} (h : w_X7_pieceAt o0 x1 x2 s Q) : h_M Z yX7_pieceAt cX7_pieceAt 3 (some (.object "SeenWords$Piece")) 2 42 [pR (some o0), pI x1, pI x2] s 0 0 (h_QR Z Q) := by
  refine h_M.of (by decide) (Nat.le_of_ble_eq_true rfl) (fun X hZ hX hE hI => ?_)
  subst hZ
  unfold w_X7_pieceAt at h
  show h_V X 3 0 [(0, pR (some o0)), (1, pI x1), (2, pI x2)] [] s 0 0
  refine v_iload_n hX dX7_pieceAt_0 2 rfl rfl ?_
  refine v_aload_n hX dX7_pieceAt_1 0 rfl rfl ?_
  refine v_iload_n hX dX7_pieceAt_2 1 rfl rfl ?_
  obtain ⟨k1, h⟩ := h
  refine v_callVi0 hX dX7_pieceAt_3 c_RX7_119 cV_X7_pieceCount (ci := 8) (T := TX7) (N := 13) rfl (by exact k1) [pI _] rfl rfl (Nat.le_of_ble_eq_true rfl) (by decide) (by decide)  (m_X7_pieceCount h) (fun p3 s2 h => ?_)
  refine v_callSi0 hX dX7_pieceAt_6 c_RX7_68 cS_X11_within [pI _, pI _] rfl rfl (Nat.le_of_ble_eq_true rfl) (by decide) (by decide)  (m_X11_within h) (fun p5 s4 h => ?_)
  refine v_if_eq (tgt := 26) hX dX7_pieceAt_9 (by decide) (fun c6 => ?_) (fun c6 => ?_)
  · have h := h_T c6 h
    refine v_null hX dX7_pieceAt_26 ?_
    refine v_pick [] rfl ?_
    exact b_X7_pieceAt_27 hX hE _ h
  · have h := h_E c6 h
    refine v_aload_n hX dX7_pieceAt_12 0 rfl rfl ?_
    obtain ⟨k7, h⟩ := h
    refine v_getR hX dX7_pieceAt_13 f_RX7_17 rfl k7 ?_
    refine v_iload_n hX dX7_pieceAt_16 1 rfl rfl ?_
    obtain ⟨a8, e_a8, h⟩ := h
    refine v_nn1 e_a8 ?_
    obtain ⟨k9, h⟩ := h
    obtain ⟨i10, h⟩ := h
    refine v_aald (k := 4) hX dX7_pieceAt_17 rfl rfl (by decide) (by decide) k9 i10 ?_
    obtain ⟨a11, e_a11, h⟩ := h
    refine v_nn0 e_a11 ?_
    obtain ⟨k12, h⟩ := h
    refine v_getR hX dX7_pieceAt_18 f_RX7_112 rfl k12 ?_
    refine v_iload_n hX dX7_pieceAt_21 2 rfl rfl ?_
    obtain ⟨a13, e_a13, h⟩ := h
    refine v_nn1 e_a13 ?_
    obtain ⟨k14, h⟩ := h
    obtain ⟨i15, h⟩ := h
    refine v_aald (k := 3) hX dX7_pieceAt_22 rfl rfl (by decide) (by decide) k14 i15 ?_
    refine v_goto (tgt := 27) hX dX7_pieceAt_23 (by decide) ?_
    refine v_pick [] rfl ?_
    exact b_X7_pieceAt_27 hX hE _ h
set_option maxRecDepth 100000 in
set_option maxHeartbeats 4000000 in
theorem b_X7_stretch_35 {X : h_X} (hX : h_ok X cX7_stretch 3 RX7 0 0) {Q : Int32 → h_S → Prop} (hE : h_end X (some .int) (h_QI (x_Z X) Q)) {y0 : Int32} (s : h_S) (h : w_X7_stretch_35 Q y0 s) : h_V X 3 35 [] [pI y0] s 0 0 := by
  unfold w_X7_stretch_35 at h
  exact v_iret hX hE dX7_stretch_35 h
set_option maxRecDepth 100000 in
set_option maxHeartbeats 4000000 in
theorem b_X7_stretch_18 {X : h_X} (hX : h_ok X cX7_stretch 3 RX7 0 0) {Q : Int32 → h_S → Prop} (hE : h_end X (some .int) (h_QI (x_Z X) Q)) {r0 : Option Nat} {y0 : Int32} (s : h_S) (h : w_X7_stretch_18 Q r0 y0 s) : h_V X 3 18 [(0, pR r0)] [pI y0] s 0 0 := by
  unfold w_X7_stretch_18 at h
  refine v_istore_n (lv' := [(2, _), (0, _)]) hX dX7_stretch_18 rfl (by decide) rfl ?_
  refine v_iload_n hX dX7_stretch_19 0 rfl rfl ?_
  refine v_aload_n hX dX7_stretch_20 1 rfl rfl ?_
  obtain ⟨a1, e_a1, h⟩ := h
  refine v_nn0 e_a1 ?_
  obtain ⟨k2, h⟩ := h
  refine v_getI hX dX7_stretch_21 f_RX7_157 rfl k2 ?_
  refine v_icmp_ge (tgt := 31) hX dX7_stretch_24 (by decide) (fun c3 => ?_) (fun c3 => ?_)
  · have h := h_T c3 h
    refine v_aload_n hX dX7_stretch_31 1 rfl rfl ?_
    obtain ⟨a4, e_a4, h⟩ := h
    refine v_nn0 e_a4 ?_
    obtain ⟨k5, h⟩ := h
    refine v_getI hX dX7_stretch_32 f_RX7_157 rfl k5 ?_
    refine v_pick [] rfl ?_
    exact b_X7_stretch_35 hX hE _ h
  · have h := h_E c3 h
    refine v_iload_n hX dX7_stretch_27 0 rfl rfl ?_
    refine v_goto (tgt := 35) hX dX7_stretch_28 (by decide) ?_
    refine v_pick [] rfl ?_
    exact b_X7_stretch_35 hX hE _ h
set_option maxRecDepth 100000 in
set_option maxHeartbeats 4000000 in
theorem m_X7_stretch {Z : h_Z} {r0 : Option Nat} {x1 : Int32} {s : h_S} {Q : Int32 → h_S → Prop} (h : w_X7_stretch r0 x1 s Q) : h_M Z yX7_stretch cX7_stretch 3 (some .int) 0 0 [pR r0, pI x1] s 0 0 (h_QI Z Q) := by
  refine h_M.of (by decide) (Nat.le_of_ble_eq_true rfl) (fun X hZ hX hE hI => ?_)
  subst hZ
  unfold w_X7_stretch at h
  show h_V X 3 0 [(0, pR r0), (1, pI x1)] [] s 0 0
  refine v_iload_n hX dX7_stretch_0 1 rfl rfl ?_
  refine v_aload_n hX dX7_stretch_1 0 rfl rfl ?_
  obtain ⟨a1, e_a1, h⟩ := h
  refine v_nn0 e_a1 ?_
  obtain ⟨k2, h⟩ := h
  refine v_getI hX dX7_stretch_2 f_RX7_158 rfl k2 ?_
  refine v_icmp_le (tgt := 17) hX dX7_stretch_5 (by decide) (fun c3 => ?_) (fun c3 => ?_)
  · have h := h_T c3 h
    refine v_iconst (v := 0) hX dX7_stretch_17 (by decide) ?_
    refine v_pick [0] rfl ?_
    exact b_X7_stretch_18 hX hE _ h
  · have h := h_E c3 h
    refine v_iload_n hX dX7_stretch_8 1 rfl rfl ?_
    refine v_aload_n hX dX7_stretch_9 0 rfl rfl ?_
    obtain ⟨a4, e_a4, h⟩ := h
    refine v_nn0 e_a4 ?_
    obtain ⟨k5, h⟩ := h
    refine v_getI hX dX7_stretch_10 f_RX7_158 rfl k5 ?_
    refine v_isub hX dX7_stretch_13 ?_
    refine v_goto (tgt := 18) hX dX7_stretch_14 (by decide) ?_
    refine v_pick [0] rfl ?_
    exact b_X7_stretch_18 hX hE _ h
set_option maxRecDepth 100000 in
set_option maxHeartbeats 4000000 in
theorem b_X7_lay_37 {X : h_X} {C : Nat → Int32 → Int32 → Int32 → h_S → Nat → Nat → (Option Nat → h_S → Prop) → Prop} {d : Nat} (hC : ∀ (o0 : Nat) (x1 : Int32) (x2 : Int32) (x3 : Int32) (s : h_S) (mc ms : Nat) (Q : Option Nat → h_S → Prop), C o0 x1 x2 x3 s mc ms Q → h_M (x_Z X) yX7_shownOf cX7_shownOf 11 (some (.object "SeenWords$Shown")) (2 + 2 * d) (83 + 58 * d) [pR (some o0), pI x1, pI x2, pI x3] s mc ms (h_QR (x_Z X) Q)) (hX : h_ok X cX7_lay 9 RX7 (2 + 2 * d + 1) (83 + 58 * d + 30)) {Q : Int32 → h_S → Prop} (hE : h_end X (some .int) (h_QI (x_Z X) Q)) : ∀ (n : Nat) (r1 : Option Nat) (x4 : Int32) (r5 : Option Nat) (x7 : Int32) (x8 : Int32) (s : h_S) (bc bs : Nat), w_X7_lay_37 C Q n r1 x4 r5 x7 x8 s bc bs → h_V X 9 37 [(1, pR r1), (4, pI x4), (5, pR r5), (7, pI x7), (8, pI x8)] [] s bc bs := by
  intro n
  induction n with
  | zero => intro _ _ _ _ _ s bc bs h; exact h.elim
  | succ n hK37 =>
    intro r1 x4 r5 x7 x8 s bc bs h
    have h : w_X7_lay_37b C Q (w_X7_lay_37 C Q n) r1 x4 r5 x7 x8 s bc bs := h
    unfold w_X7_lay_37b at h
    refine v_iload hX dX7_lay_37 4 rfl ?_
    refine v_iload hX dX7_lay_39 3 rfl ?_
    refine v_icmp_ge (tgt := 65) hX dX7_lay_41 (by decide) (fun c1 => ?_) (fun c1 => ?_)
    · have h := h_T c1 h
      refine v_iload hX dX7_lay_65 1 rfl ?_
      refine v_iload hX dX7_lay_67 3 rfl ?_
      refine v_iadd hX dX7_lay_69 ?_
      exact v_iret hX hE dX7_lay_70 h
    · have h := h_E c1 h
      refine v_aload hX dX7_lay_44 2 rfl ?_
      refine v_iload hX dX7_lay_46 1 rfl ?_
      refine v_iload hX dX7_lay_48 4 rfl ?_
      refine v_iadd hX dX7_lay_50 ?_
      refine v_aload_n hX dX7_lay_51 0 rfl rfl ?_
      obtain ⟨a2, e_a2, h⟩ := h
      refine v_nn0 e_a2 ?_
      obtain ⟨k3, h⟩ := h
      refine v_getI hX dX7_lay_52 f_RX7_158 rfl k3 ?_
      refine v_iload hX dX7_lay_55 4 rfl ?_
      refine v_iadd hX dX7_lay_57 ?_
      obtain ⟨a4, e_a4, h⟩ := h
      refine v_nn2 e_a4 ?_
      obtain ⟨k5, h⟩ := h
      obtain ⟨i6, h⟩ := h
      refine v_iast hX dX7_lay_58 k5 i6 ?_
      refine v_iinc (c := 1) (lv' := [(8, _), (1, _), (4, _), (5, _), (7, _)]) hX dX7_lay_59 4 rfl (by decide) (by decide) rfl ?_
      refine v_goto (tgt := 37) hX dX7_lay_62 (by decide) ?_
      refine v_pick [1, 2, 3, 4, 0] rfl ?_
      exact hK37 _ _ _ _ _ _ _ _ h
set_option maxRecDepth 100000 in
set_option maxHeartbeats 4000000 in
theorem b_X7_lay_145 {X : h_X} {C : Nat → Int32 → Int32 → Int32 → h_S → Nat → Nat → (Option Nat → h_S → Prop) → Prop} {d : Nat} (hC : ∀ (o0 : Nat) (x1 : Int32) (x2 : Int32) (x3 : Int32) (s : h_S) (mc ms : Nat) (Q : Option Nat → h_S → Prop), C o0 x1 x2 x3 s mc ms Q → h_M (x_Z X) yX7_shownOf cX7_shownOf 11 (some (.object "SeenWords$Shown")) (2 + 2 * d) (83 + 58 * d) [pR (some o0), pI x1, pI x2, pI x3] s mc ms (h_QR (x_Z X) Q)) (hX : h_ok X cX7_lay 9 RX7 (2 + 2 * d + 1) (83 + 58 * d + 30)) {Q : Int32 → h_S → Prop} (hE : h_end X (some .int) (h_QI (x_Z X) Q)) {x4 : Int32} {x8 : Int32} (s : h_S) {bc bs : Nat} (h : w_X7_lay_145 C Q x4 x8 s bc bs) : h_V X 9 145 [(4, pI x4), (8, pI x8)] [] s bc bs := by
  unfold w_X7_lay_145 at h
  refine v_iload hX dX7_lay_145 0 rfl ?_
  refine v_iload hX dX7_lay_147 1 rfl ?_
  refine v_iadd hX dX7_lay_149 ?_
  exact v_iret hX hE dX7_lay_150 h
set_option maxRecDepth 100000 in
set_option maxHeartbeats 4000000 in
theorem mx_X7_lay {Z : h_Z} {C : Nat → Int32 → Int32 → Int32 → h_S → Nat → Nat → (Option Nat → h_S → Prop) → Prop} {d : Nat} (hC : ∀ (o0 : Nat) (x1 : Int32) (x2 : Int32) (x3 : Int32) (s : h_S) (mc ms : Nat) (Q : Option Nat → h_S → Prop), C o0 x1 x2 x3 s mc ms Q → h_M Z yX7_shownOf cX7_shownOf 11 (some (.object "SeenWords$Shown")) (2 + 2 * d) (83 + 58 * d) [pR (some o0), pI x1, pI x2, pI x3] s mc ms (h_QR Z Q)) {o0 : Nat} {r1 : Option Nat} {x2 : Int32} {x3 : Int32} {x4 : Int32} {s : h_S} {mc ms : Nat} {Q : Int32 → h_S → Prop} (h : wx_X7_lay C o0 r1 x2 x3 x4 s mc ms Q) : h_M Z yX7_lay cX7_lay 9 (some .int) (2 + 2 * d + 1) (83 + 58 * d + 30) [pR (some o0), pR r1, pI x2, pI x3, pI x4] s mc ms (h_QI Z Q) := by
  refine h_M.of (by decide) (Nat.le_of_ble_eq_true rfl) (fun X hZ hX hE hI => ?_)
  subst hZ
  unfold wx_X7_lay at h
  show h_V X 9 0 [(0, pR (some o0)), (1, pR r1), (2, pI x2), (3, pI x3), (4, pI x4)] [] s mc ms
  refine v_aload_n hX dX7_lay_0 0 rfl rfl ?_
  obtain ⟨k1, h⟩ := h
  refine v_getR hX dX7_lay_1 f_RX7_45 rfl k1 ?_
  refine v_iload_n hX dX7_lay_4 3 rfl rfl ?_
  obtain ⟨a2, e_a2, h⟩ := h
  refine v_nn1 e_a2 ?_
  obtain ⟨k3, h⟩ := h
  obtain ⟨i4, h⟩ := h
  refine v_aald (k := 8) hX dX7_lay_5 rfl rfl (by decide) (by decide) k3 i4 ?_
  refine v_astore (lv' := [(5, _), (0, _), (1, _), (2, _), (3, _), (4, _)]) hX dX7_lay_6 (by decide) rfl ?_
  refine v_sipush (v := 300) hX dX7_lay_8 (by decide) ?_
  refine v_iload hX dX7_lay_11 5 rfl ?_
  refine v_isub hX dX7_lay_13 ?_
  refine v_istore (lv' := [(6, _), (5, _), (0, _), (1, _), (2, _), (3, _), (4, _)]) hX dX7_lay_14 (by decide) rfl ?_
  refine v_aload_n hX dX7_lay_16 3 rfl rfl ?_
  obtain ⟨a5, e_a5, h⟩ := h
  refine v_nn0 e_a5 ?_
  obtain ⟨k6, h⟩ := h
  refine v_callVi0 hX dX7_lay_17 c_RX7_154 cV_X2_hasWords (ci := 3) (T := TX2) (N := 5) rfl (by exact k6) [] rfl rfl (Nat.le_of_ble_eq_true rfl) (by omega) (by omega)  (m_X2_hasWords h) (fun p8 s7 h => ?_)
  refine v_if_eq (tgt := 71) hX dX7_lay_20 (by decide) (fun c9 => ?_) (fun c9 => ?_)
  · have h := h_T c9 h
    refine v_iload_n hX dX7_lay_71 5 rfl rfl ?_
    refine v_iconst (v := 4) hX dX7_lay_72 (by decide) ?_
    refine v_icmp_lt (tgt := 88) hX dX7_lay_73 (by decide) (fun c10 => ?_) (fun c10 => ?_)
    · have h := h_T c10 h
      refine v_aload_n hX dX7_lay_88 2 rfl rfl ?_
      refine v_aload_n hX dX7_lay_89 3 rfl rfl ?_
      obtain ⟨a11, e_a11, h⟩ := h
      refine v_nn0 e_a11 ?_
      obtain ⟨k12, h⟩ := h
      refine v_getI hX dX7_lay_90 f_RX7_161 rfl k12 ?_
      refine v_aload_n hX dX7_lay_93 3 rfl rfl ?_
      refine v_iload_n hX dX7_lay_94 4 rfl rfl ?_
      obtain ⟨a13, e_a13, h⟩ := h
      refine v_nn1 e_a13 ?_
      obtain ⟨k14, h⟩ := h
      refine v_callVi0 hX dX7_lay_95 c_RX7_164 cV_X2_momentWithin (ci := 3) (T := TX2) (N := 5) rfl (by exact k14) [pI _] rfl rfl (Nat.le_of_ble_eq_true rfl) (by omega) (by omega)  (m_X2_momentWithin h) (fun p16 s15 h => ?_)
      refine v_iload_n hX dX7_lay_98 5 rfl rfl ?_
      refine v_iconst (v := 1) hX dX7_lay_99 (by decide) ?_
      refine v_iadd hX dX7_lay_100 ?_
      obtain ⟨k17, h⟩ := h
      obtain ⟨mc20, ms21, b22, b23, h⟩ := h
      refine v_callVr hX dX7_lay_101 c_RX7_122 cV_X7_shownOf (ci := 8) (T := TX7) (N := 13) rfl (by exact k17) [pI _, pI _, pI _] rfl rfl (Nat.le_of_ble_eq_true rfl) (by omega) (by omega) b22 b23 (hC _ _ _ _ _ _ _ _ h) (fun p19 s18 h => ?_)
      refine v_astore (lv' := [(7, _), (6, _), (5, _), (0, _), (1, _), (2, _), (3, _), (4, _)]) hX dX7_lay_104 (by decide) rfl ?_
      refine v_iload hX dX7_lay_106 1 rfl ?_
      refine v_aload_n hX dX7_lay_108 4 rfl rfl ?_
      refine v_aload hX dX7_lay_109 0 rfl ?_
      obtain ⟨a24, e_a24, h⟩ := h
      refine v_nn0 e_a24 ?_
      obtain ⟨k25, h⟩ := h
      refine v_getI hX dX7_lay_111 f_RX7_126 rfl k25 ?_
      refine v_callSi0 hX dX7_lay_114 c_RX7_167 cS_X7_stretch [pR _, pI _] rfl rfl (Nat.le_of_ble_eq_true rfl) (by omega) (by omega)  (m_X7_stretch h) (fun p27 s26 h => ?_)
      refine v_min hX dX7_lay_117 mm_min_RX7_133 (by omega) (Nat.le_trans (m := 60) (Nat.le_of_ble_eq_true rfl) (by omega)) ?_
      refine v_istore (lv' := [(8, _), (7, _), (6, _), (5, _), (0, _), (1, _), (2, _), (3, _), (4, _)]) hX dX7_lay_120 (by decide) rfl ?_
      refine v_iload hX dX7_lay_122 0 rfl ?_
      refine v_if_le (tgt := 145) hX dX7_lay_124 (by decide) (fun c29 => ?_) (fun c29 => ?_)
      · have h := h_T c29 h
        refine v_pick [8, 0] rfl ?_
        exact b_X7_lay_145 hC hX hE _ h
      · have h := h_E c29 h
        refine v_aload hX dX7_lay_127 1 rfl ?_
        obtain ⟨a30, e_a30, h⟩ := h
        refine v_nn0 e_a30 ?_
        obtain ⟨k31, h⟩ := h
        refine v_getR hX dX7_lay_129 f_RX7_171 rfl k31 ?_
        refine v_aload_n hX dX7_lay_132 5 rfl rfl ?_
        obtain ⟨a32, e_a32, h⟩ := h
        refine v_nn0 e_a32 ?_
        obtain ⟨k33, h⟩ := h
        refine v_getI hX dX7_lay_133 f_RX7_158 rfl k33 ?_
        refine v_aload hX dX7_lay_136 3 rfl ?_
        refine v_iload hX dX7_lay_138 8 rfl ?_
        refine v_iload hX dX7_lay_140 0 rfl ?_
        obtain ⟨a34, e_a34, h⟩ := h
        refine v_nn2 e_a34 ?_
        obtain ⟨k35, h⟩ := h
        obtain ⟨a36, e_a36, h⟩ := h
        refine v_nn4 e_a36 ?_
        obtain ⟨k37, h⟩ := h
        obtain ⟨i38, i39, i40, i41, i42, h⟩ := h
        refine v_copy hX dX7_lay_142 sy_RX7_174 sy_nat sy_stat sy_ini (by omega) (Nat.le_trans (m := 60) (Nat.le_of_ble_eq_true rfl) (by omega)) k37 k35 i38 i39 i40 i41 i42 ?_
        refine v_pick [8, 0] rfl ?_
        exact b_X7_lay_145 hC hX hE _ h
    · have h := h_E c10 h
      refine v_aload hX dX7_lay_76 1 rfl ?_
      refine v_iload hX dX7_lay_78 6 rfl ?_
      refine v_bipush (v := -7) hX dX7_lay_80 (by decide) ?_
      obtain ⟨a44, e_a44, h⟩ := h
      refine v_nn2 e_a44 ?_
      obtain ⟨k45, h⟩ := h
      obtain ⟨i46, h⟩ := h
      refine v_iast hX dX7_lay_82 k45 i46 ?_
      refine v_iload hX dX7_lay_83 6 rfl ?_
      refine v_iconst (v := 1) hX dX7_lay_85 (by decide) ?_
      refine v_iadd hX dX7_lay_86 ?_
      exact v_iret hX hE dX7_lay_87 h
  · have h := h_E c9 h
    refine v_iload hX dX7_lay_23 0 rfl ?_
    refine v_aload_n hX dX7_lay_25 3 rfl rfl ?_
    obtain ⟨a48, e_a48, h⟩ := h
    refine v_nn0 e_a48 ?_
    obtain ⟨k49, h⟩ := h
    refine v_getI hX dX7_lay_26 f_RX7_157 rfl k49 ?_
    refine v_min hX dX7_lay_29 mm_min_RX7_133 (by omega) (Nat.le_trans (m := 60) (Nat.le_of_ble_eq_true rfl) (by omega)) ?_
    refine v_istore (lv' := [(7, _), (6, _), (5, _), (0, _), (1, _), (2, _), (3, _), (4, _)]) hX dX7_lay_32 (by decide) rfl ?_
    refine v_iconst (v := 0) hX dX7_lay_34 (by decide) ?_
    refine v_istore (lv' := [(8, _), (7, _), (6, _), (5, _), (0, _), (1, _), (2, _), (3, _), (4, _)]) hX dX7_lay_35 (by decide) rfl ?_
    refine v_pick [5, 8, 3, 1, 0] rfl ?_
    obtain ⟨n, h⟩ := h
    exact b_X7_lay_37 hC hX hE n _ _ _ _ _ _ _ _ h
set_option maxRecDepth 100000 in
set_option maxHeartbeats 4000000 in
theorem b_X7_shownOf_144 {X : h_X} {C : Nat → Int32 → Int32 → Int32 → h_S → Nat → Nat → (Option Nat → h_S → Prop) → Prop} {d : Nat} (hC : ∀ (o0 : Nat) (x1 : Int32) (x2 : Int32) (x3 : Int32) (s : h_S) (mc ms : Nat) (Q : Option Nat → h_S → Prop), C o0 x1 x2 x3 s mc ms Q → h_M (x_Z X) yX7_shownOf cX7_shownOf 11 (some (.object "SeenWords$Shown")) (2 + 2 * d) (83 + 58 * d) [pR (some o0), pI x1, pI x2, pI x3] s mc ms (h_QR (x_Z X) Q)) (hX : h_ok X cX7_shownOf 11 RX7 (2 + 2 * (d + 1)) (83 + 58 * (d + 1))) {Q : Option Nat → h_S → Prop} (hE : h_end X (some (.object "SeenWords$Shown")) (h_QR (x_Z X) Q)) {r6 : Option Nat} (s : h_S) {bc bs : Nat} (h : w_X7_shownOf_144 C Q r6 s bc bs) : h_V X 11 144 [(6, pR r6)] [] s bc bs := by
  unfold w_X7_shownOf_144 at h
  refine v_aload hX dX7_shownOf_144 0 rfl ?_
  exact v_aret hX hE (Or.inl ⟨_, rfl⟩) dX7_shownOf_146 h
set_option maxRecDepth 100000 in
set_option maxHeartbeats 4000000 in
theorem b_X7_shownOf_128 {X : h_X} {C : Nat → Int32 → Int32 → Int32 → h_S → Nat → Nat → (Option Nat → h_S → Prop) → Prop} {d : Nat} (hC : ∀ (o0 : Nat) (x1 : Int32) (x2 : Int32) (x3 : Int32) (s : h_S) (mc ms : Nat) (Q : Option Nat → h_S → Prop), C o0 x1 x2 x3 s mc ms Q → h_M (x_Z X) yX7_shownOf cX7_shownOf 11 (some (.object "SeenWords$Shown")) (2 + 2 * d) (83 + 58 * d) [pR (some o0), pI x1, pI x2, pI x3] s mc ms (h_QR (x_Z X) Q)) (hX : h_ok X cX7_shownOf 11 RX7 (2 + 2 * (d + 1)) (83 + 58 * (d + 1))) {Q : Option Nat → h_S → Prop} (hE : h_end X (some (.object "SeenWords$Shown")) (h_QR (x_Z X) Q)) {o0 : Nat} {x4 : Int32} {r6 : Option Nat} {x7 : Int32} {x9 : Int32} (s : h_S) {bc bs : Nat} (h : w_X7_shownOf_128 C Q o0 x4 r6 x7 x9 s bc bs) : h_V X 11 128 [(0, pR (some o0)), (4, pI x4), (6, pR r6), (7, pI x7), (9, pI x9)] [] s bc bs := by
  unfold w_X7_shownOf_128 at h
  refine v_aload hX dX7_shownOf_128 2 rfl ?_
  refine v_iload hX dX7_shownOf_130 1 rfl ?_
  refine v_aload_n hX dX7_shownOf_132 0 rfl rfl ?_
  obtain ⟨k1, h⟩ := h
  refine v_getR hX dX7_shownOf_133 f_RX7_45 rfl k1 ?_
  refine v_iload hX dX7_shownOf_136 3 rfl ?_
  obtain ⟨a2, e_a2, h⟩ := h
  refine v_nn1 e_a2 ?_
  obtain ⟨k3, h⟩ := h
  obtain ⟨i4, h⟩ := h
  refine v_aald (k := 8) hX dX7_shownOf_138 rfl rfl (by decide) (by decide) k3 i4 ?_
  refine v_iload hX dX7_shownOf_139 4 rfl ?_
  obtain ⟨a5, e_a5, h⟩ := h
  refine v_nn3 e_a5 ?_
  obtain ⟨k6, h⟩ := h
  obtain ⟨mc9, ms10, b11, b12, h⟩ := h
  refine v_callVv hX dX7_shownOf_141 c_RX7_150 cV_X6_keep (ci := 7) (T := TX6) (N := 3) rfl (by exact k6) [pI _, pR _, pI _] rfl rfl (Nat.le_of_ble_eq_true rfl) (by omega) (by omega) b11 b12 (m_X6_keep h) (fun s7 h => ?_)
  refine v_pick [2] rfl ?_
  exact b_X7_shownOf_144 hC hX hE _ h
set_option maxRecDepth 100000 in
set_option maxHeartbeats 4000000 in
theorem b_X7_shownOf_90 {X : h_X} {C : Nat → Int32 → Int32 → Int32 → h_S → Nat → Nat → (Option Nat → h_S → Prop) → Prop} {d : Nat} (hC : ∀ (o0 : Nat) (x1 : Int32) (x2 : Int32) (x3 : Int32) (s : h_S) (mc ms : Nat) (Q : Option Nat → h_S → Prop), C o0 x1 x2 x3 s mc ms Q → h_M (x_Z X) yX7_shownOf cX7_shownOf 11 (some (.object "SeenWords$Shown")) (2 + 2 * d) (83 + 58 * d) [pR (some o0), pI x1, pI x2, pI x3] s mc ms (h_QR (x_Z X) Q)) (hX : h_ok X cX7_shownOf 11 RX7 (2 + 2 * (d + 1)) (83 + 58 * (d + 1))) {Q : Option Nat → h_S → Prop} (hE : h_end X (some (.object "SeenWords$Shown")) (h_QR (x_Z X) Q)) : ∀ (n : Nat) (o0 : Nat) (x2 : Int32) (x4 : Int32) (r6 : Option Nat) (x7 : Int32) (r8 : Option Nat) (x9 : Int32) (x10 : Int32) (s : h_S) (bc bs : Nat), w_X7_shownOf_90 C Q n o0 x2 x4 r6 x7 r8 x9 x10 s bc bs → h_V X 11 90 [(0, pR (some o0)), (2, pI x2), (4, pI x4), (6, pR r6), (7, pI x7), (8, pR r8), (9, pI x9), (10, pI x10)] [] s bc bs := by
  intro n
  induction n with
  | zero => intro _ _ _ _ _ _ _ _ s bc bs h; exact h.elim
  | succ n hK90 =>
    intro o0 x2 x4 r6 x7 r8 x9 x10 s bc bs h
    have h : w_X7_shownOf_90b C Q (w_X7_shownOf_90 C Q n) o0 x2 x4 r6 x7 r8 x9 x10 s bc bs := h
    unfold w_X7_shownOf_90b at h
    refine v_iload hX dX7_shownOf_90 7 rfl ?_
    refine v_aload hX dX7_shownOf_92 5 rfl ?_
    obtain ⟨a1, e_a1, h⟩ := h
    refine v_nn0 e_a1 ?_
    obtain ⟨k2, h⟩ := h
    refine v_alenK hX dX7_shownOf_94 (k := 3) rfl (by decide) (by decide) k2 ?_
    refine v_icmp_ge (tgt := 128) hX dX7_shownOf_95 (by decide) (fun c3 => ?_) (fun c3 => ?_)
    · have h := h_T c3 h
      refine v_pick [0, 2, 3, 4, 6] rfl ?_
      exact b_X7_shownOf_128 hC hX hE _ h
    · have h := h_E c3 h
      refine v_iload hX dX7_shownOf_98 6 rfl ?_
      refine v_sipush (v := 300) hX dX7_shownOf_100 (by decide) ?_
      refine v_icmp_ge (tgt := 128) hX dX7_shownOf_103 (by decide) (fun c4 => ?_) (fun c4 => ?_)
      · have h := h_T c4 h
        refine v_pick [0, 2, 3, 4, 6] rfl ?_
        exact b_X7_shownOf_128 hC hX hE _ h
      · have h := h_E c4 h
        refine v_aload_n hX dX7_shownOf_106 0 rfl rfl ?_
        refine v_aload hX dX7_shownOf_107 5 rfl ?_
        refine v_iload hX dX7_shownOf_109 7 rfl ?_
        obtain ⟨a5, e_a5, h⟩ := h
        refine v_nn1 e_a5 ?_
        obtain ⟨k6, h⟩ := h
        obtain ⟨i7, h⟩ := h
        refine v_aald (k := 3) hX dX7_shownOf_111 rfl rfl (by decide) (by decide) k6 i7 ?_
        refine v_iload_n hX dX7_shownOf_112 1 rfl rfl ?_
        refine v_iload hX dX7_shownOf_113 4 rfl ?_
        refine v_iload hX dX7_shownOf_115 6 rfl ?_
        obtain ⟨k8, h⟩ := h
        obtain ⟨mc11, ms12, b13, b14, h⟩ := h
        refine v_callVi hX dX7_shownOf_117 c_RX7_146 cV_X7_lay (ci := 8) (T := TX7) (N := 13) rfl (by exact k8) [pR _, pI _, pI _, pI _] rfl rfl (Nat.le_of_ble_eq_true rfl) (by omega) (by omega) b13 b14 (mx_X7_lay hC h) (fun p10 s9 h => ?_)
        refine v_istore (lv' := [(9, _), (0, _), (2, _), (4, _), (6, _), (7, _), (8, _), (10, _)]) hX dX7_shownOf_120 (by decide) rfl ?_
        refine v_iinc (c := 1) (lv' := [(10, _), (9, _), (0, _), (2, _), (4, _), (6, _), (7, _), (8, _)]) hX dX7_shownOf_122 7 rfl (by decide) (by decide) rfl ?_
        refine v_goto (tgt := 90) hX dX7_shownOf_125 (by decide) ?_
        refine v_pick [2, 3, 4, 5, 6, 7, 1, 0] rfl ?_
        exact hK90 _ _ _ _ _ _ _ _ _ _ _ h
set_option maxRecDepth 100000 in
set_option maxHeartbeats 4000000 in
theorem b_X7_shownOf_46 {X : h_X} {C : Nat → Int32 → Int32 → Int32 → h_S → Nat → Nat → (Option Nat → h_S → Prop) → Prop} {d : Nat} (hC : ∀ (o0 : Nat) (x1 : Int32) (x2 : Int32) (x3 : Int32) (s : h_S) (mc ms : Nat) (Q : Option Nat → h_S → Prop), C o0 x1 x2 x3 s mc ms Q → h_M (x_Z X) yX7_shownOf cX7_shownOf 11 (some (.object "SeenWords$Shown")) (2 + 2 * d) (83 + 58 * d) [pR (some o0), pI x1, pI x2, pI x3] s mc ms (h_QR (x_Z X) Q)) (hX : h_ok X cX7_shownOf 11 RX7 (2 + 2 * (d + 1)) (83 + 58 * (d + 1))) {Q : Option Nat → h_S → Prop} (hE : h_end X (some (.object "SeenWords$Shown")) (h_QR (x_Z X) Q)) {o0 : Nat} {x1 : Int32} {x2 : Int32} {x3 : Int32} {x4 : Int32} {x5 : Int32} (s : h_S) {bc bs : Nat} (h : w_X7_shownOf_46 C Q o0 x1 x2 x3 x4 x5 s bc bs) : h_V X 11 46 [(0, pR (some o0)), (1, pI x1), (2, pI x2), (3, pI x3), (4, pI x4), (5, pI x5)] [] s bc bs := by
  unfold w_X7_shownOf_46 at h
  refine v_aload_n hX dX7_shownOf_46 0 rfl rfl ?_
  obtain ⟨k1, h⟩ := h
  refine v_getR hX dX7_shownOf_47 f_RX7_39 rfl k1 ?_
  refine v_iload hX dX7_shownOf_50 5 rfl ?_
  obtain ⟨a2, e_a2, h⟩ := h
  refine v_nn1 e_a2 ?_
  obtain ⟨k3, h⟩ := h
  obtain ⟨i4, h⟩ := h
  refine v_aald (k := 6) hX dX7_shownOf_52 rfl rfl (by decide) (by decide) k3 i4 ?_
  refine v_astore (lv' := [(6, _), (0, _), (1, _), (2, _), (3, _), (4, _), (5, _)]) hX dX7_shownOf_53 (by decide) rfl ?_
  refine v_aload hX dX7_shownOf_55 0 rfl ?_
  obtain ⟨a5, e_a5, h⟩ := h
  refine v_nn0 e_a5 ?_
  obtain ⟨k6, h⟩ := h
  refine v_getI hX dX7_shownOf_57 f_RX7_130 rfl k6 ?_
  refine v_iload hX dX7_shownOf_60 5 rfl ?_
  refine v_icmp_eq (tgt := 144) hX dX7_shownOf_62 (by decide) (fun c7 => ?_) (fun c7 => ?_)
  · have h := h_T c7 h
    refine v_pick [0] rfl ?_
    exact b_X7_shownOf_144 hC hX hE _ h
  · have h := h_E c7 h
    refine v_iconst (v := 0) hX dX7_shownOf_65 (by decide) ?_
    refine v_iload_n hX dX7_shownOf_66 4 rfl rfl ?_
    refine v_iconst (v := 4) hX dX7_shownOf_67 (by decide) ?_
    refine v_min hX dX7_shownOf_68 mm_min_RX7_133 (by omega) (Nat.le_trans (m := 60) (Nat.le_of_ble_eq_true rfl) (by omega)) ?_
    refine v_max hX dX7_shownOf_71 mm_max_RX7_139 (by omega) (Nat.le_trans (m := 60) (Nat.le_of_ble_eq_true rfl) (by omega)) ?_
    refine v_istore (lv' := [(7, _), (6, _), (0, _), (1, _), (2, _), (3, _), (4, _), (5, _)]) hX dX7_shownOf_74 (by decide) rfl ?_
    refine v_aload_n hX dX7_shownOf_76 2 rfl rfl ?_
    refine v_iload_n hX dX7_shownOf_77 3 rfl rfl ?_
    refine v_iload_n hX dX7_shownOf_78 4 rfl rfl ?_
    refine v_callVr0 hX dX7_shownOf_79 c_RX7_142 cV_X7_piecesAsOf (ci := 8) (T := TX7) (N := 13) rfl (by exact k1) [pI _, pI _] rfl rfl (Nat.le_of_ble_eq_true rfl) (by omega) (by omega)  (m_X7_piecesAsOf h) (fun p10 s9 h => ?_)
    refine v_astore (lv' := [(8, _), (7, _), (6, _), (0, _), (1, _), (2, _), (3, _), (4, _), (5, _)]) hX dX7_shownOf_82 (by decide) rfl ?_
    refine v_iconst (v := 0) hX dX7_shownOf_84 (by decide) ?_
    refine v_istore (lv' := [(9, _), (8, _), (7, _), (6, _), (0, _), (1, _), (2, _), (3, _), (4, _), (5, _)]) hX dX7_shownOf_85 (by decide) rfl ?_
    refine v_iconst (v := 0) hX dX7_shownOf_87 (by decide) ?_
    refine v_istore (lv' := [(10, _), (9, _), (8, _), (7, _), (6, _), (0, _), (1, _), (2, _), (3, _), (4, _), (5, _)]) hX dX7_shownOf_88 (by decide) rfl ?_
    refine v_pick [5, 7, 9, 4, 3, 2, 1, 0] rfl ?_
    obtain ⟨n, h⟩ := h
    exact b_X7_shownOf_90 hC hX hE n _ _ _ _ _ _ _ _ _ _ _ h
set_option maxRecDepth 100000 in
set_option maxHeartbeats 4000000 in
theorem mx_X7_shownOf {Z : h_Z} {C : Nat → Int32 → Int32 → Int32 → h_S → Nat → Nat → (Option Nat → h_S → Prop) → Prop} {d : Nat} (hC : ∀ (o0 : Nat) (x1 : Int32) (x2 : Int32) (x3 : Int32) (s : h_S) (mc ms : Nat) (Q : Option Nat → h_S → Prop), C o0 x1 x2 x3 s mc ms Q → h_M Z yX7_shownOf cX7_shownOf 11 (some (.object "SeenWords$Shown")) (2 + 2 * d) (83 + 58 * d) [pR (some o0), pI x1, pI x2, pI x3] s mc ms (h_QR Z Q)) {o0 : Nat} {x1 : Int32} {x2 : Int32} {x3 : Int32} {s : h_S} {mc ms : Nat} {Q : Option Nat → h_S → Prop} (h : wx_X7_shownOf C o0 x1 x2 x3 s mc ms Q) : h_M Z yX7_shownOf cX7_shownOf 11 (some (.object "SeenWords$Shown")) (2 + 2 * (d + 1)) (83 + 58 * (d + 1)) [pR (some o0), pI x1, pI x2, pI x3] s mc ms (h_QR Z Q) := by
  refine h_M.of (by decide) (Nat.le_of_ble_eq_true rfl) (fun X hZ hX hE hI => ?_)
  subst hZ
  unfold wx_X7_shownOf at h
  show h_V X 11 0 [(0, pR (some o0)), (1, pI x1), (2, pI x2), (3, pI x3)] [] s mc ms
  refine v_iload_n hX dX7_shownOf_0 2 rfl rfl ?_
  refine v_bipush (v := 12) hX dX7_shownOf_1 (by decide) ?_
  refine v_imul hX dX7_shownOf_3 ?_
  refine v_iload_n hX dX7_shownOf_4 1 rfl rfl ?_
  refine v_iadd hX dX7_shownOf_5 ?_
  refine v_iconst (v := 5) hX dX7_shownOf_6 (by decide) ?_
  refine v_imul hX dX7_shownOf_7 ?_
  refine v_iload_n hX dX7_shownOf_8 3 rfl rfl ?_
  refine v_iadd hX dX7_shownOf_9 ?_
  refine v_istore (lv' := [(4, _), (0, _), (1, _), (2, _), (3, _)]) hX dX7_shownOf_10 (by decide) rfl ?_
  refine v_iload hX dX7_shownOf_12 0 rfl ?_
  refine v_ldc hX dX7_shownOf_14 k_RX7_128 ?_
  refine v_imul hX dX7_shownOf_16 ?_
  refine v_bipush (v := 22) hX dX7_shownOf_17 (by decide) ?_
  refine v_iushr hX dX7_shownOf_19 ?_
  refine v_istore (lv' := [(5, _), (4, _), (0, _), (1, _), (2, _), (3, _)]) hX dX7_shownOf_20 (by decide) rfl ?_
  refine v_aload_n hX dX7_shownOf_22 2 rfl rfl ?_
  obtain ⟨k3, h⟩ := h
  refine v_getR hX dX7_shownOf_23 f_RX7_39 rfl k3 ?_
  refine v_iload hX dX7_shownOf_26 0 rfl ?_
  obtain ⟨a4, e_a4, h⟩ := h
  refine v_nn1 e_a4 ?_
  obtain ⟨k5, h⟩ := h
  obtain ⟨i6, h⟩ := h
  refine v_aald (k := 6) hX dX7_shownOf_28 rfl rfl (by decide) (by decide) k5 i6 ?_
  refine v_ifnonnull (tgt := 46) hX dX7_shownOf_29 (by decide) (fun c7 => ?_) (fun c7 => ?_)
  · have h := h_E c7 h
    refine v_pick [2, 3, 4, 5, 1, 0] rfl ?_
    exact b_X7_shownOf_46 hC hX hE _ h
  · have h := h_T c7 h
    refine v_aload_n hX dX7_shownOf_32 2 rfl rfl ?_
    refine v_getR hX dX7_shownOf_33 f_RX7_39 rfl k3 ?_
    refine v_iload hX dX7_shownOf_36 0 rfl ?_
    obtain ⟨b10, b11, h⟩ := h
    refine v_new hX dX7_shownOf_38 n_RX7_37 b10 b11 (fun q8 k9 => ?_)
    have h := h q8 k9
    refine v_dup hX dX7_shownOf_41 rfl ?_
    obtain ⟨mc17, ms18, b19, b20, h⟩ := h
    refine v_callIv hX dX7_shownOf_42 c_RX7_129 cI_X6_init [] rfl rfl (Nat.le_of_ble_eq_true rfl) (by omega) (by omega) b19 b20 (m_X6_init h) (fun s15 h => ?_)
    obtain ⟨a21, e_a21, h⟩ := h
    refine v_nn2 e_a21 ?_
    obtain ⟨k22, h⟩ := h
    obtain ⟨i23, h⟩ := h
    obtain ⟨k24, h⟩ := h
    refine v_aast (k := 6) (ci := 7) hX dX7_shownOf_45 rfl rfl (by decide) (by decide) k22 i23 k24 ?_
    refine v_pick [2, 3, 4, 5, 1, 0] rfl ?_
    exact b_X7_shownOf_46 hC hX hE _ h
set_option maxRecDepth 100000 in
set_option maxHeartbeats 4000000 in
theorem m_X7_shownOf {Z : h_Z} : ∀ (d : Nat) (o0 : Nat) (x1 : Int32) (x2 : Int32) (x3 : Int32) (s : h_S) (mc ms : Nat) (Q : Option Nat → h_S → Prop), w_X7_shownOf d o0 x1 x2 x3 s mc ms Q → h_M Z yX7_shownOf cX7_shownOf 11 (some (.object "SeenWords$Shown")) (2 + 2 * d) (83 + 58 * d) [pR (some o0), pI x1, pI x2, pI x3] s mc ms (h_QR Z Q) := by
  intro d
  induction d with
  | zero => intro _ _ _ _ _ _ _ _ h; exact h.elim
  | succ d ih => intro o0 x1 x2 x3 s mc ms Q h; exact mx_X7_shownOf ih h
set_option maxRecDepth 100000 in
set_option maxHeartbeats 4000000 in
theorem m_X7_sizeAsOf {Z : h_Z} {o0 : Nat} {x1 : Int32} {x2 : Int32} {s : h_S} {mc ms : Nat} {Q : Int32 → h_S → Prop} (h : w_X7_sizeAsOf o0 x1 x2 s mc ms Q) : h_M Z yX7_sizeAsOf cX7_sizeAsOf 3 (some .int) 15 461 [pR (some o0), pI x1, pI x2] s mc ms (h_QI Z Q) := by
  refine h_M.of (by decide) (Nat.le_of_ble_eq_true rfl) (fun X hZ hX hE hI => ?_)
  subst hZ
  unfold w_X7_sizeAsOf at h
  show h_V X 3 0 [(0, pR (some o0)), (1, pI x1), (2, pI x2)] [] s mc ms
  refine v_aload_n hX dX7_sizeAsOf_0 0 rfl rfl ?_
  refine v_iload_n hX dX7_sizeAsOf_1 1 rfl rfl ?_
  refine v_iload_n hX dX7_sizeAsOf_2 2 rfl rfl ?_
  refine v_iconst (v := 0) hX dX7_sizeAsOf_3 (by decide) ?_
  obtain ⟨k1, h⟩ := h
  obtain ⟨mc4, ms5, b6, b7, h⟩ := h
  refine v_callVr hX dX7_sizeAsOf_4 c_RX7_122 cV_X7_shownOf (ci := 8) (T := TX7) (N := 13) rfl (by exact k1) [pI _, pI _, pI _] rfl rfl (Nat.le_of_ble_eq_true rfl) (by decide) (by decide) b6 b7 (m_X7_shownOf 6 _ _ _ _ _ _ _ _ h) (fun p3 s2 h => ?_)
  obtain ⟨a8, e_a8, h⟩ := h
  refine v_nn0 e_a8 ?_
  obtain ⟨k9, h⟩ := h
  refine v_getI hX dX7_sizeAsOf_7 f_RX7_126 rfl k9 ?_
  exact v_iret hX hE dX7_sizeAsOf_10 h
set_option maxRecDepth 100000 in
set_option maxHeartbeats 4000000 in
theorem m_X7_sizeOf {Z : h_Z} {o0 : Nat} {r1 : Option Nat} {x2 : Int32} {x3 : Int32} {s : h_S} {mc ms : Nat} {Q : Int32 → h_S → Prop} (h : w_X7_sizeOf o0 r1 x2 x3 s mc ms Q) : h_M Z yX7_sizeOf cX7_sizeOf 4 (some .int) 15 461 [pR (some o0), pR r1, pI x2, pI x3] s mc ms (h_QI Z Q) := by
  refine h_M.of (by decide) (Nat.le_of_ble_eq_true rfl) (fun X hZ hX hE hI => ?_)
  subst hZ
  unfold w_X7_sizeOf at h
  show h_V X 4 0 [(0, pR (some o0)), (1, pR r1), (2, pI x2), (3, pI x3)] [] s mc ms
  refine v_aload_n hX dX7_sizeOf_0 1 rfl rfl ?_
  obtain ⟨a1, e_a1, h⟩ := h
  refine v_nn0 e_a1 ?_
  obtain ⟨k2, h⟩ := h
  refine v_callVi0 hX dX7_sizeOf_1 c_RX7_154 cV_X2_hasWords (ci := 3) (T := TX2) (N := 5) rfl (by exact k2) [] rfl rfl (Nat.le_of_ble_eq_true rfl) (by decide) (by decide)  (m_X2_hasWords h) (fun p4 s3 h => ?_)
  refine v_if_eq (tgt := 12) hX dX7_sizeOf_4 (by decide) (fun c5 => ?_) (fun c5 => ?_)
  · have h := h_T c5 h
    refine v_iload_n hX dX7_sizeOf_12 3 rfl rfl ?_
    refine v_iconst (v := 4) hX dX7_sizeOf_13 (by decide) ?_
    refine v_icmp_lt (tgt := 19) hX dX7_sizeOf_14 (by decide) (fun c6 => ?_) (fun c6 => ?_)
    · have h := h_T c6 h
      refine v_aload_n hX dX7_sizeOf_19 1 rfl rfl ?_
      refine v_aload_n hX dX7_sizeOf_20 0 rfl rfl ?_
      refine v_aload_n hX dX7_sizeOf_21 1 rfl rfl ?_
      obtain ⟨a7, e_a7, h⟩ := h
      refine v_nn0 e_a7 ?_
      obtain ⟨k8, h⟩ := h
      refine v_getI hX dX7_sizeOf_22 f_RX7_161 rfl k8 ?_
      refine v_aload_n hX dX7_sizeOf_25 1 rfl rfl ?_
      refine v_iload_n hX dX7_sizeOf_26 2 rfl rfl ?_
      obtain ⟨a9, e_a9, h⟩ := h
      refine v_nn1 e_a9 ?_
      obtain ⟨k10, h⟩ := h
      refine v_callVi0 hX dX7_sizeOf_27 c_RX7_164 cV_X2_momentWithin (ci := 3) (T := TX2) (N := 5) rfl (by exact k10) [pI _] rfl rfl (Nat.le_of_ble_eq_true rfl) (by decide) (by decide)  (m_X2_momentWithin h) (fun p12 s11 h => ?_)
      refine v_iload_n hX dX7_sizeOf_30 3 rfl rfl ?_
      refine v_iconst (v := 1) hX dX7_sizeOf_31 (by decide) ?_
      refine v_iadd hX dX7_sizeOf_32 ?_
      obtain ⟨k13, h⟩ := h
      obtain ⟨mc16, ms17, b18, b19, h⟩ := h
      refine v_callVr hX dX7_sizeOf_33 c_RX7_122 cV_X7_shownOf (ci := 8) (T := TX7) (N := 13) rfl (by exact k13) [pI _, pI _, pI _] rfl rfl (Nat.le_of_ble_eq_true rfl) (by decide) (by decide) b18 b19 (m_X7_shownOf 6 _ _ _ _ _ _ _ _ h) (fun p15 s14 h => ?_)
      obtain ⟨a20, e_a20, h⟩ := h
      refine v_nn0 e_a20 ?_
      obtain ⟨k21, h⟩ := h
      refine v_getI hX dX7_sizeOf_36 f_RX7_126 rfl k21 ?_
      refine v_callSi0 hX dX7_sizeOf_39 c_RX7_167 cS_X7_stretch [pR _, pI _] rfl rfl (Nat.le_of_ble_eq_true rfl) (by decide) (by decide)  (m_X7_stretch h) (fun p23 s22 h => ?_)
      exact v_iret hX hE dX7_sizeOf_42 h
    · have h := h_E c6 h
      refine v_iconst (v := 1) hX dX7_sizeOf_17 (by decide) ?_
      exact v_iret hX hE dX7_sizeOf_18 h
  · have h := h_E c5 h
    refine v_aload_n hX dX7_sizeOf_7 1 rfl rfl ?_
    obtain ⟨a24, e_a24, h⟩ := h
    refine v_nn0 e_a24 ?_
    obtain ⟨k25, h⟩ := h
    refine v_getI hX dX7_sizeOf_8 f_RX7_157 rfl k25 ?_
    exact v_iret hX hE dX7_sizeOf_11 h
set_option maxRecDepth 100000 in
set_option maxHeartbeats 4000000 in
theorem b_X7_layOut_55 {X : h_X} (hX : h_ok X cX7_layOut 3 RX7 2 42) {Q : h_S → Prop} (hE : h_end X none (h_QV (x_Z X) Q)) (s : h_S) (h : w_X7_layOut_55 Q s) : h_V X 3 55 [] [] s 0 0 := by
  unfold w_X7_layOut_55 at h
  exact v_vret hX hE dX7_layOut_55 h
set_option maxRecDepth 100000 in
set_option maxHeartbeats 4000000 in
theorem b_X7_layOut_7 {X : h_X} (hX : h_ok X cX7_layOut 3 RX7 2 42) {Q : h_S → Prop} (hE : h_end X none (h_QV (x_Z X) Q)) : ∀ (n : Nat) (o0 : Nat) (x1 : Int32) (x2 : Int32) (s : h_S), w_X7_layOut_7 Q n o0 x1 x2 s → h_V X 3 7 [(0, pR (some o0)), (1, pI x1), (2, pI x2)] [] s 0 0 := by
  intro n
  induction n with
  | zero => intro _ _ _ s h; exact h.elim
  | succ n hK7 =>
    intro o0 x1 x2 s h
    have h : w_X7_layOut_7b Q (w_X7_layOut_7 Q n) o0 x1 x2 s := h
    unfold w_X7_layOut_7b at h
    refine v_iload_n hX dX7_layOut_7 2 rfl rfl ?_
    refine v_aload_n hX dX7_layOut_8 0 rfl rfl ?_
    refine v_iload_n hX dX7_layOut_9 1 rfl rfl ?_
    obtain ⟨k1, h⟩ := h
    refine v_callVi0 hX dX7_layOut_10 c_RX7_119 cV_X7_pieceCount (ci := 8) (T := TX7) (N := 13) rfl (by exact k1) [pI _] rfl rfl (Nat.le_of_ble_eq_true rfl) (by decide) (by decide)  (m_X7_pieceCount h) (fun p3 s2 h => ?_)
    refine v_icmp_ge (tgt := 55) hX dX7_layOut_13 (by decide) (fun c4 => ?_) (fun c4 => ?_)
    · have h := h_T c4 h
      refine v_pick [] rfl ?_
      exact b_X7_layOut_55 hX hE _ h
    · have h := h_E c4 h
      refine v_iload_n hX dX7_layOut_16 2 rfl rfl ?_
      refine v_bipush (v := 24) hX dX7_layOut_17 (by decide) ?_
      refine v_icmp_ge (tgt := 55) hX dX7_layOut_19 (by decide) (fun c5 => ?_) (fun c5 => ?_)
      · have h := h_T c5 h
        refine v_pick [] rfl ?_
        exact b_X7_layOut_55 hX hE _ h
      · have h := h_E c5 h
        refine v_aload_n hX dX7_layOut_22 0 rfl rfl ?_
        obtain ⟨k6, h⟩ := h
        refine v_getR hX dX7_layOut_23 f_RX7_48 rfl k6 ?_
        refine v_iload_n hX dX7_layOut_26 2 rfl rfl ?_
        refine v_aload_n hX dX7_layOut_27 0 rfl rfl ?_
        refine v_getR hX dX7_layOut_28 f_RX7_17 rfl k6 ?_
        refine v_iload_n hX dX7_layOut_31 1 rfl rfl ?_
        obtain ⟨a7, e_a7, h⟩ := h
        refine v_nn1 e_a7 ?_
        obtain ⟨k8, h⟩ := h
        obtain ⟨i9, h⟩ := h
        refine v_aald (k := 4) hX dX7_layOut_32 rfl rfl (by decide) (by decide) k8 i9 ?_
        obtain ⟨a10, e_a10, h⟩ := h
        refine v_nn0 e_a10 ?_
        obtain ⟨k11, h⟩ := h
        refine v_getR hX dX7_layOut_33 f_RX7_112 rfl k11 ?_
        refine v_iload_n hX dX7_layOut_36 2 rfl rfl ?_
        obtain ⟨a12, e_a12, h⟩ := h
        refine v_nn1 e_a12 ?_
        obtain ⟨k13, h⟩ := h
        obtain ⟨i14, h⟩ := h
        refine v_aald (k := 3) hX dX7_layOut_37 rfl rfl (by decide) (by decide) k13 i14 ?_
        obtain ⟨a15, e_a15, h⟩ := h
        refine v_nn2 e_a15 ?_
        obtain ⟨k16, h⟩ := h
        obtain ⟨i17, h⟩ := h
        obtain ⟨b18, h⟩ := h
        refine v_aastQ (k := 3) (ci := 3) hX dX7_layOut_38 rfl rfl (by decide) (by decide) k16 i17 b18 ?_
        refine v_aload_n hX dX7_layOut_39 0 rfl rfl ?_
        refine v_dup hX dX7_layOut_40 rfl ?_
        refine v_getI hX dX7_layOut_41 f_RX7_180 rfl k6 ?_
        refine v_iconst (v := 1) hX dX7_layOut_44 (by decide) ?_
        refine v_iadd hX dX7_layOut_45 ?_
        refine v_putI hX dX7_layOut_46 f_RX7_180 k6 ?_
        refine v_iinc (c := 1) (lv' := [(2, _), (0, _), (1, _)]) hX dX7_layOut_49 2 rfl (by decide) (by decide) rfl ?_
        refine v_goto (tgt := 7) hX dX7_layOut_52 (by decide) ?_
        refine v_pick [1, 2, 0] rfl ?_
        exact hK7 _ _ _ _ h
set_option maxRecDepth 100000 in
set_option maxHeartbeats 4000000 in
theorem m_X7_layOut {Z : h_Z} {o0 : Nat} {x1 : Int32} {s : h_S} {Q : h_S → Prop} (h : w_X7_layOut o0 x1 s Q) : h_M Z yX7_layOut cX7_layOut 3 none 2 42 [pR (some o0), pI x1] s 0 0 (h_QV Z Q) := by
  refine h_M.of (by decide) (Nat.le_of_ble_eq_true rfl) (fun X hZ hX hE hI => ?_)
  subst hZ
  unfold w_X7_layOut at h
  show h_V X 3 0 [(0, pR (some o0)), (1, pI x1)] [] s 0 0
  refine v_aload_n hX dX7_layOut_0 0 rfl rfl ?_
  refine v_iconst (v := 0) hX dX7_layOut_1 (by decide) ?_
  obtain ⟨k1, h⟩ := h
  refine v_putI hX dX7_layOut_2 f_RX7_180 k1 ?_
  refine v_iconst (v := 0) hX dX7_layOut_5 (by decide) ?_
  refine v_istore_n (lv' := [(2, _), (0, _), (1, _)]) hX dX7_layOut_6 rfl (by decide) rfl ?_
  refine v_pick [1, 2, 0] rfl ?_
  obtain ⟨n, h⟩ := h
  exact b_X7_layOut_7 hX hE n _ _ _ _ h
set_option maxRecDepth 100000 in
set_option maxHeartbeats 4000000 in
theorem b_X7_insert_21 {X : h_X} (hX : h_ok X cX7_insert 4 RX7 0 0) {Q : h_S → Prop} (hE : h_end X none (h_QV (x_Z X) Q)) (s : h_S) (h : w_X7_insert_21 Q s) : h_V X 4 21 [] [] s 0 0 := by
  unfold w_X7_insert_21 at h
  exact v_vret hX hE dX7_insert_21 h
set_option maxRecDepth 100000 in
set_option maxHeartbeats 4000000 in
theorem b_X7_insert_27 {X : h_X} (hX : h_ok X cX7_insert 4 RX7 0 0) {Q : h_S → Prop} (hE : h_end X none (h_QV (x_Z X) Q)) : ∀ (n : Nat) (o0 : Nat) (x1 : Int32) (r2 : Option Nat) (x3 : Int32) (s : h_S), w_X7_insert_27 Q n o0 x1 r2 x3 s → h_V X 4 27 [(0, pR (some o0)), (1, pI x1), (2, pR r2), (3, pI x3)] [] s 0 0 := by
  intro n
  induction n with
  | zero => intro _ _ _ _ s h; exact h.elim
  | succ n hK27 =>
    intro o0 x1 r2 x3 s h
    have h : w_X7_insert_27b Q (w_X7_insert_27 Q n) o0 x1 r2 x3 s := h
    unfold w_X7_insert_27b at h
    refine v_iload_n hX dX7_insert_27 3 rfl rfl ?_
    refine v_iload_n hX dX7_insert_28 1 rfl rfl ?_
    refine v_icmp_le (tgt := 52) hX dX7_insert_29 (by decide) (fun c1 => ?_) (fun c1 => ?_)
    · have h := h_T c1 h
      refine v_aload_n hX dX7_insert_52 0 rfl rfl ?_
      obtain ⟨k2, h⟩ := h
      refine v_getR hX dX7_insert_53 f_RX7_48 rfl k2 ?_
      refine v_iload_n hX dX7_insert_56 1 rfl rfl ?_
      refine v_aload_n hX dX7_insert_57 2 rfl rfl ?_
      obtain ⟨a3, e_a3, h⟩ := h
      refine v_nn2 e_a3 ?_
      obtain ⟨k4, h⟩ := h
      obtain ⟨i5, h⟩ := h
      obtain ⟨b6, h⟩ := h
      refine v_aastQ (k := 3) (ci := 3) hX dX7_insert_58 rfl rfl (by decide) (by decide) k4 i5 b6 ?_
      refine v_aload_n hX dX7_insert_59 0 rfl rfl ?_
      refine v_dup hX dX7_insert_60 rfl ?_
      refine v_getI hX dX7_insert_61 f_RX7_180 rfl k2 ?_
      refine v_iconst (v := 1) hX dX7_insert_64 (by decide) ?_
      refine v_iadd hX dX7_insert_65 ?_
      refine v_putI hX dX7_insert_66 f_RX7_180 k2 ?_
      exact v_vret hX hE dX7_insert_69 h
    · have h := h_E c1 h
      refine v_aload_n hX dX7_insert_32 0 rfl rfl ?_
      obtain ⟨k9, h⟩ := h
      refine v_getR hX dX7_insert_33 f_RX7_48 rfl k9 ?_
      refine v_iload_n hX dX7_insert_36 3 rfl rfl ?_
      refine v_aload_n hX dX7_insert_37 0 rfl rfl ?_
      refine v_getR hX dX7_insert_38 f_RX7_48 rfl k9 ?_
      refine v_iload_n hX dX7_insert_41 3 rfl rfl ?_
      refine v_iconst (v := 1) hX dX7_insert_42 (by decide) ?_
      refine v_isub hX dX7_insert_43 ?_
      obtain ⟨a10, e_a10, h⟩ := h
      refine v_nn1 e_a10 ?_
      obtain ⟨k11, h⟩ := h
      obtain ⟨i12, h⟩ := h
      refine v_aald (k := 3) hX dX7_insert_44 rfl rfl (by decide) (by decide) k11 i12 ?_
      obtain ⟨a13, e_a13, h⟩ := h
      refine v_nn2 e_a13 ?_
      obtain ⟨k14, h⟩ := h
      obtain ⟨i15, h⟩ := h
      obtain ⟨b16, h⟩ := h
      refine v_aastQ (k := 3) (ci := 3) hX dX7_insert_45 rfl rfl (by decide) (by decide) k14 i15 b16 ?_
      refine v_iinc (c := -1) (lv' := [(3, _), (0, _), (1, _), (2, _)]) hX dX7_insert_46 3 rfl (by decide) (by decide) rfl ?_
      refine v_goto (tgt := 27) hX dX7_insert_49 (by decide) ?_
      refine v_pick [1, 2, 3, 0] rfl ?_
      exact hK27 _ _ _ _ _ h
set_option maxRecDepth 100000 in
set_option maxHeartbeats 4000000 in
theorem m_X7_insert {Z : h_Z} {o0 : Nat} {x1 : Int32} {r2 : Option Nat} {s : h_S} {Q : h_S → Prop} (h : w_X7_insert o0 x1 r2 s Q) : h_M Z yX7_insert cX7_insert 4 none 0 0 [pR (some o0), pI x1, pR r2] s 0 0 (h_QV Z Q) := by
  refine h_M.of (by decide) (Nat.le_of_ble_eq_true rfl) (fun X hZ hX hE hI => ?_)
  subst hZ
  unfold w_X7_insert at h
  show h_V X 4 0 [(0, pR (some o0)), (1, pI x1), (2, pR r2)] [] s 0 0
  refine v_aload_n hX dX7_insert_0 0 rfl rfl ?_
  obtain ⟨k1, h⟩ := h
  refine v_getI hX dX7_insert_1 f_RX7_180 rfl k1 ?_
  refine v_bipush (v := 32) hX dX7_insert_4 (by decide) ?_
  refine v_icmp_ge (tgt := 21) hX dX7_insert_6 (by decide) (fun c2 => ?_) (fun c2 => ?_)
  · have h := h_T c2 h
    refine v_pick [] rfl ?_
    exact b_X7_insert_21 hX hE _ h
  · have h := h_E c2 h
    refine v_iload_n hX dX7_insert_9 1 rfl rfl ?_
    refine v_if_lt (tgt := 21) hX dX7_insert_10 (by decide) (fun c3 => ?_) (fun c3 => ?_)
    · have h := h_T c3 h
      refine v_pick [] rfl ?_
      exact b_X7_insert_21 hX hE _ h
    · have h := h_E c3 h
      refine v_iload_n hX dX7_insert_13 1 rfl rfl ?_
      refine v_aload_n hX dX7_insert_14 0 rfl rfl ?_
      refine v_getI hX dX7_insert_15 f_RX7_180 rfl k1 ?_
      refine v_icmp_le (tgt := 22) hX dX7_insert_18 (by decide) (fun c4 => ?_) (fun c4 => ?_)
      · have h := h_T c4 h
        refine v_aload_n hX dX7_insert_22 0 rfl rfl ?_
        refine v_getI hX dX7_insert_23 f_RX7_180 rfl k1 ?_
        refine v_istore_n (lv' := [(3, _), (0, _), (1, _), (2, _)]) hX dX7_insert_26 rfl (by decide) rfl ?_
        refine v_pick [1, 2, 3, 0] rfl ?_
        obtain ⟨n, h⟩ := h
        exact b_X7_insert_27 hX hE n _ _ _ _ _ h
      · have h := h_E c4 h
        refine v_pick [] rfl ?_
        exact b_X7_insert_21 hX hE _ h
set_option maxRecDepth 100000 in
set_option maxHeartbeats 4000000 in
theorem b_X7_layRuns_74 {X : h_X} (hX : h_ok X cX7_layRuns 5 RX7 2 45) {Q : h_S → Prop} (hE : h_end X none (h_QV (x_Z X) Q)) {K10 : Nat → Option Nat → Int32 → Int32 → Int32 → h_S → Nat → Nat → Prop} (hK10 : ∀ (o0 : Nat) (r1 : Option Nat) (x2 : Int32) (x3 : Int32) (x4 : Int32) (s : h_S) (bc bs : Nat), K10 o0 r1 x2 x3 x4 s bc bs → h_V X 5 10 [(0, pR (some o0)), (1, pR r1), (2, pI x2), (3, pI x3), (4, pI x4)] [] s bc bs) {o0 : Nat} {r1 : Option Nat} {x2 : Int32} {x3 : Int32} {x4 : Int32} (s : h_S) {bc bs : Nat} (h : w_X7_layRuns_74 Q K10 o0 r1 x2 x3 x4 s bc bs) : h_V X 5 74 [(0, pR (some o0)), (1, pR r1), (2, pI x2), (3, pI x3), (4, pI x4)] [] s bc bs := by
  unfold w_X7_layRuns_74 at h
  refine v_iinc (c := 1) (lv' := [(4, _), (0, _), (1, _), (2, _), (3, _)]) hX dX7_layRuns_74 4 rfl (by decide) (by decide) rfl ?_
  refine v_goto (tgt := 10) hX dX7_layRuns_77 (by decide) ?_
  refine v_pick [1, 2, 3, 4, 0] rfl ?_
  exact hK10 _ _ _ _ _ _ _ _ h
set_option maxRecDepth 100000 in
set_option maxHeartbeats 4000000 in
theorem b_X7_layRuns_44 {X : h_X} (hX : h_ok X cX7_layRuns 5 RX7 2 45) {Q : h_S → Prop} (hE : h_end X none (h_QV (x_Z X) Q)) {K10 : Nat → Option Nat → Int32 → Int32 → Int32 → h_S → Nat → Nat → Prop} (hK10 : ∀ (o0 : Nat) (r1 : Option Nat) (x2 : Int32) (x3 : Int32) (x4 : Int32) (s : h_S) (bc bs : Nat), K10 o0 r1 x2 x3 x4 s bc bs → h_V X 5 10 [(0, pR (some o0)), (1, pR r1), (2, pI x2), (3, pI x3), (4, pI x4)] [] s bc bs) {o0 : Nat} {r1 : Option Nat} {x2 : Int32} {x3 : Int32} {x4 : Int32} (s : h_S) {bc bs : Nat} (h : w_X7_layRuns_44 Q K10 o0 r1 x2 x3 x4 s bc bs) : h_V X 5 44 [(0, pR (some o0)), (1, pR r1), (2, pI x2), (3, pI x3), (4, pI x4)] [] s bc bs := by
  unfold w_X7_layRuns_44 at h
  refine v_aload_n hX dX7_layRuns_44 0 rfl rfl ?_
  refine v_aload_n hX dX7_layRuns_45 0 rfl rfl ?_
  obtain ⟨k1, h⟩ := h
  refine v_getI hX dX7_layRuns_46 f_RX7_180 rfl k1 ?_
  obtain ⟨b4, b5, h⟩ := h
  refine v_new hX dX7_layRuns_49 n_RX7_21 b4 b5 (fun q2 k3 => ?_)
  have h := h q2 k3
  refine v_dup hX dX7_layRuns_52 rfl ?_
  refine v_iconst (v := 1) hX dX7_layRuns_53 (by decide) ?_
  refine v_aload_n hX dX7_layRuns_54 1 rfl rfl ?_
  refine v_iload_n hX dX7_layRuns_55 3 rfl rfl ?_
  obtain ⟨a9, e_a9, h⟩ := h
  refine v_nn1 e_a9 ?_
  obtain ⟨k10, h⟩ := h
  obtain ⟨i11, h⟩ := h
  refine v_iald hX dX7_layRuns_56 k10 i11 ?_
  refine v_iload hX dX7_layRuns_57 4 rfl ?_
  refine v_iload_n hX dX7_layRuns_59 3 rfl rfl ?_
  refine v_isub hX dX7_layRuns_60 ?_
  refine v_bipush (v := -9) hX dX7_layRuns_61 (by decide) ?_
  refine v_bipush (v := -9) hX dX7_layRuns_63 (by decide) ?_
  refine v_callIv0 hX dX7_layRuns_65 c_RX7_183 cI_X2_init [pI _, pI _, pI _, pI _, pI _] rfl rfl (Nat.le_of_ble_eq_true rfl) (by decide) (by decide)  (m_X2_init h) (fun s12 h => ?_)
  obtain ⟨k14, h⟩ := h
  refine v_callVv0 hX dX7_layRuns_68 c_RX7_184 cV_X7_insert (ci := 8) (T := TX7) (N := 13) rfl (by exact k14) [pI _, pR _] rfl rfl (Nat.le_of_ble_eq_true rfl) (by decide) (by decide)  (m_X7_insert h) (fun s15 h => ?_)
  refine v_iload hX dX7_layRuns_71 4 rfl ?_
  refine v_istore_n (lv' := [(3, _), (0, _), (1, _), (2, _), (4, _)]) hX dX7_layRuns_73 rfl (by decide) rfl ?_
  refine v_pick [1, 2, 3, 0, 4] rfl ?_
  exact b_X7_layRuns_74 hX hE hK10 _ h
set_option maxRecDepth 100000 in
set_option maxHeartbeats 4000000 in
theorem b_X7_layRuns_80 {X : h_X} (hX : h_ok X cX7_layRuns 5 RX7 2 45) {Q : h_S → Prop} (hE : h_end X none (h_QV (x_Z X) Q)) (s : h_S) {bc bs : Nat} (h : w_X7_layRuns_80 Q s bc bs) : h_V X 5 80 [] [] s bc bs := by
  unfold w_X7_layRuns_80 at h
  exact v_vret hX hE dX7_layRuns_80 h
set_option maxRecDepth 100000 in
set_option maxHeartbeats 4000000 in
theorem b_X7_layRuns_10 {X : h_X} (hX : h_ok X cX7_layRuns 5 RX7 2 45) {Q : h_S → Prop} (hE : h_end X none (h_QV (x_Z X) Q)) : ∀ (n : Nat) (o0 : Nat) (r1 : Option Nat) (x2 : Int32) (x3 : Int32) (x4 : Int32) (s : h_S) (bc bs : Nat), w_X7_layRuns_10 Q n o0 r1 x2 x3 x4 s bc bs → h_V X 5 10 [(0, pR (some o0)), (1, pR r1), (2, pI x2), (3, pI x3), (4, pI x4)] [] s bc bs := by
  intro n
  induction n with
  | zero => intro _ _ _ _ _ s bc bs h; exact h.elim
  | succ n hK10 =>
    intro o0 r1 x2 x3 x4 s bc bs h
    have h : w_X7_layRuns_10b Q (w_X7_layRuns_10 Q n) o0 r1 x2 x3 x4 s bc bs := h
    unfold w_X7_layRuns_10b at h
    refine v_iload hX dX7_layRuns_10 4 rfl ?_
    refine v_iload_n hX dX7_layRuns_12 2 rfl rfl ?_
    refine v_icmp_gt (tgt := 80) hX dX7_layRuns_13 (by decide) (fun c1 => ?_) (fun c1 => ?_)
    · have h := h_T c1 h
      refine v_pick [] rfl ?_
      exact b_X7_layRuns_80 hX hE _ h
    · have h := h_E c1 h
      refine v_iload hX dX7_layRuns_16 4 rfl ?_
      refine v_aload_n hX dX7_layRuns_18 1 rfl rfl ?_
      obtain ⟨a2, e_a2, h⟩ := h
      refine v_nn0 e_a2 ?_
      obtain ⟨k3, h⟩ := h
      refine v_alenK hX dX7_layRuns_19 (k := 1) rfl (by decide) (by decide) k3 ?_
      refine v_icmp_gt (tgt := 80) hX dX7_layRuns_20 (by decide) (fun c4 => ?_) (fun c4 => ?_)
      · have h := h_T c4 h
        refine v_pick [] rfl ?_
        exact b_X7_layRuns_80 hX hE _ h
      · have h := h_E c4 h
        refine v_iload hX dX7_layRuns_23 4 rfl ?_
        refine v_iload_n hX dX7_layRuns_25 2 rfl rfl ?_
        refine v_icmp_eq (tgt := 44) hX dX7_layRuns_26 (by decide) (fun c5 => ?_) (fun c5 => ?_)
        · have h := h_T c5 h
          refine v_pick [0, 1, 2, 3, 4] rfl ?_
          exact b_X7_layRuns_44 hX hE hK10 _ h
        · have h := h_E c5 h
          refine v_aload_n hX dX7_layRuns_29 1 rfl rfl ?_
          refine v_iload hX dX7_layRuns_30 4 rfl ?_
          obtain ⟨a6, e_a6, h⟩ := h
          refine v_nn1 e_a6 ?_
          obtain ⟨k7, h⟩ := h
          obtain ⟨i8, h⟩ := h
          refine v_iald hX dX7_layRuns_32 k7 i8 ?_
          refine v_aload_n hX dX7_layRuns_33 1 rfl rfl ?_
          refine v_iload hX dX7_layRuns_34 4 rfl ?_
          refine v_iconst (v := 1) hX dX7_layRuns_36 (by decide) ?_
          refine v_isub hX dX7_layRuns_37 ?_
          obtain ⟨a9, e_a9, h⟩ := h
          refine v_nn1 e_a9 ?_
          obtain ⟨k10, h⟩ := h
          obtain ⟨i11, h⟩ := h
          refine v_iald hX dX7_layRuns_38 k10 i11 ?_
          refine v_iconst (v := 1) hX dX7_layRuns_39 (by decide) ?_
          refine v_iadd hX dX7_layRuns_40 ?_
          refine v_icmp_eq (tgt := 74) hX dX7_layRuns_41 (by decide) (fun c12 => ?_) (fun c12 => ?_)
          · have h := h_T c12 h
            refine v_pick [0, 1, 2, 3, 4] rfl ?_
            exact b_X7_layRuns_74 hX hE hK10 _ h
          · have h := h_E c12 h
            refine v_pick [0, 1, 2, 3, 4] rfl ?_
            exact b_X7_layRuns_44 hX hE hK10 _ h
set_option maxRecDepth 100000 in
set_option maxHeartbeats 4000000 in
theorem m_X7_layRuns {Z : h_Z} {o0 : Nat} {r1 : Option Nat} {x2 : Int32} {s : h_S} {mc ms : Nat} {Q : h_S → Prop} (h : w_X7_layRuns o0 r1 x2 s mc ms Q) : h_M Z yX7_layRuns cX7_layRuns 5 none 2 45 [pR (some o0), pR r1, pI x2] s mc ms (h_QV Z Q) := by
  refine h_M.of (by decide) (Nat.le_of_ble_eq_true rfl) (fun X hZ hX hE hI => ?_)
  subst hZ
  unfold w_X7_layRuns at h
  show h_V X 5 0 [(0, pR (some o0)), (1, pR r1), (2, pI x2)] [] s mc ms
  refine v_aload_n hX dX7_layRuns_0 0 rfl rfl ?_
  refine v_iconst (v := 0) hX dX7_layRuns_1 (by decide) ?_
  obtain ⟨k1, h⟩ := h
  refine v_putI hX dX7_layRuns_2 f_RX7_180 k1 ?_
  refine v_iconst (v := 0) hX dX7_layRuns_5 (by decide) ?_
  refine v_istore_n (lv' := [(3, _), (0, _), (1, _), (2, _)]) hX dX7_layRuns_6 rfl (by decide) rfl ?_
  refine v_iconst (v := 1) hX dX7_layRuns_7 (by decide) ?_
  refine v_istore (lv' := [(4, _), (3, _), (0, _), (1, _), (2, _)]) hX dX7_layRuns_8 (by decide) rfl ?_
  refine v_pick [2, 3, 4, 1, 0] rfl ?_
  obtain ⟨n, h⟩ := h
  exact b_X7_layRuns_10 hX hE n _ _ _ _ _ _ _ _ h
set_option maxRecDepth 100000 in
set_option maxHeartbeats 4000000 in
theorem m_X7_partAt {Z : h_Z} {o0 : Nat} {x1 : Int32} {x2 : Int32} {s : h_S} {mc ms : Nat} {Q : Int32 → h_S → Prop} (h : w_X7_partAt o0 x1 x2 s mc ms Q) : h_M Z yX7_partAt cX7_partAt 4 (some .int) 3 66 [pR (some o0), pI x1, pI x2] s mc ms (h_QI Z Q) := by
  refine h_M.of (by decide) (Nat.le_of_ble_eq_true rfl) (fun X hZ hX hE hI => ?_)
  subst hZ
  unfold w_X7_partAt at h
  show h_V X 4 0 [(0, pR (some o0)), (1, pI x1), (2, pI x2)] [] s mc ms
  refine v_aload_n hX dX7_partAt_0 0 rfl rfl ?_
  obtain ⟨k1, h⟩ := h
  refine v_getR hX dX7_partAt_1 f_RX7_48 rfl k1 ?_
  refine v_iload_n hX dX7_partAt_4 1 rfl rfl ?_
  obtain ⟨a2, e_a2, h⟩ := h
  refine v_nn1 e_a2 ?_
  obtain ⟨k3, h⟩ := h
  obtain ⟨i4, h⟩ := h
  refine v_aald (k := 3) hX dX7_partAt_5 rfl rfl (by decide) (by decide) k3 i4 ?_
  refine v_astore_n (lv' := [(3, _), (0, _), (1, _), (2, _)]) hX dX7_partAt_6 rfl (by decide) rfl ?_
  refine v_aload_n hX dX7_partAt_7 1 rfl rfl ?_
  refine v_getR hX dX7_partAt_8 f_RX7_48 rfl k1 ?_
  refine v_iload_n hX dX7_partAt_11 2 rfl rfl ?_
  refine v_aload_n hX dX7_partAt_12 0 rfl rfl ?_
  refine v_iload_n hX dX7_partAt_13 3 rfl rfl ?_
  obtain ⟨a5, e_a5, h⟩ := h
  refine v_nn1 e_a5 ?_
  obtain ⟨k6, h⟩ := h
  obtain ⟨mc9, ms10, b11, b12, h⟩ := h
  refine v_callVr hX dX7_partAt_14 c_RX7_188 cV_X2_head (ci := 3) (T := TX2) (N := 5) rfl (by exact k6) [pI _] rfl rfl (Nat.le_of_ble_eq_true rfl) (by decide) (by decide) b11 b12 (m_X2_head h) (fun p8 s7 h => ?_)
  obtain ⟨a13, e_a13, h⟩ := h
  refine v_nn2 e_a13 ?_
  obtain ⟨k14, h⟩ := h
  obtain ⟨i15, h⟩ := h
  obtain ⟨b16, h⟩ := h
  refine v_aastQ (k := 3) (ci := 3) hX dX7_partAt_17 rfl rfl (by decide) (by decide) k14 i15 b16 ?_
  refine v_aload_n hX dX7_partAt_18 1 rfl rfl ?_
  refine v_iload_n hX dX7_partAt_19 2 rfl rfl ?_
  refine v_iconst (v := 1) hX dX7_partAt_20 (by decide) ?_
  refine v_iadd hX dX7_partAt_21 ?_
  refine v_aload_n hX dX7_partAt_22 0 rfl rfl ?_
  refine v_iload_n hX dX7_partAt_23 3 rfl rfl ?_
  obtain ⟨a18, e_a18, h⟩ := h
  refine v_nn1 e_a18 ?_
  obtain ⟨k19, h⟩ := h
  obtain ⟨mc22, ms23, b24, b25, h⟩ := h
  refine v_callVr hX dX7_partAt_24 c_RX7_192 cV_X2_tail (ci := 3) (T := TX2) (N := 5) rfl (by exact k19) [pI _] rfl rfl (Nat.le_of_ble_eq_true rfl) (by decide) (by decide) b24 b25 (m_X2_tail h) (fun p21 s20 h => ?_)
  obtain ⟨k26, h⟩ := h
  refine v_callVv0 hX dX7_partAt_27 c_RX7_184 cV_X7_insert (ci := 8) (T := TX7) (N := 13) rfl (by exact k26) [pI _, pR _] rfl rfl (Nat.le_of_ble_eq_true rfl) (by decide) (by decide)  (m_X7_insert h) (fun s27 h => ?_)
  refine v_iload_n hX dX7_partAt_30 2 rfl rfl ?_
  refine v_iconst (v := 1) hX dX7_partAt_31 (by decide) ?_
  refine v_iadd hX dX7_partAt_32 ?_
  exact v_iret hX hE dX7_partAt_33 h
set_option maxRecDepth 100000 in
set_option maxHeartbeats 4000000 in
theorem b_X7_openAhead_62 {X : h_X} (hX : h_ok X cX7_openAhead 6 RX7 16 484) {Q : Int32 → h_S → Prop} (hE : h_end X (some .int) (h_QI (x_Z X) Q)) {y0 : Int32} (s : h_S) {bc bs : Nat} (h : w_X7_openAhead_62 Q y0 s bc bs) : h_V X 6 62 [] [pI y0] s bc bs := by
  unfold w_X7_openAhead_62 at h
  exact v_iret hX hE dX7_openAhead_62 h
set_option maxRecDepth 100000 in
set_option maxHeartbeats 4000000 in
theorem b_X7_openAhead_5 {X : h_X} (hX : h_ok X cX7_openAhead 6 RX7 16 484) {Q : Int32 → h_S → Prop} (hE : h_end X (some .int) (h_QI (x_Z X) Q)) : ∀ (n : Nat) (o0 : Nat) (x1 : Int32) (x2 : Int32) (x3 : Int32) (x4 : Int32) (s : h_S) (bc bs : Nat), w_X7_openAhead_5 Q n o0 x1 x2 x3 x4 s bc bs → h_V X 6 5 [(0, pR (some o0)), (1, pI x1), (2, pI x2), (3, pI x3), (4, pI x4)] [] s bc bs := by
  intro n
  induction n with
  | zero => intro _ _ _ _ _ s bc bs h; exact h.elim
  | succ n hK5 =>
    intro o0 x1 x2 x3 x4 s bc bs h
    have h : w_X7_openAhead_5b Q (w_X7_openAhead_5 Q n) o0 x1 x2 x3 x4 s bc bs := h
    unfold w_X7_openAhead_5b at h
    refine v_iload hX dX7_openAhead_5 4 rfl ?_
    refine v_aload_n hX dX7_openAhead_7 0 rfl rfl ?_
    obtain ⟨k1, h⟩ := h
    refine v_getI hX dX7_openAhead_8 f_RX7_180 rfl k1 ?_
    refine v_icmp_ge (tgt := 72) hX dX7_openAhead_11 (by decide) (fun c2 => ?_) (fun c2 => ?_)
    · have h := h_T c2 h
      refine v_aload_n hX dX7_openAhead_72 0 rfl rfl ?_
      refine v_getI hX dX7_openAhead_73 f_RX7_180 rfl k1 ?_
      exact v_iret hX hE dX7_openAhead_76 h
    · have h := h_E c2 h
      refine v_sipush (v := 300) hX dX7_openAhead_14 (by decide) ?_
      refine v_iload_n hX dX7_openAhead_17 3 rfl rfl ?_
      refine v_aload_n hX dX7_openAhead_18 0 rfl rfl ?_
      refine v_aload_n hX dX7_openAhead_19 0 rfl rfl ?_
      refine v_getR hX dX7_openAhead_20 f_RX7_48 rfl k1 ?_
      refine v_iload hX dX7_openAhead_23 4 rfl ?_
      obtain ⟨a3, e_a3, h⟩ := h
      refine v_nn1 e_a3 ?_
      obtain ⟨k4, h⟩ := h
      obtain ⟨i5, h⟩ := h
      refine v_aald (k := 3) hX dX7_openAhead_25 rfl rfl (by decide) (by decide) k4 i5 ?_
      refine v_iload_n hX dX7_openAhead_26 2 rfl rfl ?_
      refine v_iconst (v := 0) hX dX7_openAhead_27 (by decide) ?_
      obtain ⟨mc8, ms9, b10, b11, h⟩ := h
      refine v_callVi hX dX7_openAhead_28 c_RX7_195 cV_X7_sizeOf (ci := 8) (T := TX7) (N := 13) rfl (by exact k1) [pR _, pI _, pI _] rfl rfl (Nat.le_of_ble_eq_true rfl) (by decide) (by decide) b10 b11 (m_X7_sizeOf h) (fun p7 s6 h => ?_)
      refine v_iadd hX dX7_openAhead_31 ?_
      refine v_min hX dX7_openAhead_32 mm_min_RX7_133 (by decide) (Nat.le_of_ble_eq_true rfl) ?_
      refine v_istore (lv' := [(5, _), (0, _), (1, _), (2, _), (3, _), (4, _)]) hX dX7_openAhead_35 (by decide) rfl ?_
      refine v_iload hX dX7_openAhead_37 0 rfl ?_
      refine v_iload_n hX dX7_openAhead_39 2 rfl rfl ?_
      refine v_icmp_le (tgt := 63) hX dX7_openAhead_40 (by decide) (fun c13 => ?_) (fun c13 => ?_)
      · have h := h_T c13 h
        refine v_iload hX dX7_openAhead_63 0 rfl ?_
        refine v_istore_n (lv' := [(3, _), (5, _), (0, _), (1, _), (2, _), (4, _)]) hX dX7_openAhead_65 rfl (by decide) rfl ?_
        refine v_iinc (c := 1) (lv' := [(4, _), (3, _), (5, _), (0, _), (1, _), (2, _)]) hX dX7_openAhead_66 5 rfl (by decide) (by decide) rfl ?_
        refine v_goto (tgt := 5) hX dX7_openAhead_69 (by decide) ?_
        refine v_pick [3, 4, 5, 1, 0] rfl ?_
        exact hK5 _ _ _ _ _ _ _ _ h
      · have h := h_E c13 h
        refine v_iload_n hX dX7_openAhead_43 4 rfl rfl ?_
        refine v_iload_n hX dX7_openAhead_44 2 rfl rfl ?_
        refine v_icmp_ge (tgt := 60) hX dX7_openAhead_45 (by decide) (fun c14 => ?_) (fun c14 => ?_)
        · have h := h_T c14 h
          refine v_iload hX dX7_openAhead_60 5 rfl ?_
          refine v_pick [] rfl ?_
          exact b_X7_openAhead_62 hX hE _ h
        · have h := h_E c14 h
          refine v_aload_n hX dX7_openAhead_48 1 rfl rfl ?_
          refine v_iload hX dX7_openAhead_49 5 rfl ?_
          refine v_iload_n hX dX7_openAhead_51 2 rfl rfl ?_
          refine v_iload_n hX dX7_openAhead_52 4 rfl rfl ?_
          refine v_isub hX dX7_openAhead_53 ?_
          obtain ⟨k15, h⟩ := h
          obtain ⟨mc18, ms19, b20, b21, h⟩ := h
          refine v_callVi hX dX7_openAhead_54 c_RX7_199 cV_X7_partAt (ci := 8) (T := TX7) (N := 13) rfl (by exact k15) [pI _, pI _] rfl rfl (Nat.le_of_ble_eq_true rfl) (by decide) (by decide) b20 b21 (m_X7_partAt h) (fun p17 s16 h => ?_)
          refine v_goto (tgt := 62) hX dX7_openAhead_57 (by decide) ?_
          refine v_pick [] rfl ?_
          exact b_X7_openAhead_62 hX hE _ h
set_option maxRecDepth 100000 in
set_option maxHeartbeats 4000000 in
theorem m_X7_openAhead {Z : h_Z} {o0 : Nat} {x1 : Int32} {x2 : Int32} {s : h_S} {mc ms : Nat} {Q : Int32 → h_S → Prop} (h : w_X7_openAhead o0 x1 x2 s mc ms Q) : h_M Z yX7_openAhead cX7_openAhead 6 (some .int) 16 484 [pR (some o0), pI x1, pI x2] s mc ms (h_QI Z Q) := by
  refine h_M.of (by decide) (Nat.le_of_ble_eq_true rfl) (fun X hZ hX hE hI => ?_)
  subst hZ
  unfold w_X7_openAhead at h
  show h_V X 6 0 [(0, pR (some o0)), (1, pI x1), (2, pI x2)] [] s mc ms
  refine v_iconst (v := 0) hX dX7_openAhead_0 (by decide) ?_
  refine v_istore_n (lv' := [(3, _), (0, _), (1, _), (2, _)]) hX dX7_openAhead_1 rfl (by decide) rfl ?_
  refine v_iconst (v := 0) hX dX7_openAhead_2 (by decide) ?_
  refine v_istore (lv' := [(4, _), (3, _), (0, _), (1, _), (2, _)]) hX dX7_openAhead_3 (by decide) rfl ?_
  refine v_pick [2, 3, 4, 1, 0] rfl ?_
  obtain ⟨n, h⟩ := h
  exact b_X7_openAhead_5 hX hE n _ _ _ _ _ _ _ _ h
set_option maxRecDepth 100000 in
set_option maxHeartbeats 4000000 in
theorem b_X7_openBehind_65 {X : h_X} (hX : h_ok X cX7_openBehind 6 RX7 16 484) {Q : Int32 → h_S → Prop} (hE : h_end X (some .int) (h_QI (x_Z X) Q)) {y0 : Int32} (s : h_S) {bc bs : Nat} (h : w_X7_openBehind_65 Q y0 s bc bs) : h_V X 6 65 [] [pI y0] s bc bs := by
  unfold w_X7_openBehind_65 at h
  exact v_iret hX hE dX7_openBehind_65 h
set_option maxRecDepth 100000 in
set_option maxHeartbeats 4000000 in
theorem b_X7_openBehind_5 {X : h_X} (hX : h_ok X cX7_openBehind 6 RX7 16 484) {Q : Int32 → h_S → Prop} (hE : h_end X (some .int) (h_QI (x_Z X) Q)) : ∀ (n : Nat) (o0 : Nat) (x1 : Int32) (x2 : Int32) (x3 : Int32) (x4 : Int32) (s : h_S) (bc bs : Nat), w_X7_openBehind_5 Q n o0 x1 x2 x3 x4 s bc bs → h_V X 6 5 [(0, pR (some o0)), (1, pI x1), (2, pI x2), (3, pI x3), (4, pI x4)] [] s bc bs := by
  intro n
  induction n with
  | zero => intro _ _ _ _ _ s bc bs h; exact h.elim
  | succ n hK5 =>
    intro o0 x1 x2 x3 x4 s bc bs h
    have h : w_X7_openBehind_5b Q (w_X7_openBehind_5 Q n) o0 x1 x2 x3 x4 s bc bs := h
    unfold w_X7_openBehind_5b at h
    refine v_iload hX dX7_openBehind_5 4 rfl ?_
    refine v_aload_n hX dX7_openBehind_7 0 rfl rfl ?_
    obtain ⟨k1, h⟩ := h
    refine v_getI hX dX7_openBehind_8 f_RX7_180 rfl k1 ?_
    refine v_icmp_ge (tgt := 75) hX dX7_openBehind_11 (by decide) (fun c2 => ?_) (fun c2 => ?_)
    · have h := h_T c2 h
      refine v_aload_n hX dX7_openBehind_75 0 rfl rfl ?_
      refine v_getI hX dX7_openBehind_76 f_RX7_180 rfl k1 ?_
      exact v_iret hX hE dX7_openBehind_79 h
    · have h := h_E c2 h
      refine v_sipush (v := 300) hX dX7_openBehind_14 (by decide) ?_
      refine v_iload_n hX dX7_openBehind_17 3 rfl rfl ?_
      refine v_aload_n hX dX7_openBehind_18 0 rfl rfl ?_
      refine v_aload_n hX dX7_openBehind_19 0 rfl rfl ?_
      refine v_getR hX dX7_openBehind_20 f_RX7_48 rfl k1 ?_
      refine v_iload hX dX7_openBehind_23 4 rfl ?_
      obtain ⟨a3, e_a3, h⟩ := h
      refine v_nn1 e_a3 ?_
      obtain ⟨k4, h⟩ := h
      obtain ⟨i5, h⟩ := h
      refine v_aald (k := 3) hX dX7_openBehind_25 rfl rfl (by decide) (by decide) k4 i5 ?_
      refine v_iload_n hX dX7_openBehind_26 2 rfl rfl ?_
      refine v_iconst (v := 0) hX dX7_openBehind_27 (by decide) ?_
      obtain ⟨mc8, ms9, b10, b11, h⟩ := h
      refine v_callVi hX dX7_openBehind_28 c_RX7_195 cV_X7_sizeOf (ci := 8) (T := TX7) (N := 13) rfl (by exact k1) [pR _, pI _, pI _] rfl rfl (Nat.le_of_ble_eq_true rfl) (by decide) (by decide) b10 b11 (m_X7_sizeOf h) (fun p7 s6 h => ?_)
      refine v_iadd hX dX7_openBehind_31 ?_
      refine v_min hX dX7_openBehind_32 mm_min_RX7_133 (by decide) (Nat.le_of_ble_eq_true rfl) ?_
      refine v_istore (lv' := [(5, _), (0, _), (1, _), (2, _), (3, _), (4, _)]) hX dX7_openBehind_35 (by decide) rfl ?_
      refine v_iload hX dX7_openBehind_37 0 rfl ?_
      refine v_iload_n hX dX7_openBehind_39 2 rfl rfl ?_
      refine v_icmp_lt (tgt := 66) hX dX7_openBehind_40 (by decide) (fun c13 => ?_) (fun c13 => ?_)
      · have h := h_T c13 h
        refine v_iload hX dX7_openBehind_66 0 rfl ?_
        refine v_istore_n (lv' := [(3, _), (5, _), (0, _), (1, _), (2, _), (4, _)]) hX dX7_openBehind_68 rfl (by decide) rfl ?_
        refine v_iinc (c := 1) (lv' := [(4, _), (3, _), (5, _), (0, _), (1, _), (2, _)]) hX dX7_openBehind_69 5 rfl (by decide) (by decide) rfl ?_
        refine v_goto (tgt := 5) hX dX7_openBehind_72 (by decide) ?_
        refine v_pick [3, 4, 5, 1, 0] rfl ?_
        exact hK5 _ _ _ _ _ _ _ _ h
      · have h := h_E c13 h
        refine v_iload hX dX7_openBehind_43 0 rfl ?_
        refine v_iload_n hX dX7_openBehind_45 2 rfl rfl ?_
        refine v_icmp_le (tgt := 61) hX dX7_openBehind_46 (by decide) (fun c14 => ?_) (fun c14 => ?_)
        · have h := h_T c14 h
          refine v_iload hX dX7_openBehind_61 5 rfl ?_
          refine v_iconst (v := 1) hX dX7_openBehind_63 (by decide) ?_
          refine v_iadd hX dX7_openBehind_64 ?_
          refine v_pick [] rfl ?_
          exact b_X7_openBehind_65 hX hE _ h
        · have h := h_E c14 h
          refine v_aload_n hX dX7_openBehind_49 1 rfl rfl ?_
          refine v_iload hX dX7_openBehind_50 5 rfl ?_
          refine v_iload_n hX dX7_openBehind_52 2 rfl rfl ?_
          refine v_iload_n hX dX7_openBehind_53 4 rfl rfl ?_
          refine v_isub hX dX7_openBehind_54 ?_
          obtain ⟨k15, h⟩ := h
          obtain ⟨mc18, ms19, b20, b21, h⟩ := h
          refine v_callVi hX dX7_openBehind_55 c_RX7_199 cV_X7_partAt (ci := 8) (T := TX7) (N := 13) rfl (by exact k15) [pI _, pI _] rfl rfl (Nat.le_of_ble_eq_true rfl) (by decide) (by decide) b20 b21 (m_X7_partAt h) (fun p17 s16 h => ?_)
          refine v_goto (tgt := 65) hX dX7_openBehind_58 (by decide) ?_
          refine v_pick [] rfl ?_
          exact b_X7_openBehind_65 hX hE _ h
set_option maxRecDepth 100000 in
set_option maxHeartbeats 4000000 in
theorem m_X7_openBehind {Z : h_Z} {o0 : Nat} {x1 : Int32} {x2 : Int32} {s : h_S} {mc ms : Nat} {Q : Int32 → h_S → Prop} (h : w_X7_openBehind o0 x1 x2 s mc ms Q) : h_M Z yX7_openBehind cX7_openBehind 6 (some .int) 16 484 [pR (some o0), pI x1, pI x2] s mc ms (h_QI Z Q) := by
  refine h_M.of (by decide) (Nat.le_of_ble_eq_true rfl) (fun X hZ hX hE hI => ?_)
  subst hZ
  unfold w_X7_openBehind at h
  show h_V X 6 0 [(0, pR (some o0)), (1, pI x1), (2, pI x2)] [] s mc ms
  refine v_iconst (v := 0) hX dX7_openBehind_0 (by decide) ?_
  refine v_istore_n (lv' := [(3, _), (0, _), (1, _), (2, _)]) hX dX7_openBehind_1 rfl (by decide) rfl ?_
  refine v_iconst (v := 0) hX dX7_openBehind_2 (by decide) ?_
  refine v_istore (lv' := [(4, _), (3, _), (0, _), (1, _), (2, _)]) hX dX7_openBehind_3 (by decide) rfl ?_
  refine v_pick [2, 3, 4, 1, 0] rfl ?_
  obtain ⟨n, h⟩ := h
  exact b_X7_openBehind_5 hX hE n _ _ _ _ _ _ _ _ h
set_option maxRecDepth 100000 in
set_option maxHeartbeats 4000000 in
theorem b_X7_keepLaid_20 {X : h_X} (hX : h_ok X cX7_keepLaid 5 RX7 2 43) {Q : Int32 → h_S → Prop} (hE : h_end X (some .boolean) (h_QI (x_Z X) Q)) (s : h_S) {bc bs : Nat} (h : w_X7_keepLaid_20 Q s bc bs) : h_V X 5 20 [] [] s bc bs := by
  unfold w_X7_keepLaid_20 at h
  refine v_iconst (v := 0) hX dX7_keepLaid_20 (by decide) ?_
  exact v_zret hX hE dX7_keepLaid_21 (Or.inl rfl) h
set_option maxRecDepth 100000 in
set_option maxHeartbeats 4000000 in
theorem b_X7_keepLaid_33 {X : h_X} (hX : h_ok X cX7_keepLaid 5 RX7 2 43) {Q : Int32 → h_S → Prop} (hE : h_end X (some .boolean) (h_QI (x_Z X) Q)) : ∀ (n : Nat) (o0 : Nat) (x1 : Int32) (x2 : Int32) (o3 : Nat) (x4 : Int32) (s : h_S) (bc bs : Nat), w_X7_keepLaid_33 Q n o0 x1 x2 o3 x4 s bc bs → h_V X 5 33 [(0, pR (some o0)), (1, pI x1), (2, pI x2), (3, pR (some o3)), (4, pI x4)] [] s bc bs := by
  intro n
  induction n with
  | zero => intro _ _ _ _ _ s bc bs h; exact h.elim
  | succ n hK33 =>
    intro o0 x1 x2 o3 x4 s bc bs h
    have h : w_X7_keepLaid_33b Q (w_X7_keepLaid_33 Q n) o0 x1 x2 o3 x4 s bc bs := h
    unfold w_X7_keepLaid_33b at h
    refine v_iload hX dX7_keepLaid_33 4 rfl ?_
    refine v_aload_n hX dX7_keepLaid_35 0 rfl rfl ?_
    obtain ⟨k1, h⟩ := h
    refine v_getI hX dX7_keepLaid_36 f_RX7_180 rfl k1 ?_
    refine v_icmp_ge (tgt := 59) hX dX7_keepLaid_39 (by decide) (fun c2 => ?_) (fun c2 => ?_)
    · have h := h_T c2 h
      refine v_aload_n hX dX7_keepLaid_59 0 rfl rfl ?_
      refine v_getR hX dX7_keepLaid_60 f_RX7_17 rfl k1 ?_
      refine v_iload_n hX dX7_keepLaid_63 1 rfl rfl ?_
      obtain ⟨b5, b6, h⟩ := h
      refine v_new hX dX7_keepLaid_64 n_RX7_15 b5 b6 (fun q3 k4 => ?_)
      have h := h q3 k4
      refine v_dup hX dX7_keepLaid_67 rfl ?_
      refine v_iload_n hX dX7_keepLaid_68 2 rfl rfl ?_
      refine v_aload_n hX dX7_keepLaid_69 3 rfl rfl ?_
      refine v_aload_n hX dX7_keepLaid_70 0 rfl rfl ?_
      obtain ⟨k10, h⟩ := h
      refine v_getR hX dX7_keepLaid_71 f_RX7_17 rfl k10 ?_
      refine v_iload_n hX dX7_keepLaid_74 1 rfl rfl ?_
      obtain ⟨a11, e_a11, h⟩ := h
      refine v_nn1 e_a11 ?_
      obtain ⟨k12, h⟩ := h
      obtain ⟨i13, h⟩ := h
      refine v_aald (k := 4) hX dX7_keepLaid_75 rfl rfl (by decide) (by decide) k12 i13 ?_
      refine v_callIv0 hX dX7_keepLaid_76 c_RX7_65 cI_X4_init [pI _, pR _, pR _] rfl rfl (Nat.le_of_ble_eq_true rfl) (by decide) (by decide)  (m_X4_init h) (fun s14 h => ?_)
      obtain ⟨a16, e_a16, h⟩ := h
      refine v_nn2 e_a16 ?_
      obtain ⟨k17, h⟩ := h
      obtain ⟨i18, h⟩ := h
      obtain ⟨k19, h⟩ := h
      refine v_aast (k := 4) (ci := 5) hX dX7_keepLaid_79 rfl rfl (by decide) (by decide) k17 i18 k19 ?_
      refine v_iconst (v := 1) hX dX7_keepLaid_80 (by decide) ?_
      exact v_zret hX hE dX7_keepLaid_81 (Or.inr rfl) h
    · have h := h_E c2 h
      refine v_aload_n hX dX7_keepLaid_42 3 rfl rfl ?_
      refine v_iload hX dX7_keepLaid_43 4 rfl ?_
      refine v_aload_n hX dX7_keepLaid_45 0 rfl rfl ?_
      refine v_getR hX dX7_keepLaid_46 f_RX7_48 rfl k1 ?_
      refine v_iload hX dX7_keepLaid_49 4 rfl ?_
      obtain ⟨a21, e_a21, h⟩ := h
      refine v_nn1 e_a21 ?_
      obtain ⟨k22, h⟩ := h
      obtain ⟨i23, h⟩ := h
      refine v_aald (k := 3) hX dX7_keepLaid_51 rfl rfl (by decide) (by decide) k22 i23 ?_
      obtain ⟨k24, h⟩ := h
      obtain ⟨i25, h⟩ := h
      obtain ⟨b26, h⟩ := h
      refine v_aastQ (k := 3) (ci := 3) hX dX7_keepLaid_52 rfl rfl (by decide) (by decide) k24 i25 b26 ?_
      refine v_iinc (c := 1) (lv' := [(4, _), (0, _), (1, _), (2, _), (3, _)]) hX dX7_keepLaid_53 4 rfl (by decide) (by decide) rfl ?_
      refine v_goto (tgt := 33) hX dX7_keepLaid_56 (by decide) ?_
      refine v_pick [1, 2, 3, 4, 0] rfl ?_
      exact hK33 _ _ _ _ _ _ _ _ h
set_option maxRecDepth 100000 in
set_option maxHeartbeats 4000000 in
theorem m_X7_keepLaid {Z : h_Z} {o0 : Nat} {x1 : Int32} {x2 : Int32} {s : h_S} {mc ms : Nat} {Q : Int32 → h_S → Prop} (h : w_X7_keepLaid o0 x1 x2 s mc ms Q) : h_M Z yX7_keepLaid cX7_keepLaid 5 (some .boolean) 2 43 [pR (some o0), pI x1, pI x2] s mc ms (h_QI Z Q) := by
  refine h_M.of (by decide) (Nat.le_of_ble_eq_true rfl) (fun X hZ hX hE hI => ?_)
  subst hZ
  unfold w_X7_keepLaid at h
  show h_V X 5 0 [(0, pR (some o0)), (1, pI x1), (2, pI x2)] [] s mc ms
  refine v_aload_n hX dX7_keepLaid_0 0 rfl rfl ?_
  obtain ⟨k1, h⟩ := h
  refine v_getI hX dX7_keepLaid_1 f_RX7_180 rfl k1 ?_
  refine v_bipush (v := 24) hX dX7_keepLaid_4 (by decide) ?_
  refine v_icmp_gt (tgt := 20) hX dX7_keepLaid_6 (by decide) (fun c2 => ?_) (fun c2 => ?_)
  · have h := h_T c2 h
    refine v_pick [] rfl ?_
    exact b_X7_keepLaid_20 hX hE _ h
  · have h := h_E c2 h
    refine v_iload_n hX dX7_keepLaid_9 1 rfl rfl ?_
    refine v_aload_n hX dX7_keepLaid_10 0 rfl rfl ?_
    refine v_getI hX dX7_keepLaid_11 f_RX7_57 rfl k1 ?_
    refine v_callSi0 hX dX7_keepLaid_14 c_RX7_68 cS_X11_within [pI _, pI _] rfl rfl (Nat.le_of_ble_eq_true rfl) (by decide) (by decide)  (m_X11_within h) (fun p4 s3 h => ?_)
    refine v_if_ne (tgt := 22) hX dX7_keepLaid_17 (by decide) (fun c5 => ?_) (fun c5 => ?_)
    · have h := h_E c5 h
      refine v_aload_n hX dX7_keepLaid_22 0 rfl rfl ?_
      obtain ⟨k6, h⟩ := h
      refine v_getI hX dX7_keepLaid_23 f_RX7_180 rfl k6 ?_
      obtain ⟨n11, n12, b9, b10, h⟩ := h
      refine v_anew (k := 3) hX dX7_keepLaid_26 kl_RX7_21 ao_3 rfl (by decide) (by decide) rfl n11 n12 b9 b10 (fun q7 k8 => ?_)
      have h := h q7 k8
      refine v_astore_n (lv' := [(3, _), (0, _), (1, _), (2, _)]) hX dX7_keepLaid_29 rfl (by decide) rfl ?_
      refine v_iconst (v := 0) hX dX7_keepLaid_30 (by decide) ?_
      refine v_istore (lv' := [(4, _), (3, _), (0, _), (1, _), (2, _)]) hX dX7_keepLaid_31 (by decide) rfl ?_
      refine v_pick [2, 3, 4, 1, 0] rfl ?_
      obtain ⟨n, h⟩ := h
      exact b_X7_keepLaid_33 hX hE n _ _ _ _ _ _ _ _ h
    · have h := h_T c5 h
      refine v_pick [] rfl ?_
      exact b_X7_keepLaid_20 hX hE _ h
set_option maxRecDepth 100000 in
set_option maxHeartbeats 4000000 in
theorem m_X7_bring {Z : h_Z} {o0 : Nat} {x1 : Int32} {x2 : Int32} {r3 : Option Nat} {x4 : Int32} {s : h_S} {mc ms : Nat} {Q : Int32 → h_S → Prop} (h : w_X7_bring o0 x1 x2 r3 x4 s mc ms Q) : h_M Z yX7_bring cX7_bring 5 (some .boolean) 17 509 [pR (some o0), pI x1, pI x2, pR r3, pI x4] s mc ms (h_QI Z Q) := by
  refine h_M.of (by decide) (Nat.le_of_ble_eq_true rfl) (fun X hZ hX hE hI => ?_)
  subst hZ
  unfold w_X7_bring at h
  show h_V X 5 0 [(0, pR (some o0)), (1, pI x1), (2, pI x2), (3, pR r3), (4, pI x4)] [] s mc ms
  refine v_aload_n hX dX7_bring_0 0 rfl rfl ?_
  refine v_iload_n hX dX7_bring_1 1 rfl rfl ?_
  obtain ⟨k1, h⟩ := h
  refine v_callVv0 hX dX7_bring_2 c_RX7_202 cV_X7_layOut (ci := 8) (T := TX7) (N := 13) rfl (by exact k1) [pI _] rfl rfl (Nat.le_of_ble_eq_true rfl) (by decide) (by decide)  (m_X7_layOut h) (fun s2 h => ?_)
  refine v_aload_n hX dX7_bring_5 0 rfl rfl ?_
  refine v_aload_n hX dX7_bring_6 0 rfl rfl ?_
  refine v_iload_n hX dX7_bring_7 2 rfl rfl ?_
  refine v_iload hX dX7_bring_8 4 rfl ?_
  obtain ⟨k4, h⟩ := h
  obtain ⟨mc7, ms8, b9, b10, h⟩ := h
  refine v_callVi hX dX7_bring_10 c_RX7_206 cV_X7_openAhead (ci := 8) (T := TX7) (N := 13) rfl (by exact k4) [pI _, pI _] rfl rfl (Nat.le_of_ble_eq_true rfl) (by decide) (by decide) b9 b10 (m_X7_openAhead h) (fun p6 s5 h => ?_)
  refine v_aload_n hX dX7_bring_13 3 rfl rfl ?_
  obtain ⟨k11, h⟩ := h
  refine v_callVv0 hX dX7_bring_14 c_RX7_184 cV_X7_insert (ci := 8) (T := TX7) (N := 13) rfl (by exact k11) [pI _, pR _] rfl rfl (Nat.le_of_ble_eq_true rfl) (by decide) (by decide)  (m_X7_insert h) (fun s12 h => ?_)
  refine v_aload_n hX dX7_bring_17 0 rfl rfl ?_
  refine v_iload_n hX dX7_bring_18 1 rfl rfl ?_
  refine v_iload hX dX7_bring_19 4 rfl ?_
  refine v_iconst (v := 1) hX dX7_bring_21 (by decide) ?_
  refine v_iadd hX dX7_bring_22 ?_
  obtain ⟨k14, h⟩ := h
  obtain ⟨mc17, ms18, b19, b20, h⟩ := h
  refine v_callVi hX dX7_bring_23 c_RX7_209 cV_X7_keepLaid (ci := 8) (T := TX7) (N := 13) rfl (by exact k14) [pI _, pI _] rfl rfl (Nat.le_of_ble_eq_true rfl) (by decide) (by decide) b19 b20 (m_X7_keepLaid h) (fun p16 s15 h => ?_)
  exact v_zret hX hE dX7_bring_26 h.1 h.2
set_option maxRecDepth 100000 in
set_option maxHeartbeats 4000000 in
theorem b_X7_lift_118 {X : h_X} (hX : h_ok X cX7_lift 8 RX7 17 509) {Q : h_S → Prop} (hE : h_end X none (h_QV (x_Z X) Q)) {o0 : Nat} (s : h_S) {bc bs : Nat} (h : w_X7_lift_118 Q o0 s bc bs) : h_V X 8 118 [(0, pR (some o0))] [] s bc bs := by
  unfold w_X7_lift_118 at h
  refine v_aload_n hX dX7_lift_118 0 rfl rfl ?_
  refine v_dup hX dX7_lift_119 rfl ?_
  obtain ⟨k1, h⟩ := h
  refine v_getI hX dX7_lift_120 f_RX7_180 rfl k1 ?_
  refine v_aload_n hX dX7_lift_123 0 rfl rfl ?_
  refine v_getI hX dX7_lift_124 f_RX7_215 rfl k1 ?_
  refine v_isub hX dX7_lift_127 ?_
  refine v_putI hX dX7_lift_128 f_RX7_180 k1 ?_
  exact v_vret hX hE dX7_lift_131 h
set_option maxRecDepth 100000 in
set_option maxHeartbeats 4000000 in
theorem b_X7_lift_77 {X : h_X} (hX : h_ok X cX7_lift 8 RX7 17 509) {Q : h_S → Prop} (hE : h_end X none (h_QV (x_Z X) Q)) : ∀ (n : Nat) (o0 : Nat) (x7 : Int32) (s : h_S) (bc bs : Nat), w_X7_lift_77 Q n o0 x7 s bc bs → h_V X 8 77 [(0, pR (some o0)), (7, pI x7)] [] s bc bs := by
  intro n
  induction n with
  | zero => intro _ _ s bc bs h; exact h.elim
  | succ n hK77 =>
    intro o0 x7 s bc bs h
    have h : w_X7_lift_77b Q (w_X7_lift_77 Q n) o0 x7 s bc bs := h
    unfold w_X7_lift_77b at h
    refine v_iload hX dX7_lift_77 1 rfl ?_
    refine v_aload_n hX dX7_lift_79 0 rfl rfl ?_
    obtain ⟨k1, h⟩ := h
    refine v_getI hX dX7_lift_80 f_RX7_180 rfl k1 ?_
    refine v_icmp_ge (tgt := 118) hX dX7_lift_83 (by decide) (fun c2 => ?_) (fun c2 => ?_)
    · have h := h_T c2 h
      refine v_pick [0] rfl ?_
      exact b_X7_lift_118 hX hE _ h
    · have h := h_E c2 h
      refine v_aload_n hX dX7_lift_86 0 rfl rfl ?_
      refine v_getI hX dX7_lift_87 f_RX7_215 rfl k1 ?_
      refine v_if_le (tgt := 118) hX dX7_lift_90 (by decide) (fun c3 => ?_) (fun c3 => ?_)
      · have h := h_T c3 h
        refine v_pick [0] rfl ?_
        exact b_X7_lift_118 hX hE _ h
      · have h := h_E c3 h
        refine v_aload_n hX dX7_lift_93 0 rfl rfl ?_
        refine v_getR hX dX7_lift_94 f_RX7_48 rfl k1 ?_
        refine v_iload hX dX7_lift_97 1 rfl ?_
        refine v_aload_n hX dX7_lift_99 0 rfl rfl ?_
        refine v_getI hX dX7_lift_100 f_RX7_215 rfl k1 ?_
        refine v_isub hX dX7_lift_103 ?_
        refine v_aload_n hX dX7_lift_104 0 rfl rfl ?_
        refine v_getR hX dX7_lift_105 f_RX7_48 rfl k1 ?_
        refine v_iload hX dX7_lift_108 1 rfl ?_
        obtain ⟨a4, e_a4, h⟩ := h
        refine v_nn1 e_a4 ?_
        obtain ⟨k5, h⟩ := h
        obtain ⟨i6, h⟩ := h
        refine v_aald (k := 3) hX dX7_lift_110 rfl rfl (by decide) (by decide) k5 i6 ?_
        obtain ⟨a7, e_a7, h⟩ := h
        refine v_nn2 e_a7 ?_
        obtain ⟨k8, h⟩ := h
        obtain ⟨i9, h⟩ := h
        obtain ⟨b10, h⟩ := h
        refine v_aastQ (k := 3) (ci := 3) hX dX7_lift_111 rfl rfl (by decide) (by decide) k8 i9 b10 ?_
        refine v_iinc (c := 1) (lv' := [(7, _), (0, _)]) hX dX7_lift_112 1 rfl (by decide) (by decide) rfl ?_
        refine v_goto (tgt := 77) hX dX7_lift_115 (by decide) ?_
        refine v_pick [1, 0] rfl ?_
        exact hK77 _ _ _ _ _ h
set_option maxRecDepth 100000 in
set_option maxHeartbeats 4000000 in
theorem b_X7_lift_41 {X : h_X} (hX : h_ok X cX7_lift 8 RX7 17 509) {Q : h_S → Prop} (hE : h_end X none (h_QV (x_Z X) Q)) : ∀ (n : Nat) (o0 : Nat) (x5 : Int32) (x6 : Int32) (x7 : Int32) (s : h_S) (bc bs : Nat), w_X7_lift_41 Q n o0 x5 x6 x7 s bc bs → h_V X 8 41 [(0, pR (some o0)), (5, pI x5), (6, pI x6), (7, pI x7)] [] s bc bs := by
  intro n
  induction n with
  | zero => intro _ _ _ _ s bc bs h; exact h.elim
  | succ n hK41 =>
    intro o0 x5 x6 x7 s bc bs h
    have h : w_X7_lift_41b Q (w_X7_lift_41 Q n) o0 x5 x6 x7 s bc bs := h
    unfold w_X7_lift_41b at h
    refine v_iload hX dX7_lift_41 3 rfl ?_
    refine v_aload_n hX dX7_lift_43 0 rfl rfl ?_
    obtain ⟨k1, h⟩ := h
    refine v_getI hX dX7_lift_44 f_RX7_215 rfl k1 ?_
    refine v_icmp_ge (tgt := 73) hX dX7_lift_47 (by decide) (fun c2 => ?_) (fun c2 => ?_)
    · have h := h_T c2 h
      refine v_iload hX dX7_lift_73 2 rfl ?_
      refine v_istore (lv' := [(7, _), (0, _), (5, _), (6, _)]) hX dX7_lift_75 (by decide) rfl ?_
      refine v_pick [1, 0] rfl ?_
      obtain ⟨n, h⟩ := h
      exact b_X7_lift_77 hX hE n _ _ _ _ _ h
    · have h := h_E c2 h
      refine v_aload_n hX dX7_lift_50 0 rfl rfl ?_
      refine v_getR hX dX7_lift_51 f_RX7_51 rfl k1 ?_
      refine v_iload hX dX7_lift_54 3 rfl ?_
      refine v_aload_n hX dX7_lift_56 0 rfl rfl ?_
      refine v_getR hX dX7_lift_57 f_RX7_48 rfl k1 ?_
      refine v_iload hX dX7_lift_60 1 rfl ?_
      refine v_iload hX dX7_lift_62 3 rfl ?_
      refine v_iadd hX dX7_lift_64 ?_
      obtain ⟨a3, e_a3, h⟩ := h
      refine v_nn1 e_a3 ?_
      obtain ⟨k4, h⟩ := h
      obtain ⟨i5, h⟩ := h
      refine v_aald (k := 3) hX dX7_lift_65 rfl rfl (by decide) (by decide) k4 i5 ?_
      obtain ⟨a6, e_a6, h⟩ := h
      refine v_nn2 e_a6 ?_
      obtain ⟨k7, h⟩ := h
      obtain ⟨i8, h⟩ := h
      obtain ⟨b9, h⟩ := h
      refine v_aastQ (k := 3) (ci := 3) hX dX7_lift_66 rfl rfl (by decide) (by decide) k7 i8 b9 ?_
      refine v_iinc (c := 1) (lv' := [(7, _), (0, _), (5, _), (6, _)]) hX dX7_lift_67 3 rfl (by decide) (by decide) rfl ?_
      refine v_goto (tgt := 41) hX dX7_lift_70 (by decide) ?_
      refine v_pick [1, 2, 3, 0] rfl ?_
      exact hK41 _ _ _ _ _ _ _ h
set_option maxRecDepth 100000 in
set_option maxHeartbeats 4000000 in
theorem m_X7_lift {Z : h_Z} {o0 : Nat} {x1 : Int32} {x2 : Int32} {x3 : Int32} {x4 : Int32} {s : h_S} {mc ms : Nat} {Q : h_S → Prop} (h : w_X7_lift o0 x1 x2 x3 x4 s mc ms Q) : h_M Z yX7_lift cX7_lift 8 none 17 509 [pR (some o0), pI x1, pI x2, pI x3, pI x4] s mc ms (h_QV Z Q) := by
  refine h_M.of (by decide) (Nat.le_of_ble_eq_true rfl) (fun X hZ hX hE hI => ?_)
  subst hZ
  unfold w_X7_lift at h
  show h_V X 8 0 [(0, pR (some o0)), (1, pI x1), (2, pI x2), (3, pI x3), (4, pI x4)] [] s mc ms
  refine v_aload_n hX dX7_lift_0 0 rfl rfl ?_
  refine v_iload_n hX dX7_lift_1 1 rfl rfl ?_
  obtain ⟨k1, h⟩ := h
  refine v_callVv0 hX dX7_lift_2 c_RX7_202 cV_X7_layOut (ci := 8) (T := TX7) (N := 13) rfl (by exact k1) [pI _] rfl rfl (Nat.le_of_ble_eq_true rfl) (by decide) (by decide)  (m_X7_layOut h) (fun s2 h => ?_)
  refine v_aload_n hX dX7_lift_5 0 rfl rfl ?_
  refine v_iload_n hX dX7_lift_6 2 rfl rfl ?_
  refine v_iload hX dX7_lift_7 4 rfl ?_
  obtain ⟨k4, h⟩ := h
  obtain ⟨mc7, ms8, b9, b10, h⟩ := h
  refine v_callVi hX dX7_lift_9 c_RX7_206 cV_X7_openAhead (ci := 8) (T := TX7) (N := 13) rfl (by exact k4) [pI _, pI _] rfl rfl (Nat.le_of_ble_eq_true rfl) (by decide) (by decide) b9 b10 (m_X7_openAhead h) (fun p6 s5 h => ?_)
  refine v_istore (lv' := [(5, _), (0, _), (1, _), (2, _), (3, _), (4, _)]) hX dX7_lift_12 (by decide) rfl ?_
  refine v_aload_n hX dX7_lift_14 1 rfl rfl ?_
  refine v_iload_n hX dX7_lift_15 3 rfl rfl ?_
  refine v_iload_n hX dX7_lift_16 4 rfl rfl ?_
  refine v_iadd hX dX7_lift_17 ?_
  refine v_iload hX dX7_lift_18 5 rfl ?_
  obtain ⟨k11, h⟩ := h
  obtain ⟨mc14, ms15, b16, b17, h⟩ := h
  refine v_callVi hX dX7_lift_20 c_RX7_212 cV_X7_openBehind (ci := 8) (T := TX7) (N := 13) rfl (by exact k11) [pI _, pI _] rfl rfl (Nat.le_of_ble_eq_true rfl) (by decide) (by decide) b16 b17 (m_X7_openBehind h) (fun p13 s12 h => ?_)
  refine v_istore (lv' := [(6, _), (5, _), (0, _), (1, _), (2, _), (3, _), (4, _)]) hX dX7_lift_23 (by decide) rfl ?_
  refine v_aload_n hX dX7_lift_25 2 rfl rfl ?_
  refine v_iconst (v := 0) hX dX7_lift_26 (by decide) ?_
  refine v_iload hX dX7_lift_27 0 rfl ?_
  refine v_iload hX dX7_lift_29 1 rfl ?_
  refine v_isub hX dX7_lift_31 ?_
  refine v_max hX dX7_lift_32 mm_max_RX7_139 (by decide) (Nat.le_of_ble_eq_true rfl) ?_
  obtain ⟨k18, h⟩ := h
  refine v_putI hX dX7_lift_35 f_RX7_215 k18 ?_
  refine v_iconst (v := 0) hX dX7_lift_38 (by decide) ?_
  refine v_istore (lv' := [(7, _), (6, _), (5, _), (0, _), (1, _), (2, _), (3, _), (4, _)]) hX dX7_lift_39 (by decide) rfl ?_
  refine v_pick [3, 2, 1, 0] rfl ?_
  obtain ⟨n, h⟩ := h
  exact b_X7_lift_41 hX hE n _ _ _ _ _ _ _ h
set_option maxRecDepth 100000 in
set_option maxHeartbeats 4000000 in
theorem b_X7_bringLifted_10 {X : h_X} (hX : h_ok X cX7_bringLifted 5 RX7 17 509) {Q : h_S → Prop} (hE : h_end X none (h_QV (x_Z X) Q)) : ∀ (n : Nat) (o0 : Nat) (x3 : Int32) (x4 : Int32) (s : h_S) (bc bs : Nat), w_X7_bringLifted_10 Q n o0 x3 x4 s bc bs → h_V X 5 10 [(0, pR (some o0)), (3, pI x3), (4, pI x4)] [] s bc bs := by
  intro n
  induction n with
  | zero => intro _ _ _ s bc bs h; exact h.elim
  | succ n hK10 =>
    intro o0 x3 x4 s bc bs h
    have h : w_X7_bringLifted_10b Q (w_X7_bringLifted_10 Q n) o0 x3 x4 s bc bs := h
    unfold w_X7_bringLifted_10b at h
    refine v_iload hX dX7_bringLifted_10 2 rfl ?_
    refine v_aload_n hX dX7_bringLifted_12 0 rfl rfl ?_
    obtain ⟨k1, h⟩ := h
    refine v_getI hX dX7_bringLifted_13 f_RX7_215 rfl k1 ?_
    refine v_icmp_ge (tgt := 40) hX dX7_bringLifted_16 (by decide) (fun c2 => ?_) (fun c2 => ?_)
    · have h := h_T c2 h
      exact v_vret hX hE dX7_bringLifted_40 h
    · have h := h_E c2 h
      refine v_aload_n hX dX7_bringLifted_19 0 rfl rfl ?_
      refine v_iload_n hX dX7_bringLifted_20 1 rfl rfl ?_
      refine v_iload hX dX7_bringLifted_21 2 rfl ?_
      refine v_iadd hX dX7_bringLifted_23 ?_
      refine v_aload_n hX dX7_bringLifted_24 0 rfl rfl ?_
      refine v_getR hX dX7_bringLifted_25 f_RX7_51 rfl k1 ?_
      refine v_iload hX dX7_bringLifted_28 2 rfl ?_
      obtain ⟨a3, e_a3, h⟩ := h
      refine v_nn1 e_a3 ?_
      obtain ⟨k4, h⟩ := h
      obtain ⟨i5, h⟩ := h
      refine v_aald (k := 3) hX dX7_bringLifted_30 rfl rfl (by decide) (by decide) k4 i5 ?_
      refine v_callVv0 hX dX7_bringLifted_31 c_RX7_184 cV_X7_insert (ci := 8) (T := TX7) (N := 13) rfl (by exact k1) [pI _, pR _] rfl rfl (Nat.le_of_ble_eq_true rfl) (by decide) (by decide)  (m_X7_insert h) (fun s6 h => ?_)
      refine v_iinc (c := 1) (lv' := [(4, _), (0, _), (3, _)]) hX dX7_bringLifted_34 2 rfl (by decide) (by decide) rfl ?_
      refine v_goto (tgt := 10) hX dX7_bringLifted_37 (by decide) ?_
      refine v_pick [1, 2, 0] rfl ?_
      exact hK10 _ _ _ _ _ _ h
set_option maxRecDepth 100000 in
set_option maxHeartbeats 4000000 in
theorem m_X7_bringLifted {Z : h_Z} {o0 : Nat} {x1 : Int32} {x2 : Int32} {s : h_S} {mc ms : Nat} {Q : h_S → Prop} (h : w_X7_bringLifted o0 x1 x2 s mc ms Q) : h_M Z yX7_bringLifted cX7_bringLifted 5 none 17 509 [pR (some o0), pI x1, pI x2] s mc ms (h_QV Z Q) := by
  refine h_M.of (by decide) (Nat.le_of_ble_eq_true rfl) (fun X hZ hX hE hI => ?_)
  subst hZ
  unfold w_X7_bringLifted at h
  show h_V X 5 0 [(0, pR (some o0)), (1, pI x1), (2, pI x2)] [] s mc ms
  refine v_aload_n hX dX7_bringLifted_0 0 rfl rfl ?_
  refine v_iload_n hX dX7_bringLifted_1 1 rfl rfl ?_
  refine v_iload_n hX dX7_bringLifted_2 2 rfl rfl ?_
  obtain ⟨k1, h⟩ := h
  obtain ⟨mc4, ms5, b6, b7, h⟩ := h
  refine v_callVi hX dX7_bringLifted_3 c_RX7_206 cV_X7_openAhead (ci := 8) (T := TX7) (N := 13) rfl (by exact k1) [pI _, pI _] rfl rfl (Nat.le_of_ble_eq_true rfl) (by decide) (by decide) b6 b7 (m_X7_openAhead h) (fun p3 s2 h => ?_)
  refine v_istore_n (lv' := [(3, _), (0, _), (1, _), (2, _)]) hX dX7_bringLifted_6 rfl (by decide) rfl ?_
  refine v_iconst (v := 0) hX dX7_bringLifted_7 (by decide) ?_
  refine v_istore (lv' := [(4, _), (3, _), (0, _), (1, _), (2, _)]) hX dX7_bringLifted_8 (by decide) rfl ?_
  refine v_pick [2, 1, 0] rfl ?_
  obtain ⟨n, h⟩ := h
  exact b_X7_bringLifted_10 hX hE n _ _ _ _ _ _ h
set_option maxRecDepth 100000 in
set_option maxHeartbeats 4000000 in
theorem b_X7_returnTo_37 {X : h_X} (hX : h_ok X cX7_returnTo 4 RX7 2 44) {Q : h_S → Prop} (hE : h_end X none (h_QV (x_Z X) Q)) (s : h_S) {bc bs : Nat} (h : w_X7_returnTo_37 Q s bc bs) : h_V X 4 37 [] [] s bc bs := by
  unfold w_X7_returnTo_37 at h
  exact v_vret hX hE dX7_returnTo_37 h
set_option maxRecDepth 100000 in
set_option maxHeartbeats 4000000 in
theorem m_X7_returnTo {Z : h_Z} {o0 : Nat} {x1 : Int32} {x2 : Int32} {x3 : Int32} {s : h_S} {mc ms : Nat} {Q : h_S → Prop} (h : w_X7_returnTo o0 x1 x2 x3 s mc ms Q) : h_M Z yX7_returnTo cX7_returnTo 4 none 2 44 [pR (some o0), pI x1, pI x2, pI x3] s mc ms (h_QV Z Q) := by
  refine h_M.of (by decide) (Nat.le_of_ble_eq_true rfl) (fun X hZ hX hE hI => ?_)
  subst hZ
  unfold w_X7_returnTo at h
  show h_V X 4 0 [(0, pR (some o0)), (1, pI x1), (2, pI x2), (3, pI x3)] [] s mc ms
  refine v_iload_n hX dX7_returnTo_0 1 rfl rfl ?_
  refine v_aload_n hX dX7_returnTo_1 0 rfl rfl ?_
  obtain ⟨k1, h⟩ := h
  refine v_getI hX dX7_returnTo_2 f_RX7_57 rfl k1 ?_
  refine v_callSi0 hX dX7_returnTo_5 c_RX7_68 cS_X11_within [pI _, pI _] rfl rfl (Nat.le_of_ble_eq_true rfl) (by decide) (by decide)  (m_X11_within h) (fun p3 s2 h => ?_)
  refine v_if_eq (tgt := 37) hX dX7_returnTo_8 (by decide) (fun c4 => ?_) (fun c4 => ?_)
  · have h := h_T c4 h
    refine v_pick [] rfl ?_
    exact b_X7_returnTo_37 hX hE _ h
  · have h := h_E c4 h
    refine v_aload_n hX dX7_returnTo_11 0 rfl rfl ?_
    obtain ⟨k5, h⟩ := h
    refine v_getR hX dX7_returnTo_12 f_RX7_17 rfl k5 ?_
    refine v_iload_n hX dX7_returnTo_15 1 rfl rfl ?_
    obtain ⟨b8, b9, h⟩ := h
    refine v_new hX dX7_returnTo_16 n_RX7_15 b8 b9 (fun q6 k7 => ?_)
    have h := h q6 k7
    refine v_dup hX dX7_returnTo_19 rfl ?_
    refine v_iload_n hX dX7_returnTo_20 3 rfl rfl ?_
    refine v_aload_n hX dX7_returnTo_21 0 rfl rfl ?_
    refine v_iload_n hX dX7_returnTo_22 1 rfl rfl ?_
    refine v_iload_n hX dX7_returnTo_23 2 rfl rfl ?_
    obtain ⟨k13, h⟩ := h
    refine v_callVr0 hX dX7_returnTo_24 c_RX7_142 cV_X7_piecesAsOf (ci := 8) (T := TX7) (N := 13) rfl (by exact k13) [pI _, pI _] rfl rfl (Nat.le_of_ble_eq_true rfl) (by decide) (by decide)  (m_X7_piecesAsOf h) (fun p15 s14 h => ?_)
    refine v_aload_n hX dX7_returnTo_27 0 rfl rfl ?_
    obtain ⟨k16, h⟩ := h
    refine v_getR hX dX7_returnTo_28 f_RX7_17 rfl k16 ?_
    refine v_iload_n hX dX7_returnTo_31 1 rfl rfl ?_
    obtain ⟨a17, e_a17, h⟩ := h
    refine v_nn1 e_a17 ?_
    obtain ⟨k18, h⟩ := h
    obtain ⟨i19, h⟩ := h
    refine v_aald (k := 4) hX dX7_returnTo_32 rfl rfl (by decide) (by decide) k18 i19 ?_
    refine v_callIv0 hX dX7_returnTo_33 c_RX7_65 cI_X4_init [pI _, pR _, pR _] rfl rfl (Nat.le_of_ble_eq_true rfl) (by decide) (by decide)  (m_X4_init h) (fun s20 h => ?_)
    obtain ⟨a22, e_a22, h⟩ := h
    refine v_nn2 e_a22 ?_
    obtain ⟨k23, h⟩ := h
    obtain ⟨i24, h⟩ := h
    obtain ⟨k25, h⟩ := h
    refine v_aast (k := 4) (ci := 5) hX dX7_returnTo_36 rfl rfl (by decide) (by decide) k23 i24 k25 ?_
    refine v_pick [] rfl ?_
    exact b_X7_returnTo_37 hX hE _ h
set_option maxRecDepth 100000 in
set_option maxHeartbeats 4000000 in
theorem b_X7_endAtHome_30 {X : h_X} (hX : h_ok X cX7_endAtHome 5 RX7 4 85) {Q : Int32 → h_S → Prop} (hE : h_end X (some .int) (h_QI (x_Z X) Q)) {x1 : Int32} (s : h_S) (h : w_X7_endAtHome_30 Q x1 s) : h_V X 5 30 [(1, pI x1)] [] s 0 0 := by
  unfold w_X7_endAtHome_30 at h
  refine v_iload_n hX dX7_endAtHome_30 0 rfl rfl ?_
  exact v_iret hX hE dX7_endAtHome_31 h
set_option maxRecDepth 100000 in
set_option maxHeartbeats 4000000 in
theorem m_X7_endAtHome {Z : h_Z} {o0 : Nat} {x1 : Int32} {x2 : Int32} {x3 : Int32} {s : h_S} {Q : Int32 → h_S → Prop} (h : w_X7_endAtHome o0 x1 x2 x3 s Q) : h_M Z yX7_endAtHome cX7_endAtHome 5 (some .int) 4 85 [pR (some o0), pI x1, pI x2, pI x3] s 0 0 (h_QI Z Q) := by
  refine h_M.of (by decide) (Nat.le_of_ble_eq_true rfl) (fun X hZ hX hE hI => ?_)
  subst hZ
  unfold w_X7_endAtHome at h
  show h_V X 5 0 [(0, pR (some o0)), (1, pI x1), (2, pI x2), (3, pI x3)] [] s 0 0
  refine v_aload_n hX dX7_endAtHome_0 0 rfl rfl ?_
  refine v_iload_n hX dX7_endAtHome_1 3 rfl rfl ?_
  obtain ⟨k1, h⟩ := h
  refine v_callVr0 hX dX7_endAtHome_2 c_RX7_93 cV_X7_wordAt (ci := 8) (T := TX7) (N := 13) rfl (by exact k1) [pI _] rfl rfl (Nat.le_of_ble_eq_true rfl) (by decide) (by decide)  (m_X7_wordAt h) (fun p3 s2 h => ?_)
  refine v_astore (lv' := [(4, _), (0, _), (1, _), (2, _), (3, _)]) hX dX7_endAtHome_5 (by decide) rfl ?_
  refine v_aload hX dX7_endAtHome_7 0 rfl ?_
  refine v_ifnull (tgt := 30) hX dX7_endAtHome_9 (by decide) (fun c4 => ?_) (fun c4 => ?_)
  · have h := h_T c4 h
    refine v_pick [2] rfl ?_
    exact b_X7_endAtHome_30 hX hE _ h
  · have h := h_E c4 h
    refine v_aload hX dX7_endAtHome_12 0 rfl ?_
    obtain ⟨a5, e_a5, h⟩ := h
    refine v_nn0 e_a5 ?_
    obtain ⟨k6, h⟩ := h
    refine v_getI hX dX7_endAtHome_14 f_RX7_103 rfl k6 ?_
    refine v_iload_n hX dX7_endAtHome_17 3 rfl rfl ?_
    refine v_icmp_eq (tgt := 30) hX dX7_endAtHome_18 (by decide) (fun c7 => ?_) (fun c7 => ?_)
    · have h := h_T c7 h
      refine v_pick [2] rfl ?_
      exact b_X7_endAtHome_30 hX hE _ h
    · have h := h_E c7 h
      refine v_iload_n hX dX7_endAtHome_21 2 rfl rfl ?_
      refine v_aload_n hX dX7_endAtHome_22 1 rfl rfl ?_
      obtain ⟨k8, h⟩ := h
      refine v_getR hX dX7_endAtHome_23 f_RX7_54 rfl k8 ?_
      obtain ⟨a9, e_a9, h⟩ := h
      refine v_nn0 e_a9 ?_
      obtain ⟨k10, h⟩ := h
      refine v_alenK hX dX7_endAtHome_26 (k := 1) rfl (by decide) (by decide) k10 ?_
      refine v_icmp_lt (tgt := 32) hX dX7_endAtHome_27 (by decide) (fun c11 => ?_) (fun c11 => ?_)
      · have h := h_T c11 h
        refine v_aload_n hX dX7_endAtHome_32 1 rfl rfl ?_
        refine v_getR hX dX7_endAtHome_33 f_RX7_54 rfl k8 ?_
        refine v_iload_n hX dX7_endAtHome_36 2 rfl rfl ?_
        refine v_aload hX dX7_endAtHome_37 0 rfl ?_
        obtain ⟨a12, e_a12, h⟩ := h
        refine v_nn0 e_a12 ?_
        obtain ⟨k13, h⟩ := h
        refine v_getI hX dX7_endAtHome_39 f_RX7_103 rfl k13 ?_
        obtain ⟨a14, e_a14, h⟩ := h
        refine v_nn2 e_a14 ?_
        obtain ⟨k15, h⟩ := h
        obtain ⟨i16, h⟩ := h
        refine v_iast hX dX7_endAtHome_42 k15 i16 ?_
        refine v_iload_n hX dX7_endAtHome_43 2 rfl rfl ?_
        refine v_iconst (v := 1) hX dX7_endAtHome_44 (by decide) ?_
        refine v_iadd hX dX7_endAtHome_45 ?_
        exact v_iret hX hE dX7_endAtHome_46 h
      · have h := h_E c11 h
        refine v_pick [2] rfl ?_
        exact b_X7_endAtHome_30 hX hE _ h
set_option maxRecDepth 100000 in
set_option maxHeartbeats 4000000 in
theorem b_X7_follow_95 {X : h_X} (hX : h_ok X cX7_follow 12 RX7 16 484) {Q : Int32 → h_S → Prop} (hE : h_end X (some .int) (h_QI (x_Z X) Q)) {K12 : Nat → Int32 → Int32 → Int32 → Int32 → h_S → Nat → Nat → Prop} (hK12 : ∀ (o0 : Nat) (x4 : Int32) (x5 : Int32) (x6 : Int32) (x7 : Int32) (s : h_S) (bc bs : Nat), K12 o0 x4 x5 x6 x7 s bc bs → h_V X 12 12 [(0, pR (some o0)), (4, pI x4), (5, pI x5), (6, pI x6), (7, pI x7)] [] s bc bs) {K43 : Nat → Int32 → Int32 → Int32 → Int32 → Option Nat → Option Nat → Int32 → h_S → Nat → Nat → Prop} (hK43 : ∀ (o0 : Nat) (x4 : Int32) (x5 : Int32) (x6 : Int32) (x7 : Int32) (r8 : Option Nat) (r9 : Option Nat) (x10 : Int32) (s : h_S) (bc bs : Nat), K43 o0 x4 x5 x6 x7 r8 r9 x10 s bc bs → h_V X 12 43 [(0, pR (some o0)), (4, pI x4), (5, pI x5), (6, pI x6), (7, pI x7), (8, pR r8), (9, pR r9), (10, pI x10)] [] s bc bs) {o0 : Nat} {x4 : Int32} {x5 : Int32} {x6 : Int32} {x7 : Int32} {r8 : Option Nat} {r9 : Option Nat} {x10 : Int32} (s : h_S) {bc bs : Nat} (h : w_X7_follow_95 Q K12 K43 o0 x4 x5 x6 x7 r8 r9 x10 s bc bs) : h_V X 12 95 [(0, pR (some o0)), (4, pI x4), (5, pI x5), (6, pI x6), (7, pI x7), (8, pR r8), (9, pR r9), (10, pI x10)] [] s bc bs := by
  unfold w_X7_follow_95 at h
  refine v_iinc (c := 1) (lv' := [(10, _), (0, _), (4, _), (5, _), (6, _), (7, _), (8, _), (9, _)]) hX dX7_follow_95 7 rfl (by decide) (by decide) rfl ?_
  refine v_goto (tgt := 43) hX dX7_follow_98 (by decide) ?_
  refine v_pick [1, 2, 3, 4, 5, 6, 7, 0] rfl ?_
  exact hK43 _ _ _ _ _ _ _ _ _ _ _ h
