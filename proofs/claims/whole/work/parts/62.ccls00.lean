set_option maxRecDepth 100000 in
set_option maxHeartbeats 4000000 in
theorem m_X0_init {Z : h_Z} {o0 : Nat} {x1 : Int32} {r2 : Option Nat} {x3 : Int32} {s : h_S} {Q : h_S → Prop} (h : w_X0_init o0 x1 r2 x3 s Q) : h_M Z yX0_init cX0_init 4 none 1 20 [pR (some o0), pI x1, pR r2, pI x3] s 0 0 (h_QV Z Q) := by
  refine h_M.of (by decide) (Nat.le_of_ble_eq_true rfl) (fun X hZ hX hE hI => ?_)
  subst hZ
  have hN : (x_me X).name = "<init>" := hI.symm
  unfold w_X0_init at h
  show h_V X 4 0 [(0, pR (some o0)), (1, pI x1), (2, pR r2), (3, pI x3)] [] s 0 0
  refine v_aload_n hX dX0_init_0 0 rfl rfl ?_
  refine v_objInit hX dX0_init_1 oi_RX0_3 (Nat.le_of_ble_eq_true rfl) (by decide) ?_
  refine v_aload_n hX dX0_init_4 0 rfl rfl ?_
  refine v_iload_n hX dX0_init_5 1 rfl rfl ?_
  obtain ⟨k1, h⟩ := h
  refine v_putFI hX dX0_init_6 f_RX0_9 g_RX0_9 hN k1 ?_
  refine v_aload_n hX dX0_init_9 0 rfl rfl ?_
  refine v_aload_n hX dX0_init_10 2 rfl rfl ?_
  refine v_putFR hX dX0_init_11 f_RX0_15 g_RX0_15 rfl (Or.inr ⟨_, rfl⟩) hN k1 ?_
  refine v_aload_n hX dX0_init_14 0 rfl rfl ?_
  refine v_iload_n hX dX0_init_15 3 rfl rfl ?_
  refine v_putFI hX dX0_init_16 f_RX0_19 g_RX0_19 hN k1 ?_
  exact v_vret hX hE dX0_init_19 h
set_option maxRecDepth 100000 in
set_option maxHeartbeats 4000000 in
theorem b_X0_placeIn_50 {X : h_X} (hX : h_ok X cX0_placeIn 4 RX0 0 0) {Q : Int32 → h_S → Prop} (hE : h_end X (some .int) (h_QI (x_Z X) Q)) {K2 : Nat → Option Nat → Int32 → h_S → Prop} (hK2 : ∀ (o0 : Nat) (r1 : Option Nat) (x2 : Int32) (s : h_S), K2 o0 r1 x2 s → h_V X 4 2 [(0, pR (some o0)), (1, pR r1), (2, pI x2)] [] s 0 0) {o0 : Nat} {r1 : Option Nat} {x2 : Int32} {x3 : Int32} (s : h_S) (h : w_X0_placeIn_50 Q K2 o0 r1 x2 x3 s) : h_V X 4 50 [(0, pR (some o0)), (1, pR r1), (2, pI x2), (3, pI x3)] [] s 0 0 := by
  unfold w_X0_placeIn_50 at h
  refine v_iload_n hX dX0_placeIn_50 3 rfl rfl ?_
  refine v_aload_n hX dX0_placeIn_51 0 rfl rfl ?_
  obtain ⟨k1, h⟩ := h
  refine v_getR hX dX0_placeIn_52 f_RX0_15 rfl k1 ?_
  obtain ⟨a2, e_a2, h⟩ := h
  refine v_nn0 e_a2 ?_
  obtain ⟨k3, h⟩ := h
  refine v_alenK hX dX0_placeIn_55 (k := 1) rfl (by decide) (by decide) k3 ?_
  refine v_icmp_ne (tgt := 61) hX dX0_placeIn_56 (by decide) (fun c4 => ?_) (fun c4 => ?_)
  · have h := h_E c4 h
    refine v_iinc (c := 1) (lv' := [(2, _), (0, _), (1, _), (3, _)]) hX dX0_placeIn_61 2 rfl (by decide) (by decide) rfl ?_
    refine v_goto (tgt := 2) hX dX0_placeIn_64 (by decide) ?_
    refine v_pick [1, 2, 0] rfl ?_
    exact hK2 _ _ _ _ h
  · have h := h_T c4 h
    refine v_iload_n hX dX0_placeIn_59 2 rfl rfl ?_
    exact v_iret hX hE dX0_placeIn_60 h
set_option maxRecDepth 100000 in
set_option maxHeartbeats 4000000 in
theorem b_X0_placeIn_18 {X : h_X} (hX : h_ok X cX0_placeIn 4 RX0 0 0) {Q : Int32 → h_S → Prop} (hE : h_end X (some .int) (h_QI (x_Z X) Q)) {K2 : Nat → Option Nat → Int32 → h_S → Prop} (hK2 : ∀ (o0 : Nat) (r1 : Option Nat) (x2 : Int32) (s : h_S), K2 o0 r1 x2 s → h_V X 4 2 [(0, pR (some o0)), (1, pR r1), (2, pI x2)] [] s 0 0) : ∀ (n : Nat) (o0 : Nat) (r1 : Option Nat) (x2 : Int32) (x3 : Int32) (s : h_S), w_X0_placeIn_18 Q K2 n o0 r1 x2 x3 s → h_V X 4 18 [(0, pR (some o0)), (1, pR r1), (2, pI x2), (3, pI x3)] [] s 0 0 := by
  intro n
  induction n with
  | zero => intro _ _ _ _ s h; exact h.elim
  | succ n hK18 =>
    intro o0 r1 x2 x3 s h
    have h : w_X0_placeIn_18b Q K2 (w_X0_placeIn_18 Q K2 n) o0 r1 x2 x3 s := h
    unfold w_X0_placeIn_18b at h
    refine v_iload_n hX dX0_placeIn_18 3 rfl rfl ?_
    refine v_aload_n hX dX0_placeIn_19 0 rfl rfl ?_
    obtain ⟨k1, h⟩ := h
    refine v_getR hX dX0_placeIn_20 f_RX0_15 rfl k1 ?_
    obtain ⟨a2, e_a2, h⟩ := h
    refine v_nn0 e_a2 ?_
    obtain ⟨k3, h⟩ := h
    refine v_alenK hX dX0_placeIn_23 (k := 1) rfl (by decide) (by decide) k3 ?_
    refine v_icmp_ge (tgt := 50) hX dX0_placeIn_24 (by decide) (fun c4 => ?_) (fun c4 => ?_)
    · have h := h_T c4 h
      refine v_pick [0, 1, 2, 3] rfl ?_
      exact b_X0_placeIn_50 hX hE hK2 _ h
    · have h := h_E c4 h
      refine v_aload_n hX dX0_placeIn_27 1 rfl rfl ?_
      obtain ⟨a5, e_a5, h⟩ := h
      refine v_nn0 e_a5 ?_
      obtain ⟨k6, h⟩ := h
      refine v_getR hX dX0_placeIn_28 f_RX0_27 rfl k6 ?_
      refine v_iload_n hX dX0_placeIn_31 2 rfl rfl ?_
      refine v_iload_n hX dX0_placeIn_32 3 rfl rfl ?_
      refine v_iadd hX dX0_placeIn_33 ?_
      obtain ⟨a7, e_a7, h⟩ := h
      refine v_nn1 e_a7 ?_
      obtain ⟨k8, h⟩ := h
      obtain ⟨i9, h⟩ := h
      refine v_iald hX dX0_placeIn_34 k8 i9 ?_
      refine v_aload_n hX dX0_placeIn_35 0 rfl rfl ?_
      refine v_getR hX dX0_placeIn_36 f_RX0_15 rfl k1 ?_
      refine v_iload_n hX dX0_placeIn_39 3 rfl rfl ?_
      obtain ⟨a10, e_a10, h⟩ := h
      refine v_nn1 e_a10 ?_
      obtain ⟨k11, h⟩ := h
      obtain ⟨i12, h⟩ := h
      refine v_iald hX dX0_placeIn_40 k11 i12 ?_
      refine v_icmp_ne (tgt := 50) hX dX0_placeIn_41 (by decide) (fun c13 => ?_) (fun c13 => ?_)
      · have h := h_E c13 h
        refine v_pick [0, 1, 2, 3] rfl ?_
        exact b_X0_placeIn_50 hX hE hK2 _ h
      · have h := h_T c13 h
        refine v_iinc (c := 1) (lv' := [(3, _), (0, _), (1, _), (2, _)]) hX dX0_placeIn_44 3 rfl (by decide) (by decide) rfl ?_
        refine v_goto (tgt := 18) hX dX0_placeIn_47 (by decide) ?_
        refine v_pick [1, 2, 3, 0] rfl ?_
        exact hK18 _ _ _ _ _ h
set_option maxRecDepth 100000 in
set_option maxHeartbeats 4000000 in
theorem b_X0_placeIn_2 {X : h_X} (hX : h_ok X cX0_placeIn 4 RX0 0 0) {Q : Int32 → h_S → Prop} (hE : h_end X (some .int) (h_QI (x_Z X) Q)) : ∀ (n : Nat) (o0 : Nat) (r1 : Option Nat) (x2 : Int32) (s : h_S), w_X0_placeIn_2 Q n o0 r1 x2 s → h_V X 4 2 [(0, pR (some o0)), (1, pR r1), (2, pI x2)] [] s 0 0 := by
  intro n
  induction n with
  | zero => intro _ _ _ s h; exact h.elim
  | succ n hK2 =>
    intro o0 r1 x2 s h
    have h : w_X0_placeIn_2b Q (w_X0_placeIn_2 Q n) o0 r1 x2 s := h
    unfold w_X0_placeIn_2b at h
    refine v_iload_n hX dX0_placeIn_2 2 rfl rfl ?_
    refine v_aload_n hX dX0_placeIn_3 1 rfl rfl ?_
    obtain ⟨a1, e_a1, h⟩ := h
    refine v_nn0 e_a1 ?_
    obtain ⟨k2, h⟩ := h
    refine v_getI hX dX0_placeIn_4 f_RX0_22 rfl k2 ?_
    refine v_aload_n hX dX0_placeIn_7 0 rfl rfl ?_
    obtain ⟨k3, h⟩ := h
    refine v_getR hX dX0_placeIn_8 f_RX0_15 rfl k3 ?_
    obtain ⟨a4, e_a4, h⟩ := h
    refine v_nn0 e_a4 ?_
    obtain ⟨k5, h⟩ := h
    refine v_alenK hX dX0_placeIn_11 (k := 1) rfl (by decide) (by decide) k5 ?_
    refine v_isub hX dX0_placeIn_12 ?_
    refine v_icmp_gt (tgt := 67) hX dX0_placeIn_13 (by decide) (fun c6 => ?_) (fun c6 => ?_)
    · have h := h_T c6 h
      refine v_bipush (v := -9) hX dX0_placeIn_67 (by decide) ?_
      exact v_iret hX hE dX0_placeIn_69 h
    · have h := h_E c6 h
      refine v_iconst (v := 0) hX dX0_placeIn_16 (by decide) ?_
      refine v_istore_n (lv' := [(3, _), (0, _), (1, _), (2, _)]) hX dX0_placeIn_17 rfl (by decide) rfl ?_
      refine v_pick [1, 2, 3, 0] rfl ?_
      obtain ⟨n, h⟩ := h
      exact b_X0_placeIn_18 hX hE hK2 n _ _ _ _ _ h
set_option maxRecDepth 100000 in
set_option maxHeartbeats 4000000 in
theorem m_X0_placeIn {Z : h_Z} {o0 : Nat} {r1 : Option Nat} {s : h_S} {Q : Int32 → h_S → Prop} (h : w_X0_placeIn o0 r1 s Q) : h_M Z yX0_placeIn cX0_placeIn 4 (some .int) 0 0 [pR (some o0), pR r1] s 0 0 (h_QI Z Q) := by
  refine h_M.of (by decide) (Nat.le_of_ble_eq_true rfl) (fun X hZ hX hE hI => ?_)
  subst hZ
  unfold w_X0_placeIn at h
  show h_V X 4 0 [(0, pR (some o0)), (1, pR r1)] [] s 0 0
  refine v_iconst (v := 0) hX dX0_placeIn_0 (by decide) ?_
  refine v_istore_n (lv' := [(2, _), (0, _), (1, _)]) hX dX0_placeIn_1 rfl (by decide) rfl ?_
  refine v_pick [1, 2, 0] rfl ?_
  obtain ⟨n, h⟩ := h
  exact b_X0_placeIn_2 hX hE n _ _ _ _ h
set_option maxRecDepth 100000 in
set_option maxHeartbeats 4000000 in
theorem m_X1_init {Z : h_Z} {o0 : Nat} {x1 : Int32} {x2 : Int32} {x3 : Int32} {x4 : Int32} {x5 : Int32} {x6 : Int32} {s : h_S} {mc ms : Nat} {Q : h_S → Prop} (h : w_X1_init o0 x1 x2 x3 x4 x5 x6 s mc ms Q) : h_M Z yX1_init cX1_init 7 none 1 20 [pR (some o0), pI x1, pI x2, pI x3, pI x4, pI x5, pI x6] s mc ms (h_QV Z Q) := by
  refine h_M.of (by decide) (Nat.le_of_ble_eq_true rfl) (fun X hZ hX hE hI => ?_)
  subst hZ
  have hN : (x_me X).name = "<init>" := hI.symm
  unfold w_X1_init at h
  show h_V X 7 0 [(0, pR (some o0)), (1, pI x1), (2, pI x2), (3, pI x3), (4, pI x4), (5, pI x5), (6, pI x6)] [] s mc ms
  refine v_aload_n hX dX1_init_0 0 rfl rfl ?_
  refine v_objInit hX dX1_init_1 oi_RX1_3 (Nat.le_of_ble_eq_true rfl) (by decide) ?_
  refine v_aload_n hX dX1_init_4 0 rfl rfl ?_
  refine v_iconst (v := 2) hX dX1_init_5 (by decide) ?_
  obtain ⟨b3, b4, h⟩ := h
  refine v_newI (N := 2) hX dX1_init_6 ac_int (by decide) (by decide) (by decide) b3 b4 (fun q1 k2 => ?_)
  have h := h q1 k2
  obtain ⟨k8, h⟩ := h
  refine v_putFR hX dX1_init_8 f_RX1_9 g_RX1_9 rfl (Or.inr ⟨_, rfl⟩) hN k8 ?_
  refine v_aload_n hX dX1_init_11 0 rfl rfl ?_
  refine v_iconst (v := 2) hX dX1_init_12 (by decide) ?_
  obtain ⟨b12, b13, h⟩ := h
  refine v_newI (N := 2) hX dX1_init_13 ac_int (by decide) (by decide) (by decide) b12 b13 (fun q10 k11 => ?_)
  have h := h q10 k11
  obtain ⟨k17, h⟩ := h
  refine v_putFR hX dX1_init_15 f_RX1_15 g_RX1_15 rfl (Or.inr ⟨_, rfl⟩) hN k17 ?_
  refine v_aload_n hX dX1_init_18 0 rfl rfl ?_
  refine v_iload_n hX dX1_init_19 1 rfl rfl ?_
  refine v_putFI hX dX1_init_20 f_RX1_18 g_RX1_18 hN k17 ?_
  refine v_aload_n hX dX1_init_23 0 rfl rfl ?_
  refine v_getR hX dX1_init_24 f_RX1_9 rfl k17 ?_
  refine v_iconst (v := 0) hX dX1_init_27 (by decide) ?_
  refine v_iload_n hX dX1_init_28 2 rfl rfl ?_
  obtain ⟨a20, e_a20, h⟩ := h
  refine v_nn2 e_a20 ?_
  obtain ⟨k21, h⟩ := h
  obtain ⟨i22, h⟩ := h
  refine v_iast hX dX1_init_29 k21 i22 ?_
  refine v_aload_n hX dX1_init_30 0 rfl rfl ?_
  refine v_getR hX dX1_init_31 f_RX1_15 rfl k17 ?_
  refine v_iconst (v := 0) hX dX1_init_34 (by decide) ?_
  refine v_iload_n hX dX1_init_35 3 rfl rfl ?_
  obtain ⟨a24, e_a24, h⟩ := h
  refine v_nn2 e_a24 ?_
  obtain ⟨k25, h⟩ := h
  obtain ⟨i26, h⟩ := h
  refine v_iast hX dX1_init_36 k25 i26 ?_
  refine v_aload_n hX dX1_init_37 0 rfl rfl ?_
  refine v_getR hX dX1_init_38 f_RX1_9 rfl k17 ?_
  refine v_iconst (v := 1) hX dX1_init_41 (by decide) ?_
  refine v_iload hX dX1_init_42 4 rfl ?_
  obtain ⟨a28, e_a28, h⟩ := h
  refine v_nn2 e_a28 ?_
  obtain ⟨k29, h⟩ := h
  obtain ⟨i30, h⟩ := h
  refine v_iast hX dX1_init_44 k29 i30 ?_
  refine v_aload_n hX dX1_init_45 0 rfl rfl ?_
  refine v_getR hX dX1_init_46 f_RX1_15 rfl k17 ?_
  refine v_iconst (v := 1) hX dX1_init_49 (by decide) ?_
  refine v_iload hX dX1_init_50 5 rfl ?_
  obtain ⟨a32, e_a32, h⟩ := h
  refine v_nn2 e_a32 ?_
  obtain ⟨k33, h⟩ := h
  obtain ⟨i34, h⟩ := h
  refine v_iast hX dX1_init_52 k33 i34 ?_
  refine v_aload_n hX dX1_init_53 0 rfl rfl ?_
  refine v_iload hX dX1_init_54 6 rfl ?_
  refine v_putFI hX dX1_init_56 f_RX1_22 g_RX1_22 hN k17 ?_
  exact v_vret hX hE dX1_init_59 h
set_option maxRecDepth 100000 in
set_option maxHeartbeats 4000000 in
theorem b_X11_within_14 {X : h_X} (hX : h_ok X cX11_within 2 RX11 0 0) {Q : Int32 → h_S → Prop} (hE : h_end X (some .boolean) (h_QI (x_Z X) Q)) {y0 : Int32} (s : h_S) (h : w_X11_within_14 Q y0 s) : h_V X 2 14 [] [pI y0] s 0 0 := by
  unfold w_X11_within_14 at h
  exact v_zret hX hE dX11_within_14 h.1 h.2
set_option maxRecDepth 100000 in
set_option maxHeartbeats 4000000 in
theorem b_X11_within_13 {X : h_X} (hX : h_ok X cX11_within 2 RX11 0 0) {Q : Int32 → h_S → Prop} (hE : h_end X (some .boolean) (h_QI (x_Z X) Q)) (s : h_S) (h : w_X11_within_13 Q s) : h_V X 2 13 [] [] s 0 0 := by
  unfold w_X11_within_13 at h
  refine v_iconst (v := 0) hX dX11_within_13 (by decide) ?_
  refine v_pick [] rfl ?_
  exact b_X11_within_14 hX hE _ h
set_option maxRecDepth 100000 in
set_option maxHeartbeats 4000000 in
theorem m_X11_within {Z : h_Z} {x0 : Int32} {x1 : Int32} {s : h_S} {Q : Int32 → h_S → Prop} (h : w_X11_within x0 x1 s Q) : h_M Z yX11_within cX11_within 2 (some .boolean) 0 0 [pI x0, pI x1] s 0 0 (h_QI Z Q) := by
  refine h_M.of (by decide) (Nat.le_of_ble_eq_true rfl) (fun X hZ hX hE hI => ?_)
  subst hZ
  unfold w_X11_within at h
  show h_V X 2 0 [(0, pI x0), (1, pI x1)] [] s 0 0
  refine v_iload_n hX dX11_within_0 0 rfl rfl ?_
  refine v_if_lt (tgt := 13) hX dX11_within_1 (by decide) (fun c1 => ?_) (fun c1 => ?_)
  · have h := h_T c1 h
    refine v_pick [] rfl ?_
    exact b_X11_within_13 hX hE _ h
  · have h := h_E c1 h
    refine v_iload_n hX dX11_within_4 0 rfl rfl ?_
    refine v_iload_n hX dX11_within_5 1 rfl rfl ?_
    refine v_icmp_ge (tgt := 13) hX dX11_within_6 (by decide) (fun c2 => ?_) (fun c2 => ?_)
    · have h := h_T c2 h
      refine v_pick [] rfl ?_
      exact b_X11_within_13 hX hE _ h
    · have h := h_E c2 h
      refine v_iconst (v := 1) hX dX11_within_9 (by decide) ?_
      refine v_goto (tgt := 14) hX dX11_within_10 (by decide) ?_
      refine v_pick [] rfl ?_
      exact b_X11_within_14 hX hE _ h
set_option maxRecDepth 100000 in
set_option maxHeartbeats 4000000 in
theorem b_X1_isA_39 {X : h_X} (hX : h_ok X cX1_isA 4 RX1 1 21) {Q : Int32 → h_S → Prop} (hE : h_end X (some .boolean) (h_QI (x_Z X) Q)) (s : h_S) (h : w_X1_isA_39 Q s) : h_V X 4 39 [] [] s 0 0 := by
  unfold w_X1_isA_39 at h
  refine v_iconst (v := 0) hX dX1_isA_39 (by decide) ?_
  exact v_zret hX hE dX1_isA_40 (Or.inl rfl) h
set_option maxRecDepth 100000 in
set_option maxHeartbeats 4000000 in
theorem b_X1_isA_7 {X : h_X} (hX : h_ok X cX1_isA 4 RX1 1 21) {Q : Int32 → h_S → Prop} (hE : h_end X (some .boolean) (h_QI (x_Z X) Q)) : ∀ (n : Nat) (x1 : Int32) (x2 : Int32) (x3 : Int32) (s : h_S), w_X1_isA_7 Q n x1 x2 x3 s → h_V X 4 7 [(1, pI x1), (2, pI x2), (3, pI x3)] [] s 0 0 := by
  intro n
  induction n with
  | zero => intro _ _ _ s h; exact h.elim
  | succ n hK7 =>
    intro x1 x2 x3 s h
    have h : w_X1_isA_7b Q (w_X1_isA_7 Q n) x1 x2 x3 s := h
    unfold w_X1_isA_7b at h
    refine v_iload_n hX dX1_isA_7 2 rfl rfl ?_
    refine v_iconst (v := 5) hX dX1_isA_8 (by decide) ?_
    refine v_icmp_ge (tgt := 39) hX dX1_isA_9 (by decide) (fun c1 => ?_) (fun c1 => ?_)
    · have h := h_T c1 h
      refine v_pick [] rfl ?_
      exact b_X1_isA_39 hX hE _ h
    · have h := h_E c1 h
      refine v_iload_n hX dX1_isA_12 1 rfl rfl ?_
      refine v_iconst (v := 5) hX dX1_isA_13 (by decide) ?_
      refine v_callSi0 hX dX1_isA_14 c_RX1_25 cS_X11_within [pI _, pI _] rfl rfl (Nat.le_of_ble_eq_true rfl) (by decide) (by decide)  (m_X11_within h) (fun p3 s2 h => ?_)
      refine v_if_eq (tgt := 39) hX dX1_isA_17 (by decide) (fun c4 => ?_) (fun c4 => ?_)
      · have h := h_T c4 h
        refine v_pick [] rfl ?_
        exact b_X1_isA_39 hX hE _ h
      · have h := h_E c4 h
        refine v_iload_n hX dX1_isA_20 1 rfl rfl ?_
        refine v_iload_n hX dX1_isA_21 0 rfl rfl ?_
        refine v_icmp_ne (tgt := 27) hX dX1_isA_22 (by decide) (fun c5 => ?_) (fun c5 => ?_)
        · have h := h_E c5 h
          refine v_getAbove hX dX1_isA_27 ab_RX1_29 ?_
          refine v_iload_n hX dX1_isA_30 1 rfl rfl ?_
          obtain ⟨i6, h⟩ := h
          refine v_aldAbove hX dX1_isA_31 i6 ?_
          refine v_istore_n (lv' := [(2, _), (1, _), (3, _)]) hX dX1_isA_32 rfl (by decide) rfl ?_
          refine v_iinc (c := 1) (lv' := [(3, _), (2, _), (1, _)]) hX dX1_isA_33 2 rfl (by decide) (by decide) rfl ?_
          refine v_goto (tgt := 7) hX dX1_isA_36 (by decide) ?_
          refine v_pick [2, 1, 0] rfl ?_
          exact hK7 _ _ _ _ h
        · have h := h_T c5 h
          refine v_iconst (v := 1) hX dX1_isA_25 (by decide) ?_
          exact v_zret hX hE dX1_isA_26 (Or.inr rfl) h
set_option maxRecDepth 100000 in
set_option maxHeartbeats 4000000 in
theorem m_X1_isA {Z : h_Z} {o0 : Nat} {x1 : Int32} {s : h_S} {Q : Int32 → h_S → Prop} (h : w_X1_isA o0 x1 s Q) : h_M Z yX1_isA cX1_isA 4 (some .boolean) 1 21 [pR (some o0), pI x1] s 0 0 (h_QI Z Q) := by
  refine h_M.of (by decide) (Nat.le_of_ble_eq_true rfl) (fun X hZ hX hE hI => ?_)
  subst hZ
  unfold w_X1_isA at h
  show h_V X 4 0 [(0, pR (some o0)), (1, pI x1)] [] s 0 0
  refine v_aload_n hX dX1_isA_0 0 rfl rfl ?_
  obtain ⟨k1, h⟩ := h
  refine v_getI hX dX1_isA_1 f_RX1_18 rfl k1 ?_
  refine v_istore_n (lv' := [(2, _), (0, _), (1, _)]) hX dX1_isA_4 rfl (by decide) rfl ?_
  refine v_iconst (v := 0) hX dX1_isA_5 (by decide) ?_
  refine v_istore_n (lv' := [(3, _), (2, _), (0, _), (1, _)]) hX dX1_isA_6 rfl (by decide) rfl ?_
  refine v_pick [3, 1, 0] rfl ?_
  obtain ⟨n, h⟩ := h
  exact b_X1_isA_7 hX hE n _ _ _ _ h
set_option maxRecDepth 100000 in
set_option maxHeartbeats 4000000 in
theorem b_X1_endHolds_32 {X : h_X} (hX : h_ok X cX1_endHolds 3 RX1 0 0) {Q : Int32 → h_S → Prop} (hE : h_end X (some .boolean) (h_QI (x_Z X) Q)) {y0 : Int32} (s : h_S) (h : w_X1_endHolds_32 Q y0 s) : h_V X 3 32 [] [pI y0] s 0 0 := by
  unfold w_X1_endHolds_32 at h
  exact v_zret hX hE dX1_endHolds_32 h.1 h.2
set_option maxRecDepth 100000 in
set_option maxHeartbeats 4000000 in
theorem b_X1_endHolds_31 {X : h_X} (hX : h_ok X cX1_endHolds 3 RX1 0 0) {Q : Int32 → h_S → Prop} (hE : h_end X (some .boolean) (h_QI (x_Z X) Q)) (s : h_S) (h : w_X1_endHolds_31 Q s) : h_V X 3 31 [] [] s 0 0 := by
  unfold w_X1_endHolds_31 at h
  refine v_iconst (v := 0) hX dX1_endHolds_31 (by decide) ?_
  refine v_pick [] rfl ?_
  exact b_X1_endHolds_32 hX hE _ h
set_option maxRecDepth 100000 in
set_option maxHeartbeats 4000000 in
theorem m_X1_endHolds {Z : h_Z} {o0 : Nat} {x1 : Int32} {x2 : Int32} {s : h_S} {Q : Int32 → h_S → Prop} (h : w_X1_endHolds o0 x1 x2 s Q) : h_M Z yX1_endHolds cX1_endHolds 3 (some .boolean) 0 0 [pR (some o0), pI x1, pI x2] s 0 0 (h_QI Z Q) := by
  refine h_M.of (by decide) (Nat.le_of_ble_eq_true rfl) (fun X hZ hX hE hI => ?_)
  subst hZ
  unfold w_X1_endHolds at h
  show h_V X 3 0 [(0, pR (some o0)), (1, pI x1), (2, pI x2)] [] s 0 0
  refine v_iload_n hX dX1_endHolds_0 2 rfl rfl ?_
  refine v_aload_n hX dX1_endHolds_1 0 rfl rfl ?_
  obtain ⟨k1, h⟩ := h
  refine v_getR hX dX1_endHolds_2 f_RX1_9 rfl k1 ?_
  refine v_iload_n hX dX1_endHolds_5 1 rfl rfl ?_
  obtain ⟨a2, e_a2, h⟩ := h
  refine v_nn1 e_a2 ?_
  obtain ⟨k3, h⟩ := h
  obtain ⟨i4, h⟩ := h
  refine v_iald hX dX1_endHolds_6 k3 i4 ?_
  refine v_icmp_lt (tgt := 31) hX dX1_endHolds_7 (by decide) (fun c5 => ?_) (fun c5 => ?_)
  · have h := h_T c5 h
    refine v_pick [] rfl ?_
    exact b_X1_endHolds_31 hX hE _ h
  · have h := h_E c5 h
    refine v_iload_n hX dX1_endHolds_10 2 rfl rfl ?_
    refine v_aload_n hX dX1_endHolds_11 0 rfl rfl ?_
    refine v_getR hX dX1_endHolds_12 f_RX1_9 rfl k1 ?_
    refine v_iload_n hX dX1_endHolds_15 1 rfl rfl ?_
    obtain ⟨a6, e_a6, h⟩ := h
    refine v_nn1 e_a6 ?_
    obtain ⟨k7, h⟩ := h
    obtain ⟨i8, h⟩ := h
    refine v_iald hX dX1_endHolds_16 k7 i8 ?_
    refine v_isub hX dX1_endHolds_17 ?_
    refine v_aload_n hX dX1_endHolds_18 0 rfl rfl ?_
    refine v_getR hX dX1_endHolds_19 f_RX1_15 rfl k1 ?_
    refine v_iload_n hX dX1_endHolds_22 1 rfl rfl ?_
    obtain ⟨a9, e_a9, h⟩ := h
    refine v_nn1 e_a9 ?_
    obtain ⟨k10, h⟩ := h
    obtain ⟨i11, h⟩ := h
    refine v_iald hX dX1_endHolds_23 k10 i11 ?_
    refine v_icmp_ge (tgt := 31) hX dX1_endHolds_24 (by decide) (fun c12 => ?_) (fun c12 => ?_)
    · have h := h_T c12 h
      refine v_pick [] rfl ?_
      exact b_X1_endHolds_31 hX hE _ h
    · have h := h_E c12 h
      refine v_iconst (v := 1) hX dX1_endHolds_27 (by decide) ?_
      refine v_goto (tgt := 32) hX dX1_endHolds_28 (by decide) ?_
      refine v_pick [] rfl ?_
      exact b_X1_endHolds_32 hX hE _ h
set_option maxRecDepth 100000 in
set_option maxHeartbeats 4000000 in
theorem b_X1_holds_23 {X : h_X} (hX : h_ok X cX1_holds 2 RX1 1 22) {Q : Int32 → h_S → Prop} (hE : h_end X (some .boolean) (h_QI (x_Z X) Q)) {y0 : Int32} (s : h_S) (h : w_X1_holds_23 Q y0 s) : h_V X 2 23 [] [pI y0] s 0 0 := by
  unfold w_X1_holds_23 at h
  exact v_zret hX hE dX1_holds_23 h.1 h.2
set_option maxRecDepth 100000 in
set_option maxHeartbeats 4000000 in
theorem b_X1_holds_18 {X : h_X} (hX : h_ok X cX1_holds 2 RX1 1 22) {Q : Int32 → h_S → Prop} (hE : h_end X (some .boolean) (h_QI (x_Z X) Q)) (s : h_S) (h : w_X1_holds_18 Q s) : h_V X 2 18 [] [] s 0 0 := by
  unfold w_X1_holds_18 at h
  refine v_iconst (v := 1) hX dX1_holds_18 (by decide) ?_
  refine v_goto (tgt := 23) hX dX1_holds_19 (by decide) ?_
  refine v_pick [] rfl ?_
  exact b_X1_holds_23 hX hE _ h
set_option maxRecDepth 100000 in
set_option maxHeartbeats 4000000 in
theorem m_X1_holds {Z : h_Z} {o0 : Nat} {x1 : Int32} {s : h_S} {Q : Int32 → h_S → Prop} (h : w_X1_holds o0 x1 s Q) : h_M Z yX1_holds cX1_holds 2 (some .boolean) 1 22 [pR (some o0), pI x1] s 0 0 (h_QI Z Q) := by
  refine h_M.of (by decide) (Nat.le_of_ble_eq_true rfl) (fun X hZ hX hE hI => ?_)
  subst hZ
  unfold w_X1_holds at h
  show h_V X 2 0 [(0, pR (some o0)), (1, pI x1)] [] s 0 0
  refine v_aload_n hX dX1_holds_0 0 rfl rfl ?_
  refine v_iconst (v := 0) hX dX1_holds_1 (by decide) ?_
  refine v_iload_n hX dX1_holds_2 1 rfl rfl ?_
  obtain ⟨k1, h⟩ := h
  refine v_callVi0 hX dX1_holds_3 c_RX1_32 cV_X1_endHolds (ci := 2) (T := TX1) (N := 4) rfl (by exact k1) [pI _, pI _] rfl rfl (Nat.le_of_ble_eq_true rfl) (by decide) (by decide)  (m_X1_endHolds h) (fun p3 s2 h => ?_)
  refine v_if_ne (tgt := 18) hX dX1_holds_6 (by decide) (fun c4 => ?_) (fun c4 => ?_)
  · have h := h_E c4 h
    refine v_pick [] rfl ?_
    exact b_X1_holds_18 hX hE _ h
  · have h := h_T c4 h
    refine v_aload_n hX dX1_holds_9 0 rfl rfl ?_
    refine v_iconst (v := 1) hX dX1_holds_10 (by decide) ?_
    refine v_iload_n hX dX1_holds_11 1 rfl rfl ?_
    obtain ⟨k5, h⟩ := h
    refine v_callVi0 hX dX1_holds_12 c_RX1_32 cV_X1_endHolds (ci := 2) (T := TX1) (N := 4) rfl (by exact k5) [pI _, pI _] rfl rfl (Nat.le_of_ble_eq_true rfl) (by decide) (by decide)  (m_X1_endHolds h) (fun p7 s6 h => ?_)
    refine v_if_eq (tgt := 22) hX dX1_holds_15 (by decide) (fun c8 => ?_) (fun c8 => ?_)
    · have h := h_T c8 h
      refine v_iconst (v := 0) hX dX1_holds_22 (by decide) ?_
      refine v_pick [] rfl ?_
      exact b_X1_holds_23 hX hE _ h
    · have h := h_E c8 h
      refine v_pick [] rfl ?_
      exact b_X1_holds_18 hX hE _ h
set_option maxRecDepth 100000 in
set_option maxHeartbeats 4000000 in
theorem b_X1_partFrom_7 {X : h_X} (hX : h_ok X cX1_partFrom 5 RX1 1 60) {Q : Int32 → h_S → Prop} (hE : h_end X (some .int) (h_QI (x_Z X) Q)) : ∀ (n : Nat) (o0 : Nat) (x1 : Int32) (r2 : Option Nat) (x4 : Int32) (s : h_S), w_X1_partFrom_7 Q n o0 x1 r2 x4 s → h_V X 5 7 [(0, pR (some o0)), (1, pI x1), (2, pR r2), (4, pI x4)] [] s 0 0 := by
  intro n
  induction n with
  | zero => intro _ _ _ _ s h; exact h.elim
  | succ n hK7 =>
    intro o0 x1 r2 x4 s h
    have h : w_X1_partFrom_7b Q (w_X1_partFrom_7 Q n) o0 x1 r2 x4 s := h
    unfold w_X1_partFrom_7b at h
    refine v_iload hX dX1_partFrom_7 3 rfl ?_
    refine v_aload_n hX dX1_partFrom_9 2 rfl rfl ?_
    obtain ⟨a1, e_a1, h⟩ := h
    refine v_nn0 e_a1 ?_
    obtain ⟨k2, h⟩ := h
    refine v_alenK hX dX1_partFrom_10 (k := 1) rfl (by decide) (by decide) k2 ?_
    refine v_icmp_ge (tgt := 35) hX dX1_partFrom_11 (by decide) (fun c3 => ?_) (fun c3 => ?_)
    · have h := h_T c3 h
      refine v_bipush (v := -9) hX dX1_partFrom_35 (by decide) ?_
      exact v_iret hX hE dX1_partFrom_37 h
    · have h := h_E c3 h
      refine v_aload_n hX dX1_partFrom_14 0 rfl rfl ?_
      refine v_iload_n hX dX1_partFrom_15 1 rfl rfl ?_
      refine v_aload_n hX dX1_partFrom_16 2 rfl rfl ?_
      refine v_iload hX dX1_partFrom_17 3 rfl ?_
      obtain ⟨a4, e_a4, h⟩ := h
      refine v_nn1 e_a4 ?_
      obtain ⟨k5, h⟩ := h
      obtain ⟨i6, h⟩ := h
      refine v_iald hX dX1_partFrom_19 k5 i6 ?_
      obtain ⟨k7, h⟩ := h
      refine v_callVi0 hX dX1_partFrom_20 c_RX1_32 cV_X1_endHolds (ci := 2) (T := TX1) (N := 4) rfl (by exact k7) [pI _, pI _] rfl rfl (Nat.le_of_ble_eq_true rfl) (by decide) (by decide)  (m_X1_endHolds h) (fun p9 s8 h => ?_)
      refine v_if_eq (tgt := 29) hX dX1_partFrom_23 (by decide) (fun c10 => ?_) (fun c10 => ?_)
      · have h := h_T c10 h
        refine v_iinc (c := 1) (lv' := [(4, _), (0, _), (1, _), (2, _)]) hX dX1_partFrom_29 3 rfl (by decide) (by decide) rfl ?_
        refine v_goto (tgt := 7) hX dX1_partFrom_32 (by decide) ?_
        refine v_pick [1, 2, 3, 0] rfl ?_
        exact hK7 _ _ _ _ _ h
      · have h := h_E c10 h
        refine v_iload hX dX1_partFrom_26 3 rfl ?_
        exact v_iret hX hE dX1_partFrom_28 h
set_option maxRecDepth 100000 in
set_option maxHeartbeats 4000000 in
theorem m_X1_partFrom {Z : h_Z} {o0 : Nat} {x1 : Int32} {r2 : Option Nat} {x3 : Int32} {s : h_S} {Q : Int32 → h_S → Prop} (h : w_X1_partFrom o0 x1 r2 x3 s Q) : h_M Z yX1_partFrom cX1_partFrom 5 (some .int) 1 60 [pR (some o0), pI x1, pR r2, pI x3] s 0 0 (h_QI Z Q) := by
  refine h_M.of (by decide) (Nat.le_of_ble_eq_true rfl) (fun X hZ hX hE hI => ?_)
  subst hZ
  unfold w_X1_partFrom at h
  show h_V X 5 0 [(0, pR (some o0)), (1, pI x1), (2, pR r2), (3, pI x3)] [] s 0 0
  refine v_iconst (v := 0) hX dX1_partFrom_0 (by decide) ?_
  refine v_iload_n hX dX1_partFrom_1 3 rfl rfl ?_
  refine v_max hX dX1_partFrom_2 mm_max_RX1_35 (by decide) (Nat.le_of_ble_eq_true rfl) ?_
  refine v_istore (lv' := [(4, _), (0, _), (1, _), (2, _), (3, _)]) hX dX1_partFrom_5 (by decide) rfl ?_
  refine v_pick [1, 2, 3, 0] rfl ?_
  obtain ⟨n, h⟩ := h
  exact b_X1_partFrom_7 hX hE n _ _ _ _ _ h
set_option maxRecDepth 100000 in
set_option maxHeartbeats 4000000 in
theorem b_X1_partSize_50 {X : h_X} (hX : h_ok X cX1_partSize 5 RX1 1 22) {Q : Int32 → h_S → Prop} (hE : h_end X (some .int) (h_QI (x_Z X) Q)) {x3 : Int32} {x4 : Int32} (s : h_S) (h : w_X1_partSize_50 Q x3 x4 s) : h_V X 5 50 [(3, pI x3), (4, pI x4)] [] s 0 0 := by
  unfold w_X1_partSize_50 at h
  refine v_iload hX dX1_partSize_50 1 rfl ?_
  refine v_iload_n hX dX1_partSize_52 0 rfl rfl ?_
  refine v_isub hX dX1_partSize_53 ?_
  exact v_iret hX hE dX1_partSize_54 h
set_option maxRecDepth 100000 in
set_option maxHeartbeats 4000000 in
theorem b_X1_partSize_5 {X : h_X} (hX : h_ok X cX1_partSize 5 RX1 1 22) {Q : Int32 → h_S → Prop} (hE : h_end X (some .int) (h_QI (x_Z X) Q)) : ∀ (n : Nat) (o0 : Nat) (x1 : Int32) (r2 : Option Nat) (x3 : Int32) (x4 : Int32) (s : h_S), w_X1_partSize_5 Q n o0 x1 r2 x3 x4 s → h_V X 5 5 [(0, pR (some o0)), (1, pI x1), (2, pR r2), (3, pI x3), (4, pI x4)] [] s 0 0 := by
  intro n
  induction n with
  | zero => intro _ _ _ _ _ s h; exact h.elim
  | succ n hK5 =>
    intro o0 x1 r2 x3 x4 s h
    have h : w_X1_partSize_5b Q (w_X1_partSize_5 Q n) o0 x1 r2 x3 x4 s := h
    unfold w_X1_partSize_5b at h
    refine v_iload hX dX1_partSize_5 4 rfl ?_
    refine v_if_le (tgt := 50) hX dX1_partSize_7 (by decide) (fun c1 => ?_) (fun c1 => ?_)
    · have h := h_T c1 h
      refine v_pick [3, 4] rfl ?_
      exact b_X1_partSize_50 hX hE _ h
    · have h := h_E c1 h
      refine v_iload hX dX1_partSize_10 4 rfl ?_
      refine v_aload_n hX dX1_partSize_12 2 rfl rfl ?_
      obtain ⟨a2, e_a2, h⟩ := h
      refine v_nn0 e_a2 ?_
      obtain ⟨k3, h⟩ := h
      refine v_alenK hX dX1_partSize_13 (k := 1) rfl (by decide) (by decide) k3 ?_
      refine v_icmp_ge (tgt := 50) hX dX1_partSize_14 (by decide) (fun c4 => ?_) (fun c4 => ?_)
      · have h := h_T c4 h
        refine v_pick [3, 4] rfl ?_
        exact b_X1_partSize_50 hX hE _ h
      · have h := h_E c4 h
        refine v_aload_n hX dX1_partSize_17 0 rfl rfl ?_
        refine v_iload_n hX dX1_partSize_18 1 rfl rfl ?_
        refine v_aload_n hX dX1_partSize_19 2 rfl rfl ?_
        refine v_iload hX dX1_partSize_20 4 rfl ?_
        obtain ⟨a5, e_a5, h⟩ := h
        refine v_nn1 e_a5 ?_
        obtain ⟨k6, h⟩ := h
        obtain ⟨i7, h⟩ := h
        refine v_iald hX dX1_partSize_22 k6 i7 ?_
        obtain ⟨k8, h⟩ := h
        refine v_callVi0 hX dX1_partSize_23 c_RX1_32 cV_X1_endHolds (ci := 2) (T := TX1) (N := 4) rfl (by exact k8) [pI _, pI _] rfl rfl (Nat.le_of_ble_eq_true rfl) (by decide) (by decide)  (m_X1_endHolds h) (fun p10 s9 h => ?_)
        refine v_if_eq (tgt := 50) hX dX1_partSize_26 (by decide) (fun c11 => ?_) (fun c11 => ?_)
        · have h := h_T c11 h
          refine v_pick [3, 4] rfl ?_
          exact b_X1_partSize_50 hX hE _ h
        · have h := h_E c11 h
          refine v_aload_n hX dX1_partSize_29 2 rfl rfl ?_
          refine v_iload hX dX1_partSize_30 4 rfl ?_
          obtain ⟨a12, e_a12, h⟩ := h
          refine v_nn1 e_a12 ?_
          obtain ⟨k13, h⟩ := h
          obtain ⟨i14, h⟩ := h
          refine v_iald hX dX1_partSize_32 k13 i14 ?_
          refine v_aload_n hX dX1_partSize_33 2 rfl rfl ?_
          refine v_iload hX dX1_partSize_34 4 rfl ?_
          refine v_iconst (v := 1) hX dX1_partSize_36 (by decide) ?_
          refine v_isub hX dX1_partSize_37 ?_
          obtain ⟨a15, e_a15, h⟩ := h
          refine v_nn1 e_a15 ?_
          obtain ⟨k16, h⟩ := h
          obtain ⟨i17, h⟩ := h
          refine v_iald hX dX1_partSize_38 k16 i17 ?_
          refine v_iconst (v := 1) hX dX1_partSize_39 (by decide) ?_
          refine v_iadd hX dX1_partSize_40 ?_
          refine v_icmp_ne (tgt := 50) hX dX1_partSize_41 (by decide) (fun c18 => ?_) (fun c18 => ?_)
          · have h := h_E c18 h
            refine v_pick [3, 4] rfl ?_
            exact b_X1_partSize_50 hX hE _ h
          · have h := h_T c18 h
            refine v_iinc (c := 1) (lv' := [(4, _), (0, _), (1, _), (2, _), (3, _)]) hX dX1_partSize_44 4 rfl (by decide) (by decide) rfl ?_
            refine v_goto (tgt := 5) hX dX1_partSize_47 (by decide) ?_
            refine v_pick [1, 2, 3, 4, 0] rfl ?_
            exact hK5 _ _ _ _ _ _ h
set_option maxRecDepth 100000 in
set_option maxHeartbeats 4000000 in
theorem m_X1_partSize {Z : h_Z} {o0 : Nat} {x1 : Int32} {r2 : Option Nat} {x3 : Int32} {s : h_S} {Q : Int32 → h_S → Prop} (h : w_X1_partSize o0 x1 r2 x3 s Q) : h_M Z yX1_partSize cX1_partSize 5 (some .int) 1 22 [pR (some o0), pI x1, pR r2, pI x3] s 0 0 (h_QI Z Q) := by
  refine h_M.of (by decide) (Nat.le_of_ble_eq_true rfl) (fun X hZ hX hE hI => ?_)
  subst hZ
  unfold w_X1_partSize at h
  show h_V X 5 0 [(0, pR (some o0)), (1, pI x1), (2, pR r2), (3, pI x3)] [] s 0 0
  refine v_iload_n hX dX1_partSize_0 3 rfl rfl ?_
  refine v_iconst (v := 1) hX dX1_partSize_1 (by decide) ?_
  refine v_iadd hX dX1_partSize_2 ?_
  refine v_istore (lv' := [(4, _), (0, _), (1, _), (2, _), (3, _)]) hX dX1_partSize_3 (by decide) rfl ?_
  refine v_pick [1, 2, 3, 4, 0] rfl ?_
  obtain ⟨n, h⟩ := h
  exact b_X1_partSize_5 hX hE n _ _ _ _ _ _ h
set_option maxRecDepth 100000 in
set_option maxHeartbeats 4000000 in
theorem m_X1_partBehind {Z : h_Z} {o0 : Nat} {x1 : Int32} {r2 : Option Nat} {x3 : Int32} {s : h_S} {Q : Int32 → h_S → Prop} (h : w_X1_partBehind o0 x1 r2 x3 s Q) : h_M Z yX1_partBehind cX1_partBehind 4 (some .int) 2 84 [pR (some o0), pI x1, pR r2, pI x3] s 0 0 (h_QI Z Q) := by
  refine h_M.of (by decide) (Nat.le_of_ble_eq_true rfl) (fun X hZ hX hE hI => ?_)
  subst hZ
  unfold w_X1_partBehind at h
  show h_V X 4 0 [(0, pR (some o0)), (1, pI x1), (2, pR r2), (3, pI x3)] [] s 0 0
  refine v_aload_n hX dX1_partBehind_0 0 rfl rfl ?_
  refine v_iload_n hX dX1_partBehind_1 1 rfl rfl ?_
  refine v_aload_n hX dX1_partBehind_2 2 rfl rfl ?_
  refine v_iload_n hX dX1_partBehind_3 3 rfl rfl ?_
  refine v_aload_n hX dX1_partBehind_4 0 rfl rfl ?_
  refine v_iload_n hX dX1_partBehind_5 1 rfl rfl ?_
  refine v_aload_n hX dX1_partBehind_6 2 rfl rfl ?_
  refine v_iload_n hX dX1_partBehind_7 3 rfl rfl ?_
  obtain ⟨k1, h⟩ := h
  refine v_callVi0 hX dX1_partBehind_8 c_RX1_41 cV_X1_partSize (ci := 2) (T := TX1) (N := 4) rfl (by exact k1) [pI _, pR _, pI _] rfl rfl (Nat.le_of_ble_eq_true rfl) (by decide) (by decide)  (m_X1_partSize h) (fun p3 s2 h => ?_)
  refine v_iadd hX dX1_partBehind_11 ?_
  obtain ⟨k4, h⟩ := h
  refine v_callVi0 hX dX1_partBehind_12 c_RX1_45 cV_X1_partFrom (ci := 2) (T := TX1) (N := 4) rfl (by exact k4) [pI _, pR _, pI _] rfl rfl (Nat.le_of_ble_eq_true rfl) (by decide) (by decide)  (m_X1_partFrom h) (fun p6 s5 h => ?_)
  exact v_iret hX hE dX1_partBehind_15 h
set_option maxRecDepth 100000 in
set_option maxHeartbeats 4000000 in
theorem m_X2_init {Z : h_Z} {o0 : Nat} {x1 : Int32} {x2 : Int32} {x3 : Int32} {x4 : Int32} {x5 : Int32} {s : h_S} {Q : h_S → Prop} (h : w_X2_init o0 x1 x2 x3 x4 x5 s Q) : h_M Z yX2_init cX2_init 6 none 1 20 [pR (some o0), pI x1, pI x2, pI x3, pI x4, pI x5] s 0 0 (h_QV Z Q) := by
  refine h_M.of (by decide) (Nat.le_of_ble_eq_true rfl) (fun X hZ hX hE hI => ?_)
  subst hZ
  have hN : (x_me X).name = "<init>" := hI.symm
  unfold w_X2_init at h
  show h_V X 6 0 [(0, pR (some o0)), (1, pI x1), (2, pI x2), (3, pI x3), (4, pI x4), (5, pI x5)] [] s 0 0
  refine v_aload_n hX dX2_init_0 0 rfl rfl ?_
  refine v_objInit hX dX2_init_1 oi_RX2_3 (Nat.le_of_ble_eq_true rfl) (by decide) ?_
  refine v_aload_n hX dX2_init_4 0 rfl rfl ?_
  refine v_iload_n hX dX2_init_5 1 rfl rfl ?_
  obtain ⟨k1, h⟩ := h
  refine v_putFI hX dX2_init_6 f_RX2_9 g_RX2_9 hN k1 ?_
  refine v_aload_n hX dX2_init_9 0 rfl rfl ?_
  refine v_iload_n hX dX2_init_10 2 rfl rfl ?_
  refine v_putFI hX dX2_init_11 f_RX2_15 g_RX2_15 hN k1 ?_
  refine v_aload_n hX dX2_init_14 0 rfl rfl ?_
  refine v_iload_n hX dX2_init_15 3 rfl rfl ?_
  refine v_putFI hX dX2_init_16 f_RX2_18 g_RX2_18 hN k1 ?_
  refine v_aload_n hX dX2_init_19 0 rfl rfl ?_
  refine v_iload hX dX2_init_20 4 rfl ?_
  refine v_putFI hX dX2_init_22 f_RX2_21 g_RX2_21 hN k1 ?_
  refine v_aload_n hX dX2_init_25 0 rfl rfl ?_
  refine v_iload hX dX2_init_26 5 rfl ?_
  refine v_putFI hX dX2_init_28 f_RX2_24 g_RX2_24 hN k1 ?_
  exact v_vret hX hE dX2_init_31 h
set_option maxRecDepth 100000 in
set_option maxHeartbeats 4000000 in
theorem b_X2_hasWords_20 {X : h_X} (hX : h_ok X cX2_hasWords 1 RX2 0 0) {Q : Int32 → h_S → Prop} (hE : h_end X (some .boolean) (h_QI (x_Z X) Q)) {y0 : Int32} (s : h_S) (h : w_X2_hasWords_20 Q y0 s) : h_V X 1 20 [] [pI y0] s 0 0 := by
  unfold w_X2_hasWords_20 at h
  exact v_zret hX hE dX2_hasWords_20 h.1 h.2
set_option maxRecDepth 100000 in
set_option maxHeartbeats 4000000 in
theorem b_X2_hasWords_15 {X : h_X} (hX : h_ok X cX2_hasWords 1 RX2 0 0) {Q : Int32 → h_S → Prop} (hE : h_end X (some .boolean) (h_QI (x_Z X) Q)) (s : h_S) (h : w_X2_hasWords_15 Q s) : h_V X 1 15 [] [] s 0 0 := by
  unfold w_X2_hasWords_15 at h
  refine v_iconst (v := 1) hX dX2_hasWords_15 (by decide) ?_
  refine v_goto (tgt := 20) hX dX2_hasWords_16 (by decide) ?_
  refine v_pick [] rfl ?_
  exact b_X2_hasWords_20 hX hE _ h
set_option maxRecDepth 100000 in
set_option maxHeartbeats 4000000 in
theorem m_X2_hasWords {Z : h_Z} {o0 : Nat} {s : h_S} {Q : Int32 → h_S → Prop} (h : w_X2_hasWords o0 s Q) : h_M Z yX2_hasWords cX2_hasWords 1 (some .boolean) 0 0 [pR (some o0)] s 0 0 (h_QI Z Q) := by
  refine h_M.of (by decide) (Nat.le_of_ble_eq_true rfl) (fun X hZ hX hE hI => ?_)
  subst hZ
  unfold w_X2_hasWords at h
  show h_V X 1 0 [(0, pR (some o0))] [] s 0 0
  refine v_aload_n hX dX2_hasWords_0 0 rfl rfl ?_
  obtain ⟨k1, h⟩ := h
  refine v_getI hX dX2_hasWords_1 f_RX2_9 rfl k1 ?_
  refine v_if_eq (tgt := 15) hX dX2_hasWords_4 (by decide) (fun c2 => ?_) (fun c2 => ?_)
  · have h := h_T c2 h
    refine v_pick [] rfl ?_
    exact b_X2_hasWords_15 hX hE _ h
  · have h := h_E c2 h
    refine v_aload_n hX dX2_hasWords_7 0 rfl rfl ?_
    refine v_getI hX dX2_hasWords_8 f_RX2_9 rfl k1 ?_
    refine v_iconst (v := 1) hX dX2_hasWords_11 (by decide) ?_
    refine v_icmp_ne (tgt := 19) hX dX2_hasWords_12 (by decide) (fun c3 => ?_) (fun c3 => ?_)
    · have h := h_E c3 h
      refine v_iconst (v := 0) hX dX2_hasWords_19 (by decide) ?_
      refine v_pick [] rfl ?_
      exact b_X2_hasWords_20 hX hE _ h
    · have h := h_T c3 h
      refine v_pick [] rfl ?_
      exact b_X2_hasWords_15 hX hE _ h
set_option maxRecDepth 100000 in
set_option maxHeartbeats 4000000 in
theorem m_X2_head {Z : h_Z} {o0 : Nat} {x1 : Int32} {s : h_S} {mc ms : Nat} {Q : Option Nat → h_S → Prop} (h : w_X2_head o0 x1 s mc ms Q) : h_M Z yX2_head cX2_head 2 (some (.object "SeenWords$Piece")) 2 45 [pR (some o0), pI x1] s mc ms (h_QR Z Q) := by
  refine h_M.of (by decide) (Nat.le_of_ble_eq_true rfl) (fun X hZ hX hE hI => ?_)
  subst hZ
  unfold w_X2_head at h
  show h_V X 2 0 [(0, pR (some o0)), (1, pI x1)] [] s mc ms
  obtain ⟨b3, b4, h⟩ := h
  refine v_new hX dX2_head_0 n_RX2_10 b3 b4 (fun q1 k2 => ?_)
  have h := h q1 k2
  refine v_dup hX dX2_head_3 rfl ?_
  refine v_aload_n hX dX2_head_4 0 rfl rfl ?_
  obtain ⟨k8, h⟩ := h
  refine v_getI hX dX2_head_5 f_RX2_9 rfl k8 ?_
  refine v_aload_n hX dX2_head_8 0 rfl rfl ?_
  refine v_getI hX dX2_head_9 f_RX2_15 rfl k8 ?_
  refine v_iload_n hX dX2_head_12 1 rfl rfl ?_
  refine v_aload_n hX dX2_head_13 0 rfl rfl ?_
  refine v_getI hX dX2_head_14 f_RX2_21 rfl k8 ?_
  refine v_aload_n hX dX2_head_17 0 rfl rfl ?_
  refine v_getI hX dX2_head_18 f_RX2_24 rfl k8 ?_
  refine v_callIv0 hX dX2_head_21 c_RX2_27 cI_X2_init [pI _, pI _, pI _, pI _, pI _] rfl rfl (Nat.le_of_ble_eq_true rfl) (by decide) (by decide)  (m_X2_init h) (fun s9 h => ?_)
  exact v_aret hX hE (Or.inl ⟨_, rfl⟩) dX2_head_24 h
set_option maxRecDepth 100000 in
set_option maxHeartbeats 4000000 in
theorem m_X2_tail {Z : h_Z} {o0 : Nat} {x1 : Int32} {s : h_S} {mc ms : Nat} {Q : Option Nat → h_S → Prop} (h : w_X2_tail o0 x1 s mc ms Q) : h_M Z yX2_tail cX2_tail 2 (some (.object "SeenWords$Piece")) 2 45 [pR (some o0), pI x1] s mc ms (h_QR Z Q) := by
  refine h_M.of (by decide) (Nat.le_of_ble_eq_true rfl) (fun X hZ hX hE hI => ?_)
  subst hZ
  unfold w_X2_tail at h
  show h_V X 2 0 [(0, pR (some o0)), (1, pI x1)] [] s mc ms
  obtain ⟨b3, b4, h⟩ := h
  refine v_new hX dX2_tail_0 n_RX2_10 b3 b4 (fun q1 k2 => ?_)
  have h := h q1 k2
  refine v_dup hX dX2_tail_3 rfl ?_
  refine v_aload_n hX dX2_tail_4 0 rfl rfl ?_
  obtain ⟨k8, h⟩ := h
  refine v_getI hX dX2_tail_5 f_RX2_9 rfl k8 ?_
  refine v_aload_n hX dX2_tail_8 0 rfl rfl ?_
  refine v_getI hX dX2_tail_9 f_RX2_15 rfl k8 ?_
  refine v_iload_n hX dX2_tail_12 1 rfl rfl ?_
  refine v_iadd hX dX2_tail_13 ?_
  refine v_aload_n hX dX2_tail_14 0 rfl rfl ?_
  refine v_getI hX dX2_tail_15 f_RX2_18 rfl k8 ?_
  refine v_iload_n hX dX2_tail_18 1 rfl rfl ?_
  refine v_isub hX dX2_tail_19 ?_
  refine v_aload_n hX dX2_tail_20 0 rfl rfl ?_
  refine v_getI hX dX2_tail_21 f_RX2_21 rfl k8 ?_
  refine v_aload_n hX dX2_tail_24 0 rfl rfl ?_
  refine v_getI hX dX2_tail_25 f_RX2_24 rfl k8 ?_
  refine v_callIv0 hX dX2_tail_28 c_RX2_27 cI_X2_init [pI _, pI _, pI _, pI _, pI _] rfl rfl (Nat.le_of_ble_eq_true rfl) (by decide) (by decide)  (m_X2_init h) (fun s9 h => ?_)
  exact v_aret hX hE (Or.inl ⟨_, rfl⟩) dX2_tail_31 h
set_option maxRecDepth 100000 in
set_option maxHeartbeats 4000000 in
theorem b_X2_momentWithin_16 {X : h_X} (hX : h_ok X cX2_momentWithin 2 RX2 0 0) {Q : Int32 → h_S → Prop} (hE : h_end X (some .int) (h_QI (x_Z X) Q)) {y0 : Int32} (s : h_S) (h : w_X2_momentWithin_16 Q y0 s) : h_V X 2 16 [] [pI y0] s 0 0 := by
  unfold w_X2_momentWithin_16 at h
  exact v_iret hX hE dX2_momentWithin_16 h
set_option maxRecDepth 100000 in
set_option maxHeartbeats 4000000 in
theorem m_X2_momentWithin {Z : h_Z} {o0 : Nat} {x1 : Int32} {s : h_S} {Q : Int32 → h_S → Prop} (h : w_X2_momentWithin o0 x1 s Q) : h_M Z yX2_momentWithin cX2_momentWithin 2 (some .int) 0 0 [pR (some o0), pI x1] s 0 0 (h_QI Z Q) := by
  refine h_M.of (by decide) (Nat.le_of_ble_eq_true rfl) (fun X hZ hX hE hI => ?_)
  subst hZ
  unfold w_X2_momentWithin at h
  show h_V X 2 0 [(0, pR (some o0)), (1, pI x1)] [] s 0 0
  refine v_aload_n hX dX2_momentWithin_0 0 rfl rfl ?_
  obtain ⟨k1, h⟩ := h
  refine v_getI hX dX2_momentWithin_1 f_RX2_9 rfl k1 ?_
  refine v_iconst (v := 2) hX dX2_momentWithin_4 (by decide) ?_
  refine v_icmp_ne (tgt := 15) hX dX2_momentWithin_5 (by decide) (fun c2 => ?_) (fun c2 => ?_)
  · have h := h_E c2 h
    refine v_iload_n hX dX2_momentWithin_15 1 rfl rfl ?_
    refine v_pick [] rfl ?_
    exact b_X2_momentWithin_16 hX hE _ h
  · have h := h_T c2 h
    refine v_aload_n hX dX2_momentWithin_8 0 rfl rfl ?_
    refine v_getI hX dX2_momentWithin_9 f_RX2_24 rfl k1 ?_
    refine v_goto (tgt := 16) hX dX2_momentWithin_12 (by decide) ?_
    refine v_pick [] rfl ?_
    exact b_X2_momentWithin_16 hX hE _ h
set_option maxRecDepth 100000 in
set_option maxHeartbeats 4000000 in
theorem m_X3_init {Z : h_Z} {o0 : Nat} {x1 : Int32} {x2 : Int32} {s : h_S} {Q : h_S → Prop} (h : w_X3_init o0 x1 x2 s Q) : h_M Z yX3_init cX3_init 3 none 1 20 [pR (some o0), pI x1, pI x2] s 0 0 (h_QV Z Q) := by
  refine h_M.of (by decide) (Nat.le_of_ble_eq_true rfl) (fun X hZ hX hE hI => ?_)
  subst hZ
  have hN : (x_me X).name = "<init>" := hI.symm
  unfold w_X3_init at h
  show h_V X 3 0 [(0, pR (some o0)), (1, pI x1), (2, pI x2)] [] s 0 0
  refine v_aload_n hX dX3_init_0 0 rfl rfl ?_
  refine v_objInit hX dX3_init_1 oi_RX3_3 (Nat.le_of_ble_eq_true rfl) (by decide) ?_
  refine v_aload_n hX dX3_init_4 0 rfl rfl ?_
  refine v_ldc hX dX3_init_5 k_RX3_9 ?_
  obtain ⟨k1, h⟩ := h
  refine v_putI hX dX3_init_7 f_RX3_10 k1 ?_
  refine v_aload_n hX dX3_init_10 0 rfl rfl ?_
  refine v_bipush (v := -9) hX dX3_init_11 (by decide) ?_
  refine v_putI hX dX3_init_13 f_RX3_16 k1 ?_
  refine v_aload_n hX dX3_init_16 0 rfl rfl ?_
  refine v_iconst (v := 0) hX dX3_init_17 (by decide) ?_
  refine v_putI hX dX3_init_18 f_RX3_19 k1 ?_
  refine v_aload_n hX dX3_init_21 0 rfl rfl ?_
  refine v_iload_n hX dX3_init_22 1 rfl rfl ?_
  refine v_putFI hX dX3_init_23 f_RX3_22 g_RX3_22 hN k1 ?_
  refine v_aload_n hX dX3_init_26 0 rfl rfl ?_
  refine v_iload_n hX dX3_init_27 2 rfl rfl ?_
  refine v_putFI hX dX3_init_28 f_RX3_25 g_RX3_25 hN k1 ?_
  exact v_vret hX hE dX3_init_31 h
set_option maxRecDepth 100000 in
set_option maxHeartbeats 4000000 in
theorem m_X3_hangOn {Z : h_Z} {o0 : Nat} {r1 : Option Nat} {x2 : Int32} {x3 : Int32} {s : h_S} {Q : h_S → Prop} (h : w_X3_hangOn o0 r1 x2 x3 s Q) : h_M Z yX3_hangOn cX3_hangOn 4 none 0 0 [pR (some o0), pR r1, pI x2, pI x3] s 0 0 (h_QV Z Q) := by
  refine h_M.of (by decide) (Nat.le_of_ble_eq_true rfl) (fun X hZ hX hE hI => ?_)
  subst hZ
  unfold w_X3_hangOn at h
  show h_V X 4 0 [(0, pR (some o0)), (1, pR r1), (2, pI x2), (3, pI x3)] [] s 0 0
  refine v_aload_n hX dX3_hangOn_0 0 rfl rfl ?_
  refine v_bipush (v := 8) hX dX3_hangOn_1 (by decide) ?_
  refine v_iload_n hX dX3_hangOn_3 3 rfl rfl ?_
  refine v_iadd hX dX3_hangOn_4 ?_
  obtain ⟨k1, h⟩ := h
  refine v_putI hX dX3_hangOn_5 f_RX3_28 k1 ?_
  refine v_aload_n hX dX3_hangOn_8 0 rfl rfl ?_
  refine v_aload_n hX dX3_hangOn_9 1 rfl rfl ?_
  obtain ⟨a3, e_a3, h⟩ := h
  refine v_nn0 e_a3 ?_
  obtain ⟨k4, h⟩ := h
  refine v_getI hX dX3_hangOn_10 f_RX3_31 rfl k4 ?_
  refine v_bipush (v := -5) hX dX3_hangOn_13 (by decide) ?_
  refine v_iand hX dX3_hangOn_15 ?_
  refine v_putI hX dX3_hangOn_16 f_RX3_31 k1 ?_
  refine v_aload_n hX dX3_hangOn_19 0 rfl rfl ?_
  refine v_aload_n hX dX3_hangOn_20 1 rfl rfl ?_
  obtain ⟨a6, e_a6, h⟩ := h
  refine v_nn0 e_a6 ?_
  obtain ⟨k7, h⟩ := h
  refine v_getI hX dX3_hangOn_21 f_RX3_34 rfl k7 ?_
  refine v_putI hX dX3_hangOn_24 f_RX3_34 k1 ?_
  refine v_aload_n hX dX3_hangOn_27 0 rfl rfl ?_
  refine v_aload_n hX dX3_hangOn_28 1 rfl rfl ?_
  obtain ⟨a9, e_a9, h⟩ := h
  refine v_nn0 e_a9 ?_
  obtain ⟨k10, h⟩ := h
  refine v_getI hX dX3_hangOn_29 f_RX3_37 rfl k10 ?_
  refine v_putI hX dX3_hangOn_32 f_RX3_37 k1 ?_
  refine v_aload_n hX dX3_hangOn_35 0 rfl rfl ?_
  refine v_iload_n hX dX3_hangOn_36 2 rfl rfl ?_
  refine v_putI hX dX3_hangOn_37 f_RX3_16 k1 ?_
  exact v_vret hX hE dX3_hangOn_40 h
set_option maxRecDepth 100000 in
set_option maxHeartbeats 4000000 in
theorem b_X3_isLent_14 {X : h_X} (hX : h_ok X cX3_isLent 1 RX3 0 0) {Q : Int32 → h_S → Prop} (hE : h_end X (some .boolean) (h_QI (x_Z X) Q)) {y0 : Int32} (s : h_S) (h : w_X3_isLent_14 Q y0 s) : h_V X 1 14 [] [pI y0] s 0 0 := by
  unfold w_X3_isLent_14 at h
  exact v_zret hX hE dX3_isLent_14 h.1 h.2
set_option maxRecDepth 100000 in
set_option maxHeartbeats 4000000 in
theorem m_X3_isLent {Z : h_Z} {o0 : Nat} {s : h_S} {Q : Int32 → h_S → Prop} (h : w_X3_isLent o0 s Q) : h_M Z yX3_isLent cX3_isLent 1 (some .boolean) 0 0 [pR (some o0)] s 0 0 (h_QI Z Q) := by
  refine h_M.of (by decide) (Nat.le_of_ble_eq_true rfl) (fun X hZ hX hE hI => ?_)
  subst hZ
  unfold w_X3_isLent at h
  show h_V X 1 0 [(0, pR (some o0))] [] s 0 0
  refine v_aload_n hX dX3_isLent_0 0 rfl rfl ?_
  obtain ⟨k1, h⟩ := h
  refine v_getI hX dX3_isLent_1 f_RX3_16 rfl k1 ?_
  refine v_bipush (v := -9) hX dX3_isLent_4 (by decide) ?_
  refine v_icmp_eq (tgt := 13) hX dX3_isLent_6 (by decide) (fun c2 => ?_) (fun c2 => ?_)
  · have h := h_T c2 h
    refine v_iconst (v := 0) hX dX3_isLent_13 (by decide) ?_
    refine v_pick [] rfl ?_
    exact b_X3_isLent_14 hX hE _ h
  · have h := h_E c2 h
    refine v_iconst (v := 1) hX dX3_isLent_9 (by decide) ?_
    refine v_goto (tgt := 14) hX dX3_isLent_10 (by decide) ?_
    refine v_pick [] rfl ?_
    exact b_X3_isLent_14 hX hE _ h
set_option maxRecDepth 100000 in
set_option maxHeartbeats 4000000 in
theorem b_X3_isThere_14 {X : h_X} (hX : h_ok X cX3_isThere 1 RX3 0 0) {Q : Int32 → h_S → Prop} (hE : h_end X (some .boolean) (h_QI (x_Z X) Q)) {y0 : Int32} (s : h_S) (h : w_X3_isThere_14 Q y0 s) : h_V X 1 14 [] [pI y0] s 0 0 := by
  unfold w_X3_isThere_14 at h
  exact v_zret hX hE dX3_isThere_14 h.1 h.2
set_option maxRecDepth 100000 in
set_option maxHeartbeats 4000000 in
theorem m_X3_isThere {Z : h_Z} {o0 : Nat} {s : h_S} {Q : Int32 → h_S → Prop} (h : w_X3_isThere o0 s Q) : h_M Z yX3_isThere cX3_isThere 1 (some .boolean) 0 0 [pR (some o0)] s 0 0 (h_QI Z Q) := by
  refine h_M.of (by decide) (Nat.le_of_ble_eq_true rfl) (fun X hZ hX hE hI => ?_)
  subst hZ
  unfold w_X3_isThere at h
  show h_V X 1 0 [(0, pR (some o0))] [] s 0 0
  refine v_aload_n hX dX3_isThere_0 0 rfl rfl ?_
  obtain ⟨k1, h⟩ := h
  refine v_getI hX dX3_isThere_1 f_RX3_10 rfl k1 ?_
  refine v_ldc hX dX3_isThere_4 k_RX3_9 ?_
  refine v_icmp_ne (tgt := 13) hX dX3_isThere_6 (by decide) (fun c2 => ?_) (fun c2 => ?_)
  · have h := h_E c2 h
    refine v_iconst (v := 0) hX dX3_isThere_13 (by decide) ?_
    refine v_pick [] rfl ?_
    exact b_X3_isThere_14 hX hE _ h
  · have h := h_T c2 h
    refine v_iconst (v := 1) hX dX3_isThere_9 (by decide) ?_
    refine v_goto (tgt := 14) hX dX3_isThere_10 (by decide) ?_
    refine v_pick [] rfl ?_
    exact b_X3_isThere_14 hX hE _ h
set_option maxRecDepth 100000 in
set_option maxHeartbeats 4000000 in
theorem b_X3_holdsAt_37 {X : h_X} (hX : h_ok X cX3_holdsAt 2 RX3 0 0) {Q : Int32 → h_S → Prop} (hE : h_end X (some .boolean) (h_QI (x_Z X) Q)) {y0 : Int32} (s : h_S) (h : w_X3_holdsAt_37 Q y0 s) : h_V X 2 37 [] [pI y0] s 0 0 := by
  unfold w_X3_holdsAt_37 at h
  exact v_zret hX hE dX3_holdsAt_37 h.1 h.2
set_option maxRecDepth 100000 in
set_option maxHeartbeats 4000000 in
theorem b_X3_holdsAt_36 {X : h_X} (hX : h_ok X cX3_holdsAt 2 RX3 0 0) {Q : Int32 → h_S → Prop} (hE : h_end X (some .boolean) (h_QI (x_Z X) Q)) (s : h_S) (h : w_X3_holdsAt_36 Q s) : h_V X 2 36 [] [] s 0 0 := by
  unfold w_X3_holdsAt_36 at h
  refine v_iconst (v := 0) hX dX3_holdsAt_36 (by decide) ?_
  refine v_pick [] rfl ?_
  exact b_X3_holdsAt_37 hX hE _ h
set_option maxRecDepth 100000 in
set_option maxHeartbeats 4000000 in
theorem m_X3_holdsAt {Z : h_Z} {o0 : Nat} {x1 : Int32} {s : h_S} {Q : Int32 → h_S → Prop} (h : w_X3_holdsAt o0 x1 s Q) : h_M Z yX3_holdsAt cX3_holdsAt 2 (some .boolean) 0 0 [pR (some o0), pI x1] s 0 0 (h_QI Z Q) := by
  refine h_M.of (by decide) (Nat.le_of_ble_eq_true rfl) (fun X hZ hX hE hI => ?_)
  subst hZ
  unfold w_X3_holdsAt at h
  show h_V X 2 0 [(0, pR (some o0)), (1, pI x1)] [] s 0 0
  refine v_aload_n hX dX3_holdsAt_0 0 rfl rfl ?_
  obtain ⟨k1, h⟩ := h
  refine v_getI hX dX3_holdsAt_1 f_RX3_25 rfl k1 ?_
  refine v_iload_n hX dX3_holdsAt_4 1 rfl rfl ?_
  refine v_icmp_gt (tgt := 36) hX dX3_holdsAt_5 (by decide) (fun c2 => ?_) (fun c2 => ?_)
  · have h := h_T c2 h
    refine v_pick [] rfl ?_
    exact b_X3_holdsAt_36 hX hE _ h
  · have h := h_E c2 h
    refine v_aload_n hX dX3_holdsAt_8 0 rfl rfl ?_
    refine v_getI hX dX3_holdsAt_9 f_RX3_10 rfl k1 ?_
    refine v_iload_n hX dX3_holdsAt_12 1 rfl rfl ?_
    refine v_icmp_le (tgt := 36) hX dX3_holdsAt_13 (by decide) (fun c3 => ?_) (fun c3 => ?_)
    · have h := h_T c3 h
      refine v_pick [] rfl ?_
      exact b_X3_holdsAt_36 hX hE _ h
    · have h := h_E c3 h
      refine v_aload_n hX dX3_holdsAt_16 0 rfl rfl ?_
      refine v_getI hX dX3_holdsAt_17 f_RX3_34 rfl k1 ?_
      refine v_iload_n hX dX3_holdsAt_20 1 rfl rfl ?_
      refine v_icmp_gt (tgt := 36) hX dX3_holdsAt_21 (by decide) (fun c4 => ?_) (fun c4 => ?_)
      · have h := h_T c4 h
        refine v_pick [] rfl ?_
        exact b_X3_holdsAt_36 hX hE _ h
      · have h := h_E c4 h
        refine v_iload_n hX dX3_holdsAt_24 1 rfl rfl ?_
        refine v_aload_n hX dX3_holdsAt_25 0 rfl rfl ?_
        refine v_getI hX dX3_holdsAt_26 f_RX3_37 rfl k1 ?_
        refine v_icmp_gt (tgt := 36) hX dX3_holdsAt_29 (by decide) (fun c5 => ?_) (fun c5 => ?_)
        · have h := h_T c5 h
          refine v_pick [] rfl ?_
          exact b_X3_holdsAt_36 hX hE _ h
        · have h := h_E c5 h
          refine v_iconst (v := 1) hX dX3_holdsAt_32 (by decide) ?_
          refine v_goto (tgt := 37) hX dX3_holdsAt_33 (by decide) ?_
          refine v_pick [] rfl ?_
          exact b_X3_holdsAt_37 hX hE _ h
set_option maxRecDepth 100000 in
set_option maxHeartbeats 4000000 in
theorem b_X5_cellAt_19 {X : h_X} (hX : h_ok X cX5_cellAt 2 RX5 1 21) {Q : Int32 → h_S → Prop} (hE : h_end X (some .int) (h_QI (x_Z X) Q)) {y0 : Int32} (s : h_S) (h : w_X5_cellAt_19 Q y0 s) : h_V X 2 19 [] [pI y0] s 0 0 := by
  unfold w_X5_cellAt_19 at h
  exact v_iret hX hE dX5_cellAt_19 h
set_option maxRecDepth 100000 in
set_option maxHeartbeats 4000000 in
theorem m_X5_cellAt {Z : h_Z} {o0 : Nat} {x1 : Int32} {s : h_S} {Q : Int32 → h_S → Prop} (h : w_X5_cellAt o0 x1 s Q) : h_M Z yX5_cellAt cX5_cellAt 2 (some .int) 1 21 [pR (some o0), pI x1] s 0 0 (h_QI Z Q) := by
  refine h_M.of (by decide) (Nat.le_of_ble_eq_true rfl) (fun X hZ hX hE hI => ?_)
  subst hZ
  unfold w_X5_cellAt at h
  show h_V X 2 0 [(0, pR (some o0)), (1, pI x1)] [] s 0 0
  refine v_iload_n hX dX5_cellAt_0 1 rfl rfl ?_
  refine v_bipush (v := 60) hX dX5_cellAt_1 (by decide) ?_
  refine v_callSi0 hX dX5_cellAt_3 c_RX5_36 cS_X11_within [pI _, pI _] rfl rfl (Nat.le_of_ble_eq_true rfl) (by decide) (by decide)  (m_X11_within h) (fun p2 s1 h => ?_)
  refine v_if_eq (tgt := 18) hX dX5_cellAt_6 (by decide) (fun c3 => ?_) (fun c3 => ?_)
  · have h := h_T c3 h
    refine v_iconst (v := 0) hX dX5_cellAt_18 (by decide) ?_
    refine v_pick [] rfl ?_
    exact b_X5_cellAt_19 hX hE _ h
  · have h := h_E c3 h
    refine v_aload_n hX dX5_cellAt_9 0 rfl rfl ?_
    obtain ⟨k4, h⟩ := h
    refine v_getR hX dX5_cellAt_10 f_RX5_15 rfl k4 ?_
    refine v_iload_n hX dX5_cellAt_13 1 rfl rfl ?_
    obtain ⟨a5, e_a5, h⟩ := h
    refine v_nn1 e_a5 ?_
    obtain ⟨k6, h⟩ := h
    obtain ⟨i7, h⟩ := h
    refine v_iald hX dX5_cellAt_14 k6 i7 ?_
    refine v_goto (tgt := 19) hX dX5_cellAt_15 (by decide) ?_
    refine v_pick [] rfl ?_
    exact b_X5_cellAt_19 hX hE _ h
set_option maxRecDepth 100000 in
set_option maxHeartbeats 4000000 in
theorem b_X3_goesOnUses_65 {X : h_X} (hX : h_ok X cX3_goesOnUses 3 RX3 0 0) {Q : Int32 → h_S → Prop} (hE : h_end X (some .boolean) (h_QI (x_Z X) Q)) (s : h_S) (h : w_X3_goesOnUses_65 Q s) : h_V X 3 65 [] [] s 0 0 := by
  unfold w_X3_goesOnUses_65 at h
  refine v_iconst (v := 0) hX dX3_goesOnUses_65 (by decide) ?_
  exact v_zret hX hE dX3_goesOnUses_66 (Or.inl rfl) h
set_option maxRecDepth 100000 in
set_option maxHeartbeats 4000000 in
theorem b_X3_goesOnUses_51 {X : h_X} (hX : h_ok X cX3_goesOnUses 3 RX3 0 0) {Q : Int32 → h_S → Prop} (hE : h_end X (some .boolean) (h_QI (x_Z X) Q)) {o0 : Nat} {y0 : Int32} (s : h_S) (h : w_X3_goesOnUses_51 Q o0 y0 s) : h_V X 3 51 [(0, pR (some o0))] [pI y0] s 0 0 := by
  unfold w_X3_goesOnUses_51 at h
  refine v_istore_n (lv' := [(2, _), (0, _)]) hX dX3_goesOnUses_51 rfl (by decide) rfl ?_
  refine v_iload_n hX dX3_goesOnUses_52 0 rfl rfl ?_
  refine v_if_eq (tgt := 65) hX dX3_goesOnUses_53 (by decide) (fun c1 => ?_) (fun c1 => ?_)
  · have h := h_T c1 h
    refine v_pick [] rfl ?_
    exact b_X3_goesOnUses_65 hX hE _ h
  · have h := h_E c1 h
    refine v_aload_n hX dX3_goesOnUses_56 1 rfl rfl ?_
    obtain ⟨k2, h⟩ := h
    refine v_getI hX dX3_goesOnUses_57 f_RX3_31 rfl k2 ?_
    refine v_iload_n hX dX3_goesOnUses_60 0 rfl rfl ?_
    refine v_iand hX dX3_goesOnUses_61 ?_
    refine v_if_eq (tgt := 67) hX dX3_goesOnUses_62 (by decide) (fun c3 => ?_) (fun c3 => ?_)
    · have h := h_T c3 h
      refine v_aload_n hX dX3_goesOnUses_67 1 rfl rfl ?_
      refine v_dup hX dX3_goesOnUses_68 rfl ?_
      refine v_getI hX dX3_goesOnUses_69 f_RX3_31 rfl k2 ?_
      refine v_iload_n hX dX3_goesOnUses_72 0 rfl rfl ?_
      refine v_ior hX dX3_goesOnUses_73 ?_
      refine v_putI hX dX3_goesOnUses_74 f_RX3_31 k2 ?_
      refine v_iconst (v := 1) hX dX3_goesOnUses_77 (by decide) ?_
      exact v_zret hX hE dX3_goesOnUses_78 (Or.inr rfl) h
    · have h := h_E c3 h
      refine v_pick [] rfl ?_
      exact b_X3_goesOnUses_65 hX hE _ h
set_option maxRecDepth 100000 in
set_option maxHeartbeats 4000000 in
theorem b_X3_goesOnUses_20 {X : h_X} (hX : h_ok X cX3_goesOnUses 3 RX3 0 0) {Q : Int32 → h_S → Prop} (hE : h_end X (some .boolean) (h_QI (x_Z X) Q)) {o0 : Nat} {x1 : Int32} (s : h_S) (h : w_X3_goesOnUses_20 Q o0 x1 s) : h_V X 3 20 [(0, pR (some o0)), (1, pI x1)] [] s 0 0 := by
  unfold w_X3_goesOnUses_20 at h
  refine v_iload_n hX dX3_goesOnUses_20 1 rfl rfl ?_
  refine v_bipush (v := 114) hX dX3_goesOnUses_21 (by decide) ?_
  refine v_icmp_ne (tgt := 30) hX dX3_goesOnUses_23 (by decide) (fun c1 => ?_) (fun c1 => ?_)
  · have h := h_E c1 h
    refine v_iload_n hX dX3_goesOnUses_30 1 rfl rfl ?_
    refine v_bipush (v := 113) hX dX3_goesOnUses_31 (by decide) ?_
    refine v_icmp_ne (tgt := 40) hX dX3_goesOnUses_33 (by decide) (fun c2 => ?_) (fun c2 => ?_)
    · have h := h_E c2 h
      refine v_iload_n hX dX3_goesOnUses_40 1 rfl rfl ?_
      refine v_bipush (v := 108) hX dX3_goesOnUses_41 (by decide) ?_
      refine v_icmp_ne (tgt := 50) hX dX3_goesOnUses_43 (by decide) (fun c3 => ?_) (fun c3 => ?_)
      · have h := h_E c3 h
        refine v_iconst (v := 0) hX dX3_goesOnUses_50 (by decide) ?_
        refine v_pick [0] rfl ?_
        exact b_X3_goesOnUses_51 hX hE _ h
      · have h := h_T c3 h
        refine v_iconst (v := 4) hX dX3_goesOnUses_46 (by decide) ?_
        refine v_goto (tgt := 51) hX dX3_goesOnUses_47 (by decide) ?_
        refine v_pick [0] rfl ?_
        exact b_X3_goesOnUses_51 hX hE _ h
    · have h := h_T c2 h
      refine v_iconst (v := 2) hX dX3_goesOnUses_36 (by decide) ?_
      refine v_goto (tgt := 51) hX dX3_goesOnUses_37 (by decide) ?_
      refine v_pick [0] rfl ?_
      exact b_X3_goesOnUses_51 hX hE _ h
  · have h := h_T c1 h
    refine v_iconst (v := 1) hX dX3_goesOnUses_26 (by decide) ?_
    refine v_goto (tgt := 51) hX dX3_goesOnUses_27 (by decide) ?_
    refine v_pick [0] rfl ?_
    exact b_X3_goesOnUses_51 hX hE _ h
set_option maxRecDepth 100000 in
set_option maxHeartbeats 4000000 in
theorem m_X3_goesOnUses {Z : h_Z} {o0 : Nat} {x1 : Int32} {s : h_S} {Q : Int32 → h_S → Prop} (h : w_X3_goesOnUses o0 x1 s Q) : h_M Z yX3_goesOnUses cX3_goesOnUses 3 (some .boolean) 0 0 [pR (some o0), pI x1] s 0 0 (h_QI Z Q) := by
  refine h_M.of (by decide) (Nat.le_of_ble_eq_true rfl) (fun X hZ hX hE hI => ?_)
  subst hZ
  unfold w_X3_goesOnUses at h
  show h_V X 3 0 [(0, pR (some o0)), (1, pI x1)] [] s 0 0
  refine v_iload_n hX dX3_goesOnUses_0 1 rfl rfl ?_
  refine v_bipush (v := 64) hX dX3_goesOnUses_1 (by decide) ?_
  refine v_icmp_ne (tgt := 20) hX dX3_goesOnUses_3 (by decide) (fun c1 => ?_) (fun c1 => ?_)
  · have h := h_E c1 h
    refine v_pick [0, 1] rfl ?_
    exact b_X3_goesOnUses_20 hX hE _ h
  · have h := h_T c1 h
    refine v_aload_n hX dX3_goesOnUses_6 0 rfl rfl ?_
    obtain ⟨k2, h⟩ := h
    refine v_getI hX dX3_goesOnUses_7 f_RX3_31 rfl k2 ?_
    refine v_if_eq (tgt := 20) hX dX3_goesOnUses_10 (by decide) (fun c3 => ?_) (fun c3 => ?_)
    · have h := h_T c3 h
      refine v_pick [0, 1] rfl ?_
      exact b_X3_goesOnUses_20 hX hE _ h
    · have h := h_E c3 h
      refine v_aload_n hX dX3_goesOnUses_13 0 rfl rfl ?_
      refine v_iconst (v := 3) hX dX3_goesOnUses_14 (by decide) ?_
      refine v_putI hX dX3_goesOnUses_15 f_RX3_19 k2 ?_
      refine v_iconst (v := 1) hX dX3_goesOnUses_18 (by decide) ?_
      exact v_zret hX hE dX3_goesOnUses_19 (Or.inr rfl) h
set_option maxRecDepth 100000 in
set_option maxHeartbeats 4000000 in
theorem b_X3_goesOnNumber_53 {X : h_X} (hX : h_ok X cX3_goesOnNumber 2 RX3 1 21) {Q : Int32 → h_S → Prop} (hE : h_end X (some .boolean) (h_QI (x_Z X) Q)) (s : h_S) (h : w_X3_goesOnNumber_53 Q s) : h_V X 2 53 [] [] s 0 0 := by
  unfold w_X3_goesOnNumber_53 at h
  refine v_iconst (v := 0) hX dX3_goesOnNumber_53 (by decide) ?_
  exact v_zret hX hE dX3_goesOnNumber_54 (Or.inl rfl) h
set_option maxRecDepth 100000 in
set_option maxHeartbeats 4000000 in
theorem b_X3_goesOnNumber_108 {X : h_X} (hX : h_ok X cX3_goesOnNumber 2 RX3 1 21) {Q : Int32 → h_S → Prop} (hE : h_end X (some .boolean) (h_QI (x_Z X) Q)) (s : h_S) (h : w_X3_goesOnNumber_108 Q s) : h_V X 2 108 [] [] s 0 0 := by
  unfold w_X3_goesOnNumber_108 at h
  refine v_iconst (v := 1) hX dX3_goesOnNumber_108 (by decide) ?_
  exact v_zret hX hE dX3_goesOnNumber_109 (Or.inr rfl) h
set_option maxRecDepth 100000 in
set_option maxHeartbeats 4000000 in
theorem b_X3_goesOnNumber_33 {X : h_X} (hX : h_ok X cX3_goesOnNumber 2 RX3 1 21) {Q : Int32 → h_S → Prop} (hE : h_end X (some .boolean) (h_QI (x_Z X) Q)) {o0 : Nat} {x1 : Int32} (s : h_S) (h : w_X3_goesOnNumber_33 Q o0 x1 s) : h_V X 2 33 [(0, pR (some o0)), (1, pI x1)] [] s 0 0 := by
  unfold w_X3_goesOnNumber_33 at h
  refine v_iload_n hX dX3_goesOnNumber_33 1 rfl rfl ?_
  refine v_bipush (v := 48) hX dX3_goesOnNumber_34 (by decide) ?_
  refine v_isub hX dX3_goesOnNumber_36 ?_
  refine v_bipush (v := 10) hX dX3_goesOnNumber_37 (by decide) ?_
  refine v_callSi0 hX dX3_goesOnNumber_39 c_RX3_53 cS_X11_within [pI _, pI _] rfl rfl (Nat.le_of_ble_eq_true rfl) (by decide) (by decide)  (m_X11_within h) (fun p2 s1 h => ?_)
  refine v_if_eq (tgt := 53) hX dX3_goesOnNumber_42 (by decide) (fun c3 => ?_) (fun c3 => ?_)
  · have h := h_T c3 h
    refine v_pick [] rfl ?_
    exact b_X3_goesOnNumber_53 hX hE _ h
  · have h := h_E c3 h
    refine v_aload_n hX dX3_goesOnNumber_45 0 rfl rfl ?_
    obtain ⟨k4, h⟩ := h
    refine v_getI hX dX3_goesOnNumber_46 f_RX3_50 rfl k4 ?_
    refine v_iconst (v := 4) hX dX3_goesOnNumber_49 (by decide) ?_
    refine v_icmp_lt (tgt := 55) hX dX3_goesOnNumber_50 (by decide) (fun c5 => ?_) (fun c5 => ?_)
    · have h := h_T c5 h
      refine v_aload_n hX dX3_goesOnNumber_55 0 rfl rfl ?_
      refine v_dup hX dX3_goesOnNumber_56 rfl ?_
      refine v_getI hX dX3_goesOnNumber_57 f_RX3_50 rfl k4 ?_
      refine v_iconst (v := 1) hX dX3_goesOnNumber_60 (by decide) ?_
      refine v_iadd hX dX3_goesOnNumber_61 ?_
      refine v_putI hX dX3_goesOnNumber_62 f_RX3_50 k4 ?_
      refine v_aload_n hX dX3_goesOnNumber_65 0 rfl rfl ?_
      refine v_getI hX dX3_goesOnNumber_66 f_RX3_19 rfl k4 ?_
      refine v_iconst (v := 3) hX dX3_goesOnNumber_69 (by decide) ?_
      refine v_icmp_ne (tgt := 92) hX dX3_goesOnNumber_70 (by decide) (fun c7 => ?_) (fun c7 => ?_)
      · have h := h_E c7 h
        refine v_aload_n hX dX3_goesOnNumber_92 0 rfl rfl ?_
        refine v_bipush (v := 10) hX dX3_goesOnNumber_93 (by decide) ?_
        refine v_aload_n hX dX3_goesOnNumber_95 0 rfl rfl ?_
        refine v_getI hX dX3_goesOnNumber_96 f_RX3_37 rfl k4 ?_
        refine v_imul hX dX3_goesOnNumber_99 ?_
        refine v_iload_n hX dX3_goesOnNumber_100 1 rfl rfl ?_
        refine v_iadd hX dX3_goesOnNumber_101 ?_
        refine v_bipush (v := 48) hX dX3_goesOnNumber_102 (by decide) ?_
        refine v_isub hX dX3_goesOnNumber_104 ?_
        refine v_putI hX dX3_goesOnNumber_105 f_RX3_37 k4 ?_
        refine v_pick [] rfl ?_
        exact b_X3_goesOnNumber_108 hX hE _ h
      · have h := h_T c7 h
        refine v_aload_n hX dX3_goesOnNumber_73 0 rfl rfl ?_
        refine v_bipush (v := 10) hX dX3_goesOnNumber_74 (by decide) ?_
        refine v_aload_n hX dX3_goesOnNumber_76 0 rfl rfl ?_
        refine v_getI hX dX3_goesOnNumber_77 f_RX3_34 rfl k4 ?_
        refine v_imul hX dX3_goesOnNumber_80 ?_
        refine v_iload_n hX dX3_goesOnNumber_81 1 rfl rfl ?_
        refine v_iadd hX dX3_goesOnNumber_82 ?_
        refine v_bipush (v := 48) hX dX3_goesOnNumber_83 (by decide) ?_
        refine v_isub hX dX3_goesOnNumber_85 ?_
        refine v_putI hX dX3_goesOnNumber_86 f_RX3_34 k4 ?_
        refine v_goto (tgt := 108) hX dX3_goesOnNumber_89 (by decide) ?_
        refine v_pick [] rfl ?_
        exact b_X3_goesOnNumber_108 hX hE _ h
    · have h := h_E c5 h
      refine v_pick [] rfl ?_
      exact b_X3_goesOnNumber_53 hX hE _ h
set_option maxRecDepth 100000 in
set_option maxHeartbeats 4000000 in
theorem m_X3_goesOnNumber {Z : h_Z} {o0 : Nat} {x1 : Int32} {s : h_S} {Q : Int32 → h_S → Prop} (h : w_X3_goesOnNumber o0 x1 s Q) : h_M Z yX3_goesOnNumber cX3_goesOnNumber 2 (some .boolean) 1 21 [pR (some o0), pI x1] s 0 0 (h_QI Z Q) := by
  refine h_M.of (by decide) (Nat.le_of_ble_eq_true rfl) (fun X hZ hX hE hI => ?_)
  subst hZ
  unfold w_X3_goesOnNumber at h
  show h_V X 2 0 [(0, pR (some o0)), (1, pI x1)] [] s 0 0
  refine v_iload_n hX dX3_goesOnNumber_0 1 rfl rfl ?_
  refine v_bipush (v := 45) hX dX3_goesOnNumber_1 (by decide) ?_
  refine v_icmp_ne (tgt := 33) hX dX3_goesOnNumber_3 (by decide) (fun c1 => ?_) (fun c1 => ?_)
  · have h := h_E c1 h
    refine v_pick [0, 1] rfl ?_
    exact b_X3_goesOnNumber_33 hX hE _ h
  · have h := h_T c1 h
    refine v_aload_n hX dX3_goesOnNumber_6 0 rfl rfl ?_
    obtain ⟨k2, h⟩ := h
    refine v_getI hX dX3_goesOnNumber_7 f_RX3_19 rfl k2 ?_
    refine v_iconst (v := 3) hX dX3_goesOnNumber_10 (by decide) ?_
    refine v_icmp_ne (tgt := 33) hX dX3_goesOnNumber_11 (by decide) (fun c3 => ?_) (fun c3 => ?_)
    · have h := h_E c3 h
      refine v_pick [0, 1] rfl ?_
      exact b_X3_goesOnNumber_33 hX hE _ h
    · have h := h_T c3 h
      refine v_aload_n hX dX3_goesOnNumber_14 0 rfl rfl ?_
      refine v_getI hX dX3_goesOnNumber_15 f_RX3_50 rfl k2 ?_
      refine v_if_le (tgt := 33) hX dX3_goesOnNumber_18 (by decide) (fun c4 => ?_) (fun c4 => ?_)
      · have h := h_T c4 h
        refine v_pick [0, 1] rfl ?_
        exact b_X3_goesOnNumber_33 hX hE _ h
      · have h := h_E c4 h
        refine v_aload_n hX dX3_goesOnNumber_21 0 rfl rfl ?_
        refine v_iconst (v := 4) hX dX3_goesOnNumber_22 (by decide) ?_
        refine v_putI hX dX3_goesOnNumber_23 f_RX3_19 k2 ?_
        refine v_aload_n hX dX3_goesOnNumber_26 0 rfl rfl ?_
        refine v_iconst (v := 0) hX dX3_goesOnNumber_27 (by decide) ?_
        refine v_putI hX dX3_goesOnNumber_28 f_RX3_50 k2 ?_
        refine v_iconst (v := 1) hX dX3_goesOnNumber_31 (by decide) ?_
        exact v_zret hX hE dX3_goesOnNumber_32 (Or.inr rfl) h
set_option maxRecDepth 100000 in
set_option maxHeartbeats 4000000 in
theorem b_X3_goesOn_70 {X : h_X} (hX : h_ok X cX3_goesOn 2 RX3 2 42) {Q : Int32 → h_S → Prop} (hE : h_end X (some .boolean) (h_QI (x_Z X) Q)) {y0 : Int32} (s : h_S) (h : w_X3_goesOn_70 Q y0 s) : h_V X 2 70 [] [pI y0] s 0 0 := by
  unfold w_X3_goesOn_70 at h
  exact v_zret hX hE dX3_goesOn_70 h.1 h.2
set_option maxRecDepth 100000 in
set_option maxHeartbeats 4000000 in
theorem m_X3_goesOn {Z : h_Z} {o0 : Nat} {x1 : Int32} {s : h_S} {Q : Int32 → h_S → Prop} (h : w_X3_goesOn o0 x1 s Q) : h_M Z yX3_goesOn cX3_goesOn 2 (some .boolean) 2 42 [pR (some o0), pI x1] s 0 0 (h_QI Z Q) := by
  refine h_M.of (by decide) (Nat.le_of_ble_eq_true rfl) (fun X hZ hX hE hI => ?_)
  subst hZ
  unfold w_X3_goesOn at h
  show h_V X 2 0 [(0, pR (some o0)), (1, pI x1)] [] s 0 0
  refine v_aload_n hX dX3_goesOn_0 0 rfl rfl ?_
  obtain ⟨k1, h⟩ := h
  refine v_getI hX dX3_goesOn_1 f_RX3_19 rfl k1 ?_
  refine v_gen (fun q15 e_q15 => ?_)
  rw [← e_q15] at h
  by_cases c2 : q15 = (0 : Int32)
  · have h := h_T c2 h
    refine v_tabIn (tgt := 32) hX dX3_goesOn_4 (by rw [c2]; decide) (by rw [c2]; decide) (by rw [c2]; rfl) (by decide) ?_
    refine v_aload_n hX dX3_goesOn_32 0 rfl rfl ?_
    refine v_iload_n hX dX3_goesOn_33 1 rfl rfl ?_
    refine v_bipush (v := 48) hX dX3_goesOn_34 (by decide) ?_
    refine v_isub hX dX3_goesOn_36 ?_
    refine v_putI hX dX3_goesOn_37 f_RX3_28 k1 ?_
    refine v_aload_n hX dX3_goesOn_40 0 rfl rfl ?_
    refine v_iconst (v := 1) hX dX3_goesOn_41 (by decide) ?_
    refine v_putI hX dX3_goesOn_42 f_RX3_19 k1 ?_
    refine v_aload_n hX dX3_goesOn_45 0 rfl rfl ?_
    refine v_getI hX dX3_goesOn_46 f_RX3_28 rfl k1 ?_
    refine v_iconst (v := 4) hX dX3_goesOn_49 (by decide) ?_
    refine v_callSi0 hX dX3_goesOn_50 c_RX3_53 cS_X11_within [pI _, pI _] rfl rfl (Nat.le_of_ble_eq_true rfl) (by decide) (by decide)  (m_X11_within h) (fun p6 s5 h => ?_)
    exact v_zret hX hE dX3_goesOn_53 h.1 h.2
  · have h := h_E c2 h
    by_cases c7 : q15 = (1 : Int32)
    · have h := h_T c7 h
      refine v_tabIn (tgt := 54) hX dX3_goesOn_4 (by rw [c7]; decide) (by rw [c7]; decide) (by rw [c7]; rfl) (by decide) ?_
      refine v_aload_n hX dX3_goesOn_54 0 rfl rfl ?_
      refine v_iconst (v := 2) hX dX3_goesOn_55 (by decide) ?_
      refine v_putI hX dX3_goesOn_56 f_RX3_19 k1 ?_
      refine v_iload_n hX dX3_goesOn_59 1 rfl rfl ?_
      refine v_bipush (v := 58) hX dX3_goesOn_60 (by decide) ?_
      refine v_icmp_ne (tgt := 69) hX dX3_goesOn_62 (by decide) (fun c9 => ?_) (fun c9 => ?_)
      · have h := h_E c9 h
        refine v_iconst (v := 0) hX dX3_goesOn_69 (by decide) ?_
        refine v_pick [] rfl ?_
        exact b_X3_goesOn_70 hX hE _ h
      · have h := h_T c9 h
        refine v_iconst (v := 1) hX dX3_goesOn_65 (by decide) ?_
        refine v_goto (tgt := 70) hX dX3_goesOn_66 (by decide) ?_
        refine v_pick [] rfl ?_
        exact b_X3_goesOn_70 hX hE _ h
    · have h := h_E c7 h
      by_cases c10 : q15 = (2 : Int32)
      · have h := h_T c10 h
        refine v_tabIn (tgt := 71) hX dX3_goesOn_4 (by rw [c10]; decide) (by rw [c10]; decide) (by rw [c10]; rfl) (by decide) ?_
        refine v_aload_n hX dX3_goesOn_71 0 rfl rfl ?_
        refine v_iload_n hX dX3_goesOn_72 1 rfl rfl ?_
        refine v_callVi0 hX dX3_goesOn_73 c_RX3_57 cV_X3_goesOnUses (ci := 4) (T := TX3) (N := 10) rfl (by exact k1) [pI _] rfl rfl (Nat.le_of_ble_eq_true rfl) (by decide) (by decide)  (m_X3_goesOnUses h) (fun p12 s11 h => ?_)
        exact v_zret hX hE dX3_goesOn_76 h.1 h.2
      · have h := h_E c10 h
        refine v_tabOut (tgt := 77) hX dX3_goesOn_4 (by have := h_ti c2 (n := 0) rfl; have := h_ti c7 (n := 1) rfl; have := h_ti c10 (n := 2) rfl; omega) (by decide) ?_
        refine v_aload_n hX dX3_goesOn_77 0 rfl rfl ?_
        refine v_iload_n hX dX3_goesOn_78 1 rfl rfl ?_
        refine v_callVi0 hX dX3_goesOn_79 c_RX3_60 cV_X3_goesOnNumber (ci := 4) (T := TX3) (N := 10) rfl (by exact k1) [pI _] rfl rfl (Nat.le_of_ble_eq_true rfl) (by decide) (by decide)  (m_X3_goesOnNumber h) (fun p14 s13 h => ?_)
        exact v_zret hX hE dX3_goesOn_82 h.1 h.2
set_option maxRecDepth 100000 in
set_option maxHeartbeats 4000000 in
theorem b_X3_readText_54 {X : h_X} (hX : h_ok X cX3_readText 5 RX3 3 63) {Q : Int32 → h_S → Prop} (hE : h_end X (some .int) (h_QI (x_Z X) Q)) {y0 : Int32} (s : h_S) (h : w_X3_readText_54 Q y0 s) : h_V X 5 54 [] [pI y0] s 0 0 := by
  unfold w_X3_readText_54 at h
  exact v_iret hX hE dX3_readText_54 h
set_option maxRecDepth 100000 in
set_option maxHeartbeats 4000000 in
theorem b_X3_readText_53 {X : h_X} (hX : h_ok X cX3_readText 5 RX3 3 63) {Q : Int32 → h_S → Prop} (hE : h_end X (some .int) (h_QI (x_Z X) Q)) {x3 : Int32} (s : h_S) (h : w_X3_readText_53 Q x3 s) : h_V X 5 53 [(3, pI x3)] [] s 0 0 := by
  unfold w_X3_readText_53 at h
  refine v_iload_n hX dX3_readText_53 0 rfl rfl ?_
  refine v_pick [] rfl ?_
  exact b_X3_readText_54 hX hE _ h
set_option maxRecDepth 100000 in
set_option maxHeartbeats 4000000 in
theorem b_X3_readText_3 {X : h_X} (hX : h_ok X cX3_readText 5 RX3 3 63) {Q : Int32 → h_S → Prop} (hE : h_end X (some .int) (h_QI (x_Z X) Q)) : ∀ (n : Nat) (o0 : Nat) (r1 : Option Nat) (x2 : Int32) (x3 : Int32) (x4 : Int32) (s : h_S), w_X3_readText_3 Q n o0 r1 x2 x3 x4 s → h_V X 5 3 [(0, pR (some o0)), (1, pR r1), (2, pI x2), (3, pI x3), (4, pI x4)] [] s 0 0 := by
  intro n
  induction n with
  | zero => intro _ _ _ _ _ s h; exact h.elim
  | succ n hK3 =>
    intro o0 r1 x2 x3 x4 s h
    have h : w_X3_readText_3b Q (w_X3_readText_3 Q n) o0 r1 x2 x3 x4 s := h
    unfold w_X3_readText_3b at h
    refine v_iload hX dX3_readText_3 4 rfl ?_
    refine v_iload_n hX dX3_readText_5 3 rfl rfl ?_
    refine v_icmp_ge (tgt := 33) hX dX3_readText_6 (by decide) (fun c1 => ?_) (fun c1 => ?_)
    · have h := h_T c1 h
      refine v_aload_n hX dX3_readText_33 0 rfl rfl ?_
      obtain ⟨k2, h⟩ := h
      refine v_getI hX dX3_readText_34 f_RX3_19 rfl k2 ?_
      refine v_iconst (v := 4) hX dX3_readText_37 (by decide) ?_
      refine v_icmp_ne (tgt := 53) hX dX3_readText_38 (by decide) (fun c3 => ?_) (fun c3 => ?_)
      · have h := h_E c3 h
        refine v_pick [3] rfl ?_
        exact b_X3_readText_53 hX hE _ h
      · have h := h_T c3 h
        refine v_aload_n hX dX3_readText_41 0 rfl rfl ?_
        refine v_getI hX dX3_readText_42 f_RX3_50 rfl k2 ?_
        refine v_if_le (tgt := 53) hX dX3_readText_45 (by decide) (fun c4 => ?_) (fun c4 => ?_)
        · have h := h_T c4 h
          refine v_pick [3] rfl ?_
          exact b_X3_readText_53 hX hE _ h
        · have h := h_E c4 h
          refine v_bipush (v := -9) hX dX3_readText_48 (by decide) ?_
          refine v_goto (tgt := 54) hX dX3_readText_50 (by decide) ?_
          refine v_pick [] rfl ?_
          exact b_X3_readText_54 hX hE _ h
    · have h := h_E c1 h
      refine v_aload_n hX dX3_readText_9 0 rfl rfl ?_
      refine v_aload_n hX dX3_readText_10 1 rfl rfl ?_
      refine v_iload_n hX dX3_readText_11 2 rfl rfl ?_
      refine v_iload hX dX3_readText_12 4 rfl ?_
      refine v_iadd hX dX3_readText_14 ?_
      obtain ⟨a5, e_a5, h⟩ := h
      refine v_nn1 e_a5 ?_
      obtain ⟨k6, h⟩ := h
      refine v_callVi0 hX dX3_readText_15 c_RX3_40 cV_X5_cellAt (ci := 6) (T := TX5) (N := 3) rfl (by exact k6) [pI _] rfl rfl (Nat.le_of_ble_eq_true rfl) (by decide) (by decide)  (m_X5_cellAt h) (fun p8 s7 h => ?_)
      obtain ⟨k9, h⟩ := h
      refine v_callVi0 hX dX3_readText_18 c_RX3_46 cV_X3_goesOn (ci := 4) (T := TX3) (N := 10) rfl (by exact k9) [pI _] rfl rfl (Nat.le_of_ble_eq_true rfl) (by decide) (by decide)  (m_X3_goesOn h) (fun p11 s10 h => ?_)
      refine v_if_ne (tgt := 27) hX dX3_readText_21 (by decide) (fun c12 => ?_) (fun c12 => ?_)
      · have h := h_E c12 h
        refine v_iinc (c := 1) (lv' := [(4, _), (0, _), (1, _), (2, _), (3, _)]) hX dX3_readText_27 4 rfl (by decide) (by decide) rfl ?_
        refine v_goto (tgt := 3) hX dX3_readText_30 (by decide) ?_
        refine v_pick [1, 2, 3, 4, 0] rfl ?_
        exact hK3 _ _ _ _ _ _ h
      · have h := h_T c12 h
        refine v_iload hX dX3_readText_24 4 rfl ?_
        exact v_iret hX hE dX3_readText_26 h
set_option maxRecDepth 100000 in
set_option maxHeartbeats 4000000 in
theorem m_X3_readText {Z : h_Z} {o0 : Nat} {r1 : Option Nat} {x2 : Int32} {x3 : Int32} {s : h_S} {Q : Int32 → h_S → Prop} (h : w_X3_readText o0 r1 x2 x3 s Q) : h_M Z yX3_readText cX3_readText 5 (some .int) 3 63 [pR (some o0), pR r1, pI x2, pI x3] s 0 0 (h_QI Z Q) := by
  refine h_M.of (by decide) (Nat.le_of_ble_eq_true rfl) (fun X hZ hX hE hI => ?_)
  subst hZ
  unfold w_X3_readText at h
  show h_V X 5 0 [(0, pR (some o0)), (1, pR r1), (2, pI x2), (3, pI x3)] [] s 0 0
  refine v_iconst (v := 0) hX dX3_readText_0 (by decide) ?_
  refine v_istore (lv' := [(4, _), (0, _), (1, _), (2, _), (3, _)]) hX dX3_readText_1 (by decide) rfl ?_
  refine v_pick [1, 2, 3, 4, 0] rfl ?_
  obtain ⟨n, h⟩ := h
  exact b_X3_readText_3 hX hE n _ _ _ _ _ _ h
set_option maxRecDepth 100000 in
set_option maxHeartbeats 4000000 in
theorem m_X4_init {Z : h_Z} {o0 : Nat} {x1 : Int32} {r2 : Option Nat} {r3 : Option Nat} {s : h_S} {Q : h_S → Prop} (h : w_X4_init o0 x1 r2 r3 s Q) : h_M Z yX4_init cX4_init 4 none 1 20 [pR (some o0), pI x1, pR r2, pR r3] s 0 0 (h_QV Z Q) := by
  refine h_M.of (by decide) (Nat.le_of_ble_eq_true rfl) (fun X hZ hX hE hI => ?_)
  subst hZ
  have hN : (x_me X).name = "<init>" := hI.symm
  unfold w_X4_init at h
  show h_V X 4 0 [(0, pR (some o0)), (1, pI x1), (2, pR r2), (3, pR r3)] [] s 0 0
  refine v_aload_n hX dX4_init_0 0 rfl rfl ?_
  refine v_objInit hX dX4_init_1 oi_RX4_1 (Nat.le_of_ble_eq_true rfl) (by decide) ?_
  refine v_aload_n hX dX4_init_4 0 rfl rfl ?_
  refine v_iload_n hX dX4_init_5 1 rfl rfl ?_
  obtain ⟨k1, h⟩ := h
  refine v_putFI hX dX4_init_6 f_RX4_7 g_RX4_7 hN k1 ?_
  refine v_aload_n hX dX4_init_9 0 rfl rfl ?_
  refine v_aload_n hX dX4_init_10 2 rfl rfl ?_
  refine v_putFR hX dX4_init_11 f_RX4_13 g_RX4_13 rfl (Or.inr ⟨_, rfl⟩) hN k1 ?_
  refine v_aload_n hX dX4_init_14 0 rfl rfl ?_
  refine v_aload_n hX dX4_init_15 3 rfl rfl ?_
  refine v_putFR hX dX4_init_16 f_RX4_17 g_RX4_17 rfl (Or.inl ⟨_, rfl⟩) hN k1 ?_
  exact v_vret hX hE dX4_init_19 h
set_option maxRecDepth 100000 in
set_option maxHeartbeats 4000000 in
theorem m_X5_init {Z : h_Z} {o0 : Nat} {s : h_S} {mc ms : Nat} {Q : h_S → Prop} (h : w_X5_init o0 s mc ms Q) : h_M Z yX5_init cX5_init 1 none 1 20 [pR (some o0)] s mc ms (h_QV Z Q) := by
  refine h_M.of (by decide) (Nat.le_of_ble_eq_true rfl) (fun X hZ hX hE hI => ?_)
  subst hZ
  have hN : (x_me X).name = "<init>" := hI.symm
  unfold w_X5_init at h
  show h_V X 1 0 [(0, pR (some o0))] [] s mc ms
  refine v_aload_n hX dX5_init_0 0 rfl rfl ?_
  refine v_objInit hX dX5_init_1 oi_RX5_3 (Nat.le_of_ble_eq_true rfl) (by decide) ?_
  refine v_aload_n hX dX5_init_4 0 rfl rfl ?_
  refine v_iconst (v := -1) hX dX5_init_5 (by decide) ?_
  obtain ⟨k1, h⟩ := h
  refine v_putI hX dX5_init_6 f_RX5_11 k1 ?_
  refine v_aload_n hX dX5_init_9 0 rfl rfl ?_
  refine v_bipush (v := 60) hX dX5_init_10 (by decide) ?_
  obtain ⟨b5, b6, h⟩ := h
  refine v_newI (N := 60) hX dX5_init_12 ac_int (by decide) (by decide) (by decide) b5 b6 (fun q3 k4 => ?_)
  have h := h q3 k4
  obtain ⟨k10, h⟩ := h
  refine v_putFR hX dX5_init_14 f_RX5_15 g_RX5_15 rfl (Or.inr ⟨_, rfl⟩) hN k10 ?_
  exact v_vret hX hE dX5_init_17 h
set_option maxRecDepth 100000 in
set_option maxHeartbeats 4000000 in
theorem b_X5_isNothing_13 {X : h_X} (hX : h_ok X cX5_isNothing 1 RX5 0 0) {Q : Int32 → h_S → Prop} (hE : h_end X (some .boolean) (h_QI (x_Z X) Q)) {y0 : Int32} (s : h_S) (h : w_X5_isNothing_13 Q y0 s) : h_V X 1 13 [] [pI y0] s 0 0 := by
  unfold w_X5_isNothing_13 at h
  exact v_zret hX hE dX5_isNothing_13 h.1 h.2
