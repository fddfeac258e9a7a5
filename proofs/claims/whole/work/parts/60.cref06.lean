set_option maxRecDepth 100000 in
set_option maxHeartbeats 4000000 in
theorem b_X12_layTree_2 {X : h_X} (hX : h_ok X cX12_layTree 3 RX12 1 22) {Q : h_S → Prop} (hE : h_end X none (h_QV (x_Z X) Q)) : ∀ (n : Nat) (o0 : Nat) (x1 : Int32) (x2 : Int32) (s : h_S), w_X12_layTree_2 Q n o0 x1 x2 s → h_V X 3 2 [(0, pR (some o0)), (1, pI x1), (2, pI x2)] [] s 0 0 := by
  intro n
  induction n with
  | zero => intro _ _ _ s h; exact h.elim
  | succ n hK2 =>
    intro o0 x1 x2 s h
    have h : w_X12_layTree_2b Q (w_X12_layTree_2 Q n) o0 x1 x2 s := h
    unfold w_X12_layTree_2b at h
    refine v_iload_n hX dX12_layTree_2 2 rfl rfl ?_
    refine v_sipush (v := 512) hX dX12_layTree_3 (by decide) ?_
    refine v_icmp_ge (tgt := 71) hX dX12_layTree_6 (by decide) (fun c1 => ?_) (fun c1 => ?_)
    · have h := h_T c1 h
      refine v_sipush (v := 511) hX dX12_layTree_71 (by decide) ?_
      refine v_istore_n (lv' := [(2, _), (0, _), (1, _)]) hX dX12_layTree_74 rfl (by decide) rfl ?_
      refine v_pick [1, 0] rfl ?_
      obtain ⟨n, h⟩ := h
      exact b_X12_layTree_75 hX hE n _ _ _ h
    · have h := h_E c1 h
      refine v_aload_n hX dX12_layTree_9 0 rfl rfl ?_
      obtain ⟨k2, h⟩ := h
      refine v_getR hX dX12_layTree_10 f_RX12_255 rfl k2 ?_
      refine v_sipush (v := 512) hX dX12_layTree_13 (by decide) ?_
      refine v_iload_n hX dX12_layTree_16 2 rfl rfl ?_
      refine v_iadd hX dX12_layTree_17 ?_
      refine v_iload_n hX dX12_layTree_18 2 rfl rfl ?_
      refine v_aload_n hX dX12_layTree_19 0 rfl rfl ?_
      refine v_getI hX dX12_layTree_20 f_RX12_321 rfl k2 ?_
      refine v_icmp_ge (tgt := 63) hX dX12_layTree_23 (by decide) (fun c3 => ?_) (fun c3 => ?_)
      · have h := h_T c3 h
        refine v_pick [0, 1, 2] rfl ?_
        exact b_X12_layTree_63 hX hE hK2 _ h
      · have h := h_E c3 h
        refine v_aload_n hX dX12_layTree_26 0 rfl rfl ?_
        refine v_getR hX dX12_layTree_27 f_RX12_64 rfl k2 ?_
        refine v_iload_n hX dX12_layTree_30 2 rfl rfl ?_
        obtain ⟨a4, e_a4, h⟩ := h
        refine v_nn1 e_a4 ?_
        obtain ⟨k5, h⟩ := h
        obtain ⟨i6, h⟩ := h
        refine v_iald hX dX12_layTree_31 k5 i6 ?_
        refine v_iload_n hX dX12_layTree_32 1 rfl rfl ?_
        refine v_icmp_gt (tgt := 63) hX dX12_layTree_33 (by decide) (fun c7 => ?_) (fun c7 => ?_)
        · have h := h_T c7 h
          refine v_pick [0, 1, 2] rfl ?_
          exact b_X12_layTree_63 hX hE hK2 _ h
        · have h := h_E c7 h
          refine v_aload_n hX dX12_layTree_36 0 rfl rfl ?_
          refine v_getR hX dX12_layTree_37 f_RX12_58 rfl k2 ?_
          refine v_iload_n hX dX12_layTree_40 2 rfl rfl ?_
          obtain ⟨a8, e_a8, h⟩ := h
          refine v_nn1 e_a8 ?_
          obtain ⟨k9, h⟩ := h
          obtain ⟨i10, h⟩ := h
          refine v_iald hX dX12_layTree_41 k9 i10 ?_
          refine v_aload_n hX dX12_layTree_42 0 rfl rfl ?_
          refine v_getR hX dX12_layTree_43 f_RX12_55 rfl k2 ?_
          refine v_iload_n hX dX12_layTree_46 2 rfl rfl ?_
          obtain ⟨a11, e_a11, h⟩ := h
          refine v_nn1 e_a11 ?_
          obtain ⟨k12, h⟩ := h
          obtain ⟨i13, h⟩ := h
          refine v_iald hX dX12_layTree_47 k12 i13 ?_
          refine v_callSi hX dX12_layTree_48 c_RX12_291 cS_X12_mix [pI _, pI _] rfl rfl (Nat.le_of_ble_eq_true rfl) (by decide) (by decide) (Nat.zero_le _) (Nat.zero_le _) (m_X12_mix h) (fun r15 s14 h => ?_)
          refine v_aload_n hX dX12_layTree_51 0 rfl rfl ?_
          obtain ⟨k16, h⟩ := h
          refine v_getR hX dX12_layTree_52 f_RX12_64 rfl k16 ?_
          refine v_iload_n hX dX12_layTree_55 2 rfl rfl ?_
          obtain ⟨a17, e_a17, h⟩ := h
          refine v_nn1 e_a17 ?_
          obtain ⟨k18, h⟩ := h
          obtain ⟨i19, h⟩ := h
          refine v_iald hX dX12_layTree_56 k18 i19 ?_
          refine v_callSi hX dX12_layTree_57 c_RX12_291 cS_X12_mix [pI _, pI _] rfl rfl (Nat.le_of_ble_eq_true rfl) (by decide) (by decide) (Nat.zero_le _) (Nat.zero_le _) (m_X12_mix h) (fun r21 s20 h => ?_)
          refine v_goto (tgt := 64) hX dX12_layTree_60 (by decide) ?_
          refine v_pick [0, 1, 2] rfl ?_
          exact b_X12_layTree_64 hX hE hK2 _ h
set_option maxRecDepth 100000 in
set_option maxHeartbeats 4000000 in
theorem m_X12_layTree {Z : h_Z} {o0 : Nat} {x1 : Int32} {s : h_S} {Q : h_S → Prop} (h : w_X12_layTree o0 x1 s Q) : h_M Z yX12_layTree cX12_layTree 3 none 1 22 [pR (some o0), pI x1] s 0 0 (h_QV Z Q) := by
  refine h_M.of (by decide) (Nat.le_of_ble_eq_true rfl) (fun X hZ hX hE hI => ?_)
  subst hZ
  unfold w_X12_layTree at h
  show h_V X 3 0 [(0, pR (some o0)), (1, pI x1)] [] s 0 0
  refine v_iconst (v := 0) hX dX12_layTree_0 (by decide) ?_
  refine v_istore_n (lv' := [(2, _), (0, _), (1, _)]) hX dX12_layTree_1 rfl (by decide) rfl ?_
  refine v_pick [1, 2, 0] rfl ?_
  obtain ⟨n, h⟩ := h
  exact b_X12_layTree_2 hX hE n _ _ _ _ h
set_option maxRecDepth 100000 in
set_option maxHeartbeats 4000000 in
theorem m_X12_seal {Z : h_Z} {o0 : Nat} {x1 : Int32} {s : h_S} {Q : Int32 → h_S → Prop} (h : w_X12_seal o0 x1 s Q) : h_M Z yX12_seal cX12_seal 2 (some .int) 2 46 [pR (some o0), pI x1] s 0 0 (h_QI Z Q) := by
  refine h_M.of (by decide) (Nat.le_of_ble_eq_true rfl) (fun X hZ hX hE hI => ?_)
  subst hZ
  unfold w_X12_seal at h
  show h_V X 2 0 [(0, pR (some o0)), (1, pI x1)] [] s 0 0
  refine v_aload_n hX dX12_seal_0 0 rfl rfl ?_
  refine v_iload_n hX dX12_seal_1 1 rfl rfl ?_
  obtain ⟨k1, h⟩ := h
  refine v_callVi hX dX12_seal_2 c_RX12_425 cV_X12_noMoment (ci := 13) (T := TX12) (N := 115) rfl (by exact k1) [pI _] rfl rfl (Nat.le_of_ble_eq_true rfl) (by decide) (by decide) (Nat.zero_le _) (Nat.zero_le _) (m_X12_noMoment h) (fun r3 s2 h => ?_)
  refine v_if_eq (tgt := 10) hX dX12_seal_5 (by decide) (fun c4 => ?_) (fun c4 => ?_)
  · have h := h_T c4 h
    refine v_aload_n hX dX12_seal_10 0 rfl rfl ?_
    refine v_iload_n hX dX12_seal_11 1 rfl rfl ?_
    obtain ⟨k5, h⟩ := h
    refine v_callVv hX dX12_seal_12 c_RX12_609 cV_X12_layTree (ci := 13) (T := TX12) (N := 115) rfl (by exact k5) [pI _] rfl rfl (Nat.le_of_ble_eq_true rfl) (by decide) (by decide) (Nat.zero_le _) (Nat.zero_le _) (m_X12_layTree h) (fun s6 h => ?_)
    refine v_aload_n hX dX12_seal_15 0 rfl rfl ?_
    obtain ⟨k8, h⟩ := h
    refine v_getR hX dX12_seal_16 f_RX12_255 rfl k8 ?_
    refine v_iconst (v := 1) hX dX12_seal_19 (by decide) ?_
    obtain ⟨a9, e_a9, h⟩ := h
    refine v_nn1 e_a9 ?_
    obtain ⟨k10, h⟩ := h
    obtain ⟨i11, h⟩ := h
    refine v_iald hX dX12_seal_20 k10 i11 ?_
    exact v_iret hX hE dX12_seal_21 h
  · have h := h_E c4 h
    refine v_iconst (v := 0) hX dX12_seal_8 (by decide) ?_
    exact v_iret hX hE dX12_seal_9 h
set_option maxRecDepth 100000 in
set_option maxHeartbeats 4000000 in
theorem m_X12_sideOf {Z : h_Z} {o0 : Nat} {x1 : Int32} {x2 : Int32} {s : h_S} {Q : Int32 → h_S → Prop} (h : w_X12_sideOf o0 x1 x2 s Q) : h_M Z yX12_sideOf cX12_sideOf 3 (some .int) 0 0 [pR (some o0), pI x1, pI x2] s 0 0 (h_QI Z Q) := by
  refine h_M.of (by decide) (Nat.le_of_ble_eq_true rfl) (fun X hZ hX hE hI => ?_)
  subst hZ
  unfold w_X12_sideOf at h
  show h_V X 3 0 [(0, pR (some o0)), (1, pI x1), (2, pI x2)] [] s 0 0
  refine v_aload_n hX dX12_sideOf_0 0 rfl rfl ?_
  obtain ⟨k1, h⟩ := h
  refine v_getR hX dX12_sideOf_1 f_RX12_255 rfl k1 ?_
  refine v_sipush (v := 512) hX dX12_sideOf_4 (by decide) ?_
  refine v_iload_n hX dX12_sideOf_7 1 rfl rfl ?_
  refine v_iadd hX dX12_sideOf_8 ?_
  refine v_iload_n hX dX12_sideOf_9 2 rfl rfl ?_
  refine v_ishr hX dX12_sideOf_10 ?_
  refine v_iconst (v := 1) hX dX12_sideOf_11 (by decide) ?_
  refine v_ixor hX dX12_sideOf_12 ?_
  obtain ⟨a2, e_a2, h⟩ := h
  refine v_nn1 e_a2 ?_
  obtain ⟨k3, h⟩ := h
  obtain ⟨i4, h⟩ := h
  refine v_iald hX dX12_sideOf_13 k3 i4 ?_
  exact v_iret hX hE dX12_sideOf_14 h
set_option maxRecDepth 100000 in
set_option maxHeartbeats 4000000 in
theorem b_X12_side_28 {X : h_X} (hX : h_ok X cX12_side 4 RX12 2 46) {Q : Int32 → h_S → Prop} (hE : h_end X (some .int) (h_QI (x_Z X) Q)) (s : h_S) (h : w_X12_side_28 Q s) : h_V X 4 28 [] [] s 0 0 := by
  unfold w_X12_side_28 at h
  refine v_iconst (v := 0) hX dX12_side_28 (by decide) ?_
  exact v_iret hX hE dX12_side_29 h
set_option maxRecDepth 100000 in
set_option maxHeartbeats 4000000 in
theorem m_X12_side {Z : h_Z} {o0 : Nat} {x1 : Int32} {x2 : Int32} {x3 : Int32} {s : h_S} {Q : Int32 → h_S → Prop} (h : w_X12_side o0 x1 x2 x3 s Q) : h_M Z yX12_side cX12_side 4 (some .int) 2 46 [pR (some o0), pI x1, pI x2, pI x3] s 0 0 (h_QI Z Q) := by
  refine h_M.of (by decide) (Nat.le_of_ble_eq_true rfl) (fun X hZ hX hE hI => ?_)
  subst hZ
  unfold w_X12_side at h
  show h_V X 4 0 [(0, pR (some o0)), (1, pI x1), (2, pI x2), (3, pI x3)] [] s 0 0
  refine v_aload_n hX dX12_side_0 0 rfl rfl ?_
  refine v_iload_n hX dX12_side_1 1 rfl rfl ?_
  obtain ⟨k1, h⟩ := h
  refine v_callVi hX dX12_side_2 c_RX12_452 cV_X12_noWord (ci := 13) (T := TX12) (N := 115) rfl (by exact k1) [pI _] rfl rfl (Nat.le_of_ble_eq_true rfl) (by decide) (by decide) (Nat.zero_le _) (Nat.zero_le _) (m_X12_noWord h) (fun r3 s2 h => ?_)
  refine v_if_ne (tgt := 28) hX dX12_side_5 (by decide) (fun c4 => ?_) (fun c4 => ?_)
  · have h := h_E c4 h
    refine v_pick [] rfl ?_
    exact b_X12_side_28 hX hE _ h
  · have h := h_T c4 h
    refine v_aload_n hX dX12_side_8 0 rfl rfl ?_
    refine v_iload_n hX dX12_side_9 2 rfl rfl ?_
    obtain ⟨k5, h⟩ := h
    refine v_callVi hX dX12_side_10 c_RX12_425 cV_X12_noMoment (ci := 13) (T := TX12) (N := 115) rfl (by exact k5) [pI _] rfl rfl (Nat.le_of_ble_eq_true rfl) (by decide) (by decide) (Nat.zero_le _) (Nat.zero_le _) (m_X12_noMoment h) (fun r7 s6 h => ?_)
    refine v_if_ne (tgt := 28) hX dX12_side_13 (by decide) (fun c8 => ?_) (fun c8 => ?_)
    · have h := h_E c8 h
      refine v_pick [] rfl ?_
      exact b_X12_side_28 hX hE _ h
    · have h := h_T c8 h
      refine v_iload_n hX dX12_side_16 3 rfl rfl ?_
      refine v_i2l hX dX12_side_17 ?_
      refine v_lconst (v := 0) hX dX12_side_18 (by decide) ?_
      refine v_ldc2 hX dX12_side_19 k_RX12_612 ?_
      refine v_callSi hX dX12_side_22 c_RX12_298 cS_X12_in [pL _, pL _, pL _] rfl rfl (Nat.le_of_ble_eq_true rfl) (by decide) (by decide) (Nat.zero_le _) (Nat.zero_le _) (m_X12_in h) (fun r10 s9 h => ?_)
      refine v_if_ne (tgt := 30) hX dX12_side_25 (by decide) (fun c11 => ?_) (fun c11 => ?_)
      · have h := h_E c11 h
        refine v_aload_n hX dX12_side_30 0 rfl rfl ?_
        refine v_iload_n hX dX12_side_31 2 rfl rfl ?_
        obtain ⟨k12, h⟩ := h
        refine v_callVv hX dX12_side_32 c_RX12_609 cV_X12_layTree (ci := 13) (T := TX12) (N := 115) rfl (by exact k12) [pI _] rfl rfl (Nat.le_of_ble_eq_true rfl) (by decide) (by decide) (Nat.zero_le _) (Nat.zero_le _) (m_X12_layTree h) (fun s13 h => ?_)
        refine v_aload_n hX dX12_side_35 0 rfl rfl ?_
        refine v_iload_n hX dX12_side_36 1 rfl rfl ?_
        refine v_iload_n hX dX12_side_37 3 rfl rfl ?_
        obtain ⟨k15, h⟩ := h
        refine v_callVi hX dX12_side_38 c_RX12_614 cV_X12_sideOf (ci := 13) (T := TX12) (N := 115) rfl (by exact k15) [pI _, pI _] rfl rfl (Nat.le_of_ble_eq_true rfl) (by decide) (by decide) (Nat.zero_le _) (Nat.zero_le _) (m_X12_sideOf h) (fun r17 s16 h => ?_)
        exact v_iret hX hE dX12_side_41 h
      · have h := h_T c11 h
        refine v_pick [] rfl ?_
        exact b_X12_side_28 hX hE _ h
set_option maxRecDepth 100000 in
set_option maxHeartbeats 4000000 in
theorem b_X12_prove_29 {X : h_X} (hX : h_ok X cX12_prove 13 RX12 2 49) {Q : Int32 → h_S → Prop} (hE : h_end X (some .int) (h_QI (x_Z X) Q)) {o0 : Nat} (s : h_S) (h : w_X12_prove_29 Q o0 s) : h_V X 13 29 [(0, pR (some o0))] [] s 0 0 := by
  unfold w_X12_prove_29 at h
  refine v_aload_n hX dX12_prove_29 0 rfl rfl ?_
  refine v_iconst (v := -1) hX dX12_prove_30 (by decide) ?_
  obtain ⟨k1, h⟩ := h
  refine v_callVi hX dX12_prove_31 c_RX12_389 cV_X12_refused (ci := 13) (T := TX12) (N := 115) rfl (by exact k1) [pI _] rfl rfl (Nat.le_of_ble_eq_true rfl) (by decide) (by decide) (Nat.zero_le _) (Nat.zero_le _) (m_X12_refused h) (fun r3 s2 h => ?_)
  exact v_iret hX hE dX12_prove_34 h
set_option maxRecDepth 100000 in
set_option maxHeartbeats 4000000 in
theorem b_X12_prove_151 {X : h_X} (hX : h_ok X cX12_prove 13 RX12 2 49) {Q : Int32 → h_S → Prop} (hE : h_end X (some .int) (h_QI (x_Z X) Q)) {K78 : Nat → Int32 → Int32 → Int32 → Int32 → Int32 → h_S → Prop} (hK78 : ∀ (o0 : Nat) (x1 : Int32) (x6 : Int32) (x8 : Int32) (x10 : Int32) (x11 : Int32) (s : h_S), K78 o0 x1 x6 x8 x10 x11 s → h_V X 13 78 [(0, pR (some o0)), (1, pI x1), (6, pI x6), (8, pI x8), (10, pI x10), (11, pI x11)] [] s 0 0) {o0 : Nat} {x1 : Int32} {x6 : Int32} {x8 : Int32} {x11 : Int32} {y0 : Int32} (s : h_S) (h : w_X12_prove_151 Q K78 o0 x1 x6 x8 x11 y0 s) : h_V X 13 151 [(0, pR (some o0)), (1, pI x1), (6, pI x6), (8, pI x8), (11, pI x11)] [pI y0] s 0 0 := by
  unfold w_X12_prove_151 at h
  refine v_istore (lv' := [(10, _), (0, _), (1, _), (6, _), (8, _), (11, _)]) hX dX12_prove_151 (by decide) rfl ?_
  refine v_iinc (c := 1) (lv' := [(11, _), (10, _), (0, _), (1, _), (6, _), (8, _)]) hX dX12_prove_153 5 rfl (by decide) (by decide) rfl ?_
  refine v_goto (tgt := 78) hX dX12_prove_156 (by decide) ?_
  refine v_pick [2, 3, 4, 5, 1, 0] rfl ?_
  exact hK78 _ _ _ _ _ _ _ h
set_option maxRecDepth 100000 in
set_option maxHeartbeats 4000000 in
theorem b_X12_prove_176 {X : h_X} (hX : h_ok X cX12_prove 13 RX12 2 49) {Q : Int32 → h_S → Prop} (hE : h_end X (some .int) (h_QI (x_Z X) Q)) {y0 : Int32} {u1 : Nat} (s : h_S) (h : w_X12_prove_176 Q y0 u1 s) : h_V X 13 176 [] [pI y0, pR (some u1)] s 0 0 := by
  unfold w_X12_prove_176 at h
  obtain ⟨k1, h⟩ := h
  refine v_callVi hX dX12_prove_176 c_RX12_389 cV_X12_refused (ci := 13) (T := TX12) (N := 115) rfl (by exact k1) [pI _] rfl rfl (Nat.le_of_ble_eq_true rfl) (by decide) (by decide) (Nat.zero_le _) (Nat.zero_le _) (m_X12_refused h) (fun r3 s2 h => ?_)
  exact v_iret hX hE dX12_prove_179 h
set_option maxRecDepth 100000 in
set_option maxHeartbeats 4000000 in
theorem b_X12_prove_78 {X : h_X} (hX : h_ok X cX12_prove 13 RX12 2 49) {Q : Int32 → h_S → Prop} (hE : h_end X (some .int) (h_QI (x_Z X) Q)) : ∀ (n : Nat) (o0 : Nat) (x1 : Int32) (x6 : Int32) (x8 : Int32) (x10 : Int32) (x11 : Int32) (s : h_S), w_X12_prove_78 Q n o0 x1 x6 x8 x10 x11 s → h_V X 13 78 [(0, pR (some o0)), (1, pI x1), (6, pI x6), (8, pI x8), (10, pI x10), (11, pI x11)] [] s 0 0 := by
  intro n
  induction n with
  | zero => intro _ _ _ _ _ _ s h; exact h.elim
  | succ n hK78 =>
    intro o0 x1 x6 x8 x10 x11 s h
    have h : w_X12_prove_78b Q (w_X12_prove_78 Q n) o0 x1 x6 x8 x10 x11 s := h
    unfold w_X12_prove_78b at h
    refine v_iload hX dX12_prove_78 5 rfl ?_
    refine v_bipush (v := 9) hX dX12_prove_80 (by decide) ?_
    refine v_icmp_ge (tgt := 159) hX dX12_prove_82 (by decide) (fun c1 => ?_) (fun c1 => ?_)
    · have h := h_T c1 h
      refine v_aload_n hX dX12_prove_159 0 rfl rfl ?_
      refine v_iload hX dX12_prove_160 4 rfl ?_
      refine v_aload_n hX dX12_prove_162 0 rfl rfl ?_
      obtain ⟨k2, h⟩ := h
      refine v_getR hX dX12_prove_163 f_RX12_255 rfl k2 ?_
      refine v_iconst (v := 1) hX dX12_prove_166 (by decide) ?_
      obtain ⟨a3, e_a3, h⟩ := h
      refine v_nn1 e_a3 ?_
      obtain ⟨k4, h⟩ := h
      obtain ⟨i5, h⟩ := h
      refine v_iald hX dX12_prove_167 k4 i5 ?_
      refine v_icmp_ne (tgt := 175) hX dX12_prove_168 (by decide) (fun c6 => ?_) (fun c6 => ?_)
      · have h := h_E c6 h
        refine v_iconst (v := 0) hX dX12_prove_175 (by decide) ?_
        refine v_pick [] rfl ?_
        exact b_X12_prove_176 hX hE _ h
      · have h := h_T c6 h
        refine v_iconst (v := 1) hX dX12_prove_171 (by decide) ?_
        refine v_goto (tgt := 176) hX dX12_prove_172 (by decide) ?_
        refine v_pick [] rfl ?_
        exact b_X12_prove_176 hX hE _ h
    · have h := h_E c1 h
      refine v_aload_n hX dX12_prove_85 0 rfl rfl ?_
      obtain ⟨k7, h⟩ := h
      refine v_getR hX dX12_prove_86 f_RX12_264 rfl k7 ?_
      refine v_bipush (v := 60) hX dX12_prove_89 (by decide) ?_
      refine v_iload hX dX12_prove_91 2 rfl ?_
      refine v_imul hX dX12_prove_93 ?_
      refine v_iload hX dX12_prove_94 3 rfl ?_
      refine v_iadd hX dX12_prove_96 ?_
      refine v_iload hX dX12_prove_97 5 rfl ?_
      refine v_iadd hX dX12_prove_99 ?_
      obtain ⟨a8, e_a8, h⟩ := h
      refine v_nn1 e_a8 ?_
      obtain ⟨k9, h⟩ := h
      obtain ⟨i10, h⟩ := h
      refine v_iald hX dX12_prove_100 k9 i10 ?_
      refine v_istore (lv' := [(12, _), (0, _), (1, _), (6, _), (8, _), (10, _), (11, _)]) hX dX12_prove_101 (by decide) rfl ?_
      refine v_iload hX dX12_prove_103 0 rfl ?_
      refine v_aload_n hX dX12_prove_105 1 rfl rfl ?_
      refine v_iload_n hX dX12_prove_106 2 rfl rfl ?_
      refine v_iload hX dX12_prove_107 6 rfl ?_
      refine v_callVi hX dX12_prove_109 c_RX12_614 cV_X12_sideOf (ci := 13) (T := TX12) (N := 115) rfl (by exact k7) [pI _, pI _] rfl rfl (Nat.le_of_ble_eq_true rfl) (by decide) (by decide) (Nat.zero_le _) (Nat.zero_le _) (m_X12_sideOf h) (fun r13 s12 h => ?_)
      refine v_icmp_eq (tgt := 125) hX dX12_prove_112 (by decide) (fun c14 => ?_) (fun c14 => ?_)
      · have h := h_T c14 h
        refine v_iload_n hX dX12_prove_125 2 rfl rfl ?_
        refine v_iload hX dX12_prove_126 6 rfl ?_
        refine v_ishr hX dX12_prove_128 ?_
        refine v_iconst (v := 1) hX dX12_prove_129 (by decide) ?_
        refine v_iand hX dX12_prove_130 ?_
        refine v_if_ne (tgt := 144) hX dX12_prove_131 (by decide) (fun c15 => ?_) (fun c15 => ?_)
        · have h := h_E c15 h
          refine v_iload hX dX12_prove_144 0 rfl ?_
          refine v_iload hX dX12_prove_146 5 rfl ?_
          refine v_callSi hX dX12_prove_148 c_RX12_291 cS_X12_mix [pI _, pI _] rfl rfl (Nat.le_of_ble_eq_true rfl) (by decide) (by decide) (Nat.zero_le _) (Nat.zero_le _) (m_X12_mix h) (fun r17 s16 h => ?_)
          refine v_pick [1, 2, 3, 4, 6] rfl ?_
          exact b_X12_prove_151 hX hE hK78 _ h
        · have h := h_T c15 h
          refine v_iload hX dX12_prove_134 5 rfl ?_
          refine v_iload hX dX12_prove_136 0 rfl ?_
          refine v_callSi hX dX12_prove_138 c_RX12_291 cS_X12_mix [pI _, pI _] rfl rfl (Nat.le_of_ble_eq_true rfl) (by decide) (by decide) (Nat.zero_le _) (Nat.zero_le _) (m_X12_mix h) (fun r19 s18 h => ?_)
          refine v_goto (tgt := 151) hX dX12_prove_141 (by decide) ?_
          refine v_pick [1, 2, 3, 4, 6] rfl ?_
          exact b_X12_prove_151 hX hE hK78 _ h
      · have h := h_E c14 h
        refine v_aload_n hX dX12_prove_115 1 rfl rfl ?_
        refine v_bipush (v := -100) hX dX12_prove_116 (by decide) ?_
        refine v_iload hX dX12_prove_118 6 rfl ?_
        refine v_isub hX dX12_prove_120 ?_
        obtain ⟨k20, h⟩ := h
        refine v_callVi hX dX12_prove_121 c_RX12_389 cV_X12_refused (ci := 13) (T := TX12) (N := 115) rfl (by exact k20) [pI _] rfl rfl (Nat.le_of_ble_eq_true rfl) (by decide) (by decide) (Nat.zero_le _) (Nat.zero_le _) (m_X12_refused h) (fun r22 s21 h => ?_)
        exact v_iret hX hE dX12_prove_124 h
set_option maxRecDepth 100000 in
set_option maxHeartbeats 4000000 in
theorem m_X12_prove {Z : h_Z} {o0 : Nat} {x1 : Int32} {x2 : Int32} {x3 : Int32} {x4 : Int32} {x5 : Int32} {x6 : Int32} {x7 : Int32} {x8 : Int32} {s : h_S} {Q : Int32 → h_S → Prop} (h : w_X12_prove o0 x1 x2 x3 x4 x5 x6 x7 x8 s Q) : h_M Z yX12_prove cX12_prove 13 (some .int) 2 49 [pR (some o0), pI x1, pI x2, pI x3, pI x4, pI x5, pI x6, pI x7, pI x8] s 0 0 (h_QI Z Q) := by
  refine h_M.of (by decide) (Nat.le_of_ble_eq_true rfl) (fun X hZ hX hE hI => ?_)
  subst hZ
  unfold w_X12_prove at h
  show h_V X 13 0 [(0, pR (some o0)), (1, pI x1), (2, pI x2), (3, pI x3), (4, pI x4), (5, pI x5), (6, pI x6), (7, pI x7), (8, pI x8)] [] s 0 0
  refine v_iload_n hX dX12_prove_0 1 rfl rfl ?_
  refine v_i2l hX dX12_prove_1 ?_
  refine v_lconst (v := 0) hX dX12_prove_2 (by decide) ?_
  refine v_ldc2 hX dX12_prove_3 k_RX12_421 ?_
  refine v_callSi hX dX12_prove_6 c_RX12_298 cS_X12_in [pL _, pL _, pL _] rfl rfl (Nat.le_of_ble_eq_true rfl) (by decide) (by decide) (Nat.zero_le _) (Nat.zero_le _) (m_X12_in h) (fun r2 s1 h => ?_)
  refine v_if_eq (tgt := 29) hX dX12_prove_9 (by decide) (fun c3 => ?_) (fun c3 => ?_)
  · have h := h_T c3 h
    refine v_pick [0] rfl ?_
    exact b_X12_prove_29 hX hE _ h
  · have h := h_E c3 h
    refine v_aload_n hX dX12_prove_12 0 rfl rfl ?_
    refine v_iload hX dX12_prove_13 5 rfl ?_
    obtain ⟨k4, h⟩ := h
    refine v_callVi hX dX12_prove_15 c_RX12_425 cV_X12_noMoment (ci := 13) (T := TX12) (N := 115) rfl (by exact k4) [pI _] rfl rfl (Nat.le_of_ble_eq_true rfl) (by decide) (by decide) (Nat.zero_le _) (Nat.zero_le _) (m_X12_noMoment h) (fun r6 s5 h => ?_)
    refine v_if_ne (tgt := 29) hX dX12_prove_18 (by decide) (fun c7 => ?_) (fun c7 => ?_)
    · have h := h_E c7 h
      refine v_pick [0] rfl ?_
      exact b_X12_prove_29 hX hE _ h
    · have h := h_T c7 h
      refine v_iload hX dX12_prove_21 6 rfl ?_
      refine v_callSi hX dX12_prove_23 c_RX12_382 cS_X12_noSheet [pI _] rfl rfl (Nat.le_of_ble_eq_true rfl) (by decide) (by decide) (Nat.zero_le _) (Nat.zero_le _) (m_X12_noSheet h) (fun r9 s8 h => ?_)
      refine v_if_eq (tgt := 35) hX dX12_prove_26 (by decide) (fun c10 => ?_) (fun c10 => ?_)
      · have h := h_T c10 h
        refine v_aload_n hX dX12_prove_35 0 rfl rfl ?_
        refine v_iload hX dX12_prove_36 6 rfl ?_
        refine v_iload hX dX12_prove_38 7 rfl ?_
        refine v_iload hX dX12_prove_40 8 rfl ?_
        refine v_bipush (v := 9) hX dX12_prove_42 (by decide) ?_
        obtain ⟨k11, h⟩ := h
        refine v_callVi hX dX12_prove_44 c_RX12_392 cV_X12_barred (ci := 13) (T := TX12) (N := 115) rfl (by exact k11) [pI _, pI _, pI _, pI _] rfl rfl (Nat.le_of_ble_eq_true rfl) (by decide) (by decide) (Nat.zero_le _) (Nat.zero_le _) (m_X12_barred h) (fun r13 s12 h => ?_)
        refine v_istore (lv' := [(9, _), (0, _), (1, _), (2, _), (3, _), (4, _), (5, _), (6, _), (7, _), (8, _)]) hX dX12_prove_47 (by decide) rfl ?_
        refine v_iload hX dX12_prove_49 0 rfl ?_
        refine v_if_ge (tgt := 57) hX dX12_prove_51 (by decide) (fun c14 => ?_) (fun c14 => ?_)
        · have h := h_T c14 h
          refine v_aload_n hX dX12_prove_57 1 rfl rfl ?_
          refine v_iload hX dX12_prove_58 6 rfl ?_
          obtain ⟨k15, h⟩ := h
          refine v_callVv hX dX12_prove_60 c_RX12_609 cV_X12_layTree (ci := 13) (T := TX12) (N := 115) rfl (by exact k15) [pI _] rfl rfl (Nat.le_of_ble_eq_true rfl) (by decide) (by decide) (Nat.zero_le _) (Nat.zero_le _) (m_X12_layTree h) (fun s16 h => ?_)
          refine v_iload_n hX dX12_prove_63 3 rfl rfl ?_
          refine v_iload_n hX dX12_prove_64 4 rfl rfl ?_
          refine v_callSi hX dX12_prove_65 c_RX12_291 cS_X12_mix [pI _, pI _] rfl rfl (Nat.le_of_ble_eq_true rfl) (by decide) (by decide) (Nat.zero_le _) (Nat.zero_le _) (m_X12_mix h) (fun r19 s18 h => ?_)
          refine v_iload hX dX12_prove_68 5 rfl ?_
          refine v_callSi hX dX12_prove_70 c_RX12_291 cS_X12_mix [pI _, pI _] rfl rfl (Nat.le_of_ble_eq_true rfl) (by decide) (by decide) (Nat.zero_le _) (Nat.zero_le _) (m_X12_mix h) (fun r21 s20 h => ?_)
          refine v_istore (lv' := [(10, _), (9, _), (0, _), (1, _), (2, _), (3, _), (4, _), (5, _), (6, _), (7, _), (8, _)]) hX dX12_prove_73 (by decide) rfl ?_
          refine v_iconst (v := 0) hX dX12_prove_75 (by decide) ?_
          refine v_istore (lv' := [(11, _), (10, _), (9, _), (0, _), (1, _), (2, _), (3, _), (4, _), (5, _), (6, _), (7, _), (8, _)]) hX dX12_prove_76 (by decide) rfl ?_
          refine v_pick [3, 4, 9, 11, 1, 0] rfl ?_
          obtain ⟨n, h⟩ := h
          exact b_X12_prove_78 hX hE n _ _ _ _ _ _ _ h
        · have h := h_E c14 h
          refine v_iload hX dX12_prove_54 0 rfl ?_
          exact v_iret hX hE dX12_prove_56 h
      · have h := h_E c10 h
        refine v_pick [0] rfl ?_
        exact b_X12_prove_29 hX hE _ h
set_option maxRecDepth 100000 in
set_option maxHeartbeats 4000000 in
theorem b_X12_stamp_18 {X : h_X} (hX : h_ok X cX12_stamp 2 RX12 2 46) {Q : Int32 → h_S → Prop} (hE : h_end X (some .int) (h_QI (x_Z X) Q)) {y0 : Int32} (s : h_S) (h : w_X12_stamp_18 Q y0 s) : h_V X 2 18 [] [pI y0] s 0 0 := by
  unfold w_X12_stamp_18 at h
  exact v_iret hX hE dX12_stamp_18 h
set_option maxRecDepth 100000 in
set_option maxHeartbeats 4000000 in
theorem m_X12_stamp {Z : h_Z} {o0 : Nat} {x1 : Int32} {s : h_S} {Q : Int32 → h_S → Prop} (h : w_X12_stamp o0 x1 s Q) : h_M Z yX12_stamp cX12_stamp 2 (some .int) 2 46 [pR (some o0), pI x1] s 0 0 (h_QI Z Q) := by
  refine h_M.of (by decide) (Nat.le_of_ble_eq_true rfl) (fun X hZ hX hE hI => ?_)
  subst hZ
  unfold w_X12_stamp at h
  show h_V X 2 0 [(0, pR (some o0)), (1, pI x1)] [] s 0 0
  refine v_aload_n hX dX12_stamp_0 0 rfl rfl ?_
  refine v_iload_n hX dX12_stamp_1 1 rfl rfl ?_
  obtain ⟨k1, h⟩ := h
  refine v_callVi hX dX12_stamp_2 c_RX12_425 cV_X12_noMoment (ci := 13) (T := TX12) (N := 115) rfl (by exact k1) [pI _] rfl rfl (Nat.le_of_ble_eq_true rfl) (by decide) (by decide) (Nat.zero_le _) (Nat.zero_le _) (m_X12_noMoment h) (fun r3 s2 h => ?_)
  refine v_if_eq (tgt := 12) hX dX12_stamp_5 (by decide) (fun c4 => ?_) (fun c4 => ?_)
  · have h := h_T c4 h
    refine v_aload_n hX dX12_stamp_12 0 rfl rfl ?_
    obtain ⟨k5, h⟩ := h
    refine v_getR hX dX12_stamp_13 f_RX12_7 rfl k5 ?_
    refine v_iload_n hX dX12_stamp_16 1 rfl rfl ?_
    obtain ⟨a6, e_a6, h⟩ := h
    refine v_nn1 e_a6 ?_
    obtain ⟨k7, h⟩ := h
    obtain ⟨i8, h⟩ := h
    refine v_iald hX dX12_stamp_17 k7 i8 ?_
    refine v_pick [] rfl ?_
    exact b_X12_stamp_18 hX hE _ h
  · have h := h_E c4 h
    refine v_iconst (v := 0) hX dX12_stamp_8 (by decide) ?_
    refine v_goto (tgt := 18) hX dX12_stamp_9 (by decide) ?_
    refine v_pick [] rfl ?_
    exact b_X12_stamp_18 hX hE _ h
set_option maxRecDepth 100000 in
set_option maxHeartbeats 4000000 in
theorem b_X12_sheet_31 {X : h_X} (hX : h_ok X cX12_sheet 5 RX12 2 45) {Q : Int32 → h_S → Prop} (hE : h_end X (some .int) (h_QI (x_Z X) Q)) {o0 : Nat} (s : h_S) (h : w_X12_sheet_31 Q o0 s) : h_V X 5 31 [(0, pR (some o0))] [] s 0 0 := by
  unfold w_X12_sheet_31 at h
  refine v_aload_n hX dX12_sheet_31 0 rfl rfl ?_
  refine v_bipush (v := -2) hX dX12_sheet_32 (by decide) ?_
  obtain ⟨k1, h⟩ := h
  refine v_callVi hX dX12_sheet_34 c_RX12_389 cV_X12_refused (ci := 13) (T := TX12) (N := 115) rfl (by exact k1) [pI _] rfl rfl (Nat.le_of_ble_eq_true rfl) (by decide) (by decide) (Nat.zero_le _) (Nat.zero_le _) (m_X12_refused h) (fun r3 s2 h => ?_)
  exact v_iret hX hE dX12_sheet_37 h
set_option maxRecDepth 100000 in
set_option maxHeartbeats 4000000 in
theorem b_X12_sheet_65 {X : h_X} (hX : h_ok X cX12_sheet 5 RX12 2 45) {Q : Int32 → h_S → Prop} (hE : h_end X (some .int) (h_QI (x_Z X) Q)) : ∀ (n : Nat) (o0 : Nat) (x1 : Int32) (x3 : Int32) (x4 : Int32) (s : h_S), w_X12_sheet_65 Q n o0 x1 x3 x4 s → h_V X 5 65 [(0, pR (some o0)), (1, pI x1), (3, pI x3), (4, pI x4)] [] s 0 0 := by
  intro n
  induction n with
  | zero => intro _ _ _ _ s h; exact h.elim
  | succ n hK65 =>
    intro o0 x1 x3 x4 s h
    have h : w_X12_sheet_65b Q (w_X12_sheet_65 Q n) o0 x1 x3 x4 s := h
    unfold w_X12_sheet_65b at h
    refine v_iload hX dX12_sheet_65 3 rfl ?_
    refine v_iload_n hX dX12_sheet_67 2 rfl rfl ?_
    refine v_icmp_ge (tgt := 90) hX dX12_sheet_68 (by decide) (fun c1 => ?_) (fun c1 => ?_)
    · have h := h_T c1 h
      refine v_aload_n hX dX12_sheet_90 0 rfl rfl ?_
      refine v_iconst (v := 1) hX dX12_sheet_91 (by decide) ?_
      obtain ⟨k2, h⟩ := h
      refine v_callVi hX dX12_sheet_92 c_RX12_389 cV_X12_refused (ci := 13) (T := TX12) (N := 115) rfl (by exact k2) [pI _] rfl rfl (Nat.le_of_ble_eq_true rfl) (by decide) (by decide) (Nat.zero_le _) (Nat.zero_le _) (m_X12_refused h) (fun r4 s3 h => ?_)
      exact v_iret hX hE dX12_sheet_95 h
    · have h := h_E c1 h
      refine v_aload_n hX dX12_sheet_71 0 rfl rfl ?_
      obtain ⟨k5, h⟩ := h
      refine v_getR hX dX12_sheet_72 f_RX12_264 rfl k5 ?_
      refine v_bipush (v := 60) hX dX12_sheet_75 (by decide) ?_
      refine v_iload_n hX dX12_sheet_77 1 rfl rfl ?_
      refine v_imul hX dX12_sheet_78 ?_
      refine v_iload hX dX12_sheet_79 3 rfl ?_
      refine v_iadd hX dX12_sheet_81 ?_
      refine v_iconst (v := 0) hX dX12_sheet_82 (by decide) ?_
      obtain ⟨a6, e_a6, h⟩ := h
      refine v_nn2 e_a6 ?_
      obtain ⟨k7, h⟩ := h
      obtain ⟨i8, h⟩ := h
      refine v_iast hX dX12_sheet_83 k7 i8 ?_
      refine v_iinc (c := 1) (lv' := [(4, _), (0, _), (1, _), (3, _)]) hX dX12_sheet_84 3 rfl (by decide) (by decide) rfl ?_
      refine v_goto (tgt := 65) hX dX12_sheet_87 (by decide) ?_
      refine v_pick [1, 2, 3, 0] rfl ?_
      exact hK65 _ _ _ _ _ h
set_option maxRecDepth 100000 in
set_option maxHeartbeats 4000000 in
theorem m_X12_sheet {Z : h_Z} {o0 : Nat} {x1 : Int32} {x2 : Int32} {x3 : Int32} {s : h_S} {Q : Int32 → h_S → Prop} (h : w_X12_sheet o0 x1 x2 x3 s Q) : h_M Z yX12_sheet cX12_sheet 5 (some .int) 2 45 [pR (some o0), pI x1, pI x2, pI x3] s 0 0 (h_QI Z Q) := by
  refine h_M.of (by decide) (Nat.le_of_ble_eq_true rfl) (fun X hZ hX hE hI => ?_)
  subst hZ
  unfold w_X12_sheet at h
  show h_V X 5 0 [(0, pR (some o0)), (1, pI x1), (2, pI x2), (3, pI x3)] [] s 0 0
  refine v_iload_n hX dX12_sheet_0 1 rfl rfl ?_
  refine v_callSi hX dX12_sheet_1 c_RX12_382 cS_X12_noSheet [pI _] rfl rfl (Nat.le_of_ble_eq_true rfl) (by decide) (by decide) (Nat.zero_le _) (Nat.zero_le _) (m_X12_noSheet h) (fun r2 s1 h => ?_)
  refine v_if_eq (tgt := 13) hX dX12_sheet_4 (by decide) (fun c3 => ?_) (fun c3 => ?_)
  · have h := h_T c3 h
    refine v_iload_n hX dX12_sheet_13 2 rfl rfl ?_
    refine v_i2l hX dX12_sheet_14 ?_
    refine v_lconst (v := 0) hX dX12_sheet_15 (by decide) ?_
    refine v_ldc2 hX dX12_sheet_16 k_RX12_406 ?_
    refine v_callSi hX dX12_sheet_19 c_RX12_298 cS_X12_in [pL _, pL _, pL _] rfl rfl (Nat.le_of_ble_eq_true rfl) (by decide) (by decide) (Nat.zero_le _) (Nat.zero_le _) (m_X12_in h) (fun r5 s4 h => ?_)
    refine v_if_eq (tgt := 31) hX dX12_sheet_22 (by decide) (fun c6 => ?_) (fun c6 => ?_)
    · have h := h_T c6 h
      refine v_pick [0] rfl ?_
      exact b_X12_sheet_31 hX hE _ h
    · have h := h_E c6 h
      refine v_iload_n hX dX12_sheet_25 3 rfl rfl ?_
      refine v_bipush (v := 60) hX dX12_sheet_26 (by decide) ?_
      refine v_icmp_le (tgt := 38) hX dX12_sheet_28 (by decide) (fun c7 => ?_) (fun c7 => ?_)
      · have h := h_T c7 h
        refine v_iload_n hX dX12_sheet_38 3 rfl rfl ?_
        refine v_if_ge (tgt := 48) hX dX12_sheet_39 (by decide) (fun c8 => ?_) (fun c8 => ?_)
        · have h := h_T c8 h
          refine v_aload_n hX dX12_sheet_48 0 rfl rfl ?_
          obtain ⟨k9, h⟩ := h
          refine v_getR hX dX12_sheet_49 f_RX12_258 rfl k9 ?_
          refine v_iload_n hX dX12_sheet_52 1 rfl rfl ?_
          refine v_iload_n hX dX12_sheet_53 3 rfl rfl ?_
          obtain ⟨a10, e_a10, h⟩ := h
          refine v_nn2 e_a10 ?_
          obtain ⟨k11, h⟩ := h
          obtain ⟨i12, h⟩ := h
          refine v_iast hX dX12_sheet_54 k11 i12 ?_
          refine v_aload_n hX dX12_sheet_55 0 rfl rfl ?_
          refine v_getR hX dX12_sheet_56 f_RX12_261 rfl k9 ?_
          refine v_iload_n hX dX12_sheet_59 1 rfl rfl ?_
          refine v_iload_n hX dX12_sheet_60 2 rfl rfl ?_
          obtain ⟨a14, e_a14, h⟩ := h
          refine v_nn2 e_a14 ?_
          obtain ⟨k15, h⟩ := h
          obtain ⟨i16, h⟩ := h
          refine v_iast hX dX12_sheet_61 k15 i16 ?_
          refine v_iconst (v := 0) hX dX12_sheet_62 (by decide) ?_
          refine v_istore (lv' := [(4, _), (0, _), (1, _), (2, _), (3, _)]) hX dX12_sheet_63 (by decide) rfl ?_
          refine v_pick [1, 2, 4, 0] rfl ?_
          obtain ⟨n, h⟩ := h
          exact b_X12_sheet_65 hX hE n _ _ _ _ _ h
        · have h := h_E c8 h
          refine v_aload_n hX dX12_sheet_42 0 rfl rfl ?_
          refine v_iconst (v := 4) hX dX12_sheet_43 (by decide) ?_
          obtain ⟨k18, h⟩ := h
          refine v_callVi hX dX12_sheet_44 c_RX12_408 cV_X12_failed (ci := 13) (T := TX12) (N := 115) rfl (by exact k18) [pI _] rfl rfl (Nat.le_of_ble_eq_true rfl) (by decide) (by decide) (Nat.zero_le _) (Nat.zero_le _) (m_X12_failed h) (fun r20 s19 h => ?_)
          exact v_iret hX hE dX12_sheet_47 h
      · have h := h_E c7 h
        refine v_pick [0] rfl ?_
        exact b_X12_sheet_31 hX hE _ h
  · have h := h_E c3 h
    refine v_aload_n hX dX12_sheet_7 0 rfl rfl ?_
    refine v_iconst (v := -1) hX dX12_sheet_8 (by decide) ?_
    obtain ⟨k21, h⟩ := h
    refine v_callVi hX dX12_sheet_9 c_RX12_389 cV_X12_refused (ci := 13) (T := TX12) (N := 115) rfl (by exact k21) [pI _] rfl rfl (Nat.le_of_ble_eq_true rfl) (by decide) (by decide) (Nat.zero_le _) (Nat.zero_le _) (m_X12_refused h) (fun r23 s22 h => ?_)
    exact v_iret hX hE dX12_sheet_12 h
set_option maxRecDepth 100000 in
set_option maxHeartbeats 4000000 in
theorem b_X12_lose_23 {X : h_X} (hX : h_ok X cX12_lose 3 RX12 2 45) {Q : Int32 → h_S → Prop} (hE : h_end X (some .int) (h_QI (x_Z X) Q)) {o0 : Nat} {x1 : Int32} {y0 : Int32} (s : h_S) (h : w_X12_lose_23 Q o0 x1 y0 s) : h_V X 3 23 [(0, pR (some o0)), (1, pI x1)] [pI y0] s 0 0 := by
  unfold w_X12_lose_23 at h
  refine v_istore_n (lv' := [(2, _), (0, _), (1, _)]) hX dX12_lose_23 rfl (by decide) rfl ?_
  refine v_aload_n hX dX12_lose_24 1 rfl rfl ?_
  obtain ⟨k1, h⟩ := h
  refine v_getR hX dX12_lose_25 f_RX12_258 rfl k1 ?_
  refine v_iload_n hX dX12_lose_28 2 rfl rfl ?_
  refine v_iconst (v := -1) hX dX12_lose_29 (by decide) ?_
  obtain ⟨a2, e_a2, h⟩ := h
  refine v_nn2 e_a2 ?_
  obtain ⟨k3, h⟩ := h
  obtain ⟨i4, h⟩ := h
  refine v_iast hX dX12_lose_30 k3 i4 ?_
  refine v_iload_n hX dX12_lose_31 0 rfl rfl ?_
  exact v_iret hX hE dX12_lose_32 h
set_option maxRecDepth 100000 in
set_option maxHeartbeats 4000000 in
theorem m_X12_lose {Z : h_Z} {o0 : Nat} {x1 : Int32} {s : h_S} {Q : Int32 → h_S → Prop} (h : w_X12_lose o0 x1 s Q) : h_M Z yX12_lose cX12_lose 3 (some .int) 2 45 [pR (some o0), pI x1] s 0 0 (h_QI Z Q) := by
  refine h_M.of (by decide) (Nat.le_of_ble_eq_true rfl) (fun X hZ hX hE hI => ?_)
  subst hZ
  unfold w_X12_lose at h
  show h_V X 3 0 [(0, pR (some o0)), (1, pI x1)] [] s 0 0
  refine v_iload_n hX dX12_lose_0 1 rfl rfl ?_
  refine v_callSi hX dX12_lose_1 c_RX12_382 cS_X12_noSheet [pI _] rfl rfl (Nat.le_of_ble_eq_true rfl) (by decide) (by decide) (Nat.zero_le _) (Nat.zero_le _) (m_X12_noSheet h) (fun r2 s1 h => ?_)
  refine v_if_eq (tgt := 9) hX dX12_lose_4 (by decide) (fun c3 => ?_) (fun c3 => ?_)
  · have h := h_T c3 h
    refine v_aload_n hX dX12_lose_9 0 rfl rfl ?_
    obtain ⟨k4, h⟩ := h
    refine v_getR hX dX12_lose_10 f_RX12_258 rfl k4 ?_
    refine v_iload_n hX dX12_lose_13 1 rfl rfl ?_
    obtain ⟨a5, e_a5, h⟩ := h
    refine v_nn1 e_a5 ?_
    obtain ⟨k6, h⟩ := h
    obtain ⟨i7, h⟩ := h
    refine v_iald hX dX12_lose_14 k6 i7 ?_
    refine v_if_ge (tgt := 22) hX dX12_lose_15 (by decide) (fun c8 => ?_) (fun c8 => ?_)
    · have h := h_T c8 h
      refine v_iconst (v := 1) hX dX12_lose_22 (by decide) ?_
      refine v_pick [0, 1] rfl ?_
      exact b_X12_lose_23 hX hE _ h
    · have h := h_E c8 h
      refine v_iconst (v := 0) hX dX12_lose_18 (by decide) ?_
      refine v_goto (tgt := 23) hX dX12_lose_19 (by decide) ?_
      refine v_pick [0, 1] rfl ?_
      exact b_X12_lose_23 hX hE _ h
  · have h := h_E c3 h
    refine v_iconst (v := -1) hX dX12_lose_7 (by decide) ?_
    exact v_iret hX hE dX12_lose_8 h
set_option maxRecDepth 100000 in
set_option maxHeartbeats 4000000 in
theorem b_X12_noCell_36 {X : h_X} (hX : h_ok X cX12_noCell 3 RX12 1 25) {Q : Int32 → h_S → Prop} (hE : h_end X (some .int) (h_QI (x_Z X) Q)) {y0 : Int32} (s : h_S) (h : w_X12_noCell_36 Q y0 s) : h_V X 3 36 [] [pI y0] s 0 0 := by
  unfold w_X12_noCell_36 at h
  exact v_iret hX hE dX12_noCell_36 h
set_option maxRecDepth 100000 in
set_option maxHeartbeats 4000000 in
theorem m_X12_noCell {Z : h_Z} {o0 : Nat} {x1 : Int32} {x2 : Int32} {s : h_S} {Q : Int32 → h_S → Prop} (h : w_X12_noCell o0 x1 x2 s Q) : h_M Z yX12_noCell cX12_noCell 3 (some .int) 1 25 [pR (some o0), pI x1, pI x2] s 0 0 (h_QI Z Q) := by
  refine h_M.of (by decide) (Nat.le_of_ble_eq_true rfl) (fun X hZ hX hE hI => ?_)
  subst hZ
  unfold w_X12_noCell at h
  show h_V X 3 0 [(0, pR (some o0)), (1, pI x1), (2, pI x2)] [] s 0 0
  refine v_aload_n hX dX12_noCell_0 0 rfl rfl ?_
  obtain ⟨k1, h⟩ := h
  refine v_getR hX dX12_noCell_1 f_RX12_258 rfl k1 ?_
  refine v_iload_n hX dX12_noCell_4 1 rfl rfl ?_
  obtain ⟨a2, e_a2, h⟩ := h
  refine v_nn1 e_a2 ?_
  obtain ⟨k3, h⟩ := h
  obtain ⟨i4, h⟩ := h
  refine v_iald hX dX12_noCell_5 k3 i4 ?_
  refine v_if_ge (tgt := 13) hX dX12_noCell_6 (by decide) (fun c5 => ?_) (fun c5 => ?_)
  · have h := h_T c5 h
    refine v_iload_n hX dX12_noCell_13 2 rfl rfl ?_
    refine v_i2l hX dX12_noCell_14 ?_
    refine v_lconst (v := 0) hX dX12_noCell_15 (by decide) ?_
    refine v_aload_n hX dX12_noCell_16 0 rfl rfl ?_
    refine v_getR hX dX12_noCell_17 f_RX12_258 rfl k1 ?_
    refine v_iload_n hX dX12_noCell_20 1 rfl rfl ?_
    obtain ⟨a6, e_a6, h⟩ := h
    refine v_nn1 e_a6 ?_
    obtain ⟨k7, h⟩ := h
    obtain ⟨i8, h⟩ := h
    refine v_iald hX dX12_noCell_21 k7 i8 ?_
    refine v_i2l hX dX12_noCell_22 ?_
    refine v_lconst (v := 1) hX dX12_noCell_23 (by decide) ?_
    refine v_lsub hX dX12_noCell_24 ?_
    refine v_callSi hX dX12_noCell_25 c_RX12_298 cS_X12_in [pL _, pL _, pL _] rfl rfl (Nat.le_of_ble_eq_true rfl) (by decide) (by decide) (Nat.zero_le _) (Nat.zero_le _) (m_X12_in h) (fun r10 s9 h => ?_)
    refine v_if_eq (tgt := 35) hX dX12_noCell_28 (by decide) (fun c11 => ?_) (fun c11 => ?_)
    · have h := h_T c11 h
      refine v_iconst (v := 3) hX dX12_noCell_35 (by decide) ?_
      refine v_pick [] rfl ?_
      exact b_X12_noCell_36 hX hE _ h
    · have h := h_E c11 h
      refine v_iconst (v := 0) hX dX12_noCell_31 (by decide) ?_
      refine v_goto (tgt := 36) hX dX12_noCell_32 (by decide) ?_
      refine v_pick [] rfl ?_
      exact b_X12_noCell_36 hX hE _ h
  · have h := h_E c5 h
    refine v_iconst (v := 1) hX dX12_noCell_9 (by decide) ?_
    refine v_goto (tgt := 36) hX dX12_noCell_10 (by decide) ?_
    refine v_pick [] rfl ?_
    exact b_X12_noCell_36 hX hE _ h
set_option maxRecDepth 100000 in
set_option maxHeartbeats 4000000 in
theorem b_X12_set_73 {X : h_X} (hX : h_ok X cX12_set 4 RX12 2 47) {Q : Int32 → h_S → Prop} (hE : h_end X (some .int) (h_QI (x_Z X) Q)) {o0 : Nat} {y0 : Int32} {y1 : Int32} {t2 : Option Nat} (s : h_S) (h : w_X12_set_73 Q o0 y0 y1 t2 s) : h_V X 4 73 [(0, pR (some o0))] [pI y0, pI y1, pR t2] s 0 0 := by
  unfold w_X12_set_73 at h
  obtain ⟨a1, e_a1, h⟩ := h
  refine v_nn2 e_a1 ?_
  obtain ⟨k2, h⟩ := h
  obtain ⟨i3, h⟩ := h
  refine v_iast hX dX12_set_73 k2 i3 ?_
  refine v_aload_n hX dX12_set_74 0 rfl rfl ?_
  refine v_iconst (v := 1) hX dX12_set_75 (by decide) ?_
  obtain ⟨k5, h⟩ := h
  refine v_callVi hX dX12_set_76 c_RX12_389 cV_X12_refused (ci := 13) (T := TX12) (N := 115) rfl (by exact k5) [pI _] rfl rfl (Nat.le_of_ble_eq_true rfl) (by decide) (by decide) (Nat.zero_le _) (Nat.zero_le _) (m_X12_refused h) (fun r7 s6 h => ?_)
  exact v_iret hX hE dX12_set_79 h
set_option maxRecDepth 100000 in
set_option maxHeartbeats 4000000 in
theorem m_X12_set {Z : h_Z} {o0 : Nat} {x1 : Int32} {x2 : Int32} {x3 : Int32} {s : h_S} {Q : Int32 → h_S → Prop} (h : w_X12_set o0 x1 x2 x3 s Q) : h_M Z yX12_set cX12_set 4 (some .int) 2 47 [pR (some o0), pI x1, pI x2, pI x3] s 0 0 (h_QI Z Q) := by
  refine h_M.of (by decide) (Nat.le_of_ble_eq_true rfl) (fun X hZ hX hE hI => ?_)
  subst hZ
  unfold w_X12_set at h
  show h_V X 4 0 [(0, pR (some o0)), (1, pI x1), (2, pI x2), (3, pI x3)] [] s 0 0
  refine v_iload_n hX dX12_set_0 1 rfl rfl ?_
  refine v_callSi hX dX12_set_1 c_RX12_382 cS_X12_noSheet [pI _] rfl rfl (Nat.le_of_ble_eq_true rfl) (by decide) (by decide) (Nat.zero_le _) (Nat.zero_le _) (m_X12_noSheet h) (fun r2 s1 h => ?_)
  refine v_if_eq (tgt := 13) hX dX12_set_4 (by decide) (fun c3 => ?_) (fun c3 => ?_)
  · have h := h_T c3 h
    refine v_aload_n hX dX12_set_13 0 rfl rfl ?_
    refine v_iload_n hX dX12_set_14 1 rfl rfl ?_
    refine v_iload_n hX dX12_set_15 2 rfl rfl ?_
    obtain ⟨k4, h⟩ := h
    refine v_callVi hX dX12_set_16 c_RX12_617 cV_X12_noCell (ci := 13) (T := TX12) (N := 115) rfl (by exact k4) [pI _, pI _] rfl rfl (Nat.le_of_ble_eq_true rfl) (by decide) (by decide) (Nat.zero_le _) (Nat.zero_le _) (m_X12_noCell h) (fun r6 s5 h => ?_)
    refine v_if_le (tgt := 33) hX dX12_set_19 (by decide) (fun c7 => ?_) (fun c7 => ?_)
    · have h := h_T c7 h
      refine v_aload_n hX dX12_set_33 0 rfl rfl ?_
      obtain ⟨k8, h⟩ := h
      refine v_getR hX dX12_set_34 f_RX12_264 rfl k8 ?_
      refine v_bipush (v := 60) hX dX12_set_37 (by decide) ?_
      refine v_iload_n hX dX12_set_39 1 rfl rfl ?_
      refine v_imul hX dX12_set_40 ?_
      refine v_iload_n hX dX12_set_41 2 rfl rfl ?_
      refine v_iadd hX dX12_set_42 ?_
      refine v_aload_n hX dX12_set_43 0 rfl rfl ?_
      refine v_getR hX dX12_set_44 f_RX12_261 rfl k8 ?_
      refine v_iload_n hX dX12_set_47 1 rfl rfl ?_
      obtain ⟨a9, e_a9, h⟩ := h
      refine v_nn1 e_a9 ?_
      obtain ⟨k10, h⟩ := h
      obtain ⟨i11, h⟩ := h
      refine v_iald hX dX12_set_48 k10 i11 ?_
      refine v_if_ne (tgt := 57) hX dX12_set_49 (by decide) (fun c12 => ?_) (fun c12 => ?_)
      · have h := h_E c12 h
        refine v_aload_n hX dX12_set_57 0 rfl rfl ?_
        refine v_getR hX dX12_set_58 f_RX12_261 rfl k8 ?_
        refine v_iload_n hX dX12_set_61 1 rfl rfl ?_
        obtain ⟨a13, e_a13, h⟩ := h
        refine v_nn1 e_a13 ?_
        obtain ⟨k14, h⟩ := h
        obtain ⟨i15, h⟩ := h
        refine v_iald hX dX12_set_62 k14 i15 ?_
        refine v_iconst (v := 1) hX dX12_set_63 (by decide) ?_
        refine v_icmp_ne (tgt := 72) hX dX12_set_64 (by decide) (fun c16 => ?_) (fun c16 => ?_)
        · have h := h_E c16 h
          refine v_iload_n hX dX12_set_72 3 rfl rfl ?_
          refine v_pick [0] rfl ?_
          exact b_X12_set_73 hX hE _ h
        · have h := h_T c16 h
          refine v_iload_n hX dX12_set_67 3 rfl rfl ?_
          refine v_i2s hX dX12_set_68 ?_
          refine v_goto (tgt := 73) hX dX12_set_69 (by decide) ?_
          refine v_pick [0] rfl ?_
          exact b_X12_set_73 hX hE _ h
      · have h := h_T c12 h
        refine v_iload_n hX dX12_set_52 3 rfl rfl ?_
        refine v_i2b hX dX12_set_53 ?_
        refine v_goto (tgt := 73) hX dX12_set_54 (by decide) ?_
        refine v_pick [0] rfl ?_
        exact b_X12_set_73 hX hE _ h
    · have h := h_E c7 h
      refine v_aload_n hX dX12_set_22 0 rfl rfl ?_
      refine v_aload_n hX dX12_set_23 0 rfl rfl ?_
      refine v_iload_n hX dX12_set_24 1 rfl rfl ?_
      refine v_iload_n hX dX12_set_25 2 rfl rfl ?_
      obtain ⟨k17, h⟩ := h
      refine v_callVi hX dX12_set_26 c_RX12_617 cV_X12_noCell (ci := 13) (T := TX12) (N := 115) rfl (by exact k17) [pI _, pI _] rfl rfl (Nat.le_of_ble_eq_true rfl) (by decide) (by decide) (Nat.zero_le _) (Nat.zero_le _) (m_X12_noCell h) (fun r19 s18 h => ?_)
      obtain ⟨k20, h⟩ := h
      refine v_callVi hX dX12_set_29 c_RX12_408 cV_X12_failed (ci := 13) (T := TX12) (N := 115) rfl (by exact k20) [pI _] rfl rfl (Nat.le_of_ble_eq_true rfl) (by decide) (by decide) (Nat.zero_le _) (Nat.zero_le _) (m_X12_failed h) (fun r22 s21 h => ?_)
      exact v_iret hX hE dX12_set_32 h
  · have h := h_E c3 h
    refine v_aload_n hX dX12_set_7 0 rfl rfl ?_
    refine v_iconst (v := -1) hX dX12_set_8 (by decide) ?_
    obtain ⟨k23, h⟩ := h
    refine v_callVi hX dX12_set_9 c_RX12_389 cV_X12_refused (ci := 13) (T := TX12) (N := 115) rfl (by exact k23) [pI _] rfl rfl (Nat.le_of_ble_eq_true rfl) (by decide) (by decide) (Nat.zero_le _) (Nat.zero_le _) (m_X12_refused h) (fun r25 s24 h => ?_)
    exact v_iret hX hE dX12_set_12 h
set_option maxRecDepth 100000 in
set_option maxHeartbeats 4000000 in
theorem b_X12_cell_24 {X : h_X} (hX : h_ok X cX12_cell 4 RX12 2 47) {Q : Int64 → h_S → Prop} (hE : h_end X (some .long) (h_QL (x_Z X) Q)) (s : h_S) (h : w_X12_cell_24 Q s) : h_V X 4 24 [] [] s 0 0 := by
  unfold w_X12_cell_24 at h
  refine v_callSl hX dX12_cell_24 c_RX12_284 cS_X12_lost [] rfl rfl (Nat.le_of_ble_eq_true rfl) (by decide) (by decide) (Nat.zero_le _) (Nat.zero_le _) (m_X12_lost h) (fun r2 s1 h => ?_)
  exact v_lret hX hE dX12_cell_27 h
set_option maxRecDepth 100000 in
set_option maxHeartbeats 4000000 in
theorem b_X12_cell_87 {X : h_X} (hX : h_ok X cX12_cell 4 RX12 2 47) {Q : Int64 → h_S → Prop} (hE : h_end X (some .long) (h_QL (x_Z X) Q)) {m0 : Int64} (s : h_S) (h : w_X12_cell_87 Q m0 s) : h_V X 4 87 [] [pL m0] s 0 0 := by
  unfold w_X12_cell_87 at h
  exact v_lret hX hE dX12_cell_87 h
set_option maxRecDepth 100000 in
set_option maxHeartbeats 4000000 in
theorem b_X12_cell_53 {X : h_X} (hX : h_ok X cX12_cell 4 RX12 2 47) {Q : Int64 → h_S → Prop} (hE : h_end X (some .long) (h_QL (x_Z X) Q)) {o0 : Nat} {x1 : Int32} {x2 : Int32} (s : h_S) (h : w_X12_cell_53 Q o0 x1 x2 s) : h_V X 4 53 [(0, pR (some o0)), (1, pI x1), (2, pI x2)] [] s 0 0 := by
  unfold w_X12_cell_53 at h
  refine v_aload_n hX dX12_cell_53 0 rfl rfl ?_
  refine v_iload_n hX dX12_cell_54 1 rfl rfl ?_
  refine v_iload_n hX dX12_cell_55 2 rfl rfl ?_
  obtain ⟨k1, h⟩ := h
  refine v_callVi hX dX12_cell_56 c_RX12_617 cV_X12_noCell (ci := 13) (T := TX12) (N := 115) rfl (by exact k1) [pI _, pI _] rfl rfl (Nat.le_of_ble_eq_true rfl) (by decide) (by decide) (Nat.zero_le _) (Nat.zero_le _) (m_X12_noCell h) (fun r3 s2 h => ?_)
  refine v_if_le (tgt := 75) hX dX12_cell_59 (by decide) (fun c4 => ?_) (fun c4 => ?_)
  · have h := h_T c4 h
    refine v_aload_n hX dX12_cell_75 0 rfl rfl ?_
    obtain ⟨k5, h⟩ := h
    refine v_getR hX dX12_cell_76 f_RX12_264 rfl k5 ?_
    refine v_bipush (v := 60) hX dX12_cell_79 (by decide) ?_
    refine v_iload_n hX dX12_cell_81 1 rfl rfl ?_
    refine v_imul hX dX12_cell_82 ?_
    refine v_iload_n hX dX12_cell_83 2 rfl rfl ?_
    refine v_iadd hX dX12_cell_84 ?_
    obtain ⟨a6, e_a6, h⟩ := h
    refine v_nn1 e_a6 ?_
    obtain ⟨k7, h⟩ := h
    obtain ⟨i8, h⟩ := h
    refine v_iald hX dX12_cell_85 k7 i8 ?_
    refine v_i2l hX dX12_cell_86 ?_
    refine v_pick [] rfl ?_
    exact b_X12_cell_87 hX hE _ h
  · have h := h_E c4 h
    refine v_aload_n hX dX12_cell_62 0 rfl rfl ?_
    refine v_aload_n hX dX12_cell_63 0 rfl rfl ?_
    refine v_iload_n hX dX12_cell_64 1 rfl rfl ?_
    refine v_iload_n hX dX12_cell_65 2 rfl rfl ?_
    obtain ⟨k9, h⟩ := h
    refine v_callVi hX dX12_cell_66 c_RX12_617 cV_X12_noCell (ci := 13) (T := TX12) (N := 115) rfl (by exact k9) [pI _, pI _] rfl rfl (Nat.le_of_ble_eq_true rfl) (by decide) (by decide) (Nat.zero_le _) (Nat.zero_le _) (m_X12_noCell h) (fun r11 s10 h => ?_)
    obtain ⟨k12, h⟩ := h
    refine v_callVl hX dX12_cell_69 c_RX12_620 cV_X12_failedLong (ci := 13) (T := TX12) (N := 115) rfl (by exact k12) [pI _] rfl rfl (Nat.le_of_ble_eq_true rfl) (by decide) (by decide) (Nat.zero_le _) (Nat.zero_le _) (m_X12_failedLong h) (fun r14 s13 h => ?_)
    refine v_goto (tgt := 87) hX dX12_cell_72 (by decide) ?_
    refine v_pick [] rfl ?_
    exact b_X12_cell_87 hX hE _ h
set_option maxRecDepth 100000 in
set_option maxHeartbeats 4000000 in
theorem m_X12_cell {Z : h_Z} {o0 : Nat} {x1 : Int32} {x2 : Int32} {x3 : Int32} {s : h_S} {Q : Int64 → h_S → Prop} (h : w_X12_cell o0 x1 x2 x3 s Q) : h_M Z yX12_cell cX12_cell 4 (some .long) 2 47 [pR (some o0), pI x1, pI x2, pI x3] s 0 0 (h_QL Z Q) := by
  refine h_M.of (by decide) (Nat.le_of_ble_eq_true rfl) (fun X hZ hX hE hI => ?_)
  subst hZ
  unfold w_X12_cell at h
  show h_V X 4 0 [(0, pR (some o0)), (1, pI x1), (2, pI x2), (3, pI x3)] [] s 0 0
  refine v_aload_n hX dX12_cell_0 0 rfl rfl ?_
  refine v_iconst (v := 0) hX dX12_cell_1 (by decide) ?_
  obtain ⟨k1, h⟩ := h
  refine v_putI hX dX12_cell_2 f_RX12_281 k1 ?_
  refine v_iload_n hX dX12_cell_5 1 rfl rfl ?_
  refine v_callSi hX dX12_cell_6 c_RX12_382 cS_X12_noSheet [pI _] rfl rfl (Nat.le_of_ble_eq_true rfl) (by decide) (by decide) (Nat.zero_le _) (Nat.zero_le _) (m_X12_noSheet h) (fun r4 s3 h => ?_)
  refine v_if_ne (tgt := 24) hX dX12_cell_9 (by decide) (fun c5 => ?_) (fun c5 => ?_)
  · have h := h_E c5 h
    refine v_pick [] rfl ?_
    exact b_X12_cell_24 hX hE _ h
  · have h := h_T c5 h
    refine v_iload_n hX dX12_cell_12 3 rfl rfl ?_
    refine v_i2l hX dX12_cell_13 ?_
    refine v_lconst (v := 0) hX dX12_cell_14 (by decide) ?_
    refine v_ldc2 hX dX12_cell_15 k_RX12_406 ?_
    refine v_callSi hX dX12_cell_18 c_RX12_298 cS_X12_in [pL _, pL _, pL _] rfl rfl (Nat.le_of_ble_eq_true rfl) (by decide) (by decide) (Nat.zero_le _) (Nat.zero_le _) (m_X12_in h) (fun r7 s6 h => ?_)
    refine v_if_ne (tgt := 28) hX dX12_cell_21 (by decide) (fun c8 => ?_) (fun c8 => ?_)
    · have h := h_E c8 h
      refine v_aload_n hX dX12_cell_28 0 rfl rfl ?_
      obtain ⟨k9, h⟩ := h
      refine v_getR hX dX12_cell_29 f_RX12_258 rfl k9 ?_
      refine v_iload_n hX dX12_cell_32 1 rfl rfl ?_
      obtain ⟨a10, e_a10, h⟩ := h
      refine v_nn1 e_a10 ?_
      obtain ⟨k11, h⟩ := h
      obtain ⟨i12, h⟩ := h
      refine v_iald hX dX12_cell_33 k11 i12 ?_
      refine v_if_lt (tgt := 53) hX dX12_cell_34 (by decide) (fun c13 => ?_) (fun c13 => ?_)
      · have h := h_T c13 h
        refine v_pick [0, 1, 2] rfl ?_
        exact b_X12_cell_53 hX hE _ h
      · have h := h_E c13 h
        refine v_aload_n hX dX12_cell_37 0 rfl rfl ?_
        refine v_getR hX dX12_cell_38 f_RX12_261 rfl k9 ?_
        refine v_iload_n hX dX12_cell_41 1 rfl rfl ?_
        obtain ⟨a14, e_a14, h⟩ := h
        refine v_nn1 e_a14 ?_
        obtain ⟨k15, h⟩ := h
        obtain ⟨i16, h⟩ := h
        refine v_iald hX dX12_cell_42 k15 i16 ?_
        refine v_iload_n hX dX12_cell_43 3 rfl rfl ?_
        refine v_icmp_eq (tgt := 53) hX dX12_cell_44 (by decide) (fun c17 => ?_) (fun c17 => ?_)
        · have h := h_T c17 h
          refine v_pick [0, 1, 2] rfl ?_
          exact b_X12_cell_53 hX hE _ h
        · have h := h_E c17 h
          refine v_aload_n hX dX12_cell_47 0 rfl rfl ?_
          refine v_iconst (v := 2) hX dX12_cell_48 (by decide) ?_
          refine v_callVl hX dX12_cell_49 c_RX12_620 cV_X12_failedLong (ci := 13) (T := TX12) (N := 115) rfl (by exact k9) [pI _] rfl rfl (Nat.le_of_ble_eq_true rfl) (by decide) (by decide) (Nat.zero_le _) (Nat.zero_le _) (m_X12_failedLong h) (fun r19 s18 h => ?_)
          exact v_lret hX hE dX12_cell_52 h
    · have h := h_T c8 h
      refine v_pick [] rfl ?_
      exact b_X12_cell_24 hX hE _ h
set_option maxRecDepth 100000 in
set_option maxHeartbeats 4000000 in
theorem b_X12_copy_14 {X : h_X} (hX : h_ok X cX12_copy 7 RX12 2 45) {Q : Int32 → h_S → Prop} (hE : h_end X (some .int) (h_QI (x_Z X) Q)) {o0 : Nat} (s : h_S) (h : w_X12_copy_14 Q o0 s) : h_V X 7 14 [(0, pR (some o0))] [] s 0 0 := by
  unfold w_X12_copy_14 at h
  refine v_aload_n hX dX12_copy_14 0 rfl rfl ?_
  refine v_iconst (v := -1) hX dX12_copy_15 (by decide) ?_
  obtain ⟨k1, h⟩ := h
  refine v_callVi hX dX12_copy_16 c_RX12_389 cV_X12_refused (ci := 13) (T := TX12) (N := 115) rfl (by exact k1) [pI _] rfl rfl (Nat.le_of_ble_eq_true rfl) (by decide) (by decide) (Nat.zero_le _) (Nat.zero_le _) (m_X12_refused h) (fun r3 s2 h => ?_)
  exact v_iret hX hE dX12_copy_19 h
set_option maxRecDepth 100000 in
set_option maxHeartbeats 4000000 in
theorem b_X12_copy_38 {X : h_X} (hX : h_ok X cX12_copy 7 RX12 2 45) {Q : Int32 → h_S → Prop} (hE : h_end X (some .int) (h_QI (x_Z X) Q)) {o0 : Nat} (s : h_S) (h : w_X12_copy_38 Q o0 s) : h_V X 7 38 [(0, pR (some o0))] [] s 0 0 := by
  unfold w_X12_copy_38 at h
  refine v_aload_n hX dX12_copy_38 0 rfl rfl ?_
  refine v_iconst (v := 1) hX dX12_copy_39 (by decide) ?_
  obtain ⟨k1, h⟩ := h
  refine v_callVi hX dX12_copy_40 c_RX12_408 cV_X12_failed (ci := 13) (T := TX12) (N := 115) rfl (by exact k1) [pI _] rfl rfl (Nat.le_of_ble_eq_true rfl) (by decide) (by decide) (Nat.zero_le _) (Nat.zero_le _) (m_X12_failed h) (fun r3 s2 h => ?_)
  exact v_iret hX hE dX12_copy_43 h
set_option maxRecDepth 100000 in
set_option maxHeartbeats 4000000 in
theorem b_X12_copy_98 {X : h_X} (hX : h_ok X cX12_copy 7 RX12 2 45) {Q : Int32 → h_S → Prop} (hE : h_end X (some .int) (h_QI (x_Z X) Q)) {o0 : Nat} (s : h_S) (h : w_X12_copy_98 Q o0 s) : h_V X 7 98 [(0, pR (some o0))] [] s 0 0 := by
  unfold w_X12_copy_98 at h
  refine v_aload_n hX dX12_copy_98 0 rfl rfl ?_
  refine v_iconst (v := 3) hX dX12_copy_99 (by decide) ?_
  obtain ⟨k1, h⟩ := h
  refine v_callVi hX dX12_copy_100 c_RX12_408 cV_X12_failed (ci := 13) (T := TX12) (N := 115) rfl (by exact k1) [pI _] rfl rfl (Nat.le_of_ble_eq_true rfl) (by decide) (by decide) (Nat.zero_le _) (Nat.zero_le _) (m_X12_failed h) (fun r3 s2 h => ?_)
  exact v_iret hX hE dX12_copy_103 h
set_option maxRecDepth 100000 in
set_option maxHeartbeats 4000000 in
theorem b_X12_copy_144 {X : h_X} (hX : h_ok X cX12_copy 7 RX12 2 45) {Q : Int32 → h_S → Prop} (hE : h_end X (some .int) (h_QI (x_Z X) Q)) : ∀ (n : Nat) (o0 : Nat) (x3 : Int32) (x4 : Int32) (x5 : Int32) (x6 : Int32) (s : h_S), w_X12_copy_144 Q n o0 x3 x4 x5 x6 s → h_V X 7 144 [(0, pR (some o0)), (3, pI x3), (4, pI x4), (5, pI x5), (6, pI x6)] [] s 0 0 := by
  intro n
  induction n with
  | zero => intro _ _ _ _ _ s h; exact h.elim
  | succ n hK144 =>
    intro o0 x3 x4 x5 x6 s h
    have h : w_X12_copy_144b Q (w_X12_copy_144 Q n) o0 x3 x4 x5 x6 s := h
    unfold w_X12_copy_144b at h
    refine v_iload hX dX12_copy_144 4 rfl ?_
    refine v_iload hX dX12_copy_146 3 rfl ?_
    refine v_icmp_ge (tgt := 179) hX dX12_copy_148 (by decide) (fun c1 => ?_) (fun c1 => ?_)
    · have h := h_T c1 h
      refine v_aload_n hX dX12_copy_179 0 rfl rfl ?_
      refine v_iload hX dX12_copy_180 3 rfl ?_
      obtain ⟨k2, h⟩ := h
      refine v_callVi hX dX12_copy_182 c_RX12_389 cV_X12_refused (ci := 13) (T := TX12) (N := 115) rfl (by exact k2) [pI _] rfl rfl (Nat.le_of_ble_eq_true rfl) (by decide) (by decide) (Nat.zero_le _) (Nat.zero_le _) (m_X12_refused h) (fun r4 s3 h => ?_)
      exact v_iret hX hE dX12_copy_185 h
    · have h := h_E c1 h
      refine v_aload_n hX dX12_copy_151 0 rfl rfl ?_
      obtain ⟨k5, h⟩ := h
      refine v_getR hX dX12_copy_152 f_RX12_264 rfl k5 ?_
      refine v_bipush (v := 60) hX dX12_copy_155 (by decide) ?_
      refine v_iload_n hX dX12_copy_157 1 rfl rfl ?_
      refine v_imul hX dX12_copy_158 ?_
      refine v_iload hX dX12_copy_159 2 rfl ?_
      refine v_iadd hX dX12_copy_161 ?_
      refine v_iload hX dX12_copy_162 4 rfl ?_
      refine v_iadd hX dX12_copy_164 ?_
      refine v_aload_n hX dX12_copy_165 0 rfl rfl ?_
      refine v_getR hX dX12_copy_166 f_RX12_267 rfl k5 ?_
      refine v_iload hX dX12_copy_169 4 rfl ?_
      obtain ⟨a6, e_a6, h⟩ := h
      refine v_nn1 e_a6 ?_
      obtain ⟨k7, h⟩ := h
      obtain ⟨i8, h⟩ := h
      refine v_iald hX dX12_copy_171 k7 i8 ?_
      obtain ⟨a9, e_a9, h⟩ := h
      refine v_nn2 e_a9 ?_
      obtain ⟨k10, h⟩ := h
      obtain ⟨i11, h⟩ := h
      refine v_iast hX dX12_copy_172 k10 i11 ?_
      refine v_iinc (c := 1) (lv' := [(6, _), (0, _), (3, _), (4, _), (5, _)]) hX dX12_copy_173 4 rfl (by decide) (by decide) rfl ?_
      refine v_goto (tgt := 144) hX dX12_copy_176 (by decide) ?_
      refine v_pick [1, 2, 3, 4, 0] rfl ?_
      exact hK144 _ _ _ _ _ _ h
set_option maxRecDepth 100000 in
set_option maxHeartbeats 4000000 in
theorem b_X12_copy_107 {X : h_X} (hX : h_ok X cX12_copy 7 RX12 2 45) {Q : Int32 → h_S → Prop} (hE : h_end X (some .int) (h_QI (x_Z X) Q)) : ∀ (n : Nat) (o0 : Nat) (x1 : Int32) (x2 : Int32) (x3 : Int32) (x4 : Int32) (x5 : Int32) (x6 : Int32) (s : h_S), w_X12_copy_107 Q n o0 x1 x2 x3 x4 x5 x6 s → h_V X 7 107 [(0, pR (some o0)), (1, pI x1), (2, pI x2), (3, pI x3), (4, pI x4), (5, pI x5), (6, pI x6)] [] s 0 0 := by
  intro n
  induction n with
  | zero => intro _ _ _ _ _ _ _ s h; exact h.elim
  | succ n hK107 =>
    intro o0 x1 x2 x3 x4 x5 x6 s h
    have h : w_X12_copy_107b Q (w_X12_copy_107 Q n) o0 x1 x2 x3 x4 x5 x6 s := h
    unfold w_X12_copy_107b at h
    refine v_iload hX dX12_copy_107 6 rfl ?_
    refine v_iload hX dX12_copy_109 5 rfl ?_
    refine v_icmp_ge (tgt := 141) hX dX12_copy_111 (by decide) (fun c1 => ?_) (fun c1 => ?_)
    · have h := h_T c1 h
      refine v_iconst (v := 0) hX dX12_copy_141 (by decide) ?_
      refine v_istore (lv' := [(6, _), (0, _), (1, _), (2, _), (3, _), (4, _), (5, _)]) hX dX12_copy_142 (by decide) rfl ?_
      refine v_pick [1, 4, 5, 6, 0] rfl ?_
      obtain ⟨n, h⟩ := h
      exact b_X12_copy_144 hX hE n _ _ _ _ _ _ h
    · have h := h_E c1 h
      refine v_aload_n hX dX12_copy_114 0 rfl rfl ?_
      obtain ⟨k2, h⟩ := h
      refine v_getR hX dX12_copy_115 f_RX12_267 rfl k2 ?_
      refine v_iload hX dX12_copy_118 6 rfl ?_
      refine v_aload_n hX dX12_copy_120 0 rfl rfl ?_
      refine v_getR hX dX12_copy_121 f_RX12_264 rfl k2 ?_
      refine v_bipush (v := 60) hX dX12_copy_124 (by decide) ?_
      refine v_iload_n hX dX12_copy_126 1 rfl rfl ?_
      refine v_imul hX dX12_copy_127 ?_
      refine v_iload_n hX dX12_copy_128 2 rfl rfl ?_
      refine v_iadd hX dX12_copy_129 ?_
      refine v_iload hX dX12_copy_130 6 rfl ?_
      refine v_iadd hX dX12_copy_132 ?_
      obtain ⟨a3, e_a3, h⟩ := h
      refine v_nn1 e_a3 ?_
      obtain ⟨k4, h⟩ := h
      obtain ⟨i5, h⟩ := h
      refine v_iald hX dX12_copy_133 k4 i5 ?_
      obtain ⟨a6, e_a6, h⟩ := h
      refine v_nn2 e_a6 ?_
      obtain ⟨k7, h⟩ := h
      obtain ⟨i8, h⟩ := h
      refine v_iast hX dX12_copy_134 k7 i8 ?_
      refine v_iinc (c := 1) (lv' := [(6, _), (0, _), (1, _), (2, _), (3, _), (4, _), (5, _)]) hX dX12_copy_135 6 rfl (by decide) (by decide) rfl ?_
      refine v_goto (tgt := 107) hX dX12_copy_138 (by decide) ?_
      refine v_pick [1, 2, 3, 4, 5, 6, 0] rfl ?_
      exact hK107 _ _ _ _ _ _ _ _ h
set_option maxRecDepth 100000 in
set_option maxHeartbeats 4000000 in
theorem m_X12_copy {Z : h_Z} {o0 : Nat} {x1 : Int32} {x2 : Int32} {x3 : Int32} {x4 : Int32} {x5 : Int32} {s : h_S} {Q : Int32 → h_S → Prop} (h : w_X12_copy o0 x1 x2 x3 x4 x5 s Q) : h_M Z yX12_copy cX12_copy 7 (some .int) 2 45 [pR (some o0), pI x1, pI x2, pI x3, pI x4, pI x5] s 0 0 (h_QI Z Q) := by
  refine h_M.of (by decide) (Nat.le_of_ble_eq_true rfl) (fun X hZ hX hE hI => ?_)
  subst hZ
  unfold w_X12_copy at h
  show h_V X 7 0 [(0, pR (some o0)), (1, pI x1), (2, pI x2), (3, pI x3), (4, pI x4), (5, pI x5)] [] s 0 0
  refine v_iload_n hX dX12_copy_0 1 rfl rfl ?_
  refine v_callSi hX dX12_copy_1 c_RX12_382 cS_X12_noSheet [pI _] rfl rfl (Nat.le_of_ble_eq_true rfl) (by decide) (by decide) (Nat.zero_le _) (Nat.zero_le _) (m_X12_noSheet h) (fun r2 s1 h => ?_)
  refine v_if_ne (tgt := 14) hX dX12_copy_4 (by decide) (fun c3 => ?_) (fun c3 => ?_)
  · have h := h_E c3 h
    refine v_pick [0] rfl ?_
    exact b_X12_copy_14 hX hE _ h
  · have h := h_T c3 h
    refine v_iload_n hX dX12_copy_7 3 rfl rfl ?_
    refine v_callSi hX dX12_copy_8 c_RX12_382 cS_X12_noSheet [pI _] rfl rfl (Nat.le_of_ble_eq_true rfl) (by decide) (by decide) (Nat.zero_le _) (Nat.zero_le _) (m_X12_noSheet h) (fun r5 s4 h => ?_)
    refine v_if_eq (tgt := 20) hX dX12_copy_11 (by decide) (fun c6 => ?_) (fun c6 => ?_)
    · have h := h_T c6 h
      refine v_aload_n hX dX12_copy_20 0 rfl rfl ?_
      obtain ⟨k7, h⟩ := h
      refine v_getR hX dX12_copy_21 f_RX12_258 rfl k7 ?_
      refine v_iload_n hX dX12_copy_24 1 rfl rfl ?_
      obtain ⟨a8, e_a8, h⟩ := h
      refine v_nn1 e_a8 ?_
      obtain ⟨k9, h⟩ := h
      obtain ⟨i10, h⟩ := h
      refine v_iald hX dX12_copy_25 k9 i10 ?_
      refine v_if_lt (tgt := 38) hX dX12_copy_26 (by decide) (fun c11 => ?_) (fun c11 => ?_)
      · have h := h_T c11 h
        refine v_pick [0] rfl ?_
        exact b_X12_copy_38 hX hE _ h
      · have h := h_E c11 h
        refine v_aload_n hX dX12_copy_29 0 rfl rfl ?_
        refine v_getR hX dX12_copy_30 f_RX12_258 rfl k7 ?_
        refine v_iload_n hX dX12_copy_33 3 rfl rfl ?_
        obtain ⟨a12, e_a12, h⟩ := h
        refine v_nn1 e_a12 ?_
        obtain ⟨k13, h⟩ := h
        obtain ⟨i14, h⟩ := h
        refine v_iald hX dX12_copy_34 k13 i14 ?_
        refine v_if_ge (tgt := 44) hX dX12_copy_35 (by decide) (fun c15 => ?_) (fun c15 => ?_)
        · have h := h_T c15 h
          refine v_aload_n hX dX12_copy_44 0 rfl rfl ?_
          refine v_getR hX dX12_copy_45 f_RX12_261 rfl k7 ?_
          refine v_iload_n hX dX12_copy_48 1 rfl rfl ?_
          obtain ⟨a16, e_a16, h⟩ := h
          refine v_nn1 e_a16 ?_
          obtain ⟨k17, h⟩ := h
          obtain ⟨i18, h⟩ := h
          refine v_iald hX dX12_copy_49 k17 i18 ?_
          refine v_aload_n hX dX12_copy_50 0 rfl rfl ?_
          refine v_getR hX dX12_copy_51 f_RX12_261 rfl k7 ?_
          refine v_iload_n hX dX12_copy_54 3 rfl rfl ?_
          obtain ⟨a19, e_a19, h⟩ := h
          refine v_nn1 e_a19 ?_
          obtain ⟨k20, h⟩ := h
          obtain ⟨i21, h⟩ := h
          refine v_iald hX dX12_copy_55 k20 i21 ?_
          refine v_icmp_eq (tgt := 65) hX dX12_copy_56 (by decide) (fun c22 => ?_) (fun c22 => ?_)
          · have h := h_T c22 h
            refine v_iload_n hX dX12_copy_65 2 rfl rfl ?_
            refine v_iload hX dX12_copy_66 5 rfl ?_
            refine v_i2l hX dX12_copy_68 ?_
            refine v_aload_n hX dX12_copy_69 0 rfl rfl ?_
            refine v_getR hX dX12_copy_70 f_RX12_258 rfl k7 ?_
            refine v_iload_n hX dX12_copy_73 1 rfl rfl ?_
            obtain ⟨a23, e_a23, h⟩ := h
            refine v_nn1 e_a23 ?_
            obtain ⟨k24, h⟩ := h
            obtain ⟨i25, h⟩ := h
            refine v_iald hX dX12_copy_74 k24 i25 ?_
            refine v_callSi hX dX12_copy_75 c_RX12_411 cS_X12_isBeyond [pI _, pL _, pI _] rfl rfl (Nat.le_of_ble_eq_true rfl) (by decide) (by decide) (Nat.zero_le _) (Nat.zero_le _) (m_X12_isBeyond h) (fun r27 s26 h => ?_)
            refine v_if_ne (tgt := 98) hX dX12_copy_78 (by decide) (fun c28 => ?_) (fun c28 => ?_)
            · have h := h_E c28 h
              refine v_pick [0] rfl ?_
              exact b_X12_copy_98 hX hE _ h
            · have h := h_T c28 h
              refine v_iload hX dX12_copy_81 4 rfl ?_
              refine v_iload hX dX12_copy_83 5 rfl ?_
              refine v_i2l hX dX12_copy_85 ?_
              refine v_aload_n hX dX12_copy_86 0 rfl rfl ?_
              obtain ⟨k29, h⟩ := h
              refine v_getR hX dX12_copy_87 f_RX12_258 rfl k29 ?_
              refine v_iload_n hX dX12_copy_90 3 rfl rfl ?_
              obtain ⟨a30, e_a30, h⟩ := h
              refine v_nn1 e_a30 ?_
              obtain ⟨k31, h⟩ := h
              obtain ⟨i32, h⟩ := h
              refine v_iald hX dX12_copy_91 k31 i32 ?_
              refine v_callSi hX dX12_copy_92 c_RX12_411 cS_X12_isBeyond [pI _, pL _, pI _] rfl rfl (Nat.le_of_ble_eq_true rfl) (by decide) (by decide) (Nat.zero_le _) (Nat.zero_le _) (m_X12_isBeyond h) (fun r34 s33 h => ?_)
              refine v_if_eq (tgt := 104) hX dX12_copy_95 (by decide) (fun c35 => ?_) (fun c35 => ?_)
              · have h := h_T c35 h
                refine v_iconst (v := 0) hX dX12_copy_104 (by decide) ?_
                refine v_istore (lv' := [(6, _), (0, _), (1, _), (2, _), (3, _), (4, _), (5, _)]) hX dX12_copy_105 (by decide) rfl ?_
                refine v_pick [1, 2, 3, 4, 5, 6, 0] rfl ?_
                obtain ⟨n, h⟩ := h
                exact b_X12_copy_107 hX hE n _ _ _ _ _ _ _ _ h
              · have h := h_E c35 h
                refine v_pick [0] rfl ?_
                exact b_X12_copy_98 hX hE _ h
          · have h := h_E c22 h
            refine v_aload_n hX dX12_copy_59 0 rfl rfl ?_
            refine v_iconst (v := 2) hX dX12_copy_60 (by decide) ?_
            refine v_callVi hX dX12_copy_61 c_RX12_408 cV_X12_failed (ci := 13) (T := TX12) (N := 115) rfl (by exact k7) [pI _] rfl rfl (Nat.le_of_ble_eq_true rfl) (by decide) (by decide) (Nat.zero_le _) (Nat.zero_le _) (m_X12_failed h) (fun r37 s36 h => ?_)
            exact v_iret hX hE dX12_copy_64 h
        · have h := h_E c15 h
          refine v_pick [0] rfl ?_
          exact b_X12_copy_38 hX hE _ h
    · have h := h_E c6 h
      refine v_pick [0] rfl ?_
      exact b_X12_copy_14 hX hE _ h
set_option maxRecDepth 100000 in
set_option maxHeartbeats 4000000 in
theorem m_X12_traced {Z : h_Z} {o0 : Nat} {x1 : Int32} {s : h_S} {Q : h_S → Prop} (h : w_X12_traced o0 x1 s Q) : h_M Z yX12_traced cX12_traced 2 none 0 0 [pR (some o0), pI x1] s 0 0 (h_QV Z Q) := by
  refine h_M.of (by decide) (Nat.le_of_ble_eq_true rfl) (fun X hZ hX hE hI => ?_)
  subst hZ
  unfold w_X12_traced at h
  show h_V X 2 0 [(0, pR (some o0)), (1, pI x1)] [] s 0 0
  refine v_aload_n hX dX12_traced_0 0 rfl rfl ?_
  refine v_bipush (v := 31) hX dX12_traced_1 (by decide) ?_
  refine v_aload_n hX dX12_traced_3 0 rfl rfl ?_
  obtain ⟨k1, h⟩ := h
  refine v_getI hX dX12_traced_4 f_RX12_624 rfl k1 ?_
  refine v_imul hX dX12_traced_7 ?_
  refine v_iload_n hX dX12_traced_8 1 rfl rfl ?_
  refine v_iadd hX dX12_traced_9 ?_
  refine v_putI hX dX12_traced_10 f_RX12_624 k1 ?_
  exact v_vret hX hE dX12_traced_13 h
set_option maxRecDepth 100000 in
set_option maxHeartbeats 4000000 in
theorem b_X12_tell_149 {X : h_X} (hX : h_ok X cX12_tell 4 RX12 2 46) {Q : Int32 → h_S → Prop} (hE : h_end X (some .int) (h_QI (x_Z X) Q)) {y0 : Int32} (s : h_S) (h : w_X12_tell_149 Q y0 s) : h_V X 4 149 [] [pI y0] s 0 0 := by
  unfold w_X12_tell_149 at h
  exact v_iret hX hE dX12_tell_149 h
set_option maxRecDepth 100000 in
set_option maxHeartbeats 4000000 in
theorem b_X12_tell_82 {X : h_X} (hX : h_ok X cX12_tell 4 RX12 2 46) {Q : Int32 → h_S → Prop} (hE : h_end X (some .int) (h_QI (x_Z X) Q)) {o0 : Nat} {x1 : Int32} {x2 : Int32} (s : h_S) (h : w_X12_tell_82 Q o0 x1 x2 s) : h_V X 4 82 [(0, pR (some o0)), (1, pI x1), (2, pI x2)] [] s 0 0 := by
  unfold w_X12_tell_82 at h
  refine v_aload_n hX dX12_tell_82 0 rfl rfl ?_
  obtain ⟨k1, h⟩ := h
  refine v_getR hX dX12_tell_83 f_RX12_207 rfl k1 ?_
  refine v_iload_n hX dX12_tell_86 1 rfl rfl ?_
  obtain ⟨a2, e_a2, h⟩ := h
  refine v_nn1 e_a2 ?_
  obtain ⟨k3, h⟩ := h
  obtain ⟨i4, h⟩ := h
  refine v_iald hX dX12_tell_87 k3 i4 ?_
  refine v_istore_n (lv' := [(3, _), (0, _), (1, _), (2, _)]) hX dX12_tell_88 rfl (by decide) rfl ?_
  refine v_iload_n hX dX12_tell_89 3 rfl rfl ?_
  refine v_if_ne (tgt := 97) hX dX12_tell_90 (by decide) (fun c5 => ?_) (fun c5 => ?_)
  · have h := h_E c5 h
    refine v_iload_n hX dX12_tell_97 3 rfl rfl ?_
    refine v_iconst (v := 1) hX dX12_tell_98 (by decide) ?_
    refine v_icmp_ne (tgt := 113) hX dX12_tell_99 (by decide) (fun c6 => ?_) (fun c6 => ?_)
    · have h := h_E c6 h
      refine v_iload_n hX dX12_tell_113 3 rfl rfl ?_
      refine v_iconst (v := 2) hX dX12_tell_114 (by decide) ?_
      refine v_icmp_ne (tgt := 131) hX dX12_tell_115 (by decide) (fun c7 => ?_) (fun c7 => ?_)
      · have h := h_E c7 h
        refine v_iload_n hX dX12_tell_131 3 rfl rfl ?_
        refine v_iconst (v := 3) hX dX12_tell_132 (by decide) ?_
        refine v_icmp_ne (tgt := 143) hX dX12_tell_133 (by decide) (fun c8 => ?_) (fun c8 => ?_)
        · have h := h_E c8 h
          refine v_iconst (v := 2) hX dX12_tell_143 (by decide) ?_
          refine v_iload_n hX dX12_tell_144 0 rfl rfl ?_
          refine v_imul hX dX12_tell_145 ?_
          refine v_bipush (v := 100) hX dX12_tell_146 (by decide) ?_
          refine v_iadd hX dX12_tell_148 ?_
          refine v_pick [] rfl ?_
          exact b_X12_tell_149 hX hE _ h
        · have h := h_T c8 h
          refine v_iload_n hX dX12_tell_136 0 rfl rfl ?_
          refine v_bipush (v := 100) hX dX12_tell_137 (by decide) ?_
          refine v_iadd hX dX12_tell_139 ?_
          refine v_goto (tgt := 149) hX dX12_tell_140 (by decide) ?_
          refine v_pick [] rfl ?_
          exact b_X12_tell_149 hX hE _ h
      · have h := h_T c7 h
        refine v_iconst (v := 2) hX dX12_tell_118 (by decide) ?_
        refine v_iload_n hX dX12_tell_119 0 rfl rfl ?_
        refine v_imul hX dX12_tell_120 ?_
        refine v_aload_n hX dX12_tell_121 1 rfl rfl ?_
        refine v_getR hX dX12_tell_122 f_RX12_213 rfl k1 ?_
        refine v_iload_n hX dX12_tell_125 2 rfl rfl ?_
        obtain ⟨a9, e_a9, h⟩ := h
        refine v_nn1 e_a9 ?_
        obtain ⟨k10, h⟩ := h
        obtain ⟨i11, h⟩ := h
        refine v_iald hX dX12_tell_126 k10 i11 ?_
        refine v_iadd hX dX12_tell_127 ?_
        refine v_goto (tgt := 149) hX dX12_tell_128 (by decide) ?_
        refine v_pick [] rfl ?_
        exact b_X12_tell_149 hX hE _ h
    · have h := h_T c6 h
      refine v_iload_n hX dX12_tell_102 0 rfl rfl ?_
      refine v_aload_n hX dX12_tell_103 1 rfl rfl ?_
      refine v_getR hX dX12_tell_104 f_RX12_213 rfl k1 ?_
      refine v_iload_n hX dX12_tell_107 2 rfl rfl ?_
      obtain ⟨a12, e_a12, h⟩ := h
      refine v_nn1 e_a12 ?_
      obtain ⟨k13, h⟩ := h
      obtain ⟨i14, h⟩ := h
      refine v_iald hX dX12_tell_108 k13 i14 ?_
      refine v_iadd hX dX12_tell_109 ?_
      refine v_goto (tgt := 149) hX dX12_tell_110 (by decide) ?_
      refine v_pick [] rfl ?_
      exact b_X12_tell_149 hX hE _ h
  · have h := h_T c5 h
    refine v_iload_n hX dX12_tell_93 0 rfl rfl ?_
    refine v_goto (tgt := 149) hX dX12_tell_94 (by decide) ?_
    refine v_pick [] rfl ?_
    exact b_X12_tell_149 hX hE _ h
set_option maxRecDepth 100000 in
set_option maxHeartbeats 4000000 in
theorem b_X12_tell_77 {X : h_X} (hX : h_ok X cX12_tell 4 RX12 2 46) {Q : Int32 → h_S → Prop} (hE : h_end X (some .int) (h_QI (x_Z X) Q)) {o0 : Nat} {x1 : Int32} {x2 : Int32} (s : h_S) (h : w_X12_tell_77 Q o0 x1 x2 s) : h_V X 4 77 [(0, pR (some o0)), (1, pI x1), (2, pI x2)] [] s 0 0 := by
  unfold w_X12_tell_77 at h
  refine v_aload_n hX dX12_tell_77 0 rfl rfl ?_
  refine v_iconst (v := 1) hX dX12_tell_78 (by decide) ?_
  obtain ⟨k1, h⟩ := h
  refine v_callVv hX dX12_tell_79 c_RX12_627 cV_X12_traced (ci := 13) (T := TX12) (N := 115) rfl (by exact k1) [pI _] rfl rfl (Nat.le_of_ble_eq_true rfl) (by decide) (by decide) (Nat.zero_le _) (Nat.zero_le _) (m_X12_traced h) (fun s2 h => ?_)
  refine v_pick [0, 1, 2] rfl ?_
  exact b_X12_tell_82 hX hE _ h
set_option maxRecDepth 100000 in
set_option maxHeartbeats 4000000 in
theorem b_X12_tell_62 {X : h_X} (hX : h_ok X cX12_tell 4 RX12 2 46) {Q : Int32 → h_S → Prop} (hE : h_end X (some .int) (h_QI (x_Z X) Q)) {o0 : Nat} {x1 : Int32} {x2 : Int32} (s : h_S) (h : w_X12_tell_62 Q o0 x1 x2 s) : h_V X 4 62 [(0, pR (some o0)), (1, pI x1), (2, pI x2)] [] s 0 0 := by
  unfold w_X12_tell_62 at h
  refine v_aload_n hX dX12_tell_62 0 rfl rfl ?_
  refine v_iconst (v := 1) hX dX12_tell_63 (by decide) ?_
  obtain ⟨k1, h⟩ := h
  refine v_callVv hX dX12_tell_64 c_RX12_627 cV_X12_traced (ci := 13) (T := TX12) (N := 115) rfl (by exact k1) [pI _] rfl rfl (Nat.le_of_ble_eq_true rfl) (by decide) (by decide) (Nat.zero_le _) (Nat.zero_le _) (m_X12_traced h) (fun s2 h => ?_)
  refine v_iload_n hX dX12_tell_67 2 rfl rfl ?_
  refine v_iconst (v := 2) hX dX12_tell_68 (by decide) ?_
  refine v_icmp_eq (tgt := 77) hX dX12_tell_69 (by decide) (fun c4 => ?_) (fun c4 => ?_)
  · have h := h_T c4 h
    refine v_pick [0, 1, 2] rfl ?_
    exact b_X12_tell_77 hX hE _ h
  · have h := h_E c4 h
    refine v_iload_n hX dX12_tell_72 2 rfl rfl ?_
    refine v_iconst (v := 4) hX dX12_tell_73 (by decide) ?_
    refine v_icmp_ne (tgt := 82) hX dX12_tell_74 (by decide) (fun c5 => ?_) (fun c5 => ?_)
    · have h := h_E c5 h
      refine v_pick [0, 1, 2] rfl ?_
      exact b_X12_tell_82 hX hE _ h
    · have h := h_T c5 h
      refine v_pick [0, 1, 2] rfl ?_
      exact b_X12_tell_77 hX hE _ h
set_option maxRecDepth 100000 in
set_option maxHeartbeats 4000000 in
theorem b_X12_tell_52 {X : h_X} (hX : h_ok X cX12_tell 4 RX12 2 46) {Q : Int32 → h_S → Prop} (hE : h_end X (some .int) (h_QI (x_Z X) Q)) {o0 : Nat} {x1 : Int32} {x2 : Int32} (s : h_S) (h : w_X12_tell_52 Q o0 x1 x2 s) : h_V X 4 52 [(0, pR (some o0)), (1, pI x1), (2, pI x2)] [] s 0 0 := by
  unfold w_X12_tell_52 at h
  refine v_iload_n hX dX12_tell_52 2 rfl rfl ?_
  refine v_iconst (v := 2) hX dX12_tell_53 (by decide) ?_
  refine v_icmp_le (tgt := 62) hX dX12_tell_54 (by decide) (fun c1 => ?_) (fun c1 => ?_)
  · have h := h_T c1 h
    refine v_pick [0, 1, 2] rfl ?_
    exact b_X12_tell_62 hX hE _ h
  · have h := h_E c1 h
    refine v_aload_n hX dX12_tell_57 0 rfl rfl ?_
    refine v_iconst (v := 4) hX dX12_tell_58 (by decide) ?_
    obtain ⟨k2, h⟩ := h
    refine v_callVv hX dX12_tell_59 c_RX12_627 cV_X12_traced (ci := 13) (T := TX12) (N := 115) rfl (by exact k2) [pI _] rfl rfl (Nat.le_of_ble_eq_true rfl) (by decide) (by decide) (Nat.zero_le _) (Nat.zero_le _) (m_X12_traced h) (fun s3 h => ?_)
    refine v_pick [0, 1, 2] rfl ?_
    exact b_X12_tell_62 hX hE _ h
set_option maxRecDepth 100000 in
set_option maxHeartbeats 4000000 in
theorem b_X12_tell_42 {X : h_X} (hX : h_ok X cX12_tell 4 RX12 2 46) {Q : Int32 → h_S → Prop} (hE : h_end X (some .int) (h_QI (x_Z X) Q)) {o0 : Nat} {x1 : Int32} {x2 : Int32} (s : h_S) (h : w_X12_tell_42 Q o0 x1 x2 s) : h_V X 4 42 [(0, pR (some o0)), (1, pI x1), (2, pI x2)] [] s 0 0 := by
  unfold w_X12_tell_42 at h
  refine v_iload_n hX dX12_tell_42 2 rfl rfl ?_
  refine v_iconst (v := 4) hX dX12_tell_43 (by decide) ?_
  refine v_icmp_ne (tgt := 52) hX dX12_tell_44 (by decide) (fun c1 => ?_) (fun c1 => ?_)
  · have h := h_E c1 h
    refine v_pick [0, 1, 2] rfl ?_
    exact b_X12_tell_52 hX hE _ h
  · have h := h_T c1 h
    refine v_aload_n hX dX12_tell_47 0 rfl rfl ?_
    refine v_iconst (v := 5) hX dX12_tell_48 (by decide) ?_
    obtain ⟨k2, h⟩ := h
    refine v_callVv hX dX12_tell_49 c_RX12_627 cV_X12_traced (ci := 13) (T := TX12) (N := 115) rfl (by exact k2) [pI _] rfl rfl (Nat.le_of_ble_eq_true rfl) (by decide) (by decide) (Nat.zero_le _) (Nat.zero_le _) (m_X12_traced h) (fun s3 h => ?_)
    refine v_pick [0, 1, 2] rfl ?_
    exact b_X12_tell_52 hX hE _ h
set_option maxRecDepth 100000 in
set_option maxHeartbeats 4000000 in
theorem b_X12_tell_37 {X : h_X} (hX : h_ok X cX12_tell 4 RX12 2 46) {Q : Int32 → h_S → Prop} (hE : h_end X (some .int) (h_QI (x_Z X) Q)) {o0 : Nat} {x1 : Int32} {x2 : Int32} (s : h_S) (h : w_X12_tell_37 Q o0 x1 x2 s) : h_V X 4 37 [(0, pR (some o0)), (1, pI x1), (2, pI x2)] [] s 0 0 := by
  unfold w_X12_tell_37 at h
  refine v_aload_n hX dX12_tell_37 0 rfl rfl ?_
  refine v_iconst (v := 2) hX dX12_tell_38 (by decide) ?_
  obtain ⟨k1, h⟩ := h
  refine v_callVv hX dX12_tell_39 c_RX12_627 cV_X12_traced (ci := 13) (T := TX12) (N := 115) rfl (by exact k1) [pI _] rfl rfl (Nat.le_of_ble_eq_true rfl) (by decide) (by decide) (Nat.zero_le _) (Nat.zero_le _) (m_X12_traced h) (fun s2 h => ?_)
  refine v_pick [0, 1, 2] rfl ?_
  exact b_X12_tell_42 hX hE _ h
set_option maxRecDepth 100000 in
set_option maxHeartbeats 4000000 in
theorem b_X12_tell_27 {X : h_X} (hX : h_ok X cX12_tell 4 RX12 2 46) {Q : Int32 → h_S → Prop} (hE : h_end X (some .int) (h_QI (x_Z X) Q)) {o0 : Nat} {x1 : Int32} {x2 : Int32} (s : h_S) (h : w_X12_tell_27 Q o0 x1 x2 s) : h_V X 4 27 [(0, pR (some o0)), (1, pI x1), (2, pI x2)] [] s 0 0 := by
  unfold w_X12_tell_27 at h
  refine v_iload_n hX dX12_tell_27 2 rfl rfl ?_
  refine v_iconst (v := 1) hX dX12_tell_28 (by decide) ?_
  refine v_icmp_eq (tgt := 37) hX dX12_tell_29 (by decide) (fun c1 => ?_) (fun c1 => ?_)
  · have h := h_T c1 h
    refine v_pick [0, 1, 2] rfl ?_
    exact b_X12_tell_37 hX hE _ h
  · have h := h_E c1 h
    refine v_iload_n hX dX12_tell_32 2 rfl rfl ?_
    refine v_iconst (v := 2) hX dX12_tell_33 (by decide) ?_
    refine v_icmp_ne (tgt := 42) hX dX12_tell_34 (by decide) (fun c2 => ?_) (fun c2 => ?_)
    · have h := h_E c2 h
      refine v_pick [0, 1, 2] rfl ?_
      exact b_X12_tell_42 hX hE _ h
    · have h := h_T c2 h
      refine v_pick [0, 1, 2] rfl ?_
      exact b_X12_tell_37 hX hE _ h
set_option maxRecDepth 100000 in
set_option maxHeartbeats 4000000 in
theorem m_X12_tell {Z : h_Z} {o0 : Nat} {x1 : Int32} {s : h_S} {Q : Int32 → h_S → Prop} (h : w_X12_tell o0 x1 s Q) : h_M Z yX12_tell cX12_tell 4 (some .int) 2 46 [pR (some o0), pI x1] s 0 0 (h_QI Z Q) := by
  refine h_M.of (by decide) (Nat.le_of_ble_eq_true rfl) (fun X hZ hX hE hI => ?_)
  subst hZ
  unfold w_X12_tell at h
  show h_V X 4 0 [(0, pR (some o0)), (1, pI x1)] [] s 0 0
  refine v_aload_n hX dX12_tell_0 0 rfl rfl ?_
  refine v_iload_n hX dX12_tell_1 1 rfl rfl ?_
  obtain ⟨k1, h⟩ := h
  refine v_callVi hX dX12_tell_2 c_RX12_521 cV_X12_noLink (ci := 13) (T := TX12) (N := 115) rfl (by exact k1) [pI _] rfl rfl (Nat.le_of_ble_eq_true rfl) (by decide) (by decide) (Nat.zero_le _) (Nat.zero_le _) (m_X12_noLink h) (fun r3 s2 h => ?_)
  refine v_if_eq (tgt := 10) hX dX12_tell_5 (by decide) (fun c4 => ?_) (fun c4 => ?_)
  · have h := h_T c4 h
    refine v_aload_n hX dX12_tell_10 0 rfl rfl ?_
    obtain ⟨k5, h⟩ := h
    refine v_getR hX dX12_tell_11 f_RX12_201 rfl k5 ?_
    refine v_iload_n hX dX12_tell_14 1 rfl rfl ?_
    obtain ⟨a6, e_a6, h⟩ := h
    refine v_nn1 e_a6 ?_
    obtain ⟨k7, h⟩ := h
    obtain ⟨i8, h⟩ := h
    refine v_iald hX dX12_tell_15 k7 i8 ?_
    refine v_istore_n (lv' := [(2, _), (0, _), (1, _)]) hX dX12_tell_16 rfl (by decide) rfl ?_
    refine v_iload_n hX dX12_tell_17 0 rfl rfl ?_
    refine v_iconst (v := 2) hX dX12_tell_18 (by decide) ?_
    refine v_icmp_ne (tgt := 27) hX dX12_tell_19 (by decide) (fun c9 => ?_) (fun c9 => ?_)
    · have h := h_E c9 h
      refine v_pick [1, 2, 0] rfl ?_
      exact b_X12_tell_27 hX hE _ h
    · have h := h_T c9 h
      refine v_aload_n hX dX12_tell_22 1 rfl rfl ?_
      refine v_iconst (v := 3) hX dX12_tell_23 (by decide) ?_
      refine v_callVv hX dX12_tell_24 c_RX12_627 cV_X12_traced (ci := 13) (T := TX12) (N := 115) rfl (by exact k5) [pI _] rfl rfl (Nat.le_of_ble_eq_true rfl) (by decide) (by decide) (Nat.zero_le _) (Nat.zero_le _) (m_X12_traced h) (fun s10 h => ?_)
      refine v_pick [1, 2, 0] rfl ?_
      exact b_X12_tell_27 hX hE _ h
  · have h := h_E c4 h
    refine v_iconst (v := -1) hX dX12_tell_8 (by decide) ?_
    exact v_iret hX hE dX12_tell_9 h
set_option maxRecDepth 100000 in
set_option maxHeartbeats 4000000 in
theorem b_X12_name_47 {X : h_X} (hX : h_ok X cX12_name 2 RX12 2 46) {Q : Int32 → h_S → Prop} (hE : h_end X (some .int) (h_QI (x_Z X) Q)) {y0 : Int32} (s : h_S) (h : w_X12_name_47 Q y0 s) : h_V X 2 47 [] [pI y0] s 0 0 := by
  unfold w_X12_name_47 at h
  exact v_iret hX hE dX12_name_47 h
set_option maxRecDepth 100000 in
set_option maxHeartbeats 4000000 in
theorem b_X12_name_28 {X : h_X} (hX : h_ok X cX12_name 2 RX12 2 46) {Q : Int32 → h_S → Prop} (hE : h_end X (some .int) (h_QI (x_Z X) Q)) {o0 : Nat} {x1 : Int32} {y0 : Int32} {u1 : Nat} (s : h_S) (h : w_X12_name_28 Q o0 x1 y0 u1 s) : h_V X 2 28 [(0, pR (some o0)), (1, pI x1)] [pI y0, pR (some u1)] s 0 0 := by
  unfold w_X12_name_28 at h
  obtain ⟨k1, h⟩ := h
  refine v_callVv hX dX12_name_28 c_RX12_627 cV_X12_traced (ci := 13) (T := TX12) (N := 115) rfl (by exact k1) [pI _] rfl rfl (Nat.le_of_ble_eq_true rfl) (by decide) (by decide) (Nat.zero_le _) (Nat.zero_le _) (m_X12_traced h) (fun s2 h => ?_)
  refine v_aload_n hX dX12_name_31 0 rfl rfl ?_
  obtain ⟨k4, h⟩ := h
  refine v_getR hX dX12_name_32 f_RX12_201 rfl k4 ?_
  refine v_iload_n hX dX12_name_35 1 rfl rfl ?_
  obtain ⟨a5, e_a5, h⟩ := h
  refine v_nn1 e_a5 ?_
  obtain ⟨k6, h⟩ := h
  obtain ⟨i7, h⟩ := h
  refine v_iald hX dX12_name_36 k6 i7 ?_
  refine v_iconst (v := 4) hX dX12_name_37 (by decide) ?_
  refine v_icmp_ne (tgt := 46) hX dX12_name_38 (by decide) (fun c8 => ?_) (fun c8 => ?_)
  · have h := h_E c8 h
    refine v_iload_n hX dX12_name_46 1 rfl rfl ?_
    refine v_pick [] rfl ?_
    exact b_X12_name_47 hX hE _ h
  · have h := h_T c8 h
    refine v_bipush (v := 40) hX dX12_name_41 (by decide) ?_
    refine v_goto (tgt := 47) hX dX12_name_43 (by decide) ?_
    refine v_pick [] rfl ?_
    exact b_X12_name_47 hX hE _ h
set_option maxRecDepth 100000 in
set_option maxHeartbeats 4000000 in
theorem m_X12_name {Z : h_Z} {o0 : Nat} {x1 : Int32} {s : h_S} {Q : Int32 → h_S → Prop} (h : w_X12_name o0 x1 s Q) : h_M Z yX12_name cX12_name 2 (some .int) 2 46 [pR (some o0), pI x1] s 0 0 (h_QI Z Q) := by
  refine h_M.of (by decide) (Nat.le_of_ble_eq_true rfl) (fun X hZ hX hE hI => ?_)
  subst hZ
  unfold w_X12_name at h
  show h_V X 2 0 [(0, pR (some o0)), (1, pI x1)] [] s 0 0
  refine v_aload_n hX dX12_name_0 0 rfl rfl ?_
  refine v_iload_n hX dX12_name_1 1 rfl rfl ?_
  obtain ⟨k1, h⟩ := h
  refine v_callVi hX dX12_name_2 c_RX12_521 cV_X12_noLink (ci := 13) (T := TX12) (N := 115) rfl (by exact k1) [pI _] rfl rfl (Nat.le_of_ble_eq_true rfl) (by decide) (by decide) (Nat.zero_le _) (Nat.zero_le _) (m_X12_noLink h) (fun r3 s2 h => ?_)
  refine v_if_eq (tgt := 10) hX dX12_name_5 (by decide) (fun c4 => ?_) (fun c4 => ?_)
  · have h := h_T c4 h
    refine v_aload_n hX dX12_name_10 0 rfl rfl ?_
    refine v_aload_n hX dX12_name_11 0 rfl rfl ?_
    obtain ⟨k5, h⟩ := h
    refine v_getR hX dX12_name_12 f_RX12_201 rfl k5 ?_
    refine v_iload_n hX dX12_name_15 1 rfl rfl ?_
    obtain ⟨a6, e_a6, h⟩ := h
    refine v_nn1 e_a6 ?_
    obtain ⟨k7, h⟩ := h
    obtain ⟨i8, h⟩ := h
    refine v_iald hX dX12_name_16 k7 i8 ?_
    refine v_iconst (v := 4) hX dX12_name_17 (by decide) ?_
    refine v_icmp_ne (tgt := 26) hX dX12_name_18 (by decide) (fun c9 => ?_) (fun c9 => ?_)
    · have h := h_E c9 h
      refine v_bipush (v := 6) hX dX12_name_26 (by decide) ?_
      refine v_pick [0, 1] rfl ?_
      exact b_X12_name_28 hX hE _ h
    · have h := h_T c9 h
      refine v_bipush (v := 7) hX dX12_name_21 (by decide) ?_
      refine v_goto (tgt := 28) hX dX12_name_23 (by decide) ?_
      refine v_pick [0, 1] rfl ?_
      exact b_X12_name_28 hX hE _ h
  · have h := h_E c4 h
    refine v_iconst (v := -1) hX dX12_name_8 (by decide) ?_
    exact v_iret hX hE dX12_name_9 h
set_option maxRecDepth 100000 in
set_option maxHeartbeats 4000000 in
theorem b_X12_as_94 {X : h_X} (hX : h_ok X cX12_as 5 RX12 2 46) {Q : Int32 → h_S → Prop} (hE : h_end X (some .int) (h_QI (x_Z X) Q)) {y0 : Int32} (s : h_S) (h : w_X12_as_94 Q y0 s) : h_V X 5 94 [] [pI y0] s 0 0 := by
  unfold w_X12_as_94 at h
  exact v_iret hX hE dX12_as_94 h
set_option maxRecDepth 100000 in
set_option maxHeartbeats 4000000 in
theorem b_X12_as_74 {X : h_X} (hX : h_ok X cX12_as 5 RX12 2 46) {Q : Int32 → h_S → Prop} (hE : h_end X (some .int) (h_QI (x_Z X) Q)) {o0 : Nat} {y0 : Int32} (s : h_S) (h : w_X12_as_74 Q o0 y0 s) : h_V X 5 74 [(0, pR (some o0))] [pI y0] s 0 0 := by
  unfold w_X12_as_74 at h
  refine v_istore (lv' := [(4, _), (0, _)]) hX dX12_as_74 (by decide) rfl ?_
  refine v_iload hX dX12_as_76 0 rfl ?_
  refine v_if_eq (tgt := 89) hX dX12_as_78 (by decide) (fun c1 => ?_) (fun c1 => ?_)
  · have h := h_T c1 h
    refine v_aload_n hX dX12_as_89 1 rfl rfl ?_
    refine v_iconst (v := 2) hX dX12_as_90 (by decide) ?_
    obtain ⟨k2, h⟩ := h
    refine v_callVi hX dX12_as_91 c_RX12_408 cV_X12_failed (ci := 13) (T := TX12) (N := 115) rfl (by exact k2) [pI _] rfl rfl (Nat.le_of_ble_eq_true rfl) (by decide) (by decide) (Nat.zero_le _) (Nat.zero_le _) (m_X12_failed h) (fun r4 s3 h => ?_)
    refine v_pick [] rfl ?_
    exact b_X12_as_94 hX hE _ h
  · have h := h_E c1 h
    refine v_aload_n hX dX12_as_81 1 rfl rfl ?_
    refine v_iconst (v := 1) hX dX12_as_82 (by decide) ?_
    obtain ⟨k5, h⟩ := h
    refine v_callVi hX dX12_as_83 c_RX12_389 cV_X12_refused (ci := 13) (T := TX12) (N := 115) rfl (by exact k5) [pI _] rfl rfl (Nat.le_of_ble_eq_true rfl) (by decide) (by decide) (Nat.zero_le _) (Nat.zero_le _) (m_X12_refused h) (fun r7 s6 h => ?_)
    refine v_goto (tgt := 94) hX dX12_as_86 (by decide) ?_
    refine v_pick [] rfl ?_
    exact b_X12_as_94 hX hE _ h
set_option maxRecDepth 100000 in
set_option maxHeartbeats 4000000 in
theorem b_X12_as_69 {X : h_X} (hX : h_ok X cX12_as 5 RX12 2 46) {Q : Int32 → h_S → Prop} (hE : h_end X (some .int) (h_QI (x_Z X) Q)) {o0 : Nat} (s : h_S) (h : w_X12_as_69 Q o0 s) : h_V X 5 69 [(0, pR (some o0))] [] s 0 0 := by
  unfold w_X12_as_69 at h
  refine v_iconst (v := 1) hX dX12_as_69 (by decide) ?_
  refine v_goto (tgt := 74) hX dX12_as_70 (by decide) ?_
  refine v_pick [0] rfl ?_
  exact b_X12_as_74 hX hE _ h
set_option maxRecDepth 100000 in
set_option maxHeartbeats 4000000 in
theorem b_X12_as_73 {X : h_X} (hX : h_ok X cX12_as 5 RX12 2 46) {Q : Int32 → h_S → Prop} (hE : h_end X (some .int) (h_QI (x_Z X) Q)) {o0 : Nat} (s : h_S) (h : w_X12_as_73 Q o0 s) : h_V X 5 73 [(0, pR (some o0))] [] s 0 0 := by
  unfold w_X12_as_73 at h
  refine v_iconst (v := 0) hX dX12_as_73 (by decide) ?_
  refine v_pick [0] rfl ?_
  exact b_X12_as_74 hX hE _ h
set_option maxRecDepth 100000 in
set_option maxHeartbeats 4000000 in
theorem b_X12_as_59 {X : h_X} (hX : h_ok X cX12_as 5 RX12 2 46) {Q : Int32 → h_S → Prop} (hE : h_end X (some .int) (h_QI (x_Z X) Q)) {o0 : Nat} {x2 : Int32} {x3 : Int32} (s : h_S) (h : w_X12_as_59 Q o0 x2 x3 s) : h_V X 5 59 [(0, pR (some o0)), (2, pI x2), (3, pI x3)] [] s 0 0 := by
  unfold w_X12_as_59 at h
  refine v_iload_n hX dX12_as_59 1 rfl rfl ?_
  refine v_iconst (v := 3) hX dX12_as_60 (by decide) ?_
  refine v_icmp_ne (tgt := 73) hX dX12_as_61 (by decide) (fun c1 => ?_) (fun c1 => ?_)
  · have h := h_E c1 h
    refine v_pick [0] rfl ?_
    exact b_X12_as_73 hX hE _ h
  · have h := h_T c1 h
    refine v_iload_n hX dX12_as_64 2 rfl rfl ?_
    refine v_iconst (v := 4) hX dX12_as_65 (by decide) ?_
    refine v_icmp_ne (tgt := 73) hX dX12_as_66 (by decide) (fun c2 => ?_) (fun c2 => ?_)
    · have h := h_E c2 h
      refine v_pick [0] rfl ?_
      exact b_X12_as_73 hX hE _ h
    · have h := h_T c2 h
      refine v_pick [0] rfl ?_
      exact b_X12_as_69 hX hE _ h
set_option maxRecDepth 100000 in
set_option maxHeartbeats 4000000 in
theorem m_X12_as {Z : h_Z} {o0 : Nat} {x1 : Int32} {x2 : Int32} {s : h_S} {Q : Int32 → h_S → Prop} (h : w_X12_as o0 x1 x2 s Q) : h_M Z yX12_as cX12_as 5 (some .int) 2 46 [pR (some o0), pI x1, pI x2] s 0 0 (h_QI Z Q) := by
  refine h_M.of (by decide) (Nat.le_of_ble_eq_true rfl) (fun X hZ hX hE hI => ?_)
  subst hZ
  unfold w_X12_as at h
  show h_V X 5 0 [(0, pR (some o0)), (1, pI x1), (2, pI x2)] [] s 0 0
  refine v_aload_n hX dX12_as_0 0 rfl rfl ?_
  refine v_iload_n hX dX12_as_1 1 rfl rfl ?_
  obtain ⟨k1, h⟩ := h
  refine v_callVi hX dX12_as_2 c_RX12_521 cV_X12_noLink (ci := 13) (T := TX12) (N := 115) rfl (by exact k1) [pI _] rfl rfl (Nat.le_of_ble_eq_true rfl) (by decide) (by decide) (Nat.zero_le _) (Nat.zero_le _) (m_X12_noLink h) (fun r3 s2 h => ?_)
  refine v_if_eq (tgt := 14) hX dX12_as_5 (by decide) (fun c4 => ?_) (fun c4 => ?_)
  · have h := h_T c4 h
    refine v_iload_n hX dX12_as_14 2 rfl rfl ?_
    refine v_i2l hX dX12_as_15 ?_
    refine v_lconst (v := 0) hX dX12_as_16 (by decide) ?_
    refine v_ldc2 hX dX12_as_17 k_RX12_516 ?_
    refine v_callSi hX dX12_as_20 c_RX12_298 cS_X12_in [pL _, pL _, pL _] rfl rfl (Nat.le_of_ble_eq_true rfl) (by decide) (by decide) (Nat.zero_le _) (Nat.zero_le _) (m_X12_in h) (fun r6 s5 h => ?_)
    refine v_if_ne (tgt := 33) hX dX12_as_23 (by decide) (fun c7 => ?_) (fun c7 => ?_)
    · have h := h_E c7 h
      refine v_aload_n hX dX12_as_33 0 rfl rfl ?_
      obtain ⟨k8, h⟩ := h
      refine v_getR hX dX12_as_34 f_RX12_201 rfl k8 ?_
      refine v_iload_n hX dX12_as_37 1 rfl rfl ?_
      obtain ⟨a9, e_a9, h⟩ := h
      refine v_nn1 e_a9 ?_
      obtain ⟨k10, h⟩ := h
      obtain ⟨i11, h⟩ := h
      refine v_iald hX dX12_as_38 k10 i11 ?_
      refine v_istore_n (lv' := [(3, _), (0, _), (1, _), (2, _)]) hX dX12_as_39 rfl (by decide) rfl ?_
      refine v_iload_n hX dX12_as_40 3 rfl rfl ?_
      refine v_if_eq (tgt := 69) hX dX12_as_41 (by decide) (fun c12 => ?_) (fun c12 => ?_)
      · have h := h_T c12 h
        refine v_pick [1] rfl ?_
        exact b_X12_as_69 hX hE _ h
      · have h := h_E c12 h
        refine v_iload_n hX dX12_as_44 3 rfl rfl ?_
        refine v_iload_n hX dX12_as_45 0 rfl rfl ?_
        refine v_icmp_eq (tgt := 69) hX dX12_as_46 (by decide) (fun c13 => ?_) (fun c13 => ?_)
        · have h := h_T c13 h
          refine v_pick [1] rfl ?_
          exact b_X12_as_69 hX hE _ h
        · have h := h_E c13 h
          refine v_iload_n hX dX12_as_49 3 rfl rfl ?_
          refine v_iconst (v := 1) hX dX12_as_50 (by decide) ?_
          refine v_icmp_ne (tgt := 59) hX dX12_as_51 (by decide) (fun c14 => ?_) (fun c14 => ?_)
          · have h := h_E c14 h
            refine v_pick [1, 3, 0] rfl ?_
            exact b_X12_as_59 hX hE _ h
          · have h := h_T c14 h
            refine v_iload_n hX dX12_as_54 0 rfl rfl ?_
            refine v_iconst (v := 2) hX dX12_as_55 (by decide) ?_
            refine v_icmp_eq (tgt := 69) hX dX12_as_56 (by decide) (fun c15 => ?_) (fun c15 => ?_)
            · have h := h_T c15 h
              refine v_pick [1] rfl ?_
              exact b_X12_as_69 hX hE _ h
            · have h := h_E c15 h
              refine v_pick [1, 3, 0] rfl ?_
              exact b_X12_as_59 hX hE _ h
    · have h := h_T c7 h
      refine v_aload_n hX dX12_as_26 0 rfl rfl ?_
      refine v_bipush (v := -2) hX dX12_as_27 (by decide) ?_
      obtain ⟨k16, h⟩ := h
      refine v_callVi hX dX12_as_29 c_RX12_389 cV_X12_refused (ci := 13) (T := TX12) (N := 115) rfl (by exact k16) [pI _] rfl rfl (Nat.le_of_ble_eq_true rfl) (by decide) (by decide) (Nat.zero_le _) (Nat.zero_le _) (m_X12_refused h) (fun r18 s17 h => ?_)
      exact v_iret hX hE dX12_as_32 h
  · have h := h_E c4 h
    refine v_aload_n hX dX12_as_8 0 rfl rfl ?_
    refine v_iconst (v := -1) hX dX12_as_9 (by decide) ?_
    obtain ⟨k19, h⟩ := h
    refine v_callVi hX dX12_as_10 c_RX12_389 cV_X12_refused (ci := 13) (T := TX12) (N := 115) rfl (by exact k19) [pI _] rfl rfl (Nat.le_of_ble_eq_true rfl) (by decide) (by decide) (Nat.zero_le _) (Nat.zero_le _) (m_X12_refused h) (fun r21 s20 h => ?_)
    exact v_iret hX hE dX12_as_13 h
set_option maxRecDepth 100000 in
set_option maxHeartbeats 4000000 in
theorem m_X12_trace {Z : h_Z} {o0 : Nat} {s : h_S} {Q : Int32 → h_S → Prop} (h : w_X12_trace o0 s Q) : h_M Z yX12_trace cX12_trace 1 (some .int) 0 0 [pR (some o0)] s 0 0 (h_QI Z Q) := by
  refine h_M.of (by decide) (Nat.le_of_ble_eq_true rfl) (fun X hZ hX hE hI => ?_)
  subst hZ
  unfold w_X12_trace at h
  show h_V X 1 0 [(0, pR (some o0))] [] s 0 0
  refine v_aload_n hX dX12_trace_0 0 rfl rfl ?_
  obtain ⟨k1, h⟩ := h
  refine v_getI hX dX12_trace_1 f_RX12_624 rfl k1 ?_
  exact v_iret hX hE dX12_trace_4 h
set_option maxRecDepth 100000 in
set_option maxHeartbeats 4000000 in
theorem m_X12_fault {Z : h_Z} {o0 : Nat} {s : h_S} {Q : Int32 → h_S → Prop} (h : w_X12_fault o0 s Q) : h_M Z yX12_fault cX12_fault 1 (some .int) 0 0 [pR (some o0)] s 0 0 (h_QI Z Q) := by
  refine h_M.of (by decide) (Nat.le_of_ble_eq_true rfl) (fun X hZ hX hE hI => ?_)
  subst hZ
  unfold w_X12_fault at h
  show h_V X 1 0 [(0, pR (some o0))] [] s 0 0
  refine v_aload_n hX dX12_fault_0 0 rfl rfl ?_
  obtain ⟨k1, h⟩ := h
  refine v_getI hX dX12_fault_1 f_RX12_281 rfl k1 ?_
  exact v_iret hX hE dX12_fault_4 h
set_option maxRecDepth 100000 in
set_option maxHeartbeats 4000000 in
theorem m_X12_many {Z : h_Z} {o0 : Nat} {x1 : Int32} {s : h_S} {Q : Int32 → h_S → Prop} (h : w_X12_many o0 x1 s Q) : h_M Z yX12_many cX12_many 2 (some .int) 0 0 [pR (some o0), pI x1] s 0 0 (h_QI Z Q) := by
  refine h_M.of (by decide) (Nat.le_of_ble_eq_true rfl) (fun X hZ hX hE hI => ?_)
  subst hZ
  unfold w_X12_many at h
  show h_V X 2 0 [(0, pR (some o0)), (1, pI x1)] [] s 0 0
  refine v_iload_n hX dX12_many_0 1 rfl rfl ?_
  refine v_gen (fun q19 e_q19 => ?_)
  rw [← e_q19] at h
  by_cases c1 : q19 = (0 : Int32)
  · have h := h_T c1 h
    refine v_tabIn (tgt := 52) hX dX12_many_1 (by rw [c1]; decide) (by rw [c1]; decide) (by rw [c1]; rfl) (by decide) ?_
    refine v_aload_n hX dX12_many_52 0 rfl rfl ?_
    obtain ⟨k2, h⟩ := h
    refine v_getI hX dX12_many_53 f_RX12_288 rfl k2 ?_
    exact v_iret hX hE dX12_many_56 h
  · have h := h_E c1 h
    by_cases c3 : q19 = (1 : Int32)
    · have h := h_T c3 h
      refine v_tabIn (tgt := 57) hX dX12_many_1 (by rw [c3]; decide) (by rw [c3]; decide) (by rw [c3]; rfl) (by decide) ?_
      refine v_aload_n hX dX12_many_57 0 rfl rfl ?_
      obtain ⟨k4, h⟩ := h
      refine v_getI hX dX12_many_58 f_RX12_295 rfl k4 ?_
      exact v_iret hX hE dX12_many_61 h
    · have h := h_E c3 h
      by_cases c5 : q19 = (2 : Int32)
      · have h := h_T c5 h
        refine v_tabIn (tgt := 62) hX dX12_many_1 (by rw [c5]; decide) (by rw [c5]; decide) (by rw [c5]; rfl) (by decide) ?_
        refine v_aload_n hX dX12_many_62 0 rfl rfl ?_
        obtain ⟨k6, h⟩ := h
        refine v_getI hX dX12_many_63 f_RX12_314 rfl k6 ?_
        exact v_iret hX hE dX12_many_66 h
      · have h := h_E c5 h
        by_cases c7 : q19 = (3 : Int32)
        · have h := h_T c7 h
          refine v_tabIn (tgt := 67) hX dX12_many_1 (by rw [c7]; decide) (by rw [c7]; decide) (by rw [c7]; rfl) (by decide) ?_
          refine v_aload_n hX dX12_many_67 0 rfl rfl ?_
          obtain ⟨k8, h⟩ := h
          refine v_getI hX dX12_many_68 f_RX12_321 rfl k8 ?_
          exact v_iret hX hE dX12_many_71 h
        · have h := h_E c7 h
          by_cases c9 : q19 = (4 : Int32)
          · have h := h_T c9 h
            refine v_tabIn (tgt := 72) hX dX12_many_1 (by rw [c9]; decide) (by rw [c9]; decide) (by rw [c9]; rfl) (by decide) ?_
            refine v_aload_n hX dX12_many_72 0 rfl rfl ?_
            obtain ⟨k10, h⟩ := h
            refine v_getI hX dX12_many_73 f_RX12_455 rfl k10 ?_
            exact v_iret hX hE dX12_many_76 h
          · have h := h_E c9 h
            by_cases c11 : q19 = (5 : Int32)
            · have h := h_T c11 h
              refine v_tabIn (tgt := 77) hX dX12_many_1 (by rw [c11]; decide) (by rw [c11]; decide) (by rw [c11]; rfl) (by decide) ?_
              refine v_aload_n hX dX12_many_77 0 rfl rfl ?_
              obtain ⟨k12, h⟩ := h
              refine v_getI hX dX12_many_78 f_RX12_513 rfl k12 ?_
              exact v_iret hX hE dX12_many_81 h
            · have h := h_E c11 h
              by_cases c13 : q19 = (6 : Int32)
              · have h := h_T c13 h
                refine v_tabIn (tgt := 82) hX dX12_many_1 (by rw [c13]; decide) (by rw [c13]; decide) (by rw [c13]; rfl) (by decide) ?_
                refine v_aload_n hX dX12_many_82 0 rfl rfl ?_
                obtain ⟨k14, h⟩ := h
                refine v_getI hX dX12_many_83 f_RX12_537 rfl k14 ?_
                exact v_iret hX hE dX12_many_86 h
              · have h := h_E c13 h
                by_cases c15 : q19 = (7 : Int32)
                · have h := h_T c15 h
                  refine v_tabIn (tgt := 87) hX dX12_many_1 (by rw [c15]; decide) (by rw [c15]; decide) (by rw [c15]; rfl) (by decide) ?_
                  refine v_aload_n hX dX12_many_87 0 rfl rfl ?_
                  obtain ⟨k16, h⟩ := h
                  refine v_getI hX dX12_many_88 f_RX12_486 rfl k16 ?_
                  exact v_iret hX hE dX12_many_91 h
                · have h := h_E c15 h
                  by_cases c17 : q19 = (8 : Int32)
                  · have h := h_T c17 h
                    refine v_tabIn (tgt := 92) hX dX12_many_1 (by rw [c17]; decide) (by rw [c17]; decide) (by rw [c17]; rfl) (by decide) ?_
                    refine v_aload_n hX dX12_many_92 0 rfl rfl ?_
                    obtain ⟨k18, h⟩ := h
                    refine v_getI hX dX12_many_93 f_RX12_597 rfl k18 ?_
                    exact v_iret hX hE dX12_many_96 h
                  · have h := h_E c17 h
                    refine v_tabOut (tgt := 97) hX dX12_many_1 (by have := h_ti c1 (n := 0) rfl; have := h_ti c3 (n := 1) rfl; have := h_ti c5 (n := 2) rfl; have := h_ti c7 (n := 3) rfl; have := h_ti c9 (n := 4) rfl; have := h_ti c11 (n := 5) rfl; have := h_ti c13 (n := 6) rfl; have := h_ti c15 (n := 7) rfl; have := h_ti c17 (n := 8) rfl; omega) (by decide) ?_
                    refine v_bipush (v := -2) hX dX12_many_97 (by decide) ?_
                    exact v_iret hX hE dX12_many_99 h
