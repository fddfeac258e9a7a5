set_option maxRecDepth 100000 in
set_option maxHeartbeats 4000000 in
theorem b_X12_bound_4 {X : h_X} (hX : h_ok X cX12_bound 3 RX12 0 0) {Q : h_S → Prop} (hE : h_end X none (h_QV (x_Z X) Q)) : ∀ (n : Nat) (o0 : Nat) (x1 : Int32) (x2 : Int32) (s : h_S), w_X12_bound_4 Q n o0 x1 x2 s → h_V X 3 4 [(0, pR (some o0)), (1, pI x1), (2, pI x2)] [] s 0 0 := by
  intro n
  induction n with
  | zero => intro _ _ _ s h; exact h.elim
  | succ n hK4 =>
    intro o0 x1 x2 s h
    have h : w_X12_bound_4b Q (w_X12_bound_4 Q n) o0 x1 x2 s := h
    unfold w_X12_bound_4b at h
    refine v_iload_n hX dX12_bound_4 2 rfl rfl ?_
    refine v_aload_n hX dX12_bound_5 0 rfl rfl ?_
    obtain ⟨k1, h⟩ := h
    refine v_getI hX dX12_bound_6 f_RX12_345 rfl k1 ?_
    refine v_icmp_ge (tgt := 56) hX dX12_bound_9 (by decide) (fun c2 => ?_) (fun c2 => ?_)
    · have h := h_T c2 h
      exact v_vret hX hE dX12_bound_56 h
    · have h := h_E c2 h
      refine v_aload_n hX dX12_bound_12 0 rfl rfl ?_
      refine v_getR hX dX12_bound_13 f_RX12_118 rfl k1 ?_
      refine v_iload_n hX dX12_bound_16 2 rfl rfl ?_
      refine v_iload_n hX dX12_bound_17 1 rfl rfl ?_
      obtain ⟨a3, e_a3, h⟩ := h
      refine v_nn2 e_a3 ?_
      obtain ⟨k4, h⟩ := h
      obtain ⟨i5, h⟩ := h
      refine v_iast hX dX12_bound_18 k4 i5 ?_
      refine v_pick [0, 1, 2] rfl ?_
      obtain ⟨n, h⟩ := h
      exact b_X12_bound_19 hX hE hK4 n _ _ _ _ h
set_option maxRecDepth 100000 in
set_option maxHeartbeats 4000000 in
theorem m_X12_bound {Z : h_Z} {o0 : Nat} {s : h_S} {Q : h_S → Prop} (h : w_X12_bound o0 s Q) : h_M Z yX12_bound cX12_bound 3 none 0 0 [pR (some o0)] s 0 0 (h_QV Z Q) := by
  refine h_M.of (by decide) (Nat.le_of_ble_eq_true rfl) (fun X hZ hX hE hI => ?_)
  subst hZ
  unfold w_X12_bound at h
  show h_V X 3 0 [(0, pR (some o0))] [] s 0 0
  refine v_iconst (v := 0) hX dX12_bound_0 (by decide) ?_
  refine v_istore_n (lv' := [(1, _), (0, _)]) hX dX12_bound_1 rfl (by decide) rfl ?_
  refine v_iconst (v := 0) hX dX12_bound_2 (by decide) ?_
  refine v_istore_n (lv' := [(2, _), (1, _), (0, _)]) hX dX12_bound_3 rfl (by decide) rfl ?_
  refine v_pick [2, 1, 0] rfl ?_
  obtain ⟨n, h⟩ := h
  exact b_X12_bound_4 hX hE n _ _ _ _ h
set_option maxRecDepth 100000 in
set_option maxHeartbeats 4000000 in
theorem m_X12_open {Z : h_Z} {o0 : Nat} {x1 : Int32} {s : h_S} {Q : h_S → Prop} (h : w_X12_open o0 x1 s Q) : h_M Z yX12_open cX12_open 2 none 4 97 [pR (some o0), pI x1] s 0 0 (h_QV Z Q) := by
  refine h_M.of (by decide) (Nat.le_of_ble_eq_true rfl) (fun X hZ hX hE hI => ?_)
  subst hZ
  unfold w_X12_open at h
  show h_V X 2 0 [(0, pR (some o0)), (1, pI x1)] [] s 0 0
  refine v_aload_n hX dX12_open_0 0 rfl rfl ?_
  refine v_iload_n hX dX12_open_1 1 rfl rfl ?_
  refine v_aload_n hX dX12_open_2 0 rfl rfl ?_
  obtain ⟨k1, h⟩ := h
  refine v_getI hX dX12_open_3 f_RX12_288 rfl k1 ?_
  refine v_callVv0 hX dX12_open_6 c_RX12_352 cV_X12_lay (ci := 13) (T := TX12) (N := 115) rfl (by exact k1) [pI _, pI _] rfl rfl (Nat.le_of_ble_eq_true rfl) (by decide) (by decide)  (m_X12_lay h) (fun s2 h => ?_)
  refine v_aload_n hX dX12_open_9 0 rfl rfl ?_
  refine v_iload_n hX dX12_open_10 1 rfl rfl ?_
  refine v_aload_n hX dX12_open_11 0 rfl rfl ?_
  obtain ⟨k4, h⟩ := h
  refine v_getI hX dX12_open_12 f_RX12_288 rfl k4 ?_
  refine v_callVv0 hX dX12_open_15 c_RX12_355 cV_X12_load (ci := 13) (T := TX12) (N := 115) rfl (by exact k4) [pI _, pI _] rfl rfl (Nat.le_of_ble_eq_true rfl) (by decide) (by decide)  (m_X12_load h) (fun s5 h => ?_)
  refine v_aload_n hX dX12_open_18 0 rfl rfl ?_
  obtain ⟨k7, h⟩ := h
  refine v_callVv0 hX dX12_open_19 c_RX12_358 cV_X12_bound (ci := 13) (T := TX12) (N := 115) rfl (by exact k7) [] rfl rfl (Nat.le_of_ble_eq_true rfl) (by decide) (by decide)  (m_X12_bound h) (fun s8 h => ?_)
  exact v_vret hX hE dX12_open_22 h
set_option maxRecDepth 100000 in
set_option maxHeartbeats 4000000 in
theorem b_X12_widen_7 {X : h_X} (hX : h_ok X cX12_widen 4 RX12 1 26) {Q : h_S → Prop} (hE : h_end X none (h_QV (x_Z X) Q)) : ∀ (n : Nat) (o0 : Nat) (x1 : Int32) (x2 : Int32) (x3 : Int32) (s : h_S), w_X12_widen_7 Q n o0 x1 x2 x3 s → h_V X 4 7 [(0, pR (some o0)), (1, pI x1), (2, pI x2), (3, pI x3)] [] s 0 0 := by
  intro n
  induction n with
  | zero => intro _ _ _ _ s h; exact h.elim
  | succ n hK7 =>
    intro o0 x1 x2 x3 s h
    have h : w_X12_widen_7b Q (w_X12_widen_7 Q n) o0 x1 x2 x3 s := h
    unfold w_X12_widen_7b at h
    refine v_iload_n hX dX12_widen_7 3 rfl rfl ?_
    refine v_iload_n hX dX12_widen_8 1 rfl rfl ?_
    refine v_icmp_lt (tgt := 83) hX dX12_widen_9 (by decide) (fun c1 => ?_) (fun c1 => ?_)
    · have h := h_T c1 h
      refine v_aload_n hX dX12_widen_83 0 rfl rfl ?_
      refine v_dup hX dX12_widen_84 rfl ?_
      obtain ⟨k2, h⟩ := h
      refine v_getI hX dX12_widen_85 f_RX12_345 rfl k2 ?_
      refine v_iload_n hX dX12_widen_88 2 rfl rfl ?_
      refine v_iadd hX dX12_widen_89 ?_
      refine v_putI hX dX12_widen_90 f_RX12_345 k2 ?_
      exact v_vret hX hE dX12_widen_93 h
    · have h := h_E c1 h
      refine v_aload_n hX dX12_widen_12 0 rfl rfl ?_
      refine v_iload_n hX dX12_widen_13 3 rfl rfl ?_
      refine v_iload_n hX dX12_widen_14 2 rfl rfl ?_
      refine v_iadd hX dX12_widen_15 ?_
      refine v_aload_n hX dX12_widen_16 0 rfl rfl ?_
      obtain ⟨k4, h⟩ := h
      refine v_getR hX dX12_widen_17 f_RX12_103 rfl k4 ?_
      refine v_iload_n hX dX12_widen_20 3 rfl rfl ?_
      obtain ⟨a5, e_a5, h⟩ := h
      refine v_nn1 e_a5 ?_
      obtain ⟨k6, h⟩ := h
      obtain ⟨i7, h⟩ := h
      refine v_iald hX dX12_widen_21 k6 i7 ?_
      refine v_aload_n hX dX12_widen_22 0 rfl rfl ?_
      refine v_getR hX dX12_widen_23 f_RX12_106 rfl k4 ?_
      refine v_iload_n hX dX12_widen_26 3 rfl rfl ?_
      obtain ⟨a8, e_a8, h⟩ := h
      refine v_nn1 e_a8 ?_
      obtain ⟨k9, h⟩ := h
      obtain ⟨i10, h⟩ := h
      refine v_iald hX dX12_widen_27 k9 i10 ?_
      refine v_aload_n hX dX12_widen_28 0 rfl rfl ?_
      refine v_getR hX dX12_widen_29 f_RX12_109 rfl k4 ?_
      refine v_iload_n hX dX12_widen_32 3 rfl rfl ?_
      obtain ⟨a11, e_a11, h⟩ := h
      refine v_nn1 e_a11 ?_
      obtain ⟨k12, h⟩ := h
      obtain ⟨i13, h⟩ := h
      refine v_iald hX dX12_widen_33 k12 i13 ?_
      refine v_aload_n hX dX12_widen_34 0 rfl rfl ?_
      refine v_getR hX dX12_widen_35 f_RX12_112 rfl k4 ?_
      refine v_iload_n hX dX12_widen_38 3 rfl rfl ?_
      obtain ⟨a14, e_a14, h⟩ := h
      refine v_nn1 e_a14 ?_
      obtain ⟨k15, h⟩ := h
      obtain ⟨i16, h⟩ := h
      refine v_iald hX dX12_widen_39 k15 i16 ?_
      refine v_aload_n hX dX12_widen_40 0 rfl rfl ?_
      refine v_getR hX dX12_widen_41 f_RX12_115 rfl k4 ?_
      refine v_iload_n hX dX12_widen_44 3 rfl rfl ?_
      obtain ⟨a17, e_a17, h⟩ := h
      refine v_nn1 e_a17 ?_
      obtain ⟨k18, h⟩ := h
      obtain ⟨i19, h⟩ := h
      refine v_iald hX dX12_widen_45 k18 i19 ?_
      refine v_callVv0 hX dX12_widen_46 c_RX12_348 cV_X12_setPiece (ci := 13) (T := TX12) (N := 115) rfl (by exact k4) [pI _, pI _, pI _, pI _, pI _, pI _] rfl rfl (Nat.le_of_ble_eq_true rfl) (by decide) (by decide)  (m_X12_setPiece h) (fun s20 h => ?_)
      refine v_aload_n hX dX12_widen_49 0 rfl rfl ?_
      obtain ⟨k22, h⟩ := h
      refine v_getR hX dX12_widen_50 f_RX12_118 rfl k22 ?_
      refine v_iload_n hX dX12_widen_53 3 rfl rfl ?_
      refine v_iload_n hX dX12_widen_54 2 rfl rfl ?_
      refine v_iadd hX dX12_widen_55 ?_
      refine v_aload_n hX dX12_widen_56 0 rfl rfl ?_
      refine v_getR hX dX12_widen_57 f_RX12_118 rfl k22 ?_
      refine v_iload_n hX dX12_widen_60 3 rfl rfl ?_
      obtain ⟨a23, e_a23, h⟩ := h
      refine v_nn1 e_a23 ?_
      obtain ⟨k24, h⟩ := h
      obtain ⟨i25, h⟩ := h
      refine v_iald hX dX12_widen_61 k24 i25 ?_
      obtain ⟨a26, e_a26, h⟩ := h
      refine v_nn2 e_a26 ?_
      obtain ⟨k27, h⟩ := h
      obtain ⟨i28, h⟩ := h
      refine v_iast hX dX12_widen_62 k27 i28 ?_
      refine v_aload_n hX dX12_widen_63 0 rfl rfl ?_
      refine v_getR hX dX12_widen_64 f_RX12_121 rfl k22 ?_
      refine v_iload_n hX dX12_widen_67 3 rfl rfl ?_
      refine v_iload_n hX dX12_widen_68 2 rfl rfl ?_
      refine v_iadd hX dX12_widen_69 ?_
      refine v_aload_n hX dX12_widen_70 0 rfl rfl ?_
      refine v_getR hX dX12_widen_71 f_RX12_121 rfl k22 ?_
      refine v_iload_n hX dX12_widen_74 3 rfl rfl ?_
      obtain ⟨a30, e_a30, h⟩ := h
      refine v_nn1 e_a30 ?_
      obtain ⟨k31, h⟩ := h
      obtain ⟨i32, h⟩ := h
      refine v_iald hX dX12_widen_75 k31 i32 ?_
      obtain ⟨a33, e_a33, h⟩ := h
      refine v_nn2 e_a33 ?_
      obtain ⟨k34, h⟩ := h
      obtain ⟨i35, h⟩ := h
      refine v_iast hX dX12_widen_76 k34 i35 ?_
      refine v_iinc (c := -1) (lv' := [(3, _), (0, _), (1, _), (2, _)]) hX dX12_widen_77 3 rfl (by decide) (by decide) rfl ?_
      refine v_goto (tgt := 7) hX dX12_widen_80 (by decide) ?_
      refine v_pick [1, 2, 3, 0] rfl ?_
      exact hK7 _ _ _ _ _ h
set_option maxRecDepth 100000 in
set_option maxHeartbeats 4000000 in
theorem m_X12_widen {Z : h_Z} {o0 : Nat} {x1 : Int32} {x2 : Int32} {s : h_S} {Q : h_S → Prop} (h : w_X12_widen o0 x1 x2 s Q) : h_M Z yX12_widen cX12_widen 4 none 1 26 [pR (some o0), pI x1, pI x2] s 0 0 (h_QV Z Q) := by
  refine h_M.of (by decide) (Nat.le_of_ble_eq_true rfl) (fun X hZ hX hE hI => ?_)
  subst hZ
  unfold w_X12_widen at h
  show h_V X 4 0 [(0, pR (some o0)), (1, pI x1), (2, pI x2)] [] s 0 0
  refine v_aload_n hX dX12_widen_0 0 rfl rfl ?_
  obtain ⟨k1, h⟩ := h
  refine v_getI hX dX12_widen_1 f_RX12_345 rfl k1 ?_
  refine v_iconst (v := 1) hX dX12_widen_4 (by decide) ?_
  refine v_isub hX dX12_widen_5 ?_
  refine v_istore_n (lv' := [(3, _), (0, _), (1, _), (2, _)]) hX dX12_widen_6 rfl (by decide) rfl ?_
  refine v_pick [1, 2, 3, 0] rfl ?_
  obtain ⟨n, h⟩ := h
  exact b_X12_widen_7 hX hE n _ _ _ _ _ h
set_option maxRecDepth 100000 in
set_option maxHeartbeats 4000000 in
theorem b_X12_openAt_110 {X : h_X} (hX : h_ok X cX12_openAt 4 RX12 2 49) {Q : Int32 → h_S → Prop} (hE : h_end X (some .int) (h_QI (x_Z X) Q)) {x2 : Int32} (s : h_S) (h : w_X12_openAt_110 Q x2 s) : h_V X 4 110 [(2, pI x2)] [] s 0 0 := by
  unfold w_X12_openAt_110 at h
  refine v_iload_n hX dX12_openAt_110 0 rfl rfl ?_
  exact v_iret hX hE dX12_openAt_111 h
set_option maxRecDepth 100000 in
set_option maxHeartbeats 4000000 in
theorem b_X12_openAt_26 {X : h_X} (hX : h_ok X cX12_openAt 4 RX12 2 49) {Q : Int32 → h_S → Prop} (hE : h_end X (some .int) (h_QI (x_Z X) Q)) {o0 : Nat} {x1 : Int32} {x2 : Int32} (s : h_S) (h : w_X12_openAt_26 Q o0 x1 x2 s) : h_V X 4 26 [(0, pR (some o0)), (1, pI x1), (2, pI x2)] [] s 0 0 := by
  unfold w_X12_openAt_26 at h
  refine v_iload_n hX dX12_openAt_26 2 rfl rfl ?_
  refine v_aload_n hX dX12_openAt_27 0 rfl rfl ?_
  obtain ⟨k1, h⟩ := h
  refine v_getI hX dX12_openAt_28 f_RX12_345 rfl k1 ?_
  refine v_icmp_ge (tgt := 110) hX dX12_openAt_31 (by decide) (fun c2 => ?_) (fun c2 => ?_)
  · have h := h_T c2 h
    refine v_pick [2] rfl ?_
    exact b_X12_openAt_110 hX hE _ h
  · have h := h_E c2 h
    refine v_aload_n hX dX12_openAt_34 0 rfl rfl ?_
    refine v_getR hX dX12_openAt_35 f_RX12_118 rfl k1 ?_
    refine v_iload_n hX dX12_openAt_38 2 rfl rfl ?_
    obtain ⟨a3, e_a3, h⟩ := h
    refine v_nn1 e_a3 ?_
    obtain ⟨k4, h⟩ := h
    obtain ⟨i5, h⟩ := h
    refine v_iald hX dX12_openAt_39 k4 i5 ?_
    refine v_iload_n hX dX12_openAt_40 1 rfl rfl ?_
    refine v_icmp_ge (tgt := 110) hX dX12_openAt_41 (by decide) (fun c6 => ?_) (fun c6 => ?_)
    · have h := h_T c6 h
      refine v_pick [2] rfl ?_
      exact b_X12_openAt_110 hX hE _ h
    · have h := h_E c6 h
      refine v_iload_n hX dX12_openAt_44 1 rfl rfl ?_
      refine v_aload_n hX dX12_openAt_45 0 rfl rfl ?_
      refine v_getR hX dX12_openAt_46 f_RX12_118 rfl k1 ?_
      refine v_iload_n hX dX12_openAt_49 2 rfl rfl ?_
      obtain ⟨a7, e_a7, h⟩ := h
      refine v_nn1 e_a7 ?_
      obtain ⟨k8, h⟩ := h
      obtain ⟨i9, h⟩ := h
      refine v_iald hX dX12_openAt_50 k8 i9 ?_
      refine v_isub hX dX12_openAt_51 ?_
      refine v_istore_n (lv' := [(3, _), (0, _), (1, _), (2, _)]) hX dX12_openAt_52 rfl (by decide) rfl ?_
      refine v_aload_n hX dX12_openAt_53 1 rfl rfl ?_
      refine v_iload_n hX dX12_openAt_54 3 rfl rfl ?_
      refine v_iconst (v := 1) hX dX12_openAt_55 (by decide) ?_
      refine v_callVv0 hX dX12_openAt_56 c_RX12_361 cV_X12_widen (ci := 13) (T := TX12) (N := 115) rfl (by exact k1) [pI _, pI _] rfl rfl (Nat.le_of_ble_eq_true rfl) (by decide) (by decide)  (m_X12_widen h) (fun s10 h => ?_)
      refine v_aload_n hX dX12_openAt_59 1 rfl rfl ?_
      refine v_iload_n hX dX12_openAt_60 3 rfl rfl ?_
      refine v_iconst (v := 1) hX dX12_openAt_61 (by decide) ?_
      refine v_iadd hX dX12_openAt_62 ?_
      refine v_aload_n hX dX12_openAt_63 1 rfl rfl ?_
      obtain ⟨k12, h⟩ := h
      refine v_getR hX dX12_openAt_64 f_RX12_103 rfl k12 ?_
      refine v_iload_n hX dX12_openAt_67 3 rfl rfl ?_
      obtain ⟨a13, e_a13, h⟩ := h
      refine v_nn1 e_a13 ?_
      obtain ⟨k14, h⟩ := h
      obtain ⟨i15, h⟩ := h
      refine v_iald hX dX12_openAt_68 k14 i15 ?_
      refine v_aload_n hX dX12_openAt_69 1 rfl rfl ?_
      refine v_getR hX dX12_openAt_70 f_RX12_106 rfl k12 ?_
      refine v_iload_n hX dX12_openAt_73 3 rfl rfl ?_
      obtain ⟨a16, e_a16, h⟩ := h
      refine v_nn1 e_a16 ?_
      obtain ⟨k17, h⟩ := h
      obtain ⟨i18, h⟩ := h
      refine v_iald hX dX12_openAt_74 k17 i18 ?_
      refine v_iload_n hX dX12_openAt_75 0 rfl rfl ?_
      refine v_iadd hX dX12_openAt_76 ?_
      refine v_aload_n hX dX12_openAt_77 1 rfl rfl ?_
      refine v_getR hX dX12_openAt_78 f_RX12_109 rfl k12 ?_
      refine v_iload_n hX dX12_openAt_81 3 rfl rfl ?_
      obtain ⟨a19, e_a19, h⟩ := h
      refine v_nn1 e_a19 ?_
      obtain ⟨k20, h⟩ := h
      obtain ⟨i21, h⟩ := h
      refine v_iald hX dX12_openAt_82 k20 i21 ?_
      refine v_iload_n hX dX12_openAt_83 0 rfl rfl ?_
      refine v_isub hX dX12_openAt_84 ?_
      refine v_aload_n hX dX12_openAt_85 1 rfl rfl ?_
      refine v_getR hX dX12_openAt_86 f_RX12_112 rfl k12 ?_
      refine v_iload_n hX dX12_openAt_89 3 rfl rfl ?_
      obtain ⟨a22, e_a22, h⟩ := h
      refine v_nn1 e_a22 ?_
      obtain ⟨k23, h⟩ := h
      obtain ⟨i24, h⟩ := h
      refine v_iald hX dX12_openAt_90 k23 i24 ?_
      refine v_aload_n hX dX12_openAt_91 1 rfl rfl ?_
      refine v_getR hX dX12_openAt_92 f_RX12_115 rfl k12 ?_
      refine v_iload_n hX dX12_openAt_95 3 rfl rfl ?_
      obtain ⟨a25, e_a25, h⟩ := h
      refine v_nn1 e_a25 ?_
      obtain ⟨k26, h⟩ := h
      obtain ⟨i27, h⟩ := h
      refine v_iald hX dX12_openAt_96 k26 i27 ?_
      refine v_callVv0 hX dX12_openAt_97 c_RX12_348 cV_X12_setPiece (ci := 13) (T := TX12) (N := 115) rfl (by exact k12) [pI _, pI _, pI _, pI _, pI _, pI _] rfl rfl (Nat.le_of_ble_eq_true rfl) (by decide) (by decide)  (m_X12_setPiece h) (fun s28 h => ?_)
      refine v_aload_n hX dX12_openAt_100 1 rfl rfl ?_
      obtain ⟨k30, h⟩ := h
      refine v_getR hX dX12_openAt_101 f_RX12_109 rfl k30 ?_
      refine v_iload_n hX dX12_openAt_104 3 rfl rfl ?_
      refine v_iload_n hX dX12_openAt_105 0 rfl rfl ?_
      obtain ⟨a31, e_a31, h⟩ := h
      refine v_nn2 e_a31 ?_
      obtain ⟨k32, h⟩ := h
      obtain ⟨i33, h⟩ := h
      refine v_iast hX dX12_openAt_106 k32 i33 ?_
      refine v_iinc (c := 1) (lv' := [(2, _), (3, _), (0, _), (1, _)]) hX dX12_openAt_107 3 rfl (by decide) (by decide) rfl ?_
      refine v_pick [0] rfl ?_
      exact b_X12_openAt_110 hX hE _ h
set_option maxRecDepth 100000 in
set_option maxHeartbeats 4000000 in
theorem b_X12_openAt_2 {X : h_X} (hX : h_ok X cX12_openAt 4 RX12 2 49) {Q : Int32 → h_S → Prop} (hE : h_end X (some .int) (h_QI (x_Z X) Q)) : ∀ (n : Nat) (o0 : Nat) (x1 : Int32) (x2 : Int32) (s : h_S), w_X12_openAt_2 Q n o0 x1 x2 s → h_V X 4 2 [(0, pR (some o0)), (1, pI x1), (2, pI x2)] [] s 0 0 := by
  intro n
  induction n with
  | zero => intro _ _ _ s h; exact h.elim
  | succ n hK2 =>
    intro o0 x1 x2 s h
    have h : w_X12_openAt_2b Q (w_X12_openAt_2 Q n) o0 x1 x2 s := h
    unfold w_X12_openAt_2b at h
    refine v_iload_n hX dX12_openAt_2 2 rfl rfl ?_
    refine v_aload_n hX dX12_openAt_3 0 rfl rfl ?_
    obtain ⟨k1, h⟩ := h
    refine v_getI hX dX12_openAt_4 f_RX12_345 rfl k1 ?_
    refine v_icmp_ge (tgt := 26) hX dX12_openAt_7 (by decide) (fun c2 => ?_) (fun c2 => ?_)
    · have h := h_T c2 h
      refine v_pick [0, 1, 2] rfl ?_
      exact b_X12_openAt_26 hX hE _ h
    · have h := h_E c2 h
      refine v_aload_n hX dX12_openAt_10 0 rfl rfl ?_
      refine v_getR hX dX12_openAt_11 f_RX12_121 rfl k1 ?_
      refine v_iload_n hX dX12_openAt_14 2 rfl rfl ?_
      obtain ⟨a3, e_a3, h⟩ := h
      refine v_nn1 e_a3 ?_
      obtain ⟨k4, h⟩ := h
      obtain ⟨i5, h⟩ := h
      refine v_iald hX dX12_openAt_15 k4 i5 ?_
      refine v_iload_n hX dX12_openAt_16 1 rfl rfl ?_
      refine v_icmp_gt (tgt := 26) hX dX12_openAt_17 (by decide) (fun c6 => ?_) (fun c6 => ?_)
      · have h := h_T c6 h
        refine v_pick [0, 1, 2] rfl ?_
        exact b_X12_openAt_26 hX hE _ h
      · have h := h_E c6 h
        refine v_iinc (c := 1) (lv' := [(2, _), (0, _), (1, _)]) hX dX12_openAt_20 2 rfl (by decide) (by decide) rfl ?_
        refine v_goto (tgt := 2) hX dX12_openAt_23 (by decide) ?_
        refine v_pick [1, 2, 0] rfl ?_
        exact hK2 _ _ _ _ h
set_option maxRecDepth 100000 in
set_option maxHeartbeats 4000000 in
theorem m_X12_openAt {Z : h_Z} {o0 : Nat} {x1 : Int32} {s : h_S} {Q : Int32 → h_S → Prop} (h : w_X12_openAt o0 x1 s Q) : h_M Z yX12_openAt cX12_openAt 4 (some .int) 2 49 [pR (some o0), pI x1] s 0 0 (h_QI Z Q) := by
  refine h_M.of (by decide) (Nat.le_of_ble_eq_true rfl) (fun X hZ hX hE hI => ?_)
  subst hZ
  unfold w_X12_openAt at h
  show h_V X 4 0 [(0, pR (some o0)), (1, pI x1)] [] s 0 0
  refine v_iconst (v := 0) hX dX12_openAt_0 (by decide) ?_
  refine v_istore_n (lv' := [(2, _), (0, _), (1, _)]) hX dX12_openAt_1 rfl (by decide) rfl ?_
  refine v_pick [1, 2, 0] rfl ?_
  obtain ⟨n, h⟩ := h
  exact b_X12_openAt_2 hX hE n _ _ _ _ h
set_option maxRecDepth 100000 in
set_option maxHeartbeats 4000000 in
theorem b_X12_store_89 {X : h_X} (hX : h_ok X cX12_store 3 RX12 0 0) {Q : Int32 → h_S → Prop} (hE : h_end X (some .boolean) (h_QI (x_Z X) Q)) : ∀ (n : Nat) (o0 : Nat) (x2 : Int32) (s : h_S), w_X12_store_89 Q n o0 x2 s → h_V X 3 89 [(0, pR (some o0)), (2, pI x2)] [] s 0 0 := by
  intro n
  induction n with
  | zero => intro _ _ s h; exact h.elim
  | succ n hK89 =>
    intro o0 x2 s h
    have h : w_X12_store_89b Q (w_X12_store_89 Q n) o0 x2 s := h
    unfold w_X12_store_89b at h
    refine v_iload_n hX dX12_store_89 1 rfl rfl ?_
    refine v_aload_n hX dX12_store_90 0 rfl rfl ?_
    obtain ⟨k1, h⟩ := h
    refine v_getI hX dX12_store_91 f_RX12_345 rfl k1 ?_
    refine v_icmp_ge (tgt := 188) hX dX12_store_94 (by decide) (fun c2 => ?_) (fun c2 => ?_)
    · have h := h_T c2 h
      refine v_iconst (v := 1) hX dX12_store_188 (by decide) ?_
      exact v_zret hX hE dX12_store_189 (Or.inr rfl) h
    · have h := h_E c2 h
      refine v_aload_n hX dX12_store_97 0 rfl rfl ?_
      refine v_getR hX dX12_store_98 f_RX12_40 rfl k1 ?_
      refine v_aload_n hX dX12_store_101 0 rfl rfl ?_
      refine v_getI hX dX12_store_102 f_RX12_367 rfl k1 ?_
      refine v_aload_n hX dX12_store_105 0 rfl rfl ?_
      refine v_getR hX dX12_store_106 f_RX12_103 rfl k1 ?_
      refine v_iload_n hX dX12_store_109 1 rfl rfl ?_
      obtain ⟨a3, e_a3, h⟩ := h
      refine v_nn1 e_a3 ?_
      obtain ⟨k4, h⟩ := h
      obtain ⟨i5, h⟩ := h
      refine v_iald hX dX12_store_110 k4 i5 ?_
      obtain ⟨a6, e_a6, h⟩ := h
      refine v_nn2 e_a6 ?_
      obtain ⟨k7, h⟩ := h
      obtain ⟨i8, h⟩ := h
      refine v_iast hX dX12_store_111 k7 i8 ?_
      refine v_aload_n hX dX12_store_112 0 rfl rfl ?_
      refine v_getR hX dX12_store_113 f_RX12_43 rfl k1 ?_
      refine v_aload_n hX dX12_store_116 0 rfl rfl ?_
      refine v_getI hX dX12_store_117 f_RX12_367 rfl k1 ?_
      refine v_aload_n hX dX12_store_120 0 rfl rfl ?_
      refine v_getR hX dX12_store_121 f_RX12_106 rfl k1 ?_
      refine v_iload_n hX dX12_store_124 1 rfl rfl ?_
      obtain ⟨a10, e_a10, h⟩ := h
      refine v_nn1 e_a10 ?_
      obtain ⟨k11, h⟩ := h
      obtain ⟨i12, h⟩ := h
      refine v_iald hX dX12_store_125 k11 i12 ?_
      obtain ⟨a13, e_a13, h⟩ := h
      refine v_nn2 e_a13 ?_
      obtain ⟨k14, h⟩ := h
      obtain ⟨i15, h⟩ := h
      refine v_iast hX dX12_store_126 k14 i15 ?_
      refine v_aload_n hX dX12_store_127 0 rfl rfl ?_
      refine v_getR hX dX12_store_128 f_RX12_46 rfl k1 ?_
      refine v_aload_n hX dX12_store_131 0 rfl rfl ?_
      refine v_getI hX dX12_store_132 f_RX12_367 rfl k1 ?_
      refine v_aload_n hX dX12_store_135 0 rfl rfl ?_
      refine v_getR hX dX12_store_136 f_RX12_109 rfl k1 ?_
      refine v_iload_n hX dX12_store_139 1 rfl rfl ?_
      obtain ⟨a17, e_a17, h⟩ := h
      refine v_nn1 e_a17 ?_
      obtain ⟨k18, h⟩ := h
      obtain ⟨i19, h⟩ := h
      refine v_iald hX dX12_store_140 k18 i19 ?_
      obtain ⟨a20, e_a20, h⟩ := h
      refine v_nn2 e_a20 ?_
      obtain ⟨k21, h⟩ := h
      obtain ⟨i22, h⟩ := h
      refine v_iast hX dX12_store_141 k21 i22 ?_
      refine v_aload_n hX dX12_store_142 0 rfl rfl ?_
      refine v_getR hX dX12_store_143 f_RX12_49 rfl k1 ?_
      refine v_aload_n hX dX12_store_146 0 rfl rfl ?_
      refine v_getI hX dX12_store_147 f_RX12_367 rfl k1 ?_
      refine v_aload_n hX dX12_store_150 0 rfl rfl ?_
      refine v_getR hX dX12_store_151 f_RX12_112 rfl k1 ?_
      refine v_iload_n hX dX12_store_154 1 rfl rfl ?_
      obtain ⟨a24, e_a24, h⟩ := h
      refine v_nn1 e_a24 ?_
      obtain ⟨k25, h⟩ := h
      obtain ⟨i26, h⟩ := h
      refine v_iald hX dX12_store_155 k25 i26 ?_
      obtain ⟨a27, e_a27, h⟩ := h
      refine v_nn2 e_a27 ?_
      obtain ⟨k28, h⟩ := h
      obtain ⟨i29, h⟩ := h
      refine v_iast hX dX12_store_156 k28 i29 ?_
      refine v_aload_n hX dX12_store_157 0 rfl rfl ?_
      refine v_getR hX dX12_store_158 f_RX12_52 rfl k1 ?_
      refine v_aload_n hX dX12_store_161 0 rfl rfl ?_
      refine v_getI hX dX12_store_162 f_RX12_367 rfl k1 ?_
      refine v_aload_n hX dX12_store_165 0 rfl rfl ?_
      refine v_getR hX dX12_store_166 f_RX12_115 rfl k1 ?_
      refine v_iload_n hX dX12_store_169 1 rfl rfl ?_
      obtain ⟨a31, e_a31, h⟩ := h
      refine v_nn1 e_a31 ?_
      obtain ⟨k32, h⟩ := h
      obtain ⟨i33, h⟩ := h
      refine v_iald hX dX12_store_170 k32 i33 ?_
      obtain ⟨a34, e_a34, h⟩ := h
      refine v_nn2 e_a34 ?_
      obtain ⟨k35, h⟩ := h
      obtain ⟨i36, h⟩ := h
      refine v_iast hX dX12_store_171 k35 i36 ?_
      refine v_aload_n hX dX12_store_172 0 rfl rfl ?_
      refine v_dup hX dX12_store_173 rfl ?_
      refine v_getI hX dX12_store_174 f_RX12_367 rfl k1 ?_
      refine v_iconst (v := 1) hX dX12_store_177 (by decide) ?_
      refine v_iadd hX dX12_store_178 ?_
      refine v_putI hX dX12_store_179 f_RX12_367 k1 ?_
      refine v_iinc (c := 1) (lv' := [(2, _), (0, _)]) hX dX12_store_182 1 rfl (by decide) (by decide) rfl ?_
      refine v_goto (tgt := 89) hX dX12_store_185 (by decide) ?_
      refine v_pick [1, 0] rfl ?_
      exact hK89 _ _ _ h
set_option maxRecDepth 100000 in
set_option maxHeartbeats 4000000 in
theorem m_X12_store {Z : h_Z} {o0 : Nat} {x1 : Int32} {s : h_S} {Q : Int32 → h_S → Prop} (h : w_X12_store o0 x1 s Q) : h_M Z yX12_store cX12_store 3 (some .boolean) 0 0 [pR (some o0), pI x1] s 0 0 (h_QI Z Q) := by
  refine h_M.of (by decide) (Nat.le_of_ble_eq_true rfl) (fun X hZ hX hE hI => ?_)
  subst hZ
  unfold w_X12_store at h
  show h_V X 3 0 [(0, pR (some o0)), (1, pI x1)] [] s 0 0
  refine v_aload_n hX dX12_store_0 0 rfl rfl ?_
  obtain ⟨k1, h⟩ := h
  refine v_getI hX dX12_store_1 f_RX12_345 rfl k1 ?_
  refine v_bipush (v := 24) hX dX12_store_4 (by decide) ?_
  refine v_icmp_le (tgt := 11) hX dX12_store_6 (by decide) (fun c2 => ?_) (fun c2 => ?_)
  · have h := h_T c2 h
    refine v_aload_n hX dX12_store_11 0 rfl rfl ?_
    refine v_getR hX dX12_store_12 f_RX12_28 rfl k1 ?_
    refine v_aload_n hX dX12_store_15 0 rfl rfl ?_
    refine v_getI hX dX12_store_16 f_RX12_364 rfl k1 ?_
    refine v_aload_n hX dX12_store_19 0 rfl rfl ?_
    refine v_getR hX dX12_store_20 f_RX12_25 rfl k1 ?_
    refine v_iload_n hX dX12_store_23 1 rfl rfl ?_
    obtain ⟨a3, e_a3, h⟩ := h
    refine v_nn1 e_a3 ?_
    obtain ⟨k4, h⟩ := h
    obtain ⟨i5, h⟩ := h
    refine v_iald hX dX12_store_24 k4 i5 ?_
    obtain ⟨a6, e_a6, h⟩ := h
    refine v_nn2 e_a6 ?_
    obtain ⟨k7, h⟩ := h
    obtain ⟨i8, h⟩ := h
    refine v_iast hX dX12_store_25 k7 i8 ?_
    refine v_aload_n hX dX12_store_26 0 rfl rfl ?_
    refine v_getR hX dX12_store_27 f_RX12_31 rfl k1 ?_
    refine v_aload_n hX dX12_store_30 0 rfl rfl ?_
    refine v_getI hX dX12_store_31 f_RX12_364 rfl k1 ?_
    refine v_aload_n hX dX12_store_34 0 rfl rfl ?_
    refine v_getI hX dX12_store_35 f_RX12_288 rfl k1 ?_
    refine v_iconst (v := 1) hX dX12_store_38 (by decide) ?_
    refine v_iadd hX dX12_store_39 ?_
    obtain ⟨a10, e_a10, h⟩ := h
    refine v_nn2 e_a10 ?_
    obtain ⟨k11, h⟩ := h
    obtain ⟨i12, h⟩ := h
    refine v_iast hX dX12_store_40 k11 i12 ?_
    refine v_aload_n hX dX12_store_41 0 rfl rfl ?_
    refine v_getR hX dX12_store_42 f_RX12_34 rfl k1 ?_
    refine v_aload_n hX dX12_store_45 0 rfl rfl ?_
    refine v_getI hX dX12_store_46 f_RX12_364 rfl k1 ?_
    refine v_aload_n hX dX12_store_49 0 rfl rfl ?_
    refine v_getI hX dX12_store_50 f_RX12_367 rfl k1 ?_
    obtain ⟨a14, e_a14, h⟩ := h
    refine v_nn2 e_a14 ?_
    obtain ⟨k15, h⟩ := h
    obtain ⟨i16, h⟩ := h
    refine v_iast hX dX12_store_53 k15 i16 ?_
    refine v_aload_n hX dX12_store_54 0 rfl rfl ?_
    refine v_getR hX dX12_store_55 f_RX12_37 rfl k1 ?_
    refine v_aload_n hX dX12_store_58 0 rfl rfl ?_
    refine v_getI hX dX12_store_59 f_RX12_364 rfl k1 ?_
    refine v_aload_n hX dX12_store_62 0 rfl rfl ?_
    refine v_getI hX dX12_store_63 f_RX12_345 rfl k1 ?_
    obtain ⟨a18, e_a18, h⟩ := h
    refine v_nn2 e_a18 ?_
    obtain ⟨k19, h⟩ := h
    obtain ⟨i20, h⟩ := h
    refine v_iast hX dX12_store_66 k19 i20 ?_
    refine v_aload_n hX dX12_store_67 0 rfl rfl ?_
    refine v_getR hX dX12_store_68 f_RX12_25 rfl k1 ?_
    refine v_iload_n hX dX12_store_71 1 rfl rfl ?_
    refine v_aload_n hX dX12_store_72 0 rfl rfl ?_
    refine v_getI hX dX12_store_73 f_RX12_364 rfl k1 ?_
    obtain ⟨a22, e_a22, h⟩ := h
    refine v_nn2 e_a22 ?_
    obtain ⟨k23, h⟩ := h
    obtain ⟨i24, h⟩ := h
    refine v_iast hX dX12_store_76 k23 i24 ?_
    refine v_aload_n hX dX12_store_77 0 rfl rfl ?_
    refine v_dup hX dX12_store_78 rfl ?_
    refine v_getI hX dX12_store_79 f_RX12_364 rfl k1 ?_
    refine v_iconst (v := 1) hX dX12_store_82 (by decide) ?_
    refine v_iadd hX dX12_store_83 ?_
    refine v_putI hX dX12_store_84 f_RX12_364 k1 ?_
    refine v_iconst (v := 0) hX dX12_store_87 (by decide) ?_
    refine v_istore_n (lv' := [(2, _), (0, _), (1, _)]) hX dX12_store_88 rfl (by decide) rfl ?_
    refine v_pick [1, 0] rfl ?_
    obtain ⟨n, h⟩ := h
    exact b_X12_store_89 hX hE n _ _ _ h
  · have h := h_E c2 h
    refine v_iconst (v := 0) hX dX12_store_9 (by decide) ?_
    exact v_zret hX hE dX12_store_10 (Or.inl rfl) h
set_option maxRecDepth 100000 in
set_option maxHeartbeats 4000000 in
theorem m_X12_come {Z : h_Z} {o0 : Nat} {x1 : Int32} {x2 : Int32} {x3 : Int32} {x4 : Int32} {x5 : Int32} {x6 : Int32} {x7 : Int32} {s : h_S} {Q : Int32 → h_S → Prop} (h : w_X12_come o0 x1 x2 x3 x4 x5 x6 x7 s Q) : h_M Z yX12_come cX12_come 9 (some .boolean) 3 72 [pR (some o0), pI x1, pI x2, pI x3, pI x4, pI x5, pI x6, pI x7] s 0 0 (h_QI Z Q) := by
  refine h_M.of (by decide) (Nat.le_of_ble_eq_true rfl) (fun X hZ hX hE hI => ?_)
  subst hZ
  unfold w_X12_come at h
  show h_V X 9 0 [(0, pR (some o0)), (1, pI x1), (2, pI x2), (3, pI x3), (4, pI x4), (5, pI x5), (6, pI x6), (7, pI x7)] [] s 0 0
  refine v_aload_n hX dX12_come_0 0 rfl rfl ?_
  refine v_iload_n hX dX12_come_1 2 rfl rfl ?_
  obtain ⟨k1, h⟩ := h
  refine v_callVi0 hX dX12_come_2 c_RX12_370 cV_X12_openAt (ci := 13) (T := TX12) (N := 115) rfl (by exact k1) [pI _] rfl rfl (Nat.le_of_ble_eq_true rfl) (by decide) (by decide)  (m_X12_openAt h) (fun p3 s2 h => ?_)
  refine v_istore (lv' := [(8, _), (0, _), (1, _), (2, _), (3, _), (4, _), (5, _), (6, _), (7, _)]) hX dX12_come_5 (by decide) rfl ?_
  refine v_aload_n hX dX12_come_7 1 rfl rfl ?_
  refine v_iload hX dX12_come_8 0 rfl ?_
  refine v_iconst (v := 1) hX dX12_come_10 (by decide) ?_
  obtain ⟨k4, h⟩ := h
  refine v_callVv0 hX dX12_come_11 c_RX12_361 cV_X12_widen (ci := 13) (T := TX12) (N := 115) rfl (by exact k4) [pI _, pI _] rfl rfl (Nat.le_of_ble_eq_true rfl) (by decide) (by decide)  (m_X12_widen h) (fun s5 h => ?_)
  refine v_aload_n hX dX12_come_14 1 rfl rfl ?_
  refine v_iload hX dX12_come_15 0 rfl ?_
  refine v_iload_n hX dX12_come_17 4 rfl rfl ?_
  refine v_iload hX dX12_come_18 5 rfl ?_
  refine v_iload hX dX12_come_20 6 rfl ?_
  refine v_iload hX dX12_come_22 7 rfl ?_
  refine v_iload hX dX12_come_24 8 rfl ?_
  obtain ⟨k7, h⟩ := h
  refine v_callVv0 hX dX12_come_26 c_RX12_348 cV_X12_setPiece (ci := 13) (T := TX12) (N := 115) rfl (by exact k7) [pI _, pI _, pI _, pI _, pI _, pI _] rfl rfl (Nat.le_of_ble_eq_true rfl) (by decide) (by decide)  (m_X12_setPiece h) (fun s8 h => ?_)
  refine v_aload_n hX dX12_come_29 1 rfl rfl ?_
  refine v_iload_n hX dX12_come_30 2 rfl rfl ?_
  obtain ⟨k10, h⟩ := h
  refine v_callVi0 hX dX12_come_31 c_RX12_373 cV_X12_store (ci := 13) (T := TX12) (N := 115) rfl (by exact k10) [pI _] rfl rfl (Nat.le_of_ble_eq_true rfl) (by decide) (by decide)  (m_X12_store h) (fun p12 s11 h => ?_)
  exact v_zret hX hE dX12_come_34 h.1 h.2
set_option maxRecDepth 100000 in
set_option maxHeartbeats 4000000 in
theorem b_X12_takeOut_365 {X : h_X} (hX : h_ok X cX12_takeOut 10 RX12 1 26) {Q : h_S → Prop} (hE : h_end X none (h_QV (x_Z X) Q)) {K25 : Nat → Int32 → Int32 → Int32 → Int32 → Int32 → Int32 → h_S → Prop} (hK25 : ∀ (o0 : Nat) (x1 : Int32) (x3 : Int32) (x4 : Int32) (x5 : Int32) (x6 : Int32) (x7 : Int32) (s : h_S), K25 o0 x1 x3 x4 x5 x6 x7 s → h_V X 10 25 [(0, pR (some o0)), (1, pI x1), (3, pI x3), (4, pI x4), (5, pI x5), (6, pI x6), (7, pI x7)] [] s 0 0) {o0 : Nat} {x1 : Int32} {x3 : Int32} {x4 : Int32} {x5 : Int32} {x6 : Int32} {x7 : Int32} (s : h_S) (h : w_X12_takeOut_365 Q K25 o0 x1 x3 x4 x5 x6 x7 s) : h_V X 10 365 [(0, pR (some o0)), (1, pI x1), (3, pI x3), (4, pI x4), (5, pI x5), (6, pI x6), (7, pI x7)] [] s 0 0 := by
  unfold w_X12_takeOut_365 at h
  refine v_iinc (c := 1) (lv' := [(7, _), (0, _), (1, _), (3, _), (4, _), (5, _), (6, _)]) hX dX12_takeOut_365 6 rfl (by decide) (by decide) rfl ?_
  refine v_goto (tgt := 25) hX dX12_takeOut_368 (by decide) ?_
  refine v_pick [1, 2, 3, 4, 5, 6, 0] rfl ?_
  exact hK25 _ _ _ _ _ _ _ _ h
set_option maxRecDepth 100000 in
set_option maxHeartbeats 4000000 in
theorem b_X12_takeOut_54 {X : h_X} (hX : h_ok X cX12_takeOut 10 RX12 1 26) {Q : h_S → Prop} (hE : h_end X none (h_QV (x_Z X) Q)) {K25 : Nat → Int32 → Int32 → Int32 → Int32 → Int32 → Int32 → h_S → Prop} (hK25 : ∀ (o0 : Nat) (x1 : Int32) (x3 : Int32) (x4 : Int32) (x5 : Int32) (x6 : Int32) (x7 : Int32) (s : h_S), K25 o0 x1 x3 x4 x5 x6 x7 s → h_V X 10 25 [(0, pR (some o0)), (1, pI x1), (3, pI x3), (4, pI x4), (5, pI x5), (6, pI x6), (7, pI x7)] [] s 0 0) {o0 : Nat} {x1 : Int32} {x3 : Int32} {x4 : Int32} {x5 : Int32} {x6 : Int32} {x7 : Int32} (s : h_S) (h : w_X12_takeOut_54 Q K25 o0 x1 x3 x4 x5 x6 x7 s) : h_V X 10 54 [(0, pR (some o0)), (1, pI x1), (3, pI x3), (4, pI x4), (5, pI x5), (6, pI x6), (7, pI x7)] [] s 0 0 := by
  unfold w_X12_takeOut_54 at h
  refine v_aload_n hX dX12_takeOut_54 0 rfl rfl ?_
  refine v_iload hX dX12_takeOut_55 5 rfl ?_
  refine v_iload hX dX12_takeOut_57 3 rfl ?_
  refine v_iadd hX dX12_takeOut_59 ?_
  refine v_aload_n hX dX12_takeOut_60 0 rfl rfl ?_
  obtain ⟨k1, h⟩ := h
  refine v_getR hX dX12_takeOut_61 f_RX12_103 rfl k1 ?_
  refine v_iload hX dX12_takeOut_64 6 rfl ?_
  obtain ⟨a2, e_a2, h⟩ := h
  refine v_nn1 e_a2 ?_
  obtain ⟨k3, h⟩ := h
  obtain ⟨i4, h⟩ := h
  refine v_iald hX dX12_takeOut_66 k3 i4 ?_
  refine v_aload_n hX dX12_takeOut_67 0 rfl rfl ?_
  refine v_getR hX dX12_takeOut_68 f_RX12_106 rfl k1 ?_
  refine v_iload hX dX12_takeOut_71 6 rfl ?_
  obtain ⟨a5, e_a5, h⟩ := h
  refine v_nn1 e_a5 ?_
  obtain ⟨k6, h⟩ := h
  obtain ⟨i7, h⟩ := h
  refine v_iald hX dX12_takeOut_73 k6 i7 ?_
  refine v_aload_n hX dX12_takeOut_74 0 rfl rfl ?_
  refine v_getR hX dX12_takeOut_75 f_RX12_109 rfl k1 ?_
  refine v_iload hX dX12_takeOut_78 6 rfl ?_
  obtain ⟨a8, e_a8, h⟩ := h
  refine v_nn1 e_a8 ?_
  obtain ⟨k9, h⟩ := h
  obtain ⟨i10, h⟩ := h
  refine v_iald hX dX12_takeOut_80 k9 i10 ?_
  refine v_aload_n hX dX12_takeOut_81 0 rfl rfl ?_
  refine v_getR hX dX12_takeOut_82 f_RX12_112 rfl k1 ?_
  refine v_iload hX dX12_takeOut_85 6 rfl ?_
  obtain ⟨a11, e_a11, h⟩ := h
  refine v_nn1 e_a11 ?_
  obtain ⟨k12, h⟩ := h
  obtain ⟨i13, h⟩ := h
  refine v_iald hX dX12_takeOut_87 k12 i13 ?_
  refine v_aload_n hX dX12_takeOut_88 0 rfl rfl ?_
  refine v_getR hX dX12_takeOut_89 f_RX12_115 rfl k1 ?_
  refine v_iload hX dX12_takeOut_92 6 rfl ?_
  obtain ⟨a14, e_a14, h⟩ := h
  refine v_nn1 e_a14 ?_
  obtain ⟨k15, h⟩ := h
  obtain ⟨i16, h⟩ := h
  refine v_iald hX dX12_takeOut_94 k15 i16 ?_
  refine v_callVv0 hX dX12_takeOut_95 c_RX12_348 cV_X12_setPiece (ci := 13) (T := TX12) (N := 115) rfl (by exact k1) [pI _, pI _, pI _, pI _, pI _, pI _] rfl rfl (Nat.le_of_ble_eq_true rfl) (by decide) (by decide)  (m_X12_setPiece h) (fun s17 h => ?_)
  refine v_iinc (c := 1) (lv' := [(4, _), (0, _), (1, _), (3, _), (5, _), (6, _), (7, _)]) hX dX12_takeOut_98 3 rfl (by decide) (by decide) rfl ?_
  refine v_goto (tgt := 365) hX dX12_takeOut_101 (by decide) ?_
  refine v_pick [1, 2, 3, 0, 4, 5, 6] rfl ?_
  exact b_X12_takeOut_365 hX hE hK25 _ h
set_option maxRecDepth 100000 in
set_option maxHeartbeats 4000000 in
theorem b_X12_takeOut_209 {X : h_X} (hX : h_ok X cX12_takeOut 10 RX12 1 26) {Q : h_S → Prop} (hE : h_end X none (h_QV (x_Z X) Q)) {K25 : Nat → Int32 → Int32 → Int32 → Int32 → Int32 → Int32 → h_S → Prop} (hK25 : ∀ (o0 : Nat) (x1 : Int32) (x3 : Int32) (x4 : Int32) (x5 : Int32) (x6 : Int32) (x7 : Int32) (s : h_S), K25 o0 x1 x3 x4 x5 x6 x7 s → h_V X 10 25 [(0, pR (some o0)), (1, pI x1), (3, pI x3), (4, pI x4), (5, pI x5), (6, pI x6), (7, pI x7)] [] s 0 0) {o0 : Nat} {x1 : Int32} {x3 : Int32} {x4 : Int32} {x5 : Int32} {x6 : Int32} {x7 : Int32} {x8 : Int32} {x9 : Int32} (s : h_S) (h : w_X12_takeOut_209 Q K25 o0 x1 x3 x4 x5 x6 x7 x8 x9 s) : h_V X 10 209 [(0, pR (some o0)), (1, pI x1), (3, pI x3), (4, pI x4), (5, pI x5), (6, pI x6), (7, pI x7), (8, pI x8), (9, pI x9)] [] s 0 0 := by
  unfold w_X12_takeOut_209 at h
  refine v_aload_n hX dX12_takeOut_209 0 rfl rfl ?_
  obtain ⟨k1, h⟩ := h
  refine v_getR hX dX12_takeOut_210 f_RX12_124 rfl k1 ?_
  refine v_aload_n hX dX12_takeOut_213 0 rfl rfl ?_
  refine v_getI hX dX12_takeOut_214 f_RX12_376 rfl k1 ?_
  refine v_aload_n hX dX12_takeOut_217 0 rfl rfl ?_
  refine v_getR hX dX12_takeOut_218 f_RX12_103 rfl k1 ?_
  refine v_iload hX dX12_takeOut_221 6 rfl ?_
  obtain ⟨a2, e_a2, h⟩ := h
  refine v_nn1 e_a2 ?_
  obtain ⟨k3, h⟩ := h
  obtain ⟨i4, h⟩ := h
  refine v_iald hX dX12_takeOut_223 k3 i4 ?_
  obtain ⟨a5, e_a5, h⟩ := h
  refine v_nn2 e_a5 ?_
  obtain ⟨k6, h⟩ := h
  obtain ⟨i7, h⟩ := h
  refine v_iast hX dX12_takeOut_224 k6 i7 ?_
  refine v_aload_n hX dX12_takeOut_225 0 rfl rfl ?_
  refine v_getR hX dX12_takeOut_226 f_RX12_127 rfl k1 ?_
  refine v_aload_n hX dX12_takeOut_229 0 rfl rfl ?_
  refine v_getI hX dX12_takeOut_230 f_RX12_376 rfl k1 ?_
  refine v_aload_n hX dX12_takeOut_233 0 rfl rfl ?_
  refine v_getR hX dX12_takeOut_234 f_RX12_106 rfl k1 ?_
  refine v_iload hX dX12_takeOut_237 6 rfl ?_
  obtain ⟨a9, e_a9, h⟩ := h
  refine v_nn1 e_a9 ?_
  obtain ⟨k10, h⟩ := h
  obtain ⟨i11, h⟩ := h
  refine v_iald hX dX12_takeOut_239 k10 i11 ?_
  refine v_iload hX dX12_takeOut_240 7 rfl ?_
  refine v_iadd hX dX12_takeOut_242 ?_
  obtain ⟨a12, e_a12, h⟩ := h
  refine v_nn2 e_a12 ?_
  obtain ⟨k13, h⟩ := h
  obtain ⟨i14, h⟩ := h
  refine v_iast hX dX12_takeOut_243 k13 i14 ?_
  refine v_aload_n hX dX12_takeOut_244 0 rfl rfl ?_
  refine v_getR hX dX12_takeOut_245 f_RX12_130 rfl k1 ?_
  refine v_aload_n hX dX12_takeOut_248 0 rfl rfl ?_
  refine v_getI hX dX12_takeOut_249 f_RX12_376 rfl k1 ?_
  refine v_iload hX dX12_takeOut_252 8 rfl ?_
  refine v_iload hX dX12_takeOut_254 7 rfl ?_
  refine v_isub hX dX12_takeOut_256 ?_
  obtain ⟨a16, e_a16, h⟩ := h
  refine v_nn2 e_a16 ?_
  obtain ⟨k17, h⟩ := h
  obtain ⟨i18, h⟩ := h
  refine v_iast hX dX12_takeOut_257 k17 i18 ?_
  refine v_aload_n hX dX12_takeOut_258 0 rfl rfl ?_
  refine v_getR hX dX12_takeOut_259 f_RX12_133 rfl k1 ?_
  refine v_aload_n hX dX12_takeOut_262 0 rfl rfl ?_
  refine v_getI hX dX12_takeOut_263 f_RX12_376 rfl k1 ?_
  refine v_aload_n hX dX12_takeOut_266 0 rfl rfl ?_
  refine v_getR hX dX12_takeOut_267 f_RX12_112 rfl k1 ?_
  refine v_iload hX dX12_takeOut_270 6 rfl ?_
  obtain ⟨a20, e_a20, h⟩ := h
  refine v_nn1 e_a20 ?_
  obtain ⟨k21, h⟩ := h
  obtain ⟨i22, h⟩ := h
  refine v_iald hX dX12_takeOut_272 k21 i22 ?_
  obtain ⟨a23, e_a23, h⟩ := h
  refine v_nn2 e_a23 ?_
  obtain ⟨k24, h⟩ := h
  obtain ⟨i25, h⟩ := h
  refine v_iast hX dX12_takeOut_273 k24 i25 ?_
  refine v_aload_n hX dX12_takeOut_274 0 rfl rfl ?_
  refine v_getR hX dX12_takeOut_275 f_RX12_136 rfl k1 ?_
  refine v_aload_n hX dX12_takeOut_278 0 rfl rfl ?_
  refine v_getI hX dX12_takeOut_279 f_RX12_376 rfl k1 ?_
  refine v_aload_n hX dX12_takeOut_282 0 rfl rfl ?_
  refine v_getR hX dX12_takeOut_283 f_RX12_115 rfl k1 ?_
  refine v_iload hX dX12_takeOut_286 6 rfl ?_
  obtain ⟨a27, e_a27, h⟩ := h
  refine v_nn1 e_a27 ?_
  obtain ⟨k28, h⟩ := h
  obtain ⟨i29, h⟩ := h
  refine v_iald hX dX12_takeOut_288 k28 i29 ?_
  obtain ⟨a30, e_a30, h⟩ := h
  refine v_nn2 e_a30 ?_
  obtain ⟨k31, h⟩ := h
  obtain ⟨i32, h⟩ := h
  refine v_iast hX dX12_takeOut_289 k31 i32 ?_
  refine v_aload_n hX dX12_takeOut_290 0 rfl rfl ?_
  refine v_dup hX dX12_takeOut_291 rfl ?_
  refine v_getI hX dX12_takeOut_292 f_RX12_376 rfl k1 ?_
  refine v_iconst (v := 1) hX dX12_takeOut_295 (by decide) ?_
  refine v_iadd hX dX12_takeOut_296 ?_
  refine v_putI hX dX12_takeOut_297 f_RX12_376 k1 ?_
  refine v_iload hX dX12_takeOut_300 8 rfl ?_
  refine v_aload_n hX dX12_takeOut_302 0 rfl rfl ?_
  refine v_getR hX dX12_takeOut_303 f_RX12_109 rfl k1 ?_
  refine v_iload hX dX12_takeOut_306 6 rfl ?_
  obtain ⟨a35, e_a35, h⟩ := h
  refine v_nn1 e_a35 ?_
  obtain ⟨k36, h⟩ := h
  obtain ⟨i37, h⟩ := h
  refine v_iald hX dX12_takeOut_308 k36 i37 ?_
  refine v_icmp_ge (tgt := 365) hX dX12_takeOut_309 (by decide) (fun c38 => ?_) (fun c38 => ?_)
  · have h := h_T c38 h
    refine v_pick [0, 1, 2, 3, 4, 5, 6] rfl ?_
    exact b_X12_takeOut_365 hX hE hK25 _ h
  · have h := h_E c38 h
    refine v_aload_n hX dX12_takeOut_312 0 rfl rfl ?_
    refine v_iload hX dX12_takeOut_313 5 rfl ?_
    refine v_iload hX dX12_takeOut_315 3 rfl ?_
    refine v_iadd hX dX12_takeOut_317 ?_
    refine v_aload_n hX dX12_takeOut_318 0 rfl rfl ?_
    refine v_getR hX dX12_takeOut_319 f_RX12_103 rfl k1 ?_
    refine v_iload hX dX12_takeOut_322 6 rfl ?_
    obtain ⟨a39, e_a39, h⟩ := h
    refine v_nn1 e_a39 ?_
    obtain ⟨k40, h⟩ := h
    obtain ⟨i41, h⟩ := h
    refine v_iald hX dX12_takeOut_324 k40 i41 ?_
    refine v_aload_n hX dX12_takeOut_325 0 rfl rfl ?_
    refine v_getR hX dX12_takeOut_326 f_RX12_106 rfl k1 ?_
    refine v_iload hX dX12_takeOut_329 6 rfl ?_
    obtain ⟨a42, e_a42, h⟩ := h
    refine v_nn1 e_a42 ?_
    obtain ⟨k43, h⟩ := h
    obtain ⟨i44, h⟩ := h
    refine v_iald hX dX12_takeOut_331 k43 i44 ?_
    refine v_iload hX dX12_takeOut_332 8 rfl ?_
    refine v_iadd hX dX12_takeOut_334 ?_
    refine v_aload_n hX dX12_takeOut_335 0 rfl rfl ?_
    refine v_getR hX dX12_takeOut_336 f_RX12_109 rfl k1 ?_
    refine v_iload hX dX12_takeOut_339 6 rfl ?_
    obtain ⟨a45, e_a45, h⟩ := h
    refine v_nn1 e_a45 ?_
    obtain ⟨k46, h⟩ := h
    obtain ⟨i47, h⟩ := h
    refine v_iald hX dX12_takeOut_341 k46 i47 ?_
    refine v_iload hX dX12_takeOut_342 8 rfl ?_
    refine v_isub hX dX12_takeOut_344 ?_
    refine v_aload_n hX dX12_takeOut_345 0 rfl rfl ?_
    refine v_getR hX dX12_takeOut_346 f_RX12_112 rfl k1 ?_
    refine v_iload hX dX12_takeOut_349 6 rfl ?_
    obtain ⟨a48, e_a48, h⟩ := h
    refine v_nn1 e_a48 ?_
    obtain ⟨k49, h⟩ := h
    obtain ⟨i50, h⟩ := h
    refine v_iald hX dX12_takeOut_351 k49 i50 ?_
    refine v_aload_n hX dX12_takeOut_352 0 rfl rfl ?_
    refine v_getR hX dX12_takeOut_353 f_RX12_115 rfl k1 ?_
    refine v_iload hX dX12_takeOut_356 6 rfl ?_
    obtain ⟨a51, e_a51, h⟩ := h
    refine v_nn1 e_a51 ?_
    obtain ⟨k52, h⟩ := h
    obtain ⟨i53, h⟩ := h
    refine v_iald hX dX12_takeOut_358 k52 i53 ?_
    refine v_callVv0 hX dX12_takeOut_359 c_RX12_348 cV_X12_setPiece (ci := 13) (T := TX12) (N := 115) rfl (by exact k1) [pI _, pI _, pI _, pI _, pI _, pI _] rfl rfl (Nat.le_of_ble_eq_true rfl) (by decide) (by decide)  (m_X12_setPiece h) (fun s54 h => ?_)
    refine v_iinc (c := 1) (lv' := [(4, _), (0, _), (1, _), (3, _), (5, _), (6, _), (7, _), (8, _), (9, _)]) hX dX12_takeOut_362 3 rfl (by decide) (by decide) rfl ?_
    refine v_pick [1, 2, 3, 0, 4, 5, 6] rfl ?_
    exact b_X12_takeOut_365 hX hE hK25 _ h
set_option maxRecDepth 100000 in
set_option maxHeartbeats 4000000 in
theorem b_X12_takeOut_160 {X : h_X} (hX : h_ok X cX12_takeOut 10 RX12 1 26) {Q : h_S → Prop} (hE : h_end X none (h_QV (x_Z X) Q)) {K25 : Nat → Int32 → Int32 → Int32 → Int32 → Int32 → Int32 → h_S → Prop} (hK25 : ∀ (o0 : Nat) (x1 : Int32) (x3 : Int32) (x4 : Int32) (x5 : Int32) (x6 : Int32) (x7 : Int32) (s : h_S), K25 o0 x1 x3 x4 x5 x6 x7 s → h_V X 10 25 [(0, pR (some o0)), (1, pI x1), (3, pI x3), (4, pI x4), (5, pI x5), (6, pI x6), (7, pI x7)] [] s 0 0) {o0 : Nat} {x1 : Int32} {x3 : Int32} {x4 : Int32} {x5 : Int32} {x6 : Int32} {x7 : Int32} {x8 : Int32} {y0 : Int32} (s : h_S) (h : w_X12_takeOut_160 Q K25 o0 x1 x3 x4 x5 x6 x7 x8 y0 s) : h_V X 10 160 [(0, pR (some o0)), (1, pI x1), (3, pI x3), (4, pI x4), (5, pI x5), (6, pI x6), (7, pI x7), (8, pI x8)] [pI y0] s 0 0 := by
  unfold w_X12_takeOut_160 at h
  refine v_istore (lv' := [(9, _), (0, _), (1, _), (3, _), (4, _), (5, _), (6, _), (7, _), (8, _)]) hX dX12_takeOut_160 (by decide) rfl ?_
  refine v_iload hX dX12_takeOut_162 8 rfl ?_
  refine v_if_le (tgt := 209) hX dX12_takeOut_164 (by decide) (fun c1 => ?_) (fun c1 => ?_)
  · have h := h_T c1 h
    refine v_pick [1, 2, 3, 4, 5, 6, 7, 8, 0] rfl ?_
    exact b_X12_takeOut_209 hX hE hK25 _ h
  · have h := h_E c1 h
    refine v_aload_n hX dX12_takeOut_167 1 rfl rfl ?_
    refine v_iload hX dX12_takeOut_168 6 rfl ?_
    refine v_iload hX dX12_takeOut_170 4 rfl ?_
    refine v_iadd hX dX12_takeOut_172 ?_
    refine v_aload_n hX dX12_takeOut_173 1 rfl rfl ?_
    obtain ⟨k2, h⟩ := h
    refine v_getR hX dX12_takeOut_174 f_RX12_103 rfl k2 ?_
    refine v_iload hX dX12_takeOut_177 7 rfl ?_
    obtain ⟨a3, e_a3, h⟩ := h
    refine v_nn1 e_a3 ?_
    obtain ⟨k4, h⟩ := h
    obtain ⟨i5, h⟩ := h
    refine v_iald hX dX12_takeOut_179 k4 i5 ?_
    refine v_aload_n hX dX12_takeOut_180 1 rfl rfl ?_
    refine v_getR hX dX12_takeOut_181 f_RX12_106 rfl k2 ?_
    refine v_iload hX dX12_takeOut_184 7 rfl ?_
    obtain ⟨a6, e_a6, h⟩ := h
    refine v_nn1 e_a6 ?_
    obtain ⟨k7, h⟩ := h
    obtain ⟨i8, h⟩ := h
    refine v_iald hX dX12_takeOut_186 k7 i8 ?_
    refine v_iload hX dX12_takeOut_187 8 rfl ?_
    refine v_aload_n hX dX12_takeOut_189 1 rfl rfl ?_
    refine v_getR hX dX12_takeOut_190 f_RX12_112 rfl k2 ?_
    refine v_iload hX dX12_takeOut_193 7 rfl ?_
    obtain ⟨a9, e_a9, h⟩ := h
    refine v_nn1 e_a9 ?_
    obtain ⟨k10, h⟩ := h
    obtain ⟨i11, h⟩ := h
    refine v_iald hX dX12_takeOut_195 k10 i11 ?_
    refine v_aload_n hX dX12_takeOut_196 1 rfl rfl ?_
    refine v_getR hX dX12_takeOut_197 f_RX12_115 rfl k2 ?_
    refine v_iload hX dX12_takeOut_200 7 rfl ?_
    obtain ⟨a12, e_a12, h⟩ := h
    refine v_nn1 e_a12 ?_
    obtain ⟨k13, h⟩ := h
    obtain ⟨i14, h⟩ := h
    refine v_iald hX dX12_takeOut_202 k13 i14 ?_
    refine v_callVv0 hX dX12_takeOut_203 c_RX12_348 cV_X12_setPiece (ci := 13) (T := TX12) (N := 115) rfl (by exact k2) [pI _, pI _, pI _, pI _, pI _, pI _] rfl rfl (Nat.le_of_ble_eq_true rfl) (by decide) (by decide)  (m_X12_setPiece h) (fun s15 h => ?_)
    refine v_iinc (c := 1) (lv' := [(4, _), (9, _), (0, _), (1, _), (3, _), (5, _), (6, _), (7, _), (8, _)]) hX dX12_takeOut_206 4 rfl (by decide) (by decide) rfl ?_
    refine v_pick [2, 3, 4, 0, 5, 6, 7, 8, 1] rfl ?_
    exact b_X12_takeOut_209 hX hE hK25 _ h
set_option maxRecDepth 100000 in
set_option maxHeartbeats 4000000 in
theorem b_X12_takeOut_128 {X : h_X} (hX : h_ok X cX12_takeOut 10 RX12 1 26) {Q : h_S → Prop} (hE : h_end X none (h_QV (x_Z X) Q)) {K25 : Nat → Int32 → Int32 → Int32 → Int32 → Int32 → Int32 → h_S → Prop} (hK25 : ∀ (o0 : Nat) (x1 : Int32) (x3 : Int32) (x4 : Int32) (x5 : Int32) (x6 : Int32) (x7 : Int32) (s : h_S), K25 o0 x1 x3 x4 x5 x6 x7 s → h_V X 10 25 [(0, pR (some o0)), (1, pI x1), (3, pI x3), (4, pI x4), (5, pI x5), (6, pI x6), (7, pI x7)] [] s 0 0) {o0 : Nat} {x1 : Int32} {x3 : Int32} {x4 : Int32} {x5 : Int32} {x6 : Int32} {x7 : Int32} {y0 : Int32} (s : h_S) (h : w_X12_takeOut_128 Q K25 o0 x1 x3 x4 x5 x6 x7 y0 s) : h_V X 10 128 [(0, pR (some o0)), (1, pI x1), (3, pI x3), (4, pI x4), (5, pI x5), (6, pI x6), (7, pI x7)] [pI y0] s 0 0 := by
  unfold w_X12_takeOut_128 at h
  refine v_istore (lv' := [(8, _), (0, _), (1, _), (3, _), (4, _), (5, _), (6, _), (7, _)]) hX dX12_takeOut_128 (by decide) rfl ?_
  refine v_aload_n hX dX12_takeOut_130 1 rfl rfl ?_
  obtain ⟨k1, h⟩ := h
  refine v_getR hX dX12_takeOut_131 f_RX12_121 rfl k1 ?_
  refine v_iload hX dX12_takeOut_134 7 rfl ?_
  obtain ⟨a2, e_a2, h⟩ := h
  refine v_nn1 e_a2 ?_
  obtain ⟨k3, h⟩ := h
  obtain ⟨i4, h⟩ := h
  refine v_iald hX dX12_takeOut_136 k3 i4 ?_
  refine v_iload_n hX dX12_takeOut_137 3 rfl rfl ?_
  refine v_icmp_le (tgt := 153) hX dX12_takeOut_138 (by decide) (fun c5 => ?_) (fun c5 => ?_)
  · have h := h_T c5 h
    refine v_aload_n hX dX12_takeOut_153 1 rfl rfl ?_
    refine v_getR hX dX12_takeOut_154 f_RX12_109 rfl k1 ?_
    refine v_iload hX dX12_takeOut_157 7 rfl ?_
    obtain ⟨a6, e_a6, h⟩ := h
    refine v_nn1 e_a6 ?_
    obtain ⟨k7, h⟩ := h
    obtain ⟨i8, h⟩ := h
    refine v_iald hX dX12_takeOut_159 k7 i8 ?_
    refine v_pick [1, 2, 3, 4, 5, 6, 7, 0] rfl ?_
    exact b_X12_takeOut_160 hX hE hK25 _ h
  · have h := h_E c5 h
    refine v_iload_n hX dX12_takeOut_141 3 rfl rfl ?_
    refine v_aload_n hX dX12_takeOut_142 1 rfl rfl ?_
    refine v_getR hX dX12_takeOut_143 f_RX12_118 rfl k1 ?_
    refine v_iload hX dX12_takeOut_146 7 rfl ?_
    obtain ⟨a9, e_a9, h⟩ := h
    refine v_nn1 e_a9 ?_
    obtain ⟨k10, h⟩ := h
    obtain ⟨i11, h⟩ := h
    refine v_iald hX dX12_takeOut_148 k10 i11 ?_
    refine v_isub hX dX12_takeOut_149 ?_
    refine v_goto (tgt := 160) hX dX12_takeOut_150 (by decide) ?_
    refine v_pick [1, 2, 3, 4, 5, 6, 7, 0] rfl ?_
    exact b_X12_takeOut_160 hX hE hK25 _ h
set_option maxRecDepth 100000 in
set_option maxHeartbeats 4000000 in
theorem b_X12_takeOut_380 {X : h_X} (hX : h_ok X cX12_takeOut 10 RX12 1 26) {Q : h_S → Prop} (hE : h_end X none (h_QV (x_Z X) Q)) : ∀ (n : Nat) (o0 : Nat) (x4 : Int32) (x6 : Int32) (x7 : Int32) (s : h_S), w_X12_takeOut_380 Q n o0 x4 x6 x7 s → h_V X 10 380 [(0, pR (some o0)), (4, pI x4), (6, pI x6), (7, pI x7)] [] s 0 0 := by
  intro n
  induction n with
  | zero => intro _ _ _ _ s h; exact h.elim
  | succ n hK380 =>
    intro o0 x4 x6 x7 s h
    have h : w_X12_takeOut_380b Q (w_X12_takeOut_380 Q n) o0 x4 x6 x7 s := h
    unfold w_X12_takeOut_380b at h
    refine v_iload hX dX12_takeOut_380 3 rfl ?_
    refine v_iload hX dX12_takeOut_382 1 rfl ?_
    refine v_icmp_ge (tgt := 449) hX dX12_takeOut_384 (by decide) (fun c1 => ?_) (fun c1 => ?_)
    · have h := h_T c1 h
      exact v_vret hX hE dX12_takeOut_449 h
    · have h := h_E c1 h
      refine v_aload_n hX dX12_takeOut_387 0 rfl rfl ?_
      refine v_iload hX dX12_takeOut_388 3 rfl ?_
      refine v_aload_n hX dX12_takeOut_390 0 rfl rfl ?_
      obtain ⟨k2, h⟩ := h
      refine v_getR hX dX12_takeOut_391 f_RX12_103 rfl k2 ?_
      refine v_iload hX dX12_takeOut_394 2 rfl ?_
      refine v_iload hX dX12_takeOut_396 3 rfl ?_
      refine v_iadd hX dX12_takeOut_398 ?_
      obtain ⟨a3, e_a3, h⟩ := h
      refine v_nn1 e_a3 ?_
      obtain ⟨k4, h⟩ := h
      obtain ⟨i5, h⟩ := h
      refine v_iald hX dX12_takeOut_399 k4 i5 ?_
      refine v_aload_n hX dX12_takeOut_400 0 rfl rfl ?_
      refine v_getR hX dX12_takeOut_401 f_RX12_106 rfl k2 ?_
      refine v_iload hX dX12_takeOut_404 2 rfl ?_
      refine v_iload hX dX12_takeOut_406 3 rfl ?_
      refine v_iadd hX dX12_takeOut_408 ?_
      obtain ⟨a6, e_a6, h⟩ := h
      refine v_nn1 e_a6 ?_
      obtain ⟨k7, h⟩ := h
      obtain ⟨i8, h⟩ := h
      refine v_iald hX dX12_takeOut_409 k7 i8 ?_
      refine v_aload_n hX dX12_takeOut_410 0 rfl rfl ?_
      refine v_getR hX dX12_takeOut_411 f_RX12_109 rfl k2 ?_
      refine v_iload hX dX12_takeOut_414 2 rfl ?_
      refine v_iload hX dX12_takeOut_416 3 rfl ?_
      refine v_iadd hX dX12_takeOut_418 ?_
      obtain ⟨a9, e_a9, h⟩ := h
      refine v_nn1 e_a9 ?_
      obtain ⟨k10, h⟩ := h
      obtain ⟨i11, h⟩ := h
      refine v_iald hX dX12_takeOut_419 k10 i11 ?_
      refine v_aload_n hX dX12_takeOut_420 0 rfl rfl ?_
      refine v_getR hX dX12_takeOut_421 f_RX12_112 rfl k2 ?_
      refine v_iload hX dX12_takeOut_424 2 rfl ?_
      refine v_iload hX dX12_takeOut_426 3 rfl ?_
      refine v_iadd hX dX12_takeOut_428 ?_
      obtain ⟨a12, e_a12, h⟩ := h
      refine v_nn1 e_a12 ?_
      obtain ⟨k13, h⟩ := h
      obtain ⟨i14, h⟩ := h
      refine v_iald hX dX12_takeOut_429 k13 i14 ?_
      refine v_aload_n hX dX12_takeOut_430 0 rfl rfl ?_
      refine v_getR hX dX12_takeOut_431 f_RX12_115 rfl k2 ?_
      refine v_iload hX dX12_takeOut_434 2 rfl ?_
      refine v_iload hX dX12_takeOut_436 3 rfl ?_
      refine v_iadd hX dX12_takeOut_438 ?_
      obtain ⟨a15, e_a15, h⟩ := h
      refine v_nn1 e_a15 ?_
      obtain ⟨k16, h⟩ := h
      obtain ⟨i17, h⟩ := h
      refine v_iald hX dX12_takeOut_439 k16 i17 ?_
      refine v_callVv0 hX dX12_takeOut_440 c_RX12_348 cV_X12_setPiece (ci := 13) (T := TX12) (N := 115) rfl (by exact k2) [pI _, pI _, pI _, pI _, pI _, pI _] rfl rfl (Nat.le_of_ble_eq_true rfl) (by decide) (by decide)  (m_X12_setPiece h) (fun s18 h => ?_)
      refine v_iinc (c := 1) (lv' := [(7, _), (0, _), (4, _), (6, _)]) hX dX12_takeOut_443 3 rfl (by decide) (by decide) rfl ?_
      refine v_goto (tgt := 380) hX dX12_takeOut_446 (by decide) ?_
      refine v_pick [1, 2, 3, 0] rfl ?_
      exact hK380 _ _ _ _ _ h
set_option maxRecDepth 100000 in
set_option maxHeartbeats 4000000 in
theorem b_X12_takeOut_25 {X : h_X} (hX : h_ok X cX12_takeOut 10 RX12 1 26) {Q : h_S → Prop} (hE : h_end X none (h_QV (x_Z X) Q)) : ∀ (n : Nat) (o0 : Nat) (x1 : Int32) (x3 : Int32) (x4 : Int32) (x5 : Int32) (x6 : Int32) (x7 : Int32) (s : h_S), w_X12_takeOut_25 Q n o0 x1 x3 x4 x5 x6 x7 s → h_V X 10 25 [(0, pR (some o0)), (1, pI x1), (3, pI x3), (4, pI x4), (5, pI x5), (6, pI x6), (7, pI x7)] [] s 0 0 := by
  intro n
  induction n with
  | zero => intro _ _ _ _ _ _ _ s h; exact h.elim
  | succ n hK25 =>
    intro o0 x1 x3 x4 x5 x6 x7 s h
    have h : w_X12_takeOut_25b Q (w_X12_takeOut_25 Q n) o0 x1 x3 x4 x5 x6 x7 s := h
    unfold w_X12_takeOut_25b at h
    refine v_iload hX dX12_takeOut_25 6 rfl ?_
    refine v_iload hX dX12_takeOut_27 4 rfl ?_
    refine v_icmp_ge (tgt := 371) hX dX12_takeOut_29 (by decide) (fun c1 => ?_) (fun c1 => ?_)
    · have h := h_T c1 h
      refine v_aload_n hX dX12_takeOut_371 0 rfl rfl ?_
      refine v_iload hX dX12_takeOut_372 3 rfl ?_
      obtain ⟨k2, h⟩ := h
      refine v_putI hX dX12_takeOut_374 f_RX12_345 k2 ?_
      refine v_iconst (v := 0) hX dX12_takeOut_377 (by decide) ?_
      refine v_istore (lv' := [(7, _), (0, _), (1, _), (3, _), (4, _), (5, _), (6, _)]) hX dX12_takeOut_378 (by decide) rfl ?_
      refine v_pick [1, 4, 6, 0] rfl ?_
      obtain ⟨n, h⟩ := h
      exact b_X12_takeOut_380 hX hE n _ _ _ _ _ h
    · have h := h_E c1 h
      refine v_aload_n hX dX12_takeOut_32 0 rfl rfl ?_
      obtain ⟨k4, h⟩ := h
      refine v_getR hX dX12_takeOut_33 f_RX12_121 rfl k4 ?_
      refine v_iload hX dX12_takeOut_36 6 rfl ?_
      obtain ⟨a5, e_a5, h⟩ := h
      refine v_nn1 e_a5 ?_
      obtain ⟨k6, h⟩ := h
      obtain ⟨i7, h⟩ := h
      refine v_iald hX dX12_takeOut_38 k6 i7 ?_
      refine v_iload_n hX dX12_takeOut_39 1 rfl rfl ?_
      refine v_icmp_le (tgt := 54) hX dX12_takeOut_40 (by decide) (fun c8 => ?_) (fun c8 => ?_)
      · have h := h_T c8 h
        refine v_pick [0, 1, 2, 3, 4, 5, 6] rfl ?_
        exact b_X12_takeOut_54 hX hE hK25 _ h
      · have h := h_E c8 h
        refine v_aload_n hX dX12_takeOut_43 0 rfl rfl ?_
        refine v_getR hX dX12_takeOut_44 f_RX12_118 rfl k4 ?_
        refine v_iload hX dX12_takeOut_47 6 rfl ?_
        obtain ⟨a9, e_a9, h⟩ := h
        refine v_nn1 e_a9 ?_
        obtain ⟨k10, h⟩ := h
        obtain ⟨i11, h⟩ := h
        refine v_iald hX dX12_takeOut_49 k10 i11 ?_
        refine v_iload_n hX dX12_takeOut_50 2 rfl rfl ?_
        refine v_icmp_lt (tgt := 104) hX dX12_takeOut_51 (by decide) (fun c12 => ?_) (fun c12 => ?_)
        · have h := h_T c12 h
          refine v_aload_n hX dX12_takeOut_104 0 rfl rfl ?_
          refine v_getR hX dX12_takeOut_105 f_RX12_118 rfl k4 ?_
          refine v_iload hX dX12_takeOut_108 6 rfl ?_
          obtain ⟨a13, e_a13, h⟩ := h
          refine v_nn1 e_a13 ?_
          obtain ⟨k14, h⟩ := h
          obtain ⟨i15, h⟩ := h
          refine v_iald hX dX12_takeOut_110 k14 i15 ?_
          refine v_iload_n hX dX12_takeOut_111 1 rfl rfl ?_
          refine v_icmp_ge (tgt := 127) hX dX12_takeOut_112 (by decide) (fun c16 => ?_) (fun c16 => ?_)
          · have h := h_T c16 h
            refine v_iconst (v := 0) hX dX12_takeOut_127 (by decide) ?_
            refine v_pick [0, 1, 2, 3, 4, 5, 6] rfl ?_
            exact b_X12_takeOut_128 hX hE hK25 _ h
          · have h := h_E c16 h
            refine v_iload_n hX dX12_takeOut_115 1 rfl rfl ?_
            refine v_aload_n hX dX12_takeOut_116 0 rfl rfl ?_
            refine v_getR hX dX12_takeOut_117 f_RX12_118 rfl k4 ?_
            refine v_iload hX dX12_takeOut_120 6 rfl ?_
            obtain ⟨a17, e_a17, h⟩ := h
            refine v_nn1 e_a17 ?_
            obtain ⟨k18, h⟩ := h
            obtain ⟨i19, h⟩ := h
            refine v_iald hX dX12_takeOut_122 k18 i19 ?_
            refine v_isub hX dX12_takeOut_123 ?_
            refine v_goto (tgt := 128) hX dX12_takeOut_124 (by decide) ?_
            refine v_pick [0, 1, 2, 3, 4, 5, 6] rfl ?_
            exact b_X12_takeOut_128 hX hE hK25 _ h
        · have h := h_E c12 h
          refine v_pick [0, 1, 2, 3, 4, 5, 6] rfl ?_
          exact b_X12_takeOut_54 hX hE hK25 _ h
set_option maxRecDepth 100000 in
set_option maxHeartbeats 4000000 in
theorem m_X12_takeOut {Z : h_Z} {o0 : Nat} {x1 : Int32} {x2 : Int32} {s : h_S} {Q : h_S → Prop} (h : w_X12_takeOut o0 x1 x2 s Q) : h_M Z yX12_takeOut cX12_takeOut 10 none 1 26 [pR (some o0), pI x1, pI x2] s 0 0 (h_QV Z Q) := by
  refine h_M.of (by decide) (Nat.le_of_ble_eq_true rfl) (fun X hZ hX hE hI => ?_)
  subst hZ
  unfold w_X12_takeOut at h
  show h_V X 10 0 [(0, pR (some o0)), (1, pI x1), (2, pI x2)] [] s 0 0
  refine v_iload_n hX dX12_takeOut_0 1 rfl rfl ?_
  refine v_iload_n hX dX12_takeOut_1 2 rfl rfl ?_
  refine v_iadd hX dX12_takeOut_2 ?_
  refine v_istore_n (lv' := [(3, _), (0, _), (1, _), (2, _)]) hX dX12_takeOut_3 rfl (by decide) rfl ?_
  refine v_iconst (v := 0) hX dX12_takeOut_4 (by decide) ?_
  refine v_istore (lv' := [(4, _), (3, _), (0, _), (1, _), (2, _)]) hX dX12_takeOut_5 (by decide) rfl ?_
  refine v_aload_n hX dX12_takeOut_7 2 rfl rfl ?_
  refine v_iconst (v := 0) hX dX12_takeOut_8 (by decide) ?_
  obtain ⟨k1, h⟩ := h
  refine v_putI hX dX12_takeOut_9 f_RX12_376 k1 ?_
  refine v_aload_n hX dX12_takeOut_12 2 rfl rfl ?_
  refine v_getI hX dX12_takeOut_13 f_RX12_345 rfl k1 ?_
  refine v_istore (lv' := [(5, _), (4, _), (3, _), (0, _), (1, _), (2, _)]) hX dX12_takeOut_16 (by decide) rfl ?_
  refine v_bipush (v := 30) hX dX12_takeOut_18 (by decide) ?_
  refine v_istore (lv' := [(6, _), (5, _), (4, _), (3, _), (0, _), (1, _), (2, _)]) hX dX12_takeOut_20 (by decide) rfl ?_
  refine v_iconst (v := 0) hX dX12_takeOut_22 (by decide) ?_
  refine v_istore (lv' := [(7, _), (6, _), (5, _), (4, _), (3, _), (0, _), (1, _), (2, _)]) hX dX12_takeOut_23 (by decide) rfl ?_
  refine v_pick [5, 6, 4, 3, 2, 1, 0] rfl ?_
  obtain ⟨n, h⟩ := h
  exact b_X12_takeOut_25 hX hE n _ _ _ _ _ _ _ _ h
set_option maxRecDepth 100000 in
set_option maxHeartbeats 4000000 in
theorem m_X12_shownThen {Z : h_Z} {o0 : Nat} {x1 : Int32} {s : h_S} {Q : Int32 → h_S → Prop} (h : w_X12_shownThen o0 x1 s Q) : h_M Z yX12_shownThen cX12_shownThen 2 (some .int) 4 97 [pR (some o0), pI x1] s 0 0 (h_QI Z Q) := by
  refine h_M.of (by decide) (Nat.le_of_ble_eq_true rfl) (fun X hZ hX hE hI => ?_)
  subst hZ
  unfold w_X12_shownThen at h
  show h_V X 2 0 [(0, pR (some o0)), (1, pI x1)] [] s 0 0
  refine v_aload_n hX dX12_shownThen_0 0 rfl rfl ?_
  refine v_iload_n hX dX12_shownThen_1 1 rfl rfl ?_
  refine v_aload_n hX dX12_shownThen_2 0 rfl rfl ?_
  obtain ⟨k1, h⟩ := h
  refine v_getI hX dX12_shownThen_3 f_RX12_288 rfl k1 ?_
  refine v_iconst (v := 1) hX dX12_shownThen_6 (by decide) ?_
  refine v_iadd hX dX12_shownThen_7 ?_
  refine v_callVv0 hX dX12_shownThen_8 c_RX12_352 cV_X12_lay (ci := 13) (T := TX12) (N := 115) rfl (by exact k1) [pI _, pI _] rfl rfl (Nat.le_of_ble_eq_true rfl) (by decide) (by decide)  (m_X12_lay h) (fun s2 h => ?_)
  refine v_aload_n hX dX12_shownThen_11 0 rfl rfl ?_
  obtain ⟨k4, h⟩ := h
  refine v_getI hX dX12_shownThen_12 f_RX12_342 rfl k4 ?_
  exact v_iret hX hE dX12_shownThen_15 h
set_option maxRecDepth 100000 in
set_option maxHeartbeats 4000000 in
theorem b_X12_noPlaceAhead_28 {X : h_X} (hX : h_ok X cX12_noPlaceAhead 3 RX12 4 97) {Q : Int32 → h_S → Prop} (hE : h_end X (some .boolean) (h_QI (x_Z X) Q)) {y0 : Int32} (s : h_S) (h : w_X12_noPlaceAhead_28 Q y0 s) : h_V X 3 28 [] [pI y0] s 0 0 := by
  unfold w_X12_noPlaceAhead_28 at h
  exact v_zret hX hE dX12_noPlaceAhead_28 h.1 h.2
set_option maxRecDepth 100000 in
set_option maxHeartbeats 4000000 in
theorem m_X12_noPlaceAhead {Z : h_Z} {o0 : Nat} {x1 : Int32} {x2 : Int32} {s : h_S} {Q : Int32 → h_S → Prop} (h : w_X12_noPlaceAhead o0 x1 x2 s Q) : h_M Z yX12_noPlaceAhead cX12_noPlaceAhead 3 (some .boolean) 4 97 [pR (some o0), pI x1, pI x2] s 0 0 (h_QI Z Q) := by
  refine h_M.of (by decide) (Nat.le_of_ble_eq_true rfl) (fun X hZ hX hE hI => ?_)
  subst hZ
  unfold w_X12_noPlaceAhead at h
  show h_V X 3 0 [(0, pR (some o0)), (1, pI x1), (2, pI x2)] [] s 0 0
  refine v_aload_n hX dX12_noPlaceAhead_0 0 rfl rfl ?_
  refine v_iload_n hX dX12_noPlaceAhead_1 1 rfl rfl ?_
  refine v_aload_n hX dX12_noPlaceAhead_2 0 rfl rfl ?_
  obtain ⟨k1, h⟩ := h
  refine v_getI hX dX12_noPlaceAhead_3 f_RX12_288 rfl k1 ?_
  refine v_callVv0 hX dX12_noPlaceAhead_6 c_RX12_352 cV_X12_lay (ci := 13) (T := TX12) (N := 115) rfl (by exact k1) [pI _, pI _] rfl rfl (Nat.le_of_ble_eq_true rfl) (by decide) (by decide)  (m_X12_lay h) (fun s2 h => ?_)
  refine v_iload_n hX dX12_noPlaceAhead_9 2 rfl rfl ?_
  refine v_i2l hX dX12_noPlaceAhead_10 ?_
  refine v_lconst (v := 0) hX dX12_noPlaceAhead_11 (by decide) ?_
  refine v_aload_n hX dX12_noPlaceAhead_12 0 rfl rfl ?_
  obtain ⟨k4, h⟩ := h
  refine v_getI hX dX12_noPlaceAhead_13 f_RX12_342 rfl k4 ?_
  refine v_i2l hX dX12_noPlaceAhead_16 ?_
  refine v_callSi0 hX dX12_noPlaceAhead_17 c_RX12_298 cS_X12_in [pL _, pL _, pL _] rfl rfl (Nat.le_of_ble_eq_true rfl) (by decide) (by decide)  (m_X12_in h) (fun p6 s5 h => ?_)
  refine v_if_ne (tgt := 27) hX dX12_noPlaceAhead_20 (by decide) (fun c7 => ?_) (fun c7 => ?_)
  · have h := h_E c7 h
    refine v_iconst (v := 0) hX dX12_noPlaceAhead_27 (by decide) ?_
    refine v_pick [] rfl ?_
    exact b_X12_noPlaceAhead_28 hX hE _ h
  · have h := h_T c7 h
    refine v_iconst (v := 1) hX dX12_noPlaceAhead_23 (by decide) ?_
    refine v_goto (tgt := 28) hX dX12_noPlaceAhead_24 (by decide) ?_
    refine v_pick [] rfl ?_
    exact b_X12_noPlaceAhead_28 hX hE _ h
set_option maxRecDepth 100000 in
set_option maxHeartbeats 4000000 in
theorem b_X12_noSheet_17 {X : h_X} (hX : h_ok X cX12_noSheet 1 RX12 1 25) {Q : Int32 → h_S → Prop} (hE : h_end X (some .boolean) (h_QI (x_Z X) Q)) {y0 : Int32} (s : h_S) (h : w_X12_noSheet_17 Q y0 s) : h_V X 1 17 [] [pI y0] s 0 0 := by
  unfold w_X12_noSheet_17 at h
  exact v_zret hX hE dX12_noSheet_17 h.1 h.2
set_option maxRecDepth 100000 in
set_option maxHeartbeats 4000000 in
theorem m_X12_noSheet {Z : h_Z} {x0 : Int32} {s : h_S} {Q : Int32 → h_S → Prop} (h : w_X12_noSheet x0 s Q) : h_M Z yX12_noSheet cX12_noSheet 1 (some .boolean) 1 25 [pI x0] s 0 0 (h_QI Z Q) := by
  refine h_M.of (by decide) (Nat.le_of_ble_eq_true rfl) (fun X hZ hX hE hI => ?_)
  subst hZ
  unfold w_X12_noSheet at h
  show h_V X 1 0 [(0, pI x0)] [] s 0 0
  refine v_iload_n hX dX12_noSheet_0 0 rfl rfl ?_
  refine v_i2l hX dX12_noSheet_1 ?_
  refine v_lconst (v := 0) hX dX12_noSheet_2 (by decide) ?_
  refine v_ldc2 hX dX12_noSheet_3 k_RX12_309 ?_
  refine v_callSi0 hX dX12_noSheet_6 c_RX12_298 cS_X12_in [pL _, pL _, pL _] rfl rfl (Nat.le_of_ble_eq_true rfl) (by decide) (by decide)  (m_X12_in h) (fun p2 s1 h => ?_)
  refine v_if_ne (tgt := 16) hX dX12_noSheet_9 (by decide) (fun c3 => ?_) (fun c3 => ?_)
  · have h := h_E c3 h
    refine v_iconst (v := 0) hX dX12_noSheet_16 (by decide) ?_
    refine v_pick [] rfl ?_
    exact b_X12_noSheet_17 hX hE _ h
  · have h := h_T c3 h
    refine v_iconst (v := 1) hX dX12_noSheet_12 (by decide) ?_
    refine v_goto (tgt := 17) hX dX12_noSheet_13 (by decide) ?_
    refine v_pick [] rfl ?_
    exact b_X12_noSheet_17 hX hE _ h
set_option maxRecDepth 100000 in
set_option maxHeartbeats 4000000 in
theorem b_X12_isBeyond_25 {X : h_X} (hX : h_ok X cX12_isBeyond 4 RX12 0 0) {Q : Int32 → h_S → Prop} (hE : h_end X (some .boolean) (h_QI (x_Z X) Q)) {y0 : Int32} (s : h_S) (h : w_X12_isBeyond_25 Q y0 s) : h_V X 4 25 [] [pI y0] s 0 0 := by
  unfold w_X12_isBeyond_25 at h
  exact v_zret hX hE dX12_isBeyond_25 h.1 h.2
set_option maxRecDepth 100000 in
set_option maxHeartbeats 4000000 in
theorem b_X12_isBeyond_20 {X : h_X} (hX : h_ok X cX12_isBeyond 4 RX12 0 0) {Q : Int32 → h_S → Prop} (hE : h_end X (some .boolean) (h_QI (x_Z X) Q)) (s : h_S) (h : w_X12_isBeyond_20 Q s) : h_V X 4 20 [] [] s 0 0 := by
  unfold w_X12_isBeyond_20 at h
  refine v_iconst (v := 1) hX dX12_isBeyond_20 (by decide) ?_
  refine v_goto (tgt := 25) hX dX12_isBeyond_21 (by decide) ?_
  refine v_pick [] rfl ?_
  exact b_X12_isBeyond_25 hX hE _ h
set_option maxRecDepth 100000 in
set_option maxHeartbeats 4000000 in
theorem m_X12_isBeyond {Z : h_Z} {x0 : Int32} {l1 : Int64} {x3 : Int32} {s : h_S} {Q : Int32 → h_S → Prop} (h : w_X12_isBeyond x0 l1 x3 s Q) : h_M Z yX12_isBeyond cX12_isBeyond 4 (some .boolean) 0 0 [pI x0, pL l1, pI x3] s 0 0 (h_QI Z Q) := by
  refine h_M.of (by decide) (Nat.le_of_ble_eq_true rfl) (fun X hZ hX hE hI => ?_)
  subst hZ
  unfold w_X12_isBeyond at h
  show h_V X 4 0 [(0, pI x0), (1, pL l1), (3, pI x3)] [] s 0 0
  refine v_iload_n hX dX12_isBeyond_0 0 rfl rfl ?_
  refine v_if_lt (tgt := 20) hX dX12_isBeyond_1 (by decide) (fun c1 => ?_) (fun c1 => ?_)
  · have h := h_T c1 h
    refine v_pick [] rfl ?_
    exact b_X12_isBeyond_20 hX hE _ h
  · have h := h_E c1 h
    refine v_lload_n hX dX12_isBeyond_4 1 rfl rfl ?_
    refine v_lconst (v := 0) hX dX12_isBeyond_5 (by decide) ?_
    refine v_lcmp hX dX12_isBeyond_6 ?_
    refine v_if_lt (tgt := 20) hX dX12_isBeyond_7 (by decide) (fun c2 => ?_) (fun c2 => ?_)
    · have h := h_T c2 h
      refine v_pick [] rfl ?_
      exact b_X12_isBeyond_20 hX hE _ h
    · have h := h_E c2 h
      refine v_iload_n hX dX12_isBeyond_10 0 rfl rfl ?_
      refine v_i2l hX dX12_isBeyond_11 ?_
      refine v_lload_n hX dX12_isBeyond_12 1 rfl rfl ?_
      refine v_ladd hX dX12_isBeyond_13 ?_
      refine v_iload_n hX dX12_isBeyond_14 2 rfl rfl ?_
      refine v_i2l hX dX12_isBeyond_15 ?_
      refine v_lcmp hX dX12_isBeyond_16 ?_
      refine v_if_le (tgt := 24) hX dX12_isBeyond_17 (by decide) (fun c3 => ?_) (fun c3 => ?_)
      · have h := h_T c3 h
        refine v_iconst (v := 0) hX dX12_isBeyond_24 (by decide) ?_
        refine v_pick [] rfl ?_
        exact b_X12_isBeyond_25 hX hE _ h
      · have h := h_E c3 h
        refine v_pick [] rfl ?_
        exact b_X12_isBeyond_20 hX hE _ h
set_option maxRecDepth 100000 in
set_option maxHeartbeats 4000000 in
theorem b_X12_barred_95 {X : h_X} (hX : h_ok X cX12_barred 5 RX12 1 25) {Q : Int32 → h_S → Prop} (hE : h_end X (some .int) (h_QI (x_Z X) Q)) {y0 : Int32} (s : h_S) (h : w_X12_barred_95 Q y0 s) : h_V X 5 95 [] [pI y0] s 0 0 := by
  unfold w_X12_barred_95 at h
  exact v_iret hX hE dX12_barred_95 h
set_option maxRecDepth 100000 in
set_option maxHeartbeats 4000000 in
theorem b_X12_barred_44 {X : h_X} (hX : h_ok X cX12_barred 5 RX12 1 25) {Q : Int32 → h_S → Prop} (hE : h_end X (some .int) (h_QI (x_Z X) Q)) {o0 : Nat} {x1 : Int32} {x3 : Int32} {x4 : Int32} (s : h_S) (h : w_X12_barred_44 Q o0 x1 x3 x4 s) : h_V X 5 44 [(0, pR (some o0)), (1, pI x1), (3, pI x3), (4, pI x4)] [] s 0 0 := by
  unfold w_X12_barred_44 at h
  refine v_aload_n hX dX12_barred_44 0 rfl rfl ?_
  obtain ⟨k1, h⟩ := h
  refine v_getR hX dX12_barred_45 f_RX12_258 rfl k1 ?_
  refine v_iload_n hX dX12_barred_48 1 rfl rfl ?_
  obtain ⟨a2, e_a2, h⟩ := h
  refine v_nn1 e_a2 ?_
  obtain ⟨k3, h⟩ := h
  obtain ⟨i4, h⟩ := h
  refine v_iald hX dX12_barred_49 k3 i4 ?_
  refine v_if_ge (tgt := 59) hX dX12_barred_50 (by decide) (fun c5 => ?_) (fun c5 => ?_)
  · have h := h_T c5 h
    refine v_iload hX dX12_barred_59 3 rfl ?_
    refine v_if_ge (tgt := 70) hX dX12_barred_61 (by decide) (fun c6 => ?_) (fun c6 => ?_)
    · have h := h_T c6 h
      refine v_iload_n hX dX12_barred_70 2 rfl rfl ?_
      refine v_iload hX dX12_barred_71 3 rfl ?_
      refine v_i2l hX dX12_barred_73 ?_
      refine v_aload_n hX dX12_barred_74 0 rfl rfl ?_
      refine v_getR hX dX12_barred_75 f_RX12_258 rfl k1 ?_
      refine v_iload_n hX dX12_barred_78 1 rfl rfl ?_
      obtain ⟨a7, e_a7, h⟩ := h
      refine v_nn1 e_a7 ?_
      obtain ⟨k8, h⟩ := h
      obtain ⟨i9, h⟩ := h
      refine v_iald hX dX12_barred_79 k8 i9 ?_
      refine v_callSi0 hX dX12_barred_80 c_RX12_411 cS_X12_isBeyond [pI _, pL _, pI _] rfl rfl (Nat.le_of_ble_eq_true rfl) (by decide) (by decide)  (m_X12_isBeyond h) (fun p11 s10 h => ?_)
      refine v_if_eq (tgt := 94) hX dX12_barred_83 (by decide) (fun c12 => ?_) (fun c12 => ?_)
      · have h := h_T c12 h
        refine v_iconst (v := 0) hX dX12_barred_94 (by decide) ?_
        refine v_pick [] rfl ?_
        exact b_X12_barred_95 hX hE _ h
      · have h := h_E c12 h
        refine v_aload_n hX dX12_barred_86 0 rfl rfl ?_
        refine v_iconst (v := 3) hX dX12_barred_87 (by decide) ?_
        obtain ⟨k13, h⟩ := h
        refine v_callVi0 hX dX12_barred_88 c_RX12_408 cV_X12_failed (ci := 13) (T := TX12) (N := 115) rfl (by exact k13) [pI _] rfl rfl (Nat.le_of_ble_eq_true rfl) (by decide) (by decide)  (m_X12_failed h) (fun p15 s14 h => ?_)
        refine v_goto (tgt := 95) hX dX12_barred_91 (by decide) ?_
        refine v_pick [] rfl ?_
        exact b_X12_barred_95 hX hE _ h
    · have h := h_E c6 h
      refine v_aload_n hX dX12_barred_64 0 rfl rfl ?_
      refine v_iconst (v := 4) hX dX12_barred_65 (by decide) ?_
      refine v_callVi0 hX dX12_barred_66 c_RX12_408 cV_X12_failed (ci := 13) (T := TX12) (N := 115) rfl (by exact k1) [pI _] rfl rfl (Nat.le_of_ble_eq_true rfl) (by decide) (by decide)  (m_X12_failed h) (fun p17 s16 h => ?_)
      exact v_iret hX hE dX12_barred_69 h
  · have h := h_E c5 h
    refine v_aload_n hX dX12_barred_53 0 rfl rfl ?_
    refine v_iconst (v := 1) hX dX12_barred_54 (by decide) ?_
    refine v_callVi0 hX dX12_barred_55 c_RX12_408 cV_X12_failed (ci := 13) (T := TX12) (N := 115) rfl (by exact k1) [pI _] rfl rfl (Nat.le_of_ble_eq_true rfl) (by decide) (by decide)  (m_X12_failed h) (fun p19 s18 h => ?_)
    exact v_iret hX hE dX12_barred_58 h
set_option maxRecDepth 100000 in
set_option maxHeartbeats 4000000 in
theorem m_X12_barred {Z : h_Z} {o0 : Nat} {x1 : Int32} {x2 : Int32} {x3 : Int32} {x4 : Int32} {s : h_S} {Q : Int32 → h_S → Prop} (h : w_X12_barred o0 x1 x2 x3 x4 s Q) : h_M Z yX12_barred cX12_barred 5 (some .int) 1 25 [pR (some o0), pI x1, pI x2, pI x3, pI x4] s 0 0 (h_QI Z Q) := by
  refine h_M.of (by decide) (Nat.le_of_ble_eq_true rfl) (fun X hZ hX hE hI => ?_)
  subst hZ
  unfold w_X12_barred at h
  show h_V X 5 0 [(0, pR (some o0)), (1, pI x1), (2, pI x2), (3, pI x3), (4, pI x4)] [] s 0 0
  refine v_iload_n hX dX12_barred_0 2 rfl rfl ?_
  refine v_i2l hX dX12_barred_1 ?_
  refine v_lconst (v := 0) hX dX12_barred_2 (by decide) ?_
  refine v_ldc2 hX dX12_barred_3 k_RX12_406 ?_
  refine v_callSi0 hX dX12_barred_6 c_RX12_298 cS_X12_in [pL _, pL _, pL _] rfl rfl (Nat.le_of_ble_eq_true rfl) (by decide) (by decide)  (m_X12_in h) (fun p2 s1 h => ?_)
  refine v_if_ne (tgt := 19) hX dX12_barred_9 (by decide) (fun c3 => ?_) (fun c3 => ?_)
  · have h := h_E c3 h
    refine v_aload_n hX dX12_barred_19 0 rfl rfl ?_
    obtain ⟨k4, h⟩ := h
    refine v_getR hX dX12_barred_20 f_RX12_258 rfl k4 ?_
    refine v_iload_n hX dX12_barred_23 1 rfl rfl ?_
    obtain ⟨a5, e_a5, h⟩ := h
    refine v_nn1 e_a5 ?_
    obtain ⟨k6, h⟩ := h
    obtain ⟨i7, h⟩ := h
    refine v_iald hX dX12_barred_24 k6 i7 ?_
    refine v_if_lt (tgt := 44) hX dX12_barred_25 (by decide) (fun c8 => ?_) (fun c8 => ?_)
    · have h := h_T c8 h
      refine v_pick [0, 1, 3, 4] rfl ?_
      exact b_X12_barred_44 hX hE _ h
    · have h := h_E c8 h
      refine v_aload_n hX dX12_barred_28 0 rfl rfl ?_
      refine v_getR hX dX12_barred_29 f_RX12_261 rfl k4 ?_
      refine v_iload_n hX dX12_barred_32 1 rfl rfl ?_
      obtain ⟨a9, e_a9, h⟩ := h
      refine v_nn1 e_a9 ?_
      obtain ⟨k10, h⟩ := h
      obtain ⟨i11, h⟩ := h
      refine v_iald hX dX12_barred_33 k10 i11 ?_
      refine v_iload_n hX dX12_barred_34 2 rfl rfl ?_
      refine v_icmp_eq (tgt := 44) hX dX12_barred_35 (by decide) (fun c12 => ?_) (fun c12 => ?_)
      · have h := h_T c12 h
        refine v_pick [0, 1, 3, 4] rfl ?_
        exact b_X12_barred_44 hX hE _ h
      · have h := h_E c12 h
        refine v_aload_n hX dX12_barred_38 0 rfl rfl ?_
        refine v_iconst (v := 2) hX dX12_barred_39 (by decide) ?_
        refine v_callVi0 hX dX12_barred_40 c_RX12_408 cV_X12_failed (ci := 13) (T := TX12) (N := 115) rfl (by exact k4) [pI _] rfl rfl (Nat.le_of_ble_eq_true rfl) (by decide) (by decide)  (m_X12_failed h) (fun p14 s13 h => ?_)
        exact v_iret hX hE dX12_barred_43 h
  · have h := h_T c3 h
    refine v_aload_n hX dX12_barred_12 0 rfl rfl ?_
    refine v_bipush (v := -2) hX dX12_barred_13 (by decide) ?_
    obtain ⟨k15, h⟩ := h
    refine v_callVi0 hX dX12_barred_15 c_RX12_389 cV_X12_refused (ci := 13) (T := TX12) (N := 115) rfl (by exact k15) [pI _] rfl rfl (Nat.le_of_ble_eq_true rfl) (by decide) (by decide)  (m_X12_refused h) (fun p17 s16 h => ?_)
    exact v_iret hX hE dX12_barred_18 h
set_option maxRecDepth 100000 in
set_option maxHeartbeats 4000000 in
theorem b_X12_put_24 {X : h_X} (hX : h_ok X cX12_put 11 RX12 5 119) {Q : Int32 → h_S → Prop} (hE : h_end X (some .int) (h_QI (x_Z X) Q)) {o0 : Nat} (s : h_S) (h : w_X12_put_24 Q o0 s) : h_V X 11 24 [(0, pR (some o0))] [] s 0 0 := by
  unfold w_X12_put_24 at h
  refine v_aload_n hX dX12_put_24 0 rfl rfl ?_
  refine v_iconst (v := -1) hX dX12_put_25 (by decide) ?_
  obtain ⟨k1, h⟩ := h
  refine v_callVi0 hX dX12_put_26 c_RX12_389 cV_X12_refused (ci := 13) (T := TX12) (N := 115) rfl (by exact k1) [pI _] rfl rfl (Nat.le_of_ble_eq_true rfl) (by decide) (by decide)  (m_X12_refused h) (fun p3 s2 h => ?_)
  exact v_iret hX hE dX12_put_29 h
set_option maxRecDepth 100000 in
set_option maxHeartbeats 4000000 in
theorem b_X12_put_150 {X : h_X} (hX : h_ok X cX12_put 11 RX12 5 119) {Q : Int32 → h_S → Prop} (hE : h_end X (some .int) (h_QI (x_Z X) Q)) {o0 : Nat} (s : h_S) (h : w_X12_put_150 Q o0 s) : h_V X 11 150 [(0, pR (some o0))] [] s 0 0 := by
  unfold w_X12_put_150 at h
  refine v_aload_n hX dX12_put_150 0 rfl rfl ?_
  refine v_bipush (v := -4) hX dX12_put_151 (by decide) ?_
  obtain ⟨k1, h⟩ := h
  refine v_callVi0 hX dX12_put_153 c_RX12_389 cV_X12_refused (ci := 13) (T := TX12) (N := 115) rfl (by exact k1) [pI _] rfl rfl (Nat.le_of_ble_eq_true rfl) (by decide) (by decide)  (m_X12_refused h) (fun p3 s2 h => ?_)
  exact v_iret hX hE dX12_put_156 h
set_option maxRecDepth 100000 in
set_option maxHeartbeats 4000000 in
theorem b_X12_put_199 {X : h_X} (hX : h_ok X cX12_put 11 RX12 5 119) {Q : Int32 → h_S → Prop} (hE : h_end X (some .int) (h_QI (x_Z X) Q)) {K171 : Nat → Int32 → Int32 → Int32 → Int32 → Int32 → Int32 → Int32 → h_S → Prop} (hK171 : ∀ (o0 : Nat) (x1 : Int32) (x3 : Int32) (x5 : Int32) (x6 : Int32) (x8 : Int32) (x9 : Int32) (x10 : Int32) (s : h_S), K171 o0 x1 x3 x5 x6 x8 x9 x10 s → h_V X 11 171 [(0, pR (some o0)), (1, pI x1), (3, pI x3), (5, pI x5), (6, pI x6), (8, pI x8), (9, pI x9), (10, pI x10)] [] s 0 0) {o0 : Nat} {x1 : Int32} {x3 : Int32} {x5 : Int32} {x6 : Int32} {x8 : Int32} {x10 : Int32} {y0 : Int32} {y1 : Int32} (s : h_S) (h : w_X12_put_199 Q K171 o0 x1 x3 x5 x6 x8 x10 y0 y1 s) : h_V X 11 199 [(0, pR (some o0)), (1, pI x1), (3, pI x3), (5, pI x5), (6, pI x6), (8, pI x8), (10, pI x10)] [pI y0, pI y1] s 0 0 := by
  unfold w_X12_put_199 at h
  refine v_iadd hX dX12_put_199 ?_
  refine v_istore (lv' := [(9, _), (0, _), (1, _), (3, _), (5, _), (6, _), (8, _), (10, _)]) hX dX12_put_200 (by decide) rfl ?_
  refine v_iinc (c := 1) (lv' := [(10, _), (9, _), (0, _), (1, _), (3, _), (5, _), (6, _), (8, _)]) hX dX12_put_202 7 rfl (by decide) (by decide) rfl ?_
  refine v_goto (tgt := 171) hX dX12_put_205 (by decide) ?_
  refine v_pick [2, 3, 4, 5, 6, 7, 1, 0] rfl ?_
  exact hK171 _ _ _ _ _ _ _ _ _ h
set_option maxRecDepth 100000 in
set_option maxHeartbeats 4000000 in
theorem b_X12_put_211 {X : h_X} (hX : h_ok X cX12_put 11 RX12 5 119) {Q : Int32 → h_S → Prop} (hE : h_end X (some .int) (h_QI (x_Z X) Q)) : ∀ (n : Nat) (o0 : Nat) (x1 : Int32) (x3 : Int32) (x5 : Int32) (x6 : Int32) (x8 : Int32) (x9 : Int32) (x10 : Int32) (s : h_S), w_X12_put_211 Q n o0 x1 x3 x5 x6 x8 x9 x10 s → h_V X 11 211 [(0, pR (some o0)), (1, pI x1), (3, pI x3), (5, pI x5), (6, pI x6), (8, pI x8), (9, pI x9), (10, pI x10)] [] s 0 0 := by
  intro n
  induction n with
  | zero => intro _ _ _ _ _ _ _ _ s h; exact h.elim
  | succ n hK211 =>
    intro o0 x1 x3 x5 x6 x8 x9 x10 s h
    have h : w_X12_put_211b Q (w_X12_put_211 Q n) o0 x1 x3 x5 x6 x8 x9 x10 s := h
    unfold w_X12_put_211b at h
    refine v_iload hX dX12_put_211 7 rfl ?_
    refine v_iload hX dX12_put_213 4 rfl ?_
    refine v_icmp_ge (tgt := 308) hX dX12_put_215 (by decide) (fun c1 => ?_) (fun c1 => ?_)
    · have h := h_T c1 h
      refine v_aload_n hX dX12_put_308 0 rfl rfl ?_
      refine v_aload_n hX dX12_put_309 0 rfl rfl ?_
      refine v_aload_n hX dX12_put_310 0 rfl rfl ?_
      obtain ⟨k2, h⟩ := h
      refine v_getI hX dX12_put_311 f_RX12_321 rfl k2 ?_
      refine v_iload hX dX12_put_314 4 rfl ?_
      refine v_isub hX dX12_put_316 ?_
      refine v_callVi0 hX dX12_put_317 c_RX12_302 cV_X12_acted (ci := 13) (T := TX12) (N := 115) rfl (by exact k2) [pI _] rfl rfl (Nat.le_of_ble_eq_true rfl) (by decide) (by decide)  (m_X12_acted h) (fun p4 s3 h => ?_)
      obtain ⟨k5, h⟩ := h
      refine v_callVi0 hX dX12_put_320 c_RX12_389 cV_X12_refused (ci := 13) (T := TX12) (N := 115) rfl (by exact k5) [pI _] rfl rfl (Nat.le_of_ble_eq_true rfl) (by decide) (by decide)  (m_X12_refused h) (fun p7 s6 h => ?_)
      exact v_iret hX hE dX12_put_323 h
    · have h := h_E c1 h
      refine v_aload_n hX dX12_put_218 0 rfl rfl ?_
      obtain ⟨k8, h⟩ := h
      refine v_getR hX dX12_put_219 f_RX12_55 rfl k8 ?_
      refine v_aload_n hX dX12_put_222 0 rfl rfl ?_
      refine v_getI hX dX12_put_223 f_RX12_321 rfl k8 ?_
      refine v_aload_n hX dX12_put_226 0 rfl rfl ?_
      refine v_getR hX dX12_put_227 f_RX12_264 rfl k8 ?_
      refine v_bipush (v := 60) hX dX12_put_230 (by decide) ?_
      refine v_iload_n hX dX12_put_232 2 rfl rfl ?_
      refine v_imul hX dX12_put_233 ?_
      refine v_iload hX dX12_put_234 3 rfl ?_
      refine v_iadd hX dX12_put_236 ?_
      refine v_iload hX dX12_put_237 7 rfl ?_
      refine v_iadd hX dX12_put_239 ?_
      obtain ⟨a9, e_a9, h⟩ := h
      refine v_nn1 e_a9 ?_
      obtain ⟨k10, h⟩ := h
      obtain ⟨i11, h⟩ := h
      refine v_iald hX dX12_put_240 k10 i11 ?_
      obtain ⟨a12, e_a12, h⟩ := h
      refine v_nn2 e_a12 ?_
      obtain ⟨k13, h⟩ := h
      obtain ⟨i14, h⟩ := h
      refine v_iast hX dX12_put_241 k13 i14 ?_
      refine v_aload_n hX dX12_put_242 0 rfl rfl ?_
      refine v_getR hX dX12_put_243 f_RX12_58 rfl k8 ?_
      refine v_aload_n hX dX12_put_246 0 rfl rfl ?_
      refine v_getI hX dX12_put_247 f_RX12_321 rfl k8 ?_
      refine v_iload hX dX12_put_250 5 rfl ?_
      obtain ⟨a16, e_a16, h⟩ := h
      refine v_nn2 e_a16 ?_
      obtain ⟨k17, h⟩ := h
      obtain ⟨i18, h⟩ := h
      refine v_iast hX dX12_put_252 k17 i18 ?_
      refine v_aload_n hX dX12_put_253 0 rfl rfl ?_
      refine v_getR hX dX12_put_254 f_RX12_61 rfl k8 ?_
      refine v_aload_n hX dX12_put_257 0 rfl rfl ?_
      refine v_getI hX dX12_put_258 f_RX12_321 rfl k8 ?_
      refine v_iload_n hX dX12_put_261 1 rfl rfl ?_
      obtain ⟨a20, e_a20, h⟩ := h
      refine v_nn2 e_a20 ?_
      obtain ⟨k21, h⟩ := h
      obtain ⟨i22, h⟩ := h
      refine v_iast hX dX12_put_262 k21 i22 ?_
      refine v_aload_n hX dX12_put_263 0 rfl rfl ?_
      refine v_getR hX dX12_put_264 f_RX12_64 rfl k8 ?_
      refine v_aload_n hX dX12_put_267 0 rfl rfl ?_
      refine v_getI hX dX12_put_268 f_RX12_321 rfl k8 ?_
      refine v_aload_n hX dX12_put_271 0 rfl rfl ?_
      refine v_getI hX dX12_put_272 f_RX12_288 rfl k8 ?_
      refine v_iconst (v := 1) hX dX12_put_275 (by decide) ?_
      refine v_iadd hX dX12_put_276 ?_
      obtain ⟨a24, e_a24, h⟩ := h
      refine v_nn2 e_a24 ?_
      obtain ⟨k25, h⟩ := h
      obtain ⟨i26, h⟩ := h
      refine v_iast hX dX12_put_277 k25 i26 ?_
      refine v_aload_n hX dX12_put_278 0 rfl rfl ?_
      refine v_getR hX dX12_put_279 f_RX12_67 rfl k8 ?_
      refine v_aload_n hX dX12_put_282 0 rfl rfl ?_
      refine v_getI hX dX12_put_283 f_RX12_321 rfl k8 ?_
      refine v_iload hX dX12_put_286 6 rfl ?_
      refine v_iload hX dX12_put_288 7 rfl ?_
      refine v_iadd hX dX12_put_290 ?_
      obtain ⟨a28, e_a28, h⟩ := h
      refine v_nn2 e_a28 ?_
      obtain ⟨k29, h⟩ := h
      obtain ⟨i30, h⟩ := h
      refine v_iast hX dX12_put_291 k29 i30 ?_
      refine v_aload_n hX dX12_put_292 0 rfl rfl ?_
      refine v_dup hX dX12_put_293 rfl ?_
      refine v_getI hX dX12_put_294 f_RX12_321 rfl k8 ?_
      refine v_iconst (v := 1) hX dX12_put_297 (by decide) ?_
      refine v_iadd hX dX12_put_298 ?_
      refine v_putI hX dX12_put_299 f_RX12_321 k8 ?_
      refine v_iinc (c := 1) (lv' := [(10, _), (0, _), (1, _), (3, _), (5, _), (6, _), (8, _), (9, _)]) hX dX12_put_302 7 rfl (by decide) (by decide) rfl ?_
      refine v_goto (tgt := 211) hX dX12_put_305 (by decide) ?_
      refine v_pick [1, 2, 3, 4, 5, 6, 7, 0] rfl ?_
      exact hK211 _ _ _ _ _ _ _ _ _ h
set_option maxRecDepth 100000 in
set_option maxHeartbeats 4000000 in
theorem b_X12_put_171 {X : h_X} (hX : h_ok X cX12_put 11 RX12 5 119) {Q : Int32 → h_S → Prop} (hE : h_end X (some .int) (h_QI (x_Z X) Q)) : ∀ (n : Nat) (o0 : Nat) (x1 : Int32) (x3 : Int32) (x5 : Int32) (x6 : Int32) (x8 : Int32) (x9 : Int32) (x10 : Int32) (s : h_S), w_X12_put_171 Q n o0 x1 x3 x5 x6 x8 x9 x10 s → h_V X 11 171 [(0, pR (some o0)), (1, pI x1), (3, pI x3), (5, pI x5), (6, pI x6), (8, pI x8), (9, pI x9), (10, pI x10)] [] s 0 0 := by
  intro n
  induction n with
  | zero => intro _ _ _ _ _ _ _ _ s h; exact h.elim
  | succ n hK171 =>
    intro o0 x1 x3 x5 x6 x8 x9 x10 s h
    have h : w_X12_put_171b Q (w_X12_put_171 Q n) o0 x1 x3 x5 x6 x8 x9 x10 s := h
    unfold w_X12_put_171b at h
    refine v_iload hX dX12_put_171 7 rfl ?_
    refine v_aload_n hX dX12_put_173 0 rfl rfl ?_
    obtain ⟨k1, h⟩ := h
    refine v_getI hX dX12_put_174 f_RX12_321 rfl k1 ?_
    refine v_icmp_ge (tgt := 208) hX dX12_put_177 (by decide) (fun c2 => ?_) (fun c2 => ?_)
    · have h := h_T c2 h
      refine v_iconst (v := 0) hX dX12_put_208 (by decide) ?_
      refine v_istore (lv' := [(10, _), (0, _), (1, _), (3, _), (5, _), (6, _), (8, _), (9, _)]) hX dX12_put_209 (by decide) rfl ?_
      refine v_pick [1, 2, 3, 4, 5, 6, 7, 0] rfl ?_
      obtain ⟨n, h⟩ := h
      exact b_X12_put_211 hX hE n _ _ _ _ _ _ _ _ _ h
    · have h := h_E c2 h
      refine v_iload hX dX12_put_180 6 rfl ?_
      refine v_aload_n hX dX12_put_182 0 rfl rfl ?_
      refine v_getR hX dX12_put_183 f_RX12_58 rfl k1 ?_
      refine v_iload hX dX12_put_186 7 rfl ?_
      obtain ⟨a3, e_a3, h⟩ := h
      refine v_nn1 e_a3 ?_
      obtain ⟨k4, h⟩ := h
      obtain ⟨i5, h⟩ := h
      refine v_iald hX dX12_put_188 k4 i5 ?_
      refine v_iload hX dX12_put_189 5 rfl ?_
      refine v_icmp_ne (tgt := 198) hX dX12_put_191 (by decide) (fun c6 => ?_) (fun c6 => ?_)
      · have h := h_E c6 h
        refine v_iconst (v := 0) hX dX12_put_198 (by decide) ?_
        refine v_pick [0, 1, 2, 3, 4, 5, 7] rfl ?_
        exact b_X12_put_199 hX hE hK171 _ h
      · have h := h_T c6 h
        refine v_iconst (v := 1) hX dX12_put_194 (by decide) ?_
        refine v_goto (tgt := 199) hX dX12_put_195 (by decide) ?_
        refine v_pick [0, 1, 2, 3, 4, 5, 7] rfl ?_
        exact b_X12_put_199 hX hE hK171 _ h
set_option maxRecDepth 100000 in
set_option maxHeartbeats 4000000 in
theorem b_X12_put_54 {X : h_X} (hX : h_ok X cX12_put 11 RX12 5 119) {Q : Int32 → h_S → Prop} (hE : h_end X (some .int) (h_QI (x_Z X) Q)) : ∀ (n : Nat) (o0 : Nat) (x1 : Int32) (x2 : Int32) (x3 : Int32) (x5 : Int32) (x6 : Int32) (x8 : Int32) (s : h_S), w_X12_put_54 Q n o0 x1 x2 x3 x5 x6 x8 s → h_V X 11 54 [(0, pR (some o0)), (1, pI x1), (2, pI x2), (3, pI x3), (5, pI x5), (6, pI x6), (8, pI x8)] [] s 0 0 := by
  intro n
  induction n with
  | zero => intro _ _ _ _ _ _ _ s h; exact h.elim
  | succ n hK54 =>
    intro o0 x1 x2 x3 x5 x6 x8 s h
    have h : w_X12_put_54b Q (w_X12_put_54 Q n) o0 x1 x2 x3 x5 x6 x8 s := h
    unfold w_X12_put_54b at h
    refine v_iload hX dX12_put_54 6 rfl ?_
    refine v_iload hX dX12_put_56 5 rfl ?_
    refine v_icmp_ge (tgt := 100) hX dX12_put_58 (by decide) (fun c1 => ?_) (fun c1 => ?_)
    · have h := h_T c1 h
      refine v_iload hX dX12_put_100 5 rfl ?_
      refine v_if_ne (tgt := 112) hX dX12_put_102 (by decide) (fun c2 => ?_) (fun c2 => ?_)
      · have h := h_E c2 h
        refine v_aload_n hX dX12_put_112 0 rfl rfl ?_
        refine v_iload_n hX dX12_put_113 1 rfl rfl ?_
        obtain ⟨k3, h⟩ := h
        refine v_callVv0 hX dX12_put_114 c_RX12_398 cV_X12_open (ci := 13) (T := TX12) (N := 115) rfl (by exact k3) [pI _] rfl rfl (Nat.le_of_ble_eq_true rfl) (by decide) (by decide)  (m_X12_open h) (fun s4 h => ?_)
        refine v_aload_n hX dX12_put_117 0 rfl rfl ?_
        obtain ⟨k6, h⟩ := h
        refine v_getI hX dX12_put_118 f_RX12_321 rfl k6 ?_
        refine v_iload hX dX12_put_121 5 rfl ?_
        refine v_iadd hX dX12_put_123 ?_
        refine v_sipush (v := 500) hX dX12_put_124 (by decide) ?_
        refine v_icmp_gt (tgt := 150) hX dX12_put_127 (by decide) (fun c7 => ?_) (fun c7 => ?_)
        · have h := h_T c7 h
          refine v_pick [0] rfl ?_
          exact b_X12_put_150 hX hE _ h
        · have h := h_E c7 h
          refine v_aload_n hX dX12_put_130 0 rfl rfl ?_
          refine v_iload_n hX dX12_put_131 1 rfl rfl ?_
          refine v_iload_n hX dX12_put_132 2 rfl rfl ?_
          refine v_iconst (v := 0) hX dX12_put_133 (by decide) ?_
          refine v_aload_n hX dX12_put_134 0 rfl rfl ?_
          refine v_getI hX dX12_put_135 f_RX12_321 rfl k6 ?_
          refine v_iload hX dX12_put_138 5 rfl ?_
          refine v_bipush (v := -9) hX dX12_put_140 (by decide) ?_
          refine v_bipush (v := -9) hX dX12_put_142 (by decide) ?_
          refine v_callVi0 hX dX12_put_144 c_RX12_402 cV_X12_come (ci := 13) (T := TX12) (N := 115) rfl (by exact k6) [pI _, pI _, pI _, pI _, pI _, pI _, pI _] rfl rfl (Nat.le_of_ble_eq_true rfl) (by decide) (by decide)  (m_X12_come h) (fun p9 s8 h => ?_)
          refine v_if_ne (tgt := 157) hX dX12_put_147 (by decide) (fun c10 => ?_) (fun c10 => ?_)
          · have h := h_E c10 h
            refine v_aload_n hX dX12_put_157 0 rfl rfl ?_
            obtain ⟨k11, h⟩ := h
            refine v_getR hX dX12_put_158 f_RX12_22 rfl k11 ?_
            refine v_iload_n hX dX12_put_161 1 rfl rfl ?_
            obtain ⟨a12, e_a12, h⟩ := h
            refine v_nn1 e_a12 ?_
            obtain ⟨k13, h⟩ := h
            obtain ⟨i14, h⟩ := h
            refine v_iald hX dX12_put_162 k13 i14 ?_
            refine v_istore (lv' := [(8, _), (0, _), (1, _), (2, _), (3, _), (5, _), (6, _)]) hX dX12_put_163 (by decide) rfl ?_
            refine v_iconst (v := 0) hX dX12_put_165 (by decide) ?_
            refine v_istore (lv' := [(9, _), (8, _), (0, _), (1, _), (2, _), (3, _), (5, _), (6, _)]) hX dX12_put_166 (by decide) rfl ?_
            refine v_iconst (v := 0) hX dX12_put_168 (by decide) ?_
            refine v_istore (lv' := [(10, _), (9, _), (8, _), (0, _), (1, _), (2, _), (3, _), (5, _), (6, _)]) hX dX12_put_169 (by decide) rfl ?_
            refine v_pick [3, 4, 6, 7, 8, 2, 1, 0] rfl ?_
            obtain ⟨n, h⟩ := h
            exact b_X12_put_171 hX hE n _ _ _ _ _ _ _ _ _ h
          · have h := h_T c10 h
            refine v_pick [0] rfl ?_
            exact b_X12_put_150 hX hE _ h
      · have h := h_T c2 h
        refine v_aload_n hX dX12_put_105 0 rfl rfl ?_
        refine v_bipush (v := -2) hX dX12_put_106 (by decide) ?_
        obtain ⟨k15, h⟩ := h
        refine v_callVi0 hX dX12_put_108 c_RX12_389 cV_X12_refused (ci := 13) (T := TX12) (N := 115) rfl (by exact k15) [pI _] rfl rfl (Nat.le_of_ble_eq_true rfl) (by decide) (by decide)  (m_X12_refused h) (fun p17 s16 h => ?_)
        exact v_iret hX hE dX12_put_111 h
    · have h := h_E c1 h
      refine v_aload_n hX dX12_put_61 0 rfl rfl ?_
      obtain ⟨k18, h⟩ := h
      refine v_getR hX dX12_put_62 f_RX12_264 rfl k18 ?_
      refine v_bipush (v := 60) hX dX12_put_65 (by decide) ?_
      refine v_iload_n hX dX12_put_67 3 rfl rfl ?_
      refine v_imul hX dX12_put_68 ?_
      refine v_iload hX dX12_put_69 4 rfl ?_
      refine v_iadd hX dX12_put_71 ?_
      refine v_iload hX dX12_put_72 6 rfl ?_
      refine v_iadd hX dX12_put_74 ?_
      obtain ⟨a19, e_a19, h⟩ := h
      refine v_nn1 e_a19 ?_
      obtain ⟨k20, h⟩ := h
      obtain ⟨i21, h⟩ := h
      refine v_iald hX dX12_put_75 k20 i21 ?_
      refine v_i2l hX dX12_put_76 ?_
      refine v_lconst (v := 1) hX dX12_put_77 (by decide) ?_
      refine v_ldc2 hX dX12_put_78 k_RX12_396 ?_
      refine v_callSi0 hX dX12_put_81 c_RX12_298 cS_X12_in [pL _, pL _, pL _] rfl rfl (Nat.le_of_ble_eq_true rfl) (by decide) (by decide)  (m_X12_in h) (fun p23 s22 h => ?_)
      refine v_if_ne (tgt := 94) hX dX12_put_84 (by decide) (fun c24 => ?_) (fun c24 => ?_)
      · have h := h_E c24 h
        refine v_iinc (c := 1) (lv' := [(8, _), (0, _), (1, _), (2, _), (3, _), (5, _), (6, _)]) hX dX12_put_94 6 rfl (by decide) (by decide) rfl ?_
        refine v_goto (tgt := 54) hX dX12_put_97 (by decide) ?_
        refine v_pick [1, 2, 3, 4, 5, 6, 0] rfl ?_
        exact hK54 _ _ _ _ _ _ _ _ h
      · have h := h_T c24 h
        refine v_aload_n hX dX12_put_87 0 rfl rfl ?_
        refine v_bipush (v := -2) hX dX12_put_88 (by decide) ?_
        obtain ⟨k25, h⟩ := h
        refine v_callVi0 hX dX12_put_90 c_RX12_389 cV_X12_refused (ci := 13) (T := TX12) (N := 115) rfl (by exact k25) [pI _] rfl rfl (Nat.le_of_ble_eq_true rfl) (by decide) (by decide)  (m_X12_refused h) (fun p27 s26 h => ?_)
        exact v_iret hX hE dX12_put_93 h
set_option maxRecDepth 100000 in
set_option maxHeartbeats 4000000 in
theorem m_X12_put {Z : h_Z} {o0 : Nat} {x1 : Int32} {x2 : Int32} {x3 : Int32} {x4 : Int32} {x5 : Int32} {x6 : Int32} {s : h_S} {Q : Int32 → h_S → Prop} (h : w_X12_put o0 x1 x2 x3 x4 x5 x6 s Q) : h_M Z yX12_put cX12_put 11 (some .int) 5 119 [pR (some o0), pI x1, pI x2, pI x3, pI x4, pI x5, pI x6] s 0 0 (h_QI Z Q) := by
  refine h_M.of (by decide) (Nat.le_of_ble_eq_true rfl) (fun X hZ hX hE hI => ?_)
  subst hZ
  unfold w_X12_put at h
  show h_V X 11 0 [(0, pR (some o0)), (1, pI x1), (2, pI x2), (3, pI x3), (4, pI x4), (5, pI x5), (6, pI x6)] [] s 0 0
  refine v_aload_n hX dX12_put_0 0 rfl rfl ?_
  refine v_iload_n hX dX12_put_1 1 rfl rfl ?_
  obtain ⟨k1, h⟩ := h
  refine v_callVi0 hX dX12_put_2 c_RX12_379 cV_X12_noWriting (ci := 13) (T := TX12) (N := 115) rfl (by exact k1) [pI _] rfl rfl (Nat.le_of_ble_eq_true rfl) (by decide) (by decide)  (m_X12_noWriting h) (fun p3 s2 h => ?_)
  refine v_if_ne (tgt := 24) hX dX12_put_5 (by decide) (fun c4 => ?_) (fun c4 => ?_)
  · have h := h_E c4 h
    refine v_pick [0] rfl ?_
    exact b_X12_put_24 hX hE _ h
  · have h := h_T c4 h
    refine v_iload_n hX dX12_put_8 3 rfl rfl ?_
    refine v_callSi0 hX dX12_put_9 c_RX12_382 cS_X12_noSheet [pI _] rfl rfl (Nat.le_of_ble_eq_true rfl) (by decide) (by decide)  (m_X12_noSheet h) (fun p6 s5 h => ?_)
    refine v_if_ne (tgt := 24) hX dX12_put_12 (by decide) (fun c7 => ?_) (fun c7 => ?_)
    · have h := h_E c7 h
      refine v_pick [0] rfl ?_
      exact b_X12_put_24 hX hE _ h
    · have h := h_T c7 h
      refine v_aload_n hX dX12_put_15 0 rfl rfl ?_
      refine v_iload_n hX dX12_put_16 1 rfl rfl ?_
      refine v_iload_n hX dX12_put_17 2 rfl rfl ?_
      obtain ⟨k8, h⟩ := h
      refine v_callVi0 hX dX12_put_18 c_RX12_385 cV_X12_noPlaceAhead (ci := 13) (T := TX12) (N := 115) rfl (by exact k8) [pI _, pI _] rfl rfl (Nat.le_of_ble_eq_true rfl) (by decide) (by decide)  (m_X12_noPlaceAhead h) (fun p10 s9 h => ?_)
      refine v_if_eq (tgt := 30) hX dX12_put_21 (by decide) (fun c11 => ?_) (fun c11 => ?_)
      · have h := h_T c11 h
        refine v_aload_n hX dX12_put_30 0 rfl rfl ?_
        refine v_iload_n hX dX12_put_31 3 rfl rfl ?_
        refine v_iload hX dX12_put_32 4 rfl ?_
        refine v_iload hX dX12_put_34 5 rfl ?_
        refine v_iload hX dX12_put_36 6 rfl ?_
        obtain ⟨k12, h⟩ := h
        refine v_callVi0 hX dX12_put_38 c_RX12_392 cV_X12_barred (ci := 13) (T := TX12) (N := 115) rfl (by exact k12) [pI _, pI _, pI _, pI _] rfl rfl (Nat.le_of_ble_eq_true rfl) (by decide) (by decide)  (m_X12_barred h) (fun p14 s13 h => ?_)
        refine v_istore (lv' := [(7, _), (0, _), (1, _), (2, _), (3, _), (4, _), (5, _), (6, _)]) hX dX12_put_41 (by decide) rfl ?_
        refine v_iload hX dX12_put_43 0 rfl ?_
        refine v_if_ge (tgt := 51) hX dX12_put_45 (by decide) (fun c15 => ?_) (fun c15 => ?_)
        · have h := h_T c15 h
          refine v_iconst (v := 0) hX dX12_put_51 (by decide) ?_
          refine v_istore (lv' := [(8, _), (7, _), (0, _), (1, _), (2, _), (3, _), (4, _), (5, _), (6, _)]) hX dX12_put_52 (by decide) rfl ?_
          refine v_pick [2, 3, 4, 5, 7, 8, 0] rfl ?_
          obtain ⟨n, h⟩ := h
          exact b_X12_put_54 hX hE n _ _ _ _ _ _ _ _ h
        · have h := h_E c15 h
          refine v_iload hX dX12_put_48 0 rfl ?_
          exact v_iret hX hE dX12_put_50 h
      · have h := h_E c11 h
        refine v_pick [0] rfl ?_
        exact b_X12_put_24 hX hE _ h
set_option maxRecDepth 100000 in
set_option maxHeartbeats 4000000 in
theorem b_X12_isThere_36 {X : h_X} (hX : h_ok X cX12_isThere 3 RX12 0 0) {Q : Int32 → h_S → Prop} (hE : h_end X (some .boolean) (h_QI (x_Z X) Q)) {y0 : Int32} (s : h_S) (h : w_X12_isThere_36 Q y0 s) : h_V X 3 36 [] [pI y0] s 0 0 := by
  unfold w_X12_isThere_36 at h
  exact v_zret hX hE dX12_isThere_36 h.1 h.2
set_option maxRecDepth 100000 in
set_option maxHeartbeats 4000000 in
theorem b_X12_isThere_31 {X : h_X} (hX : h_ok X cX12_isThere 3 RX12 0 0) {Q : Int32 → h_S → Prop} (hE : h_end X (some .boolean) (h_QI (x_Z X) Q)) (s : h_S) (h : w_X12_isThere_31 Q s) : h_V X 3 31 [] [] s 0 0 := by
  unfold w_X12_isThere_31 at h
  refine v_iconst (v := 1) hX dX12_isThere_31 (by decide) ?_
  refine v_goto (tgt := 36) hX dX12_isThere_32 (by decide) ?_
  refine v_pick [] rfl ?_
  exact b_X12_isThere_36 hX hE _ h
set_option maxRecDepth 100000 in
set_option maxHeartbeats 4000000 in
theorem b_X12_isThere_35 {X : h_X} (hX : h_ok X cX12_isThere 3 RX12 0 0) {Q : Int32 → h_S → Prop} (hE : h_end X (some .boolean) (h_QI (x_Z X) Q)) (s : h_S) (h : w_X12_isThere_35 Q s) : h_V X 3 35 [] [] s 0 0 := by
  unfold w_X12_isThere_35 at h
  refine v_iconst (v := 0) hX dX12_isThere_35 (by decide) ?_
  refine v_pick [] rfl ?_
  exact b_X12_isThere_36 hX hE _ h
set_option maxRecDepth 100000 in
set_option maxHeartbeats 4000000 in
theorem m_X12_isThere {Z : h_Z} {o0 : Nat} {x1 : Int32} {x2 : Int32} {s : h_S} {Q : Int32 → h_S → Prop} (h : w_X12_isThere o0 x1 x2 s Q) : h_M Z yX12_isThere cX12_isThere 3 (some .boolean) 0 0 [pR (some o0), pI x1, pI x2] s 0 0 (h_QI Z Q) := by
  refine h_M.of (by decide) (Nat.le_of_ble_eq_true rfl) (fun X hZ hX hE hI => ?_)
  subst hZ
  unfold w_X12_isThere at h
  show h_V X 3 0 [(0, pR (some o0)), (1, pI x1), (2, pI x2)] [] s 0 0
  refine v_aload_n hX dX12_isThere_0 0 rfl rfl ?_
  obtain ⟨k1, h⟩ := h
  refine v_getR hX dX12_isThere_1 f_RX12_237 rfl k1 ?_
  refine v_iload_n hX dX12_isThere_4 1 rfl rfl ?_
  obtain ⟨a2, e_a2, h⟩ := h
  refine v_nn1 e_a2 ?_
  obtain ⟨k3, h⟩ := h
  obtain ⟨i4, h⟩ := h
  refine v_iald hX dX12_isThere_5 k3 i4 ?_
  refine v_iload_n hX dX12_isThere_6 2 rfl rfl ?_
  refine v_icmp_gt (tgt := 35) hX dX12_isThere_7 (by decide) (fun c5 => ?_) (fun c5 => ?_)
  · have h := h_T c5 h
    refine v_pick [] rfl ?_
    exact b_X12_isThere_35 hX hE _ h
  · have h := h_E c5 h
    refine v_aload_n hX dX12_isThere_10 0 rfl rfl ?_
    refine v_getR hX dX12_isThere_11 f_RX12_240 rfl k1 ?_
    refine v_iload_n hX dX12_isThere_14 1 rfl rfl ?_
    obtain ⟨a6, e_a6, h⟩ := h
    refine v_nn1 e_a6 ?_
    obtain ⟨k7, h⟩ := h
    obtain ⟨i8, h⟩ := h
    refine v_iald hX dX12_isThere_15 k7 i8 ?_
    refine v_bipush (v := -9) hX dX12_isThere_16 (by decide) ?_
    refine v_icmp_eq (tgt := 31) hX dX12_isThere_18 (by decide) (fun c9 => ?_) (fun c9 => ?_)
    · have h := h_T c9 h
      refine v_pick [] rfl ?_
      exact b_X12_isThere_31 hX hE _ h
    · have h := h_E c9 h
      refine v_aload_n hX dX12_isThere_21 0 rfl rfl ?_
      refine v_getR hX dX12_isThere_22 f_RX12_240 rfl k1 ?_
      refine v_iload_n hX dX12_isThere_25 1 rfl rfl ?_
      obtain ⟨a10, e_a10, h⟩ := h
      refine v_nn1 e_a10 ?_
      obtain ⟨k11, h⟩ := h
      obtain ⟨i12, h⟩ := h
      refine v_iald hX dX12_isThere_26 k11 i12 ?_
      refine v_iload_n hX dX12_isThere_27 2 rfl rfl ?_
      refine v_icmp_le (tgt := 35) hX dX12_isThere_28 (by decide) (fun c13 => ?_) (fun c13 => ?_)
      · have h := h_T c13 h
        refine v_pick [] rfl ?_
        exact b_X12_isThere_35 hX hE _ h
      · have h := h_E c13 h
        refine v_pick [] rfl ?_
        exact b_X12_isThere_31 hX hE _ h
set_option maxRecDepth 100000 in
set_option maxHeartbeats 4000000 in
theorem b_X12_allows_102 {X : h_X} (hX : h_ok X cX12_allows 7 RX12 1 25) {Q : Int32 → h_S → Prop} (hE : h_end X (some .boolean) (h_QI (x_Z X) Q)) {y0 : Int32} (s : h_S) (h : w_X12_allows_102 Q y0 s) : h_V X 7 102 [] [pI y0] s 0 0 := by
  unfold w_X12_allows_102 at h
  exact v_zret hX hE dX12_allows_102 h.1 h.2
set_option maxRecDepth 100000 in
set_option maxHeartbeats 4000000 in
theorem b_X12_allows_101 {X : h_X} (hX : h_ok X cX12_allows 7 RX12 1 25) {Q : Int32 → h_S → Prop} (hE : h_end X (some .boolean) (h_QI (x_Z X) Q)) (s : h_S) (h : w_X12_allows_101 Q s) : h_V X 7 101 [] [] s 0 0 := by
  unfold w_X12_allows_101 at h
  refine v_iconst (v := 0) hX dX12_allows_101 (by decide) ?_
  refine v_pick [] rfl ?_
  exact b_X12_allows_102 hX hE _ h
set_option maxRecDepth 100000 in
set_option maxHeartbeats 4000000 in
theorem b_X12_allows_44 {X : h_X} (hX : h_ok X cX12_allows 7 RX12 1 25) {Q : Int32 → h_S → Prop} (hE : h_end X (some .boolean) (h_QI (x_Z X) Q)) {o0 : Nat} {x1 : Int32} {x3 : Int32} {x4 : Int32} {y0 : Int32} (s : h_S) (h : w_X12_allows_44 Q o0 x1 x3 x4 y0 s) : h_V X 7 44 [(0, pR (some o0)), (1, pI x1), (3, pI x3), (4, pI x4)] [pI y0] s 0 0 := by
  unfold w_X12_allows_44 at h
  refine v_istore (lv' := [(6, _), (0, _), (1, _), (3, _), (4, _)]) hX dX12_allows_44 (by decide) rfl ?_
  refine v_iload hX dX12_allows_46 0 rfl ?_
  refine v_if_eq (tgt := 101) hX dX12_allows_48 (by decide) (fun c1 => ?_) (fun c1 => ?_)
  · have h := h_T c1 h
    refine v_pick [] rfl ?_
    exact b_X12_allows_101 hX hE _ h
  · have h := h_E c1 h
    refine v_aload_n hX dX12_allows_51 1 rfl rfl ?_
    refine v_iload_n hX dX12_allows_52 2 rfl rfl ?_
    refine v_iload hX dX12_allows_53 4 rfl ?_
    obtain ⟨k2, h⟩ := h
    refine v_callVi0 hX dX12_allows_55 c_RX12_543 cV_X12_isThere (ci := 13) (T := TX12) (N := 115) rfl (by exact k2) [pI _, pI _] rfl rfl (Nat.le_of_ble_eq_true rfl) (by decide) (by decide)  (m_X12_isThere h) (fun p4 s3 h => ?_)
    refine v_if_eq (tgt := 101) hX dX12_allows_58 (by decide) (fun c5 => ?_) (fun c5 => ?_)
    · have h := h_T c5 h
      refine v_pick [] rfl ?_
      exact b_X12_allows_101 hX hE _ h
    · have h := h_E c5 h
      refine v_iload hX dX12_allows_61 4 rfl ?_
      refine v_i2l hX dX12_allows_63 ?_
      refine v_aload_n hX dX12_allows_64 1 rfl rfl ?_
      obtain ⟨k6, h⟩ := h
      refine v_getR hX dX12_allows_65 f_RX12_228 rfl k6 ?_
      refine v_iload_n hX dX12_allows_68 2 rfl rfl ?_
      obtain ⟨a7, e_a7, h⟩ := h
      refine v_nn1 e_a7 ?_
      obtain ⟨k8, h⟩ := h
      obtain ⟨i9, h⟩ := h
      refine v_iald hX dX12_allows_69 k8 i9 ?_
      refine v_i2l hX dX12_allows_70 ?_
      refine v_aload_n hX dX12_allows_71 1 rfl rfl ?_
      refine v_getR hX dX12_allows_72 f_RX12_231 rfl k6 ?_
      refine v_iload_n hX dX12_allows_75 2 rfl rfl ?_
      obtain ⟨a10, e_a10, h⟩ := h
      refine v_nn1 e_a10 ?_
      obtain ⟨k11, h⟩ := h
      obtain ⟨i12, h⟩ := h
      refine v_iald hX dX12_allows_76 k11 i12 ?_
      refine v_i2l hX dX12_allows_77 ?_
      refine v_callSi0 hX dX12_allows_78 c_RX12_298 cS_X12_in [pL _, pL _, pL _] rfl rfl (Nat.le_of_ble_eq_true rfl) (by decide) (by decide)  (m_X12_in h) (fun p14 s13 h => ?_)
      refine v_if_eq (tgt := 101) hX dX12_allows_81 (by decide) (fun c15 => ?_) (fun c15 => ?_)
      · have h := h_T c15 h
        refine v_pick [] rfl ?_
        exact b_X12_allows_101 hX hE _ h
      · have h := h_E c15 h
        refine v_aload_n hX dX12_allows_84 1 rfl rfl ?_
        obtain ⟨k16, h⟩ := h
        refine v_getR hX dX12_allows_85 f_RX12_225 rfl k16 ?_
        refine v_iload_n hX dX12_allows_88 2 rfl rfl ?_
        obtain ⟨a17, e_a17, h⟩ := h
        refine v_nn1 e_a17 ?_
        obtain ⟨k18, h⟩ := h
        obtain ⟨i19, h⟩ := h
        refine v_iald hX dX12_allows_89 k18 i19 ?_
        refine v_iload_n hX dX12_allows_90 3 rfl rfl ?_
        refine v_callSi0 hX dX12_allows_91 c_RX12_540 cS_X12_hasBit [pI _, pI _] rfl rfl (Nat.le_of_ble_eq_true rfl) (by decide) (by decide)  (m_X12_hasBit h) (fun p21 s20 h => ?_)
        refine v_if_eq (tgt := 101) hX dX12_allows_94 (by decide) (fun c22 => ?_) (fun c22 => ?_)
        · have h := h_T c22 h
          refine v_pick [] rfl ?_
          exact b_X12_allows_101 hX hE _ h
        · have h := h_E c22 h
          refine v_iconst (v := 1) hX dX12_allows_97 (by decide) ?_
          refine v_goto (tgt := 102) hX dX12_allows_98 (by decide) ?_
          refine v_pick [] rfl ?_
          exact b_X12_allows_102 hX hE _ h
set_option maxRecDepth 100000 in
set_option maxHeartbeats 4000000 in
theorem m_X12_allows {Z : h_Z} {o0 : Nat} {x1 : Int32} {x2 : Int32} {x3 : Int32} {x4 : Int32} {s : h_S} {Q : Int32 → h_S → Prop} (h : w_X12_allows o0 x1 x2 x3 x4 s Q) : h_M Z yX12_allows cX12_allows 7 (some .boolean) 1 25 [pR (some o0), pI x1, pI x2, pI x3, pI x4] s 0 0 (h_QI Z Q) := by
  refine h_M.of (by decide) (Nat.le_of_ble_eq_true rfl) (fun X hZ hX hE hI => ?_)
  subst hZ
  unfold w_X12_allows at h
  show h_V X 7 0 [(0, pR (some o0)), (1, pI x1), (2, pI x2), (3, pI x3), (4, pI x4)] [] s 0 0
  refine v_aload_n hX dX12_allows_0 0 rfl rfl ?_
  obtain ⟨k1, h⟩ := h
  refine v_getR hX dX12_allows_1 f_RX12_222 rfl k1 ?_
  refine v_iload_n hX dX12_allows_4 1 rfl rfl ?_
  obtain ⟨a2, e_a2, h⟩ := h
  refine v_nn1 e_a2 ?_
  obtain ⟨k3, h⟩ := h
  obtain ⟨i4, h⟩ := h
  refine v_iald hX dX12_allows_5 k3 i4 ?_
  refine v_istore (lv' := [(5, _), (0, _), (1, _), (2, _), (3, _), (4, _)]) hX dX12_allows_6 (by decide) rfl ?_
  refine v_iload hX dX12_allows_8 0 rfl ?_
  refine v_bipush (v := 8) hX dX12_allows_10 (by decide) ?_
  refine v_icmp_lt (tgt := 32) hX dX12_allows_12 (by decide) (fun c5 => ?_) (fun c5 => ?_)
  · have h := h_T c5 h
    refine v_aload_n hX dX12_allows_32 1 rfl rfl ?_
    refine v_iload hX dX12_allows_33 0 rfl ?_
    refine v_iload hX dX12_allows_35 5 rfl ?_
    refine v_callVi0 hX dX12_allows_37 c_RX12_311 cV_X12_groupAt (ci := 13) (T := TX12) (N := 115) rfl (by exact k1) [pI _, pI _] rfl rfl (Nat.le_of_ble_eq_true rfl) (by decide) (by decide)  (m_X12_groupAt h) (fun p7 s6 h => ?_)
    refine v_iload_n hX dX12_allows_40 3 rfl rfl ?_
    refine v_callSi0 hX dX12_allows_41 c_RX12_540 cS_X12_hasBit [pI _, pI _] rfl rfl (Nat.le_of_ble_eq_true rfl) (by decide) (by decide)  (m_X12_hasBit h) (fun p9 s8 h => ?_)
    refine v_pick [1, 2, 4, 5] rfl ?_
    exact b_X12_allows_44 hX hE _ h
  · have h := h_E c5 h
    refine v_iload hX dX12_allows_15 0 rfl ?_
    refine v_bipush (v := 8) hX dX12_allows_17 (by decide) ?_
    refine v_isub hX dX12_allows_19 ?_
    refine v_iload_n hX dX12_allows_20 3 rfl rfl ?_
    refine v_icmp_ne (tgt := 28) hX dX12_allows_21 (by decide) (fun c10 => ?_) (fun c10 => ?_)
    · have h := h_E c10 h
      refine v_iconst (v := 0) hX dX12_allows_28 (by decide) ?_
      refine v_goto (tgt := 44) hX dX12_allows_29 (by decide) ?_
      refine v_pick [1, 2, 4, 5] rfl ?_
      exact b_X12_allows_44 hX hE _ h
    · have h := h_T c10 h
      refine v_iconst (v := 1) hX dX12_allows_24 (by decide) ?_
      refine v_goto (tgt := 44) hX dX12_allows_25 (by decide) ?_
      refine v_pick [1, 2, 4, 5] rfl ?_
      exact b_X12_allows_44 hX hE _ h
set_option maxRecDepth 100000 in
set_option maxHeartbeats 4000000 in
theorem b_X12_whyOf_52 {X : h_X} (hX : h_ok X cX12_whyOf 6 RX12 2 51) {Q : Int32 → h_S → Prop} (hE : h_end X (some .int) (h_QI (x_Z X) Q)) {K16 : Nat → Int32 → Int32 → Int32 → Int32 → Int32 → h_S → Prop} (hK16 : ∀ (o0 : Nat) (x1 : Int32) (x2 : Int32) (x3 : Int32) (x4 : Int32) (x5 : Int32) (s : h_S), K16 o0 x1 x2 x3 x4 x5 s → h_V X 6 16 [(0, pR (some o0)), (1, pI x1), (2, pI x2), (3, pI x3), (4, pI x4), (5, pI x5)] [] s 0 0) {o0 : Nat} {x1 : Int32} {x2 : Int32} {x3 : Int32} {x4 : Int32} {x5 : Int32} (s : h_S) (h : w_X12_whyOf_52 Q K16 o0 x1 x2 x3 x4 x5 s) : h_V X 6 52 [(0, pR (some o0)), (1, pI x1), (2, pI x2), (3, pI x3), (4, pI x4), (5, pI x5)] [] s 0 0 := by
  unfold w_X12_whyOf_52 at h
  refine v_iinc (c := 1) (lv' := [(5, _), (0, _), (1, _), (2, _), (3, _), (4, _)]) hX dX12_whyOf_52 5 rfl (by decide) (by decide) rfl ?_
  refine v_goto (tgt := 16) hX dX12_whyOf_55 (by decide) ?_
  refine v_pick [1, 2, 3, 4, 5, 0] rfl ?_
  exact hK16 _ _ _ _ _ _ _ h
set_option maxRecDepth 100000 in
set_option maxHeartbeats 4000000 in
theorem b_X12_whyOf_16 {X : h_X} (hX : h_ok X cX12_whyOf 6 RX12 2 51) {Q : Int32 → h_S → Prop} (hE : h_end X (some .int) (h_QI (x_Z X) Q)) : ∀ (n : Nat) (o0 : Nat) (x1 : Int32) (x2 : Int32) (x3 : Int32) (x4 : Int32) (x5 : Int32) (s : h_S), w_X12_whyOf_16 Q n o0 x1 x2 x3 x4 x5 s → h_V X 6 16 [(0, pR (some o0)), (1, pI x1), (2, pI x2), (3, pI x3), (4, pI x4), (5, pI x5)] [] s 0 0 := by
  intro n
  induction n with
  | zero => intro _ _ _ _ _ _ s h; exact h.elim
  | succ n hK16 =>
    intro o0 x1 x2 x3 x4 x5 s h
    have h : w_X12_whyOf_16b Q (w_X12_whyOf_16 Q n) o0 x1 x2 x3 x4 x5 s := h
    unfold w_X12_whyOf_16b at h
    refine v_iload hX dX12_whyOf_16 5 rfl ?_
    refine v_aload_n hX dX12_whyOf_18 0 rfl rfl ?_
    obtain ⟨k1, h⟩ := h
    refine v_getI hX dX12_whyOf_19 f_RX12_537 rfl k1 ?_
    refine v_icmp_ge (tgt := 58) hX dX12_whyOf_22 (by decide) (fun c2 => ?_) (fun c2 => ?_)
    · have h := h_T c2 h
      refine v_bipush (v := -9) hX dX12_whyOf_58 (by decide) ?_
      exact v_iret hX hE dX12_whyOf_60 h
    · have h := h_E c2 h
      refine v_aload_n hX dX12_whyOf_25 0 rfl rfl ?_
      refine v_getR hX dX12_whyOf_26 f_RX12_219 rfl k1 ?_
      refine v_iload hX dX12_whyOf_29 5 rfl ?_
      obtain ⟨a3, e_a3, h⟩ := h
      refine v_nn1 e_a3 ?_
      obtain ⟨k4, h⟩ := h
      obtain ⟨i5, h⟩ := h
      refine v_iald hX dX12_whyOf_31 k4 i5 ?_
      refine v_iload_n hX dX12_whyOf_32 2 rfl rfl ?_
      refine v_icmp_ne (tgt := 52) hX dX12_whyOf_33 (by decide) (fun c6 => ?_) (fun c6 => ?_)
      · have h := h_E c6 h
        refine v_pick [0, 1, 2, 3, 4, 5] rfl ?_
        exact b_X12_whyOf_52 hX hE hK16 _ h
      · have h := h_T c6 h
        refine v_aload_n hX dX12_whyOf_36 0 rfl rfl ?_
        refine v_iload hX dX12_whyOf_37 5 rfl ?_
        refine v_iload_n hX dX12_whyOf_39 1 rfl rfl ?_
        refine v_iload_n hX dX12_whyOf_40 3 rfl rfl ?_
        refine v_iload hX dX12_whyOf_41 4 rfl ?_
        refine v_callVi0 hX dX12_whyOf_43 c_RX12_546 cV_X12_allows (ci := 13) (T := TX12) (N := 115) rfl (by exact k1) [pI _, pI _, pI _, pI _] rfl rfl (Nat.le_of_ble_eq_true rfl) (by decide) (by decide)  (m_X12_allows h) (fun p8 s7 h => ?_)
        refine v_if_eq (tgt := 52) hX dX12_whyOf_46 (by decide) (fun c9 => ?_) (fun c9 => ?_)
        · have h := h_T c9 h
          refine v_pick [0, 1, 2, 3, 4, 5] rfl ?_
          exact b_X12_whyOf_52 hX hE hK16 _ h
        · have h := h_E c9 h
          refine v_iload hX dX12_whyOf_49 5 rfl ?_
          exact v_iret hX hE dX12_whyOf_51 h
set_option maxRecDepth 100000 in
set_option maxHeartbeats 4000000 in
theorem m_X12_whyOf {Z : h_Z} {o0 : Nat} {x1 : Int32} {x2 : Int32} {x3 : Int32} {x4 : Int32} {s : h_S} {Q : Int32 → h_S → Prop} (h : w_X12_whyOf o0 x1 x2 x3 x4 s Q) : h_M Z yX12_whyOf cX12_whyOf 6 (some .int) 2 51 [pR (some o0), pI x1, pI x2, pI x3, pI x4] s 0 0 (h_QI Z Q) := by
  refine h_M.of (by decide) (Nat.le_of_ble_eq_true rfl) (fun X hZ hX hE hI => ?_)
  subst hZ
  unfold w_X12_whyOf at h
  show h_V X 6 0 [(0, pR (some o0)), (1, pI x1), (2, pI x2), (3, pI x3), (4, pI x4)] [] s 0 0
  refine v_aload_n hX dX12_whyOf_0 0 rfl rfl ?_
  obtain ⟨k1, h⟩ := h
  refine v_getR hX dX12_whyOf_1 f_RX12_22 rfl k1 ?_
  refine v_iload_n hX dX12_whyOf_4 2 rfl rfl ?_
  obtain ⟨a2, e_a2, h⟩ := h
  refine v_nn1 e_a2 ?_
  obtain ⟨k3, h⟩ := h
  obtain ⟨i4, h⟩ := h
  refine v_iald hX dX12_whyOf_5 k3 i4 ?_
  refine v_iload_n hX dX12_whyOf_6 1 rfl rfl ?_
  refine v_icmp_ne (tgt := 13) hX dX12_whyOf_7 (by decide) (fun c5 => ?_) (fun c5 => ?_)
  · have h := h_E c5 h
    refine v_iconst (v := 0) hX dX12_whyOf_13 (by decide) ?_
    refine v_istore (lv' := [(5, _), (0, _), (1, _), (2, _), (3, _), (4, _)]) hX dX12_whyOf_14 (by decide) rfl ?_
    refine v_pick [1, 2, 3, 4, 5, 0] rfl ?_
    obtain ⟨n, h⟩ := h
    exact b_X12_whyOf_16 hX hE n _ _ _ _ _ _ _ h
  · have h := h_T c5 h
    refine v_bipush (v := 99) hX dX12_whyOf_10 (by decide) ?_
    exact v_iret hX hE dX12_whyOf_12 h
set_option maxRecDepth 100000 in
set_option maxHeartbeats 4000000 in
theorem b_X12_seen_17 {X : h_X} (hX : h_ok X cX12_seen 6 RX12 5 119) {Q : Int32 → h_S → Prop} (hE : h_end X (some .int) (h_QI (x_Z X) Q)) (s : h_S) (h : w_X12_seen_17 Q s) : h_V X 6 17 [] [] s 0 0 := by
  unfold w_X12_seen_17 at h
  refine v_iconst (v := -1) hX dX12_seen_17 (by decide) ?_
  exact v_iret hX hE dX12_seen_18 h
set_option maxRecDepth 100000 in
set_option maxHeartbeats 4000000 in
theorem b_X12_seen_47 {X : h_X} (hX : h_ok X cX12_seen 6 RX12 5 119) {Q : Int32 → h_S → Prop} (hE : h_end X (some .int) (h_QI (x_Z X) Q)) (s : h_S) (h : w_X12_seen_47 Q s) : h_V X 6 47 [] [] s 0 0 := by
  unfold w_X12_seen_47 at h
  refine v_iconst (v := -1) hX dX12_seen_47 (by decide) ?_
  exact v_iret hX hE dX12_seen_48 h
set_option maxRecDepth 100000 in
set_option maxHeartbeats 4000000 in
theorem b_X12_seen_133 {X : h_X} (hX : h_ok X cX12_seen 6 RX12 5 119) {Q : Int32 → h_S → Prop} (hE : h_end X (some .int) (h_QI (x_Z X) Q)) {y0 : Int32} (s : h_S) (h : w_X12_seen_133 Q y0 s) : h_V X 6 133 [] [pI y0] s 0 0 := by
  unfold w_X12_seen_133 at h
  exact v_iret hX hE dX12_seen_133 h
set_option maxRecDepth 100000 in
set_option maxHeartbeats 4000000 in
theorem b_X12_seen_52 {X : h_X} (hX : h_ok X cX12_seen 6 RX12 5 119) {Q : Int32 → h_S → Prop} (hE : h_end X (some .int) (h_QI (x_Z X) Q)) : ∀ (n : Nat) (o0 : Nat) (x1 : Int32) (x2 : Int32) (x3 : Int32) (x4 : Int32) (x5 : Int32) (s : h_S), w_X12_seen_52 Q n o0 x1 x2 x3 x4 x5 s → h_V X 6 52 [(0, pR (some o0)), (1, pI x1), (2, pI x2), (3, pI x3), (4, pI x4), (5, pI x5)] [] s 0 0 := by
  intro n
  induction n with
  | zero => intro _ _ _ _ _ _ s h; exact h.elim
  | succ n hK52 =>
    intro o0 x1 x2 x3 x4 x5 s h
    have h : w_X12_seen_52b Q (w_X12_seen_52 Q n) o0 x1 x2 x3 x4 x5 s := h
    unfold w_X12_seen_52b at h
    refine v_iload hX dX12_seen_52 5 rfl ?_
    refine v_iload_n hX dX12_seen_54 3 rfl rfl ?_
    refine v_iload hX dX12_seen_55 4 rfl ?_
    refine v_iadd hX dX12_seen_57 ?_
    refine v_icmp_ge (tgt := 97) hX dX12_seen_58 (by decide) (fun c1 => ?_) (fun c1 => ?_)
    · have h := h_T c1 h
      refine v_aload_n hX dX12_seen_97 0 rfl rfl ?_
      refine v_iload_n hX dX12_seen_98 1 rfl rfl ?_
      obtain ⟨k2, h⟩ := h
      refine v_callVv0 hX dX12_seen_99 c_RX12_398 cV_X12_open (ci := 13) (T := TX12) (N := 115) rfl (by exact k2) [pI _] rfl rfl (Nat.le_of_ble_eq_true rfl) (by decide) (by decide)  (m_X12_open h) (fun s3 h => ?_)
      refine v_aload_n hX dX12_seen_102 0 rfl rfl ?_
      refine v_iload_n hX dX12_seen_103 1 rfl rfl ?_
      refine v_iload_n hX dX12_seen_104 2 rfl rfl ?_
      refine v_iconst (v := 1) hX dX12_seen_105 (by decide) ?_
      refine v_iload_n hX dX12_seen_106 3 rfl rfl ?_
      refine v_iload hX dX12_seen_107 4 rfl ?_
      refine v_bipush (v := -9) hX dX12_seen_109 (by decide) ?_
      refine v_bipush (v := -9) hX dX12_seen_111 (by decide) ?_
      obtain ⟨k5, h⟩ := h
      refine v_callVi0 hX dX12_seen_113 c_RX12_402 cV_X12_come (ci := 13) (T := TX12) (N := 115) rfl (by exact k5) [pI _, pI _, pI _, pI _, pI _, pI _, pI _] rfl rfl (Nat.le_of_ble_eq_true rfl) (by decide) (by decide)  (m_X12_come h) (fun p7 s6 h => ?_)
      refine v_if_eq (tgt := 131) hX dX12_seen_116 (by decide) (fun c8 => ?_) (fun c8 => ?_)
      · have h := h_T c8 h
        refine v_bipush (v := -4) hX dX12_seen_131 (by decide) ?_
        refine v_pick [] rfl ?_
        exact b_X12_seen_133 hX hE _ h
      · have h := h_E c8 h
        refine v_aload_n hX dX12_seen_119 0 rfl rfl ?_
        refine v_aload_n hX dX12_seen_120 0 rfl rfl ?_
        refine v_iload_n hX dX12_seen_121 1 rfl rfl ?_
        obtain ⟨k9, h⟩ := h
        refine v_callVi0 hX dX12_seen_122 c_RX12_418 cV_X12_shownThen (ci := 13) (T := TX12) (N := 115) rfl (by exact k9) [pI _] rfl rfl (Nat.le_of_ble_eq_true rfl) (by decide) (by decide)  (m_X12_shownThen h) (fun p11 s10 h => ?_)
        obtain ⟨k12, h⟩ := h
        refine v_callVi0 hX dX12_seen_125 c_RX12_302 cV_X12_acted (ci := 13) (T := TX12) (N := 115) rfl (by exact k12) [pI _] rfl rfl (Nat.le_of_ble_eq_true rfl) (by decide) (by decide)  (m_X12_acted h) (fun p14 s13 h => ?_)
        refine v_goto (tgt := 133) hX dX12_seen_128 (by decide) ?_
        refine v_pick [] rfl ?_
        exact b_X12_seen_133 hX hE _ h
    · have h := h_E c1 h
      refine v_aload_n hX dX12_seen_61 0 rfl rfl ?_
      refine v_aload_n hX dX12_seen_62 0 rfl rfl ?_
      obtain ⟨k15, h⟩ := h
      refine v_getR hX dX12_seen_63 f_RX12_22 rfl k15 ?_
      refine v_iload_n hX dX12_seen_66 1 rfl rfl ?_
      obtain ⟨a16, e_a16, h⟩ := h
      refine v_nn1 e_a16 ?_
      obtain ⟨k17, h⟩ := h
      obtain ⟨i18, h⟩ := h
      refine v_iald hX dX12_seen_67 k17 i18 ?_
      refine v_aload_n hX dX12_seen_68 0 rfl rfl ?_
      refine v_getR hX dX12_seen_69 f_RX12_61 rfl k15 ?_
      refine v_iload hX dX12_seen_72 5 rfl ?_
      obtain ⟨a19, e_a19, h⟩ := h
      refine v_nn1 e_a19 ?_
      obtain ⟨k20, h⟩ := h
      obtain ⟨i21, h⟩ := h
      refine v_iald hX dX12_seen_74 k20 i21 ?_
      refine v_iconst (v := 1) hX dX12_seen_75 (by decide) ?_
      refine v_aload_n hX dX12_seen_76 0 rfl rfl ?_
      refine v_getI hX dX12_seen_77 f_RX12_288 rfl k15 ?_
      refine v_callVi0 hX dX12_seen_80 c_RX12_415 cV_X12_whyOf (ci := 13) (T := TX12) (N := 115) rfl (by exact k15) [pI _, pI _, pI _, pI _] rfl rfl (Nat.le_of_ble_eq_true rfl) (by decide) (by decide)  (m_X12_whyOf h) (fun p23 s22 h => ?_)
      refine v_bipush (v := -9) hX dX12_seen_83 (by decide) ?_
      refine v_icmp_ne (tgt := 91) hX dX12_seen_85 (by decide) (fun c24 => ?_) (fun c24 => ?_)
      · have h := h_E c24 h
        refine v_iinc (c := 1) (lv' := [(5, _), (0, _), (1, _), (2, _), (3, _), (4, _)]) hX dX12_seen_91 5 rfl (by decide) (by decide) rfl ?_
        refine v_goto (tgt := 52) hX dX12_seen_94 (by decide) ?_
        refine v_pick [1, 2, 3, 4, 5, 0] rfl ?_
        exact hK52 _ _ _ _ _ _ _ h
      · have h := h_T c24 h
        refine v_bipush (v := -3) hX dX12_seen_88 (by decide) ?_
        exact v_iret hX hE dX12_seen_90 h
set_option maxRecDepth 100000 in
set_option maxHeartbeats 4000000 in
theorem m_X12_seen {Z : h_Z} {o0 : Nat} {x1 : Int32} {x2 : Int32} {x3 : Int32} {x4 : Int32} {s : h_S} {Q : Int32 → h_S → Prop} (h : w_X12_seen o0 x1 x2 x3 x4 s Q) : h_M Z yX12_seen cX12_seen 6 (some .int) 5 119 [pR (some o0), pI x1, pI x2, pI x3, pI x4] s 0 0 (h_QI Z Q) := by
  refine h_M.of (by decide) (Nat.le_of_ble_eq_true rfl) (fun X hZ hX hE hI => ?_)
  subst hZ
  unfold w_X12_seen at h
  show h_V X 6 0 [(0, pR (some o0)), (1, pI x1), (2, pI x2), (3, pI x3), (4, pI x4)] [] s 0 0
  refine v_aload_n hX dX12_seen_0 0 rfl rfl ?_
  refine v_iload_n hX dX12_seen_1 1 rfl rfl ?_
  obtain ⟨k1, h⟩ := h
  refine v_callVi0 hX dX12_seen_2 c_RX12_379 cV_X12_noWriting (ci := 13) (T := TX12) (N := 115) rfl (by exact k1) [pI _] rfl rfl (Nat.le_of_ble_eq_true rfl) (by decide) (by decide)  (m_X12_noWriting h) (fun p3 s2 h => ?_)
  refine v_if_ne (tgt := 17) hX dX12_seen_5 (by decide) (fun c4 => ?_) (fun c4 => ?_)
  · have h := h_E c4 h
    refine v_pick [] rfl ?_
    exact b_X12_seen_17 hX hE _ h
  · have h := h_T c4 h
    refine v_aload_n hX dX12_seen_8 0 rfl rfl ?_
    refine v_iload_n hX dX12_seen_9 1 rfl rfl ?_
    refine v_iload_n hX dX12_seen_10 2 rfl rfl ?_
    obtain ⟨k5, h⟩ := h
    refine v_callVi0 hX dX12_seen_11 c_RX12_385 cV_X12_noPlaceAhead (ci := 13) (T := TX12) (N := 115) rfl (by exact k5) [pI _, pI _] rfl rfl (Nat.le_of_ble_eq_true rfl) (by decide) (by decide)  (m_X12_noPlaceAhead h) (fun p7 s6 h => ?_)
    refine v_if_eq (tgt := 19) hX dX12_seen_14 (by decide) (fun c8 => ?_) (fun c8 => ?_)
    · have h := h_T c8 h
      refine v_iload hX dX12_seen_19 4 rfl ?_
      refine v_iconst (v := 1) hX dX12_seen_21 (by decide) ?_
      refine v_icmp_ge (tgt := 28) hX dX12_seen_22 (by decide) (fun c9 => ?_) (fun c9 => ?_)
      · have h := h_T c9 h
        refine v_iload_n hX dX12_seen_28 3 rfl rfl ?_
        refine v_if_lt (tgt := 47) hX dX12_seen_29 (by decide) (fun c10 => ?_) (fun c10 => ?_)
        · have h := h_T c10 h
          refine v_pick [] rfl ?_
          exact b_X12_seen_47 hX hE _ h
        · have h := h_E c10 h
          refine v_iload_n hX dX12_seen_32 3 rfl rfl ?_
          refine v_i2l hX dX12_seen_33 ?_
          refine v_iload hX dX12_seen_34 4 rfl ?_
          refine v_i2l hX dX12_seen_36 ?_
          refine v_ladd hX dX12_seen_37 ?_
          refine v_aload_n hX dX12_seen_38 0 rfl rfl ?_
          obtain ⟨k11, h⟩ := h
          refine v_getI hX dX12_seen_39 f_RX12_321 rfl k11 ?_
          refine v_i2l hX dX12_seen_42 ?_
          refine v_lcmp hX dX12_seen_43 ?_
          refine v_if_le (tgt := 49) hX dX12_seen_44 (by decide) (fun c12 => ?_) (fun c12 => ?_)
          · have h := h_T c12 h
            refine v_iload_n hX dX12_seen_49 3 rfl rfl ?_
            refine v_istore (lv' := [(5, _), (0, _), (1, _), (2, _), (3, _), (4, _)]) hX dX12_seen_50 (by decide) rfl ?_
            refine v_pick [1, 2, 3, 4, 5, 0] rfl ?_
            obtain ⟨n, h⟩ := h
            exact b_X12_seen_52 hX hE n _ _ _ _ _ _ _ h
          · have h := h_E c12 h
            refine v_pick [] rfl ?_
            exact b_X12_seen_47 hX hE _ h
      · have h := h_E c9 h
        refine v_bipush (v := -2) hX dX12_seen_25 (by decide) ?_
        exact v_iret hX hE dX12_seen_27 h
    · have h := h_E c8 h
      refine v_pick [] rfl ?_
      exact b_X12_seen_17 hX hE _ h
set_option maxRecDepth 100000 in
set_option maxHeartbeats 4000000 in
theorem b_X12_isWindow_29 {X : h_X} (hX : h_ok X cX12_isWindow 2 RX12 1 25) {Q : Int32 → h_S → Prop} (hE : h_end X (some .boolean) (h_QI (x_Z X) Q)) {y0 : Int32} (s : h_S) (h : w_X12_isWindow_29 Q y0 s) : h_V X 2 29 [] [pI y0] s 0 0 := by
  unfold w_X12_isWindow_29 at h
  exact v_zret hX hE dX12_isWindow_29 h.1 h.2
set_option maxRecDepth 100000 in
set_option maxHeartbeats 4000000 in
theorem b_X12_isWindow_28 {X : h_X} (hX : h_ok X cX12_isWindow 2 RX12 1 25) {Q : Int32 → h_S → Prop} (hE : h_end X (some .boolean) (h_QI (x_Z X) Q)) (s : h_S) (h : w_X12_isWindow_28 Q s) : h_V X 2 28 [] [] s 0 0 := by
  unfold w_X12_isWindow_28 at h
  refine v_iconst (v := 0) hX dX12_isWindow_28 (by decide) ?_
  refine v_pick [] rfl ?_
  exact b_X12_isWindow_29 hX hE _ h
set_option maxRecDepth 100000 in
set_option maxHeartbeats 4000000 in
theorem m_X12_isWindow {Z : h_Z} {x0 : Int32} {x1 : Int32} {s : h_S} {Q : Int32 → h_S → Prop} (h : w_X12_isWindow x0 x1 s Q) : h_M Z yX12_isWindow cX12_isWindow 2 (some .boolean) 1 25 [pI x0, pI x1] s 0 0 (h_QI Z Q) := by
  refine h_M.of (by decide) (Nat.le_of_ble_eq_true rfl) (fun X hZ hX hE hI => ?_)
  subst hZ
  unfold w_X12_isWindow at h
  show h_V X 2 0 [(0, pI x0), (1, pI x1)] [] s 0 0
  refine v_iload_n hX dX12_isWindow_0 0 rfl rfl ?_
  refine v_i2l hX dX12_isWindow_1 ?_
  refine v_lconst (v := 0) hX dX12_isWindow_2 (by decide) ?_
  refine v_ldc2 hX dX12_isWindow_3 k_RX12_421 ?_
  refine v_callSi0 hX dX12_isWindow_6 c_RX12_298 cS_X12_in [pL _, pL _, pL _] rfl rfl (Nat.le_of_ble_eq_true rfl) (by decide) (by decide)  (m_X12_in h) (fun p2 s1 h => ?_)
  refine v_if_eq (tgt := 28) hX dX12_isWindow_9 (by decide) (fun c3 => ?_) (fun c3 => ?_)
  · have h := h_T c3 h
    refine v_pick [] rfl ?_
    exact b_X12_isWindow_28 hX hE _ h
  · have h := h_E c3 h
    refine v_iload_n hX dX12_isWindow_12 1 rfl rfl ?_
    refine v_i2l hX dX12_isWindow_13 ?_
    refine v_lconst (v := 1) hX dX12_isWindow_14 (by decide) ?_
    refine v_ldc2 hX dX12_isWindow_15 k_RX12_423 ?_
    refine v_callSi0 hX dX12_isWindow_18 c_RX12_298 cS_X12_in [pL _, pL _, pL _] rfl rfl (Nat.le_of_ble_eq_true rfl) (by decide) (by decide)  (m_X12_in h) (fun p5 s4 h => ?_)
    refine v_if_eq (tgt := 28) hX dX12_isWindow_21 (by decide) (fun c6 => ?_) (fun c6 => ?_)
    · have h := h_T c6 h
      refine v_pick [] rfl ?_
      exact b_X12_isWindow_28 hX hE _ h
    · have h := h_E c6 h
      refine v_iconst (v := 1) hX dX12_isWindow_24 (by decide) ?_
      refine v_goto (tgt := 29) hX dX12_isWindow_25 (by decide) ?_
      refine v_pick [] rfl ?_
      exact b_X12_isWindow_29 hX hE _ h
set_option maxRecDepth 100000 in
set_option maxHeartbeats 4000000 in
theorem b_X12_span_34 {X : h_X} (hX : h_ok X cX12_span 7 RX12 5 119) {Q : Int32 → h_S → Prop} (hE : h_end X (some .int) (h_QI (x_Z X) Q)) (s : h_S) (h : w_X12_span_34 Q s) : h_V X 7 34 [] [] s 0 0 := by
  unfold w_X12_span_34 at h
  refine v_iconst (v := -1) hX dX12_span_34 (by decide) ?_
  exact v_iret hX hE dX12_span_35 h
set_option maxRecDepth 100000 in
set_option maxHeartbeats 4000000 in
theorem b_X12_span_109 {X : h_X} (hX : h_ok X cX12_span 7 RX12 5 119) {Q : Int32 → h_S → Prop} (hE : h_end X (some .int) (h_QI (x_Z X) Q)) {y0 : Int32} (s : h_S) (h : w_X12_span_109 Q y0 s) : h_V X 7 109 [] [pI y0] s 0 0 := by
  unfold w_X12_span_109 at h
  exact v_iret hX hE dX12_span_109 h
set_option maxRecDepth 100000 in
set_option maxHeartbeats 4000000 in
theorem m_X12_span {Z : h_Z} {o0 : Nat} {x1 : Int32} {x2 : Int32} {x3 : Int32} {x4 : Int32} {x5 : Int32} {x6 : Int32} {s : h_S} {Q : Int32 → h_S → Prop} (h : w_X12_span o0 x1 x2 x3 x4 x5 x6 s Q) : h_M Z yX12_span cX12_span 7 (some .int) 5 119 [pR (some o0), pI x1, pI x2, pI x3, pI x4, pI x5, pI x6] s 0 0 (h_QI Z Q) := by
  refine h_M.of (by decide) (Nat.le_of_ble_eq_true rfl) (fun X hZ hX hE hI => ?_)
  subst hZ
  unfold w_X12_span at h
  show h_V X 7 0 [(0, pR (some o0)), (1, pI x1), (2, pI x2), (3, pI x3), (4, pI x4), (5, pI x5), (6, pI x6)] [] s 0 0
  refine v_aload_n hX dX12_span_0 0 rfl rfl ?_
  refine v_iload_n hX dX12_span_1 1 rfl rfl ?_
  obtain ⟨k1, h⟩ := h
  refine v_callVi0 hX dX12_span_2 c_RX12_379 cV_X12_noWriting (ci := 13) (T := TX12) (N := 115) rfl (by exact k1) [pI _] rfl rfl (Nat.le_of_ble_eq_true rfl) (by decide) (by decide)  (m_X12_noWriting h) (fun p3 s2 h => ?_)
  refine v_if_ne (tgt := 34) hX dX12_span_5 (by decide) (fun c4 => ?_) (fun c4 => ?_)
  · have h := h_E c4 h
    refine v_pick [] rfl ?_
    exact b_X12_span_34 hX hE _ h
  · have h := h_T c4 h
    refine v_aload_n hX dX12_span_8 0 rfl rfl ?_
    refine v_iload_n hX dX12_span_9 3 rfl rfl ?_
    obtain ⟨k5, h⟩ := h
    refine v_callVi0 hX dX12_span_10 c_RX12_379 cV_X12_noWriting (ci := 13) (T := TX12) (N := 115) rfl (by exact k5) [pI _] rfl rfl (Nat.le_of_ble_eq_true rfl) (by decide) (by decide)  (m_X12_noWriting h) (fun p7 s6 h => ?_)
    refine v_if_ne (tgt := 34) hX dX12_span_13 (by decide) (fun c8 => ?_) (fun c8 => ?_)
    · have h := h_E c8 h
      refine v_pick [] rfl ?_
      exact b_X12_span_34 hX hE _ h
    · have h := h_T c8 h
      refine v_aload_n hX dX12_span_16 0 rfl rfl ?_
      refine v_iload_n hX dX12_span_17 1 rfl rfl ?_
      refine v_iload_n hX dX12_span_18 2 rfl rfl ?_
      obtain ⟨k9, h⟩ := h
      refine v_callVi0 hX dX12_span_19 c_RX12_385 cV_X12_noPlaceAhead (ci := 13) (T := TX12) (N := 115) rfl (by exact k9) [pI _, pI _] rfl rfl (Nat.le_of_ble_eq_true rfl) (by decide) (by decide)  (m_X12_noPlaceAhead h) (fun p11 s10 h => ?_)
      refine v_if_ne (tgt := 34) hX dX12_span_22 (by decide) (fun c12 => ?_) (fun c12 => ?_)
      · have h := h_E c12 h
        refine v_pick [] rfl ?_
        exact b_X12_span_34 hX hE _ h
      · have h := h_T c12 h
        refine v_aload_n hX dX12_span_25 0 rfl rfl ?_
        refine v_iload hX dX12_span_26 4 rfl ?_
        obtain ⟨k13, h⟩ := h
        refine v_callVi0 hX dX12_span_28 c_RX12_425 cV_X12_noMoment (ci := 13) (T := TX12) (N := 115) rfl (by exact k13) [pI _] rfl rfl (Nat.le_of_ble_eq_true rfl) (by decide) (by decide)  (m_X12_noMoment h) (fun p15 s14 h => ?_)
        refine v_if_eq (tgt := 36) hX dX12_span_31 (by decide) (fun c16 => ?_) (fun c16 => ?_)
        · have h := h_T c16 h
          refine v_iload hX dX12_span_36 5 rfl ?_
          refine v_iload hX dX12_span_38 6 rfl ?_
          refine v_callSi0 hX dX12_span_40 c_RX12_428 cS_X12_isWindow [pI _, pI _] rfl rfl (Nat.le_of_ble_eq_true rfl) (by decide) (by decide)  (m_X12_isWindow h) (fun p18 s17 h => ?_)
          refine v_if_ne (tgt := 49) hX dX12_span_43 (by decide) (fun c19 => ?_) (fun c19 => ?_)
          · have h := h_E c19 h
            refine v_aload_n hX dX12_span_49 0 rfl rfl ?_
            refine v_aload_n hX dX12_span_50 0 rfl rfl ?_
            obtain ⟨k20, h⟩ := h
            refine v_getR hX dX12_span_51 f_RX12_22 rfl k20 ?_
            refine v_iload_n hX dX12_span_54 1 rfl rfl ?_
            obtain ⟨a21, e_a21, h⟩ := h
            refine v_nn1 e_a21 ?_
            obtain ⟨k22, h⟩ := h
            obtain ⟨i23, h⟩ := h
            refine v_iald hX dX12_span_55 k22 i23 ?_
            refine v_iload_n hX dX12_span_56 3 rfl rfl ?_
            refine v_iconst (v := 1) hX dX12_span_57 (by decide) ?_
            refine v_aload_n hX dX12_span_58 0 rfl rfl ?_
            refine v_getI hX dX12_span_59 f_RX12_288 rfl k20 ?_
            refine v_callVi0 hX dX12_span_62 c_RX12_415 cV_X12_whyOf (ci := 13) (T := TX12) (N := 115) rfl (by exact k20) [pI _, pI _, pI _, pI _] rfl rfl (Nat.le_of_ble_eq_true rfl) (by decide) (by decide)  (m_X12_whyOf h) (fun p25 s24 h => ?_)
            refine v_bipush (v := -9) hX dX12_span_65 (by decide) ?_
            refine v_icmp_ne (tgt := 73) hX dX12_span_67 (by decide) (fun c26 => ?_) (fun c26 => ?_)
            · have h := h_E c26 h
              refine v_aload_n hX dX12_span_73 0 rfl rfl ?_
              refine v_iload_n hX dX12_span_74 1 rfl rfl ?_
              obtain ⟨k27, h⟩ := h
              refine v_callVv0 hX dX12_span_75 c_RX12_398 cV_X12_open (ci := 13) (T := TX12) (N := 115) rfl (by exact k27) [pI _] rfl rfl (Nat.le_of_ble_eq_true rfl) (by decide) (by decide)  (m_X12_open h) (fun s28 h => ?_)
              refine v_aload_n hX dX12_span_78 0 rfl rfl ?_
              refine v_iload_n hX dX12_span_79 1 rfl rfl ?_
              refine v_iload_n hX dX12_span_80 2 rfl rfl ?_
              refine v_iconst (v := 2) hX dX12_span_81 (by decide) ?_
              refine v_iload hX dX12_span_82 5 rfl ?_
              refine v_iload hX dX12_span_84 6 rfl ?_
              refine v_iload_n hX dX12_span_86 3 rfl rfl ?_
              refine v_iload hX dX12_span_87 4 rfl ?_
              obtain ⟨k30, h⟩ := h
              refine v_callVi0 hX dX12_span_89 c_RX12_402 cV_X12_come (ci := 13) (T := TX12) (N := 115) rfl (by exact k30) [pI _, pI _, pI _, pI _, pI _, pI _, pI _] rfl rfl (Nat.le_of_ble_eq_true rfl) (by decide) (by decide)  (m_X12_come h) (fun p32 s31 h => ?_)
              refine v_if_eq (tgt := 107) hX dX12_span_92 (by decide) (fun c33 => ?_) (fun c33 => ?_)
              · have h := h_T c33 h
                refine v_bipush (v := -4) hX dX12_span_107 (by decide) ?_
                refine v_pick [] rfl ?_
                exact b_X12_span_109 hX hE _ h
              · have h := h_E c33 h
                refine v_aload_n hX dX12_span_95 0 rfl rfl ?_
                refine v_aload_n hX dX12_span_96 0 rfl rfl ?_
                refine v_iload_n hX dX12_span_97 1 rfl rfl ?_
                obtain ⟨k34, h⟩ := h
                refine v_callVi0 hX dX12_span_98 c_RX12_418 cV_X12_shownThen (ci := 13) (T := TX12) (N := 115) rfl (by exact k34) [pI _] rfl rfl (Nat.le_of_ble_eq_true rfl) (by decide) (by decide)  (m_X12_shownThen h) (fun p36 s35 h => ?_)
                obtain ⟨k37, h⟩ := h
                refine v_callVi0 hX dX12_span_101 c_RX12_302 cV_X12_acted (ci := 13) (T := TX12) (N := 115) rfl (by exact k37) [pI _] rfl rfl (Nat.le_of_ble_eq_true rfl) (by decide) (by decide)  (m_X12_acted h) (fun p39 s38 h => ?_)
                refine v_goto (tgt := 109) hX dX12_span_104 (by decide) ?_
                refine v_pick [] rfl ?_
                exact b_X12_span_109 hX hE _ h
            · have h := h_T c26 h
              refine v_bipush (v := -3) hX dX12_span_70 (by decide) ?_
              exact v_iret hX hE dX12_span_72 h
          · have h := h_T c19 h
            refine v_bipush (v := -2) hX dX12_span_46 (by decide) ?_
            exact v_iret hX hE dX12_span_48 h
        · have h := h_E c16 h
          refine v_pick [] rfl ?_
          exact b_X12_span_34 hX hE _ h
