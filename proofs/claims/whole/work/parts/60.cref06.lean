set_option maxRecDepth 100000 in
set_option maxHeartbeats 4000000 in
theorem b_X12_steps_20 {X : h_X} (hX : h_ok X cX12_steps 4 RX12 6 140) {Q : Int32 → h_S → Prop} (hE : h_end X (some .int) (h_QI (x_Z X) Q)) {y0 : Int32} (s : h_S) (h : w_X12_steps_20 Q y0 s) : h_V X 4 20 [] [pI y0] s 0 0 := by
  unfold w_X12_steps_20 at h
  exact v_iret hX hE dX12_steps_20 h
set_option maxRecDepth 100000 in
set_option maxHeartbeats 4000000 in
theorem m_X12_steps {Z : h_Z} {o0 : Nat} {x1 : Int32} {x2 : Int32} {s : h_S} {Q : Int32 → h_S → Prop} (h : w_X12_steps o0 x1 x2 s Q) : h_M Z yX12_steps cX12_steps 4 (some .int) 6 140 [pR (some o0), pI x1, pI x2] s 0 0 (h_QI Z Q) := by
  refine h_M.of (by decide) (Nat.le_of_ble_eq_true rfl) (fun X hZ hX hE hI => ?_)
  subst hZ
  unfold w_X12_steps at h
  show h_V X 4 0 [(0, pR (some o0)), (1, pI x1), (2, pI x2)] [] s 0 0
  refine v_aload_n hX dX12_steps_0 0 rfl rfl ?_
  refine v_iload_n hX dX12_steps_1 1 rfl rfl ?_
  refine v_iload_n hX dX12_steps_2 2 rfl rfl ?_
  obtain ⟨k1, h⟩ := h
  refine v_callVi0 hX dX12_steps_3 c_RX12_591 cV_X12_noChain (ci := 13) (T := TX12) (N := 115) rfl (by exact k1) [pI _, pI _] rfl rfl (Nat.le_of_ble_eq_true rfl) (by decide) (by decide)  (m_X12_noChain h) (fun p3 s2 h => ?_)
  refine v_istore_n (lv' := [(3, _), (0, _), (1, _), (2, _)]) hX dX12_steps_6 rfl (by decide) rfl ?_
  refine v_iload_n hX dX12_steps_7 0 rfl rfl ?_
  refine v_if_ge (tgt := 15) hX dX12_steps_8 (by decide) (fun c4 => ?_) (fun c4 => ?_)
  · have h := h_T c4 h
    refine v_aload_n hX dX12_steps_15 1 rfl rfl ?_
    refine v_iload_n hX dX12_steps_16 3 rfl rfl ?_
    obtain ⟨k5, h⟩ := h
    refine v_callVi0 hX dX12_steps_17 c_RX12_594 cV_X12_chainMany (ci := 13) (T := TX12) (N := 115) rfl (by exact k5) [pI _] rfl rfl (Nat.le_of_ble_eq_true rfl) (by decide) (by decide)  (m_X12_chainMany h) (fun p7 s6 h => ?_)
    refine v_pick [] rfl ?_
    exact b_X12_steps_20 hX hE _ h
  · have h := h_E c4 h
    refine v_iload_n hX dX12_steps_11 0 rfl rfl ?_
    refine v_goto (tgt := 20) hX dX12_steps_12 (by decide) ?_
    refine v_pick [] rfl ?_
    exact b_X12_steps_20 hX hE _ h
set_option maxRecDepth 100000 in
set_option maxHeartbeats 4000000 in
theorem b_X12_chain_69 {X : h_X} (hX : h_ok X cX12_chain 5 RX12 6 140) {Q : Int32 → h_S → Prop} (hE : h_end X (some .int) (h_QI (x_Z X) Q)) {y0 : Int32} (s : h_S) (h : w_X12_chain_69 Q y0 s) : h_V X 5 69 [] [pI y0] s 0 0 := by
  unfold w_X12_chain_69 at h
  exact v_iret hX hE dX12_chain_69 h
set_option maxRecDepth 100000 in
set_option maxHeartbeats 4000000 in
theorem m_X12_chain {Z : h_Z} {o0 : Nat} {x1 : Int32} {x2 : Int32} {x3 : Int32} {s : h_S} {Q : Int32 → h_S → Prop} (h : w_X12_chain o0 x1 x2 x3 s Q) : h_M Z yX12_chain cX12_chain 5 (some .int) 6 140 [pR (some o0), pI x1, pI x2, pI x3] s 0 0 (h_QI Z Q) := by
  refine h_M.of (by decide) (Nat.le_of_ble_eq_true rfl) (fun X hZ hX hE hI => ?_)
  subst hZ
  unfold w_X12_chain at h
  show h_V X 5 0 [(0, pR (some o0)), (1, pI x1), (2, pI x2), (3, pI x3)] [] s 0 0
  refine v_aload_n hX dX12_chain_0 0 rfl rfl ?_
  refine v_iload_n hX dX12_chain_1 1 rfl rfl ?_
  refine v_iload_n hX dX12_chain_2 2 rfl rfl ?_
  obtain ⟨k1, h⟩ := h
  refine v_callVi0 hX dX12_chain_3 c_RX12_591 cV_X12_noChain (ci := 13) (T := TX12) (N := 115) rfl (by exact k1) [pI _, pI _] rfl rfl (Nat.le_of_ble_eq_true rfl) (by decide) (by decide)  (m_X12_noChain h) (fun p3 s2 h => ?_)
  refine v_istore (lv' := [(4, _), (0, _), (1, _), (2, _), (3, _)]) hX dX12_chain_6 (by decide) rfl ?_
  refine v_iload hX dX12_chain_8 0 rfl ?_
  refine v_if_ge (tgt := 16) hX dX12_chain_10 (by decide) (fun c4 => ?_) (fun c4 => ?_)
  · have h := h_T c4 h
    refine v_iload_n hX dX12_chain_16 4 rfl rfl ?_
    refine v_i2l hX dX12_chain_17 ?_
    refine v_lconst (v := 0) hX dX12_chain_18 (by decide) ?_
    refine v_aload_n hX dX12_chain_19 1 rfl rfl ?_
    refine v_iload_n hX dX12_chain_20 3 rfl rfl ?_
    obtain ⟨k5, h⟩ := h
    refine v_callVi0 hX dX12_chain_21 c_RX12_594 cV_X12_chainMany (ci := 13) (T := TX12) (N := 115) rfl (by exact k5) [pI _] rfl rfl (Nat.le_of_ble_eq_true rfl) (by decide) (by decide)  (m_X12_chainMany h) (fun p7 s6 h => ?_)
    refine v_i2l hX dX12_chain_24 ?_
    refine v_lconst (v := 1) hX dX12_chain_25 (by decide) ?_
    refine v_lsub hX dX12_chain_26 ?_
    refine v_callSi0 hX dX12_chain_27 c_RX12_298 cS_X12_in [pL _, pL _, pL _] rfl rfl (Nat.le_of_ble_eq_true rfl) (by decide) (by decide)  (m_X12_in h) (fun p9 s8 h => ?_)
    refine v_if_ne (tgt := 35) hX dX12_chain_30 (by decide) (fun c10 => ?_) (fun c10 => ?_)
    · have h := h_E c10 h
      refine v_iload_n hX dX12_chain_35 4 rfl rfl ?_
      refine v_aload_n hX dX12_chain_36 1 rfl rfl ?_
      obtain ⟨k11, h⟩ := h
      refine v_getR hX dX12_chain_37 f_RX12_97 rfl k11 ?_
      refine v_iload_n hX dX12_chain_40 3 rfl rfl ?_
      obtain ⟨a12, e_a12, h⟩ := h
      refine v_nn1 e_a12 ?_
      obtain ⟨k13, h⟩ := h
      obtain ⟨i14, h⟩ := h
      refine v_iald hX dX12_chain_41 k13 i14 ?_
      refine v_icmp_ge (tgt := 58) hX dX12_chain_42 (by decide) (fun c15 => ?_) (fun c15 => ?_)
      · have h := h_T c15 h
        refine v_aload_n hX dX12_chain_58 1 rfl rfl ?_
        refine v_getR hX dX12_chain_59 f_RX12_61 rfl k11 ?_
        refine v_aload_n hX dX12_chain_62 1 rfl rfl ?_
        refine v_getR hX dX12_chain_63 f_RX12_91 rfl k11 ?_
        refine v_iload_n hX dX12_chain_66 3 rfl rfl ?_
        obtain ⟨a16, e_a16, h⟩ := h
        refine v_nn1 e_a16 ?_
        obtain ⟨k17, h⟩ := h
        obtain ⟨i18, h⟩ := h
        refine v_iald hX dX12_chain_67 k17 i18 ?_
        obtain ⟨a19, e_a19, h⟩ := h
        refine v_nn1 e_a19 ?_
        obtain ⟨k20, h⟩ := h
        obtain ⟨i21, h⟩ := h
        refine v_iald hX dX12_chain_68 k20 i21 ?_
        refine v_pick [] rfl ?_
        exact b_X12_chain_69 hX hE _ h
      · have h := h_E c15 h
        refine v_aload_n hX dX12_chain_45 1 rfl rfl ?_
        refine v_getR hX dX12_chain_46 f_RX12_100 rfl k11 ?_
        refine v_iconst (v := 5) hX dX12_chain_49 (by decide) ?_
        refine v_iload_n hX dX12_chain_50 3 rfl rfl ?_
        refine v_imul hX dX12_chain_51 ?_
        refine v_iload_n hX dX12_chain_52 4 rfl rfl ?_
        refine v_iadd hX dX12_chain_53 ?_
        obtain ⟨a22, e_a22, h⟩ := h
        refine v_nn1 e_a22 ?_
        obtain ⟨k23, h⟩ := h
        obtain ⟨i24, h⟩ := h
        refine v_iald hX dX12_chain_54 k23 i24 ?_
        refine v_goto (tgt := 69) hX dX12_chain_55 (by decide) ?_
        refine v_pick [] rfl ?_
        exact b_X12_chain_69 hX hE _ h
    · have h := h_T c10 h
      refine v_iconst (v := -1) hX dX12_chain_33 (by decide) ?_
      exact v_iret hX hE dX12_chain_34 h
  · have h := h_E c4 h
    refine v_iload hX dX12_chain_13 0 rfl ?_
    exact v_iret hX hE dX12_chain_15 h
set_option maxRecDepth 100000 in
set_option maxHeartbeats 4000000 in
theorem b_X12_quotes_16 {X : h_X} (hX : h_ok X cX12_quotes 3 RX12 3 74) {Q : Int32 → h_S → Prop} (hE : h_end X (some .int) (h_QI (x_Z X) Q)) (s : h_S) (h : w_X12_quotes_16 Q s) : h_V X 3 16 [] [] s 0 0 := by
  unfold w_X12_quotes_16 at h
  refine v_iconst (v := -1) hX dX12_quotes_16 (by decide) ?_
  exact v_iret hX hE dX12_quotes_17 h
set_option maxRecDepth 100000 in
set_option maxHeartbeats 4000000 in
theorem m_X12_quotes {Z : h_Z} {o0 : Nat} {x1 : Int32} {x2 : Int32} {s : h_S} {Q : Int32 → h_S → Prop} (h : w_X12_quotes o0 x1 x2 s Q) : h_M Z yX12_quotes cX12_quotes 3 (some .int) 3 74 [pR (some o0), pI x1, pI x2] s 0 0 (h_QI Z Q) := by
  refine h_M.of (by decide) (Nat.le_of_ble_eq_true rfl) (fun X hZ hX hE hI => ?_)
  subst hZ
  unfold w_X12_quotes at h
  show h_V X 3 0 [(0, pR (some o0)), (1, pI x1), (2, pI x2)] [] s 0 0
  refine v_aload_n hX dX12_quotes_0 0 rfl rfl ?_
  refine v_iload_n hX dX12_quotes_1 1 rfl rfl ?_
  obtain ⟨k1, h⟩ := h
  refine v_callVi0 hX dX12_quotes_2 c_RX12_379 cV_X12_noWriting (ci := 13) (T := TX12) (N := 115) rfl (by exact k1) [pI _] rfl rfl (Nat.le_of_ble_eq_true rfl) (by decide) (by decide)  (m_X12_noWriting h) (fun p3 s2 h => ?_)
  refine v_if_ne (tgt := 16) hX dX12_quotes_5 (by decide) (fun c4 => ?_) (fun c4 => ?_)
  · have h := h_E c4 h
    refine v_pick [] rfl ?_
    exact b_X12_quotes_16 hX hE _ h
  · have h := h_T c4 h
    refine v_aload_n hX dX12_quotes_8 0 rfl rfl ?_
    refine v_iload_n hX dX12_quotes_9 2 rfl rfl ?_
    obtain ⟨k5, h⟩ := h
    refine v_callVi0 hX dX12_quotes_10 c_RX12_379 cV_X12_noWriting (ci := 13) (T := TX12) (N := 115) rfl (by exact k5) [pI _] rfl rfl (Nat.le_of_ble_eq_true rfl) (by decide) (by decide)  (m_X12_noWriting h) (fun p7 s6 h => ?_)
    refine v_if_eq (tgt := 18) hX dX12_quotes_13 (by decide) (fun c8 => ?_) (fun c8 => ?_)
    · have h := h_T c8 h
      refine v_aload_n hX dX12_quotes_18 0 rfl rfl ?_
      refine v_iload_n hX dX12_quotes_19 1 rfl rfl ?_
      refine v_iconst (v := 0) hX dX12_quotes_20 (by decide) ?_
      obtain ⟨k9, h⟩ := h
      refine v_callVv0 hX dX12_quotes_21 c_RX12_438 cV_X12_laySteps (ci := 13) (T := TX12) (N := 115) rfl (by exact k9) [pI _, pI _] rfl rfl (Nat.le_of_ble_eq_true rfl) (by decide) (by decide)  (m_X12_laySteps h) (fun s10 h => ?_)
      refine v_aload_n hX dX12_quotes_24 0 rfl rfl ?_
      obtain ⟨k12, h⟩ := h
      refine v_getR hX dX12_quotes_25 f_RX12_139 rfl k12 ?_
      refine v_iload_n hX dX12_quotes_28 2 rfl rfl ?_
      obtain ⟨a13, e_a13, h⟩ := h
      refine v_nn1 e_a13 ?_
      obtain ⟨k14, h⟩ := h
      obtain ⟨i15, h⟩ := h
      refine v_iald hX dX12_quotes_29 k14 i15 ?_
      exact v_iret hX hE dX12_quotes_30 h
    · have h := h_E c8 h
      refine v_pick [] rfl ?_
      exact b_X12_quotes_16 hX hE _ h
set_option maxRecDepth 100000 in
set_option maxHeartbeats 4000000 in
theorem b_X12_keepHit_157 {X : h_X} (hX : h_ok X cX12_keepHit 6 RX12 0 0) {Q : h_S → Prop} (hE : h_end X none (h_QV (x_Z X) Q)) (s : h_S) (h : w_X12_keepHit_157 Q s) : h_V X 6 157 [] [] s 0 0 := by
  unfold w_X12_keepHit_157 at h
  exact v_vret hX hE dX12_keepHit_157 h
set_option maxRecDepth 100000 in
set_option maxHeartbeats 4000000 in
theorem b_X12_keepHit_72 {X : h_X} (hX : h_ok X cX12_keepHit 6 RX12 0 0) {Q : h_S → Prop} (hE : h_end X none (h_QV (x_Z X) Q)) : ∀ (n : Nat) (o0 : Nat) (x1 : Int32) (x2 : Int32) (x3 : Int32) (x4 : Int32) (x5 : Int32) (s : h_S), w_X12_keepHit_72 Q n o0 x1 x2 x3 x4 x5 s → h_V X 6 72 [(0, pR (some o0)), (1, pI x1), (2, pI x2), (3, pI x3), (4, pI x4), (5, pI x5)] [] s 0 0 := by
  intro n
  induction n with
  | zero => intro _ _ _ _ _ _ s h; exact h.elim
  | succ n hK72 =>
    intro o0 x1 x2 x3 x4 x5 s h
    have h : w_X12_keepHit_72b Q (w_X12_keepHit_72 Q n) o0 x1 x2 x3 x4 x5 s := h
    unfold w_X12_keepHit_72b at h
    refine v_iload hX dX12_keepHit_72 5 rfl ?_
    refine v_iload hX dX12_keepHit_74 4 rfl ?_
    refine v_icmp_le (tgt := 133) hX dX12_keepHit_76 (by decide) (fun c1 => ?_) (fun c1 => ?_)
    · have h := h_T c1 h
      refine v_aload_n hX dX12_keepHit_133 0 rfl rfl ?_
      obtain ⟨k2, h⟩ := h
      refine v_getR hX dX12_keepHit_134 f_RX12_246 rfl k2 ?_
      refine v_iload hX dX12_keepHit_137 4 rfl ?_
      refine v_iload_n hX dX12_keepHit_139 1 rfl rfl ?_
      obtain ⟨a3, e_a3, h⟩ := h
      refine v_nn2 e_a3 ?_
      obtain ⟨k4, h⟩ := h
      obtain ⟨i5, h⟩ := h
      refine v_iast hX dX12_keepHit_140 k4 i5 ?_
      refine v_aload_n hX dX12_keepHit_141 0 rfl rfl ?_
      refine v_getR hX dX12_keepHit_142 f_RX12_249 rfl k2 ?_
      refine v_iload hX dX12_keepHit_145 4 rfl ?_
      refine v_iload_n hX dX12_keepHit_147 2 rfl rfl ?_
      obtain ⟨a7, e_a7, h⟩ := h
      refine v_nn2 e_a7 ?_
      obtain ⟨k8, h⟩ := h
      obtain ⟨i9, h⟩ := h
      refine v_iast hX dX12_keepHit_148 k8 i9 ?_
      refine v_aload_n hX dX12_keepHit_149 0 rfl rfl ?_
      refine v_getR hX dX12_keepHit_150 f_RX12_252 rfl k2 ?_
      refine v_iload hX dX12_keepHit_153 4 rfl ?_
      refine v_iload_n hX dX12_keepHit_155 3 rfl rfl ?_
      obtain ⟨a11, e_a11, h⟩ := h
      refine v_nn2 e_a11 ?_
      obtain ⟨k12, h⟩ := h
      obtain ⟨i13, h⟩ := h
      refine v_iast hX dX12_keepHit_156 k12 i13 ?_
      refine v_pick [] rfl ?_
      exact b_X12_keepHit_157 hX hE _ h
    · have h := h_E c1 h
      refine v_aload_n hX dX12_keepHit_79 0 rfl rfl ?_
      obtain ⟨k15, h⟩ := h
      refine v_getR hX dX12_keepHit_80 f_RX12_246 rfl k15 ?_
      refine v_iload hX dX12_keepHit_83 5 rfl ?_
      refine v_aload_n hX dX12_keepHit_85 0 rfl rfl ?_
      refine v_getR hX dX12_keepHit_86 f_RX12_246 rfl k15 ?_
      refine v_iload hX dX12_keepHit_89 5 rfl ?_
      refine v_iconst (v := 1) hX dX12_keepHit_91 (by decide) ?_
      refine v_isub hX dX12_keepHit_92 ?_
      obtain ⟨a16, e_a16, h⟩ := h
      refine v_nn1 e_a16 ?_
      obtain ⟨k17, h⟩ := h
      obtain ⟨i18, h⟩ := h
      refine v_iald hX dX12_keepHit_93 k17 i18 ?_
      obtain ⟨a19, e_a19, h⟩ := h
      refine v_nn2 e_a19 ?_
      obtain ⟨k20, h⟩ := h
      obtain ⟨i21, h⟩ := h
      refine v_iast hX dX12_keepHit_94 k20 i21 ?_
      refine v_aload_n hX dX12_keepHit_95 0 rfl rfl ?_
      refine v_getR hX dX12_keepHit_96 f_RX12_249 rfl k15 ?_
      refine v_iload hX dX12_keepHit_99 5 rfl ?_
      refine v_aload_n hX dX12_keepHit_101 0 rfl rfl ?_
      refine v_getR hX dX12_keepHit_102 f_RX12_249 rfl k15 ?_
      refine v_iload hX dX12_keepHit_105 5 rfl ?_
      refine v_iconst (v := 1) hX dX12_keepHit_107 (by decide) ?_
      refine v_isub hX dX12_keepHit_108 ?_
      obtain ⟨a23, e_a23, h⟩ := h
      refine v_nn1 e_a23 ?_
      obtain ⟨k24, h⟩ := h
      obtain ⟨i25, h⟩ := h
      refine v_iald hX dX12_keepHit_109 k24 i25 ?_
      obtain ⟨a26, e_a26, h⟩ := h
      refine v_nn2 e_a26 ?_
      obtain ⟨k27, h⟩ := h
      obtain ⟨i28, h⟩ := h
      refine v_iast hX dX12_keepHit_110 k27 i28 ?_
      refine v_aload_n hX dX12_keepHit_111 0 rfl rfl ?_
      refine v_getR hX dX12_keepHit_112 f_RX12_252 rfl k15 ?_
      refine v_iload hX dX12_keepHit_115 5 rfl ?_
      refine v_aload_n hX dX12_keepHit_117 0 rfl rfl ?_
      refine v_getR hX dX12_keepHit_118 f_RX12_252 rfl k15 ?_
      refine v_iload hX dX12_keepHit_121 5 rfl ?_
      refine v_iconst (v := 1) hX dX12_keepHit_123 (by decide) ?_
      refine v_isub hX dX12_keepHit_124 ?_
      obtain ⟨a30, e_a30, h⟩ := h
      refine v_nn1 e_a30 ?_
      obtain ⟨k31, h⟩ := h
      obtain ⟨i32, h⟩ := h
      refine v_iald hX dX12_keepHit_125 k31 i32 ?_
      obtain ⟨a33, e_a33, h⟩ := h
      refine v_nn2 e_a33 ?_
      obtain ⟨k34, h⟩ := h
      obtain ⟨i35, h⟩ := h
      refine v_iast hX dX12_keepHit_126 k34 i35 ?_
      refine v_iinc (c := -1) (lv' := [(5, _), (0, _), (1, _), (2, _), (3, _), (4, _)]) hX dX12_keepHit_127 5 rfl (by decide) (by decide) rfl ?_
      refine v_goto (tgt := 72) hX dX12_keepHit_130 (by decide) ?_
      refine v_pick [1, 2, 3, 4, 5, 0] rfl ?_
      exact hK72 _ _ _ _ _ _ _ h
set_option maxRecDepth 100000 in
set_option maxHeartbeats 4000000 in
theorem b_X12_keepHit_61 {X : h_X} (hX : h_ok X cX12_keepHit 6 RX12 0 0) {Q : h_S → Prop} (hE : h_end X none (h_QV (x_Z X) Q)) {o0 : Nat} {x1 : Int32} {x2 : Int32} {x3 : Int32} {x4 : Int32} {y0 : Int32} {u1 : Nat} (s : h_S) (h : w_X12_keepHit_61 Q o0 x1 x2 x3 x4 y0 u1 s) : h_V X 6 61 [(0, pR (some o0)), (1, pI x1), (2, pI x2), (3, pI x3), (4, pI x4)] [pI y0, pR (some u1)] s 0 0 := by
  unfold w_X12_keepHit_61 at h
  obtain ⟨k1, h⟩ := h
  refine v_putI hX dX12_keepHit_61 f_RX12_597 k1 ?_
  refine v_aload_n hX dX12_keepHit_64 0 rfl rfl ?_
  obtain ⟨k3, h⟩ := h
  refine v_getI hX dX12_keepHit_65 f_RX12_597 rfl k3 ?_
  refine v_iconst (v := 1) hX dX12_keepHit_68 (by decide) ?_
  refine v_isub hX dX12_keepHit_69 ?_
  refine v_istore (lv' := [(5, _), (0, _), (1, _), (2, _), (3, _), (4, _)]) hX dX12_keepHit_70 (by decide) rfl ?_
  refine v_pick [1, 2, 3, 4, 5, 0] rfl ?_
  obtain ⟨n, h⟩ := h
  exact b_X12_keepHit_72 hX hE n _ _ _ _ _ _ _ h
set_option maxRecDepth 100000 in
set_option maxHeartbeats 4000000 in
theorem b_X12_keepHit_30 {X : h_X} (hX : h_ok X cX12_keepHit 6 RX12 0 0) {Q : h_S → Prop} (hE : h_end X none (h_QV (x_Z X) Q)) {o0 : Nat} {x1 : Int32} {x2 : Int32} {x3 : Int32} {x4 : Int32} (s : h_S) (h : w_X12_keepHit_30 Q o0 x1 x2 x3 x4 s) : h_V X 6 30 [(0, pR (some o0)), (1, pI x1), (2, pI x2), (3, pI x3), (4, pI x4)] [] s 0 0 := by
  unfold w_X12_keepHit_30 at h
  refine v_iload hX dX12_keepHit_30 4 rfl ?_
  refine v_sipush (v := 200) hX dX12_keepHit_32 (by decide) ?_
  refine v_icmp_ge (tgt := 157) hX dX12_keepHit_35 (by decide) (fun c1 => ?_) (fun c1 => ?_)
  · have h := h_T c1 h
    refine v_pick [] rfl ?_
    exact b_X12_keepHit_157 hX hE _ h
  · have h := h_E c1 h
    refine v_aload_n hX dX12_keepHit_38 0 rfl rfl ?_
    refine v_aload_n hX dX12_keepHit_39 0 rfl rfl ?_
    obtain ⟨k2, h⟩ := h
    refine v_getI hX dX12_keepHit_40 f_RX12_597 rfl k2 ?_
    refine v_sipush (v := 200) hX dX12_keepHit_43 (by decide) ?_
    refine v_icmp_ge (tgt := 58) hX dX12_keepHit_46 (by decide) (fun c3 => ?_) (fun c3 => ?_)
    · have h := h_T c3 h
      refine v_sipush (v := 200) hX dX12_keepHit_58 (by decide) ?_
      refine v_pick [0, 1, 2, 3, 4] rfl ?_
      exact b_X12_keepHit_61 hX hE _ h
    · have h := h_E c3 h
      refine v_aload_n hX dX12_keepHit_49 0 rfl rfl ?_
      refine v_getI hX dX12_keepHit_50 f_RX12_597 rfl k2 ?_
      refine v_iconst (v := 1) hX dX12_keepHit_53 (by decide) ?_
      refine v_iadd hX dX12_keepHit_54 ?_
      refine v_goto (tgt := 61) hX dX12_keepHit_55 (by decide) ?_
      refine v_pick [0, 1, 2, 3, 4] rfl ?_
      exact b_X12_keepHit_61 hX hE _ h
set_option maxRecDepth 100000 in
set_option maxHeartbeats 4000000 in
theorem b_X12_keepHit_6 {X : h_X} (hX : h_ok X cX12_keepHit 6 RX12 0 0) {Q : h_S → Prop} (hE : h_end X none (h_QV (x_Z X) Q)) : ∀ (n : Nat) (o0 : Nat) (x1 : Int32) (x2 : Int32) (x3 : Int32) (x4 : Int32) (s : h_S), w_X12_keepHit_6 Q n o0 x1 x2 x3 x4 s → h_V X 6 6 [(0, pR (some o0)), (1, pI x1), (2, pI x2), (3, pI x3), (4, pI x4)] [] s 0 0 := by
  intro n
  induction n with
  | zero => intro _ _ _ _ _ s h; exact h.elim
  | succ n hK6 =>
    intro o0 x1 x2 x3 x4 s h
    have h : w_X12_keepHit_6b Q (w_X12_keepHit_6 Q n) o0 x1 x2 x3 x4 s := h
    unfold w_X12_keepHit_6b at h
    refine v_iload hX dX12_keepHit_6 4 rfl ?_
    refine v_if_le (tgt := 30) hX dX12_keepHit_8 (by decide) (fun c1 => ?_) (fun c1 => ?_)
    · have h := h_T c1 h
      refine v_pick [0, 1, 2, 3, 4] rfl ?_
      exact b_X12_keepHit_30 hX hE _ h
    · have h := h_E c1 h
      refine v_aload_n hX dX12_keepHit_11 0 rfl rfl ?_
      obtain ⟨k2, h⟩ := h
      refine v_getR hX dX12_keepHit_12 f_RX12_252 rfl k2 ?_
      refine v_iload hX dX12_keepHit_15 4 rfl ?_
      refine v_iconst (v := 1) hX dX12_keepHit_17 (by decide) ?_
      refine v_isub hX dX12_keepHit_18 ?_
      obtain ⟨a3, e_a3, h⟩ := h
      refine v_nn1 e_a3 ?_
      obtain ⟨k4, h⟩ := h
      obtain ⟨i5, h⟩ := h
      refine v_iald hX dX12_keepHit_19 k4 i5 ?_
      refine v_iload_n hX dX12_keepHit_20 3 rfl rfl ?_
      refine v_icmp_ge (tgt := 30) hX dX12_keepHit_21 (by decide) (fun c6 => ?_) (fun c6 => ?_)
      · have h := h_T c6 h
        refine v_pick [0, 1, 2, 3, 4] rfl ?_
        exact b_X12_keepHit_30 hX hE _ h
      · have h := h_E c6 h
        refine v_iinc (c := -1) (lv' := [(4, _), (0, _), (1, _), (2, _), (3, _)]) hX dX12_keepHit_24 4 rfl (by decide) (by decide) rfl ?_
        refine v_goto (tgt := 6) hX dX12_keepHit_27 (by decide) ?_
        refine v_pick [1, 2, 3, 4, 0] rfl ?_
        exact hK6 _ _ _ _ _ _ h
set_option maxRecDepth 100000 in
set_option maxHeartbeats 4000000 in
theorem m_X12_keepHit {Z : h_Z} {o0 : Nat} {x1 : Int32} {x2 : Int32} {x3 : Int32} {s : h_S} {Q : h_S → Prop} (h : w_X12_keepHit o0 x1 x2 x3 s Q) : h_M Z yX12_keepHit cX12_keepHit 6 none 0 0 [pR (some o0), pI x1, pI x2, pI x3] s 0 0 (h_QV Z Q) := by
  refine h_M.of (by decide) (Nat.le_of_ble_eq_true rfl) (fun X hZ hX hE hI => ?_)
  subst hZ
  unfold w_X12_keepHit at h
  show h_V X 6 0 [(0, pR (some o0)), (1, pI x1), (2, pI x2), (3, pI x3)] [] s 0 0
  refine v_aload_n hX dX12_keepHit_0 0 rfl rfl ?_
  obtain ⟨k1, h⟩ := h
  refine v_getI hX dX12_keepHit_1 f_RX12_597 rfl k1 ?_
  refine v_istore (lv' := [(4, _), (0, _), (1, _), (2, _), (3, _)]) hX dX12_keepHit_4 (by decide) rfl ?_
  refine v_pick [1, 2, 3, 4, 0] rfl ?_
  obtain ⟨n, h⟩ := h
  exact b_X12_keepHit_6 hX hE n _ _ _ _ _ _ h
set_option maxRecDepth 100000 in
set_option maxHeartbeats 4000000 in
theorem b_X12_isHit_89 {X : h_X} (hX : h_ok X cX12_isHit 8 RX12 4 99) {Q : Int32 → h_S → Prop} (hE : h_end X (some .boolean) (h_QI (x_Z X) Q)) {K21 : Nat → Int32 → Int32 → Int32 → Int32 → Int32 → Int32 → h_S → Prop} (hK21 : ∀ (o0 : Nat) (x1 : Int32) (x2 : Int32) (x3 : Int32) (x4 : Int32) (x5 : Int32) (x6 : Int32) (s : h_S), K21 o0 x1 x2 x3 x4 x5 x6 s → h_V X 8 21 [(0, pR (some o0)), (1, pI x1), (2, pI x2), (3, pI x3), (4, pI x4), (5, pI x5), (6, pI x6)] [] s 0 0) {o0 : Nat} {x1 : Int32} {x2 : Int32} {x3 : Int32} {x4 : Int32} {x6 : Int32} {y0 : Int32} (s : h_S) (h : w_X12_isHit_89 Q K21 o0 x1 x2 x3 x4 x6 y0 s) : h_V X 8 89 [(0, pR (some o0)), (1, pI x1), (2, pI x2), (3, pI x3), (4, pI x4), (6, pI x6)] [pI y0] s 0 0 := by
  unfold w_X12_isHit_89 at h
  refine v_istore (lv' := [(5, _), (0, _), (1, _), (2, _), (3, _), (4, _), (6, _)]) hX dX12_isHit_89 (by decide) rfl ?_
  refine v_iinc (c := 1) (lv' := [(6, _), (5, _), (0, _), (1, _), (2, _), (3, _), (4, _)]) hX dX12_isHit_91 6 rfl (by decide) (by decide) rfl ?_
  refine v_goto (tgt := 21) hX dX12_isHit_94 (by decide) ?_
  refine v_pick [2, 3, 4, 5, 6, 1, 0] rfl ?_
  exact hK21 _ _ _ _ _ _ _ _ h
set_option maxRecDepth 100000 in
set_option maxHeartbeats 4000000 in
theorem b_X12_isHit_88 {X : h_X} (hX : h_ok X cX12_isHit 8 RX12 4 99) {Q : Int32 → h_S → Prop} (hE : h_end X (some .boolean) (h_QI (x_Z X) Q)) {K21 : Nat → Int32 → Int32 → Int32 → Int32 → Int32 → Int32 → h_S → Prop} (hK21 : ∀ (o0 : Nat) (x1 : Int32) (x2 : Int32) (x3 : Int32) (x4 : Int32) (x5 : Int32) (x6 : Int32) (s : h_S), K21 o0 x1 x2 x3 x4 x5 x6 s → h_V X 8 21 [(0, pR (some o0)), (1, pI x1), (2, pI x2), (3, pI x3), (4, pI x4), (5, pI x5), (6, pI x6)] [] s 0 0) {o0 : Nat} {x1 : Int32} {x2 : Int32} {x3 : Int32} {x4 : Int32} {x6 : Int32} (s : h_S) (h : w_X12_isHit_88 Q K21 o0 x1 x2 x3 x4 x6 s) : h_V X 8 88 [(0, pR (some o0)), (1, pI x1), (2, pI x2), (3, pI x3), (4, pI x4), (6, pI x6)] [] s 0 0 := by
  unfold w_X12_isHit_88 at h
  refine v_iconst (v := 0) hX dX12_isHit_88 (by decide) ?_
  refine v_pick [0, 1, 2, 3, 4, 5] rfl ?_
  exact b_X12_isHit_89 hX hE hK21 _ h
set_option maxRecDepth 100000 in
set_option maxHeartbeats 4000000 in
theorem b_X12_isHit_97 {X : h_X} (hX : h_ok X cX12_isHit 8 RX12 4 99) {Q : Int32 → h_S → Prop} (hE : h_end X (some .boolean) (h_QI (x_Z X) Q)) {x5 : Int32} (s : h_S) (h : w_X12_isHit_97 Q x5 s) : h_V X 8 97 [(5, pI x5)] [] s 0 0 := by
  unfold w_X12_isHit_97 at h
  refine v_iload hX dX12_isHit_97 0 rfl ?_
  exact v_zret hX hE dX12_isHit_99 h.1 h.2
set_option maxRecDepth 100000 in
set_option maxHeartbeats 4000000 in
theorem b_X12_isHit_21 {X : h_X} (hX : h_ok X cX12_isHit 8 RX12 4 99) {Q : Int32 → h_S → Prop} (hE : h_end X (some .boolean) (h_QI (x_Z X) Q)) : ∀ (n : Nat) (o0 : Nat) (x1 : Int32) (x2 : Int32) (x3 : Int32) (x4 : Int32) (x5 : Int32) (x6 : Int32) (s : h_S), w_X12_isHit_21 Q n o0 x1 x2 x3 x4 x5 x6 s → h_V X 8 21 [(0, pR (some o0)), (1, pI x1), (2, pI x2), (3, pI x3), (4, pI x4), (5, pI x5), (6, pI x6)] [] s 0 0 := by
  intro n
  induction n with
  | zero => intro _ _ _ _ _ _ _ s h; exact h.elim
  | succ n hK21 =>
    intro o0 x1 x2 x3 x4 x5 x6 s h
    have h : w_X12_isHit_21b Q (w_X12_isHit_21 Q n) o0 x1 x2 x3 x4 x5 x6 s := h
    unfold w_X12_isHit_21b at h
    refine v_iload hX dX12_isHit_21 6 rfl ?_
    refine v_iload hX dX12_isHit_23 4 rfl ?_
    refine v_icmp_ge (tgt := 97) hX dX12_isHit_25 (by decide) (fun c1 => ?_) (fun c1 => ?_)
    · have h := h_T c1 h
      refine v_pick [5] rfl ?_
      exact b_X12_isHit_97 hX hE _ h
    · have h := h_E c1 h
      refine v_iload hX dX12_isHit_28 5 rfl ?_
      refine v_if_eq (tgt := 97) hX dX12_isHit_30 (by decide) (fun c2 => ?_) (fun c2 => ?_)
      · have h := h_T c2 h
        refine v_pick [5] rfl ?_
        exact b_X12_isHit_97 hX hE _ h
      · have h := h_E c2 h
        refine v_aload_n hX dX12_isHit_33 0 rfl rfl ?_
        obtain ⟨k3, h⟩ := h
        refine v_getR hX dX12_isHit_34 f_RX12_91 rfl k3 ?_
        refine v_iload_n hX dX12_isHit_37 2 rfl rfl ?_
        refine v_iload hX dX12_isHit_38 6 rfl ?_
        refine v_iadd hX dX12_isHit_40 ?_
        obtain ⟨a4, e_a4, h⟩ := h
        refine v_nn1 e_a4 ?_
        obtain ⟨k5, h⟩ := h
        obtain ⟨i6, h⟩ := h
        refine v_iald hX dX12_isHit_41 k5 i6 ?_
        refine v_istore (lv' := [(7, _), (0, _), (1, _), (2, _), (3, _), (4, _), (5, _), (6, _)]) hX dX12_isHit_42 (by decide) rfl ?_
        refine v_iload hX dX12_isHit_44 0 rfl ?_
        refine v_bipush (v := -7) hX dX12_isHit_46 (by decide) ?_
        refine v_icmp_eq (tgt := 88) hX dX12_isHit_48 (by decide) (fun c7 => ?_) (fun c7 => ?_)
        · have h := h_T c7 h
          refine v_pick [1, 2, 3, 4, 5, 7] rfl ?_
          exact b_X12_isHit_88 hX hE hK21 _ h
        · have h := h_E c7 h
          refine v_aload_n hX dX12_isHit_51 1 rfl rfl ?_
          refine v_getR hX dX12_isHit_52 f_RX12_55 rfl k3 ?_
          refine v_iload hX dX12_isHit_55 0 rfl ?_
          obtain ⟨a8, e_a8, h⟩ := h
          refine v_nn1 e_a8 ?_
          obtain ⟨k9, h⟩ := h
          obtain ⟨i10, h⟩ := h
          refine v_iald hX dX12_isHit_57 k9 i10 ?_
          refine v_aload_n hX dX12_isHit_58 1 rfl rfl ?_
          refine v_getR hX dX12_isHit_59 f_RX12_264 rfl k3 ?_
          refine v_iload_n hX dX12_isHit_62 4 rfl rfl ?_
          refine v_iload hX dX12_isHit_63 7 rfl ?_
          refine v_iadd hX dX12_isHit_65 ?_
          obtain ⟨a11, e_a11, h⟩ := h
          refine v_nn1 e_a11 ?_
          obtain ⟨k12, h⟩ := h
          obtain ⟨i13, h⟩ := h
          refine v_iald hX dX12_isHit_66 k12 i13 ?_
          refine v_icmp_ne (tgt := 88) hX dX12_isHit_67 (by decide) (fun c14 => ?_) (fun c14 => ?_)
          · have h := h_E c14 h
            refine v_pick [1, 2, 3, 4, 5, 7] rfl ?_
            exact b_X12_isHit_88 hX hE hK21 _ h
          · have h := h_T c14 h
            refine v_aload_n hX dX12_isHit_70 1 rfl rfl ?_
            refine v_iload_n hX dX12_isHit_71 2 rfl rfl ?_
            refine v_iload hX dX12_isHit_72 0 rfl ?_
            refine v_aload_n hX dX12_isHit_74 1 rfl rfl ?_
            refine v_getI hX dX12_isHit_75 f_RX12_288 rfl k3 ?_
            refine v_callVi0 hX dX12_isHit_78 c_RX12_586 cV_X12_isRead (ci := 13) (T := TX12) (N := 115) rfl (by exact k3) [pI _, pI _, pI _] rfl rfl (Nat.le_of_ble_eq_true rfl) (by decide) (by decide)  (m_X12_isRead h) (fun p16 s15 h => ?_)
            refine v_if_eq (tgt := 88) hX dX12_isHit_81 (by decide) (fun c17 => ?_) (fun c17 => ?_)
            · have h := h_T c17 h
              refine v_pick [1, 2, 3, 4, 5, 7] rfl ?_
              exact b_X12_isHit_88 hX hE hK21 _ h
            · have h := h_E c17 h
              refine v_iconst (v := 1) hX dX12_isHit_84 (by decide) ?_
              refine v_goto (tgt := 89) hX dX12_isHit_85 (by decide) ?_
              refine v_pick [1, 2, 3, 4, 5, 7] rfl ?_
              exact b_X12_isHit_89 hX hE hK21 _ h
set_option maxRecDepth 100000 in
set_option maxHeartbeats 4000000 in
theorem b_X12_isHit_16 {X : h_X} (hX : h_ok X cX12_isHit 8 RX12 4 99) {Q : Int32 → h_S → Prop} (hE : h_end X (some .boolean) (h_QI (x_Z X) Q)) {o0 : Nat} {x1 : Int32} {x2 : Int32} {x3 : Int32} {x4 : Int32} {y0 : Int32} (s : h_S) (h : w_X12_isHit_16 Q o0 x1 x2 x3 x4 y0 s) : h_V X 8 16 [(0, pR (some o0)), (1, pI x1), (2, pI x2), (3, pI x3), (4, pI x4)] [pI y0] s 0 0 := by
  unfold w_X12_isHit_16 at h
  refine v_istore (lv' := [(5, _), (0, _), (1, _), (2, _), (3, _), (4, _)]) hX dX12_isHit_16 (by decide) rfl ?_
  refine v_iconst (v := 0) hX dX12_isHit_18 (by decide) ?_
  refine v_istore (lv' := [(6, _), (5, _), (0, _), (1, _), (2, _), (3, _), (4, _)]) hX dX12_isHit_19 (by decide) rfl ?_
  refine v_pick [2, 3, 4, 5, 6, 1, 0] rfl ?_
  obtain ⟨n, h⟩ := h
  exact b_X12_isHit_21 hX hE n _ _ _ _ _ _ _ _ h
set_option maxRecDepth 100000 in
set_option maxHeartbeats 4000000 in
theorem m_X12_isHit {Z : h_Z} {o0 : Nat} {x1 : Int32} {x2 : Int32} {x3 : Int32} {x4 : Int32} {s : h_S} {Q : Int32 → h_S → Prop} (h : w_X12_isHit o0 x1 x2 x3 x4 s Q) : h_M Z yX12_isHit cX12_isHit 8 (some .boolean) 4 99 [pR (some o0), pI x1, pI x2, pI x3, pI x4] s 0 0 (h_QI Z Q) := by
  refine h_M.of (by decide) (Nat.le_of_ble_eq_true rfl) (fun X hZ hX hE hI => ?_)
  subst hZ
  unfold w_X12_isHit at h
  show h_V X 8 0 [(0, pR (some o0)), (1, pI x1), (2, pI x2), (3, pI x3), (4, pI x4)] [] s 0 0
  refine v_iload_n hX dX12_isHit_0 2 rfl rfl ?_
  refine v_iload hX dX12_isHit_1 4 rfl ?_
  refine v_iadd hX dX12_isHit_3 ?_
  refine v_aload_n hX dX12_isHit_4 0 rfl rfl ?_
  obtain ⟨k1, h⟩ := h
  refine v_getI hX dX12_isHit_5 f_RX12_342 rfl k1 ?_
  refine v_icmp_gt (tgt := 15) hX dX12_isHit_8 (by decide) (fun c2 => ?_) (fun c2 => ?_)
  · have h := h_T c2 h
    refine v_iconst (v := 0) hX dX12_isHit_15 (by decide) ?_
    refine v_pick [0, 1, 2, 3, 4] rfl ?_
    exact b_X12_isHit_16 hX hE _ h
  · have h := h_E c2 h
    refine v_iconst (v := 1) hX dX12_isHit_11 (by decide) ?_
    refine v_goto (tgt := 16) hX dX12_isHit_12 (by decide) ?_
    refine v_pick [0, 1, 2, 3, 4] rfl ?_
    exact b_X12_isHit_16 hX hE _ h
set_option maxRecDepth 100000 in
set_option maxHeartbeats 4000000 in
theorem b_X12_seek_15 {X : h_X} (hX : h_ok X cX12_seek 10 RX12 5 126) {Q : Int32 → h_S → Prop} (hE : h_end X (some .int) (h_QI (x_Z X) Q)) {o0 : Nat} (s : h_S) (h : w_X12_seek_15 Q o0 s) : h_V X 10 15 [(0, pR (some o0))] [] s 0 0 := by
  unfold w_X12_seek_15 at h
  refine v_aload_n hX dX12_seek_15 0 rfl rfl ?_
  refine v_iconst (v := -1) hX dX12_seek_16 (by decide) ?_
  obtain ⟨k1, h⟩ := h
  refine v_callVi0 hX dX12_seek_17 c_RX12_389 cV_X12_refused (ci := 13) (T := TX12) (N := 115) rfl (by exact k1) [pI _] rfl rfl (Nat.le_of_ble_eq_true rfl) (by decide) (by decide)  (m_X12_refused h) (fun p3 s2 h => ?_)
  exact v_iret hX hE dX12_seek_20 h
set_option maxRecDepth 100000 in
set_option maxHeartbeats 4000000 in
theorem b_X12_seek_146 {X : h_X} (hX : h_ok X cX12_seek 10 RX12 5 126) {Q : Int32 → h_S → Prop} (hE : h_end X (some .int) (h_QI (x_Z X) Q)) {K64 : Nat → Int32 → Int32 → Int32 → Int32 → Int32 → Int32 → h_S → Prop} (hK64 : ∀ (o0 : Nat) (x1 : Int32) (x2 : Int32) (x4 : Int32) (x5 : Int32) (x7 : Int32) (x8 : Int32) (s : h_S), K64 o0 x1 x2 x4 x5 x7 x8 s → h_V X 10 64 [(0, pR (some o0)), (1, pI x1), (2, pI x2), (4, pI x4), (5, pI x5), (7, pI x7), (8, pI x8)] [] s 0 0) {K96 : Nat → Int32 → Int32 → Int32 → Int32 → Int32 → Int32 → Int32 → h_S → Prop} (hK96 : ∀ (o0 : Nat) (x1 : Int32) (x2 : Int32) (x4 : Int32) (x5 : Int32) (x7 : Int32) (x8 : Int32) (x9 : Int32) (s : h_S), K96 o0 x1 x2 x4 x5 x7 x8 x9 s → h_V X 10 96 [(0, pR (some o0)), (1, pI x1), (2, pI x2), (4, pI x4), (5, pI x5), (7, pI x7), (8, pI x8), (9, pI x9)] [] s 0 0) {o0 : Nat} {x1 : Int32} {x2 : Int32} {x4 : Int32} {x5 : Int32} {x7 : Int32} {x8 : Int32} {x9 : Int32} (s : h_S) (h : w_X12_seek_146 Q K64 K96 o0 x1 x2 x4 x5 x7 x8 x9 s) : h_V X 10 146 [(0, pR (some o0)), (1, pI x1), (2, pI x2), (4, pI x4), (5, pI x5), (7, pI x7), (8, pI x8), (9, pI x9)] [] s 0 0 := by
  unfold w_X12_seek_146 at h
  refine v_iinc (c := 1) (lv' := [(9, _), (0, _), (1, _), (2, _), (4, _), (5, _), (7, _), (8, _)]) hX dX12_seek_146 7 rfl (by decide) (by decide) rfl ?_
  refine v_goto (tgt := 96) hX dX12_seek_149 (by decide) ?_
  refine v_pick [1, 2, 3, 4, 5, 6, 7, 0] rfl ?_
  exact hK96 _ _ _ _ _ _ _ _ _ h
set_option maxRecDepth 100000 in
set_option maxHeartbeats 4000000 in
theorem b_X12_seek_152 {X : h_X} (hX : h_ok X cX12_seek 10 RX12 5 126) {Q : Int32 → h_S → Prop} (hE : h_end X (some .int) (h_QI (x_Z X) Q)) {K64 : Nat → Int32 → Int32 → Int32 → Int32 → Int32 → Int32 → h_S → Prop} (hK64 : ∀ (o0 : Nat) (x1 : Int32) (x2 : Int32) (x4 : Int32) (x5 : Int32) (x7 : Int32) (x8 : Int32) (s : h_S), K64 o0 x1 x2 x4 x5 x7 x8 s → h_V X 10 64 [(0, pR (some o0)), (1, pI x1), (2, pI x2), (4, pI x4), (5, pI x5), (7, pI x7), (8, pI x8)] [] s 0 0) {o0 : Nat} {x1 : Int32} {x2 : Int32} {x4 : Int32} {x5 : Int32} {x7 : Int32} {x8 : Int32} (s : h_S) (h : w_X12_seek_152 Q K64 o0 x1 x2 x4 x5 x7 x8 s) : h_V X 10 152 [(0, pR (some o0)), (1, pI x1), (2, pI x2), (4, pI x4), (5, pI x5), (7, pI x7), (8, pI x8)] [] s 0 0 := by
  unfold w_X12_seek_152 at h
  refine v_iinc (c := 1) (lv' := [(8, _), (0, _), (1, _), (2, _), (4, _), (5, _), (7, _)]) hX dX12_seek_152 6 rfl (by decide) (by decide) rfl ?_
  refine v_goto (tgt := 64) hX dX12_seek_155 (by decide) ?_
  refine v_pick [1, 2, 3, 4, 5, 6, 0] rfl ?_
  exact hK64 _ _ _ _ _ _ _ _ h
set_option maxRecDepth 100000 in
set_option maxHeartbeats 4000000 in
theorem b_X12_seek_96 {X : h_X} (hX : h_ok X cX12_seek 10 RX12 5 126) {Q : Int32 → h_S → Prop} (hE : h_end X (some .int) (h_QI (x_Z X) Q)) {K64 : Nat → Int32 → Int32 → Int32 → Int32 → Int32 → Int32 → h_S → Prop} (hK64 : ∀ (o0 : Nat) (x1 : Int32) (x2 : Int32) (x4 : Int32) (x5 : Int32) (x7 : Int32) (x8 : Int32) (s : h_S), K64 o0 x1 x2 x4 x5 x7 x8 s → h_V X 10 64 [(0, pR (some o0)), (1, pI x1), (2, pI x2), (4, pI x4), (5, pI x5), (7, pI x7), (8, pI x8)] [] s 0 0) : ∀ (n : Nat) (o0 : Nat) (x1 : Int32) (x2 : Int32) (x4 : Int32) (x5 : Int32) (x7 : Int32) (x8 : Int32) (x9 : Int32) (s : h_S), w_X12_seek_96 Q K64 n o0 x1 x2 x4 x5 x7 x8 x9 s → h_V X 10 96 [(0, pR (some o0)), (1, pI x1), (2, pI x2), (4, pI x4), (5, pI x5), (7, pI x7), (8, pI x8), (9, pI x9)] [] s 0 0 := by
  intro n
  induction n with
  | zero => intro _ _ _ _ _ _ _ _ s h; exact h.elim
  | succ n hK96 =>
    intro o0 x1 x2 x4 x5 x7 x8 x9 s h
    have h : w_X12_seek_96b Q K64 (w_X12_seek_96 Q K64 n) o0 x1 x2 x4 x5 x7 x8 x9 s := h
    unfold w_X12_seek_96b at h
    refine v_iload hX dX12_seek_96 7 rfl ?_
    refine v_aload_n hX dX12_seek_98 0 rfl rfl ?_
    obtain ⟨k1, h⟩ := h
    refine v_getI hX dX12_seek_99 f_RX12_342 rfl k1 ?_
    refine v_icmp_ge (tgt := 152) hX dX12_seek_102 (by decide) (fun c2 => ?_) (fun c2 => ?_)
    · have h := h_T c2 h
      refine v_pick [0, 1, 2, 3, 4, 5, 6] rfl ?_
      exact b_X12_seek_152 hX hE hK64 _ h
    · have h := h_E c2 h
      refine v_aload_n hX dX12_seek_105 0 rfl rfl ?_
      refine v_iload_n hX dX12_seek_106 1 rfl rfl ?_
      refine v_iload hX dX12_seek_107 7 rfl ?_
      refine v_bipush (v := 60) hX dX12_seek_109 (by decide) ?_
      refine v_iload_n hX dX12_seek_111 2 rfl rfl ?_
      refine v_imul hX dX12_seek_112 ?_
      refine v_iload hX dX12_seek_113 3 rfl ?_
      refine v_iadd hX dX12_seek_115 ?_
      refine v_iload hX dX12_seek_116 4 rfl ?_
      refine v_callVi0 hX dX12_seek_118 c_RX12_600 cV_X12_isHit (ci := 13) (T := TX12) (N := 115) rfl (by exact k1) [pI _, pI _, pI _, pI _] rfl rfl (Nat.le_of_ble_eq_true rfl) (by decide) (by decide)  (m_X12_isHit h) (fun p4 s3 h => ?_)
      refine v_if_eq (tgt := 146) hX dX12_seek_121 (by decide) (fun c5 => ?_) (fun c5 => ?_)
      · have h := h_T c5 h
        refine v_pick [0, 1, 2, 3, 4, 5, 6, 7] rfl ?_
        exact b_X12_seek_146 hX hE hK64 hK96 _ h
      · have h := h_E c5 h
        refine v_aload_n hX dX12_seek_124 0 rfl rfl ?_
        refine v_iload hX dX12_seek_125 6 rfl ?_
        refine v_iload hX dX12_seek_127 7 rfl ?_
        refine v_aload_n hX dX12_seek_129 0 rfl rfl ?_
        refine v_aload_n hX dX12_seek_130 0 rfl rfl ?_
        obtain ⟨k6, h⟩ := h
        refine v_getR hX dX12_seek_131 f_RX12_91 rfl k6 ?_
        refine v_iload hX dX12_seek_134 7 rfl ?_
        obtain ⟨a7, e_a7, h⟩ := h
        refine v_nn1 e_a7 ?_
        obtain ⟨k8, h⟩ := h
        obtain ⟨i9, h⟩ := h
        refine v_iald hX dX12_seek_136 k8 i9 ?_
        refine v_callVi0 hX dX12_seek_137 c_RX12_603 cV_X12_linksOf (ci := 13) (T := TX12) (N := 115) rfl (by exact k6) [pI _] rfl rfl (Nat.le_of_ble_eq_true rfl) (by decide) (by decide)  (m_X12_linksOf h) (fun p11 s10 h => ?_)
        obtain ⟨k12, h⟩ := h
        refine v_callVv0 hX dX12_seek_140 c_RX12_606 cV_X12_keepHit (ci := 13) (T := TX12) (N := 115) rfl (by exact k12) [pI _, pI _, pI _] rfl rfl (Nat.le_of_ble_eq_true rfl) (by decide) (by decide)  (m_X12_keepHit h) (fun s13 h => ?_)
        refine v_iinc (c := 1) (lv' := [(7, _), (0, _), (1, _), (2, _), (4, _), (5, _), (8, _), (9, _)]) hX dX12_seek_143 5 rfl (by decide) (by decide) rfl ?_
        refine v_pick [1, 2, 3, 4, 5, 0, 6, 7] rfl ?_
        exact b_X12_seek_146 hX hE hK64 hK96 _ h
set_option maxRecDepth 100000 in
set_option maxHeartbeats 4000000 in
theorem b_X12_seek_64 {X : h_X} (hX : h_ok X cX12_seek 10 RX12 5 126) {Q : Int32 → h_S → Prop} (hE : h_end X (some .int) (h_QI (x_Z X) Q)) : ∀ (n : Nat) (o0 : Nat) (x1 : Int32) (x2 : Int32) (x4 : Int32) (x5 : Int32) (x7 : Int32) (x8 : Int32) (s : h_S), w_X12_seek_64 Q n o0 x1 x2 x4 x5 x7 x8 s → h_V X 10 64 [(0, pR (some o0)), (1, pI x1), (2, pI x2), (4, pI x4), (5, pI x5), (7, pI x7), (8, pI x8)] [] s 0 0 := by
  intro n
  induction n with
  | zero => intro _ _ _ _ _ _ _ s h; exact h.elim
  | succ n hK64 =>
    intro o0 x1 x2 x4 x5 x7 x8 s h
    have h : w_X12_seek_64b Q (w_X12_seek_64 Q n) o0 x1 x2 x4 x5 x7 x8 s := h
    unfold w_X12_seek_64b at h
    refine v_iload hX dX12_seek_64 6 rfl ?_
    refine v_aload_n hX dX12_seek_66 0 rfl rfl ?_
    obtain ⟨k1, h⟩ := h
    refine v_getI hX dX12_seek_67 f_RX12_455 rfl k1 ?_
    refine v_icmp_ge (tgt := 158) hX dX12_seek_70 (by decide) (fun c2 => ?_) (fun c2 => ?_)
    · have h := h_T c2 h
      refine v_aload_n hX dX12_seek_158 0 rfl rfl ?_
      refine v_iload hX dX12_seek_159 5 rfl ?_
      refine v_callVi0 hX dX12_seek_161 c_RX12_389 cV_X12_refused (ci := 13) (T := TX12) (N := 115) rfl (by exact k1) [pI _] rfl rfl (Nat.le_of_ble_eq_true rfl) (by decide) (by decide)  (m_X12_refused h) (fun p4 s3 h => ?_)
      exact v_iret hX hE dX12_seek_164 h
    · have h := h_E c2 h
      refine v_aload_n hX dX12_seek_73 0 rfl rfl ?_
      refine v_iload_n hX dX12_seek_74 1 rfl rfl ?_
      refine v_iload hX dX12_seek_75 6 rfl ?_
      refine v_aload_n hX dX12_seek_77 0 rfl rfl ?_
      refine v_getI hX dX12_seek_78 f_RX12_288 rfl k1 ?_
      refine v_callVi0 hX dX12_seek_81 c_RX12_582 cV_X12_isOpen (ci := 13) (T := TX12) (N := 115) rfl (by exact k1) [pI _, pI _, pI _] rfl rfl (Nat.le_of_ble_eq_true rfl) (by decide) (by decide)  (m_X12_isOpen h) (fun p6 s5 h => ?_)
      refine v_if_eq (tgt := 152) hX dX12_seek_84 (by decide) (fun c7 => ?_) (fun c7 => ?_)
      · have h := h_T c7 h
        refine v_pick [0, 1, 2, 3, 4, 5, 6] rfl ?_
        exact b_X12_seek_152 hX hE hK64 _ h
      · have h := h_E c7 h
        refine v_aload_n hX dX12_seek_87 0 rfl rfl ?_
        refine v_iload hX dX12_seek_88 6 rfl ?_
        obtain ⟨k8, h⟩ := h
        refine v_callVv0 hX dX12_seek_90 c_RX12_461 cV_X12_layVersion (ci := 13) (T := TX12) (N := 115) rfl (by exact k8) [pI _] rfl rfl (Nat.le_of_ble_eq_true rfl) (by decide) (by decide)  (m_X12_layVersion h) (fun s9 h => ?_)
        refine v_iconst (v := 0) hX dX12_seek_93 (by decide) ?_
        refine v_istore (lv' := [(9, _), (0, _), (1, _), (2, _), (4, _), (5, _), (7, _), (8, _)]) hX dX12_seek_94 (by decide) rfl ?_
        refine v_pick [1, 2, 3, 4, 5, 6, 7, 0] rfl ?_
        obtain ⟨n, h⟩ := h
        exact b_X12_seek_96 hX hE hK64 n _ _ _ _ _ _ _ _ _ h
set_option maxRecDepth 100000 in
set_option maxHeartbeats 4000000 in
theorem m_X12_seek {Z : h_Z} {o0 : Nat} {x1 : Int32} {x2 : Int32} {x3 : Int32} {x4 : Int32} {x5 : Int32} {s : h_S} {Q : Int32 → h_S → Prop} (h : w_X12_seek o0 x1 x2 x3 x4 x5 s Q) : h_M Z yX12_seek cX12_seek 10 (some .int) 5 126 [pR (some o0), pI x1, pI x2, pI x3, pI x4, pI x5] s 0 0 (h_QI Z Q) := by
  refine h_M.of (by decide) (Nat.le_of_ble_eq_true rfl) (fun X hZ hX hE hI => ?_)
  subst hZ
  unfold w_X12_seek at h
  show h_V X 10 0 [(0, pR (some o0)), (1, pI x1), (2, pI x2), (3, pI x3), (4, pI x4), (5, pI x5)] [] s 0 0
  refine v_aload_n hX dX12_seek_0 0 rfl rfl ?_
  refine v_iload_n hX dX12_seek_1 1 rfl rfl ?_
  obtain ⟨k1, h⟩ := h
  refine v_callVi0 hX dX12_seek_2 c_RX12_317 cV_X12_noHand (ci := 13) (T := TX12) (N := 115) rfl (by exact k1) [pI _] rfl rfl (Nat.le_of_ble_eq_true rfl) (by decide) (by decide)  (m_X12_noHand h) (fun p3 s2 h => ?_)
  refine v_if_ne (tgt := 15) hX dX12_seek_5 (by decide) (fun c4 => ?_) (fun c4 => ?_)
  · have h := h_E c4 h
    refine v_pick [0] rfl ?_
    exact b_X12_seek_15 hX hE _ h
  · have h := h_T c4 h
    refine v_iload_n hX dX12_seek_8 2 rfl rfl ?_
    refine v_callSi0 hX dX12_seek_9 c_RX12_382 cS_X12_noSheet [pI _] rfl rfl (Nat.le_of_ble_eq_true rfl) (by decide) (by decide)  (m_X12_noSheet h) (fun p6 s5 h => ?_)
    refine v_if_eq (tgt := 21) hX dX12_seek_12 (by decide) (fun c7 => ?_) (fun c7 => ?_)
    · have h := h_T c7 h
      refine v_aload_n hX dX12_seek_21 0 rfl rfl ?_
      refine v_iload_n hX dX12_seek_22 2 rfl rfl ?_
      refine v_iload_n hX dX12_seek_23 3 rfl rfl ?_
      refine v_iload hX dX12_seek_24 4 rfl ?_
      refine v_iload hX dX12_seek_26 5 rfl ?_
      obtain ⟨k8, h⟩ := h
      refine v_callVi0 hX dX12_seek_28 c_RX12_392 cV_X12_barred (ci := 13) (T := TX12) (N := 115) rfl (by exact k8) [pI _, pI _, pI _, pI _] rfl rfl (Nat.le_of_ble_eq_true rfl) (by decide) (by decide)  (m_X12_barred h) (fun p10 s9 h => ?_)
      refine v_istore (lv' := [(6, _), (0, _), (1, _), (2, _), (3, _), (4, _), (5, _)]) hX dX12_seek_31 (by decide) rfl ?_
      refine v_iload hX dX12_seek_33 0 rfl ?_
      refine v_if_ge (tgt := 41) hX dX12_seek_35 (by decide) (fun c11 => ?_) (fun c11 => ?_)
      · have h := h_T c11 h
        refine v_iload hX dX12_seek_41 6 rfl ?_
        refine v_if_ne (tgt := 53) hX dX12_seek_43 (by decide) (fun c12 => ?_) (fun c12 => ?_)
        · have h := h_E c12 h
          refine v_aload_n hX dX12_seek_53 1 rfl rfl ?_
          refine v_iconst (v := 0) hX dX12_seek_54 (by decide) ?_
          obtain ⟨k13, h⟩ := h
          refine v_putI hX dX12_seek_55 f_RX12_597 k13 ?_
          refine v_iconst (v := 0) hX dX12_seek_58 (by decide) ?_
          refine v_istore (lv' := [(7, _), (6, _), (0, _), (1, _), (2, _), (3, _), (4, _), (5, _)]) hX dX12_seek_59 (by decide) rfl ?_
          refine v_iconst (v := 0) hX dX12_seek_61 (by decide) ?_
          refine v_istore (lv' := [(8, _), (7, _), (6, _), (0, _), (1, _), (2, _), (3, _), (4, _), (5, _)]) hX dX12_seek_62 (by decide) rfl ?_
          refine v_pick [3, 4, 5, 7, 8, 1, 0] rfl ?_
          obtain ⟨n, h⟩ := h
          exact b_X12_seek_64 hX hE n _ _ _ _ _ _ _ _ h
        · have h := h_T c12 h
          refine v_aload_n hX dX12_seek_46 1 rfl rfl ?_
          refine v_bipush (v := -2) hX dX12_seek_47 (by decide) ?_
          obtain ⟨k15, h⟩ := h
          refine v_callVi0 hX dX12_seek_49 c_RX12_389 cV_X12_refused (ci := 13) (T := TX12) (N := 115) rfl (by exact k15) [pI _] rfl rfl (Nat.le_of_ble_eq_true rfl) (by decide) (by decide)  (m_X12_refused h) (fun p17 s16 h => ?_)
          exact v_iret hX hE dX12_seek_52 h
      · have h := h_E c11 h
        refine v_iload hX dX12_seek_38 0 rfl ?_
        exact v_iret hX hE dX12_seek_40 h
    · have h := h_E c7 h
      refine v_pick [0] rfl ?_
      exact b_X12_seek_15 hX hE _ h
set_option maxRecDepth 100000 in
set_option maxHeartbeats 4000000 in
theorem m_X12_hit {Z : h_Z} {o0 : Nat} {x1 : Int32} {x2 : Int32} {s : h_S} {Q : Int32 → h_S → Prop} (h : w_X12_hit o0 x1 x2 s Q) : h_M Z yX12_hit cX12_hit 3 (some .int) 1 25 [pR (some o0), pI x1, pI x2] s 0 0 (h_QI Z Q) := by
  refine h_M.of (by decide) (Nat.le_of_ble_eq_true rfl) (fun X hZ hX hE hI => ?_)
  subst hZ
  unfold w_X12_hit at h
  show h_V X 3 0 [(0, pR (some o0)), (1, pI x1), (2, pI x2)] [] s 0 0
  refine v_iload_n hX dX12_hit_0 1 rfl rfl ?_
  refine v_i2l hX dX12_hit_1 ?_
  refine v_lconst (v := 0) hX dX12_hit_2 (by decide) ?_
  refine v_aload_n hX dX12_hit_3 0 rfl rfl ?_
  obtain ⟨k1, h⟩ := h
  refine v_getI hX dX12_hit_4 f_RX12_597 rfl k1 ?_
  refine v_i2l hX dX12_hit_7 ?_
  refine v_lconst (v := 1) hX dX12_hit_8 (by decide) ?_
  refine v_lsub hX dX12_hit_9 ?_
  refine v_callSi0 hX dX12_hit_10 c_RX12_298 cS_X12_in [pL _, pL _, pL _] rfl rfl (Nat.le_of_ble_eq_true rfl) (by decide) (by decide)  (m_X12_in h) (fun p3 s2 h => ?_)
  refine v_if_ne (tgt := 18) hX dX12_hit_13 (by decide) (fun c4 => ?_) (fun c4 => ?_)
  · have h := h_E c4 h
    refine v_iload_n hX dX12_hit_18 2 rfl rfl ?_
    refine v_gen (fun q20 e_q20 => ?_)
    rw [← e_q20] at h
    by_cases c5 : q20 = (0 : Int32)
    · have h := h_T c5 h
      refine v_tabIn (tgt := 44) hX dX12_hit_19 (by rw [c5]; decide) (by rw [c5]; decide) (by rw [c5]; rfl) (by decide) ?_
      refine v_aload_n hX dX12_hit_44 0 rfl rfl ?_
      obtain ⟨k6, h⟩ := h
      refine v_getR hX dX12_hit_45 f_RX12_246 rfl k6 ?_
      refine v_iload_n hX dX12_hit_48 1 rfl rfl ?_
      obtain ⟨a7, e_a7, h⟩ := h
      refine v_nn1 e_a7 ?_
      obtain ⟨k8, h⟩ := h
      obtain ⟨i9, h⟩ := h
      refine v_iald hX dX12_hit_49 k8 i9 ?_
      exact v_iret hX hE dX12_hit_50 h
    · have h := h_E c5 h
      by_cases c10 : q20 = (1 : Int32)
      · have h := h_T c10 h
        refine v_tabIn (tgt := 51) hX dX12_hit_19 (by rw [c10]; decide) (by rw [c10]; decide) (by rw [c10]; rfl) (by decide) ?_
        refine v_aload_n hX dX12_hit_51 0 rfl rfl ?_
        obtain ⟨k11, h⟩ := h
        refine v_getR hX dX12_hit_52 f_RX12_249 rfl k11 ?_
        refine v_iload_n hX dX12_hit_55 1 rfl rfl ?_
        obtain ⟨a12, e_a12, h⟩ := h
        refine v_nn1 e_a12 ?_
        obtain ⟨k13, h⟩ := h
        obtain ⟨i14, h⟩ := h
        refine v_iald hX dX12_hit_56 k13 i14 ?_
        exact v_iret hX hE dX12_hit_57 h
      · have h := h_E c10 h
        by_cases c15 : q20 = (2 : Int32)
        · have h := h_T c15 h
          refine v_tabIn (tgt := 58) hX dX12_hit_19 (by rw [c15]; decide) (by rw [c15]; decide) (by rw [c15]; rfl) (by decide) ?_
          refine v_aload_n hX dX12_hit_58 0 rfl rfl ?_
          obtain ⟨k16, h⟩ := h
          refine v_getR hX dX12_hit_59 f_RX12_252 rfl k16 ?_
          refine v_iload_n hX dX12_hit_62 1 rfl rfl ?_
          obtain ⟨a17, e_a17, h⟩ := h
          refine v_nn1 e_a17 ?_
          obtain ⟨k18, h⟩ := h
          obtain ⟨i19, h⟩ := h
          refine v_iald hX dX12_hit_63 k18 i19 ?_
          exact v_iret hX hE dX12_hit_64 h
        · have h := h_E c15 h
          refine v_tabOut (tgt := 65) hX dX12_hit_19 (by have := h_ti c5 (n := 0) rfl; have := h_ti c10 (n := 1) rfl; have := h_ti c15 (n := 2) rfl; omega) (by decide) ?_
          refine v_bipush (v := -2) hX dX12_hit_65 (by decide) ?_
          exact v_iret hX hE dX12_hit_67 h
  · have h := h_T c4 h
    refine v_iconst (v := -1) hX dX12_hit_16 (by decide) ?_
    exact v_iret hX hE dX12_hit_17 h
set_option maxRecDepth 100000 in
set_option maxHeartbeats 4000000 in
theorem b_X12_layTree_64 {X : h_X} (hX : h_ok X cX12_layTree 3 RX12 1 22) {Q : h_S → Prop} (hE : h_end X none (h_QV (x_Z X) Q)) {K2 : Nat → Int32 → Int32 → h_S → Prop} (hK2 : ∀ (o0 : Nat) (x1 : Int32) (x2 : Int32) (s : h_S), K2 o0 x1 x2 s → h_V X 3 2 [(0, pR (some o0)), (1, pI x1), (2, pI x2)] [] s 0 0) {o0 : Nat} {x1 : Int32} {x2 : Int32} {y0 : Int32} {y1 : Int32} {t2 : Option Nat} (s : h_S) (h : w_X12_layTree_64 Q K2 o0 x1 x2 y0 y1 t2 s) : h_V X 3 64 [(0, pR (some o0)), (1, pI x1), (2, pI x2)] [pI y0, pI y1, pR t2] s 0 0 := by
  unfold w_X12_layTree_64 at h
  obtain ⟨a1, e_a1, h⟩ := h
  refine v_nn2 e_a1 ?_
  obtain ⟨k2, h⟩ := h
  obtain ⟨i3, h⟩ := h
  refine v_iast hX dX12_layTree_64 k2 i3 ?_
  refine v_iinc (c := 1) (lv' := [(2, _), (0, _), (1, _)]) hX dX12_layTree_65 2 rfl (by decide) (by decide) rfl ?_
  refine v_goto (tgt := 2) hX dX12_layTree_68 (by decide) ?_
  refine v_pick [1, 2, 0] rfl ?_
  exact hK2 _ _ _ _ h
set_option maxRecDepth 100000 in
set_option maxHeartbeats 4000000 in
theorem b_X12_layTree_63 {X : h_X} (hX : h_ok X cX12_layTree 3 RX12 1 22) {Q : h_S → Prop} (hE : h_end X none (h_QV (x_Z X) Q)) {K2 : Nat → Int32 → Int32 → h_S → Prop} (hK2 : ∀ (o0 : Nat) (x1 : Int32) (x2 : Int32) (s : h_S), K2 o0 x1 x2 s → h_V X 3 2 [(0, pR (some o0)), (1, pI x1), (2, pI x2)] [] s 0 0) {o0 : Nat} {x1 : Int32} {x2 : Int32} {y0 : Int32} {t1 : Option Nat} (s : h_S) (h : w_X12_layTree_63 Q K2 o0 x1 x2 y0 t1 s) : h_V X 3 63 [(0, pR (some o0)), (1, pI x1), (2, pI x2)] [pI y0, pR t1] s 0 0 := by
  unfold w_X12_layTree_63 at h
  refine v_iconst (v := 0) hX dX12_layTree_63 (by decide) ?_
  refine v_pick [0, 1, 2] rfl ?_
  exact b_X12_layTree_64 hX hE hK2 _ h
set_option maxRecDepth 100000 in
set_option maxHeartbeats 4000000 in
theorem b_X12_layTree_75 {X : h_X} (hX : h_ok X cX12_layTree 3 RX12 1 22) {Q : h_S → Prop} (hE : h_end X none (h_QV (x_Z X) Q)) : ∀ (n : Nat) (o0 : Nat) (x2 : Int32) (s : h_S), w_X12_layTree_75 Q n o0 x2 s → h_V X 3 75 [(0, pR (some o0)), (2, pI x2)] [] s 0 0 := by
  intro n
  induction n with
  | zero => intro _ _ s h; exact h.elim
  | succ n hK75 =>
    intro o0 x2 s h
    have h : w_X12_layTree_75b Q (w_X12_layTree_75 Q n) o0 x2 s := h
    unfold w_X12_layTree_75b at h
    refine v_iload_n hX dX12_layTree_75 1 rfl rfl ?_
    refine v_if_le (tgt := 112) hX dX12_layTree_76 (by decide) (fun c1 => ?_) (fun c1 => ?_)
    · have h := h_T c1 h
      exact v_vret hX hE dX12_layTree_112 h
    · have h := h_E c1 h
      refine v_aload_n hX dX12_layTree_79 0 rfl rfl ?_
      obtain ⟨k2, h⟩ := h
      refine v_getR hX dX12_layTree_80 f_RX12_255 rfl k2 ?_
      refine v_iload_n hX dX12_layTree_83 1 rfl rfl ?_
      refine v_aload_n hX dX12_layTree_84 0 rfl rfl ?_
      refine v_getR hX dX12_layTree_85 f_RX12_255 rfl k2 ?_
      refine v_iconst (v := 2) hX dX12_layTree_88 (by decide) ?_
      refine v_iload_n hX dX12_layTree_89 1 rfl rfl ?_
      refine v_imul hX dX12_layTree_90 ?_
      obtain ⟨a3, e_a3, h⟩ := h
      refine v_nn1 e_a3 ?_
      obtain ⟨k4, h⟩ := h
      obtain ⟨i5, h⟩ := h
      refine v_iald hX dX12_layTree_91 k4 i5 ?_
      refine v_aload_n hX dX12_layTree_92 0 rfl rfl ?_
      refine v_getR hX dX12_layTree_93 f_RX12_255 rfl k2 ?_
      refine v_iconst (v := 2) hX dX12_layTree_96 (by decide) ?_
      refine v_iload_n hX dX12_layTree_97 1 rfl rfl ?_
      refine v_imul hX dX12_layTree_98 ?_
      refine v_iconst (v := 1) hX dX12_layTree_99 (by decide) ?_
      refine v_iadd hX dX12_layTree_100 ?_
      obtain ⟨a6, e_a6, h⟩ := h
      refine v_nn1 e_a6 ?_
      obtain ⟨k7, h⟩ := h
      obtain ⟨i8, h⟩ := h
      refine v_iald hX dX12_layTree_101 k7 i8 ?_
      refine v_callSi0 hX dX12_layTree_102 c_RX12_291 cS_X12_mix [pI _, pI _] rfl rfl (Nat.le_of_ble_eq_true rfl) (by decide) (by decide)  (m_X12_mix h) (fun p10 s9 h => ?_)
      obtain ⟨a11, e_a11, h⟩ := h
      refine v_nn2 e_a11 ?_
      obtain ⟨k12, h⟩ := h
      obtain ⟨i13, h⟩ := h
      refine v_iast hX dX12_layTree_105 k12 i13 ?_
      refine v_iinc (c := -1) (lv' := [(2, _), (0, _)]) hX dX12_layTree_106 1 rfl (by decide) (by decide) rfl ?_
      refine v_goto (tgt := 75) hX dX12_layTree_109 (by decide) ?_
      refine v_pick [1, 0] rfl ?_
      exact hK75 _ _ _ h
set_option maxRecDepth 100000 in
set_option maxHeartbeats 4000000 in
theorem b_X12_layTree_2 {X : h_X} (hX : h_ok X cX12_layTree 3 RX12 1 22) {Q : h_S → Prop} (hE : h_end X none (h_QV (x_Z X) Q)) : ∀ (n : Nat) (o0 : Nat) (x1 : Int32) (x2 : Int32) (s : h_S), w_X12_layTree_2 Q n o0 x1 x2 s → h_V X 3 2 [(0, pR (some o0)), (1, pI x1), (2, pI x2)] [] s 0 0 := by
  intro n
  induction n with
  | zero => intro _ _ _ s h; exact h.elim
  | succ n hK2 =>
    intro o0 x1 x2 s h
    have h : w_X12_layTree_2b Q (w_X12_layTree_2 Q n) o0 x1 x2 s := h
    unfold w_X12_layTree_2b at h
    refine v_iload_n hX dX12_layTree_2 2 rfl rfl ?_
    refine v_sipush (v := 512) hX dX12_layTree_3 (by decide) ?_
    refine v_icmp_ge (tgt := 71) hX dX12_layTree_6 (by decide) (fun c1 => ?_) (fun c1 => ?_)
    · have h := h_T c1 h
      refine v_sipush (v := 511) hX dX12_layTree_71 (by decide) ?_
      refine v_istore_n (lv' := [(2, _), (0, _), (1, _)]) hX dX12_layTree_74 rfl (by decide) rfl ?_
      refine v_pick [1, 0] rfl ?_
      obtain ⟨n, h⟩ := h
      exact b_X12_layTree_75 hX hE n _ _ _ h
    · have h := h_E c1 h
      refine v_aload_n hX dX12_layTree_9 0 rfl rfl ?_
      obtain ⟨k2, h⟩ := h
      refine v_getR hX dX12_layTree_10 f_RX12_255 rfl k2 ?_
      refine v_sipush (v := 512) hX dX12_layTree_13 (by decide) ?_
      refine v_iload_n hX dX12_layTree_16 2 rfl rfl ?_
      refine v_iadd hX dX12_layTree_17 ?_
      refine v_iload_n hX dX12_layTree_18 2 rfl rfl ?_
      refine v_aload_n hX dX12_layTree_19 0 rfl rfl ?_
      refine v_getI hX dX12_layTree_20 f_RX12_321 rfl k2 ?_
      refine v_icmp_ge (tgt := 63) hX dX12_layTree_23 (by decide) (fun c3 => ?_) (fun c3 => ?_)
      · have h := h_T c3 h
        refine v_pick [0, 1, 2] rfl ?_
        exact b_X12_layTree_63 hX hE hK2 _ h
      · have h := h_E c3 h
        refine v_aload_n hX dX12_layTree_26 0 rfl rfl ?_
        refine v_getR hX dX12_layTree_27 f_RX12_64 rfl k2 ?_
        refine v_iload_n hX dX12_layTree_30 2 rfl rfl ?_
        obtain ⟨a4, e_a4, h⟩ := h
        refine v_nn1 e_a4 ?_
        obtain ⟨k5, h⟩ := h
        obtain ⟨i6, h⟩ := h
        refine v_iald hX dX12_layTree_31 k5 i6 ?_
        refine v_iload_n hX dX12_layTree_32 1 rfl rfl ?_
        refine v_icmp_gt (tgt := 63) hX dX12_layTree_33 (by decide) (fun c7 => ?_) (fun c7 => ?_)
        · have h := h_T c7 h
          refine v_pick [0, 1, 2] rfl ?_
          exact b_X12_layTree_63 hX hE hK2 _ h
        · have h := h_E c7 h
          refine v_aload_n hX dX12_layTree_36 0 rfl rfl ?_
          refine v_getR hX dX12_layTree_37 f_RX12_58 rfl k2 ?_
          refine v_iload_n hX dX12_layTree_40 2 rfl rfl ?_
          obtain ⟨a8, e_a8, h⟩ := h
          refine v_nn1 e_a8 ?_
          obtain ⟨k9, h⟩ := h
          obtain ⟨i10, h⟩ := h
          refine v_iald hX dX12_layTree_41 k9 i10 ?_
          refine v_aload_n hX dX12_layTree_42 0 rfl rfl ?_
          refine v_getR hX dX12_layTree_43 f_RX12_55 rfl k2 ?_
          refine v_iload_n hX dX12_layTree_46 2 rfl rfl ?_
          obtain ⟨a11, e_a11, h⟩ := h
          refine v_nn1 e_a11 ?_
          obtain ⟨k12, h⟩ := h
          obtain ⟨i13, h⟩ := h
          refine v_iald hX dX12_layTree_47 k12 i13 ?_
          refine v_callSi0 hX dX12_layTree_48 c_RX12_291 cS_X12_mix [pI _, pI _] rfl rfl (Nat.le_of_ble_eq_true rfl) (by decide) (by decide)  (m_X12_mix h) (fun p15 s14 h => ?_)
          refine v_aload_n hX dX12_layTree_51 0 rfl rfl ?_
          obtain ⟨k16, h⟩ := h
          refine v_getR hX dX12_layTree_52 f_RX12_64 rfl k16 ?_
          refine v_iload_n hX dX12_layTree_55 2 rfl rfl ?_
          obtain ⟨a17, e_a17, h⟩ := h
          refine v_nn1 e_a17 ?_
          obtain ⟨k18, h⟩ := h
          obtain ⟨i19, h⟩ := h
          refine v_iald hX dX12_layTree_56 k18 i19 ?_
          refine v_callSi0 hX dX12_layTree_57 c_RX12_291 cS_X12_mix [pI _, pI _] rfl rfl (Nat.le_of_ble_eq_true rfl) (by decide) (by decide)  (m_X12_mix h) (fun p21 s20 h => ?_)
          refine v_goto (tgt := 64) hX dX12_layTree_60 (by decide) ?_
          refine v_pick [0, 1, 2] rfl ?_
          exact b_X12_layTree_64 hX hE hK2 _ h
set_option maxRecDepth 100000 in
set_option maxHeartbeats 4000000 in
theorem m_X12_layTree {Z : h_Z} {o0 : Nat} {x1 : Int32} {s : h_S} {Q : h_S → Prop} (h : w_X12_layTree o0 x1 s Q) : h_M Z yX12_layTree cX12_layTree 3 none 1 22 [pR (some o0), pI x1] s 0 0 (h_QV Z Q) := by
  refine h_M.of (by decide) (Nat.le_of_ble_eq_true rfl) (fun X hZ hX hE hI => ?_)
  subst hZ
  unfold w_X12_layTree at h
  show h_V X 3 0 [(0, pR (some o0)), (1, pI x1)] [] s 0 0
  refine v_iconst (v := 0) hX dX12_layTree_0 (by decide) ?_
  refine v_istore_n (lv' := [(2, _), (0, _), (1, _)]) hX dX12_layTree_1 rfl (by decide) rfl ?_
  refine v_pick [1, 2, 0] rfl ?_
  obtain ⟨n, h⟩ := h
  exact b_X12_layTree_2 hX hE n _ _ _ _ h
set_option maxRecDepth 100000 in
set_option maxHeartbeats 4000000 in
theorem m_X12_seal {Z : h_Z} {o0 : Nat} {x1 : Int32} {s : h_S} {Q : Int32 → h_S → Prop} (h : w_X12_seal o0 x1 s Q) : h_M Z yX12_seal cX12_seal 2 (some .int) 2 46 [pR (some o0), pI x1] s 0 0 (h_QI Z Q) := by
  refine h_M.of (by decide) (Nat.le_of_ble_eq_true rfl) (fun X hZ hX hE hI => ?_)
  subst hZ
  unfold w_X12_seal at h
  show h_V X 2 0 [(0, pR (some o0)), (1, pI x1)] [] s 0 0
  refine v_aload_n hX dX12_seal_0 0 rfl rfl ?_
  refine v_iload_n hX dX12_seal_1 1 rfl rfl ?_
  obtain ⟨k1, h⟩ := h
  refine v_callVi0 hX dX12_seal_2 c_RX12_425 cV_X12_noMoment (ci := 13) (T := TX12) (N := 115) rfl (by exact k1) [pI _] rfl rfl (Nat.le_of_ble_eq_true rfl) (by decide) (by decide)  (m_X12_noMoment h) (fun p3 s2 h => ?_)
  refine v_if_eq (tgt := 10) hX dX12_seal_5 (by decide) (fun c4 => ?_) (fun c4 => ?_)
  · have h := h_T c4 h
    refine v_aload_n hX dX12_seal_10 0 rfl rfl ?_
    refine v_iload_n hX dX12_seal_11 1 rfl rfl ?_
    obtain ⟨k5, h⟩ := h
    refine v_callVv0 hX dX12_seal_12 c_RX12_609 cV_X12_layTree (ci := 13) (T := TX12) (N := 115) rfl (by exact k5) [pI _] rfl rfl (Nat.le_of_ble_eq_true rfl) (by decide) (by decide)  (m_X12_layTree h) (fun s6 h => ?_)
    refine v_aload_n hX dX12_seal_15 0 rfl rfl ?_
    obtain ⟨k8, h⟩ := h
    refine v_getR hX dX12_seal_16 f_RX12_255 rfl k8 ?_
    refine v_iconst (v := 1) hX dX12_seal_19 (by decide) ?_
    obtain ⟨a9, e_a9, h⟩ := h
    refine v_nn1 e_a9 ?_
    obtain ⟨k10, h⟩ := h
    obtain ⟨i11, h⟩ := h
    refine v_iald hX dX12_seal_20 k10 i11 ?_
    exact v_iret hX hE dX12_seal_21 h
  · have h := h_E c4 h
    refine v_iconst (v := 0) hX dX12_seal_8 (by decide) ?_
    exact v_iret hX hE dX12_seal_9 h
set_option maxRecDepth 100000 in
set_option maxHeartbeats 4000000 in
theorem m_X12_sideOf {Z : h_Z} {o0 : Nat} {x1 : Int32} {x2 : Int32} {s : h_S} {Q : Int32 → h_S → Prop} (h : w_X12_sideOf o0 x1 x2 s Q) : h_M Z yX12_sideOf cX12_sideOf 3 (some .int) 0 0 [pR (some o0), pI x1, pI x2] s 0 0 (h_QI Z Q) := by
  refine h_M.of (by decide) (Nat.le_of_ble_eq_true rfl) (fun X hZ hX hE hI => ?_)
  subst hZ
  unfold w_X12_sideOf at h
  show h_V X 3 0 [(0, pR (some o0)), (1, pI x1), (2, pI x2)] [] s 0 0
  refine v_aload_n hX dX12_sideOf_0 0 rfl rfl ?_
  obtain ⟨k1, h⟩ := h
  refine v_getR hX dX12_sideOf_1 f_RX12_255 rfl k1 ?_
  refine v_sipush (v := 512) hX dX12_sideOf_4 (by decide) ?_
  refine v_iload_n hX dX12_sideOf_7 1 rfl rfl ?_
  refine v_iadd hX dX12_sideOf_8 ?_
  refine v_iload_n hX dX12_sideOf_9 2 rfl rfl ?_
  refine v_ishr hX dX12_sideOf_10 ?_
  refine v_iconst (v := 1) hX dX12_sideOf_11 (by decide) ?_
  refine v_ixor hX dX12_sideOf_12 ?_
  obtain ⟨a2, e_a2, h⟩ := h
  refine v_nn1 e_a2 ?_
  obtain ⟨k3, h⟩ := h
  obtain ⟨i4, h⟩ := h
  refine v_iald hX dX12_sideOf_13 k3 i4 ?_
  exact v_iret hX hE dX12_sideOf_14 h
set_option maxRecDepth 100000 in
set_option maxHeartbeats 4000000 in
theorem b_X12_side_28 {X : h_X} (hX : h_ok X cX12_side 4 RX12 2 46) {Q : Int32 → h_S → Prop} (hE : h_end X (some .int) (h_QI (x_Z X) Q)) (s : h_S) (h : w_X12_side_28 Q s) : h_V X 4 28 [] [] s 0 0 := by
  unfold w_X12_side_28 at h
  refine v_iconst (v := 0) hX dX12_side_28 (by decide) ?_
  exact v_iret hX hE dX12_side_29 h
set_option maxRecDepth 100000 in
set_option maxHeartbeats 4000000 in
theorem m_X12_side {Z : h_Z} {o0 : Nat} {x1 : Int32} {x2 : Int32} {x3 : Int32} {s : h_S} {Q : Int32 → h_S → Prop} (h : w_X12_side o0 x1 x2 x3 s Q) : h_M Z yX12_side cX12_side 4 (some .int) 2 46 [pR (some o0), pI x1, pI x2, pI x3] s 0 0 (h_QI Z Q) := by
  refine h_M.of (by decide) (Nat.le_of_ble_eq_true rfl) (fun X hZ hX hE hI => ?_)
  subst hZ
  unfold w_X12_side at h
  show h_V X 4 0 [(0, pR (some o0)), (1, pI x1), (2, pI x2), (3, pI x3)] [] s 0 0
  refine v_aload_n hX dX12_side_0 0 rfl rfl ?_
  refine v_iload_n hX dX12_side_1 1 rfl rfl ?_
  obtain ⟨k1, h⟩ := h
  refine v_callVi0 hX dX12_side_2 c_RX12_452 cV_X12_noWord (ci := 13) (T := TX12) (N := 115) rfl (by exact k1) [pI _] rfl rfl (Nat.le_of_ble_eq_true rfl) (by decide) (by decide)  (m_X12_noWord h) (fun p3 s2 h => ?_)
  refine v_if_ne (tgt := 28) hX dX12_side_5 (by decide) (fun c4 => ?_) (fun c4 => ?_)
  · have h := h_E c4 h
    refine v_pick [] rfl ?_
    exact b_X12_side_28 hX hE _ h
  · have h := h_T c4 h
    refine v_aload_n hX dX12_side_8 0 rfl rfl ?_
    refine v_iload_n hX dX12_side_9 2 rfl rfl ?_
    obtain ⟨k5, h⟩ := h
    refine v_callVi0 hX dX12_side_10 c_RX12_425 cV_X12_noMoment (ci := 13) (T := TX12) (N := 115) rfl (by exact k5) [pI _] rfl rfl (Nat.le_of_ble_eq_true rfl) (by decide) (by decide)  (m_X12_noMoment h) (fun p7 s6 h => ?_)
    refine v_if_ne (tgt := 28) hX dX12_side_13 (by decide) (fun c8 => ?_) (fun c8 => ?_)
    · have h := h_E c8 h
      refine v_pick [] rfl ?_
      exact b_X12_side_28 hX hE _ h
    · have h := h_T c8 h
      refine v_iload_n hX dX12_side_16 3 rfl rfl ?_
      refine v_i2l hX dX12_side_17 ?_
      refine v_lconst (v := 0) hX dX12_side_18 (by decide) ?_
      refine v_ldc2 hX dX12_side_19 k_RX12_612 ?_
      refine v_callSi0 hX dX12_side_22 c_RX12_298 cS_X12_in [pL _, pL _, pL _] rfl rfl (Nat.le_of_ble_eq_true rfl) (by decide) (by decide)  (m_X12_in h) (fun p10 s9 h => ?_)
      refine v_if_ne (tgt := 30) hX dX12_side_25 (by decide) (fun c11 => ?_) (fun c11 => ?_)
      · have h := h_E c11 h
        refine v_aload_n hX dX12_side_30 0 rfl rfl ?_
        refine v_iload_n hX dX12_side_31 2 rfl rfl ?_
        obtain ⟨k12, h⟩ := h
        refine v_callVv0 hX dX12_side_32 c_RX12_609 cV_X12_layTree (ci := 13) (T := TX12) (N := 115) rfl (by exact k12) [pI _] rfl rfl (Nat.le_of_ble_eq_true rfl) (by decide) (by decide)  (m_X12_layTree h) (fun s13 h => ?_)
        refine v_aload_n hX dX12_side_35 0 rfl rfl ?_
        refine v_iload_n hX dX12_side_36 1 rfl rfl ?_
        refine v_iload_n hX dX12_side_37 3 rfl rfl ?_
        obtain ⟨k15, h⟩ := h
        refine v_callVi0 hX dX12_side_38 c_RX12_614 cV_X12_sideOf (ci := 13) (T := TX12) (N := 115) rfl (by exact k15) [pI _, pI _] rfl rfl (Nat.le_of_ble_eq_true rfl) (by decide) (by decide)  (m_X12_sideOf h) (fun p17 s16 h => ?_)
        exact v_iret hX hE dX12_side_41 h
      · have h := h_T c11 h
        refine v_pick [] rfl ?_
        exact b_X12_side_28 hX hE _ h
set_option maxRecDepth 100000 in
set_option maxHeartbeats 4000000 in
theorem b_X12_prove_29 {X : h_X} (hX : h_ok X cX12_prove 13 RX12 2 49) {Q : Int32 → h_S → Prop} (hE : h_end X (some .int) (h_QI (x_Z X) Q)) {o0 : Nat} (s : h_S) (h : w_X12_prove_29 Q o0 s) : h_V X 13 29 [(0, pR (some o0))] [] s 0 0 := by
  unfold w_X12_prove_29 at h
  refine v_aload_n hX dX12_prove_29 0 rfl rfl ?_
  refine v_iconst (v := -1) hX dX12_prove_30 (by decide) ?_
  obtain ⟨k1, h⟩ := h
  refine v_callVi0 hX dX12_prove_31 c_RX12_389 cV_X12_refused (ci := 13) (T := TX12) (N := 115) rfl (by exact k1) [pI _] rfl rfl (Nat.le_of_ble_eq_true rfl) (by decide) (by decide)  (m_X12_refused h) (fun p3 s2 h => ?_)
  exact v_iret hX hE dX12_prove_34 h
set_option maxRecDepth 100000 in
set_option maxHeartbeats 4000000 in
theorem b_X12_prove_151 {X : h_X} (hX : h_ok X cX12_prove 13 RX12 2 49) {Q : Int32 → h_S → Prop} (hE : h_end X (some .int) (h_QI (x_Z X) Q)) {K78 : Nat → Int32 → Int32 → Int32 → Int32 → Int32 → h_S → Prop} (hK78 : ∀ (o0 : Nat) (x1 : Int32) (x6 : Int32) (x8 : Int32) (x10 : Int32) (x11 : Int32) (s : h_S), K78 o0 x1 x6 x8 x10 x11 s → h_V X 13 78 [(0, pR (some o0)), (1, pI x1), (6, pI x6), (8, pI x8), (10, pI x10), (11, pI x11)] [] s 0 0) {o0 : Nat} {x1 : Int32} {x6 : Int32} {x8 : Int32} {x11 : Int32} {y0 : Int32} (s : h_S) (h : w_X12_prove_151 Q K78 o0 x1 x6 x8 x11 y0 s) : h_V X 13 151 [(0, pR (some o0)), (1, pI x1), (6, pI x6), (8, pI x8), (11, pI x11)] [pI y0] s 0 0 := by
  unfold w_X12_prove_151 at h
  refine v_istore (lv' := [(10, _), (0, _), (1, _), (6, _), (8, _), (11, _)]) hX dX12_prove_151 (by decide) rfl ?_
  refine v_iinc (c := 1) (lv' := [(11, _), (10, _), (0, _), (1, _), (6, _), (8, _)]) hX dX12_prove_153 5 rfl (by decide) (by decide) rfl ?_
  refine v_goto (tgt := 78) hX dX12_prove_156 (by decide) ?_
  refine v_pick [2, 3, 4, 5, 1, 0] rfl ?_
  exact hK78 _ _ _ _ _ _ _ h
set_option maxRecDepth 100000 in
set_option maxHeartbeats 4000000 in
theorem b_X12_prove_176 {X : h_X} (hX : h_ok X cX12_prove 13 RX12 2 49) {Q : Int32 → h_S → Prop} (hE : h_end X (some .int) (h_QI (x_Z X) Q)) {y0 : Int32} {u1 : Nat} (s : h_S) (h : w_X12_prove_176 Q y0 u1 s) : h_V X 13 176 [] [pI y0, pR (some u1)] s 0 0 := by
  unfold w_X12_prove_176 at h
  obtain ⟨k1, h⟩ := h
  refine v_callVi0 hX dX12_prove_176 c_RX12_389 cV_X12_refused (ci := 13) (T := TX12) (N := 115) rfl (by exact k1) [pI _] rfl rfl (Nat.le_of_ble_eq_true rfl) (by decide) (by decide)  (m_X12_refused h) (fun p3 s2 h => ?_)
  exact v_iret hX hE dX12_prove_179 h
set_option maxRecDepth 100000 in
set_option maxHeartbeats 4000000 in
theorem b_X12_prove_78 {X : h_X} (hX : h_ok X cX12_prove 13 RX12 2 49) {Q : Int32 → h_S → Prop} (hE : h_end X (some .int) (h_QI (x_Z X) Q)) : ∀ (n : Nat) (o0 : Nat) (x1 : Int32) (x6 : Int32) (x8 : Int32) (x10 : Int32) (x11 : Int32) (s : h_S), w_X12_prove_78 Q n o0 x1 x6 x8 x10 x11 s → h_V X 13 78 [(0, pR (some o0)), (1, pI x1), (6, pI x6), (8, pI x8), (10, pI x10), (11, pI x11)] [] s 0 0 := by
  intro n
  induction n with
  | zero => intro _ _ _ _ _ _ s h; exact h.elim
  | succ n hK78 =>
    intro o0 x1 x6 x8 x10 x11 s h
    have h : w_X12_prove_78b Q (w_X12_prove_78 Q n) o0 x1 x6 x8 x10 x11 s := h
    unfold w_X12_prove_78b at h
    refine v_iload hX dX12_prove_78 5 rfl ?_
    refine v_bipush (v := 9) hX dX12_prove_80 (by decide) ?_
    refine v_icmp_ge (tgt := 159) hX dX12_prove_82 (by decide) (fun c1 => ?_) (fun c1 => ?_)
    · have h := h_T c1 h
      refine v_aload_n hX dX12_prove_159 0 rfl rfl ?_
      refine v_iload hX dX12_prove_160 4 rfl ?_
      refine v_aload_n hX dX12_prove_162 0 rfl rfl ?_
      obtain ⟨k2, h⟩ := h
      refine v_getR hX dX12_prove_163 f_RX12_255 rfl k2 ?_
      refine v_iconst (v := 1) hX dX12_prove_166 (by decide) ?_
      obtain ⟨a3, e_a3, h⟩ := h
      refine v_nn1 e_a3 ?_
      obtain ⟨k4, h⟩ := h
      obtain ⟨i5, h⟩ := h
      refine v_iald hX dX12_prove_167 k4 i5 ?_
      refine v_icmp_ne (tgt := 175) hX dX12_prove_168 (by decide) (fun c6 => ?_) (fun c6 => ?_)
      · have h := h_E c6 h
        refine v_iconst (v := 0) hX dX12_prove_175 (by decide) ?_
        refine v_pick [] rfl ?_
        exact b_X12_prove_176 hX hE _ h
      · have h := h_T c6 h
        refine v_iconst (v := 1) hX dX12_prove_171 (by decide) ?_
        refine v_goto (tgt := 176) hX dX12_prove_172 (by decide) ?_
        refine v_pick [] rfl ?_
        exact b_X12_prove_176 hX hE _ h
    · have h := h_E c1 h
      refine v_aload_n hX dX12_prove_85 0 rfl rfl ?_
      obtain ⟨k7, h⟩ := h
      refine v_getR hX dX12_prove_86 f_RX12_264 rfl k7 ?_
      refine v_bipush (v := 60) hX dX12_prove_89 (by decide) ?_
      refine v_iload hX dX12_prove_91 2 rfl ?_
      refine v_imul hX dX12_prove_93 ?_
      refine v_iload hX dX12_prove_94 3 rfl ?_
      refine v_iadd hX dX12_prove_96 ?_
      refine v_iload hX dX12_prove_97 5 rfl ?_
      refine v_iadd hX dX12_prove_99 ?_
      obtain ⟨a8, e_a8, h⟩ := h
      refine v_nn1 e_a8 ?_
      obtain ⟨k9, h⟩ := h
      obtain ⟨i10, h⟩ := h
      refine v_iald hX dX12_prove_100 k9 i10 ?_
      refine v_istore (lv' := [(12, _), (0, _), (1, _), (6, _), (8, _), (10, _), (11, _)]) hX dX12_prove_101 (by decide) rfl ?_
      refine v_iload hX dX12_prove_103 0 rfl ?_
      refine v_aload_n hX dX12_prove_105 1 rfl rfl ?_
      refine v_iload_n hX dX12_prove_106 2 rfl rfl ?_
      refine v_iload hX dX12_prove_107 6 rfl ?_
      refine v_callVi0 hX dX12_prove_109 c_RX12_614 cV_X12_sideOf (ci := 13) (T := TX12) (N := 115) rfl (by exact k7) [pI _, pI _] rfl rfl (Nat.le_of_ble_eq_true rfl) (by decide) (by decide)  (m_X12_sideOf h) (fun p13 s12 h => ?_)
      refine v_icmp_eq (tgt := 125) hX dX12_prove_112 (by decide) (fun c14 => ?_) (fun c14 => ?_)
      · have h := h_T c14 h
        refine v_iload_n hX dX12_prove_125 2 rfl rfl ?_
        refine v_iload hX dX12_prove_126 6 rfl ?_
        refine v_ishr hX dX12_prove_128 ?_
        refine v_iconst (v := 1) hX dX12_prove_129 (by decide) ?_
        refine v_iand hX dX12_prove_130 ?_
        refine v_if_ne (tgt := 144) hX dX12_prove_131 (by decide) (fun c15 => ?_) (fun c15 => ?_)
        · have h := h_E c15 h
          refine v_iload hX dX12_prove_144 0 rfl ?_
          refine v_iload hX dX12_prove_146 5 rfl ?_
          refine v_callSi0 hX dX12_prove_148 c_RX12_291 cS_X12_mix [pI _, pI _] rfl rfl (Nat.le_of_ble_eq_true rfl) (by decide) (by decide)  (m_X12_mix h) (fun p17 s16 h => ?_)
          refine v_pick [1, 2, 3, 4, 6] rfl ?_
          exact b_X12_prove_151 hX hE hK78 _ h
        · have h := h_T c15 h
          refine v_iload hX dX12_prove_134 5 rfl ?_
          refine v_iload hX dX12_prove_136 0 rfl ?_
          refine v_callSi0 hX dX12_prove_138 c_RX12_291 cS_X12_mix [pI _, pI _] rfl rfl (Nat.le_of_ble_eq_true rfl) (by decide) (by decide)  (m_X12_mix h) (fun p19 s18 h => ?_)
          refine v_goto (tgt := 151) hX dX12_prove_141 (by decide) ?_
          refine v_pick [1, 2, 3, 4, 6] rfl ?_
          exact b_X12_prove_151 hX hE hK78 _ h
      · have h := h_E c14 h
        refine v_aload_n hX dX12_prove_115 1 rfl rfl ?_
        refine v_bipush (v := -100) hX dX12_prove_116 (by decide) ?_
        refine v_iload hX dX12_prove_118 6 rfl ?_
        refine v_isub hX dX12_prove_120 ?_
        obtain ⟨k20, h⟩ := h
        refine v_callVi0 hX dX12_prove_121 c_RX12_389 cV_X12_refused (ci := 13) (T := TX12) (N := 115) rfl (by exact k20) [pI _] rfl rfl (Nat.le_of_ble_eq_true rfl) (by decide) (by decide)  (m_X12_refused h) (fun p22 s21 h => ?_)
        exact v_iret hX hE dX12_prove_124 h
set_option maxRecDepth 100000 in
set_option maxHeartbeats 4000000 in
theorem m_X12_prove {Z : h_Z} {o0 : Nat} {x1 : Int32} {x2 : Int32} {x3 : Int32} {x4 : Int32} {x5 : Int32} {x6 : Int32} {x7 : Int32} {x8 : Int32} {s : h_S} {Q : Int32 → h_S → Prop} (h : w_X12_prove o0 x1 x2 x3 x4 x5 x6 x7 x8 s Q) : h_M Z yX12_prove cX12_prove 13 (some .int) 2 49 [pR (some o0), pI x1, pI x2, pI x3, pI x4, pI x5, pI x6, pI x7, pI x8] s 0 0 (h_QI Z Q) := by
  refine h_M.of (by decide) (Nat.le_of_ble_eq_true rfl) (fun X hZ hX hE hI => ?_)
  subst hZ
  unfold w_X12_prove at h
  show h_V X 13 0 [(0, pR (some o0)), (1, pI x1), (2, pI x2), (3, pI x3), (4, pI x4), (5, pI x5), (6, pI x6), (7, pI x7), (8, pI x8)] [] s 0 0
  refine v_iload_n hX dX12_prove_0 1 rfl rfl ?_
  refine v_i2l hX dX12_prove_1 ?_
  refine v_lconst (v := 0) hX dX12_prove_2 (by decide) ?_
  refine v_ldc2 hX dX12_prove_3 k_RX12_421 ?_
  refine v_callSi0 hX dX12_prove_6 c_RX12_298 cS_X12_in [pL _, pL _, pL _] rfl rfl (Nat.le_of_ble_eq_true rfl) (by decide) (by decide)  (m_X12_in h) (fun p2 s1 h => ?_)
  refine v_if_eq (tgt := 29) hX dX12_prove_9 (by decide) (fun c3 => ?_) (fun c3 => ?_)
  · have h := h_T c3 h
    refine v_pick [0] rfl ?_
    exact b_X12_prove_29 hX hE _ h
  · have h := h_E c3 h
    refine v_aload_n hX dX12_prove_12 0 rfl rfl ?_
    refine v_iload hX dX12_prove_13 5 rfl ?_
    obtain ⟨k4, h⟩ := h
    refine v_callVi0 hX dX12_prove_15 c_RX12_425 cV_X12_noMoment (ci := 13) (T := TX12) (N := 115) rfl (by exact k4) [pI _] rfl rfl (Nat.le_of_ble_eq_true rfl) (by decide) (by decide)  (m_X12_noMoment h) (fun p6 s5 h => ?_)
    refine v_if_ne (tgt := 29) hX dX12_prove_18 (by decide) (fun c7 => ?_) (fun c7 => ?_)
    · have h := h_E c7 h
      refine v_pick [0] rfl ?_
      exact b_X12_prove_29 hX hE _ h
    · have h := h_T c7 h
      refine v_iload hX dX12_prove_21 6 rfl ?_
      refine v_callSi0 hX dX12_prove_23 c_RX12_382 cS_X12_noSheet [pI _] rfl rfl (Nat.le_of_ble_eq_true rfl) (by decide) (by decide)  (m_X12_noSheet h) (fun p9 s8 h => ?_)
      refine v_if_eq (tgt := 35) hX dX12_prove_26 (by decide) (fun c10 => ?_) (fun c10 => ?_)
      · have h := h_T c10 h
        refine v_aload_n hX dX12_prove_35 0 rfl rfl ?_
        refine v_iload hX dX12_prove_36 6 rfl ?_
        refine v_iload hX dX12_prove_38 7 rfl ?_
        refine v_iload hX dX12_prove_40 8 rfl ?_
        refine v_bipush (v := 9) hX dX12_prove_42 (by decide) ?_
        obtain ⟨k11, h⟩ := h
        refine v_callVi0 hX dX12_prove_44 c_RX12_392 cV_X12_barred (ci := 13) (T := TX12) (N := 115) rfl (by exact k11) [pI _, pI _, pI _, pI _] rfl rfl (Nat.le_of_ble_eq_true rfl) (by decide) (by decide)  (m_X12_barred h) (fun p13 s12 h => ?_)
        refine v_istore (lv' := [(9, _), (0, _), (1, _), (2, _), (3, _), (4, _), (5, _), (6, _), (7, _), (8, _)]) hX dX12_prove_47 (by decide) rfl ?_
        refine v_iload hX dX12_prove_49 0 rfl ?_
        refine v_if_ge (tgt := 57) hX dX12_prove_51 (by decide) (fun c14 => ?_) (fun c14 => ?_)
        · have h := h_T c14 h
          refine v_aload_n hX dX12_prove_57 1 rfl rfl ?_
          refine v_iload hX dX12_prove_58 6 rfl ?_
          obtain ⟨k15, h⟩ := h
          refine v_callVv0 hX dX12_prove_60 c_RX12_609 cV_X12_layTree (ci := 13) (T := TX12) (N := 115) rfl (by exact k15) [pI _] rfl rfl (Nat.le_of_ble_eq_true rfl) (by decide) (by decide)  (m_X12_layTree h) (fun s16 h => ?_)
          refine v_iload_n hX dX12_prove_63 3 rfl rfl ?_
          refine v_iload_n hX dX12_prove_64 4 rfl rfl ?_
          refine v_callSi0 hX dX12_prove_65 c_RX12_291 cS_X12_mix [pI _, pI _] rfl rfl (Nat.le_of_ble_eq_true rfl) (by decide) (by decide)  (m_X12_mix h) (fun p19 s18 h => ?_)
          refine v_iload hX dX12_prove_68 5 rfl ?_
          refine v_callSi0 hX dX12_prove_70 c_RX12_291 cS_X12_mix [pI _, pI _] rfl rfl (Nat.le_of_ble_eq_true rfl) (by decide) (by decide)  (m_X12_mix h) (fun p21 s20 h => ?_)
          refine v_istore (lv' := [(10, _), (9, _), (0, _), (1, _), (2, _), (3, _), (4, _), (5, _), (6, _), (7, _), (8, _)]) hX dX12_prove_73 (by decide) rfl ?_
          refine v_iconst (v := 0) hX dX12_prove_75 (by decide) ?_
          refine v_istore (lv' := [(11, _), (10, _), (9, _), (0, _), (1, _), (2, _), (3, _), (4, _), (5, _), (6, _), (7, _), (8, _)]) hX dX12_prove_76 (by decide) rfl ?_
          refine v_pick [3, 4, 9, 11, 1, 0] rfl ?_
          obtain ⟨n, h⟩ := h
          exact b_X12_prove_78 hX hE n _ _ _ _ _ _ _ h
        · have h := h_E c14 h
          refine v_iload hX dX12_prove_54 0 rfl ?_
          exact v_iret hX hE dX12_prove_56 h
      · have h := h_E c10 h
        refine v_pick [0] rfl ?_
        exact b_X12_prove_29 hX hE _ h
set_option maxRecDepth 100000 in
set_option maxHeartbeats 4000000 in
theorem b_X12_stamp_18 {X : h_X} (hX : h_ok X cX12_stamp 2 RX12 2 46) {Q : Int32 → h_S → Prop} (hE : h_end X (some .int) (h_QI (x_Z X) Q)) {y0 : Int32} (s : h_S) (h : w_X12_stamp_18 Q y0 s) : h_V X 2 18 [] [pI y0] s 0 0 := by
  unfold w_X12_stamp_18 at h
  exact v_iret hX hE dX12_stamp_18 h
set_option maxRecDepth 100000 in
set_option maxHeartbeats 4000000 in
theorem m_X12_stamp {Z : h_Z} {o0 : Nat} {x1 : Int32} {s : h_S} {Q : Int32 → h_S → Prop} (h : w_X12_stamp o0 x1 s Q) : h_M Z yX12_stamp cX12_stamp 2 (some .int) 2 46 [pR (some o0), pI x1] s 0 0 (h_QI Z Q) := by
  refine h_M.of (by decide) (Nat.le_of_ble_eq_true rfl) (fun X hZ hX hE hI => ?_)
  subst hZ
  unfold w_X12_stamp at h
  show h_V X 2 0 [(0, pR (some o0)), (1, pI x1)] [] s 0 0
  refine v_aload_n hX dX12_stamp_0 0 rfl rfl ?_
  refine v_iload_n hX dX12_stamp_1 1 rfl rfl ?_
  obtain ⟨k1, h⟩ := h
  refine v_callVi0 hX dX12_stamp_2 c_RX12_425 cV_X12_noMoment (ci := 13) (T := TX12) (N := 115) rfl (by exact k1) [pI _] rfl rfl (Nat.le_of_ble_eq_true rfl) (by decide) (by decide)  (m_X12_noMoment h) (fun p3 s2 h => ?_)
  refine v_if_eq (tgt := 12) hX dX12_stamp_5 (by decide) (fun c4 => ?_) (fun c4 => ?_)
  · have h := h_T c4 h
    refine v_aload_n hX dX12_stamp_12 0 rfl rfl ?_
    obtain ⟨k5, h⟩ := h
    refine v_getR hX dX12_stamp_13 f_RX12_7 rfl k5 ?_
    refine v_iload_n hX dX12_stamp_16 1 rfl rfl ?_
    obtain ⟨a6, e_a6, h⟩ := h
    refine v_nn1 e_a6 ?_
    obtain ⟨k7, h⟩ := h
    obtain ⟨i8, h⟩ := h
    refine v_iald hX dX12_stamp_17 k7 i8 ?_
    refine v_pick [] rfl ?_
    exact b_X12_stamp_18 hX hE _ h
  · have h := h_E c4 h
    refine v_iconst (v := 0) hX dX12_stamp_8 (by decide) ?_
    refine v_goto (tgt := 18) hX dX12_stamp_9 (by decide) ?_
    refine v_pick [] rfl ?_
    exact b_X12_stamp_18 hX hE _ h
set_option maxRecDepth 100000 in
set_option maxHeartbeats 4000000 in
theorem b_X12_sheet_31 {X : h_X} (hX : h_ok X cX12_sheet 5 RX12 2 45) {Q : Int32 → h_S → Prop} (hE : h_end X (some .int) (h_QI (x_Z X) Q)) {o0 : Nat} (s : h_S) (h : w_X12_sheet_31 Q o0 s) : h_V X 5 31 [(0, pR (some o0))] [] s 0 0 := by
  unfold w_X12_sheet_31 at h
  refine v_aload_n hX dX12_sheet_31 0 rfl rfl ?_
  refine v_bipush (v := -2) hX dX12_sheet_32 (by decide) ?_
  obtain ⟨k1, h⟩ := h
  refine v_callVi0 hX dX12_sheet_34 c_RX12_389 cV_X12_refused (ci := 13) (T := TX12) (N := 115) rfl (by exact k1) [pI _] rfl rfl (Nat.le_of_ble_eq_true rfl) (by decide) (by decide)  (m_X12_refused h) (fun p3 s2 h => ?_)
  exact v_iret hX hE dX12_sheet_37 h
set_option maxRecDepth 100000 in
set_option maxHeartbeats 4000000 in
theorem b_X12_sheet_65 {X : h_X} (hX : h_ok X cX12_sheet 5 RX12 2 45) {Q : Int32 → h_S → Prop} (hE : h_end X (some .int) (h_QI (x_Z X) Q)) : ∀ (n : Nat) (o0 : Nat) (x1 : Int32) (x3 : Int32) (x4 : Int32) (s : h_S), w_X12_sheet_65 Q n o0 x1 x3 x4 s → h_V X 5 65 [(0, pR (some o0)), (1, pI x1), (3, pI x3), (4, pI x4)] [] s 0 0 := by
  intro n
  induction n with
  | zero => intro _ _ _ _ s h; exact h.elim
  | succ n hK65 =>
    intro o0 x1 x3 x4 s h
    have h : w_X12_sheet_65b Q (w_X12_sheet_65 Q n) o0 x1 x3 x4 s := h
    unfold w_X12_sheet_65b at h
    refine v_iload hX dX12_sheet_65 3 rfl ?_
    refine v_iload_n hX dX12_sheet_67 2 rfl rfl ?_
    refine v_icmp_ge (tgt := 90) hX dX12_sheet_68 (by decide) (fun c1 => ?_) (fun c1 => ?_)
    · have h := h_T c1 h
      refine v_aload_n hX dX12_sheet_90 0 rfl rfl ?_
      refine v_iconst (v := 1) hX dX12_sheet_91 (by decide) ?_
      obtain ⟨k2, h⟩ := h
      refine v_callVi0 hX dX12_sheet_92 c_RX12_389 cV_X12_refused (ci := 13) (T := TX12) (N := 115) rfl (by exact k2) [pI _] rfl rfl (Nat.le_of_ble_eq_true rfl) (by decide) (by decide)  (m_X12_refused h) (fun p4 s3 h => ?_)
      exact v_iret hX hE dX12_sheet_95 h
    · have h := h_E c1 h
      refine v_aload_n hX dX12_sheet_71 0 rfl rfl ?_
      obtain ⟨k5, h⟩ := h
      refine v_getR hX dX12_sheet_72 f_RX12_264 rfl k5 ?_
      refine v_bipush (v := 60) hX dX12_sheet_75 (by decide) ?_
      refine v_iload_n hX dX12_sheet_77 1 rfl rfl ?_
      refine v_imul hX dX12_sheet_78 ?_
      refine v_iload hX dX12_sheet_79 3 rfl ?_
      refine v_iadd hX dX12_sheet_81 ?_
      refine v_iconst (v := 0) hX dX12_sheet_82 (by decide) ?_
      obtain ⟨a6, e_a6, h⟩ := h
      refine v_nn2 e_a6 ?_
      obtain ⟨k7, h⟩ := h
      obtain ⟨i8, h⟩ := h
      refine v_iast hX dX12_sheet_83 k7 i8 ?_
      refine v_iinc (c := 1) (lv' := [(4, _), (0, _), (1, _), (3, _)]) hX dX12_sheet_84 3 rfl (by decide) (by decide) rfl ?_
      refine v_goto (tgt := 65) hX dX12_sheet_87 (by decide) ?_
      refine v_pick [1, 2, 3, 0] rfl ?_
      exact hK65 _ _ _ _ _ h
set_option maxRecDepth 100000 in
set_option maxHeartbeats 4000000 in
theorem m_X12_sheet {Z : h_Z} {o0 : Nat} {x1 : Int32} {x2 : Int32} {x3 : Int32} {s : h_S} {Q : Int32 → h_S → Prop} (h : w_X12_sheet o0 x1 x2 x3 s Q) : h_M Z yX12_sheet cX12_sheet 5 (some .int) 2 45 [pR (some o0), pI x1, pI x2, pI x3] s 0 0 (h_QI Z Q) := by
  refine h_M.of (by decide) (Nat.le_of_ble_eq_true rfl) (fun X hZ hX hE hI => ?_)
  subst hZ
  unfold w_X12_sheet at h
  show h_V X 5 0 [(0, pR (some o0)), (1, pI x1), (2, pI x2), (3, pI x3)] [] s 0 0
  refine v_iload_n hX dX12_sheet_0 1 rfl rfl ?_
  refine v_callSi0 hX dX12_sheet_1 c_RX12_382 cS_X12_noSheet [pI _] rfl rfl (Nat.le_of_ble_eq_true rfl) (by decide) (by decide)  (m_X12_noSheet h) (fun p2 s1 h => ?_)
  refine v_if_eq (tgt := 13) hX dX12_sheet_4 (by decide) (fun c3 => ?_) (fun c3 => ?_)
  · have h := h_T c3 h
    refine v_iload_n hX dX12_sheet_13 2 rfl rfl ?_
    refine v_i2l hX dX12_sheet_14 ?_
    refine v_lconst (v := 0) hX dX12_sheet_15 (by decide) ?_
    refine v_ldc2 hX dX12_sheet_16 k_RX12_406 ?_
    refine v_callSi0 hX dX12_sheet_19 c_RX12_298 cS_X12_in [pL _, pL _, pL _] rfl rfl (Nat.le_of_ble_eq_true rfl) (by decide) (by decide)  (m_X12_in h) (fun p5 s4 h => ?_)
    refine v_if_eq (tgt := 31) hX dX12_sheet_22 (by decide) (fun c6 => ?_) (fun c6 => ?_)
    · have h := h_T c6 h
      refine v_pick [0] rfl ?_
      exact b_X12_sheet_31 hX hE _ h
    · have h := h_E c6 h
      refine v_iload_n hX dX12_sheet_25 3 rfl rfl ?_
      refine v_bipush (v := 60) hX dX12_sheet_26 (by decide) ?_
      refine v_icmp_le (tgt := 38) hX dX12_sheet_28 (by decide) (fun c7 => ?_) (fun c7 => ?_)
      · have h := h_T c7 h
        refine v_iload_n hX dX12_sheet_38 3 rfl rfl ?_
        refine v_if_ge (tgt := 48) hX dX12_sheet_39 (by decide) (fun c8 => ?_) (fun c8 => ?_)
        · have h := h_T c8 h
          refine v_aload_n hX dX12_sheet_48 0 rfl rfl ?_
          obtain ⟨k9, h⟩ := h
          refine v_getR hX dX12_sheet_49 f_RX12_258 rfl k9 ?_
          refine v_iload_n hX dX12_sheet_52 1 rfl rfl ?_
          refine v_iload_n hX dX12_sheet_53 3 rfl rfl ?_
          obtain ⟨a10, e_a10, h⟩ := h
          refine v_nn2 e_a10 ?_
          obtain ⟨k11, h⟩ := h
          obtain ⟨i12, h⟩ := h
          refine v_iast hX dX12_sheet_54 k11 i12 ?_
          refine v_aload_n hX dX12_sheet_55 0 rfl rfl ?_
          refine v_getR hX dX12_sheet_56 f_RX12_261 rfl k9 ?_
          refine v_iload_n hX dX12_sheet_59 1 rfl rfl ?_
          refine v_iload_n hX dX12_sheet_60 2 rfl rfl ?_
          obtain ⟨a14, e_a14, h⟩ := h
          refine v_nn2 e_a14 ?_
          obtain ⟨k15, h⟩ := h
          obtain ⟨i16, h⟩ := h
          refine v_iast hX dX12_sheet_61 k15 i16 ?_
          refine v_iconst (v := 0) hX dX12_sheet_62 (by decide) ?_
          refine v_istore (lv' := [(4, _), (0, _), (1, _), (2, _), (3, _)]) hX dX12_sheet_63 (by decide) rfl ?_
          refine v_pick [1, 2, 4, 0] rfl ?_
          obtain ⟨n, h⟩ := h
          exact b_X12_sheet_65 hX hE n _ _ _ _ _ h
        · have h := h_E c8 h
          refine v_aload_n hX dX12_sheet_42 0 rfl rfl ?_
          refine v_iconst (v := 4) hX dX12_sheet_43 (by decide) ?_
          obtain ⟨k18, h⟩ := h
          refine v_callVi0 hX dX12_sheet_44 c_RX12_408 cV_X12_failed (ci := 13) (T := TX12) (N := 115) rfl (by exact k18) [pI _] rfl rfl (Nat.le_of_ble_eq_true rfl) (by decide) (by decide)  (m_X12_failed h) (fun p20 s19 h => ?_)
          exact v_iret hX hE dX12_sheet_47 h
      · have h := h_E c7 h
        refine v_pick [0] rfl ?_
        exact b_X12_sheet_31 hX hE _ h
  · have h := h_E c3 h
    refine v_aload_n hX dX12_sheet_7 0 rfl rfl ?_
    refine v_iconst (v := -1) hX dX12_sheet_8 (by decide) ?_
    obtain ⟨k21, h⟩ := h
    refine v_callVi0 hX dX12_sheet_9 c_RX12_389 cV_X12_refused (ci := 13) (T := TX12) (N := 115) rfl (by exact k21) [pI _] rfl rfl (Nat.le_of_ble_eq_true rfl) (by decide) (by decide)  (m_X12_refused h) (fun p23 s22 h => ?_)
    exact v_iret hX hE dX12_sheet_12 h
set_option maxRecDepth 100000 in
set_option maxHeartbeats 4000000 in
theorem b_X12_lose_23 {X : h_X} (hX : h_ok X cX12_lose 3 RX12 2 45) {Q : Int32 → h_S → Prop} (hE : h_end X (some .int) (h_QI (x_Z X) Q)) {o0 : Nat} {x1 : Int32} {y0 : Int32} (s : h_S) (h : w_X12_lose_23 Q o0 x1 y0 s) : h_V X 3 23 [(0, pR (some o0)), (1, pI x1)] [pI y0] s 0 0 := by
  unfold w_X12_lose_23 at h
  refine v_istore_n (lv' := [(2, _), (0, _), (1, _)]) hX dX12_lose_23 rfl (by decide) rfl ?_
  refine v_aload_n hX dX12_lose_24 1 rfl rfl ?_
  obtain ⟨k1, h⟩ := h
  refine v_getR hX dX12_lose_25 f_RX12_258 rfl k1 ?_
  refine v_iload_n hX dX12_lose_28 2 rfl rfl ?_
  refine v_iconst (v := -1) hX dX12_lose_29 (by decide) ?_
  obtain ⟨a2, e_a2, h⟩ := h
  refine v_nn2 e_a2 ?_
  obtain ⟨k3, h⟩ := h
  obtain ⟨i4, h⟩ := h
  refine v_iast hX dX12_lose_30 k3 i4 ?_
  refine v_iload_n hX dX12_lose_31 0 rfl rfl ?_
  exact v_iret hX hE dX12_lose_32 h
set_option maxRecDepth 100000 in
set_option maxHeartbeats 4000000 in
theorem m_X12_lose {Z : h_Z} {o0 : Nat} {x1 : Int32} {s : h_S} {Q : Int32 → h_S → Prop} (h : w_X12_lose o0 x1 s Q) : h_M Z yX12_lose cX12_lose 3 (some .int) 2 45 [pR (some o0), pI x1] s 0 0 (h_QI Z Q) := by
  refine h_M.of (by decide) (Nat.le_of_ble_eq_true rfl) (fun X hZ hX hE hI => ?_)
  subst hZ
  unfold w_X12_lose at h
  show h_V X 3 0 [(0, pR (some o0)), (1, pI x1)] [] s 0 0
  refine v_iload_n hX dX12_lose_0 1 rfl rfl ?_
  refine v_callSi0 hX dX12_lose_1 c_RX12_382 cS_X12_noSheet [pI _] rfl rfl (Nat.le_of_ble_eq_true rfl) (by decide) (by decide)  (m_X12_noSheet h) (fun p2 s1 h => ?_)
  refine v_if_eq (tgt := 9) hX dX12_lose_4 (by decide) (fun c3 => ?_) (fun c3 => ?_)
  · have h := h_T c3 h
    refine v_aload_n hX dX12_lose_9 0 rfl rfl ?_
    obtain ⟨k4, h⟩ := h
    refine v_getR hX dX12_lose_10 f_RX12_258 rfl k4 ?_
    refine v_iload_n hX dX12_lose_13 1 rfl rfl ?_
    obtain ⟨a5, e_a5, h⟩ := h
    refine v_nn1 e_a5 ?_
    obtain ⟨k6, h⟩ := h
    obtain ⟨i7, h⟩ := h
    refine v_iald hX dX12_lose_14 k6 i7 ?_
    refine v_if_ge (tgt := 22) hX dX12_lose_15 (by decide) (fun c8 => ?_) (fun c8 => ?_)
    · have h := h_T c8 h
      refine v_iconst (v := 1) hX dX12_lose_22 (by decide) ?_
      refine v_pick [0, 1] rfl ?_
      exact b_X12_lose_23 hX hE _ h
    · have h := h_E c8 h
      refine v_iconst (v := 0) hX dX12_lose_18 (by decide) ?_
      refine v_goto (tgt := 23) hX dX12_lose_19 (by decide) ?_
      refine v_pick [0, 1] rfl ?_
      exact b_X12_lose_23 hX hE _ h
  · have h := h_E c3 h
    refine v_iconst (v := -1) hX dX12_lose_7 (by decide) ?_
    exact v_iret hX hE dX12_lose_8 h
set_option maxRecDepth 100000 in
set_option maxHeartbeats 4000000 in
theorem b_X12_noCell_36 {X : h_X} (hX : h_ok X cX12_noCell 3 RX12 1 25) {Q : Int32 → h_S → Prop} (hE : h_end X (some .int) (h_QI (x_Z X) Q)) {y0 : Int32} (s : h_S) (h : w_X12_noCell_36 Q y0 s) : h_V X 3 36 [] [pI y0] s 0 0 := by
  unfold w_X12_noCell_36 at h
  exact v_iret hX hE dX12_noCell_36 h
set_option maxRecDepth 100000 in
set_option maxHeartbeats 4000000 in
theorem m_X12_noCell {Z : h_Z} {o0 : Nat} {x1 : Int32} {x2 : Int32} {s : h_S} {Q : Int32 → h_S → Prop} (h : w_X12_noCell o0 x1 x2 s Q) : h_M Z yX12_noCell cX12_noCell 3 (some .int) 1 25 [pR (some o0), pI x1, pI x2] s 0 0 (h_QI Z Q) := by
  refine h_M.of (by decide) (Nat.le_of_ble_eq_true rfl) (fun X hZ hX hE hI => ?_)
  subst hZ
  unfold w_X12_noCell at h
  show h_V X 3 0 [(0, pR (some o0)), (1, pI x1), (2, pI x2)] [] s 0 0
  refine v_aload_n hX dX12_noCell_0 0 rfl rfl ?_
  obtain ⟨k1, h⟩ := h
  refine v_getR hX dX12_noCell_1 f_RX12_258 rfl k1 ?_
  refine v_iload_n hX dX12_noCell_4 1 rfl rfl ?_
  obtain ⟨a2, e_a2, h⟩ := h
  refine v_nn1 e_a2 ?_
  obtain ⟨k3, h⟩ := h
  obtain ⟨i4, h⟩ := h
  refine v_iald hX dX12_noCell_5 k3 i4 ?_
  refine v_if_ge (tgt := 13) hX dX12_noCell_6 (by decide) (fun c5 => ?_) (fun c5 => ?_)
  · have h := h_T c5 h
    refine v_iload_n hX dX12_noCell_13 2 rfl rfl ?_
    refine v_i2l hX dX12_noCell_14 ?_
    refine v_lconst (v := 0) hX dX12_noCell_15 (by decide) ?_
    refine v_aload_n hX dX12_noCell_16 0 rfl rfl ?_
    refine v_getR hX dX12_noCell_17 f_RX12_258 rfl k1 ?_
    refine v_iload_n hX dX12_noCell_20 1 rfl rfl ?_
    obtain ⟨a6, e_a6, h⟩ := h
    refine v_nn1 e_a6 ?_
    obtain ⟨k7, h⟩ := h
    obtain ⟨i8, h⟩ := h
    refine v_iald hX dX12_noCell_21 k7 i8 ?_
    refine v_i2l hX dX12_noCell_22 ?_
    refine v_lconst (v := 1) hX dX12_noCell_23 (by decide) ?_
    refine v_lsub hX dX12_noCell_24 ?_
    refine v_callSi0 hX dX12_noCell_25 c_RX12_298 cS_X12_in [pL _, pL _, pL _] rfl rfl (Nat.le_of_ble_eq_true rfl) (by decide) (by decide)  (m_X12_in h) (fun p10 s9 h => ?_)
    refine v_if_eq (tgt := 35) hX dX12_noCell_28 (by decide) (fun c11 => ?_) (fun c11 => ?_)
    · have h := h_T c11 h
      refine v_iconst (v := 3) hX dX12_noCell_35 (by decide) ?_
      refine v_pick [] rfl ?_
      exact b_X12_noCell_36 hX hE _ h
    · have h := h_E c11 h
      refine v_iconst (v := 0) hX dX12_noCell_31 (by decide) ?_
      refine v_goto (tgt := 36) hX dX12_noCell_32 (by decide) ?_
      refine v_pick [] rfl ?_
      exact b_X12_noCell_36 hX hE _ h
  · have h := h_E c5 h
    refine v_iconst (v := 1) hX dX12_noCell_9 (by decide) ?_
    refine v_goto (tgt := 36) hX dX12_noCell_10 (by decide) ?_
    refine v_pick [] rfl ?_
    exact b_X12_noCell_36 hX hE _ h
set_option maxRecDepth 100000 in
set_option maxHeartbeats 4000000 in
theorem b_X12_set_73 {X : h_X} (hX : h_ok X cX12_set 4 RX12 2 47) {Q : Int32 → h_S → Prop} (hE : h_end X (some .int) (h_QI (x_Z X) Q)) {o0 : Nat} {y0 : Int32} {y1 : Int32} {t2 : Option Nat} (s : h_S) (h : w_X12_set_73 Q o0 y0 y1 t2 s) : h_V X 4 73 [(0, pR (some o0))] [pI y0, pI y1, pR t2] s 0 0 := by
  unfold w_X12_set_73 at h
  obtain ⟨a1, e_a1, h⟩ := h
  refine v_nn2 e_a1 ?_
  obtain ⟨k2, h⟩ := h
  obtain ⟨i3, h⟩ := h
  refine v_iast hX dX12_set_73 k2 i3 ?_
  refine v_aload_n hX dX12_set_74 0 rfl rfl ?_
  refine v_iconst (v := 1) hX dX12_set_75 (by decide) ?_
  obtain ⟨k5, h⟩ := h
  refine v_callVi0 hX dX12_set_76 c_RX12_389 cV_X12_refused (ci := 13) (T := TX12) (N := 115) rfl (by exact k5) [pI _] rfl rfl (Nat.le_of_ble_eq_true rfl) (by decide) (by decide)  (m_X12_refused h) (fun p7 s6 h => ?_)
  exact v_iret hX hE dX12_set_79 h
set_option maxRecDepth 100000 in
set_option maxHeartbeats 4000000 in
theorem m_X12_set {Z : h_Z} {o0 : Nat} {x1 : Int32} {x2 : Int32} {x3 : Int32} {s : h_S} {Q : Int32 → h_S → Prop} (h : w_X12_set o0 x1 x2 x3 s Q) : h_M Z yX12_set cX12_set 4 (some .int) 2 47 [pR (some o0), pI x1, pI x2, pI x3] s 0 0 (h_QI Z Q) := by
  refine h_M.of (by decide) (Nat.le_of_ble_eq_true rfl) (fun X hZ hX hE hI => ?_)
  subst hZ
  unfold w_X12_set at h
  show h_V X 4 0 [(0, pR (some o0)), (1, pI x1), (2, pI x2), (3, pI x3)] [] s 0 0
  refine v_iload_n hX dX12_set_0 1 rfl rfl ?_
  refine v_callSi0 hX dX12_set_1 c_RX12_382 cS_X12_noSheet [pI _] rfl rfl (Nat.le_of_ble_eq_true rfl) (by decide) (by decide)  (m_X12_noSheet h) (fun p2 s1 h => ?_)
  refine v_if_eq (tgt := 13) hX dX12_set_4 (by decide) (fun c3 => ?_) (fun c3 => ?_)
  · have h := h_T c3 h
    refine v_aload_n hX dX12_set_13 0 rfl rfl ?_
    refine v_iload_n hX dX12_set_14 1 rfl rfl ?_
    refine v_iload_n hX dX12_set_15 2 rfl rfl ?_
    obtain ⟨k4, h⟩ := h
    refine v_callVi0 hX dX12_set_16 c_RX12_617 cV_X12_noCell (ci := 13) (T := TX12) (N := 115) rfl (by exact k4) [pI _, pI _] rfl rfl (Nat.le_of_ble_eq_true rfl) (by decide) (by decide)  (m_X12_noCell h) (fun p6 s5 h => ?_)
    refine v_if_le (tgt := 33) hX dX12_set_19 (by decide) (fun c7 => ?_) (fun c7 => ?_)
    · have h := h_T c7 h
      refine v_aload_n hX dX12_set_33 0 rfl rfl ?_
      obtain ⟨k8, h⟩ := h
      refine v_getR hX dX12_set_34 f_RX12_264 rfl k8 ?_
      refine v_bipush (v := 60) hX dX12_set_37 (by decide) ?_
      refine v_iload_n hX dX12_set_39 1 rfl rfl ?_
      refine v_imul hX dX12_set_40 ?_
      refine v_iload_n hX dX12_set_41 2 rfl rfl ?_
      refine v_iadd hX dX12_set_42 ?_
      refine v_aload_n hX dX12_set_43 0 rfl rfl ?_
      refine v_getR hX dX12_set_44 f_RX12_261 rfl k8 ?_
      refine v_iload_n hX dX12_set_47 1 rfl rfl ?_
      obtain ⟨a9, e_a9, h⟩ := h
      refine v_nn1 e_a9 ?_
      obtain ⟨k10, h⟩ := h
      obtain ⟨i11, h⟩ := h
      refine v_iald hX dX12_set_48 k10 i11 ?_
      refine v_if_ne (tgt := 57) hX dX12_set_49 (by decide) (fun c12 => ?_) (fun c12 => ?_)
      · have h := h_E c12 h
        refine v_aload_n hX dX12_set_57 0 rfl rfl ?_
        refine v_getR hX dX12_set_58 f_RX12_261 rfl k8 ?_
        refine v_iload_n hX dX12_set_61 1 rfl rfl ?_
        obtain ⟨a13, e_a13, h⟩ := h
        refine v_nn1 e_a13 ?_
        obtain ⟨k14, h⟩ := h
        obtain ⟨i15, h⟩ := h
        refine v_iald hX dX12_set_62 k14 i15 ?_
        refine v_iconst (v := 1) hX dX12_set_63 (by decide) ?_
        refine v_icmp_ne (tgt := 72) hX dX12_set_64 (by decide) (fun c16 => ?_) (fun c16 => ?_)
        · have h := h_E c16 h
          refine v_iload_n hX dX12_set_72 3 rfl rfl ?_
          refine v_pick [0] rfl ?_
          exact b_X12_set_73 hX hE _ h
        · have h := h_T c16 h
          refine v_iload_n hX dX12_set_67 3 rfl rfl ?_
          refine v_i2s hX dX12_set_68 ?_
          refine v_goto (tgt := 73) hX dX12_set_69 (by decide) ?_
          refine v_pick [0] rfl ?_
          exact b_X12_set_73 hX hE _ h
      · have h := h_T c12 h
        refine v_iload_n hX dX12_set_52 3 rfl rfl ?_
        refine v_i2b hX dX12_set_53 ?_
        refine v_goto (tgt := 73) hX dX12_set_54 (by decide) ?_
        refine v_pick [0] rfl ?_
        exact b_X12_set_73 hX hE _ h
    · have h := h_E c7 h
      refine v_aload_n hX dX12_set_22 0 rfl rfl ?_
      refine v_aload_n hX dX12_set_23 0 rfl rfl ?_
      refine v_iload_n hX dX12_set_24 1 rfl rfl ?_
      refine v_iload_n hX dX12_set_25 2 rfl rfl ?_
      obtain ⟨k17, h⟩ := h
      refine v_callVi0 hX dX12_set_26 c_RX12_617 cV_X12_noCell (ci := 13) (T := TX12) (N := 115) rfl (by exact k17) [pI _, pI _] rfl rfl (Nat.le_of_ble_eq_true rfl) (by decide) (by decide)  (m_X12_noCell h) (fun p19 s18 h => ?_)
      obtain ⟨k20, h⟩ := h
      refine v_callVi0 hX dX12_set_29 c_RX12_408 cV_X12_failed (ci := 13) (T := TX12) (N := 115) rfl (by exact k20) [pI _] rfl rfl (Nat.le_of_ble_eq_true rfl) (by decide) (by decide)  (m_X12_failed h) (fun p22 s21 h => ?_)
      exact v_iret hX hE dX12_set_32 h
  · have h := h_E c3 h
    refine v_aload_n hX dX12_set_7 0 rfl rfl ?_
    refine v_iconst (v := -1) hX dX12_set_8 (by decide) ?_
    obtain ⟨k23, h⟩ := h
    refine v_callVi0 hX dX12_set_9 c_RX12_389 cV_X12_refused (ci := 13) (T := TX12) (N := 115) rfl (by exact k23) [pI _] rfl rfl (Nat.le_of_ble_eq_true rfl) (by decide) (by decide)  (m_X12_refused h) (fun p25 s24 h => ?_)
    exact v_iret hX hE dX12_set_12 h
set_option maxRecDepth 100000 in
set_option maxHeartbeats 4000000 in
theorem b_X12_cell_24 {X : h_X} (hX : h_ok X cX12_cell 4 RX12 2 47) {Q : Int64 → h_S → Prop} (hE : h_end X (some .long) (h_QL (x_Z X) Q)) (s : h_S) (h : w_X12_cell_24 Q s) : h_V X 4 24 [] [] s 0 0 := by
  unfold w_X12_cell_24 at h
  refine v_callSl0 hX dX12_cell_24 c_RX12_284 cS_X12_lost [] rfl rfl (Nat.le_of_ble_eq_true rfl) (by decide) (by decide)  (m_X12_lost h) (fun p2 s1 h => ?_)
  exact v_lret hX hE dX12_cell_27 h
set_option maxRecDepth 100000 in
set_option maxHeartbeats 4000000 in
theorem b_X12_cell_87 {X : h_X} (hX : h_ok X cX12_cell 4 RX12 2 47) {Q : Int64 → h_S → Prop} (hE : h_end X (some .long) (h_QL (x_Z X) Q)) {m0 : Int64} (s : h_S) (h : w_X12_cell_87 Q m0 s) : h_V X 4 87 [] [pL m0] s 0 0 := by
  unfold w_X12_cell_87 at h
  exact v_lret hX hE dX12_cell_87 h
set_option maxRecDepth 100000 in
set_option maxHeartbeats 4000000 in
theorem b_X12_cell_53 {X : h_X} (hX : h_ok X cX12_cell 4 RX12 2 47) {Q : Int64 → h_S → Prop} (hE : h_end X (some .long) (h_QL (x_Z X) Q)) {o0 : Nat} {x1 : Int32} {x2 : Int32} (s : h_S) (h : w_X12_cell_53 Q o0 x1 x2 s) : h_V X 4 53 [(0, pR (some o0)), (1, pI x1), (2, pI x2)] [] s 0 0 := by
  unfold w_X12_cell_53 at h
  refine v_aload_n hX dX12_cell_53 0 rfl rfl ?_
  refine v_iload_n hX dX12_cell_54 1 rfl rfl ?_
  refine v_iload_n hX dX12_cell_55 2 rfl rfl ?_
  obtain ⟨k1, h⟩ := h
  refine v_callVi0 hX dX12_cell_56 c_RX12_617 cV_X12_noCell (ci := 13) (T := TX12) (N := 115) rfl (by exact k1) [pI _, pI _] rfl rfl (Nat.le_of_ble_eq_true rfl) (by decide) (by decide)  (m_X12_noCell h) (fun p3 s2 h => ?_)
  refine v_if_le (tgt := 75) hX dX12_cell_59 (by decide) (fun c4 => ?_) (fun c4 => ?_)
  · have h := h_T c4 h
    refine v_aload_n hX dX12_cell_75 0 rfl rfl ?_
    obtain ⟨k5, h⟩ := h
    refine v_getR hX dX12_cell_76 f_RX12_264 rfl k5 ?_
    refine v_bipush (v := 60) hX dX12_cell_79 (by decide) ?_
    refine v_iload_n hX dX12_cell_81 1 rfl rfl ?_
    refine v_imul hX dX12_cell_82 ?_
    refine v_iload_n hX dX12_cell_83 2 rfl rfl ?_
    refine v_iadd hX dX12_cell_84 ?_
    obtain ⟨a6, e_a6, h⟩ := h
    refine v_nn1 e_a6 ?_
    obtain ⟨k7, h⟩ := h
    obtain ⟨i8, h⟩ := h
    refine v_iald hX dX12_cell_85 k7 i8 ?_
    refine v_i2l hX dX12_cell_86 ?_
    refine v_pick [] rfl ?_
    exact b_X12_cell_87 hX hE _ h
  · have h := h_E c4 h
    refine v_aload_n hX dX12_cell_62 0 rfl rfl ?_
    refine v_aload_n hX dX12_cell_63 0 rfl rfl ?_
    refine v_iload_n hX dX12_cell_64 1 rfl rfl ?_
    refine v_iload_n hX dX12_cell_65 2 rfl rfl ?_
    obtain ⟨k9, h⟩ := h
    refine v_callVi0 hX dX12_cell_66 c_RX12_617 cV_X12_noCell (ci := 13) (T := TX12) (N := 115) rfl (by exact k9) [pI _, pI _] rfl rfl (Nat.le_of_ble_eq_true rfl) (by decide) (by decide)  (m_X12_noCell h) (fun p11 s10 h => ?_)
    obtain ⟨k12, h⟩ := h
    refine v_callVl0 hX dX12_cell_69 c_RX12_620 cV_X12_failedLong (ci := 13) (T := TX12) (N := 115) rfl (by exact k12) [pI _] rfl rfl (Nat.le_of_ble_eq_true rfl) (by decide) (by decide)  (m_X12_failedLong h) (fun p14 s13 h => ?_)
    refine v_goto (tgt := 87) hX dX12_cell_72 (by decide) ?_
    refine v_pick [] rfl ?_
    exact b_X12_cell_87 hX hE _ h
set_option maxRecDepth 100000 in
set_option maxHeartbeats 4000000 in
theorem m_X12_cell {Z : h_Z} {o0 : Nat} {x1 : Int32} {x2 : Int32} {x3 : Int32} {s : h_S} {Q : Int64 → h_S → Prop} (h : w_X12_cell o0 x1 x2 x3 s Q) : h_M Z yX12_cell cX12_cell 4 (some .long) 2 47 [pR (some o0), pI x1, pI x2, pI x3] s 0 0 (h_QL Z Q) := by
  refine h_M.of (by decide) (Nat.le_of_ble_eq_true rfl) (fun X hZ hX hE hI => ?_)
  subst hZ
  unfold w_X12_cell at h
  show h_V X 4 0 [(0, pR (some o0)), (1, pI x1), (2, pI x2), (3, pI x3)] [] s 0 0
  refine v_aload_n hX dX12_cell_0 0 rfl rfl ?_
  refine v_iconst (v := 0) hX dX12_cell_1 (by decide) ?_
  obtain ⟨k1, h⟩ := h
  refine v_putI hX dX12_cell_2 f_RX12_281 k1 ?_
  refine v_iload_n hX dX12_cell_5 1 rfl rfl ?_
  refine v_callSi0 hX dX12_cell_6 c_RX12_382 cS_X12_noSheet [pI _] rfl rfl (Nat.le_of_ble_eq_true rfl) (by decide) (by decide)  (m_X12_noSheet h) (fun p4 s3 h => ?_)
  refine v_if_ne (tgt := 24) hX dX12_cell_9 (by decide) (fun c5 => ?_) (fun c5 => ?_)
  · have h := h_E c5 h
    refine v_pick [] rfl ?_
    exact b_X12_cell_24 hX hE _ h
  · have h := h_T c5 h
    refine v_iload_n hX dX12_cell_12 3 rfl rfl ?_
    refine v_i2l hX dX12_cell_13 ?_
    refine v_lconst (v := 0) hX dX12_cell_14 (by decide) ?_
    refine v_ldc2 hX dX12_cell_15 k_RX12_406 ?_
    refine v_callSi0 hX dX12_cell_18 c_RX12_298 cS_X12_in [pL _, pL _, pL _] rfl rfl (Nat.le_of_ble_eq_true rfl) (by decide) (by decide)  (m_X12_in h) (fun p7 s6 h => ?_)
    refine v_if_ne (tgt := 28) hX dX12_cell_21 (by decide) (fun c8 => ?_) (fun c8 => ?_)
    · have h := h_E c8 h
      refine v_aload_n hX dX12_cell_28 0 rfl rfl ?_
      obtain ⟨k9, h⟩ := h
      refine v_getR hX dX12_cell_29 f_RX12_258 rfl k9 ?_
      refine v_iload_n hX dX12_cell_32 1 rfl rfl ?_
      obtain ⟨a10, e_a10, h⟩ := h
      refine v_nn1 e_a10 ?_
      obtain ⟨k11, h⟩ := h
      obtain ⟨i12, h⟩ := h
      refine v_iald hX dX12_cell_33 k11 i12 ?_
      refine v_if_lt (tgt := 53) hX dX12_cell_34 (by decide) (fun c13 => ?_) (fun c13 => ?_)
      · have h := h_T c13 h
        refine v_pick [0, 1, 2] rfl ?_
        exact b_X12_cell_53 hX hE _ h
      · have h := h_E c13 h
        refine v_aload_n hX dX12_cell_37 0 rfl rfl ?_
        refine v_getR hX dX12_cell_38 f_RX12_261 rfl k9 ?_
        refine v_iload_n hX dX12_cell_41 1 rfl rfl ?_
        obtain ⟨a14, e_a14, h⟩ := h
        refine v_nn1 e_a14 ?_
        obtain ⟨k15, h⟩ := h
        obtain ⟨i16, h⟩ := h
        refine v_iald hX dX12_cell_42 k15 i16 ?_
        refine v_iload_n hX dX12_cell_43 3 rfl rfl ?_
        refine v_icmp_eq (tgt := 53) hX dX12_cell_44 (by decide) (fun c17 => ?_) (fun c17 => ?_)
        · have h := h_T c17 h
          refine v_pick [0, 1, 2] rfl ?_
          exact b_X12_cell_53 hX hE _ h
        · have h := h_E c17 h
          refine v_aload_n hX dX12_cell_47 0 rfl rfl ?_
          refine v_iconst (v := 2) hX dX12_cell_48 (by decide) ?_
          refine v_callVl0 hX dX12_cell_49 c_RX12_620 cV_X12_failedLong (ci := 13) (T := TX12) (N := 115) rfl (by exact k9) [pI _] rfl rfl (Nat.le_of_ble_eq_true rfl) (by decide) (by decide)  (m_X12_failedLong h) (fun p19 s18 h => ?_)
          exact v_lret hX hE dX12_cell_52 h
    · have h := h_T c8 h
      refine v_pick [] rfl ?_
      exact b_X12_cell_24 hX hE _ h
set_option maxRecDepth 100000 in
set_option maxHeartbeats 4000000 in
theorem b_X12_copy_14 {X : h_X} (hX : h_ok X cX12_copy 7 RX12 2 45) {Q : Int32 → h_S → Prop} (hE : h_end X (some .int) (h_QI (x_Z X) Q)) {o0 : Nat} (s : h_S) (h : w_X12_copy_14 Q o0 s) : h_V X 7 14 [(0, pR (some o0))] [] s 0 0 := by
  unfold w_X12_copy_14 at h
  refine v_aload_n hX dX12_copy_14 0 rfl rfl ?_
  refine v_iconst (v := -1) hX dX12_copy_15 (by decide) ?_
  obtain ⟨k1, h⟩ := h
  refine v_callVi0 hX dX12_copy_16 c_RX12_389 cV_X12_refused (ci := 13) (T := TX12) (N := 115) rfl (by exact k1) [pI _] rfl rfl (Nat.le_of_ble_eq_true rfl) (by decide) (by decide)  (m_X12_refused h) (fun p3 s2 h => ?_)
  exact v_iret hX hE dX12_copy_19 h
set_option maxRecDepth 100000 in
set_option maxHeartbeats 4000000 in
theorem b_X12_copy_38 {X : h_X} (hX : h_ok X cX12_copy 7 RX12 2 45) {Q : Int32 → h_S → Prop} (hE : h_end X (some .int) (h_QI (x_Z X) Q)) {o0 : Nat} (s : h_S) (h : w_X12_copy_38 Q o0 s) : h_V X 7 38 [(0, pR (some o0))] [] s 0 0 := by
  unfold w_X12_copy_38 at h
  refine v_aload_n hX dX12_copy_38 0 rfl rfl ?_
  refine v_iconst (v := 1) hX dX12_copy_39 (by decide) ?_
  obtain ⟨k1, h⟩ := h
  refine v_callVi0 hX dX12_copy_40 c_RX12_408 cV_X12_failed (ci := 13) (T := TX12) (N := 115) rfl (by exact k1) [pI _] rfl rfl (Nat.le_of_ble_eq_true rfl) (by decide) (by decide)  (m_X12_failed h) (fun p3 s2 h => ?_)
  exact v_iret hX hE dX12_copy_43 h
set_option maxRecDepth 100000 in
set_option maxHeartbeats 4000000 in
theorem b_X12_copy_98 {X : h_X} (hX : h_ok X cX12_copy 7 RX12 2 45) {Q : Int32 → h_S → Prop} (hE : h_end X (some .int) (h_QI (x_Z X) Q)) {o0 : Nat} (s : h_S) (h : w_X12_copy_98 Q o0 s) : h_V X 7 98 [(0, pR (some o0))] [] s 0 0 := by
  unfold w_X12_copy_98 at h
  refine v_aload_n hX dX12_copy_98 0 rfl rfl ?_
  refine v_iconst (v := 3) hX dX12_copy_99 (by decide) ?_
  obtain ⟨k1, h⟩ := h
  refine v_callVi0 hX dX12_copy_100 c_RX12_408 cV_X12_failed (ci := 13) (T := TX12) (N := 115) rfl (by exact k1) [pI _] rfl rfl (Nat.le_of_ble_eq_true rfl) (by decide) (by decide)  (m_X12_failed h) (fun p3 s2 h => ?_)
  exact v_iret hX hE dX12_copy_103 h
set_option maxRecDepth 100000 in
set_option maxHeartbeats 4000000 in
theorem b_X12_copy_144 {X : h_X} (hX : h_ok X cX12_copy 7 RX12 2 45) {Q : Int32 → h_S → Prop} (hE : h_end X (some .int) (h_QI (x_Z X) Q)) : ∀ (n : Nat) (o0 : Nat) (x3 : Int32) (x4 : Int32) (x5 : Int32) (x6 : Int32) (s : h_S), w_X12_copy_144 Q n o0 x3 x4 x5 x6 s → h_V X 7 144 [(0, pR (some o0)), (3, pI x3), (4, pI x4), (5, pI x5), (6, pI x6)] [] s 0 0 := by
  intro n
  induction n with
  | zero => intro _ _ _ _ _ s h; exact h.elim
  | succ n hK144 =>
    intro o0 x3 x4 x5 x6 s h
    have h : w_X12_copy_144b Q (w_X12_copy_144 Q n) o0 x3 x4 x5 x6 s := h
    unfold w_X12_copy_144b at h
    refine v_iload hX dX12_copy_144 4 rfl ?_
    refine v_iload hX dX12_copy_146 3 rfl ?_
    refine v_icmp_ge (tgt := 179) hX dX12_copy_148 (by decide) (fun c1 => ?_) (fun c1 => ?_)
    · have h := h_T c1 h
      refine v_aload_n hX dX12_copy_179 0 rfl rfl ?_
      refine v_iload hX dX12_copy_180 3 rfl ?_
      obtain ⟨k2, h⟩ := h
      refine v_callVi0 hX dX12_copy_182 c_RX12_389 cV_X12_refused (ci := 13) (T := TX12) (N := 115) rfl (by exact k2) [pI _] rfl rfl (Nat.le_of_ble_eq_true rfl) (by decide) (by decide)  (m_X12_refused h) (fun p4 s3 h => ?_)
      exact v_iret hX hE dX12_copy_185 h
    · have h := h_E c1 h
      refine v_aload_n hX dX12_copy_151 0 rfl rfl ?_
      obtain ⟨k5, h⟩ := h
      refine v_getR hX dX12_copy_152 f_RX12_264 rfl k5 ?_
      refine v_bipush (v := 60) hX dX12_copy_155 (by decide) ?_
      refine v_iload_n hX dX12_copy_157 1 rfl rfl ?_
      refine v_imul hX dX12_copy_158 ?_
      refine v_iload hX dX12_copy_159 2 rfl ?_
      refine v_iadd hX dX12_copy_161 ?_
      refine v_iload hX dX12_copy_162 4 rfl ?_
      refine v_iadd hX dX12_copy_164 ?_
      refine v_aload_n hX dX12_copy_165 0 rfl rfl ?_
      refine v_getR hX dX12_copy_166 f_RX12_267 rfl k5 ?_
      refine v_iload hX dX12_copy_169 4 rfl ?_
      obtain ⟨a6, e_a6, h⟩ := h
      refine v_nn1 e_a6 ?_
      obtain ⟨k7, h⟩ := h
      obtain ⟨i8, h⟩ := h
      refine v_iald hX dX12_copy_171 k7 i8 ?_
      obtain ⟨a9, e_a9, h⟩ := h
      refine v_nn2 e_a9 ?_
      obtain ⟨k10, h⟩ := h
      obtain ⟨i11, h⟩ := h
      refine v_iast hX dX12_copy_172 k10 i11 ?_
      refine v_iinc (c := 1) (lv' := [(6, _), (0, _), (3, _), (4, _), (5, _)]) hX dX12_copy_173 4 rfl (by decide) (by decide) rfl ?_
      refine v_goto (tgt := 144) hX dX12_copy_176 (by decide) ?_
      refine v_pick [1, 2, 3, 4, 0] rfl ?_
      exact hK144 _ _ _ _ _ _ h
set_option maxRecDepth 100000 in
set_option maxHeartbeats 4000000 in
theorem b_X12_copy_107 {X : h_X} (hX : h_ok X cX12_copy 7 RX12 2 45) {Q : Int32 → h_S → Prop} (hE : h_end X (some .int) (h_QI (x_Z X) Q)) : ∀ (n : Nat) (o0 : Nat) (x1 : Int32) (x2 : Int32) (x3 : Int32) (x4 : Int32) (x5 : Int32) (x6 : Int32) (s : h_S), w_X12_copy_107 Q n o0 x1 x2 x3 x4 x5 x6 s → h_V X 7 107 [(0, pR (some o0)), (1, pI x1), (2, pI x2), (3, pI x3), (4, pI x4), (5, pI x5), (6, pI x6)] [] s 0 0 := by
  intro n
  induction n with
  | zero => intro _ _ _ _ _ _ _ s h; exact h.elim
  | succ n hK107 =>
    intro o0 x1 x2 x3 x4 x5 x6 s h
    have h : w_X12_copy_107b Q (w_X12_copy_107 Q n) o0 x1 x2 x3 x4 x5 x6 s := h
    unfold w_X12_copy_107b at h
    refine v_iload hX dX12_copy_107 6 rfl ?_
    refine v_iload hX dX12_copy_109 5 rfl ?_
    refine v_icmp_ge (tgt := 141) hX dX12_copy_111 (by decide) (fun c1 => ?_) (fun c1 => ?_)
    · have h := h_T c1 h
      refine v_iconst (v := 0) hX dX12_copy_141 (by decide) ?_
      refine v_istore (lv' := [(6, _), (0, _), (1, _), (2, _), (3, _), (4, _), (5, _)]) hX dX12_copy_142 (by decide) rfl ?_
      refine v_pick [1, 4, 5, 6, 0] rfl ?_
      obtain ⟨n, h⟩ := h
      exact b_X12_copy_144 hX hE n _ _ _ _ _ _ h
    · have h := h_E c1 h
      refine v_aload_n hX dX12_copy_114 0 rfl rfl ?_
      obtain ⟨k2, h⟩ := h
      refine v_getR hX dX12_copy_115 f_RX12_267 rfl k2 ?_
      refine v_iload hX dX12_copy_118 6 rfl ?_
      refine v_aload_n hX dX12_copy_120 0 rfl rfl ?_
      refine v_getR hX dX12_copy_121 f_RX12_264 rfl k2 ?_
      refine v_bipush (v := 60) hX dX12_copy_124 (by decide) ?_
      refine v_iload_n hX dX12_copy_126 1 rfl rfl ?_
      refine v_imul hX dX12_copy_127 ?_
      refine v_iload_n hX dX12_copy_128 2 rfl rfl ?_
      refine v_iadd hX dX12_copy_129 ?_
      refine v_iload hX dX12_copy_130 6 rfl ?_
      refine v_iadd hX dX12_copy_132 ?_
      obtain ⟨a3, e_a3, h⟩ := h
      refine v_nn1 e_a3 ?_
      obtain ⟨k4, h⟩ := h
      obtain ⟨i5, h⟩ := h
      refine v_iald hX dX12_copy_133 k4 i5 ?_
      obtain ⟨a6, e_a6, h⟩ := h
      refine v_nn2 e_a6 ?_
      obtain ⟨k7, h⟩ := h
      obtain ⟨i8, h⟩ := h
      refine v_iast hX dX12_copy_134 k7 i8 ?_
      refine v_iinc (c := 1) (lv' := [(6, _), (0, _), (1, _), (2, _), (3, _), (4, _), (5, _)]) hX dX12_copy_135 6 rfl (by decide) (by decide) rfl ?_
      refine v_goto (tgt := 107) hX dX12_copy_138 (by decide) ?_
      refine v_pick [1, 2, 3, 4, 5, 6, 0] rfl ?_
      exact hK107 _ _ _ _ _ _ _ _ h
set_option maxRecDepth 100000 in
set_option maxHeartbeats 4000000 in
theorem m_X12_copy {Z : h_Z} {o0 : Nat} {x1 : Int32} {x2 : Int32} {x3 : Int32} {x4 : Int32} {x5 : Int32} {s : h_S} {Q : Int32 → h_S → Prop} (h : w_X12_copy o0 x1 x2 x3 x4 x5 s Q) : h_M Z yX12_copy cX12_copy 7 (some .int) 2 45 [pR (some o0), pI x1, pI x2, pI x3, pI x4, pI x5] s 0 0 (h_QI Z Q) := by
  refine h_M.of (by decide) (Nat.le_of_ble_eq_true rfl) (fun X hZ hX hE hI => ?_)
  subst hZ
  unfold w_X12_copy at h
  show h_V X 7 0 [(0, pR (some o0)), (1, pI x1), (2, pI x2), (3, pI x3), (4, pI x4), (5, pI x5)] [] s 0 0
  refine v_iload_n hX dX12_copy_0 1 rfl rfl ?_
  refine v_callSi0 hX dX12_copy_1 c_RX12_382 cS_X12_noSheet [pI _] rfl rfl (Nat.le_of_ble_eq_true rfl) (by decide) (by decide)  (m_X12_noSheet h) (fun p2 s1 h => ?_)
  refine v_if_ne (tgt := 14) hX dX12_copy_4 (by decide) (fun c3 => ?_) (fun c3 => ?_)
  · have h := h_E c3 h
    refine v_pick [0] rfl ?_
    exact b_X12_copy_14 hX hE _ h
  · have h := h_T c3 h
    refine v_iload_n hX dX12_copy_7 3 rfl rfl ?_
    refine v_callSi0 hX dX12_copy_8 c_RX12_382 cS_X12_noSheet [pI _] rfl rfl (Nat.le_of_ble_eq_true rfl) (by decide) (by decide)  (m_X12_noSheet h) (fun p5 s4 h => ?_)
    refine v_if_eq (tgt := 20) hX dX12_copy_11 (by decide) (fun c6 => ?_) (fun c6 => ?_)
    · have h := h_T c6 h
      refine v_aload_n hX dX12_copy_20 0 rfl rfl ?_
      obtain ⟨k7, h⟩ := h
      refine v_getR hX dX12_copy_21 f_RX12_258 rfl k7 ?_
      refine v_iload_n hX dX12_copy_24 1 rfl rfl ?_
      obtain ⟨a8, e_a8, h⟩ := h
      refine v_nn1 e_a8 ?_
      obtain ⟨k9, h⟩ := h
      obtain ⟨i10, h⟩ := h
      refine v_iald hX dX12_copy_25 k9 i10 ?_
      refine v_if_lt (tgt := 38) hX dX12_copy_26 (by decide) (fun c11 => ?_) (fun c11 => ?_)
      · have h := h_T c11 h
        refine v_pick [0] rfl ?_
        exact b_X12_copy_38 hX hE _ h
      · have h := h_E c11 h
        refine v_aload_n hX dX12_copy_29 0 rfl rfl ?_
        refine v_getR hX dX12_copy_30 f_RX12_258 rfl k7 ?_
        refine v_iload_n hX dX12_copy_33 3 rfl rfl ?_
        obtain ⟨a12, e_a12, h⟩ := h
        refine v_nn1 e_a12 ?_
        obtain ⟨k13, h⟩ := h
        obtain ⟨i14, h⟩ := h
        refine v_iald hX dX12_copy_34 k13 i14 ?_
        refine v_if_ge (tgt := 44) hX dX12_copy_35 (by decide) (fun c15 => ?_) (fun c15 => ?_)
        · have h := h_T c15 h
          refine v_aload_n hX dX12_copy_44 0 rfl rfl ?_
          refine v_getR hX dX12_copy_45 f_RX12_261 rfl k7 ?_
          refine v_iload_n hX dX12_copy_48 1 rfl rfl ?_
          obtain ⟨a16, e_a16, h⟩ := h
          refine v_nn1 e_a16 ?_
          obtain ⟨k17, h⟩ := h
          obtain ⟨i18, h⟩ := h
          refine v_iald hX dX12_copy_49 k17 i18 ?_
          refine v_aload_n hX dX12_copy_50 0 rfl rfl ?_
          refine v_getR hX dX12_copy_51 f_RX12_261 rfl k7 ?_
          refine v_iload_n hX dX12_copy_54 3 rfl rfl ?_
          obtain ⟨a19, e_a19, h⟩ := h
          refine v_nn1 e_a19 ?_
          obtain ⟨k20, h⟩ := h
          obtain ⟨i21, h⟩ := h
          refine v_iald hX dX12_copy_55 k20 i21 ?_
          refine v_icmp_eq (tgt := 65) hX dX12_copy_56 (by decide) (fun c22 => ?_) (fun c22 => ?_)
          · have h := h_T c22 h
            refine v_iload_n hX dX12_copy_65 2 rfl rfl ?_
            refine v_iload hX dX12_copy_66 5 rfl ?_
            refine v_i2l hX dX12_copy_68 ?_
            refine v_aload_n hX dX12_copy_69 0 rfl rfl ?_
            refine v_getR hX dX12_copy_70 f_RX12_258 rfl k7 ?_
            refine v_iload_n hX dX12_copy_73 1 rfl rfl ?_
            obtain ⟨a23, e_a23, h⟩ := h
            refine v_nn1 e_a23 ?_
            obtain ⟨k24, h⟩ := h
            obtain ⟨i25, h⟩ := h
            refine v_iald hX dX12_copy_74 k24 i25 ?_
            refine v_callSi0 hX dX12_copy_75 c_RX12_411 cS_X12_isBeyond [pI _, pL _, pI _] rfl rfl (Nat.le_of_ble_eq_true rfl) (by decide) (by decide)  (m_X12_isBeyond h) (fun p27 s26 h => ?_)
            refine v_if_ne (tgt := 98) hX dX12_copy_78 (by decide) (fun c28 => ?_) (fun c28 => ?_)
            · have h := h_E c28 h
              refine v_pick [0] rfl ?_
              exact b_X12_copy_98 hX hE _ h
            · have h := h_T c28 h
              refine v_iload hX dX12_copy_81 4 rfl ?_
              refine v_iload hX dX12_copy_83 5 rfl ?_
              refine v_i2l hX dX12_copy_85 ?_
              refine v_aload_n hX dX12_copy_86 0 rfl rfl ?_
              obtain ⟨k29, h⟩ := h
              refine v_getR hX dX12_copy_87 f_RX12_258 rfl k29 ?_
              refine v_iload_n hX dX12_copy_90 3 rfl rfl ?_
              obtain ⟨a30, e_a30, h⟩ := h
              refine v_nn1 e_a30 ?_
              obtain ⟨k31, h⟩ := h
              obtain ⟨i32, h⟩ := h
              refine v_iald hX dX12_copy_91 k31 i32 ?_
              refine v_callSi0 hX dX12_copy_92 c_RX12_411 cS_X12_isBeyond [pI _, pL _, pI _] rfl rfl (Nat.le_of_ble_eq_true rfl) (by decide) (by decide)  (m_X12_isBeyond h) (fun p34 s33 h => ?_)
              refine v_if_eq (tgt := 104) hX dX12_copy_95 (by decide) (fun c35 => ?_) (fun c35 => ?_)
              · have h := h_T c35 h
                refine v_iconst (v := 0) hX dX12_copy_104 (by decide) ?_
                refine v_istore (lv' := [(6, _), (0, _), (1, _), (2, _), (3, _), (4, _), (5, _)]) hX dX12_copy_105 (by decide) rfl ?_
                refine v_pick [1, 2, 3, 4, 5, 6, 0] rfl ?_
                obtain ⟨n, h⟩ := h
                exact b_X12_copy_107 hX hE n _ _ _ _ _ _ _ _ h
              · have h := h_E c35 h
                refine v_pick [0] rfl ?_
                exact b_X12_copy_98 hX hE _ h
          · have h := h_E c22 h
            refine v_aload_n hX dX12_copy_59 0 rfl rfl ?_
            refine v_iconst (v := 2) hX dX12_copy_60 (by decide) ?_
            refine v_callVi0 hX dX12_copy_61 c_RX12_408 cV_X12_failed (ci := 13) (T := TX12) (N := 115) rfl (by exact k7) [pI _] rfl rfl (Nat.le_of_ble_eq_true rfl) (by decide) (by decide)  (m_X12_failed h) (fun p37 s36 h => ?_)
            exact v_iret hX hE dX12_copy_64 h
        · have h := h_E c15 h
          refine v_pick [0] rfl ?_
          exact b_X12_copy_38 hX hE _ h
    · have h := h_E c6 h
      refine v_pick [0] rfl ?_
      exact b_X12_copy_14 hX hE _ h
