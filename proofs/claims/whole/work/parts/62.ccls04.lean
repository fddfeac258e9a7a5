set_option maxRecDepth 100000 in
set_option maxHeartbeats 4000000 in
theorem b_X9_append_3 {X : h_X} (hX : h_ok X cX9_append 5 RX9 0 0) {Q : h_S → Prop} (hE : h_end X none (h_QV (x_Z X) Q)) : ∀ (n : Nat) (o0 : Nat) (r1 : Option Nat) (x3 : Int32) (x4 : Int32) (s : h_S), w_X9_append_3 Q n o0 r1 x3 x4 s → h_V X 5 3 [(0, pR (some o0)), (1, pR r1), (3, pI x3), (4, pI x4)] [] s 0 0 := by
  intro n
  induction n with
  | zero => intro _ _ _ _ s h; exact h.elim
  | succ n hK3 =>
    intro o0 r1 x3 x4 s h
    have h : w_X9_append_3b Q (w_X9_append_3 Q n) o0 r1 x3 x4 s := h
    unfold w_X9_append_3b at h
    refine v_iload hX dX9_append_3 3 rfl ?_
    refine v_iload_n hX dX9_append_5 2 rfl rfl ?_
    refine v_icmp_ge (tgt := 50) hX dX9_append_6 (by decide) (fun c1 => ?_) (fun c1 => ?_)
    · have h := h_T c1 h
      refine v_pick [] rfl ?_
      exact b_X9_append_50 hX hE _ h
    · have h := h_E c1 h
      refine v_aload_n hX dX9_append_9 0 rfl rfl ?_
      obtain ⟨k2, h⟩ := h
      refine v_getI hX dX9_append_10 f_RX9_89 rfl k2 ?_
      refine v_aload_n hX dX9_append_13 0 rfl rfl ?_
      refine v_getR hX dX9_append_14 f_RX9_42 rfl k2 ?_
      obtain ⟨a3, e_a3, h⟩ := h
      refine v_nn0 e_a3 ?_
      obtain ⟨k4, h⟩ := h
      refine v_alenK hX dX9_append_17 (k := 1) rfl (by decide) (by decide) k4 ?_
      refine v_icmp_ge (tgt := 50) hX dX9_append_18 (by decide) (fun c5 => ?_) (fun c5 => ?_)
      · have h := h_T c5 h
        refine v_pick [] rfl ?_
        exact b_X9_append_50 hX hE _ h
      · have h := h_E c5 h
        refine v_aload_n hX dX9_append_21 0 rfl rfl ?_
        refine v_getR hX dX9_append_22 f_RX9_42 rfl k2 ?_
        refine v_aload_n hX dX9_append_25 0 rfl rfl ?_
        refine v_getI hX dX9_append_26 f_RX9_89 rfl k2 ?_
        refine v_aload_n hX dX9_append_29 1 rfl rfl ?_
        refine v_iload hX dX9_append_30 3 rfl ?_
        obtain ⟨a6, e_a6, h⟩ := h
        refine v_nn1 e_a6 ?_
        obtain ⟨k7, h⟩ := h
        obtain ⟨i8, h⟩ := h
        refine v_iald hX dX9_append_32 k7 i8 ?_
        obtain ⟨a9, e_a9, h⟩ := h
        refine v_nn2 e_a9 ?_
        obtain ⟨k10, h⟩ := h
        obtain ⟨i11, h⟩ := h
        refine v_iast hX dX9_append_33 k10 i11 ?_
        refine v_aload_n hX dX9_append_34 0 rfl rfl ?_
        refine v_dup hX dX9_append_35 rfl ?_
        refine v_getI hX dX9_append_36 f_RX9_89 rfl k2 ?_
        refine v_iconst (v := 1) hX dX9_append_39 (by decide) ?_
        refine v_iadd hX dX9_append_40 ?_
        refine v_putI hX dX9_append_41 f_RX9_89 k2 ?_
        refine v_iinc (c := 1) (lv' := [(4, _), (0, _), (1, _), (3, _)]) hX dX9_append_44 3 rfl (by decide) (by decide) rfl ?_
        refine v_goto (tgt := 3) hX dX9_append_47 (by decide) ?_
        refine v_pick [1, 2, 3, 0] rfl ?_
        exact hK3 _ _ _ _ _ h
set_option maxRecDepth 100000 in
set_option maxHeartbeats 4000000 in
theorem m_X9_append {Z : h_Z} {o0 : Nat} {r1 : Option Nat} {x2 : Int32} {x3 : Int32} {s : h_S} {Q : h_S → Prop} (h : w_X9_append o0 r1 x2 x3 s Q) : h_M Z yX9_append cX9_append 5 none 0 0 [pR (some o0), pR r1, pI x2, pI x3] s 0 0 (h_QV Z Q) := by
  refine h_M.of (by decide) (Nat.le_of_ble_eq_true rfl) (fun X hZ hX hE hI => ?_)
  subst hZ
  unfold w_X9_append at h
  show h_V X 5 0 [(0, pR (some o0)), (1, pR r1), (2, pI x2), (3, pI x3)] [] s 0 0
  refine v_iload_n hX dX9_append_0 2 rfl rfl ?_
  refine v_istore (lv' := [(4, _), (0, _), (1, _), (2, _), (3, _)]) hX dX9_append_1 (by decide) rfl ?_
  refine v_pick [1, 2, 4, 0] rfl ?_
  obtain ⟨n, h⟩ := h
  exact b_X9_append_3 hX hE n _ _ _ _ _ h
set_option maxRecDepth 100000 in
set_option maxHeartbeats 4000000 in
theorem b_X9_noteClash_42 {X : h_X} (hX : h_ok X cX9_noteClash 3 RX9 0 0) {Q : h_S → Prop} (hE : h_end X none (h_QV (x_Z X) Q)) {o0 : Nat} (s : h_S) (h : w_X9_noteClash_42 Q o0 s) : h_V X 3 42 [(0, pR (some o0))] [] s 0 0 := by
  unfold w_X9_noteClash_42 at h
  refine v_aload_n hX dX9_noteClash_42 0 rfl rfl ?_
  refine v_dup hX dX9_noteClash_43 rfl ?_
  obtain ⟨k1, h⟩ := h
  refine v_getI hX dX9_noteClash_44 f_RX9_92 rfl k1 ?_
  refine v_iconst (v := 1) hX dX9_noteClash_47 (by decide) ?_
  refine v_iadd hX dX9_noteClash_48 ?_
  refine v_putI hX dX9_noteClash_49 f_RX9_92 k1 ?_
  exact v_vret hX hE dX9_noteClash_52 h
set_option maxRecDepth 100000 in
set_option maxHeartbeats 4000000 in
theorem m_X9_noteClash {Z : h_Z} {o0 : Nat} {x1 : Int32} {x2 : Int32} {s : h_S} {Q : h_S → Prop} (h : w_X9_noteClash o0 x1 x2 s Q) : h_M Z yX9_noteClash cX9_noteClash 3 none 0 0 [pR (some o0), pI x1, pI x2] s 0 0 (h_QV Z Q) := by
  refine h_M.of (by decide) (Nat.le_of_ble_eq_true rfl) (fun X hZ hX hE hI => ?_)
  subst hZ
  unfold w_X9_noteClash at h
  show h_V X 3 0 [(0, pR (some o0)), (1, pI x1), (2, pI x2)] [] s 0 0
  refine v_aload_n hX dX9_noteClash_0 0 rfl rfl ?_
  obtain ⟨k1, h⟩ := h
  refine v_getI hX dX9_noteClash_1 f_RX9_92 rfl k1 ?_
  refine v_bipush (v := 12) hX dX9_noteClash_4 (by decide) ?_
  refine v_icmp_ge (tgt := 42) hX dX9_noteClash_6 (by decide) (fun c2 => ?_) (fun c2 => ?_)
  · have h := h_T c2 h
    refine v_pick [0] rfl ?_
    exact b_X9_noteClash_42 hX hE _ h
  · have h := h_E c2 h
    refine v_aload_n hX dX9_noteClash_9 0 rfl rfl ?_
    refine v_getR hX dX9_noteClash_10 f_RX9_45 rfl k1 ?_
    refine v_aload_n hX dX9_noteClash_13 0 rfl rfl ?_
    refine v_getI hX dX9_noteClash_14 f_RX9_92 rfl k1 ?_
    refine v_iload_n hX dX9_noteClash_17 1 rfl rfl ?_
    obtain ⟨a3, e_a3, h⟩ := h
    refine v_nn2 e_a3 ?_
    obtain ⟨k4, h⟩ := h
    obtain ⟨i5, h⟩ := h
    refine v_iast hX dX9_noteClash_18 k4 i5 ?_
    refine v_aload_n hX dX9_noteClash_19 0 rfl rfl ?_
    refine v_getR hX dX9_noteClash_20 f_RX9_48 rfl k1 ?_
    refine v_aload_n hX dX9_noteClash_23 0 rfl rfl ?_
    refine v_getI hX dX9_noteClash_24 f_RX9_92 rfl k1 ?_
    refine v_iload_n hX dX9_noteClash_27 2 rfl rfl ?_
    obtain ⟨a7, e_a7, h⟩ := h
    refine v_nn2 e_a7 ?_
    obtain ⟨k8, h⟩ := h
    obtain ⟨i9, h⟩ := h
    refine v_iast hX dX9_noteClash_28 k8 i9 ?_
    refine v_aload_n hX dX9_noteClash_29 0 rfl rfl ?_
    refine v_getR hX dX9_noteClash_30 f_RX9_51 rfl k1 ?_
    refine v_aload_n hX dX9_noteClash_33 0 rfl rfl ?_
    refine v_getI hX dX9_noteClash_34 f_RX9_92 rfl k1 ?_
    refine v_aload_n hX dX9_noteClash_37 0 rfl rfl ?_
    refine v_getI hX dX9_noteClash_38 f_RX9_89 rfl k1 ?_
    obtain ⟨a11, e_a11, h⟩ := h
    refine v_nn2 e_a11 ?_
    obtain ⟨k12, h⟩ := h
    obtain ⟨i13, h⟩ := h
    refine v_iast hX dX9_noteClash_41 k12 i13 ?_
    refine v_pick [0] rfl ?_
    exact b_X9_noteClash_42 hX hE _ h
set_option maxRecDepth 100000 in
set_option maxHeartbeats 4000000 in
theorem b_X9_joinPuts_210 {X : h_X} (hX : h_ok X cX9_joinPuts 8 RX9 2 47) {Q : h_S → Prop} (hE : h_end X none (h_QV (x_Z X) Q)) (s : h_S) (h : w_X9_joinPuts_210 Q s) : h_V X 8 210 [] [] s 0 0 := by
  unfold w_X9_joinPuts_210 at h
  exact v_vret hX hE dX9_joinPuts_210 h
set_option maxRecDepth 100000 in
set_option maxHeartbeats 4000000 in
theorem b_X9_joinPuts_52 {X : h_X} (hX : h_ok X cX9_joinPuts 8 RX9 2 47) {Q : h_S → Prop} (hE : h_end X none (h_QV (x_Z X) Q)) {o0 : Nat} {x1 : Int32} (s : h_S) (h : w_X9_joinPuts_52 Q o0 x1 s) : h_V X 8 52 [(0, pR (some o0)), (1, pI x1)] [] s 0 0 := by
  unfold w_X9_joinPuts_52 at h
  refine v_aload_n hX dX9_joinPuts_52 0 rfl rfl ?_
  refine v_aload_n hX dX9_joinPuts_53 0 rfl rfl ?_
  obtain ⟨k1, h⟩ := h
  refine v_getR hX dX9_joinPuts_54 f_RX9_26 rfl k1 ?_
  refine v_iconst (v := 0) hX dX9_joinPuts_57 (by decide) ?_
  obtain ⟨a2, e_a2, h⟩ := h
  refine v_nn1 e_a2 ?_
  obtain ⟨k3, h⟩ := h
  obtain ⟨i4, h⟩ := h
  refine v_aald (k := 8) hX dX9_joinPuts_58 rfl rfl (by decide) (by decide) k3 i4 ?_
  refine v_aload_n hX dX9_joinPuts_59 0 rfl rfl ?_
  refine v_getR hX dX9_joinPuts_60 f_RX9_32 rfl k1 ?_
  refine v_iconst (v := 0) hX dX9_joinPuts_63 (by decide) ?_
  obtain ⟨a5, e_a5, h⟩ := h
  refine v_nn1 e_a5 ?_
  obtain ⟨k6, h⟩ := h
  obtain ⟨i7, h⟩ := h
  refine v_aald (k := 8) hX dX9_joinPuts_64 rfl rfl (by decide) (by decide) k6 i7 ?_
  refine v_iload_n hX dX9_joinPuts_65 1 rfl rfl ?_
  obtain ⟨a8, e_a8, h⟩ := h
  refine v_nn1 e_a8 ?_
  obtain ⟨k9, h⟩ := h
  obtain ⟨i10, h⟩ := h
  refine v_iald hX dX9_joinPuts_66 k9 i10 ?_
  refine v_aload_n hX dX9_joinPuts_67 0 rfl rfl ?_
  refine v_getR hX dX9_joinPuts_68 f_RX9_35 rfl k1 ?_
  refine v_iconst (v := 0) hX dX9_joinPuts_71 (by decide) ?_
  obtain ⟨a11, e_a11, h⟩ := h
  refine v_nn1 e_a11 ?_
  obtain ⟨k12, h⟩ := h
  obtain ⟨i13, h⟩ := h
  refine v_aald (k := 8) hX dX9_joinPuts_72 rfl rfl (by decide) (by decide) k12 i13 ?_
  refine v_iload_n hX dX9_joinPuts_73 1 rfl rfl ?_
  obtain ⟨a14, e_a14, h⟩ := h
  refine v_nn1 e_a14 ?_
  obtain ⟨k15, h⟩ := h
  obtain ⟨i16, h⟩ := h
  refine v_iald hX dX9_joinPuts_74 k15 i16 ?_
  refine v_callVv0 hX dX9_joinPuts_75 c_RX9_98 cV_X9_append (ci := 10) (T := TX9) (N := 16) rfl (by exact k1) [pR _, pI _, pI _] rfl rfl (Nat.le_of_ble_eq_true rfl) (by decide) (by decide)  (m_X9_append h) (fun s17 h => ?_)
  refine v_goto (tgt := 210) hX dX9_joinPuts_78 (by decide) ?_
  refine v_pick [] rfl ?_
  exact b_X9_joinPuts_210 hX hE _ h
set_option maxRecDepth 100000 in
set_option maxHeartbeats 4000000 in
theorem b_X9_joinPuts_124 {X : h_X} (hX : h_ok X cX9_joinPuts 8 RX9 2 47) {Q : h_S → Prop} (hE : h_end X none (h_QV (x_Z X) Q)) {o0 : Nat} {x1 : Int32} {y0 : Int32} (s : h_S) (h : w_X9_joinPuts_124 Q o0 x1 y0 s) : h_V X 8 124 [(0, pR (some o0)), (1, pI x1)] [pI y0] s 0 0 := by
  unfold w_X9_joinPuts_124 at h
  refine v_istore (lv' := [(5, _), (0, _), (1, _)]) hX dX9_joinPuts_124 (by decide) rfl ?_
  refine v_aload_n hX dX9_joinPuts_126 1 rfl rfl ?_
  obtain ⟨k1, h⟩ := h
  refine v_getI hX dX9_joinPuts_127 f_RX9_89 rfl k1 ?_
  refine v_istore (lv' := [(6, _), (5, _), (0, _), (1, _)]) hX dX9_joinPuts_130 (by decide) rfl ?_
  refine v_aload_n hX dX9_joinPuts_132 2 rfl rfl ?_
  refine v_aload_n hX dX9_joinPuts_133 2 rfl rfl ?_
  refine v_getR hX dX9_joinPuts_134 f_RX9_26 rfl k1 ?_
  refine v_iload hX dX9_joinPuts_137 1 rfl ?_
  obtain ⟨a2, e_a2, h⟩ := h
  refine v_nn1 e_a2 ?_
  obtain ⟨k3, h⟩ := h
  obtain ⟨i4, h⟩ := h
  refine v_aald (k := 8) hX dX9_joinPuts_139 rfl rfl (by decide) (by decide) k3 i4 ?_
  refine v_aload_n hX dX9_joinPuts_140 2 rfl rfl ?_
  refine v_getR hX dX9_joinPuts_141 f_RX9_32 rfl k1 ?_
  refine v_iload hX dX9_joinPuts_144 1 rfl ?_
  obtain ⟨a5, e_a5, h⟩ := h
  refine v_nn1 e_a5 ?_
  obtain ⟨k6, h⟩ := h
  obtain ⟨i7, h⟩ := h
  refine v_aald (k := 8) hX dX9_joinPuts_146 rfl rfl (by decide) (by decide) k6 i7 ?_
  refine v_iload_n hX dX9_joinPuts_147 3 rfl rfl ?_
  obtain ⟨a8, e_a8, h⟩ := h
  refine v_nn1 e_a8 ?_
  obtain ⟨k9, h⟩ := h
  obtain ⟨i10, h⟩ := h
  refine v_iald hX dX9_joinPuts_148 k9 i10 ?_
  refine v_aload_n hX dX9_joinPuts_149 2 rfl rfl ?_
  refine v_getR hX dX9_joinPuts_150 f_RX9_35 rfl k1 ?_
  refine v_iload hX dX9_joinPuts_153 1 rfl ?_
  obtain ⟨a11, e_a11, h⟩ := h
  refine v_nn1 e_a11 ?_
  obtain ⟨k12, h⟩ := h
  obtain ⟨i13, h⟩ := h
  refine v_aald (k := 8) hX dX9_joinPuts_155 rfl rfl (by decide) (by decide) k12 i13 ?_
  refine v_iload_n hX dX9_joinPuts_156 3 rfl rfl ?_
  obtain ⟨a14, e_a14, h⟩ := h
  refine v_nn1 e_a14 ?_
  obtain ⟨k15, h⟩ := h
  obtain ⟨i16, h⟩ := h
  refine v_iald hX dX9_joinPuts_157 k15 i16 ?_
  refine v_callVv0 hX dX9_joinPuts_158 c_RX9_98 cV_X9_append (ci := 10) (T := TX9) (N := 16) rfl (by exact k1) [pR _, pI _, pI _] rfl rfl (Nat.le_of_ble_eq_true rfl) (by decide) (by decide)  (m_X9_append h) (fun s17 h => ?_)
  refine v_aload_n hX dX9_joinPuts_161 2 rfl rfl ?_
  obtain ⟨k19, h⟩ := h
  refine v_getI hX dX9_joinPuts_162 f_RX9_89 rfl k19 ?_
  refine v_istore (lv' := [(7, _), (6, _), (5, _), (0, _), (1, _)]) hX dX9_joinPuts_165 (by decide) rfl ?_
  refine v_aload_n hX dX9_joinPuts_167 3 rfl rfl ?_
  refine v_aload_n hX dX9_joinPuts_168 3 rfl rfl ?_
  refine v_getR hX dX9_joinPuts_169 f_RX9_26 rfl k19 ?_
  refine v_iconst (v := 1) hX dX9_joinPuts_172 (by decide) ?_
  refine v_iload hX dX9_joinPuts_173 2 rfl ?_
  refine v_isub hX dX9_joinPuts_175 ?_
  obtain ⟨a20, e_a20, h⟩ := h
  refine v_nn1 e_a20 ?_
  obtain ⟨k21, h⟩ := h
  obtain ⟨i22, h⟩ := h
  refine v_aald (k := 8) hX dX9_joinPuts_176 rfl rfl (by decide) (by decide) k21 i22 ?_
  refine v_aload_n hX dX9_joinPuts_177 3 rfl rfl ?_
  refine v_getR hX dX9_joinPuts_178 f_RX9_32 rfl k19 ?_
  refine v_iconst (v := 1) hX dX9_joinPuts_181 (by decide) ?_
  refine v_iload hX dX9_joinPuts_182 2 rfl ?_
  refine v_isub hX dX9_joinPuts_184 ?_
  obtain ⟨a23, e_a23, h⟩ := h
  refine v_nn1 e_a23 ?_
  obtain ⟨k24, h⟩ := h
  obtain ⟨i25, h⟩ := h
  refine v_aald (k := 8) hX dX9_joinPuts_185 rfl rfl (by decide) (by decide) k24 i25 ?_
  refine v_iload_n hX dX9_joinPuts_186 4 rfl rfl ?_
  obtain ⟨a26, e_a26, h⟩ := h
  refine v_nn1 e_a26 ?_
  obtain ⟨k27, h⟩ := h
  obtain ⟨i28, h⟩ := h
  refine v_iald hX dX9_joinPuts_187 k27 i28 ?_
  refine v_aload_n hX dX9_joinPuts_188 3 rfl rfl ?_
  refine v_getR hX dX9_joinPuts_189 f_RX9_35 rfl k19 ?_
  refine v_iconst (v := 1) hX dX9_joinPuts_192 (by decide) ?_
  refine v_iload hX dX9_joinPuts_193 2 rfl ?_
  refine v_isub hX dX9_joinPuts_195 ?_
  obtain ⟨a29, e_a29, h⟩ := h
  refine v_nn1 e_a29 ?_
  obtain ⟨k30, h⟩ := h
  obtain ⟨i31, h⟩ := h
  refine v_aald (k := 8) hX dX9_joinPuts_196 rfl rfl (by decide) (by decide) k30 i31 ?_
  refine v_iload_n hX dX9_joinPuts_197 4 rfl rfl ?_
  obtain ⟨a32, e_a32, h⟩ := h
  refine v_nn1 e_a32 ?_
  obtain ⟨k33, h⟩ := h
  obtain ⟨i34, h⟩ := h
  refine v_iald hX dX9_joinPuts_198 k33 i34 ?_
  refine v_callVv0 hX dX9_joinPuts_199 c_RX9_98 cV_X9_append (ci := 10) (T := TX9) (N := 16) rfl (by exact k19) [pR _, pI _, pI _] rfl rfl (Nat.le_of_ble_eq_true rfl) (by decide) (by decide)  (m_X9_append h) (fun s35 h => ?_)
  refine v_aload_n hX dX9_joinPuts_202 3 rfl rfl ?_
  refine v_iload hX dX9_joinPuts_203 1 rfl ?_
  refine v_iload hX dX9_joinPuts_205 0 rfl ?_
  obtain ⟨k37, h⟩ := h
  refine v_callVv0 hX dX9_joinPuts_207 c_RX9_109 cV_X9_noteClash (ci := 10) (T := TX9) (N := 16) rfl (by exact k37) [pI _, pI _] rfl rfl (Nat.le_of_ble_eq_true rfl) (by decide) (by decide)  (m_X9_noteClash h) (fun s38 h => ?_)
  refine v_pick [] rfl ?_
  exact b_X9_joinPuts_210 hX hE _ h
set_option maxRecDepth 100000 in
set_option maxHeartbeats 4000000 in
theorem m_X9_joinPuts {Z : h_Z} {o0 : Nat} {x1 : Int32} {s : h_S} {Q : h_S → Prop} (h : w_X9_joinPuts o0 x1 s Q) : h_M Z yX9_joinPuts cX9_joinPuts 8 none 2 47 [pR (some o0), pI x1] s 0 0 (h_QV Z Q) := by
  refine h_M.of (by decide) (Nat.le_of_ble_eq_true rfl) (fun X hZ hX hE hI => ?_)
  subst hZ
  unfold w_X9_joinPuts at h
  show h_V X 8 0 [(0, pR (some o0)), (1, pI x1)] [] s 0 0
  refine v_aload_n hX dX9_joinPuts_0 0 rfl rfl ?_
  obtain ⟨k1, h⟩ := h
  refine v_getR hX dX9_joinPuts_1 f_RX9_35 rfl k1 ?_
  refine v_iconst (v := 0) hX dX9_joinPuts_4 (by decide) ?_
  obtain ⟨a2, e_a2, h⟩ := h
  refine v_nn1 e_a2 ?_
  obtain ⟨k3, h⟩ := h
  obtain ⟨i4, h⟩ := h
  refine v_aald (k := 8) hX dX9_joinPuts_5 rfl rfl (by decide) (by decide) k3 i4 ?_
  refine v_iload_n hX dX9_joinPuts_6 1 rfl rfl ?_
  obtain ⟨a5, e_a5, h⟩ := h
  refine v_nn1 e_a5 ?_
  obtain ⟨k6, h⟩ := h
  obtain ⟨i7, h⟩ := h
  refine v_iald hX dX9_joinPuts_7 k6 i7 ?_
  refine v_aload_n hX dX9_joinPuts_8 0 rfl rfl ?_
  refine v_getR hX dX9_joinPuts_9 f_RX9_32 rfl k1 ?_
  refine v_iconst (v := 0) hX dX9_joinPuts_12 (by decide) ?_
  obtain ⟨a8, e_a8, h⟩ := h
  refine v_nn1 e_a8 ?_
  obtain ⟨k9, h⟩ := h
  obtain ⟨i10, h⟩ := h
  refine v_aald (k := 8) hX dX9_joinPuts_13 rfl rfl (by decide) (by decide) k9 i10 ?_
  refine v_iload_n hX dX9_joinPuts_14 1 rfl rfl ?_
  obtain ⟨a11, e_a11, h⟩ := h
  refine v_nn1 e_a11 ?_
  obtain ⟨k12, h⟩ := h
  obtain ⟨i13, h⟩ := h
  refine v_iald hX dX9_joinPuts_15 k12 i13 ?_
  refine v_isub hX dX9_joinPuts_16 ?_
  refine v_istore_n (lv' := [(2, _), (0, _), (1, _)]) hX dX9_joinPuts_17 rfl (by decide) rfl ?_
  refine v_aload_n hX dX9_joinPuts_18 1 rfl rfl ?_
  refine v_getR hX dX9_joinPuts_19 f_RX9_35 rfl k1 ?_
  refine v_iconst (v := 1) hX dX9_joinPuts_22 (by decide) ?_
  obtain ⟨a15, e_a15, h⟩ := h
  refine v_nn1 e_a15 ?_
  obtain ⟨k16, h⟩ := h
  obtain ⟨i17, h⟩ := h
  refine v_aald (k := 8) hX dX9_joinPuts_23 rfl rfl (by decide) (by decide) k16 i17 ?_
  refine v_iload_n hX dX9_joinPuts_24 2 rfl rfl ?_
  obtain ⟨a18, e_a18, h⟩ := h
  refine v_nn1 e_a18 ?_
  obtain ⟨k19, h⟩ := h
  obtain ⟨i20, h⟩ := h
  refine v_iald hX dX9_joinPuts_25 k19 i20 ?_
  refine v_aload_n hX dX9_joinPuts_26 1 rfl rfl ?_
  refine v_getR hX dX9_joinPuts_27 f_RX9_32 rfl k1 ?_
  refine v_iconst (v := 1) hX dX9_joinPuts_30 (by decide) ?_
  obtain ⟨a21, e_a21, h⟩ := h
  refine v_nn1 e_a21 ?_
  obtain ⟨k22, h⟩ := h
  obtain ⟨i23, h⟩ := h
  refine v_aald (k := 8) hX dX9_joinPuts_31 rfl rfl (by decide) (by decide) k22 i23 ?_
  refine v_iload_n hX dX9_joinPuts_32 2 rfl rfl ?_
  obtain ⟨a24, e_a24, h⟩ := h
  refine v_nn1 e_a24 ?_
  obtain ⟨k25, h⟩ := h
  obtain ⟨i26, h⟩ := h
  refine v_iald hX dX9_joinPuts_33 k25 i26 ?_
  refine v_isub hX dX9_joinPuts_34 ?_
  refine v_istore_n (lv' := [(3, _), (2, _), (0, _), (1, _)]) hX dX9_joinPuts_35 rfl (by decide) rfl ?_
  refine v_aload_n hX dX9_joinPuts_36 2 rfl rfl ?_
  refine v_iload_n hX dX9_joinPuts_37 3 rfl rfl ?_
  refine v_callVi0 hX dX9_joinPuts_38 c_RX9_105 cV_X9_orderOfPuts (ci := 10) (T := TX9) (N := 16) rfl (by exact k1) [pI _] rfl rfl (Nat.le_of_ble_eq_true rfl) (by decide) (by decide)  (m_X9_orderOfPuts h) (fun p29 s28 h => ?_)
  refine v_istore (lv' := [(4, _), (3, _), (2, _), (0, _), (1, _)]) hX dX9_joinPuts_41 (by decide) rfl ?_
  refine v_iload_n hX dX9_joinPuts_43 1 rfl rfl ?_
  refine v_if_eq (tgt := 52) hX dX9_joinPuts_44 (by decide) (fun c30 => ?_) (fun c30 => ?_)
  · have h := h_T c30 h
    refine v_pick [3, 4] rfl ?_
    exact b_X9_joinPuts_52 hX hE _ h
  · have h := h_E c30 h
    refine v_iload hX dX9_joinPuts_47 0 rfl ?_
    refine v_if_ne (tgt := 81) hX dX9_joinPuts_49 (by decide) (fun c31 => ?_) (fun c31 => ?_)
    · have h := h_E c31 h
      refine v_iload_n hX dX9_joinPuts_81 2 rfl rfl ?_
      refine v_if_ne (tgt := 114) hX dX9_joinPuts_82 (by decide) (fun c32 => ?_) (fun c32 => ?_)
      · have h := h_E c32 h
        refine v_iload hX dX9_joinPuts_114 0 rfl ?_
        refine v_if_ge (tgt := 123) hX dX9_joinPuts_116 (by decide) (fun c33 => ?_) (fun c33 => ?_)
        · have h := h_T c33 h
          refine v_iconst (v := 1) hX dX9_joinPuts_123 (by decide) ?_
          refine v_pick [3, 4] rfl ?_
          exact b_X9_joinPuts_124 hX hE _ h
        · have h := h_E c33 h
          refine v_iconst (v := 0) hX dX9_joinPuts_119 (by decide) ?_
          refine v_goto (tgt := 124) hX dX9_joinPuts_120 (by decide) ?_
          refine v_pick [3, 4] rfl ?_
          exact b_X9_joinPuts_124 hX hE _ h
      · have h := h_T c32 h
        refine v_aload_n hX dX9_joinPuts_85 3 rfl rfl ?_
        refine v_aload_n hX dX9_joinPuts_86 3 rfl rfl ?_
        obtain ⟨k34, h⟩ := h
        refine v_getR hX dX9_joinPuts_87 f_RX9_26 rfl k34 ?_
        refine v_iconst (v := 1) hX dX9_joinPuts_90 (by decide) ?_
        obtain ⟨a35, e_a35, h⟩ := h
        refine v_nn1 e_a35 ?_
        obtain ⟨k36, h⟩ := h
        obtain ⟨i37, h⟩ := h
        refine v_aald (k := 8) hX dX9_joinPuts_91 rfl rfl (by decide) (by decide) k36 i37 ?_
        refine v_aload_n hX dX9_joinPuts_92 3 rfl rfl ?_
        refine v_getR hX dX9_joinPuts_93 f_RX9_32 rfl k34 ?_
        refine v_iconst (v := 1) hX dX9_joinPuts_96 (by decide) ?_
        obtain ⟨a38, e_a38, h⟩ := h
        refine v_nn1 e_a38 ?_
        obtain ⟨k39, h⟩ := h
        obtain ⟨i40, h⟩ := h
        refine v_aald (k := 8) hX dX9_joinPuts_97 rfl rfl (by decide) (by decide) k39 i40 ?_
        refine v_iload_n hX dX9_joinPuts_98 4 rfl rfl ?_
        obtain ⟨a41, e_a41, h⟩ := h
        refine v_nn1 e_a41 ?_
        obtain ⟨k42, h⟩ := h
        obtain ⟨i43, h⟩ := h
        refine v_iald hX dX9_joinPuts_99 k42 i43 ?_
        refine v_aload_n hX dX9_joinPuts_100 3 rfl rfl ?_
        refine v_getR hX dX9_joinPuts_101 f_RX9_35 rfl k34 ?_
        refine v_iconst (v := 1) hX dX9_joinPuts_104 (by decide) ?_
        obtain ⟨a44, e_a44, h⟩ := h
        refine v_nn1 e_a44 ?_
        obtain ⟨k45, h⟩ := h
        obtain ⟨i46, h⟩ := h
        refine v_aald (k := 8) hX dX9_joinPuts_105 rfl rfl (by decide) (by decide) k45 i46 ?_
        refine v_iload_n hX dX9_joinPuts_106 4 rfl rfl ?_
        obtain ⟨a47, e_a47, h⟩ := h
        refine v_nn1 e_a47 ?_
        obtain ⟨k48, h⟩ := h
        obtain ⟨i49, h⟩ := h
        refine v_iald hX dX9_joinPuts_107 k48 i49 ?_
        refine v_callVv0 hX dX9_joinPuts_108 c_RX9_98 cV_X9_append (ci := 10) (T := TX9) (N := 16) rfl (by exact k34) [pR _, pI _, pI _] rfl rfl (Nat.le_of_ble_eq_true rfl) (by decide) (by decide)  (m_X9_append h) (fun s50 h => ?_)
        refine v_goto (tgt := 210) hX dX9_joinPuts_111 (by decide) ?_
        refine v_pick [] rfl ?_
        exact b_X9_joinPuts_210 hX hE _ h
    · have h := h_T c31 h
      refine v_pick [3, 4] rfl ?_
      exact b_X9_joinPuts_52 hX hE _ h
set_option maxRecDepth 100000 in
set_option maxHeartbeats 4000000 in
theorem b_X9_weaveBy_140 {X : h_X} (hX : h_ok X cX9_weaveBy 5 RX9 3 78) {Q : h_S → Prop} (hE : h_end X none (h_QV (x_Z X) Q)) {K92 : Nat → Int32 → h_S → Prop} (hK92 : ∀ (o0 : Nat) (x4 : Int32) (s : h_S), K92 o0 x4 s → h_V X 5 92 [(0, pR (some o0)), (4, pI x4)] [] s 0 0) {o0 : Nat} {x4 : Int32} (s : h_S) (h : w_X9_weaveBy_140 Q K92 o0 x4 s) : h_V X 5 140 [(0, pR (some o0)), (4, pI x4)] [] s 0 0 := by
  unfold w_X9_weaveBy_140 at h
  refine v_iinc (c := 1) (lv' := [(4, _), (0, _)]) hX dX9_weaveBy_140 1 rfl (by decide) (by decide) rfl ?_
  refine v_goto (tgt := 92) hX dX9_weaveBy_143 (by decide) ?_
  refine v_pick [1, 0] rfl ?_
  exact hK92 _ _ _ h
set_option maxRecDepth 100000 in
set_option maxHeartbeats 4000000 in
theorem b_X9_weaveBy_92 {X : h_X} (hX : h_ok X cX9_weaveBy 5 RX9 3 78) {Q : h_S → Prop} (hE : h_end X none (h_QV (x_Z X) Q)) : ∀ (n : Nat) (o0 : Nat) (x4 : Int32) (s : h_S), w_X9_weaveBy_92 Q n o0 x4 s → h_V X 5 92 [(0, pR (some o0)), (4, pI x4)] [] s 0 0 := by
  intro n
  induction n with
  | zero => intro _ _ s h; exact h.elim
  | succ n hK92 =>
    intro o0 x4 s h
    have h : w_X9_weaveBy_92b Q (w_X9_weaveBy_92 Q n) o0 x4 s := h
    unfold w_X9_weaveBy_92b at h
    refine v_iload hX dX9_weaveBy_92 1 rfl ?_
    refine v_aload_n hX dX9_weaveBy_94 0 rfl rfl ?_
    obtain ⟨k1, h⟩ := h
    refine v_getI hX dX9_weaveBy_95 f_RX9_81 rfl k1 ?_
    refine v_icmp_gt (tgt := 146) hX dX9_weaveBy_98 (by decide) (fun c2 => ?_) (fun c2 => ?_)
    · have h := h_T c2 h
      exact v_vret hX hE dX9_weaveBy_146 h
    · have h := h_E c2 h
      refine v_aload_n hX dX9_weaveBy_101 0 rfl rfl ?_
      refine v_iload hX dX9_weaveBy_102 1 rfl ?_
      refine v_callVv0 hX dX9_weaveBy_104 c_RX9_95 cV_X9_joinPuts (ci := 10) (T := TX9) (N := 16) rfl (by exact k1) [pI _] rfl rfl (Nat.le_of_ble_eq_true rfl) (by decide) (by decide)  (m_X9_joinPuts h) (fun s3 h => ?_)
      refine v_iload hX dX9_weaveBy_107 1 rfl ?_
      refine v_aload_n hX dX9_weaveBy_109 0 rfl rfl ?_
      obtain ⟨k5, h⟩ := h
      refine v_getI hX dX9_weaveBy_110 f_RX9_81 rfl k5 ?_
      refine v_icmp_ge (tgt := 140) hX dX9_weaveBy_113 (by decide) (fun c6 => ?_) (fun c6 => ?_)
      · have h := h_T c6 h
        refine v_pick [0, 1] rfl ?_
        exact b_X9_weaveBy_140 hX hE hK92 _ h
      · have h := h_E c6 h
        refine v_aload_n hX dX9_weaveBy_116 0 rfl rfl ?_
        refine v_getR hX dX9_weaveBy_117 f_RX9_38 rfl k5 ?_
        refine v_iload hX dX9_weaveBy_120 1 rfl ?_
        obtain ⟨a7, e_a7, h⟩ := h
        refine v_nn1 e_a7 ?_
        obtain ⟨k8, h⟩ := h
        obtain ⟨i9, h⟩ := h
        refine v_zald hX dX9_weaveBy_122 k8 i9 ?_
        refine v_if_ne (tgt := 140) hX dX9_weaveBy_123 (by decide) (fun c10 => ?_) (fun c10 => ?_)
        · have h := h_E c10 h
          refine v_pick [0, 1] rfl ?_
          exact b_X9_weaveBy_140 hX hE hK92 _ h
        · have h := h_T c10 h
          refine v_aload_n hX dX9_weaveBy_126 0 rfl rfl ?_
          refine v_aload_n hX dX9_weaveBy_127 0 rfl rfl ?_
          refine v_getR hX dX9_weaveBy_128 f_RX9_23 rfl k5 ?_
          refine v_iload hX dX9_weaveBy_131 1 rfl ?_
          refine v_iload hX dX9_weaveBy_133 1 rfl ?_
          refine v_iconst (v := 1) hX dX9_weaveBy_135 (by decide) ?_
          refine v_iadd hX dX9_weaveBy_136 ?_
          refine v_callVv0 hX dX9_weaveBy_137 c_RX9_98 cV_X9_append (ci := 10) (T := TX9) (N := 16) rfl (by exact k5) [pR _, pI _, pI _] rfl rfl (Nat.le_of_ble_eq_true rfl) (by decide) (by decide)  (m_X9_append h) (fun s11 h => ?_)
          refine v_pick [0, 1] rfl ?_
          exact b_X9_weaveBy_140 hX hE hK92 _ h
set_option maxRecDepth 100000 in
set_option maxHeartbeats 4000000 in
theorem b_X9_weaveBy_47 {X : h_X} (hX : h_ok X cX9_weaveBy 5 RX9 3 78) {Q : h_S → Prop} (hE : h_end X none (h_QV (x_Z X) Q)) : ∀ (n : Nat) (o0 : Nat) (x4 : Int32) (s : h_S), w_X9_weaveBy_47 Q n o0 x4 s → h_V X 5 47 [(0, pR (some o0)), (4, pI x4)] [] s 0 0 := by
  intro n
  induction n with
  | zero => intro _ _ s h; exact h.elim
  | succ n hK47 =>
    intro o0 x4 s h
    have h : w_X9_weaveBy_47b Q (w_X9_weaveBy_47 Q n) o0 x4 s := h
    unfold w_X9_weaveBy_47b at h
    refine v_iload hX dX9_weaveBy_47 1 rfl ?_
    refine v_sipush (v := 300) hX dX9_weaveBy_49 (by decide) ?_
    refine v_icmp_ge (tgt := 69) hX dX9_weaveBy_52 (by decide) (fun c1 => ?_) (fun c1 => ?_)
    · have h := h_T c1 h
      refine v_aload_n hX dX9_weaveBy_69 0 rfl rfl ?_
      refine v_iconst (v := 0) hX dX9_weaveBy_70 (by decide) ?_
      obtain ⟨k2, h⟩ := h
      refine v_callVv0 hX dX9_weaveBy_71 c_RX9_85 cV_X9_findWay (ci := 10) (T := TX9) (N := 16) rfl (by exact k2) [pI _] rfl rfl (Nat.le_of_ble_eq_true rfl) (by decide) (by decide)  (m_X9_findWay h) (fun s3 h => ?_)
      refine v_aload_n hX dX9_weaveBy_74 0 rfl rfl ?_
      refine v_iconst (v := 1) hX dX9_weaveBy_75 (by decide) ?_
      obtain ⟨k5, h⟩ := h
      refine v_callVv0 hX dX9_weaveBy_76 c_RX9_85 cV_X9_findWay (ci := 10) (T := TX9) (N := 16) rfl (by exact k5) [pI _] rfl rfl (Nat.le_of_ble_eq_true rfl) (by decide) (by decide)  (m_X9_findWay h) (fun s6 h => ?_)
      refine v_aload_n hX dX9_weaveBy_79 0 rfl rfl ?_
      refine v_iconst (v := 0) hX dX9_weaveBy_80 (by decide) ?_
      obtain ⟨k8, h⟩ := h
      refine v_putI hX dX9_weaveBy_81 f_RX9_89 k8 ?_
      refine v_aload_n hX dX9_weaveBy_84 0 rfl rfl ?_
      refine v_iconst (v := 0) hX dX9_weaveBy_85 (by decide) ?_
      refine v_putI hX dX9_weaveBy_86 f_RX9_92 k8 ?_
      refine v_iconst (v := 0) hX dX9_weaveBy_89 (by decide) ?_
      refine v_istore (lv' := [(4, _), (0, _)]) hX dX9_weaveBy_90 (by decide) rfl ?_
      refine v_pick [1, 0] rfl ?_
      obtain ⟨n, h⟩ := h
      exact b_X9_weaveBy_92 hX hE n _ _ _ h
    · have h := h_E c1 h
      refine v_aload_n hX dX9_weaveBy_55 0 rfl rfl ?_
      obtain ⟨k11, h⟩ := h
      refine v_getR hX dX9_weaveBy_56 f_RX9_38 rfl k11 ?_
      refine v_iload hX dX9_weaveBy_59 1 rfl ?_
      refine v_iconst (v := 0) hX dX9_weaveBy_61 (by decide) ?_
      obtain ⟨a12, e_a12, h⟩ := h
      refine v_nn2 e_a12 ?_
      obtain ⟨k13, h⟩ := h
      obtain ⟨i14, h⟩ := h
      refine v_zast hX dX9_weaveBy_62 k13 i14 (Or.inl rfl) ?_
      refine v_iinc (c := 1) (lv' := [(4, _), (0, _)]) hX dX9_weaveBy_63 1 rfl (by decide) (by decide) rfl ?_
      refine v_goto (tgt := 47) hX dX9_weaveBy_66 (by decide) ?_
      refine v_pick [1, 0] rfl ?_
      exact hK47 _ _ _ h
set_option maxRecDepth 100000 in
set_option maxHeartbeats 4000000 in
theorem m_X9_weaveBy {Z : h_Z} {o0 : Nat} {r1 : Option Nat} {r2 : Option Nat} {r3 : Option Nat} {s : h_S} {Q : h_S → Prop} (h : w_X9_weaveBy o0 r1 r2 r3 s Q) : h_M Z yX9_weaveBy cX9_weaveBy 5 none 3 78 [pR (some o0), pR r1, pR r2, pR r3] s 0 0 (h_QV Z Q) := by
  refine h_M.of (by decide) (Nat.le_of_ble_eq_true rfl) (fun X hZ hX hE hI => ?_)
  subst hZ
  unfold w_X9_weaveBy at h
  show h_V X 5 0 [(0, pR (some o0)), (1, pR r1), (2, pR r2), (3, pR r3)] [] s 0 0
  refine v_aload_n hX dX9_weaveBy_0 0 rfl rfl ?_
  refine v_aload_n hX dX9_weaveBy_1 3 rfl rfl ?_
  refine v_aload_n hX dX9_weaveBy_2 0 rfl rfl ?_
  obtain ⟨k1, h⟩ := h
  refine v_getR hX dX9_weaveBy_3 f_RX9_23 rfl k1 ?_
  refine v_callSi0 hX dX9_weaveBy_6 c_RX9_77 cS_X9_withoutGaps [pR _, pR _] rfl rfl (Nat.le_of_ble_eq_true rfl) (by decide) (by decide)  (m_X9_withoutGaps h) (fun p3 s2 h => ?_)
  obtain ⟨k4, h⟩ := h
  refine v_putI hX dX9_weaveBy_9 f_RX9_81 k4 ?_
  refine v_aload_n hX dX9_weaveBy_12 0 rfl rfl ?_
  refine v_getR hX dX9_weaveBy_13 f_RX9_29 rfl k4 ?_
  refine v_iconst (v := 0) hX dX9_weaveBy_16 (by decide) ?_
  refine v_aload_n hX dX9_weaveBy_17 1 rfl rfl ?_
  refine v_aload_n hX dX9_weaveBy_18 0 rfl rfl ?_
  refine v_getR hX dX9_weaveBy_19 f_RX9_26 rfl k4 ?_
  refine v_iconst (v := 0) hX dX9_weaveBy_22 (by decide) ?_
  obtain ⟨a6, e_a6, h⟩ := h
  refine v_nn1 e_a6 ?_
  obtain ⟨k7, h⟩ := h
  obtain ⟨i8, h⟩ := h
  refine v_aald (k := 8) hX dX9_weaveBy_23 rfl rfl (by decide) (by decide) k7 i8 ?_
  refine v_callSi0 hX dX9_weaveBy_24 c_RX9_77 cS_X9_withoutGaps [pR _, pR _] rfl rfl (Nat.le_of_ble_eq_true rfl) (by decide) (by decide)  (m_X9_withoutGaps h) (fun p10 s9 h => ?_)
  obtain ⟨a11, e_a11, h⟩ := h
  refine v_nn2 e_a11 ?_
  obtain ⟨k12, h⟩ := h
  obtain ⟨i13, h⟩ := h
  refine v_iast hX dX9_weaveBy_27 k12 i13 ?_
  refine v_aload_n hX dX9_weaveBy_28 0 rfl rfl ?_
  obtain ⟨k15, h⟩ := h
  refine v_getR hX dX9_weaveBy_29 f_RX9_29 rfl k15 ?_
  refine v_iconst (v := 1) hX dX9_weaveBy_32 (by decide) ?_
  refine v_aload_n hX dX9_weaveBy_33 2 rfl rfl ?_
  refine v_aload_n hX dX9_weaveBy_34 0 rfl rfl ?_
  refine v_getR hX dX9_weaveBy_35 f_RX9_26 rfl k15 ?_
  refine v_iconst (v := 1) hX dX9_weaveBy_38 (by decide) ?_
  obtain ⟨a16, e_a16, h⟩ := h
  refine v_nn1 e_a16 ?_
  obtain ⟨k17, h⟩ := h
  obtain ⟨i18, h⟩ := h
  refine v_aald (k := 8) hX dX9_weaveBy_39 rfl rfl (by decide) (by decide) k17 i18 ?_
  refine v_callSi0 hX dX9_weaveBy_40 c_RX9_77 cS_X9_withoutGaps [pR _, pR _] rfl rfl (Nat.le_of_ble_eq_true rfl) (by decide) (by decide)  (m_X9_withoutGaps h) (fun p20 s19 h => ?_)
  obtain ⟨a21, e_a21, h⟩ := h
  refine v_nn2 e_a21 ?_
  obtain ⟨k22, h⟩ := h
  obtain ⟨i23, h⟩ := h
  refine v_iast hX dX9_weaveBy_43 k22 i23 ?_
  refine v_iconst (v := 0) hX dX9_weaveBy_44 (by decide) ?_
  refine v_istore (lv' := [(4, _), (0, _), (1, _), (2, _), (3, _)]) hX dX9_weaveBy_45 (by decide) rfl ?_
  refine v_pick [1, 0] rfl ?_
  obtain ⟨n, h⟩ := h
  exact b_X9_weaveBy_47 hX hE n _ _ _ h
set_option maxRecDepth 100000 in
set_option maxHeartbeats 4000000 in
theorem m_J7_checkLength_df160 {Z : h_Z} {x0 : Int32} {x1 : Int32} {s : h_S} {mc ms : Nat} {Q : h_S → Prop} (h : w_J7_checkLength_df160 x0 x1 s mc ms Q) : h_M Z yJ7_checkLength_df160 cJ7_checkLength_df160 2 none 0 0 [pI x0, pI x1] s mc ms (h_QV Z Q) := by
  refine h_M.of (by decide) (Nat.le_of_ble_eq_true rfl) (fun X hZ hX hE hI => ?_)
  subst hZ
  unfold w_J7_checkLength_df160 at h
  show h_V X 2 0 [(0, pI x0), (1, pI x1)] [] s mc ms
  refine v_iload_n hX dJ7_checkLength_df160_0 1 rfl rfl ?_
  refine v_iload_n hX dJ7_checkLength_df160_1 0 rfl rfl ?_
  refine v_icmp_ge (tgt := 37) hX dJ7_checkLength_df160_2 (by decide) (fun c1 => ?_) (fun c1 => ?_)
  · have h := h_T c1 h
    exact v_vret hX hE dJ7_checkLength_df160_37 h
  · have h := h_E c1 h
    exact h.elim
set_option maxRecDepth 100000 in
set_option maxHeartbeats 4000000 in
theorem m_J7_copyOfRangeInt_feecc {Z : h_Z} {r0 : Option Nat} {x1 : Int32} {x2 : Int32} {s : h_S} {mc ms : Nat} {Q : Option Nat → h_S → Prop} (h : w_J7_copyOfRangeInt_feecc r0 x1 x2 s mc ms Q) : h_M Z yJ7_copyOfRangeInt_feecc cJ7_copyOfRangeInt_feecc 5 (some (.array .int)) 1 60 [pR r0, pI x1, pI x2] s mc ms (h_QR Z Q) := by
  refine h_M.of (by decide) (Nat.le_of_ble_eq_true rfl) (fun X hZ hX hE hI => ?_)
  subst hZ
  unfold w_J7_copyOfRangeInt_feecc at h
  show h_V X 5 0 [(0, pR r0), (1, pI x1), (2, pI x2)] [] s mc ms
  refine v_iload_n hX dJ7_copyOfRangeInt_feecc_0 1 rfl rfl ?_
  refine v_iload_n hX dJ7_copyOfRangeInt_feecc_1 2 rfl rfl ?_
  obtain ⟨mc3, ms4, b5, b6, h⟩ := h
  refine v_callSv hX dJ7_copyOfRangeInt_feecc_2 c_RJ7_343 cS_J7_checkLength_df160 [pI _, pI _] rfl rfl (Nat.le_of_ble_eq_true rfl) (by decide) (by decide) b5 b6 (m_J7_checkLength_df160 h) (fun s1 h => ?_)
  refine v_iload_n hX dJ7_copyOfRangeInt_feecc_5 2 rfl rfl ?_
  refine v_iload_n hX dJ7_copyOfRangeInt_feecc_6 1 rfl rfl ?_
  refine v_isub hX dJ7_copyOfRangeInt_feecc_7 ?_
  refine v_istore_n (lv' := [(3, _), (0, _), (1, _), (2, _)]) hX dJ7_copyOfRangeInt_feecc_8 rfl (by decide) rfl ?_
  refine v_iload_n hX dJ7_copyOfRangeInt_feecc_9 0 rfl rfl ?_
  obtain ⟨n11, n12, b9, b10, h⟩ := h
  refine v_newI hX dJ7_copyOfRangeInt_feecc_10 ac_int rfl n11 n12 b9 b10 (fun q7 k8 => ?_)
  have h := h q7 k8
  refine v_astore (lv' := [(4, _), (3, _), (0, _), (1, _), (2, _)]) hX dJ7_copyOfRangeInt_feecc_12 (by decide) rfl ?_
  refine v_aload_n hX dJ7_copyOfRangeInt_feecc_14 2 rfl rfl ?_
  refine v_iload_n hX dJ7_copyOfRangeInt_feecc_15 3 rfl rfl ?_
  refine v_aload hX dJ7_copyOfRangeInt_feecc_16 0 rfl ?_
  refine v_iconst (v := 0) hX dJ7_copyOfRangeInt_feecc_18 (by decide) ?_
  refine v_aload_n hX dJ7_copyOfRangeInt_feecc_19 2 rfl rfl ?_
  obtain ⟨a16, e_a16, h⟩ := h
  refine v_nn0 e_a16 ?_
  obtain ⟨k17, h⟩ := h
  refine v_alenK hX dJ7_copyOfRangeInt_feecc_20 (k := 1) rfl (by decide) (by decide) k17 ?_
  refine v_iload_n hX dJ7_copyOfRangeInt_feecc_21 3 rfl rfl ?_
  refine v_isub hX dJ7_copyOfRangeInt_feecc_22 ?_
  refine v_iload_n hX dJ7_copyOfRangeInt_feecc_23 1 rfl rfl ?_
  refine v_min hX dJ7_copyOfRangeInt_feecc_24 mm_min_RJ7_304 (by decide) (Nat.le_of_ble_eq_true rfl) ?_
  obtain ⟨k18, h⟩ := h
  obtain ⟨a19, e_a19, h⟩ := h
  refine v_nn4 e_a19 ?_
  obtain ⟨k20, h⟩ := h
  obtain ⟨i21, i22, i23, i24, i25, h⟩ := h
  refine v_copy hX dJ7_copyOfRangeInt_feecc_27 sy_RJ7_150 sy_nat sy_stat sy_ini (by decide) (Nat.le_of_ble_eq_true rfl) k20 k18 i21 i22 i23 i24 i25 ?_
  refine v_aload hX dJ7_copyOfRangeInt_feecc_30 0 rfl ?_
  exact v_aret hX hE (Or.inr ⟨_, rfl⟩) dJ7_copyOfRangeInt_feecc_32 h
set_option maxRecDepth 100000 in
set_option maxHeartbeats 4000000 in
theorem b_J7_copyOfRange_feecc_10 {X : h_X} (hX : h_ok X cJ7_copyOfRange_feecc 3 RJ7 2 84) {Q : Option Nat → h_S → Prop} (hE : h_end X (some (.array .int)) (h_QR (x_Z X) Q)) {r0 : Option Nat} {x1 : Int32} {x2 : Int32} (s : h_S) {bc bs : Nat} (h : w_J7_copyOfRange_feecc_10 Q r0 x1 x2 s bc bs) : h_V X 3 10 [(0, pR r0), (1, pI x1), (2, pI x2)] [] s bc bs := by
  unfold w_J7_copyOfRange_feecc_10 at h
  refine v_aload_n hX dJ7_copyOfRange_feecc_10 0 rfl rfl ?_
  refine v_iload_n hX dJ7_copyOfRange_feecc_11 1 rfl rfl ?_
  refine v_iload_n hX dJ7_copyOfRange_feecc_12 2 rfl rfl ?_
  obtain ⟨mc3, ms4, b5, b6, h⟩ := h
  refine v_callSr hX dJ7_copyOfRange_feecc_13 c_RJ7_351 cS_J7_copyOfRangeInt_feecc [pR _, pI _, pI _] rfl rfl (Nat.le_of_ble_eq_true rfl) (by decide) (by decide) b5 b6 (m_J7_copyOfRangeInt_feecc h) (fun p2 s1 h => ?_)
  exact v_aret hX hE (Or.inr ⟨_, rfl⟩) dJ7_copyOfRange_feecc_16 h
set_option maxRecDepth 100000 in
set_option maxHeartbeats 4000000 in
theorem m_J7_copyOfRange_feecc {Z : h_Z} {r0 : Option Nat} {x1 : Int32} {x2 : Int32} {s : h_S} {mc ms : Nat} {Q : Option Nat → h_S → Prop} (h : w_J7_copyOfRange_feecc r0 x1 x2 s mc ms Q) : h_M Z yJ7_copyOfRange_feecc cJ7_copyOfRange_feecc 3 (some (.array .int)) 2 84 [pR r0, pI x1, pI x2] s mc ms (h_QR Z Q) := by
  refine h_M.of (by decide) (Nat.le_of_ble_eq_true rfl) (fun X hZ hX hE hI => ?_)
  subst hZ
  unfold w_J7_copyOfRange_feecc at h
  show h_V X 3 0 [(0, pR r0), (1, pI x1), (2, pI x2)] [] s mc ms
  refine v_iload_n hX dJ7_copyOfRange_feecc_0 1 rfl rfl ?_
  refine v_if_ne (tgt := 10) hX dJ7_copyOfRange_feecc_1 (by decide) (fun c1 => ?_) (fun c1 => ?_)
  · have h := h_E c1 h
    refine v_pick [0, 1, 2] rfl ?_
    exact b_J7_copyOfRange_feecc_10 hX hE _ h
  · have h := h_T c1 h
    refine v_iload_n hX dJ7_copyOfRange_feecc_4 2 rfl rfl ?_
    refine v_aload_n hX dJ7_copyOfRange_feecc_5 0 rfl rfl ?_
    obtain ⟨a2, e_a2, h⟩ := h
    refine v_nn0 e_a2 ?_
    obtain ⟨k3, h⟩ := h
    refine v_alenK hX dJ7_copyOfRange_feecc_6 (k := 1) rfl (by decide) (by decide) k3 ?_
    refine v_icmp_eq (tgt := 17) hX dJ7_copyOfRange_feecc_7 (by decide) (fun c4 => ?_) (fun c4 => ?_)
    · have h := h_T c4 h
      refine v_aload_n hX dJ7_copyOfRange_feecc_17 0 rfl rfl ?_
      obtain ⟨a5, e_a5, h⟩ := h
      refine v_nn0 e_a5 ?_
      obtain ⟨k6, h⟩ := h
      obtain ⟨b9, b10, h⟩ := h
      refine v_clone hX dJ7_copyOfRange_feecc_18 (by decide) (Nat.le_of_ble_eq_true rfl) k6 b9 b10 (fun q7 k8 => ?_)
      have h := h q7 k8
      obtain ⟨k14, h⟩ := h
      refine v_castI hX dJ7_copyOfRange_feecc_21 kl_RJ7_317 k14 ?_
      exact v_aret hX hE (Or.inr ⟨_, rfl⟩) dJ7_copyOfRange_feecc_24 h
    · have h := h_E c4 h
      refine v_pick [0, 1, 2] rfl ?_
      exact b_J7_copyOfRange_feecc_10 hX hE _ h
set_option maxRecDepth 100000 in
set_option maxHeartbeats 4000000 in
theorem m_X9_clashAt {Z : h_Z} {o0 : Nat} {x1 : Int32} {x2 : Int32} {s : h_S} {mc ms : Nat} {Q : Option Nat → h_S → Prop} (h : w_X9_clashAt o0 x1 x2 s mc ms Q) : h_M Z yX9_clashAt cX9_clashAt 4 (some (.object "SeenWords$Clash")) 3 106 [pR (some o0), pI x1, pI x2] s mc ms (h_QR Z Q) := by
  refine h_M.of (by decide) (Nat.le_of_ble_eq_true rfl) (fun X hZ hX hE hI => ?_)
  subst hZ
  unfold w_X9_clashAt at h
  show h_V X 4 0 [(0, pR (some o0)), (1, pI x1), (2, pI x2)] [] s mc ms
  refine v_iload_n hX dX9_clashAt_0 1 rfl rfl ?_
  refine v_bipush (v := 12) hX dX9_clashAt_1 (by decide) ?_
  refine v_callSi0 hX dX9_clashAt_3 c_RX9_74 cS_X11_within [pI _, pI _] rfl rfl (Nat.le_of_ble_eq_true rfl) (by decide) (by decide)  (m_X11_within h) (fun p2 s1 h => ?_)
  refine v_if_ne (tgt := 22) hX dX9_clashAt_6 (by decide) (fun c3 => ?_) (fun c3 => ?_)
  · have h := h_E c3 h
    refine v_aload_n hX dX9_clashAt_22 0 rfl rfl ?_
    obtain ⟨k4, h⟩ := h
    refine v_getR hX dX9_clashAt_23 f_RX9_42 rfl k4 ?_
    refine v_aload_n hX dX9_clashAt_26 0 rfl rfl ?_
    refine v_getR hX dX9_clashAt_27 f_RX9_45 rfl k4 ?_
    refine v_iload_n hX dX9_clashAt_30 1 rfl rfl ?_
    obtain ⟨a5, e_a5, h⟩ := h
    refine v_nn1 e_a5 ?_
    obtain ⟨k6, h⟩ := h
    obtain ⟨i7, h⟩ := h
    refine v_iald hX dX9_clashAt_31 k6 i7 ?_
    refine v_aload_n hX dX9_clashAt_32 0 rfl rfl ?_
    refine v_getR hX dX9_clashAt_33 f_RX9_51 rfl k4 ?_
    refine v_iload_n hX dX9_clashAt_36 1 rfl rfl ?_
    obtain ⟨a8, e_a8, h⟩ := h
    refine v_nn1 e_a8 ?_
    obtain ⟨k9, h⟩ := h
    obtain ⟨i10, h⟩ := h
    refine v_iald hX dX9_clashAt_37 k9 i10 ?_
    obtain ⟨mc13, ms14, b15, b16, h⟩ := h
    refine v_callSr hX dX9_clashAt_38 c_RX9_123 cS_J7_copyOfRange_feecc [pR _, pI _, pI _] rfl rfl (Nat.le_of_ble_eq_true rfl) (by decide) (by decide) b15 b16 (m_J7_copyOfRange_feecc h) (fun p12 s11 h => ?_)
    refine v_astore_n (lv' := [(3, _), (0, _), (1, _), (2, _)]) hX dX9_clashAt_41 rfl (by decide) rfl ?_
    obtain ⟨b19, b20, h⟩ := h
    refine v_new hX dX9_clashAt_42 n_RX9_118 b19 b20 (fun q17 k18 => ?_)
    have h := h q17 k18
    refine v_dup hX dX9_clashAt_45 rfl ?_
    refine v_iload_n hX dX9_clashAt_46 3 rfl rfl ?_
    refine v_aload_n hX dX9_clashAt_47 0 rfl rfl ?_
    refine v_aload_n hX dX9_clashAt_48 1 rfl rfl ?_
    obtain ⟨k24, h⟩ := h
    refine v_getR hX dX9_clashAt_49 f_RX9_48 rfl k24 ?_
    refine v_iload_n hX dX9_clashAt_52 2 rfl rfl ?_
    obtain ⟨a25, e_a25, h⟩ := h
    refine v_nn1 e_a25 ?_
    obtain ⟨k26, h⟩ := h
    obtain ⟨i27, h⟩ := h
    refine v_iald hX dX9_clashAt_53 k26 i27 ?_
    refine v_aload_n hX dX9_clashAt_54 1 rfl rfl ?_
    refine v_getR hX dX9_clashAt_55 f_RX9_45 rfl k24 ?_
    refine v_iload_n hX dX9_clashAt_58 2 rfl rfl ?_
    obtain ⟨a28, e_a28, h⟩ := h
    refine v_nn1 e_a28 ?_
    obtain ⟨k29, h⟩ := h
    obtain ⟨i30, h⟩ := h
    refine v_iald hX dX9_clashAt_59 k29 i30 ?_
    refine v_isub hX dX9_clashAt_60 ?_
    refine v_callIv0 hX dX9_clashAt_61 c_RX9_120 cI_X0_init [pI _, pR _, pI _] rfl rfl (Nat.le_of_ble_eq_true rfl) (by decide) (by decide)  (m_X0_init h) (fun s31 h => ?_)
    exact v_aret hX hE (Or.inl ⟨_, rfl⟩) dX9_clashAt_64 h
  · have h := h_T c3 h
    obtain ⟨b35, b36, h⟩ := h
    refine v_new hX dX9_clashAt_9 n_RX9_118 b35 b36 (fun q33 k34 => ?_)
    have h := h q33 k34
    refine v_dup hX dX9_clashAt_12 rfl ?_
    refine v_iload_n hX dX9_clashAt_13 2 rfl rfl ?_
    refine v_iconst (v := 0) hX dX9_clashAt_14 (by decide) ?_
    obtain ⟨b42, b43, h⟩ := h
    refine v_newI (N := 0) hX dX9_clashAt_15 ac_int (by decide) (by decide) (by decide) b42 b43 (fun q40 k41 => ?_)
    have h := h q40 k41
    refine v_iconst (v := 0) hX dX9_clashAt_17 (by decide) ?_
    refine v_callIv0 hX dX9_clashAt_18 c_RX9_120 cI_X0_init [pI _, pR _, pI _] rfl rfl (Nat.le_of_ble_eq_true rfl) (by decide) (by decide)  (m_X0_init h) (fun s47 h => ?_)
    exact v_aret hX hE (Or.inl ⟨_, rfl⟩) dX9_clashAt_21 h
set_option maxRecDepth 100000 in
set_option maxHeartbeats 4000000 in
theorem b_X9_runs_45 {X : h_X} (hX : h_ok X cX9_runs 3 RX9 0 0) {Q : Int32 → h_S → Prop} (hE : h_end X (some .int) (h_QI (x_Z X) Q)) {K15 : Nat → Int32 → Int32 → h_S → Prop} (hK15 : ∀ (o0 : Nat) (x1 : Int32) (x2 : Int32) (s : h_S), K15 o0 x1 x2 s → h_V X 3 15 [(0, pR (some o0)), (1, pI x1), (2, pI x2)] [] s 0 0) {o0 : Nat} {x1 : Int32} {x2 : Int32} (s : h_S) (h : w_X9_runs_45 Q K15 o0 x1 x2 s) : h_V X 3 45 [(0, pR (some o0)), (1, pI x1), (2, pI x2)] [] s 0 0 := by
  unfold w_X9_runs_45 at h
  refine v_iinc (c := 1) (lv' := [(2, _), (0, _), (1, _)]) hX dX9_runs_45 2 rfl (by decide) (by decide) rfl ?_
  refine v_goto (tgt := 15) hX dX9_runs_48 (by decide) ?_
  refine v_pick [1, 2, 0] rfl ?_
  exact hK15 _ _ _ _ h
set_option maxRecDepth 100000 in
set_option maxHeartbeats 4000000 in
theorem b_X9_runs_15 {X : h_X} (hX : h_ok X cX9_runs 3 RX9 0 0) {Q : Int32 → h_S → Prop} (hE : h_end X (some .int) (h_QI (x_Z X) Q)) : ∀ (n : Nat) (o0 : Nat) (x1 : Int32) (x2 : Int32) (s : h_S), w_X9_runs_15 Q n o0 x1 x2 s → h_V X 3 15 [(0, pR (some o0)), (1, pI x1), (2, pI x2)] [] s 0 0 := by
  intro n
  induction n with
  | zero => intro _ _ _ s h; exact h.elim
  | succ n hK15 =>
    intro o0 x1 x2 s h
    have h : w_X9_runs_15b Q (w_X9_runs_15 Q n) o0 x1 x2 s := h
    unfold w_X9_runs_15b at h
    refine v_iload_n hX dX9_runs_15 2 rfl rfl ?_
    refine v_aload_n hX dX9_runs_16 0 rfl rfl ?_
    obtain ⟨k1, h⟩ := h
    refine v_getI hX dX9_runs_17 f_RX9_89 rfl k1 ?_
    refine v_icmp_ge (tgt := 51) hX dX9_runs_20 (by decide) (fun c2 => ?_) (fun c2 => ?_)
    · have h := h_T c2 h
      refine v_iload_n hX dX9_runs_51 1 rfl rfl ?_
      exact v_iret hX hE dX9_runs_52 h
    · have h := h_E c2 h
      refine v_aload_n hX dX9_runs_23 0 rfl rfl ?_
      refine v_getR hX dX9_runs_24 f_RX9_42 rfl k1 ?_
      refine v_iload_n hX dX9_runs_27 2 rfl rfl ?_
      obtain ⟨a3, e_a3, h⟩ := h
      refine v_nn1 e_a3 ?_
      obtain ⟨k4, h⟩ := h
      obtain ⟨i5, h⟩ := h
      refine v_iald hX dX9_runs_28 k4 i5 ?_
      refine v_aload_n hX dX9_runs_29 0 rfl rfl ?_
      refine v_getR hX dX9_runs_30 f_RX9_42 rfl k1 ?_
      refine v_iload_n hX dX9_runs_33 2 rfl rfl ?_
      refine v_iconst (v := 1) hX dX9_runs_34 (by decide) ?_
      refine v_isub hX dX9_runs_35 ?_
      obtain ⟨a6, e_a6, h⟩ := h
      refine v_nn1 e_a6 ?_
      obtain ⟨k7, h⟩ := h
      obtain ⟨i8, h⟩ := h
      refine v_iald hX dX9_runs_36 k7 i8 ?_
      refine v_iconst (v := 1) hX dX9_runs_37 (by decide) ?_
      refine v_iadd hX dX9_runs_38 ?_
      refine v_icmp_eq (tgt := 45) hX dX9_runs_39 (by decide) (fun c9 => ?_) (fun c9 => ?_)
      · have h := h_T c9 h
        refine v_pick [0, 1, 2] rfl ?_
        exact b_X9_runs_45 hX hE hK15 _ h
      · have h := h_E c9 h
        refine v_iinc (c := 1) (lv' := [(1, _), (0, _), (2, _)]) hX dX9_runs_42 1 rfl (by decide) (by decide) rfl ?_
        refine v_pick [1, 0, 2] rfl ?_
        exact b_X9_runs_45 hX hE hK15 _ h
set_option maxRecDepth 100000 in
set_option maxHeartbeats 4000000 in
theorem b_X9_runs_12 {X : h_X} (hX : h_ok X cX9_runs 3 RX9 0 0) {Q : Int32 → h_S → Prop} (hE : h_end X (some .int) (h_QI (x_Z X) Q)) {o0 : Nat} {y0 : Int32} (s : h_S) (h : w_X9_runs_12 Q o0 y0 s) : h_V X 3 12 [(0, pR (some o0))] [pI y0] s 0 0 := by
  unfold w_X9_runs_12 at h
  refine v_istore_n (lv' := [(1, _), (0, _)]) hX dX9_runs_12 rfl (by decide) rfl ?_
  refine v_iconst (v := 1) hX dX9_runs_13 (by decide) ?_
  refine v_istore_n (lv' := [(2, _), (1, _), (0, _)]) hX dX9_runs_14 rfl (by decide) rfl ?_
  refine v_pick [2, 1, 0] rfl ?_
  obtain ⟨n, h⟩ := h
  exact b_X9_runs_15 hX hE n _ _ _ _ h
set_option maxRecDepth 100000 in
set_option maxHeartbeats 4000000 in
theorem m_X9_runs {Z : h_Z} {o0 : Nat} {s : h_S} {Q : Int32 → h_S → Prop} (h : w_X9_runs o0 s Q) : h_M Z yX9_runs cX9_runs 3 (some .int) 0 0 [pR (some o0)] s 0 0 (h_QI Z Q) := by
  refine h_M.of (by decide) (Nat.le_of_ble_eq_true rfl) (fun X hZ hX hE hI => ?_)
  subst hZ
  unfold w_X9_runs at h
  show h_V X 3 0 [(0, pR (some o0))] [] s 0 0
  refine v_aload_n hX dX9_runs_0 0 rfl rfl ?_
  obtain ⟨k1, h⟩ := h
  refine v_getI hX dX9_runs_1 f_RX9_89 rfl k1 ?_
  refine v_if_le (tgt := 11) hX dX9_runs_4 (by decide) (fun c2 => ?_) (fun c2 => ?_)
  · have h := h_T c2 h
    refine v_iconst (v := 0) hX dX9_runs_11 (by decide) ?_
    refine v_pick [0] rfl ?_
    exact b_X9_runs_12 hX hE _ h
  · have h := h_E c2 h
    refine v_iconst (v := 1) hX dX9_runs_7 (by decide) ?_
    refine v_goto (tgt := 12) hX dX9_runs_8 (by decide) ?_
    refine v_pick [0] rfl ?_
    exact b_X9_runs_12 hX hE _ h
set_option maxRecDepth 100000 in
set_option maxHeartbeats 4000000 in
theorem b_X11_init_140 {X : h_X} (hX : h_ok X cX11_init 2 RX11 5 100) {Q : h_S → Prop} (hE : h_end X none (h_QV (x_Z X) Q)) (hN : (x_me X).name = "<init>") : ∀ (n : Nat) (o0 : Nat) (x1 : Int32) (s : h_S) (bc bs : Nat), w_X11_init_140 (x_G X) Q n o0 x1 s bc bs → h_V X 2 140 [(0, pR (some o0)), (1, pI x1)] [] s bc bs := by
  intro n
  induction n with
  | zero => intro _ _ s bc bs h; exact h.elim
  | succ n hK140 =>
    intro o0 x1 s bc bs h
    have h : w_X11_init_140b (x_G X) Q (w_X11_init_140 (x_G X) Q n) o0 x1 s bc bs := h
    unfold w_X11_init_140b at h
    refine v_iload_n hX dX11_init_140 1 rfl rfl ?_
    refine v_iconst (v := 4) hX dX11_init_141 (by decide) ?_
    refine v_icmp_ge (tgt := 164) hX dX11_init_142 (by decide) (fun c1 => ?_) (fun c1 => ?_)
    · have h := h_T c1 h
      exact v_vret hX hE dX11_init_164 h
    · have h := h_E c1 h
      refine v_aload_n hX dX11_init_145 0 rfl rfl ?_
      obtain ⟨k2, h⟩ := h
      refine v_getR hX dX11_init_146 f_RX11_43 rfl k2 ?_
      refine v_iload_n hX dX11_init_149 1 rfl rfl ?_
      obtain ⟨b5, b6, h⟩ := h
      refine v_new hX dX11_init_150 n_RX11_41 b5 b6 (fun q3 k4 => ?_)
      have h := h q3 k4
      refine v_dup hX dX11_init_153 rfl ?_
      obtain ⟨mc12, ms13, b14, b15, h⟩ := h
      refine v_callIv hX dX11_init_154 c_RX11_70 cI_X5_init [] rfl rfl (Nat.le_of_ble_eq_true rfl) (by decide) (by decide) b14 b15 (m_X5_init h) (fun s10 h => ?_)
      obtain ⟨a16, e_a16, h⟩ := h
      refine v_nn2 e_a16 ?_
      obtain ⟨k17, h⟩ := h
      obtain ⟨i18, h⟩ := h
      obtain ⟨k19, h⟩ := h
      refine v_aast (k := 5) (ci := 6) hX dX11_init_157 rfl rfl (by decide) (by decide) k17 i18 k19 ?_
      refine v_iinc (c := 1) (lv' := [(1, _), (0, _)]) hX dX11_init_158 1 rfl (by decide) (by decide) rfl ?_
      refine v_goto (tgt := 140) hX dX11_init_161 (by decide) ?_
      refine v_pick [1, 0] rfl ?_
      exact hK140 _ _ _ _ _ h
set_option maxRecDepth 100000 in
set_option maxHeartbeats 4000000 in
theorem m_X11_init {Z : h_Z} {o0 : Nat} {s : h_S} {mc ms : Nat} {Q : h_S → Prop} (h : w_X11_init Z.2.2.2.2 o0 s mc ms Q) : h_M Z yX11_init cX11_init 2 none 5 100 [pR (some o0)] s mc ms (h_QV Z Q) := by
  refine h_M.of (by decide) (Nat.le_of_ble_eq_true rfl) (fun X hZ hX hE hI => ?_)
  subst hZ
  have hN : (x_me X).name = "<init>" := hI.symm
  unfold w_X11_init at h
  show h_V X 2 0 [(0, pR (some o0))] [] s mc ms
  refine v_aload_n hX dX11_init_0 0 rfl rfl ?_
  refine v_objInit hX dX11_init_1 oi_RX11_3 (Nat.le_of_ble_eq_true rfl) (by decide) ?_
  refine v_aload_n hX dX11_init_4 0 rfl rfl ?_
  refine v_sipush (v := 600) hX dX11_init_5 (by decide) ?_
  obtain ⟨b3, b4, h⟩ := h
  refine v_newI (N := 600) hX dX11_init_8 ac_int (by decide) (by decide) (by decide) b3 b4 (fun q1 k2 => ?_)
  have h := h q1 k2
  obtain ⟨k8, h⟩ := h
  refine v_putFR hX dX11_init_10 f_RX11_11 g_RX11_11 rfl (Or.inr ⟨_, rfl⟩) hN k8 ?_
  refine v_aload_n hX dX11_init_13 0 rfl rfl ?_
  refine v_sipush (v := 600) hX dX11_init_14 (by decide) ?_
  obtain ⟨b12, b13, h⟩ := h
  refine v_newI (N := 600) hX dX11_init_17 ac_int (by decide) (by decide) (by decide) b12 b13 (fun q10 k11 => ?_)
  have h := h q10 k11
  obtain ⟨k17, h⟩ := h
  refine v_putFR hX dX11_init_19 f_RX11_15 g_RX11_15 rfl (Or.inr ⟨_, rfl⟩) hN k17 ?_
  refine v_aload_n hX dX11_init_22 0 rfl rfl ?_
  obtain ⟨b21, b22, h⟩ := h
  refine v_new hX dX11_init_23 n_RX11_18 b21 b22 (fun q19 k20 => ?_)
  have h := h q19 k20
  refine v_dup hX dX11_init_26 rfl ?_
  obtain ⟨mc28, ms29, b30, b31, h⟩ := h
  refine v_callIv hX dX11_init_27 c_RX11_20 cI_X7_init [] rfl rfl (Nat.le_of_ble_eq_true rfl) (by decide) (by decide) b30 b31 (m_X7_init h) (fun s26 h => ?_)
  obtain ⟨k32, h⟩ := h
  refine v_putFR hX dX11_init_30 f_RX11_21 g_RX11_21 rfl (Or.inl ⟨_, rfl⟩) hN k32 ?_
  refine v_aload_n hX dX11_init_33 0 rfl rfl ?_
  obtain ⟨b36, b37, h⟩ := h
  refine v_new hX dX11_init_34 n_RX11_25 b36 b37 (fun q34 k35 => ?_)
  have h := h q34 k35
  refine v_dup hX dX11_init_37 rfl ?_
  refine v_callIv0 hX dX11_init_38 c_RX11_27 cI_Jx4a65c_init_da8c8 [] rfl rfl (Nat.le_of_ble_eq_true rfl) (by decide) (by decide)  (m_Jx4a65c_init_da8c8 h) (fun s41 h => ?_)
  obtain ⟨k43, h⟩ := h
  refine v_putFR hX dX11_init_41 f_RX11_28 g_RX11_28 rfl (Or.inl ⟨_, rfl⟩) hN k43 ?_
  refine v_aload_n hX dX11_init_44 0 rfl rfl ?_
  obtain ⟨b47, b48, h⟩ := h
  refine v_new hX dX11_init_45 n_RX11_25 b47 b48 (fun q45 k46 => ?_)
  have h := h q45 k46
  refine v_dup hX dX11_init_48 rfl ?_
  refine v_callIv0 hX dX11_init_49 c_RX11_27 cI_Jx4a65c_init_da8c8 [] rfl rfl (Nat.le_of_ble_eq_true rfl) (by decide) (by decide)  (m_Jx4a65c_init_da8c8 h) (fun s52 h => ?_)
  obtain ⟨k54, h⟩ := h
  refine v_putFR hX dX11_init_52 f_RX11_32 g_RX11_32 rfl (Or.inl ⟨_, rfl⟩) hN k54 ?_
  refine v_aload_n hX dX11_init_55 0 rfl rfl ?_
  obtain ⟨b58, b59, h⟩ := h
  refine v_new hX dX11_init_56 n_RX11_25 b58 b59 (fun q56 k57 => ?_)
  have h := h q56 k57
  refine v_dup hX dX11_init_59 rfl ?_
  refine v_callIv0 hX dX11_init_60 c_RX11_27 cI_Jx4a65c_init_da8c8 [] rfl rfl (Nat.le_of_ble_eq_true rfl) (by decide) (by decide)  (m_Jx4a65c_init_da8c8 h) (fun s63 h => ?_)
  obtain ⟨k65, h⟩ := h
  refine v_putFR hX dX11_init_63 f_RX11_35 g_RX11_35 rfl (Or.inl ⟨_, rfl⟩) hN k65 ?_
  refine v_aload_n hX dX11_init_66 0 rfl rfl ?_
  obtain ⟨b69, b70, h⟩ := h
  refine v_new hX dX11_init_67 n_RX11_25 b69 b70 (fun q67 k68 => ?_)
  have h := h q67 k68
  refine v_dup hX dX11_init_70 rfl ?_
  refine v_callIv0 hX dX11_init_71 c_RX11_27 cI_Jx4a65c_init_da8c8 [] rfl rfl (Nat.le_of_ble_eq_true rfl) (by decide) (by decide)  (m_Jx4a65c_init_da8c8 h) (fun s74 h => ?_)
  obtain ⟨k76, h⟩ := h
  refine v_putFR hX dX11_init_74 f_RX11_38 g_RX11_38 rfl (Or.inl ⟨_, rfl⟩) hN k76 ?_
  refine v_aload_n hX dX11_init_77 0 rfl rfl ?_
  refine v_iconst (v := 4) hX dX11_init_78 (by decide) ?_
  obtain ⟨b80, b81, h⟩ := h
  refine v_anew (k := 5) (N := 4) hX dX11_init_79 kl_RX11_41 ao_5 rfl (by decide) (by decide) (by decide) (by decide) (by decide) b80 b81 (fun q78 k79 => ?_)
  have h := h q78 k79
  obtain ⟨k85, h⟩ := h
  refine v_putFR hX dX11_init_82 f_RX11_43 g_RX11_43 rfl (Or.inr ⟨_, rfl⟩) hN k85 ?_
  refine v_aload_n hX dX11_init_85 0 rfl rfl ?_
  obtain ⟨b89, b90, h⟩ := h
  refine v_new hX dX11_init_86 n_RX11_47 b89 b90 (fun q87 k88 => ?_)
  have h := h q87 k88
  refine v_dup hX dX11_init_89 rfl ?_
  obtain ⟨mc96, ms97, b98, b99, h⟩ := h
  refine v_callIv hX dX11_init_90 c_RX11_49 cI_X9_init [] rfl rfl (Nat.le_of_ble_eq_true rfl) (by decide) (by decide) b98 b99 (m_X9_init h) (fun s94 h => ?_)
  obtain ⟨k100, h⟩ := h
  refine v_putFR hX dX11_init_93 f_RX11_50 g_RX11_50 rfl (Or.inl ⟨_, rfl⟩) hN k100 ?_
  refine v_aload_n hX dX11_init_96 0 rfl rfl ?_
  refine v_bipush (v := 64) hX dX11_init_97 (by decide) ?_
  obtain ⟨b104, b105, h⟩ := h
  refine v_newI (N := 64) hX dX11_init_99 ac_int (by decide) (by decide) (by decide) b104 b105 (fun q102 k103 => ?_)
  have h := h q102 k103
  obtain ⟨k109, h⟩ := h
  refine v_putFR hX dX11_init_101 f_RX11_54 g_RX11_54 rfl (Or.inr ⟨_, rfl⟩) hN k109 ?_
  refine v_aload_n hX dX11_init_104 0 rfl rfl ?_
  refine v_sipush (v := 1003) hX dX11_init_105 (by decide) ?_
  refine v_putI hX dX11_init_108 f_RX11_57 k109 ?_
  refine v_aload_n hX dX11_init_111 0 rfl rfl ?_
  refine v_sipush (v := 4800) hX dX11_init_112 (by decide) ?_
  obtain ⟨b114, b115, h⟩ := h
  refine v_newI (N := 4800) hX dX11_init_115 ac_int (by decide) (by decide) (by decide) b114 b115 (fun q112 k113 => ?_)
  have h := h q112 k113
  obtain ⟨k119, h⟩ := h
  refine v_putFR hX dX11_init_117 f_RX11_61 g_RX11_61 rfl (Or.inr ⟨_, rfl⟩) hN k119 ?_
  refine v_aload_n hX dX11_init_120 0 rfl rfl ?_
  refine v_sipush (v := 200) hX dX11_init_121 (by decide) ?_
  obtain ⟨b123, b124, h⟩ := h
  refine v_newI (N := 200) hX dX11_init_124 ac_int (by decide) (by decide) (by decide) b123 b124 (fun q121 k122 => ?_)
  have h := h q121 k122
  obtain ⟨k128, h⟩ := h
  refine v_putFR hX dX11_init_126 f_RX11_64 g_RX11_64 rfl (Or.inr ⟨_, rfl⟩) hN k128 ?_
  refine v_aload_n hX dX11_init_129 0 rfl rfl ?_
  refine v_sipush (v := 1024) hX dX11_init_130 (by decide) ?_
  obtain ⟨b132, b133, h⟩ := h
  refine v_newI (N := 1024) hX dX11_init_133 ac_int (by decide) (by decide) (by decide) b132 b133 (fun q130 k131 => ?_)
  have h := h q130 k131
  obtain ⟨k137, h⟩ := h
  refine v_putFR hX dX11_init_135 f_RX11_67 g_RX11_67 rfl (Or.inr ⟨_, rfl⟩) hN k137 ?_
  refine v_iconst (v := 0) hX dX11_init_138 (by decide) ?_
  refine v_istore_n (lv' := [(1, _), (0, _)]) hX dX11_init_139 rfl (by decide) rfl ?_
  refine v_pick [1, 0] rfl ?_
  obtain ⟨n, h⟩ := h
  exact b_X11_init_140 hX hE hN n _ _ _ _ _ h
set_option maxRecDepth 100000 in
set_option maxHeartbeats 4000000 in
theorem m_X11_mix {Z : h_Z} {x0 : Int32} {x1 : Int32} {s : h_S} {Q : Int32 → h_S → Prop} (h : w_X11_mix x0 x1 s Q) : h_M Z yX11_mix cX11_mix 3 (some .int) 0 0 [pI x0, pI x1] s 0 0 (h_QI Z Q) := by
  refine h_M.of (by decide) (Nat.le_of_ble_eq_true rfl) (fun X hZ hX hE hI => ?_)
  subst hZ
  unfold w_X11_mix at h
  show h_V X 3 0 [(0, pI x0), (1, pI x1)] [] s 0 0
  refine v_iload_n hX dX11_mix_0 0 rfl rfl ?_
  refine v_ldcw hX dX11_mix_1 k_RX11_489 ?_
  refine v_imul hX dX11_mix_4 ?_
  refine v_iload_n hX dX11_mix_5 1 rfl rfl ?_
  refine v_iadd hX dX11_mix_6 ?_
  refine v_istore_n (lv' := [(2, _), (0, _), (1, _)]) hX dX11_mix_7 rfl (by decide) rfl ?_
  refine v_iload_n hX dX11_mix_8 0 rfl rfl ?_
  refine v_iload_n hX dX11_mix_9 0 rfl rfl ?_
  refine v_bipush (v := 15) hX dX11_mix_10 (by decide) ?_
  refine v_iushr hX dX11_mix_12 ?_
  refine v_ixor hX dX11_mix_13 ?_
  refine v_ldcw hX dX11_mix_14 k_RX11_490 ?_
  refine v_imul hX dX11_mix_17 ?_
  refine v_istore_n (lv' := [(2, _), (0, _), (1, _)]) hX dX11_mix_18 rfl (by decide) rfl ?_
  refine v_iload_n hX dX11_mix_19 0 rfl rfl ?_
  refine v_iload_n hX dX11_mix_20 0 rfl rfl ?_
  refine v_bipush (v := 13) hX dX11_mix_21 (by decide) ?_
  refine v_iushr hX dX11_mix_23 ?_
  refine v_ixor hX dX11_mix_24 ?_
  exact v_iret hX hE dX11_mix_25 h
set_option maxRecDepth 100000 in
set_option maxHeartbeats 4000000 in
theorem b_X11_acted_66 {X : h_X} (hX : h_ok X cX11_acted 2 RX11 1 22) {Q : Int32 → h_S → Prop} (hE : h_end X (some .int) (h_QI (x_Z X) Q)) {x1 : Int32} (s : h_S) (h : w_X11_acted_66 Q x1 s) : h_V X 2 66 [(1, pI x1)] [] s 0 0 := by
  unfold w_X11_acted_66 at h
  refine v_iload_n hX dX11_acted_66 0 rfl rfl ?_
  exact v_iret hX hE dX11_acted_67 h
set_option maxRecDepth 100000 in
set_option maxHeartbeats 4000000 in
theorem m_X11_acted {Z : h_Z} {o0 : Nat} {x1 : Int32} {s : h_S} {Q : Int32 → h_S → Prop} (h : w_X11_acted o0 x1 s Q) : h_M Z yX11_acted cX11_acted 2 (some .int) 1 22 [pR (some o0), pI x1] s 0 0 (h_QI Z Q) := by
  refine h_M.of (by decide) (Nat.le_of_ble_eq_true rfl) (fun X hZ hX hE hI => ?_)
  subst hZ
  unfold w_X11_acted at h
  show h_V X 2 0 [(0, pR (some o0)), (1, pI x1)] [] s 0 0
  refine v_aload_n hX dX11_acted_0 0 rfl rfl ?_
  obtain ⟨k1, h⟩ := h
  refine v_getI hX dX11_acted_1 f_RX11_82 rfl k1 ?_
  refine v_iconst (v := 1) hX dX11_acted_4 (by decide) ?_
  refine v_iadd hX dX11_acted_5 ?_
  refine v_sipush (v := 600) hX dX11_acted_6 (by decide) ?_
  refine v_icmp_ge (tgt := 66) hX dX11_acted_9 (by decide) (fun c2 => ?_) (fun c2 => ?_)
  · have h := h_T c2 h
    refine v_pick [1] rfl ?_
    exact b_X11_acted_66 hX hE _ h
  · have h := h_E c2 h
    refine v_aload_n hX dX11_acted_12 0 rfl rfl ?_
    refine v_getR hX dX11_acted_13 f_RX11_11 rfl k1 ?_
    refine v_aload_n hX dX11_acted_16 0 rfl rfl ?_
    refine v_getI hX dX11_acted_17 f_RX11_82 rfl k1 ?_
    refine v_iconst (v := 1) hX dX11_acted_20 (by decide) ?_
    refine v_iadd hX dX11_acted_21 ?_
    refine v_aload_n hX dX11_acted_22 0 rfl rfl ?_
    refine v_getR hX dX11_acted_23 f_RX11_11 rfl k1 ?_
    refine v_aload_n hX dX11_acted_26 0 rfl rfl ?_
    refine v_getI hX dX11_acted_27 f_RX11_82 rfl k1 ?_
    obtain ⟨a3, e_a3, h⟩ := h
    refine v_nn1 e_a3 ?_
    obtain ⟨k4, h⟩ := h
    obtain ⟨i5, h⟩ := h
    refine v_iald hX dX11_acted_30 k4 i5 ?_
    refine v_iload_n hX dX11_acted_31 1 rfl rfl ?_
    refine v_callSi0 hX dX11_acted_32 c_RX11_486 cS_X11_mix [pI _, pI _] rfl rfl (Nat.le_of_ble_eq_true rfl) (by decide) (by decide)  (m_X11_mix h) (fun p7 s6 h => ?_)
    obtain ⟨a8, e_a8, h⟩ := h
    refine v_nn2 e_a8 ?_
    obtain ⟨k9, h⟩ := h
    obtain ⟨i10, h⟩ := h
    refine v_iast hX dX11_acted_35 k9 i10 ?_
    refine v_aload_n hX dX11_acted_36 0 rfl rfl ?_
    obtain ⟨k12, h⟩ := h
    refine v_getR hX dX11_acted_37 f_RX11_15 rfl k12 ?_
    refine v_aload_n hX dX11_acted_40 0 rfl rfl ?_
    refine v_getI hX dX11_acted_41 f_RX11_82 rfl k12 ?_
    refine v_iconst (v := 1) hX dX11_acted_44 (by decide) ?_
    refine v_iadd hX dX11_acted_45 ?_
    refine v_aload_n hX dX11_acted_46 0 rfl rfl ?_
    refine v_getR hX dX11_acted_47 f_RX11_15 rfl k12 ?_
    refine v_aload_n hX dX11_acted_50 0 rfl rfl ?_
    refine v_getI hX dX11_acted_51 f_RX11_82 rfl k12 ?_
    obtain ⟨a13, e_a13, h⟩ := h
    refine v_nn1 e_a13 ?_
    obtain ⟨k14, h⟩ := h
    obtain ⟨i15, h⟩ := h
    refine v_iald hX dX11_acted_54 k14 i15 ?_
    obtain ⟨a16, e_a16, h⟩ := h
    refine v_nn2 e_a16 ?_
    obtain ⟨k17, h⟩ := h
    obtain ⟨i18, h⟩ := h
    refine v_iast hX dX11_acted_55 k17 i18 ?_
    refine v_aload_n hX dX11_acted_56 0 rfl rfl ?_
    refine v_dup hX dX11_acted_57 rfl ?_
    refine v_getI hX dX11_acted_58 f_RX11_82 rfl k12 ?_
    refine v_iconst (v := 1) hX dX11_acted_61 (by decide) ?_
    refine v_iadd hX dX11_acted_62 ?_
    refine v_putI hX dX11_acted_63 f_RX11_82 k12 ?_
    refine v_pick [1] rfl ?_
    exact b_X11_acted_66 hX hE _ h
set_option maxRecDepth 100000 in
set_option maxHeartbeats 4000000 in
theorem m_X11_hand {Z : h_Z} {o0 : Nat} {s : h_S} {Q : Int32 → h_S → Prop} (h : w_X11_hand o0 s Q) : h_M Z yX11_hand cX11_hand 1 (some .int) 2 43 [pR (some o0)] s 0 0 (h_QI Z Q) := by
  refine h_M.of (by decide) (Nat.le_of_ble_eq_true rfl) (fun X hZ hX hE hI => ?_)
  subst hZ
  unfold w_X11_hand at h
  show h_V X 1 0 [(0, pR (some o0))] [] s 0 0
  refine v_aload_n hX dX11_hand_0 0 rfl rfl ?_
  obtain ⟨k1, h⟩ := h
  refine v_getI hX dX11_hand_1 f_RX11_71 rfl k1 ?_
  refine v_bipush (v := 8) hX dX11_hand_4 (by decide) ?_
  refine v_icmp_lt (tgt := 12) hX dX11_hand_6 (by decide) (fun c2 => ?_) (fun c2 => ?_)
  · have h := h_T c2 h
    refine v_aload_n hX dX11_hand_12 0 rfl rfl ?_
    refine v_dup hX dX11_hand_13 rfl ?_
    refine v_getI hX dX11_hand_14 f_RX11_71 rfl k1 ?_
    refine v_iconst (v := 1) hX dX11_hand_17 (by decide) ?_
    refine v_iadd hX dX11_hand_18 ?_
    refine v_putI hX dX11_hand_19 f_RX11_71 k1 ?_
    refine v_aload_n hX dX11_hand_22 0 rfl rfl ?_
    refine v_aload_n hX dX11_hand_23 0 rfl rfl ?_
    refine v_getI hX dX11_hand_24 f_RX11_71 rfl k1 ?_
    refine v_iconst (v := 1) hX dX11_hand_27 (by decide) ?_
    refine v_isub hX dX11_hand_28 ?_
    refine v_callVi0 hX dX11_hand_29 c_RX11_74 cV_X11_acted (ci := 12) (T := TX11) (N := 19) rfl (by exact k1) [pI _] rfl rfl (Nat.le_of_ble_eq_true rfl) (by decide) (by decide)  (m_X11_acted h) (fun p5 s4 h => ?_)
    exact v_iret hX hE dX11_hand_32 h
  · have h := h_E c2 h
    refine v_bipush (v := -4) hX dX11_hand_9 (by decide) ?_
    exact v_iret hX hE dX11_hand_11 h
set_option maxRecDepth 100000 in
set_option maxHeartbeats 4000000 in
theorem b_X11_groupAsOf_29 {X : h_X} (hX : h_ok X cX11_groupAsOf 3 RX11 1 21) {Q : Int32 → h_S → Prop} (hE : h_end X (some .int) (h_QI (x_Z X) Q)) {y0 : Int32} (s : h_S) (h : w_X11_groupAsOf_29 Q y0 s) : h_V X 3 29 [] [pI y0] s 0 0 := by
  unfold w_X11_groupAsOf_29 at h
  exact v_iret hX hE dX11_groupAsOf_29 h
set_option maxRecDepth 100000 in
set_option maxHeartbeats 4000000 in
theorem m_X11_groupAsOf {Z : h_Z} {o0 : Nat} {x1 : Int32} {x2 : Int32} {s : h_S} {Q : Int32 → h_S → Prop} (h : w_X11_groupAsOf o0 x1 x2 s Q) : h_M Z yX11_groupAsOf cX11_groupAsOf 3 (some .int) 1 21 [pR (some o0), pI x1, pI x2] s 0 0 (h_QI Z Q) := by
  refine h_M.of (by decide) (Nat.le_of_ble_eq_true rfl) (fun X hZ hX hE hI => ?_)
  subst hZ
  unfold w_X11_groupAsOf at h
  show h_V X 3 0 [(0, pR (some o0)), (1, pI x1), (2, pI x2)] [] s 0 0
  refine v_iload_n hX dX11_groupAsOf_0 2 rfl rfl ?_
  refine v_sipush (v := 600) hX dX11_groupAsOf_1 (by decide) ?_
  refine v_callSi0 hX dX11_groupAsOf_4 c_RX11_78 cS_X11_within [pI _, pI _] rfl rfl (Nat.le_of_ble_eq_true rfl) (by decide) (by decide)  (m_X11_within h) (fun p2 s1 h => ?_)
  refine v_if_eq (tgt := 28) hX dX11_groupAsOf_7 (by decide) (fun c3 => ?_) (fun c3 => ?_)
  · have h := h_T c3 h
    refine v_iconst (v := 0) hX dX11_groupAsOf_28 (by decide) ?_
    refine v_pick [] rfl ?_
    exact b_X11_groupAsOf_29 hX hE _ h
  · have h := h_E c3 h
    refine v_aload_n hX dX11_groupAsOf_10 0 rfl rfl ?_
    obtain ⟨k4, h⟩ := h
    refine v_getR hX dX11_groupAsOf_11 f_RX11_15 rfl k4 ?_
    refine v_iload_n hX dX11_groupAsOf_14 2 rfl rfl ?_
    obtain ⟨a5, e_a5, h⟩ := h
    refine v_nn1 e_a5 ?_
    obtain ⟨k6, h⟩ := h
    obtain ⟨i7, h⟩ := h
    refine v_iald hX dX11_groupAsOf_15 k6 i7 ?_
    refine v_bipush (v := 8) hX dX11_groupAsOf_16 (by decide) ?_
    refine v_iload_n hX dX11_groupAsOf_18 1 rfl rfl ?_
    refine v_imul hX dX11_groupAsOf_19 ?_
    refine v_iushr hX dX11_groupAsOf_20 ?_
    refine v_sipush (v := 255) hX dX11_groupAsOf_21 (by decide) ?_
    refine v_iand hX dX11_groupAsOf_24 ?_
    refine v_goto (tgt := 29) hX dX11_groupAsOf_25 (by decide) ?_
    refine v_pick [] rfl ?_
    exact b_X11_groupAsOf_29 hX hE _ h
set_option maxRecDepth 100000 in
set_option maxHeartbeats 4000000 in
theorem m_X11_group {Z : h_Z} {o0 : Nat} {x1 : Int32} {x2 : Int32} {s : h_S} {Q : Int32 → h_S → Prop} (h : w_X11_group o0 x1 x2 s Q) : h_M Z yX11_group cX11_group 5 (some .int) 2 43 [pR (some o0), pI x1, pI x2] s 0 0 (h_QI Z Q) := by
  refine h_M.of (by decide) (Nat.le_of_ble_eq_true rfl) (fun X hZ hX hE hI => ?_)
  subst hZ
  unfold w_X11_group at h
  show h_V X 5 0 [(0, pR (some o0)), (1, pI x1), (2, pI x2)] [] s 0 0
  refine v_iload_n hX dX11_group_0 1 rfl rfl ?_
  refine v_iconst (v := 4) hX dX11_group_1 (by decide) ?_
  refine v_callSi0 hX dX11_group_2 c_RX11_78 cS_X11_within [pI _, pI _] rfl rfl (Nat.le_of_ble_eq_true rfl) (by decide) (by decide)  (m_X11_within h) (fun p2 s1 h => ?_)
  refine v_if_ne (tgt := 10) hX dX11_group_5 (by decide) (fun c3 => ?_) (fun c3 => ?_)
  · have h := h_E c3 h
    refine v_iload_n hX dX11_group_10 2 rfl rfl ?_
    refine v_aload_n hX dX11_group_11 0 rfl rfl ?_
    obtain ⟨k4, h⟩ := h
    refine v_getI hX dX11_group_12 f_RX11_71 rfl k4 ?_
    refine v_iushr hX dX11_group_15 ?_
    refine v_if_eq (tgt := 22) hX dX11_group_16 (by decide) (fun c5 => ?_) (fun c5 => ?_)
    · have h := h_T c5 h
      refine v_aload_n hX dX11_group_22 0 rfl rfl ?_
      refine v_iload_n hX dX11_group_23 1 rfl rfl ?_
      refine v_aload_n hX dX11_group_24 0 rfl rfl ?_
      refine v_getI hX dX11_group_25 f_RX11_82 rfl k4 ?_
      refine v_callVi0 hX dX11_group_28 c_RX11_85 cV_X11_groupAsOf (ci := 12) (T := TX11) (N := 19) rfl (by exact k4) [pI _, pI _] rfl rfl (Nat.le_of_ble_eq_true rfl) (by decide) (by decide)  (m_X11_groupAsOf h) (fun p7 s6 h => ?_)
      refine v_istore_n (lv' := [(3, _), (0, _), (1, _), (2, _)]) hX dX11_group_31 rfl (by decide) rfl ?_
      refine v_aload_n hX dX11_group_32 1 rfl rfl ?_
      obtain ⟨k8, h⟩ := h
      refine v_getR hX dX11_group_33 f_RX11_15 rfl k8 ?_
      refine v_aload_n hX dX11_group_36 1 rfl rfl ?_
      refine v_getI hX dX11_group_37 f_RX11_82 rfl k8 ?_
      obtain ⟨a9, e_a9, h⟩ := h
      refine v_nn1 e_a9 ?_
      obtain ⟨k10, h⟩ := h
      obtain ⟨i11, h⟩ := h
      refine v_iald hX dX11_group_40 k10 i11 ?_
      refine v_sipush (v := 255) hX dX11_group_41 (by decide) ?_
      refine v_bipush (v := 8) hX dX11_group_44 (by decide) ?_
      refine v_iload_n hX dX11_group_46 2 rfl rfl ?_
      refine v_imul hX dX11_group_47 ?_
      refine v_ishl hX dX11_group_48 ?_
      refine v_iconst (v := -1) hX dX11_group_49 (by decide) ?_
      refine v_ixor hX dX11_group_50 ?_
      refine v_iand hX dX11_group_51 ?_
      refine v_istore (lv' := [(4, _), (3, _), (0, _), (1, _), (2, _)]) hX dX11_group_52 (by decide) rfl ?_
      refine v_aload_n hX dX11_group_54 2 rfl rfl ?_
      refine v_iload_n hX dX11_group_55 1 rfl rfl ?_
      refine v_callVi0 hX dX11_group_56 c_RX11_74 cV_X11_acted (ci := 12) (T := TX11) (N := 19) rfl (by exact k8) [pI _] rfl rfl (Nat.le_of_ble_eq_true rfl) (by decide) (by decide)  (m_X11_acted h) (fun p14 s13 h => ?_)
      refine v_pop hX dX11_group_59 rfl ?_
      refine v_aload_n hX dX11_group_60 2 rfl rfl ?_
      obtain ⟨k15, h⟩ := h
      refine v_getR hX dX11_group_61 f_RX11_15 rfl k15 ?_
      refine v_aload_n hX dX11_group_64 2 rfl rfl ?_
      refine v_getI hX dX11_group_65 f_RX11_82 rfl k15 ?_
      refine v_iload hX dX11_group_68 0 rfl ?_
      refine v_iload_n hX dX11_group_70 4 rfl rfl ?_
      refine v_bipush (v := 8) hX dX11_group_71 (by decide) ?_
      refine v_iload_n hX dX11_group_73 3 rfl rfl ?_
      refine v_imul hX dX11_group_74 ?_
      refine v_ishl hX dX11_group_75 ?_
      refine v_ior hX dX11_group_76 ?_
      obtain ⟨a16, e_a16, h⟩ := h
      refine v_nn2 e_a16 ?_
      obtain ⟨k17, h⟩ := h
      obtain ⟨i18, h⟩ := h
      refine v_iast hX dX11_group_77 k17 i18 ?_
      refine v_iload_n hX dX11_group_78 1 rfl rfl ?_
      exact v_iret hX hE dX11_group_79 h
    · have h := h_E c5 h
      refine v_bipush (v := -2) hX dX11_group_19 (by decide) ?_
      exact v_iret hX hE dX11_group_21 h
  · have h := h_T c3 h
    refine v_iconst (v := -1) hX dX11_group_8 (by decide) ?_
    exact v_iret hX hE dX11_group_9 h
set_option maxRecDepth 100000 in
set_option maxHeartbeats 4000000 in
theorem m_X11_isHand {Z : h_Z} {o0 : Nat} {x1 : Int32} {s : h_S} {Q : Int32 → h_S → Prop} (h : w_X11_isHand o0 x1 s Q) : h_M Z yX11_isHand cX11_isHand 2 (some .boolean) 1 21 [pR (some o0), pI x1] s 0 0 (h_QI Z Q) := by
  refine h_M.of (by decide) (Nat.le_of_ble_eq_true rfl) (fun X hZ hX hE hI => ?_)
  subst hZ
  unfold w_X11_isHand at h
  show h_V X 2 0 [(0, pR (some o0)), (1, pI x1)] [] s 0 0
  refine v_iload_n hX dX11_isHand_0 1 rfl rfl ?_
  refine v_aload_n hX dX11_isHand_1 0 rfl rfl ?_
  obtain ⟨k1, h⟩ := h
  refine v_getI hX dX11_isHand_2 f_RX11_71 rfl k1 ?_
  refine v_callSi0 hX dX11_isHand_5 c_RX11_78 cS_X11_within [pI _, pI _] rfl rfl (Nat.le_of_ble_eq_true rfl) (by decide) (by decide)  (m_X11_within h) (fun p3 s2 h => ?_)
  exact v_zret hX hE dX11_isHand_8 h.1 h.2
set_option maxRecDepth 100000 in
set_option maxHeartbeats 4000000 in
theorem m_X11_writing {Z : h_Z} {o0 : Nat} {x1 : Int32} {s : h_S} {mc ms : Nat} {Q : Int32 → h_S → Prop} (h : w_X11_writing o0 x1 s mc ms Q) : h_M Z yX11_writing cX11_writing 2 (some .int) 3 65 [pR (some o0), pI x1] s mc ms (h_QI Z Q) := by
  refine h_M.of (by decide) (Nat.le_of_ble_eq_true rfl) (fun X hZ hX hE hI => ?_)
  subst hZ
  unfold w_X11_writing at h
  show h_V X 2 0 [(0, pR (some o0)), (1, pI x1)] [] s mc ms
  refine v_aload_n hX dX11_writing_0 0 rfl rfl ?_
  refine v_iload_n hX dX11_writing_1 1 rfl rfl ?_
  obtain ⟨k1, h⟩ := h
  refine v_callVi0 hX dX11_writing_2 c_RX11_89 cV_X11_isHand (ci := 12) (T := TX11) (N := 19) rfl (by exact k1) [pI _] rfl rfl (Nat.le_of_ble_eq_true rfl) (by decide) (by decide)  (m_X11_isHand h) (fun p3 s2 h => ?_)
  refine v_if_ne (tgt := 10) hX dX11_writing_5 (by decide) (fun c4 => ?_) (fun c4 => ?_)
  · have h := h_E c4 h
    refine v_aload_n hX dX11_writing_10 0 rfl rfl ?_
    obtain ⟨k5, h⟩ := h
    refine v_getR hX dX11_writing_11 f_RX11_21 rfl k5 ?_
    obtain ⟨a6, e_a6, h⟩ := h
    refine v_nn0 e_a6 ?_
    obtain ⟨k7, h⟩ := h
    refine v_callVi0 hX dX11_writing_14 c_RX11_93 cV_X7_isFull (ci := 8) (T := TX7) (N := 13) rfl (by exact k7) [] rfl rfl (Nat.le_of_ble_eq_true rfl) (by decide) (by decide)  (m_X7_isFull h) (fun p9 s8 h => ?_)
    refine v_if_eq (tgt := 23) hX dX11_writing_17 (by decide) (fun c10 => ?_) (fun c10 => ?_)
    · have h := h_T c10 h
      refine v_aload_n hX dX11_writing_23 0 rfl rfl ?_
      refine v_aload_n hX dX11_writing_24 0 rfl rfl ?_
      obtain ⟨k11, h⟩ := h
      refine v_getR hX dX11_writing_25 f_RX11_21 rfl k11 ?_
      refine v_iload_n hX dX11_writing_28 1 rfl rfl ?_
      refine v_aload_n hX dX11_writing_29 0 rfl rfl ?_
      refine v_getI hX dX11_writing_30 f_RX11_82 rfl k11 ?_
      refine v_iconst (v := 1) hX dX11_writing_33 (by decide) ?_
      refine v_iadd hX dX11_writing_34 ?_
      obtain ⟨a12, e_a12, h⟩ := h
      refine v_nn2 e_a12 ?_
      obtain ⟨k13, h⟩ := h
      obtain ⟨mc16, ms17, b18, b19, h⟩ := h
      refine v_callVi hX dX11_writing_35 c_RX11_97 cV_X7_begin (ci := 8) (T := TX7) (N := 13) rfl (by exact k13) [pI _, pI _] rfl rfl (Nat.le_of_ble_eq_true rfl) (by decide) (by decide) b18 b19 (m_X7_begin h) (fun p15 s14 h => ?_)
      obtain ⟨k20, h⟩ := h
      refine v_callVi0 hX dX11_writing_38 c_RX11_74 cV_X11_acted (ci := 12) (T := TX11) (N := 19) rfl (by exact k20) [pI _] rfl rfl (Nat.le_of_ble_eq_true rfl) (by decide) (by decide)  (m_X11_acted h) (fun p22 s21 h => ?_)
      exact v_iret hX hE dX11_writing_41 h
    · have h := h_E c10 h
      refine v_bipush (v := -4) hX dX11_writing_20 (by decide) ?_
      exact v_iret hX hE dX11_writing_22 h
  · have h := h_T c4 h
    refine v_iconst (v := -1) hX dX11_writing_8 (by decide) ?_
    exact v_iret hX hE dX11_writing_9 h
set_option maxRecDepth 100000 in
set_option maxHeartbeats 4000000 in
theorem m_X11_isWriting {Z : h_Z} {o0 : Nat} {x1 : Int32} {s : h_S} {Q : Int32 → h_S → Prop} (h : w_X11_isWriting o0 x1 s Q) : h_M Z yX11_isWriting cX11_isWriting 2 (some .boolean) 1 21 [pR (some o0), pI x1] s 0 0 (h_QI Z Q) := by
  refine h_M.of (by decide) (Nat.le_of_ble_eq_true rfl) (fun X hZ hX hE hI => ?_)
  subst hZ
  unfold w_X11_isWriting at h
  show h_V X 2 0 [(0, pR (some o0)), (1, pI x1)] [] s 0 0
  refine v_iload_n hX dX11_isWriting_0 1 rfl rfl ?_
  refine v_aload_n hX dX11_isWriting_1 0 rfl rfl ?_
  obtain ⟨k1, h⟩ := h
  refine v_getR hX dX11_isWriting_2 f_RX11_21 rfl k1 ?_
  obtain ⟨a2, e_a2, h⟩ := h
  refine v_nn0 e_a2 ?_
  obtain ⟨k3, h⟩ := h
  refine v_getI hX dX11_isWriting_5 f_RX11_542 rfl k3 ?_
  refine v_callSi0 hX dX11_isWriting_8 c_RX11_78 cS_X11_within [pI _, pI _] rfl rfl (Nat.le_of_ble_eq_true rfl) (by decide) (by decide)  (m_X11_within h) (fun p5 s4 h => ?_)
  exact v_zret hX hE dX11_isWriting_11 h.1 h.2
set_option maxRecDepth 100000 in
set_option maxHeartbeats 4000000 in
theorem b_X11_takesAhead_33 {X : h_X} (hX : h_ok X cX11_takesAhead 3 RX11 16 483) {Q : Int32 → h_S → Prop} (hE : h_end X (some .boolean) (h_QI (x_Z X) Q)) {y0 : Int32} (s : h_S) {bc bs : Nat} (h : w_X11_takesAhead_33 Q y0 s bc bs) : h_V X 3 33 [] [pI y0] s bc bs := by
  unfold w_X11_takesAhead_33 at h
  exact v_zret hX hE dX11_takesAhead_33 h.1 h.2
set_option maxRecDepth 100000 in
set_option maxHeartbeats 4000000 in
theorem b_X11_takesAhead_32 {X : h_X} (hX : h_ok X cX11_takesAhead 3 RX11 16 483) {Q : Int32 → h_S → Prop} (hE : h_end X (some .boolean) (h_QI (x_Z X) Q)) (s : h_S) {bc bs : Nat} (h : w_X11_takesAhead_32 Q s bc bs) : h_V X 3 32 [] [] s bc bs := by
  unfold w_X11_takesAhead_32 at h
  refine v_iconst (v := 0) hX dX11_takesAhead_32 (by decide) ?_
  refine v_pick [] rfl ?_
  exact b_X11_takesAhead_33 hX hE _ h
set_option maxRecDepth 100000 in
set_option maxHeartbeats 4000000 in
theorem m_X11_takesAhead {Z : h_Z} {o0 : Nat} {x1 : Int32} {x2 : Int32} {s : h_S} {mc ms : Nat} {Q : Int32 → h_S → Prop} (h : w_X11_takesAhead o0 x1 x2 s mc ms Q) : h_M Z yX11_takesAhead cX11_takesAhead 3 (some .boolean) 16 483 [pR (some o0), pI x1, pI x2] s mc ms (h_QI Z Q) := by
  refine h_M.of (by decide) (Nat.le_of_ble_eq_true rfl) (fun X hZ hX hE hI => ?_)
  subst hZ
  unfold w_X11_takesAhead at h
  show h_V X 3 0 [(0, pR (some o0)), (1, pI x1), (2, pI x2)] [] s mc ms
  refine v_aload_n hX dX11_takesAhead_0 0 rfl rfl ?_
  refine v_iload_n hX dX11_takesAhead_1 1 rfl rfl ?_
  obtain ⟨k1, h⟩ := h
  refine v_callVi0 hX dX11_takesAhead_2 c_RX11_150 cV_X11_isWriting (ci := 12) (T := TX11) (N := 19) rfl (by exact k1) [pI _] rfl rfl (Nat.le_of_ble_eq_true rfl) (by decide) (by decide)  (m_X11_isWriting h) (fun p3 s2 h => ?_)
  refine v_if_eq (tgt := 32) hX dX11_takesAhead_5 (by decide) (fun c4 => ?_) (fun c4 => ?_)
  · have h := h_T c4 h
    refine v_pick [] rfl ?_
    exact b_X11_takesAhead_32 hX hE _ h
  · have h := h_E c4 h
    refine v_iload_n hX dX11_takesAhead_8 2 rfl rfl ?_
    refine v_if_lt (tgt := 32) hX dX11_takesAhead_9 (by decide) (fun c5 => ?_) (fun c5 => ?_)
    · have h := h_T c5 h
      refine v_pick [] rfl ?_
      exact b_X11_takesAhead_32 hX hE _ h
    · have h := h_E c5 h
      refine v_iload_n hX dX11_takesAhead_12 2 rfl rfl ?_
      refine v_aload_n hX dX11_takesAhead_13 0 rfl rfl ?_
      obtain ⟨k6, h⟩ := h
      refine v_getR hX dX11_takesAhead_14 f_RX11_21 rfl k6 ?_
      refine v_iload_n hX dX11_takesAhead_17 1 rfl rfl ?_
      refine v_aload_n hX dX11_takesAhead_18 0 rfl rfl ?_
      refine v_getI hX dX11_takesAhead_19 f_RX11_82 rfl k6 ?_
      obtain ⟨a7, e_a7, h⟩ := h
      refine v_nn2 e_a7 ?_
      obtain ⟨k8, h⟩ := h
      obtain ⟨mc11, ms12, b13, b14, h⟩ := h
      refine v_callVi hX dX11_takesAhead_22 c_RX11_170 cV_X7_sizeAsOf (ci := 8) (T := TX7) (N := 13) rfl (by exact k8) [pI _, pI _] rfl rfl (Nat.le_of_ble_eq_true rfl) (by decide) (by decide) b13 b14 (m_X7_sizeAsOf h) (fun p10 s9 h => ?_)
      refine v_icmp_gt (tgt := 32) hX dX11_takesAhead_25 (by decide) (fun c15 => ?_) (fun c15 => ?_)
      · have h := h_T c15 h
        refine v_pick [] rfl ?_
        exact b_X11_takesAhead_32 hX hE _ h
      · have h := h_E c15 h
        refine v_iconst (v := 1) hX dX11_takesAhead_28 (by decide) ?_
        refine v_goto (tgt := 33) hX dX11_takesAhead_29 (by decide) ?_
        refine v_pick [] rfl ?_
        exact b_X11_takesAhead_33 hX hE _ h
set_option maxRecDepth 100000 in
set_option maxHeartbeats 4000000 in
theorem m_X11_failed {Z : h_Z} {o0 : Nat} {x1 : Int32} {s : h_S} {Q : Int32 → h_S → Prop} (h : w_X11_failed o0 x1 s Q) : h_M Z yX11_failed cX11_failed 2 (some .int) 0 0 [pR (some o0), pI x1] s 0 0 (h_QI Z Q) := by
  refine h_M.of (by decide) (Nat.le_of_ble_eq_true rfl) (fun X hZ hX hE hI => ?_)
  subst hZ
  unfold w_X11_failed at h
  show h_V X 2 0 [(0, pR (some o0)), (1, pI x1)] [] s 0 0
  refine v_aload_n hX dX11_failed_0 0 rfl rfl ?_
  refine v_iload_n hX dX11_failed_1 1 rfl rfl ?_
  obtain ⟨k1, h⟩ := h
  refine v_putI hX dX11_failed_2 f_RX11_100 k1 ?_
  refine v_bipush (v := -10) hX dX11_failed_5 (by decide) ?_
  refine v_iload_n hX dX11_failed_7 1 rfl rfl ?_
  refine v_isub hX dX11_failed_8 ?_
  exact v_iret hX hE dX11_failed_9 h
set_option maxRecDepth 100000 in
set_option maxHeartbeats 4000000 in
theorem b_X11_refusedCells_41 {X : h_X} (hX : h_ok X cX11_refusedCells 6 RX11 2 45) {Q : Int32 → h_S → Prop} (hE : h_end X (some .int) (h_QI (x_Z X) Q)) {y0 : Int32} (s : h_S) (h : w_X11_refusedCells_41 Q y0 s) : h_V X 6 41 [] [pI y0] s 0 0 := by
  unfold w_X11_refusedCells_41 at h
  exact v_iret hX hE dX11_refusedCells_41 h
set_option maxRecDepth 100000 in
set_option maxHeartbeats 4000000 in
theorem m_X11_refusedCells {Z : h_Z} {o0 : Nat} {x1 : Int32} {x2 : Int32} {x3 : Int32} {x4 : Int32} {s : h_S} {Q : Int32 → h_S → Prop} (h : w_X11_refusedCells o0 x1 x2 x3 x4 s Q) : h_M Z yX11_refusedCells cX11_refusedCells 6 (some .int) 2 45 [pR (some o0), pI x1, pI x2, pI x3, pI x4] s 0 0 (h_QI Z Q) := by
  refine h_M.of (by decide) (Nat.le_of_ble_eq_true rfl) (fun X hZ hX hE hI => ?_)
  subst hZ
  unfold w_X11_refusedCells at h
  show h_V X 6 0 [(0, pR (some o0)), (1, pI x1), (2, pI x2), (3, pI x3), (4, pI x4)] [] s 0 0
  refine v_iload_n hX dX11_refusedCells_0 2 rfl rfl ?_
  refine v_iconst (v := 3) hX dX11_refusedCells_1 (by decide) ?_
  refine v_callSi0 hX dX11_refusedCells_2 c_RX11_78 cS_X11_within [pI _, pI _] rfl rfl (Nat.le_of_ble_eq_true rfl) (by decide) (by decide)  (m_X11_within h) (fun p2 s1 h => ?_)
  refine v_if_ne (tgt := 11) hX dX11_refusedCells_5 (by decide) (fun c3 => ?_) (fun c3 => ?_)
  · have h := h_E c3 h
    refine v_aload_n hX dX11_refusedCells_11 0 rfl rfl ?_
    obtain ⟨k4, h⟩ := h
    refine v_getR hX dX11_refusedCells_12 f_RX11_43 rfl k4 ?_
    refine v_iload_n hX dX11_refusedCells_15 1 rfl rfl ?_
    obtain ⟨a5, e_a5, h⟩ := h
    refine v_nn1 e_a5 ?_
    obtain ⟨k6, h⟩ := h
    obtain ⟨i7, h⟩ := h
    refine v_aald (k := 5) hX dX11_refusedCells_16 rfl rfl (by decide) (by decide) k6 i7 ?_
    refine v_iload_n hX dX11_refusedCells_17 2 rfl rfl ?_
    refine v_iload_n hX dX11_refusedCells_18 3 rfl rfl ?_
    refine v_iload hX dX11_refusedCells_19 4 rfl ?_
    obtain ⟨a8, e_a8, h⟩ := h
    refine v_nn3 e_a8 ?_
    obtain ⟨k9, h⟩ := h
    refine v_callVi0 hX dX11_refusedCells_21 c_RX11_501 cV_X5_faultOf (ci := 6) (T := TX5) (N := 3) rfl (by exact k9) [pI _, pI _, pI _] rfl rfl (Nat.le_of_ble_eq_true rfl) (by decide) (by decide)  (m_X5_faultOf h) (fun p11 s10 h => ?_)
    refine v_istore (lv' := [(5, _), (0, _), (1, _), (2, _), (3, _), (4, _)]) hX dX11_refusedCells_24 (by decide) rfl ?_
    refine v_iload hX dX11_refusedCells_26 0 rfl ?_
    refine v_if_ne (tgt := 35) hX dX11_refusedCells_28 (by decide) (fun c12 => ?_) (fun c12 => ?_)
    · have h := h_E c12 h
      refine v_aload_n hX dX11_refusedCells_35 1 rfl rfl ?_
      refine v_iload hX dX11_refusedCells_36 0 rfl ?_
      obtain ⟨k13, h⟩ := h
      refine v_callVi0 hX dX11_refusedCells_38 c_RX11_349 cV_X11_failed (ci := 12) (T := TX11) (N := 19) rfl (by exact k13) [pI _] rfl rfl (Nat.le_of_ble_eq_true rfl) (by decide) (by decide)  (m_X11_failed h) (fun p15 s14 h => ?_)
      refine v_pick [] rfl ?_
      exact b_X11_refusedCells_41 hX hE _ h
    · have h := h_T c12 h
      refine v_iconst (v := 0) hX dX11_refusedCells_31 (by decide) ?_
      refine v_goto (tgt := 41) hX dX11_refusedCells_32 (by decide) ?_
      refine v_pick [] rfl ?_
      exact b_X11_refusedCells_41 hX hE _ h
  · have h := h_T c3 h
    refine v_bipush (v := -2) hX dX11_refusedCells_8 (by decide) ?_
    exact v_iret hX hE dX11_refusedCells_10 h
set_option maxRecDepth 100000 in
set_option maxHeartbeats 4000000 in
theorem b_X11_put_22 {X : h_X} (hX : h_ok X cX11_put 10 RX11 18 533) {Q : Int32 → h_S → Prop} (hE : h_end X (some .int) (h_QI (x_Z X) Q)) (s : h_S) {bc bs : Nat} (h : w_X11_put_22 (x_G X) Q s bc bs) : h_V X 10 22 [] [] s bc bs := by
  unfold w_X11_put_22 at h
  refine v_iconst (v := -1) hX dX11_put_22 (by decide) ?_
  exact v_iret hX hE dX11_put_23 h
set_option maxRecDepth 100000 in
set_option maxHeartbeats 4000000 in
theorem b_X11_put_66 {X : h_X} (hX : h_ok X cX11_put 10 RX11 18 533) {Q : Int32 → h_S → Prop} (hE : h_end X (some .int) (h_QI (x_Z X) Q)) (s : h_S) {bc bs : Nat} (h : w_X11_put_66 (x_G X) Q s bc bs) : h_V X 10 66 [] [] s bc bs := by
  unfold w_X11_put_66 at h
  refine v_bipush (v := -2) hX dX11_put_66 (by decide) ?_
  exact v_iret hX hE dX11_put_68 h
set_option maxRecDepth 100000 in
set_option maxHeartbeats 4000000 in
theorem b_X11_put_121 {X : h_X} (hX : h_ok X cX11_put 10 RX11 18 533) {Q : Int32 → h_S → Prop} (hE : h_end X (some .int) (h_QI (x_Z X) Q)) (s : h_S) {bc bs : Nat} (h : w_X11_put_121 (x_G X) Q s bc bs) : h_V X 10 121 [] [] s bc bs := by
  unfold w_X11_put_121 at h
  refine v_bipush (v := -4) hX dX11_put_121 (by decide) ?_
  exact v_iret hX hE dX11_put_123 h
set_option maxRecDepth 100000 in
set_option maxHeartbeats 4000000 in
theorem b_X11_put_127 {X : h_X} (hX : h_ok X cX11_put 10 RX11 18 533) {Q : Int32 → h_S → Prop} (hE : h_end X (some .int) (h_QI (x_Z X) Q)) : ∀ (n : Nat) (o0 : Nat) (x1 : Int32) (x3 : Int32) (x5 : Int32) (x6 : Int32) (x8 : Int32) (x9 : Int32) (s : h_S) (bc bs : Nat), w_X11_put_127 (x_G X) Q n o0 x1 x3 x5 x6 x8 x9 s bc bs → h_V X 10 127 [(0, pR (some o0)), (1, pI x1), (3, pI x3), (5, pI x5), (6, pI x6), (8, pI x8), (9, pI x9)] [] s bc bs := by
  intro n
  induction n with
  | zero => intro _ _ _ _ _ _ _ s bc bs h; exact h.elim
  | succ n hK127 =>
    intro o0 x1 x3 x5 x6 x8 x9 s bc bs h
    have h : w_X11_put_127b (x_G X) Q (w_X11_put_127 (x_G X) Q n) o0 x1 x3 x5 x6 x8 x9 s bc bs := h
    unfold w_X11_put_127b at h
    refine v_iload hX dX11_put_127 6 rfl ?_
    refine v_iload hX dX11_put_129 4 rfl ?_
    refine v_icmp_ge (tgt := 168) hX dX11_put_131 (by decide) (fun c1 => ?_) (fun c1 => ?_)
    · have h := h_T c1 h
      refine v_aload_n hX dX11_put_168 0 rfl rfl ?_
      refine v_iload hX dX11_put_169 5 rfl ?_
      obtain ⟨k2, h⟩ := h
      refine v_callVi0 hX dX11_put_171 c_RX11_74 cV_X11_acted (ci := 12) (T := TX11) (N := 19) rfl (by exact k2) [pI _] rfl rfl (Nat.le_of_ble_eq_true rfl) (by decide) (by decide)  (m_X11_acted h) (fun p4 s3 h => ?_)
      exact v_iret hX hE dX11_put_174 h
    · have h := h_E c1 h
      refine v_aload_n hX dX11_put_134 0 rfl rfl ?_
      obtain ⟨k5, h⟩ := h
      refine v_getR hX dX11_put_135 f_RX11_21 rfl k5 ?_
      refine v_aload_n hX dX11_put_138 0 rfl rfl ?_
      refine v_getR hX dX11_put_139 f_RX11_43 rfl k5 ?_
      refine v_iload_n hX dX11_put_142 2 rfl rfl ?_
      obtain ⟨a6, e_a6, h⟩ := h
      refine v_nn1 e_a6 ?_
      obtain ⟨k7, h⟩ := h
      obtain ⟨i8, h⟩ := h
      refine v_aald (k := 5) hX dX11_put_143 rfl rfl (by decide) (by decide) k7 i8 ?_
      refine v_iload hX dX11_put_144 3 rfl ?_
      refine v_iload hX dX11_put_146 6 rfl ?_
      refine v_iadd hX dX11_put_148 ?_
      obtain ⟨a9, e_a9, h⟩ := h
      refine v_nn1 e_a9 ?_
      obtain ⟨k10, h⟩ := h
      refine v_callVi0 hX dX11_put_149 c_RX11_126 cV_X5_cellAt (ci := 6) (T := TX5) (N := 3) rfl (by exact k10) [pI _] rfl rfl (Nat.le_of_ble_eq_true rfl) (by decide) (by decide)  (m_X5_cellAt h) (fun p12 s11 h => ?_)
      refine v_iload_n hX dX11_put_152 1 rfl rfl ?_
      refine v_aload_n hX dX11_put_153 0 rfl rfl ?_
      obtain ⟨k13, h⟩ := h
      refine v_getI hX dX11_put_154 f_RX11_82 rfl k13 ?_
      refine v_iconst (v := 1) hX dX11_put_157 (by decide) ?_
      refine v_iadd hX dX11_put_158 ?_
      obtain ⟨a14, e_a14, h⟩ := h
      refine v_nn3 e_a14 ?_
      obtain ⟨k15, h⟩ := h
      obtain ⟨mc18, ms19, b20, b21, h⟩ := h
      refine v_callVv hX dX11_put_159 c_RX11_129 cV_X7_addWord (ci := 8) (T := TX7) (N := 13) rfl (by exact k15) [pI _, pI _, pI _] rfl rfl (Nat.le_of_ble_eq_true rfl) (by decide) (by decide) b20 b21 (m_X7_addWord h) (fun s16 h => ?_)
      refine v_iinc (c := 1) (lv' := [(9, _), (0, _), (1, _), (3, _), (5, _), (6, _), (8, _)]) hX dX11_put_162 6 rfl (by decide) (by decide) rfl ?_
      refine v_goto (tgt := 127) hX dX11_put_165 (by decide) ?_
      refine v_pick [1, 2, 3, 4, 5, 6, 0] rfl ?_
      exact hK127 _ _ _ _ _ _ _ _ _ _ h
set_option maxRecDepth 100000 in
set_option maxHeartbeats 4000000 in
theorem m_X11_put {Z : h_Z} {o0 : Nat} {x1 : Int32} {x2 : Int32} {x3 : Int32} {x4 : Int32} {x5 : Int32} {x6 : Int32} {s : h_S} {mc ms : Nat} {Q : Int32 → h_S → Prop} (h : w_X11_put Z.2.2.2.2 o0 x1 x2 x3 x4 x5 x6 s mc ms Q) : h_M Z yX11_put cX11_put 10 (some .int) 18 533 [pR (some o0), pI x1, pI x2, pI x3, pI x4, pI x5, pI x6] s mc ms (h_QI Z Q) := by
  refine h_M.of (by decide) (Nat.le_of_ble_eq_true rfl) (fun X hZ hX hE hI => ?_)
  subst hZ
  unfold w_X11_put at h
  show h_V X 10 0 [(0, pR (some o0)), (1, pI x1), (2, pI x2), (3, pI x3), (4, pI x4), (5, pI x5), (6, pI x6)] [] s mc ms
  refine v_aload_n hX dX11_put_0 0 rfl rfl ?_
  refine v_iconst (v := 0) hX dX11_put_1 (by decide) ?_
  obtain ⟨k1, h⟩ := h
  refine v_putI hX dX11_put_2 f_RX11_100 k1 ?_
  refine v_aload_n hX dX11_put_5 0 rfl rfl ?_
  refine v_iload_n hX dX11_put_6 1 rfl rfl ?_
  refine v_iload_n hX dX11_put_7 2 rfl rfl ?_
  obtain ⟨mc5, ms6, b7, b8, h⟩ := h
  refine v_callVi hX dX11_put_8 c_RX11_103 cV_X11_takesAhead (ci := 12) (T := TX11) (N := 19) rfl (by exact k1) [pI _, pI _] rfl rfl (Nat.le_of_ble_eq_true rfl) (by decide) (by decide) b7 b8 (m_X11_takesAhead h) (fun p4 s3 h => ?_)
  refine v_if_eq (tgt := 22) hX dX11_put_11 (by decide) (fun c9 => ?_) (fun c9 => ?_)
  · have h := h_T c9 h
    refine v_pick [] rfl ?_
    exact b_X11_put_22 hX hE _ h
  · have h := h_E c9 h
    refine v_iload_n hX dX11_put_14 3 rfl rfl ?_
    refine v_iconst (v := 4) hX dX11_put_15 (by decide) ?_
    refine v_callSi0 hX dX11_put_16 c_RX11_78 cS_X11_within [pI _, pI _] rfl rfl (Nat.le_of_ble_eq_true rfl) (by decide) (by decide)  (m_X11_within h) (fun p11 s10 h => ?_)
    refine v_if_ne (tgt := 24) hX dX11_put_19 (by decide) (fun c12 => ?_) (fun c12 => ?_)
    · have h := h_E c12 h
      refine v_aload_n hX dX11_put_24 0 rfl rfl ?_
      refine v_iload_n hX dX11_put_25 3 rfl rfl ?_
      refine v_iload hX dX11_put_26 4 rfl ?_
      refine v_iload hX dX11_put_28 5 rfl ?_
      refine v_iload hX dX11_put_30 6 rfl ?_
      obtain ⟨k13, h⟩ := h
      refine v_callVi0 hX dX11_put_32 c_RX11_106 cV_X11_refusedCells (ci := 12) (T := TX11) (N := 19) rfl (by exact k13) [pI _, pI _, pI _, pI _] rfl rfl (Nat.le_of_ble_eq_true rfl) (by decide) (by decide)  (m_X11_refusedCells h) (fun p15 s14 h => ?_)
      refine v_istore (lv' := [(7, _), (0, _), (1, _), (2, _), (3, _), (4, _), (5, _), (6, _)]) hX dX11_put_35 (by decide) rfl ?_
      refine v_iload hX dX11_put_37 0 rfl ?_
      refine v_if_eq (tgt := 45) hX dX11_put_39 (by decide) (fun c16 => ?_) (fun c16 => ?_)
      · have h := h_T c16 h
        refine v_iload hX dX11_put_45 7 rfl ?_
        refine v_if_eq (tgt := 66) hX dX11_put_47 (by decide) (fun c17 => ?_) (fun c17 => ?_)
        · have h := h_T c17 h
          refine v_pick [] rfl ?_
          exact b_X11_put_66 hX hE _ h
        · have h := h_E c17 h
          refine v_aload_n hX dX11_put_50 1 rfl rfl ?_
          obtain ⟨k18, h⟩ := h
          refine v_getR hX dX11_put_51 f_RX11_43 rfl k18 ?_
          refine v_iload_n hX dX11_put_54 4 rfl rfl ?_
          obtain ⟨a19, e_a19, h⟩ := h
          refine v_nn1 e_a19 ?_
          obtain ⟨k20, h⟩ := h
          obtain ⟨i21, h⟩ := h
          refine v_aald (k := 5) hX dX11_put_55 rfl rfl (by decide) (by decide) k20 i21 ?_
          refine v_iload hX dX11_put_56 6 rfl ?_
          refine v_iload hX dX11_put_58 7 rfl ?_
          obtain ⟨a22, e_a22, h⟩ := h
          refine v_nn2 e_a22 ?_
          obtain ⟨k23, h⟩ := h
          refine v_callVi0 hX dX11_put_60 c_RX11_110 cV_X5_areCodes (ci := 6) (T := TX5) (N := 3) rfl (by exact k23) [pI _, pI _] rfl rfl (Nat.le_of_ble_eq_true rfl) (by decide) (by decide)  (m_X5_areCodes h) (fun p25 s24 h => ?_)
          refine v_if_ne (tgt := 69) hX dX11_put_63 (by decide) (fun c26 => ?_) (fun c26 => ?_)
          · have h := h_E c26 h
            refine v_aload_n hX dX11_put_69 1 rfl rfl ?_
            obtain ⟨k27, h⟩ := h
            refine v_getR hX dX11_put_70 f_RX11_21 rfl k27 ?_
            obtain ⟨a28, e_a28, h⟩ := h
            refine v_nn0 e_a28 ?_
            obtain ⟨k29, h⟩ := h
            refine v_callVi0 hX dX11_put_73 c_RX11_113 cV_X7_wordCount (ci := 8) (T := TX7) (N := 13) rfl (by exact k29) [] rfl rfl (Nat.le_of_ble_eq_true rfl) (by decide) (by decide)  (m_X7_wordCount h) (fun p31 s30 h => ?_)
            refine v_istore (lv' := [(8, _), (7, _), (0, _), (1, _), (2, _), (3, _), (4, _), (5, _), (6, _)]) hX dX11_put_76 (by decide) rfl ?_
            refine v_iload hX dX11_put_78 8 rfl ?_
            refine v_sipush (v := 500) hX dX11_put_80 (by decide) ?_
            refine v_iload hX dX11_put_83 0 rfl ?_
            refine v_isub hX dX11_put_85 ?_
            refine v_icmp_gt (tgt := 121) hX dX11_put_86 (by decide) (fun c32 => ?_) (fun c32 => ?_)
            · have h := h_T c32 h
              refine v_pick [] rfl ?_
              exact b_X11_put_121 hX hE _ h
            · have h := h_E c32 h
              refine v_aload_n hX dX11_put_89 2 rfl rfl ?_
              obtain ⟨k33, h⟩ := h
              refine v_getR hX dX11_put_90 f_RX11_21 rfl k33 ?_
              refine v_iload_n hX dX11_put_93 3 rfl rfl ?_
              refine v_iload_n hX dX11_put_94 4 rfl rfl ?_
              obtain ⟨b36, b37, h⟩ := h
              refine v_new hX dX11_put_95 n_RX11_117 b36 b37 (fun q34 k35 => ?_)
              have h := h q34 k35
              refine v_dup hX dX11_put_98 rfl ?_
              refine v_iconst (v := 0) hX dX11_put_99 (by decide) ?_
              refine v_iload hX dX11_put_100 0 rfl ?_
              refine v_iload hX dX11_put_102 8 rfl ?_
              refine v_bipush (v := -9) hX dX11_put_104 (by decide) ?_
              refine v_bipush (v := -9) hX dX11_put_106 (by decide) ?_
              refine v_callIv0 hX dX11_put_108 c_RX11_119 cI_X2_init [pI _, pI _, pI _, pI _, pI _] rfl rfl (Nat.le_of_ble_eq_true rfl) (by decide) (by decide)  (m_X2_init h) (fun s41 h => ?_)
              refine v_aload_n hX dX11_put_111 2 rfl rfl ?_
              obtain ⟨k43, h⟩ := h
              refine v_getI hX dX11_put_112 f_RX11_82 rfl k43 ?_
              obtain ⟨a44, e_a44, h⟩ := h
              refine v_nn4 e_a44 ?_
              obtain ⟨k45, h⟩ := h
              obtain ⟨mc48, ms49, b50, b51, h⟩ := h
              refine v_callVi hX dX11_put_115 c_RX11_122 cV_X7_bring (ci := 8) (T := TX7) (N := 13) rfl (by exact k45) [pI _, pI _, pR _, pI _] rfl rfl (Nat.le_of_ble_eq_true rfl) (by decide) (by decide) b50 b51 (m_X7_bring h) (fun p47 s46 h => ?_)
              refine v_if_ne (tgt := 124) hX dX11_put_118 (by decide) (fun c52 => ?_) (fun c52 => ?_)
              · have h := h_E c52 h
                refine v_iconst (v := 0) hX dX11_put_124 (by decide) ?_
                refine v_istore (lv' := [(9, _), (8, _), (7, _), (0, _), (1, _), (2, _), (3, _), (4, _), (5, _), (6, _)]) hX dX11_put_125 (by decide) rfl ?_
                refine v_pick [3, 4, 6, 8, 9, 1, 0] rfl ?_
                obtain ⟨n, h⟩ := h
                exact b_X11_put_127 hX hE n _ _ _ _ _ _ _ _ _ _ h
              · have h := h_T c52 h
                refine v_pick [] rfl ?_
                exact b_X11_put_121 hX hE _ h
          · have h := h_T c26 h
            refine v_pick [] rfl ?_
            exact b_X11_put_66 hX hE _ h
      · have h := h_E c16 h
        refine v_iload hX dX11_put_42 0 rfl ?_
        exact v_iret hX hE dX11_put_44 h
    · have h := h_T c12 h
      refine v_pick [] rfl ?_
      exact b_X11_put_22 hX hE _ h
set_option maxRecDepth 100000 in
set_option maxHeartbeats 4000000 in
theorem b_X11_allows_20 {X : h_X} (hX : h_ok X cX11_allows 5 RX11 2 43) {Q : Int32 → h_S → Prop} (hE : h_end X (some .boolean) (h_QI (x_Z X) Q)) (s : h_S) (h : w_X11_allows_20 Q s) : h_V X 5 20 [] [] s 0 0 := by
  unfold w_X11_allows_20 at h
  refine v_iconst (v := 0) hX dX11_allows_20 (by decide) ?_
  exact v_zret hX hE dX11_allows_21 (Or.inl rfl) h
set_option maxRecDepth 100000 in
set_option maxHeartbeats 4000000 in
theorem b_X11_allows_45 {X : h_X} (hX : h_ok X cX11_allows 5 RX11 2 43) {Q : Int32 → h_S → Prop} (hE : h_end X (some .boolean) (h_QI (x_Z X) Q)) {y0 : Int32} (s : h_S) (h : w_X11_allows_45 Q y0 s) : h_V X 5 45 [] [pI y0] s 0 0 := by
  unfold w_X11_allows_45 at h
  exact v_zret hX hE dX11_allows_45 h.1 h.2
set_option maxRecDepth 100000 in
set_option maxHeartbeats 4000000 in
theorem b_X11_allows_69 {X : h_X} (hX : h_ok X cX11_allows 5 RX11 2 43) {Q : Int32 → h_S → Prop} (hE : h_end X (some .boolean) (h_QI (x_Z X) Q)) {y0 : Int32} (s : h_S) (h : w_X11_allows_69 Q y0 s) : h_V X 5 69 [] [pI y0] s 0 0 := by
  unfold w_X11_allows_69 at h
  exact v_zret hX hE dX11_allows_69 h.1 h.2
set_option maxRecDepth 100000 in
set_option maxHeartbeats 4000000 in
theorem m_X11_allows {Z : h_Z} {o0 : Nat} {r1 : Option Nat} {x2 : Int32} {x3 : Int32} {x4 : Int32} {s : h_S} {Q : Int32 → h_S → Prop} (h : w_X11_allows o0 r1 x2 x3 x4 s Q) : h_M Z yX11_allows cX11_allows 5 (some .boolean) 2 43 [pR (some o0), pR r1, pI x2, pI x3, pI x4] s 0 0 (h_QI Z Q) := by
  refine h_M.of (by decide) (Nat.le_of_ble_eq_true rfl) (fun X hZ hX hE hI => ?_)
  subst hZ
  unfold w_X11_allows at h
  show h_V X 5 0 [(0, pR (some o0)), (1, pR r1), (2, pI x2), (3, pI x3), (4, pI x4)] [] s 0 0
  refine v_aload_n hX dX11_allows_0 1 rfl rfl ?_
  refine v_iload hX dX11_allows_1 4 rfl ?_
  obtain ⟨a1, e_a1, h⟩ := h
  refine v_nn1 e_a1 ?_
  obtain ⟨k2, h⟩ := h
  refine v_callVi0 hX dX11_allows_3 c_RX11_543 cV_X3_holdsAt (ci := 4) (T := TX3) (N := 10) rfl (by exact k2) [pI _] rfl rfl (Nat.le_of_ble_eq_true rfl) (by decide) (by decide)  (m_X3_holdsAt h) (fun p4 s3 h => ?_)
  refine v_if_eq (tgt := 20) hX dX11_allows_6 (by decide) (fun c5 => ?_) (fun c5 => ?_)
  · have h := h_T c5 h
    refine v_pick [] rfl ?_
    exact b_X11_allows_20 hX hE _ h
  · have h := h_E c5 h
    refine v_aload_n hX dX11_allows_9 1 rfl rfl ?_
    obtain ⟨a6, e_a6, h⟩ := h
    refine v_nn0 e_a6 ?_
    obtain ⟨k7, h⟩ := h
    refine v_getI hX dX11_allows_10 f_RX11_415 rfl k7 ?_
    refine v_iconst (v := 1) hX dX11_allows_13 (by decide) ?_
    refine v_iload_n hX dX11_allows_14 3 rfl rfl ?_
    refine v_ishl hX dX11_allows_15 ?_
    refine v_iand hX dX11_allows_16 ?_
    refine v_if_ne (tgt := 22) hX dX11_allows_17 (by decide) (fun c8 => ?_) (fun c8 => ?_)
    · have h := h_E c8 h
      refine v_aload_n hX dX11_allows_22 1 rfl rfl ?_
      obtain ⟨a9, e_a9, h⟩ := h
      refine v_nn0 e_a9 ?_
      obtain ⟨k10, h⟩ := h
      refine v_callVi0 hX dX11_allows_23 c_RX11_546 cV_X3_isLent (ci := 4) (T := TX3) (N := 10) rfl (by exact k10) [] rfl rfl (Nat.le_of_ble_eq_true rfl) (by decide) (by decide)  (m_X3_isLent h) (fun p12 s11 h => ?_)
      refine v_if_eq (tgt := 46) hX dX11_allows_26 (by decide) (fun c13 => ?_) (fun c13 => ?_)
      · have h := h_T c13 h
        refine v_aload_n hX dX11_allows_46 0 rfl rfl ?_
        refine v_aload_n hX dX11_allows_47 1 rfl rfl ?_
        obtain ⟨a14, e_a14, h⟩ := h
        refine v_nn0 e_a14 ?_
        obtain ⟨k15, h⟩ := h
        refine v_getI hX dX11_allows_48 f_RX11_412 rfl k15 ?_
        refine v_iload hX dX11_allows_51 4 rfl ?_
        obtain ⟨k16, h⟩ := h
        refine v_callVi0 hX dX11_allows_53 c_RX11_85 cV_X11_groupAsOf (ci := 12) (T := TX11) (N := 19) rfl (by exact k16) [pI _, pI _] rfl rfl (Nat.le_of_ble_eq_true rfl) (by decide) (by decide)  (m_X11_groupAsOf h) (fun p18 s17 h => ?_)
        refine v_iload_n hX dX11_allows_56 2 rfl rfl ?_
        refine v_ishr hX dX11_allows_57 ?_
        refine v_iconst (v := 1) hX dX11_allows_58 (by decide) ?_
        refine v_iand hX dX11_allows_59 ?_
        refine v_iconst (v := 1) hX dX11_allows_60 (by decide) ?_
        refine v_icmp_ne (tgt := 68) hX dX11_allows_61 (by decide) (fun c19 => ?_) (fun c19 => ?_)
        · have h := h_E c19 h
          refine v_iconst (v := 0) hX dX11_allows_68 (by decide) ?_
          refine v_pick [] rfl ?_
          exact b_X11_allows_69 hX hE _ h
        · have h := h_T c19 h
          refine v_iconst (v := 1) hX dX11_allows_64 (by decide) ?_
          refine v_goto (tgt := 69) hX dX11_allows_65 (by decide) ?_
          refine v_pick [] rfl ?_
          exact b_X11_allows_69 hX hE _ h
      · have h := h_E c13 h
        refine v_aload_n hX dX11_allows_29 1 rfl rfl ?_
        obtain ⟨a20, e_a20, h⟩ := h
        refine v_nn0 e_a20 ?_
        obtain ⟨k21, h⟩ := h
        refine v_getI hX dX11_allows_30 f_RX11_412 rfl k21 ?_
        refine v_bipush (v := 8) hX dX11_allows_33 (by decide) ?_
        refine v_iload_n hX dX11_allows_35 2 rfl rfl ?_
        refine v_iadd hX dX11_allows_36 ?_
        refine v_icmp_ne (tgt := 44) hX dX11_allows_37 (by decide) (fun c22 => ?_) (fun c22 => ?_)
        · have h := h_E c22 h
          refine v_iconst (v := 0) hX dX11_allows_44 (by decide) ?_
          refine v_pick [] rfl ?_
          exact b_X11_allows_45 hX hE _ h
        · have h := h_T c22 h
          refine v_iconst (v := 1) hX dX11_allows_40 (by decide) ?_
          refine v_goto (tgt := 45) hX dX11_allows_41 (by decide) ?_
          refine v_pick [] rfl ?_
          exact b_X11_allows_45 hX hE _ h
    · have h := h_T c8 h
      refine v_pick [] rfl ?_
      exact b_X11_allows_20 hX hE _ h
set_option maxRecDepth 100000 in
set_option maxHeartbeats 4000000 in
theorem b_X11_reason_69 {X : h_X} (hX : h_ok X cX11_reason 7 RX11 3 67) {Q : Int32 → h_S → Prop} (hE : h_end X (some .int) (h_QI (x_Z X) Q)) {K18 : Nat → Int32 → Int32 → Int32 → Int32 → Int32 → h_S → Prop} (hK18 : ∀ (o0 : Nat) (x1 : Int32) (x2 : Int32) (x3 : Int32) (x4 : Int32) (x5 : Int32) (s : h_S), K18 o0 x1 x2 x3 x4 x5 s → h_V X 7 18 [(0, pR (some o0)), (1, pI x1), (2, pI x2), (3, pI x3), (4, pI x4), (5, pI x5)] [] s 0 0) {o0 : Nat} {x1 : Int32} {x2 : Int32} {x3 : Int32} {x4 : Int32} {x5 : Int32} (s : h_S) (h : w_X11_reason_69 Q K18 o0 x1 x2 x3 x4 x5 s) : h_V X 7 69 [(0, pR (some o0)), (1, pI x1), (2, pI x2), (3, pI x3), (4, pI x4), (5, pI x5)] [] s 0 0 := by
  unfold w_X11_reason_69 at h
  refine v_iinc (c := 1) (lv' := [(5, _), (0, _), (1, _), (2, _), (3, _), (4, _)]) hX dX11_reason_69 5 rfl (by decide) (by decide) rfl ?_
  refine v_goto (tgt := 18) hX dX11_reason_72 (by decide) ?_
  refine v_pick [1, 2, 3, 4, 5, 0] rfl ?_
  exact hK18 _ _ _ _ _ _ _ h
set_option maxRecDepth 100000 in
set_option maxHeartbeats 4000000 in
theorem b_X11_reason_18 {X : h_X} (hX : h_ok X cX11_reason 7 RX11 3 67) {Q : Int32 → h_S → Prop} (hE : h_end X (some .int) (h_QI (x_Z X) Q)) : ∀ (n : Nat) (o0 : Nat) (x1 : Int32) (x2 : Int32) (x3 : Int32) (x4 : Int32) (x5 : Int32) (s : h_S), w_X11_reason_18 Q n o0 x1 x2 x3 x4 x5 s → h_V X 7 18 [(0, pR (some o0)), (1, pI x1), (2, pI x2), (3, pI x3), (4, pI x4), (5, pI x5)] [] s 0 0 := by
  intro n
  induction n with
  | zero => intro _ _ _ _ _ _ s h; exact h.elim
  | succ n hK18 =>
    intro o0 x1 x2 x3 x4 x5 s h
    have h : w_X11_reason_18b Q (w_X11_reason_18 Q n) o0 x1 x2 x3 x4 x5 s := h
    unfold w_X11_reason_18b at h
    refine v_iload hX dX11_reason_18 5 rfl ?_
    refine v_aload_n hX dX11_reason_20 0 rfl rfl ?_
    obtain ⟨k1, h⟩ := h
    refine v_getR hX dX11_reason_21 f_RX11_38 rfl k1 ?_
    obtain ⟨a2, e_a2, h⟩ := h
    refine v_nn0 e_a2 ?_
    obtain ⟨k3, h⟩ := h
    refine v_callVi0 hX dX11_reason_24 c_RX11_244 cV_Jx4a65c_size_8abf5 (ci := 0) (T := TJx4a65c) (N := 3) rfl (by exact k3) [] rfl rfl (Nat.le_of_ble_eq_true rfl) (by decide) (by decide)  (m_Jx4a65c_size_8abf5 h) (fun p5 s4 h => ?_)
    refine v_icmp_ge (tgt := 75) hX dX11_reason_27 (by decide) (fun c6 => ?_) (fun c6 => ?_)
    · have h := h_T c6 h
      refine v_bipush (v := -9) hX dX11_reason_75 (by decide) ?_
      exact v_iret hX hE dX11_reason_77 h
    · have h := h_E c6 h
      refine v_aload_n hX dX11_reason_30 0 rfl rfl ?_
      obtain ⟨k7, h⟩ := h
      refine v_getR hX dX11_reason_31 f_RX11_38 rfl k7 ?_
      refine v_iload hX dX11_reason_34 5 rfl ?_
      obtain ⟨a8, e_a8, h⟩ := h
      refine v_nn1 e_a8 ?_
      obtain ⟨k9, h⟩ := h
      refine v_callVr0 hX dX11_reason_36 c_RX11_312 cV_Jx4a65c_get_915e3 (ci := 0) (T := TJx4a65c) (N := 3) rfl (by exact k9) [pI _] rfl rfl (Nat.le_of_ble_eq_true rfl) (by decide) (by decide)  (m_Jx4a65c_get_915e3 h) (fun p11 s10 h => ?_)
      obtain ⟨b12, h⟩ := h
      refine v_cast (ci := 4) hX dX11_reason_39 kl_RX11_382 rfl b12 ?_
      refine v_astore (lv' := [(6, _), (0, _), (1, _), (2, _), (3, _), (4, _), (5, _)]) hX dX11_reason_42 (by decide) rfl ?_
      refine v_aload hX dX11_reason_44 0 rfl ?_
      obtain ⟨a13, e_a13, h⟩ := h
      refine v_nn0 e_a13 ?_
      obtain ⟨k14, h⟩ := h
      refine v_getI hX dX11_reason_46 f_RX11_398 rfl k14 ?_
      refine v_iload_n hX dX11_reason_49 3 rfl rfl ?_
      refine v_icmp_ne (tgt := 69) hX dX11_reason_50 (by decide) (fun c15 => ?_) (fun c15 => ?_)
      · have h := h_E c15 h
        refine v_pick [1, 2, 3, 4, 5, 6] rfl ?_
        exact b_X11_reason_69 hX hE hK18 _ h
      · have h := h_T c15 h
        refine v_aload_n hX dX11_reason_53 1 rfl rfl ?_
        refine v_aload hX dX11_reason_54 0 rfl ?_
        refine v_iload_n hX dX11_reason_56 2 rfl rfl ?_
        refine v_iload_n hX dX11_reason_57 4 rfl rfl ?_
        refine v_iload hX dX11_reason_58 5 rfl ?_
        obtain ⟨k16, h⟩ := h
        refine v_callVi0 hX dX11_reason_60 c_RX11_394 cV_X11_allows (ci := 12) (T := TX11) (N := 19) rfl (by exact k16) [pR _, pI _, pI _, pI _] rfl rfl (Nat.le_of_ble_eq_true rfl) (by decide) (by decide)  (m_X11_allows h) (fun p18 s17 h => ?_)
        refine v_if_eq (tgt := 69) hX dX11_reason_63 (by decide) (fun c19 => ?_) (fun c19 => ?_)
        · have h := h_T c19 h
          refine v_pick [1, 2, 3, 4, 5, 6] rfl ?_
          exact b_X11_reason_69 hX hE hK18 _ h
        · have h := h_E c19 h
          refine v_iload hX dX11_reason_66 6 rfl ?_
          exact v_iret hX hE dX11_reason_68 h
set_option maxRecDepth 100000 in
set_option maxHeartbeats 4000000 in
theorem m_X11_reason {Z : h_Z} {o0 : Nat} {x1 : Int32} {x2 : Int32} {x3 : Int32} {x4 : Int32} {s : h_S} {Q : Int32 → h_S → Prop} (h : w_X11_reason o0 x1 x2 x3 x4 s Q) : h_M Z yX11_reason cX11_reason 7 (some .int) 3 67 [pR (some o0), pI x1, pI x2, pI x3, pI x4] s 0 0 (h_QI Z Q) := by
  refine h_M.of (by decide) (Nat.le_of_ble_eq_true rfl) (fun X hZ hX hE hI => ?_)
  subst hZ
  unfold w_X11_reason at h
  show h_V X 7 0 [(0, pR (some o0)), (1, pI x1), (2, pI x2), (3, pI x3), (4, pI x4)] [] s 0 0
  refine v_aload_n hX dX11_reason_0 0 rfl rfl ?_
  obtain ⟨k1, h⟩ := h
  refine v_getR hX dX11_reason_1 f_RX11_21 rfl k1 ?_
  refine v_iload_n hX dX11_reason_4 2 rfl rfl ?_
  obtain ⟨a2, e_a2, h⟩ := h
  refine v_nn1 e_a2 ?_
  obtain ⟨k3, h⟩ := h
  refine v_callVi0 hX dX11_reason_5 c_RX11_139 cV_X7_ownerOf (ci := 8) (T := TX7) (N := 13) rfl (by exact k3) [pI _] rfl rfl (Nat.le_of_ble_eq_true rfl) (by decide) (by decide)  (m_X7_ownerOf h) (fun p5 s4 h => ?_)
  refine v_iload_n hX dX11_reason_8 1 rfl rfl ?_
  refine v_icmp_ne (tgt := 15) hX dX11_reason_9 (by decide) (fun c6 => ?_) (fun c6 => ?_)
  · have h := h_E c6 h
    refine v_iconst (v := 0) hX dX11_reason_15 (by decide) ?_
    refine v_istore (lv' := [(5, _), (0, _), (1, _), (2, _), (3, _), (4, _)]) hX dX11_reason_16 (by decide) rfl ?_
    refine v_pick [1, 2, 3, 4, 5, 0] rfl ?_
    obtain ⟨n, h⟩ := h
    exact b_X11_reason_18 hX hE n _ _ _ _ _ _ _ h
  · have h := h_T c6 h
    refine v_bipush (v := 99) hX dX11_reason_12 (by decide) ?_
    exact v_iret hX hE dX11_reason_14 h
set_option maxRecDepth 100000 in
set_option maxHeartbeats 4000000 in
theorem b_X11_mayUse_19 {X : h_X} (hX : h_ok X cX11_mayUse 5 RX11 4 93) {Q : Int32 → h_S → Prop} (hE : h_end X (some .boolean) (h_QI (x_Z X) Q)) {y0 : Int32} (s : h_S) (h : w_X11_mayUse_19 Q y0 s) : h_V X 5 19 [] [pI y0] s 0 0 := by
  unfold w_X11_mayUse_19 at h
  exact v_zret hX hE dX11_mayUse_19 h.1 h.2
set_option maxRecDepth 100000 in
set_option maxHeartbeats 4000000 in
theorem m_X11_mayUse {Z : h_Z} {o0 : Nat} {x1 : Int32} {x2 : Int32} {x3 : Int32} {x4 : Int32} {s : h_S} {Q : Int32 → h_S → Prop} (h : w_X11_mayUse o0 x1 x2 x3 x4 s Q) : h_M Z yX11_mayUse cX11_mayUse 5 (some .boolean) 4 93 [pR (some o0), pI x1, pI x2, pI x3, pI x4] s 0 0 (h_QI Z Q) := by
  refine h_M.of (by decide) (Nat.le_of_ble_eq_true rfl) (fun X hZ hX hE hI => ?_)
  subst hZ
  unfold w_X11_mayUse at h
  show h_V X 5 0 [(0, pR (some o0)), (1, pI x1), (2, pI x2), (3, pI x3), (4, pI x4)] [] s 0 0
  refine v_aload_n hX dX11_mayUse_0 0 rfl rfl ?_
  refine v_iload_n hX dX11_mayUse_1 1 rfl rfl ?_
  refine v_iload_n hX dX11_mayUse_2 2 rfl rfl ?_
  refine v_iload_n hX dX11_mayUse_3 3 rfl rfl ?_
  refine v_iload hX dX11_mayUse_4 4 rfl ?_
  obtain ⟨k1, h⟩ := h
  refine v_callVi0 hX dX11_mayUse_6 c_RX11_424 cV_X11_reason (ci := 12) (T := TX11) (N := 19) rfl (by exact k1) [pI _, pI _, pI _, pI _] rfl rfl (Nat.le_of_ble_eq_true rfl) (by decide) (by decide)  (m_X11_reason h) (fun p3 s2 h => ?_)
  refine v_bipush (v := -9) hX dX11_mayUse_9 (by decide) ?_
  refine v_icmp_eq (tgt := 18) hX dX11_mayUse_11 (by decide) (fun c4 => ?_) (fun c4 => ?_)
  · have h := h_T c4 h
    refine v_iconst (v := 0) hX dX11_mayUse_18 (by decide) ?_
    refine v_pick [] rfl ?_
    exact b_X11_mayUse_19 hX hE _ h
  · have h := h_E c4 h
    refine v_iconst (v := 1) hX dX11_mayUse_14 (by decide) ?_
    refine v_goto (tgt := 19) hX dX11_mayUse_15 (by decide) ?_
    refine v_pick [] rfl ?_
    exact b_X11_mayUse_19 hX hE _ h
set_option maxRecDepth 100000 in
set_option maxHeartbeats 4000000 in
theorem b_X11_usable_39 {X : h_X} (hX : h_ok X cX11_usable 6 RX11 5 117) {Q : Int32 → h_S → Prop} (hE : h_end X (some .int) (h_QI (x_Z X) Q)) {K6 : Nat → Int32 → Int32 → Int32 → Int32 → Int32 → h_S → Prop} (hK6 : ∀ (o0 : Nat) (x1 : Int32) (x2 : Int32) (x3 : Int32) (x4 : Int32) (x5 : Int32) (s : h_S), K6 o0 x1 x2 x3 x4 x5 s → h_V X 6 6 [(0, pR (some o0)), (1, pI x1), (2, pI x2), (3, pI x3), (4, pI x4), (5, pI x5)] [] s 0 0) {o0 : Nat} {x1 : Int32} {x2 : Int32} {x3 : Int32} {x4 : Int32} {x5 : Int32} (s : h_S) (h : w_X11_usable_39 Q K6 o0 x1 x2 x3 x4 x5 s) : h_V X 6 39 [(0, pR (some o0)), (1, pI x1), (2, pI x2), (3, pI x3), (4, pI x4), (5, pI x5)] [] s 0 0 := by
  unfold w_X11_usable_39 at h
  refine v_iinc (c := 1) (lv' := [(5, _), (0, _), (1, _), (2, _), (3, _), (4, _)]) hX dX11_usable_39 5 rfl (by decide) (by decide) rfl ?_
  refine v_goto (tgt := 6) hX dX11_usable_42 (by decide) ?_
  refine v_pick [1, 2, 3, 4, 5, 0] rfl ?_
  exact hK6 _ _ _ _ _ _ _ h
set_option maxRecDepth 100000 in
set_option maxHeartbeats 4000000 in
theorem b_X11_usable_6 {X : h_X} (hX : h_ok X cX11_usable 6 RX11 5 117) {Q : Int32 → h_S → Prop} (hE : h_end X (some .int) (h_QI (x_Z X) Q)) : ∀ (n : Nat) (o0 : Nat) (x1 : Int32) (x2 : Int32) (x3 : Int32) (x4 : Int32) (x5 : Int32) (s : h_S), w_X11_usable_6 Q n o0 x1 x2 x3 x4 x5 s → h_V X 6 6 [(0, pR (some o0)), (1, pI x1), (2, pI x2), (3, pI x3), (4, pI x4), (5, pI x5)] [] s 0 0 := by
  intro n
  induction n with
  | zero => intro _ _ _ _ _ _ s h; exact h.elim
  | succ n hK6 =>
    intro o0 x1 x2 x3 x4 x5 s h
    have h : w_X11_usable_6b Q (w_X11_usable_6 Q n) o0 x1 x2 x3 x4 x5 s := h
    unfold w_X11_usable_6b at h
    refine v_iload hX dX11_usable_6 5 rfl ?_
    refine v_aload_n hX dX11_usable_8 0 rfl rfl ?_
    obtain ⟨k1, h⟩ := h
    refine v_getR hX dX11_usable_9 f_RX11_21 rfl k1 ?_
    obtain ⟨a2, e_a2, h⟩ := h
    refine v_nn0 e_a2 ?_
    obtain ⟨k3, h⟩ := h
    refine v_getI hX dX11_usable_12 f_RX11_542 rfl k3 ?_
    refine v_icmp_ge (tgt := 45) hX dX11_usable_15 (by decide) (fun c4 => ?_) (fun c4 => ?_)
    · have h := h_T c4 h
      refine v_iload hX dX11_usable_45 4 rfl ?_
      exact v_iret hX hE dX11_usable_47 h
    · have h := h_E c4 h
      refine v_aload_n hX dX11_usable_18 0 rfl rfl ?_
      refine v_iload_n hX dX11_usable_19 1 rfl rfl ?_
      refine v_iload hX dX11_usable_20 5 rfl ?_
      refine v_iload_n hX dX11_usable_22 2 rfl rfl ?_
      refine v_iload_n hX dX11_usable_23 3 rfl rfl ?_
      refine v_callVi0 hX dX11_usable_24 c_RX11_159 cV_X11_mayUse (ci := 12) (T := TX11) (N := 19) rfl (by exact k1) [pI _, pI _, pI _, pI _] rfl rfl (Nat.le_of_ble_eq_true rfl) (by decide) (by decide)  (m_X11_mayUse h) (fun p6 s5 h => ?_)
      refine v_if_eq (tgt := 39) hX dX11_usable_27 (by decide) (fun c7 => ?_) (fun c7 => ?_)
      · have h := h_T c7 h
        refine v_pick [0, 1, 2, 3, 4, 5] rfl ?_
        exact b_X11_usable_39 hX hE hK6 _ h
      · have h := h_E c7 h
        refine v_iload hX dX11_usable_30 4 rfl ?_
        refine v_iconst (v := 1) hX dX11_usable_32 (by decide) ?_
        refine v_iload hX dX11_usable_33 5 rfl ?_
        refine v_ishl hX dX11_usable_35 ?_
        refine v_ior hX dX11_usable_36 ?_
        refine v_istore (lv' := [(4, _), (0, _), (1, _), (2, _), (3, _), (5, _)]) hX dX11_usable_37 (by decide) rfl ?_
        refine v_pick [1, 2, 3, 4, 0, 5] rfl ?_
        exact b_X11_usable_39 hX hE hK6 _ h
set_option maxRecDepth 100000 in
set_option maxHeartbeats 4000000 in
theorem m_X11_usable {Z : h_Z} {o0 : Nat} {x1 : Int32} {x2 : Int32} {x3 : Int32} {s : h_S} {Q : Int32 → h_S → Prop} (h : w_X11_usable o0 x1 x2 x3 s Q) : h_M Z yX11_usable cX11_usable 6 (some .int) 5 117 [pR (some o0), pI x1, pI x2, pI x3] s 0 0 (h_QI Z Q) := by
  refine h_M.of (by decide) (Nat.le_of_ble_eq_true rfl) (fun X hZ hX hE hI => ?_)
  subst hZ
  unfold w_X11_usable at h
  show h_V X 6 0 [(0, pR (some o0)), (1, pI x1), (2, pI x2), (3, pI x3)] [] s 0 0
  refine v_iconst (v := 0) hX dX11_usable_0 (by decide) ?_
  refine v_istore (lv' := [(4, _), (0, _), (1, _), (2, _), (3, _)]) hX dX11_usable_1 (by decide) rfl ?_
  refine v_iconst (v := 0) hX dX11_usable_3 (by decide) ?_
  refine v_istore (lv' := [(5, _), (4, _), (0, _), (1, _), (2, _), (3, _)]) hX dX11_usable_4 (by decide) rfl ?_
  refine v_pick [2, 3, 4, 5, 1, 0] rfl ?_
  obtain ⟨n, h⟩ := h
  exact b_X11_usable_6 hX hE n _ _ _ _ _ _ _ h
set_option maxRecDepth 100000 in
set_option maxHeartbeats 4000000 in
theorem b_X11_showsWith_40 {X : h_X} (hX : h_ok X cX11_showsWith 4 RX11 18 533) {Q : Int32 → h_S → Prop} (hE : h_end X (some .int) (h_QI (x_Z X) Q)) {y0 : Int32} (s : h_S) {bc bs : Nat} (h : w_X11_showsWith_40 Q y0 s bc bs) : h_V X 4 40 [] [pI y0] s bc bs := by
  unfold w_X11_showsWith_40 at h
  exact v_iret hX hE dX11_showsWith_40 h
set_option maxRecDepth 100000 in
set_option maxHeartbeats 4000000 in
theorem m_X11_showsWith {Z : h_Z} {o0 : Nat} {x1 : Int32} {x2 : Int32} {r3 : Option Nat} {s : h_S} {mc ms : Nat} {Q : Int32 → h_S → Prop} (h : w_X11_showsWith o0 x1 x2 r3 s mc ms Q) : h_M Z yX11_showsWith cX11_showsWith 4 (some .int) 18 533 [pR (some o0), pI x1, pI x2, pR r3] s mc ms (h_QI Z Q) := by
  refine h_M.of (by decide) (Nat.le_of_ble_eq_true rfl) (fun X hZ hX hE hI => ?_)
  subst hZ
  unfold w_X11_showsWith at h
  show h_V X 4 0 [(0, pR (some o0)), (1, pI x1), (2, pI x2), (3, pR r3)] [] s mc ms
  refine v_aload_n hX dX11_showsWith_0 0 rfl rfl ?_
  obtain ⟨k1, h⟩ := h
  refine v_getR hX dX11_showsWith_1 f_RX11_21 rfl k1 ?_
  refine v_iload_n hX dX11_showsWith_4 1 rfl rfl ?_
  refine v_iload_n hX dX11_showsWith_5 2 rfl rfl ?_
  refine v_aload_n hX dX11_showsWith_6 3 rfl rfl ?_
  refine v_aload_n hX dX11_showsWith_7 0 rfl rfl ?_
  refine v_getI hX dX11_showsWith_8 f_RX11_82 rfl k1 ?_
  obtain ⟨a2, e_a2, h⟩ := h
  refine v_nn4 e_a2 ?_
  obtain ⟨k3, h⟩ := h
  obtain ⟨mc6, ms7, b8, b9, h⟩ := h
  refine v_callVi hX dX11_showsWith_11 c_RX11_122 cV_X7_bring (ci := 8) (T := TX7) (N := 13) rfl (by exact k3) [pI _, pI _, pR _, pI _] rfl rfl (Nat.le_of_ble_eq_true rfl) (by decide) (by decide) b8 b9 (m_X7_bring h) (fun p5 s4 h => ?_)
  refine v_if_eq (tgt := 38) hX dX11_showsWith_14 (by decide) (fun c10 => ?_) (fun c10 => ?_)
  · have h := h_T c10 h
    refine v_bipush (v := -4) hX dX11_showsWith_38 (by decide) ?_
    refine v_pick [] rfl ?_
    exact b_X11_showsWith_40 hX hE _ h
  · have h := h_E c10 h
    refine v_aload_n hX dX11_showsWith_17 0 rfl rfl ?_
    refine v_aload_n hX dX11_showsWith_18 0 rfl rfl ?_
    obtain ⟨k11, h⟩ := h
    refine v_getR hX dX11_showsWith_19 f_RX11_21 rfl k11 ?_
    refine v_iload_n hX dX11_showsWith_22 1 rfl rfl ?_
    refine v_aload_n hX dX11_showsWith_23 0 rfl rfl ?_
    refine v_getI hX dX11_showsWith_24 f_RX11_82 rfl k11 ?_
    refine v_iconst (v := 1) hX dX11_showsWith_27 (by decide) ?_
    refine v_iadd hX dX11_showsWith_28 ?_
    obtain ⟨a12, e_a12, h⟩ := h
    refine v_nn2 e_a12 ?_
    obtain ⟨k13, h⟩ := h
    obtain ⟨mc16, ms17, b18, b19, h⟩ := h
    refine v_callVi hX dX11_showsWith_29 c_RX11_170 cV_X7_sizeAsOf (ci := 8) (T := TX7) (N := 13) rfl (by exact k13) [pI _, pI _] rfl rfl (Nat.le_of_ble_eq_true rfl) (by decide) (by decide) b18 b19 (m_X7_sizeAsOf h) (fun p15 s14 h => ?_)
    obtain ⟨k20, h⟩ := h
    refine v_callVi0 hX dX11_showsWith_32 c_RX11_74 cV_X11_acted (ci := 12) (T := TX11) (N := 19) rfl (by exact k20) [pI _] rfl rfl (Nat.le_of_ble_eq_true rfl) (by decide) (by decide)  (m_X11_acted h) (fun p22 s21 h => ?_)
    refine v_goto (tgt := 40) hX dX11_showsWith_35 (by decide) ?_
    refine v_pick [] rfl ?_
    exact b_X11_showsWith_40 hX hE _ h
set_option maxRecDepth 100000 in
set_option maxHeartbeats 4000000 in
theorem m_X11_seen {Z : h_Z} {o0 : Nat} {x1 : Int32} {x2 : Int32} {x3 : Int32} {x4 : Int32} {s : h_S} {mc ms : Nat} {Q : Int32 → h_S → Prop} (h : w_X11_seen o0 x1 x2 x3 x4 s mc ms Q) : h_M Z yX11_seen cX11_seen 5 (some .int) 19 556 [pR (some o0), pI x1, pI x2, pI x3, pI x4] s mc ms (h_QI Z Q) := by
  refine h_M.of (by decide) (Nat.le_of_ble_eq_true rfl) (fun X hZ hX hE hI => ?_)
  subst hZ
  unfold w_X11_seen at h
  show h_V X 5 0 [(0, pR (some o0)), (1, pI x1), (2, pI x2), (3, pI x3), (4, pI x4)] [] s mc ms
  refine v_aload_n hX dX11_seen_0 0 rfl rfl ?_
  refine v_iload_n hX dX11_seen_1 1 rfl rfl ?_
  refine v_iload_n hX dX11_seen_2 2 rfl rfl ?_
  obtain ⟨k1, h⟩ := h
  obtain ⟨mc4, ms5, b6, b7, h⟩ := h
  refine v_callVi hX dX11_seen_3 c_RX11_103 cV_X11_takesAhead (ci := 12) (T := TX11) (N := 19) rfl (by exact k1) [pI _, pI _] rfl rfl (Nat.le_of_ble_eq_true rfl) (by decide) (by decide) b6 b7 (m_X11_takesAhead h) (fun p3 s2 h => ?_)
  refine v_if_ne (tgt := 11) hX dX11_seen_6 (by decide) (fun c8 => ?_) (fun c8 => ?_)
  · have h := h_E c8 h
    refine v_iload hX dX11_seen_11 4 rfl ?_
    refine v_iconst (v := 1) hX dX11_seen_13 (by decide) ?_
    refine v_icmp_ge (tgt := 20) hX dX11_seen_14 (by decide) (fun c9 => ?_) (fun c9 => ?_)
    · have h := h_T c9 h
      refine v_aload_n hX dX11_seen_20 0 rfl rfl ?_
      obtain ⟨k10, h⟩ := h
      refine v_getR hX dX11_seen_21 f_RX11_21 rfl k10 ?_
      refine v_iload_n hX dX11_seen_24 3 rfl rfl ?_
      refine v_iload hX dX11_seen_25 4 rfl ?_
      obtain ⟨a11, e_a11, h⟩ := h
      refine v_nn2 e_a11 ?_
      obtain ⟨k12, h⟩ := h
      refine v_callVi0 hX dX11_seen_27 c_RX11_133 cV_X7_areWords (ci := 8) (T := TX7) (N := 13) rfl (by exact k12) [pI _, pI _] rfl rfl (Nat.le_of_ble_eq_true rfl) (by decide) (by decide)  (m_X7_areWords h) (fun p14 s13 h => ?_)
      refine v_if_ne (tgt := 35) hX dX11_seen_30 (by decide) (fun c15 => ?_) (fun c15 => ?_)
      · have h := h_E c15 h
        refine v_aload_n hX dX11_seen_35 0 rfl rfl ?_
        obtain ⟨k16, h⟩ := h
        refine v_getR hX dX11_seen_36 f_RX11_21 rfl k16 ?_
        refine v_iload_n hX dX11_seen_39 3 rfl rfl ?_
        refine v_iload hX dX11_seen_40 4 rfl ?_
        obtain ⟨a17, e_a17, h⟩ := h
        refine v_nn2 e_a17 ?_
        obtain ⟨k18, h⟩ := h
        refine v_callVi0 hX dX11_seen_42 c_RX11_136 cV_X7_homesOf (ci := 8) (T := TX7) (N := 13) rfl (by exact k18) [pI _, pI _] rfl rfl (Nat.le_of_ble_eq_true rfl) (by decide) (by decide)  (m_X7_homesOf h) (fun p20 s19 h => ?_)
        refine v_aload_n hX dX11_seen_45 0 rfl rfl ?_
        refine v_aload_n hX dX11_seen_46 0 rfl rfl ?_
        obtain ⟨k21, h⟩ := h
        refine v_getR hX dX11_seen_47 f_RX11_21 rfl k21 ?_
        refine v_iload_n hX dX11_seen_50 1 rfl rfl ?_
        obtain ⟨a22, e_a22, h⟩ := h
        refine v_nn1 e_a22 ?_
        obtain ⟨k23, h⟩ := h
        refine v_callVi0 hX dX11_seen_51 c_RX11_139 cV_X7_ownerOf (ci := 8) (T := TX7) (N := 13) rfl (by exact k23) [pI _] rfl rfl (Nat.le_of_ble_eq_true rfl) (by decide) (by decide)  (m_X7_ownerOf h) (fun p25 s24 h => ?_)
        refine v_iconst (v := 1) hX dX11_seen_54 (by decide) ?_
        refine v_aload_n hX dX11_seen_55 0 rfl rfl ?_
        obtain ⟨k26, h⟩ := h
        refine v_getI hX dX11_seen_56 f_RX11_82 rfl k26 ?_
        refine v_callVi0 hX dX11_seen_59 c_RX11_142 cV_X11_usable (ci := 12) (T := TX11) (N := 19) rfl (by exact k26) [pI _, pI _, pI _] rfl rfl (Nat.le_of_ble_eq_true rfl) (by decide) (by decide)  (m_X11_usable h) (fun p28 s27 h => ?_)
        refine v_iconst (v := -1) hX dX11_seen_62 (by decide) ?_
        refine v_ixor hX dX11_seen_63 ?_
        refine v_iand hX dX11_seen_64 ?_
        refine v_if_eq (tgt := 71) hX dX11_seen_65 (by decide) (fun c29 => ?_) (fun c29 => ?_)
        · have h := h_T c29 h
          refine v_aload_n hX dX11_seen_71 0 rfl rfl ?_
          refine v_iload_n hX dX11_seen_72 1 rfl rfl ?_
          refine v_iload_n hX dX11_seen_73 2 rfl rfl ?_
          obtain ⟨b32, b33, h⟩ := h
          refine v_new hX dX11_seen_74 n_RX11_117 b32 b33 (fun q30 k31 => ?_)
          have h := h q30 k31
          refine v_dup hX dX11_seen_77 rfl ?_
          refine v_iconst (v := 1) hX dX11_seen_78 (by decide) ?_
          refine v_iload_n hX dX11_seen_79 3 rfl rfl ?_
          refine v_iload hX dX11_seen_80 4 rfl ?_
          refine v_bipush (v := -9) hX dX11_seen_82 (by decide) ?_
          refine v_bipush (v := -9) hX dX11_seen_84 (by decide) ?_
          refine v_callIv0 hX dX11_seen_86 c_RX11_119 cI_X2_init [pI _, pI _, pI _, pI _, pI _] rfl rfl (Nat.le_of_ble_eq_true rfl) (by decide) (by decide)  (m_X2_init h) (fun s37 h => ?_)
          obtain ⟨k39, h⟩ := h
          obtain ⟨mc42, ms43, b44, b45, h⟩ := h
          refine v_callVi hX dX11_seen_89 c_RX11_146 cV_X11_showsWith (ci := 12) (T := TX11) (N := 19) rfl (by exact k39) [pI _, pI _, pR _] rfl rfl (Nat.le_of_ble_eq_true rfl) (by decide) (by decide) b44 b45 (m_X11_showsWith h) (fun p41 s40 h => ?_)
          exact v_iret hX hE dX11_seen_92 h
        · have h := h_E c29 h
          refine v_bipush (v := -3) hX dX11_seen_68 (by decide) ?_
          exact v_iret hX hE dX11_seen_70 h
      · have h := h_T c15 h
        refine v_iconst (v := -1) hX dX11_seen_33 (by decide) ?_
        exact v_iret hX hE dX11_seen_34 h
    · have h := h_E c9 h
      refine v_bipush (v := -2) hX dX11_seen_17 (by decide) ?_
      exact v_iret hX hE dX11_seen_19 h
  · have h := h_T c8 h
    refine v_iconst (v := -1) hX dX11_seen_9 (by decide) ?_
    exact v_iret hX hE dX11_seen_10 h
set_option maxRecDepth 100000 in
set_option maxHeartbeats 4000000 in
theorem b_X11_isMoment_17 {X : h_X} (hX : h_ok X cX11_isMoment 2 RX11 0 0) {Q : Int32 → h_S → Prop} (hE : h_end X (some .boolean) (h_QI (x_Z X) Q)) {y0 : Int32} (s : h_S) (h : w_X11_isMoment_17 Q y0 s) : h_V X 2 17 [] [pI y0] s 0 0 := by
  unfold w_X11_isMoment_17 at h
  exact v_zret hX hE dX11_isMoment_17 h.1 h.2
