set_option maxRecDepth 100000 in
set_option maxHeartbeats 4000000 in
theorem b_X12_link_250 {X : h_X} (hX : h_ok X cX12_link 6 RX12 2 46) {Q : Int32 → h_S → Prop} (hE : h_end X (some .int) (h_QI (x_Z X) Q)) {o0 : Nat} {y0 : Int32} {y1 : Int32} {t2 : Option Nat} (s : h_S) (h : w_X12_link_250 Q o0 y0 y1 t2 s) : h_V X 6 250 [(0, pR (some o0))] [pI y0, pI y1, pR t2] s 0 0 := by
  unfold w_X12_link_250 at h
  obtain ⟨a1, e_a1, h⟩ := h
  refine v_nn2 e_a1 ?_
  obtain ⟨k2, h⟩ := h
  obtain ⟨i3, h⟩ := h
  refine v_iast hX dX12_link_250 k2 i3 ?_
  refine v_aload_n hX dX12_link_251 0 rfl rfl ?_
  refine v_dup hX dX12_link_252 rfl ?_
  obtain ⟨k5, h⟩ := h
  refine v_getI hX dX12_link_253 f_RX12_513 rfl k5 ?_
  refine v_iconst (v := 1) hX dX12_link_256 (by decide) ?_
  refine v_iadd hX dX12_link_257 ?_
  refine v_putI hX dX12_link_258 f_RX12_513 k5 ?_
  refine v_aload_n hX dX12_link_261 0 rfl rfl ?_
  refine v_aload_n hX dX12_link_262 0 rfl rfl ?_
  refine v_aload_n hX dX12_link_263 0 rfl rfl ?_
  refine v_getI hX dX12_link_264 f_RX12_513 rfl k5 ?_
  refine v_iconst (v := 1) hX dX12_link_267 (by decide) ?_
  refine v_isub hX dX12_link_268 ?_
  refine v_callVi hX dX12_link_269 c_RX12_302 cV_X12_acted (ci := 13) (T := TX12) (N := 115) rfl (by exact k5) [pI _] rfl rfl (Nat.le_of_ble_eq_true rfl) (by decide) (by decide) (Nat.zero_le _) (Nat.zero_le _) (m_X12_acted h) (fun r8 s7 h => ?_)
  obtain ⟨k9, h⟩ := h
  refine v_callVi hX dX12_link_272 c_RX12_389 cV_X12_refused (ci := 13) (T := TX12) (N := 115) rfl (by exact k9) [pI _] rfl rfl (Nat.le_of_ble_eq_true rfl) (by decide) (by decide) (Nat.zero_le _) (Nat.zero_le _) (m_X12_refused h) (fun r11 s10 h => ?_)
  exact v_iret hX hE dX12_link_275 h
set_option maxRecDepth 100000 in
set_option maxHeartbeats 4000000 in
theorem b_X12_link_229 {X : h_X} (hX : h_ok X cX12_link 6 RX12 2 46) {Q : Int32 → h_S → Prop} (hE : h_end X (some .int) (h_QI (x_Z X) Q)) {o0 : Nat} {x1 : Int32} {x4 : Int32} {y0 : Int32} {y1 : Int32} {t2 : Option Nat} (s : h_S) (h : w_X12_link_229 Q o0 x1 x4 y0 y1 t2 s) : h_V X 6 229 [(0, pR (some o0)), (1, pI x1), (4, pI x4)] [pI y0, pI y1, pR t2] s 0 0 := by
  unfold w_X12_link_229 at h
  obtain ⟨a1, e_a1, h⟩ := h
  refine v_nn2 e_a1 ?_
  obtain ⟨k2, h⟩ := h
  obtain ⟨i3, h⟩ := h
  refine v_iast hX dX12_link_229 k2 i3 ?_
  refine v_aload_n hX dX12_link_230 0 rfl rfl ?_
  obtain ⟨k5, h⟩ := h
  refine v_getR hX dX12_link_231 f_RX12_216 rfl k5 ?_
  refine v_aload_n hX dX12_link_234 0 rfl rfl ?_
  refine v_getI hX dX12_link_235 f_RX12_513 rfl k5 ?_
  refine v_iload_n hX dX12_link_238 1 rfl rfl ?_
  refine v_iconst (v := 2) hX dX12_link_239 (by decide) ?_
  refine v_icmp_ne (tgt := 248) hX dX12_link_240 (by decide) (fun c6 => ?_) (fun c6 => ?_)
  · have h := h_E c6 h
    refine v_bipush (v := -9) hX dX12_link_248 (by decide) ?_
    refine v_pick [0] rfl ?_
    exact b_X12_link_250 hX hE _ h
  · have h := h_T c6 h
    refine v_iload hX dX12_link_243 2 rfl ?_
    refine v_goto (tgt := 250) hX dX12_link_245 (by decide) ?_
    refine v_pick [0] rfl ?_
    exact b_X12_link_250 hX hE _ h
set_option maxRecDepth 100000 in
set_option maxHeartbeats 4000000 in
theorem b_X12_link_203 {X : h_X} (hX : h_ok X cX12_link 6 RX12 2 46) {Q : Int32 → h_S → Prop} (hE : h_end X (some .int) (h_QI (x_Z X) Q)) {o0 : Nat} {x1 : Int32} {x4 : Int32} {x5 : Int32} {y0 : Int32} {y1 : Int32} {t2 : Option Nat} (s : h_S) (h : w_X12_link_203 Q o0 x1 x4 x5 y0 y1 t2 s) : h_V X 6 203 [(0, pR (some o0)), (1, pI x1), (4, pI x4), (5, pI x5)] [pI y0, pI y1, pR t2] s 0 0 := by
  unfold w_X12_link_203 at h
  obtain ⟨a1, e_a1, h⟩ := h
  refine v_nn2 e_a1 ?_
  obtain ⟨k2, h⟩ := h
  obtain ⟨i3, h⟩ := h
  refine v_iast hX dX12_link_203 k2 i3 ?_
  refine v_aload_n hX dX12_link_204 0 rfl rfl ?_
  obtain ⟨k5, h⟩ := h
  refine v_getR hX dX12_link_205 f_RX12_213 rfl k5 ?_
  refine v_aload_n hX dX12_link_208 0 rfl rfl ?_
  refine v_getI hX dX12_link_209 f_RX12_513 rfl k5 ?_
  refine v_iload_n hX dX12_link_212 1 rfl rfl ?_
  refine v_iconst (v := 2) hX dX12_link_213 (by decide) ?_
  refine v_icmp_ne (tgt := 227) hX dX12_link_214 (by decide) (fun c6 => ?_) (fun c6 => ?_)
  · have h := h_E c6 h
    refine v_iload hX dX12_link_227 3 rfl ?_
    refine v_pick [0, 1, 2] rfl ?_
    exact b_X12_link_229 hX hE _ h
  · have h := h_T c6 h
    refine v_aload_n hX dX12_link_217 0 rfl rfl ?_
    refine v_getR hX dX12_link_218 f_RX12_207 rfl k5 ?_
    refine v_iload hX dX12_link_221 2 rfl ?_
    obtain ⟨a7, e_a7, h⟩ := h
    refine v_nn1 e_a7 ?_
    obtain ⟨k8, h⟩ := h
    obtain ⟨i9, h⟩ := h
    refine v_iald hX dX12_link_223 k8 i9 ?_
    refine v_goto (tgt := 229) hX dX12_link_224 (by decide) ?_
    refine v_pick [0, 1, 2] rfl ?_
    exact b_X12_link_229 hX hE _ h
set_option maxRecDepth 100000 in
set_option maxHeartbeats 4000000 in
theorem b_X12_link_132 {X : h_X} (hX : h_ok X cX12_link 6 RX12 2 46) {Q : Int32 → h_S → Prop} (hE : h_end X (some .int) (h_QI (x_Z X) Q)) {o0 : Nat} {x1 : Int32} {x2 : Int32} {x3 : Int32} {x4 : Int32} {x5 : Int32} (s : h_S) (h : w_X12_link_132 Q o0 x1 x2 x3 x4 x5 s) : h_V X 6 132 [(0, pR (some o0)), (1, pI x1), (2, pI x2), (3, pI x3), (4, pI x4), (5, pI x5)] [] s 0 0 := by
  unfold w_X12_link_132 at h
  refine v_aload_n hX dX12_link_132 0 rfl rfl ?_
  obtain ⟨k1, h⟩ := h
  refine v_getI hX dX12_link_133 f_RX12_513 rfl k1 ?_
  refine v_bipush (v := 24) hX dX12_link_136 (by decide) ?_
  refine v_icmp_ne (tgt := 148) hX dX12_link_138 (by decide) (fun c2 => ?_) (fun c2 => ?_)
  · have h := h_E c2 h
    refine v_aload_n hX dX12_link_148 0 rfl rfl ?_
    refine v_getR hX dX12_link_149 f_RX12_201 rfl k1 ?_
    refine v_aload_n hX dX12_link_152 0 rfl rfl ?_
    refine v_getI hX dX12_link_153 f_RX12_513 rfl k1 ?_
    refine v_iload_n hX dX12_link_156 1 rfl rfl ?_
    obtain ⟨a3, e_a3, h⟩ := h
    refine v_nn2 e_a3 ?_
    obtain ⟨k4, h⟩ := h
    obtain ⟨i5, h⟩ := h
    refine v_iast hX dX12_link_157 k4 i5 ?_
    refine v_aload_n hX dX12_link_158 0 rfl rfl ?_
    refine v_getR hX dX12_link_159 f_RX12_204 rfl k1 ?_
    refine v_aload_n hX dX12_link_162 0 rfl rfl ?_
    refine v_getI hX dX12_link_163 f_RX12_513 rfl k1 ?_
    refine v_iload_n hX dX12_link_166 2 rfl rfl ?_
    obtain ⟨a7, e_a7, h⟩ := h
    refine v_nn2 e_a7 ?_
    obtain ⟨k8, h⟩ := h
    obtain ⟨i9, h⟩ := h
    refine v_iast hX dX12_link_167 k8 i9 ?_
    refine v_aload_n hX dX12_link_168 0 rfl rfl ?_
    refine v_getR hX dX12_link_169 f_RX12_207 rfl k1 ?_
    refine v_aload_n hX dX12_link_172 0 rfl rfl ?_
    refine v_getI hX dX12_link_173 f_RX12_513 rfl k1 ?_
    refine v_iload_n hX dX12_link_176 3 rfl rfl ?_
    obtain ⟨a11, e_a11, h⟩ := h
    refine v_nn2 e_a11 ?_
    obtain ⟨k12, h⟩ := h
    obtain ⟨i13, h⟩ := h
    refine v_iast hX dX12_link_177 k12 i13 ?_
    refine v_aload_n hX dX12_link_178 0 rfl rfl ?_
    refine v_getR hX dX12_link_179 f_RX12_210 rfl k1 ?_
    refine v_aload_n hX dX12_link_182 0 rfl rfl ?_
    refine v_getI hX dX12_link_183 f_RX12_513 rfl k1 ?_
    refine v_iload_n hX dX12_link_186 1 rfl rfl ?_
    refine v_iconst (v := 2) hX dX12_link_187 (by decide) ?_
    refine v_icmp_ne (tgt := 201) hX dX12_link_188 (by decide) (fun c15 => ?_) (fun c15 => ?_)
    · have h := h_E c15 h
      refine v_iload hX dX12_link_201 4 rfl ?_
      refine v_pick [0, 1, 4, 5] rfl ?_
      exact b_X12_link_203 hX hE _ h
    · have h := h_T c15 h
      refine v_aload_n hX dX12_link_191 0 rfl rfl ?_
      refine v_getR hX dX12_link_192 f_RX12_204 rfl k1 ?_
      refine v_iload hX dX12_link_195 4 rfl ?_
      obtain ⟨a16, e_a16, h⟩ := h
      refine v_nn1 e_a16 ?_
      obtain ⟨k17, h⟩ := h
      obtain ⟨i18, h⟩ := h
      refine v_iald hX dX12_link_197 k17 i18 ?_
      refine v_goto (tgt := 203) hX dX12_link_198 (by decide) ?_
      refine v_pick [0, 1, 4, 5] rfl ?_
      exact b_X12_link_203 hX hE _ h
  · have h := h_T c2 h
    refine v_aload_n hX dX12_link_141 0 rfl rfl ?_
    refine v_bipush (v := -4) hX dX12_link_142 (by decide) ?_
    refine v_callVi hX dX12_link_144 c_RX12_389 cV_X12_refused (ci := 13) (T := TX12) (N := 115) rfl (by exact k1) [pI _] rfl rfl (Nat.le_of_ble_eq_true rfl) (by decide) (by decide) (Nat.zero_le _) (Nat.zero_le _) (m_X12_refused h) (fun r20 s19 h => ?_)
    exact v_iret hX hE dX12_link_147 h
set_option maxRecDepth 100000 in
set_option maxHeartbeats 4000000 in
theorem b_X12_link_107 {X : h_X} (hX : h_ok X cX12_link 6 RX12 2 46) {Q : Int32 → h_S → Prop} (hE : h_end X (some .int) (h_QI (x_Z X) Q)) {o0 : Nat} {x1 : Int32} {x2 : Int32} {x3 : Int32} {x4 : Int32} {x5 : Int32} (s : h_S) (h : w_X12_link_107 Q o0 x1 x2 x3 x4 x5 s) : h_V X 6 107 [(0, pR (some o0)), (1, pI x1), (2, pI x2), (3, pI x3), (4, pI x4), (5, pI x5)] [] s 0 0 := by
  unfold w_X12_link_107 at h
  refine v_iload_n hX dX12_link_107 1 rfl rfl ?_
  refine v_iconst (v := 4) hX dX12_link_108 (by decide) ?_
  refine v_icmp_ne (tgt := 132) hX dX12_link_109 (by decide) (fun c1 => ?_) (fun c1 => ?_)
  · have h := h_E c1 h
    refine v_pick [0, 1, 2, 3, 4, 5] rfl ?_
    exact b_X12_link_132 hX hE _ h
  · have h := h_T c1 h
    refine v_aload_n hX dX12_link_112 0 rfl rfl ?_
    refine v_iload_n hX dX12_link_113 2 rfl rfl ?_
    refine v_iload_n hX dX12_link_114 3 rfl rfl ?_
    refine v_iload hX dX12_link_115 4 rfl ?_
    refine v_iload hX dX12_link_117 5 rfl ?_
    obtain ⟨k2, h⟩ := h
    refine v_callVi hX dX12_link_119 c_RX12_524 cV_X12_areAlike (ci := 13) (T := TX12) (N := 115) rfl (by exact k2) [pI _, pI _, pI _, pI _] rfl rfl (Nat.le_of_ble_eq_true rfl) (by decide) (by decide) (Nat.zero_le _) (Nat.zero_le _) (m_X12_areAlike h) (fun r4 s3 h => ?_)
    refine v_if_eq (tgt := 132) hX dX12_link_122 (by decide) (fun c5 => ?_) (fun c5 => ?_)
    · have h := h_T c5 h
      refine v_pick [0, 1, 2, 3, 4, 5] rfl ?_
      exact b_X12_link_132 hX hE _ h
    · have h := h_E c5 h
      refine v_aload_n hX dX12_link_125 0 rfl rfl ?_
      refine v_bipush (v := -3) hX dX12_link_126 (by decide) ?_
      obtain ⟨k6, h⟩ := h
      refine v_callVi hX dX12_link_128 c_RX12_389 cV_X12_refused (ci := 13) (T := TX12) (N := 115) rfl (by exact k6) [pI _] rfl rfl (Nat.le_of_ble_eq_true rfl) (by decide) (by decide) (Nat.zero_le _) (Nat.zero_le _) (m_X12_refused h) (fun r8 s7 h => ?_)
      exact v_iret hX hE dX12_link_131 h
set_option maxRecDepth 100000 in
set_option maxHeartbeats 4000000 in
theorem b_X12_link_78 {X : h_X} (hX : h_ok X cX12_link 6 RX12 2 46) {Q : Int32 → h_S → Prop} (hE : h_end X (some .int) (h_QI (x_Z X) Q)) {o0 : Nat} {x1 : Int32} {x2 : Int32} {x3 : Int32} {x4 : Int32} {x5 : Int32} (s : h_S) (h : w_X12_link_78 Q o0 x1 x2 x3 x4 x5 s) : h_V X 6 78 [(0, pR (some o0)), (1, pI x1), (2, pI x2), (3, pI x3), (4, pI x4), (5, pI x5)] [] s 0 0 := by
  unfold w_X12_link_78 at h
  refine v_iload_n hX dX12_link_78 1 rfl rfl ?_
  refine v_iconst (v := 2) hX dX12_link_79 (by decide) ?_
  refine v_icmp_ne (tgt := 107) hX dX12_link_80 (by decide) (fun c1 => ?_) (fun c1 => ?_)
  · have h := h_E c1 h
    refine v_pick [0, 1, 2, 3, 4, 5] rfl ?_
    exact b_X12_link_107 hX hE _ h
  · have h := h_T c1 h
    refine v_aload_n hX dX12_link_83 0 rfl rfl ?_
    obtain ⟨k2, h⟩ := h
    refine v_getR hX dX12_link_84 f_RX12_201 rfl k2 ?_
    refine v_iload hX dX12_link_87 4 rfl ?_
    obtain ⟨a3, e_a3, h⟩ := h
    refine v_nn1 e_a3 ?_
    obtain ⟨k4, h⟩ := h
    obtain ⟨i5, h⟩ := h
    refine v_iald hX dX12_link_89 k4 i5 ?_
    refine v_i2l hX dX12_link_90 ?_
    refine v_lconst (v := 1) hX dX12_link_91 (by decide) ?_
    refine v_ldc2 hX dX12_link_92 k_RX12_406 ?_
    refine v_callSi hX dX12_link_95 c_RX12_298 cS_X12_in [pL _, pL _, pL _] rfl rfl (Nat.le_of_ble_eq_true rfl) (by decide) (by decide) (Nat.zero_le _) (Nat.zero_le _) (m_X12_in h) (fun r7 s6 h => ?_)
    refine v_if_ne (tgt := 107) hX dX12_link_98 (by decide) (fun c8 => ?_) (fun c8 => ?_)
    · have h := h_E c8 h
      refine v_pick [0, 1, 2, 3, 4, 5] rfl ?_
      exact b_X12_link_107 hX hE _ h
    · have h := h_T c8 h
      refine v_aload_n hX dX12_link_101 0 rfl rfl ?_
      refine v_iconst (v := 2) hX dX12_link_102 (by decide) ?_
      obtain ⟨k9, h⟩ := h
      refine v_callVi hX dX12_link_103 c_RX12_408 cV_X12_failed (ci := 13) (T := TX12) (N := 115) rfl (by exact k9) [pI _] rfl rfl (Nat.le_of_ble_eq_true rfl) (by decide) (by decide) (Nat.zero_le _) (Nat.zero_le _) (m_X12_failed h) (fun r11 s10 h => ?_)
      exact v_iret hX hE dX12_link_106 h
set_option maxRecDepth 100000 in
set_option maxHeartbeats 4000000 in
theorem b_X12_link_35 {X : h_X} (hX : h_ok X cX12_link 6 RX12 2 46) {Q : Int32 → h_S → Prop} (hE : h_end X (some .int) (h_QI (x_Z X) Q)) {o0 : Nat} {x1 : Int32} {x2 : Int32} {x3 : Int32} {x4 : Int32} {x5 : Int32} (s : h_S) (h : w_X12_link_35 Q o0 x1 x2 x3 x4 x5 s) : h_V X 6 35 [(0, pR (some o0)), (1, pI x1), (2, pI x2), (3, pI x3), (4, pI x4), (5, pI x5)] [] s 0 0 := by
  unfold w_X12_link_35 at h
  refine v_aload_n hX dX12_link_35 0 rfl rfl ?_
  refine v_iload_n hX dX12_link_36 2 rfl rfl ?_
  refine v_iload_n hX dX12_link_37 3 rfl rfl ?_
  obtain ⟨k1, h⟩ := h
  refine v_callVi hX dX12_link_38 c_RX12_518 cV_X12_areWords (ci := 13) (T := TX12) (N := 115) rfl (by exact k1) [pI _, pI _] rfl rfl (Nat.le_of_ble_eq_true rfl) (by decide) (by decide) (Nat.zero_le _) (Nat.zero_le _) (m_X12_areWords h) (fun r3 s2 h => ?_)
  refine v_if_eq (tgt := 72) hX dX12_link_41 (by decide) (fun c4 => ?_) (fun c4 => ?_)
  · have h := h_T c4 h
    refine v_pick [0] rfl ?_
    exact b_X12_link_72 hX hE _ h
  · have h := h_E c4 h
    refine v_iload_n hX dX12_link_44 1 rfl rfl ?_
    refine v_iconst (v := 2) hX dX12_link_45 (by decide) ?_
    refine v_icmp_ne (tgt := 61) hX dX12_link_46 (by decide) (fun c5 => ?_) (fun c5 => ?_)
    · have h := h_E c5 h
      refine v_aload_n hX dX12_link_61 0 rfl rfl ?_
      refine v_iload hX dX12_link_62 4 rfl ?_
      refine v_iload hX dX12_link_64 5 rfl ?_
      obtain ⟨k6, h⟩ := h
      refine v_callVi hX dX12_link_66 c_RX12_518 cV_X12_areWords (ci := 13) (T := TX12) (N := 115) rfl (by exact k6) [pI _, pI _] rfl rfl (Nat.le_of_ble_eq_true rfl) (by decide) (by decide) (Nat.zero_le _) (Nat.zero_le _) (m_X12_areWords h) (fun r8 s7 h => ?_)
      refine v_if_ne (tgt := 78) hX dX12_link_69 (by decide) (fun c9 => ?_) (fun c9 => ?_)
      · have h := h_E c9 h
        refine v_pick [0, 1, 2, 3, 4, 5] rfl ?_
        exact b_X12_link_78 hX hE _ h
      · have h := h_T c9 h
        refine v_pick [0] rfl ?_
        exact b_X12_link_72 hX hE _ h
    · have h := h_T c5 h
      refine v_aload_n hX dX12_link_49 0 rfl rfl ?_
      refine v_iload hX dX12_link_50 4 rfl ?_
      obtain ⟨k10, h⟩ := h
      refine v_callVi hX dX12_link_52 c_RX12_521 cV_X12_noLink (ci := 13) (T := TX12) (N := 115) rfl (by exact k10) [pI _] rfl rfl (Nat.le_of_ble_eq_true rfl) (by decide) (by decide) (Nat.zero_le _) (Nat.zero_le _) (m_X12_noLink h) (fun r12 s11 h => ?_)
      refine v_if_eq (tgt := 78) hX dX12_link_55 (by decide) (fun c13 => ?_) (fun c13 => ?_)
      · have h := h_T c13 h
        refine v_pick [0, 1, 2, 3, 4, 5] rfl ?_
        exact b_X12_link_78 hX hE _ h
      · have h := h_E c13 h
        refine v_goto (tgt := 72) hX dX12_link_58 (by decide) ?_
        refine v_pick [0] rfl ?_
        exact b_X12_link_72 hX hE _ h
set_option maxRecDepth 100000 in
set_option maxHeartbeats 4000000 in
theorem m_X12_link {Z : h_Z} {o0 : Nat} {x1 : Int32} {x2 : Int32} {x3 : Int32} {x4 : Int32} {x5 : Int32} {s : h_S} {Q : Int32 → h_S → Prop} (h : w_X12_link o0 x1 x2 x3 x4 x5 s Q) : h_M Z yX12_link cX12_link 6 (some .int) 2 46 [pR (some o0), pI x1, pI x2, pI x3, pI x4, pI x5] s 0 0 (h_QI Z Q) := by
  refine h_M.of (by decide) (Nat.le_of_ble_eq_true rfl) (fun X hZ hX hE hI => ?_)
  subst hZ
  unfold w_X12_link at h
  show h_V X 6 0 [(0, pR (some o0)), (1, pI x1), (2, pI x2), (3, pI x3), (4, pI x4), (5, pI x5)] [] s 0 0
  refine v_iload_n hX dX12_link_0 1 rfl rfl ?_
  refine v_i2l hX dX12_link_1 ?_
  refine v_lconst (v := 0) hX dX12_link_2 (by decide) ?_
  refine v_ldc2 hX dX12_link_3 k_RX12_516 ?_
  refine v_callSi hX dX12_link_6 c_RX12_298 cS_X12_in [pL _, pL _, pL _] rfl rfl (Nat.le_of_ble_eq_true rfl) (by decide) (by decide) (Nat.zero_le _) (Nat.zero_le _) (m_X12_in h) (fun r2 s1 h => ?_)
  refine v_if_eq (tgt := 28) hX dX12_link_9 (by decide) (fun c3 => ?_) (fun c3 => ?_)
  · have h := h_T c3 h
    refine v_pick [0] rfl ?_
    exact b_X12_link_28 hX hE _ h
  · have h := h_E c3 h
    refine v_iload_n hX dX12_link_12 3 rfl rfl ?_
    refine v_iconst (v := 1) hX dX12_link_13 (by decide) ?_
    refine v_icmp_lt (tgt := 28) hX dX12_link_14 (by decide) (fun c4 => ?_) (fun c4 => ?_)
    · have h := h_T c4 h
      refine v_pick [0] rfl ?_
      exact b_X12_link_28 hX hE _ h
    · have h := h_E c4 h
      refine v_iload_n hX dX12_link_17 1 rfl rfl ?_
      refine v_iconst (v := 2) hX dX12_link_18 (by decide) ?_
      refine v_icmp_eq (tgt := 35) hX dX12_link_19 (by decide) (fun c5 => ?_) (fun c5 => ?_)
      · have h := h_T c5 h
        refine v_pick [0, 1, 2, 3, 4, 5] rfl ?_
        exact b_X12_link_35 hX hE _ h
      · have h := h_E c5 h
        refine v_iload hX dX12_link_22 5 rfl ?_
        refine v_iconst (v := 1) hX dX12_link_24 (by decide) ?_
        refine v_icmp_ge (tgt := 35) hX dX12_link_25 (by decide) (fun c6 => ?_) (fun c6 => ?_)
        · have h := h_T c6 h
          refine v_pick [0, 1, 2, 3, 4, 5] rfl ?_
          exact b_X12_link_35 hX hE _ h
        · have h := h_E c6 h
          refine v_pick [0] rfl ?_
          exact b_X12_link_28 hX hE _ h
set_option maxRecDepth 100000 in
set_option maxHeartbeats 4000000 in
theorem m_X12_ofLink {Z : h_Z} {o0 : Nat} {x1 : Int32} {x2 : Int32} {s : h_S} {Q : Int32 → h_S → Prop} (h : w_X12_ofLink o0 x1 x2 s Q) : h_M Z yX12_ofLink cX12_ofLink 3 (some .int) 2 46 [pR (some o0), pI x1, pI x2] s 0 0 (h_QI Z Q) := by
  refine h_M.of (by decide) (Nat.le_of_ble_eq_true rfl) (fun X hZ hX hE hI => ?_)
  subst hZ
  unfold w_X12_ofLink at h
  show h_V X 3 0 [(0, pR (some o0)), (1, pI x1), (2, pI x2)] [] s 0 0
  refine v_aload_n hX dX12_ofLink_0 0 rfl rfl ?_
  refine v_iload_n hX dX12_ofLink_1 1 rfl rfl ?_
  obtain ⟨k1, h⟩ := h
  refine v_callVi hX dX12_ofLink_2 c_RX12_521 cV_X12_noLink (ci := 13) (T := TX12) (N := 115) rfl (by exact k1) [pI _] rfl rfl (Nat.le_of_ble_eq_true rfl) (by decide) (by decide) (Nat.zero_le _) (Nat.zero_le _) (m_X12_noLink h) (fun r3 s2 h => ?_)
  refine v_if_eq (tgt := 10) hX dX12_ofLink_5 (by decide) (fun c4 => ?_) (fun c4 => ?_)
  · have h := h_T c4 h
    refine v_iload_n hX dX12_ofLink_10 2 rfl rfl ?_
    refine v_gen (fun q35 e_q35 => ?_)
    rw [← e_q35] at h
    by_cases c5 : q35 = (0 : Int32)
    · have h := h_T c5 h
      refine v_tabIn (tgt := 48) hX dX12_ofLink_11 (by rw [c5]; decide) (by rw [c5]; decide) (by rw [c5]; rfl) (by decide) ?_
      refine v_aload_n hX dX12_ofLink_48 0 rfl rfl ?_
      obtain ⟨k6, h⟩ := h
      refine v_getR hX dX12_ofLink_49 f_RX12_201 rfl k6 ?_
      refine v_iload_n hX dX12_ofLink_52 1 rfl rfl ?_
      obtain ⟨a7, e_a7, h⟩ := h
      refine v_nn1 e_a7 ?_
      obtain ⟨k8, h⟩ := h
      obtain ⟨i9, h⟩ := h
      refine v_iald hX dX12_ofLink_53 k8 i9 ?_
      exact v_iret hX hE dX12_ofLink_54 h
    · have h := h_E c5 h
      by_cases c10 : q35 = (1 : Int32)
      · have h := h_T c10 h
        refine v_tabIn (tgt := 55) hX dX12_ofLink_11 (by rw [c10]; decide) (by rw [c10]; decide) (by rw [c10]; rfl) (by decide) ?_
        refine v_aload_n hX dX12_ofLink_55 0 rfl rfl ?_
        obtain ⟨k11, h⟩ := h
        refine v_getR hX dX12_ofLink_56 f_RX12_204 rfl k11 ?_
        refine v_iload_n hX dX12_ofLink_59 1 rfl rfl ?_
        obtain ⟨a12, e_a12, h⟩ := h
        refine v_nn1 e_a12 ?_
        obtain ⟨k13, h⟩ := h
        obtain ⟨i14, h⟩ := h
        refine v_iald hX dX12_ofLink_60 k13 i14 ?_
        exact v_iret hX hE dX12_ofLink_61 h
      · have h := h_E c10 h
        by_cases c15 : q35 = (2 : Int32)
        · have h := h_T c15 h
          refine v_tabIn (tgt := 62) hX dX12_ofLink_11 (by rw [c15]; decide) (by rw [c15]; decide) (by rw [c15]; rfl) (by decide) ?_
          refine v_aload_n hX dX12_ofLink_62 0 rfl rfl ?_
          obtain ⟨k16, h⟩ := h
          refine v_getR hX dX12_ofLink_63 f_RX12_207 rfl k16 ?_
          refine v_iload_n hX dX12_ofLink_66 1 rfl rfl ?_
          obtain ⟨a17, e_a17, h⟩ := h
          refine v_nn1 e_a17 ?_
          obtain ⟨k18, h⟩ := h
          obtain ⟨i19, h⟩ := h
          refine v_iald hX dX12_ofLink_67 k18 i19 ?_
          exact v_iret hX hE dX12_ofLink_68 h
        · have h := h_E c15 h
          by_cases c20 : q35 = (3 : Int32)
          · have h := h_T c20 h
            refine v_tabIn (tgt := 69) hX dX12_ofLink_11 (by rw [c20]; decide) (by rw [c20]; decide) (by rw [c20]; rfl) (by decide) ?_
            refine v_aload_n hX dX12_ofLink_69 0 rfl rfl ?_
            obtain ⟨k21, h⟩ := h
            refine v_getR hX dX12_ofLink_70 f_RX12_210 rfl k21 ?_
            refine v_iload_n hX dX12_ofLink_73 1 rfl rfl ?_
            obtain ⟨a22, e_a22, h⟩ := h
            refine v_nn1 e_a22 ?_
            obtain ⟨k23, h⟩ := h
            obtain ⟨i24, h⟩ := h
            refine v_iald hX dX12_ofLink_74 k23 i24 ?_
            exact v_iret hX hE dX12_ofLink_75 h
          · have h := h_E c20 h
            by_cases c25 : q35 = (4 : Int32)
            · have h := h_T c25 h
              refine v_tabIn (tgt := 76) hX dX12_ofLink_11 (by rw [c25]; decide) (by rw [c25]; decide) (by rw [c25]; rfl) (by decide) ?_
              refine v_aload_n hX dX12_ofLink_76 0 rfl rfl ?_
              obtain ⟨k26, h⟩ := h
              refine v_getR hX dX12_ofLink_77 f_RX12_213 rfl k26 ?_
              refine v_iload_n hX dX12_ofLink_80 1 rfl rfl ?_
              obtain ⟨a27, e_a27, h⟩ := h
              refine v_nn1 e_a27 ?_
              obtain ⟨k28, h⟩ := h
              obtain ⟨i29, h⟩ := h
              refine v_iald hX dX12_ofLink_81 k28 i29 ?_
              exact v_iret hX hE dX12_ofLink_82 h
            · have h := h_E c25 h
              by_cases c30 : q35 = (5 : Int32)
              · have h := h_T c30 h
                refine v_tabIn (tgt := 83) hX dX12_ofLink_11 (by rw [c30]; decide) (by rw [c30]; decide) (by rw [c30]; rfl) (by decide) ?_
                refine v_aload_n hX dX12_ofLink_83 0 rfl rfl ?_
                obtain ⟨k31, h⟩ := h
                refine v_getR hX dX12_ofLink_84 f_RX12_216 rfl k31 ?_
                refine v_iload_n hX dX12_ofLink_87 1 rfl rfl ?_
                obtain ⟨a32, e_a32, h⟩ := h
                refine v_nn1 e_a32 ?_
                obtain ⟨k33, h⟩ := h
                obtain ⟨i34, h⟩ := h
                refine v_iald hX dX12_ofLink_88 k33 i34 ?_
                exact v_iret hX hE dX12_ofLink_89 h
              · have h := h_E c30 h
                refine v_tabOut (tgt := 90) hX dX12_ofLink_11 (by have := h_ti c5 (n := 0) rfl; have := h_ti c10 (n := 1) rfl; have := h_ti c15 (n := 2) rfl; have := h_ti c20 (n := 3) rfl; have := h_ti c25 (n := 4) rfl; have := h_ti c30 (n := 5) rfl; omega) (by decide) ?_
                refine v_bipush (v := -2) hX dX12_ofLink_90 (by decide) ?_
                exact v_iret hX hE dX12_ofLink_92 h
  · have h := h_E c4 h
    refine v_iconst (v := -1) hX dX12_ofLink_8 (by decide) ?_
    exact v_iret hX hE dX12_ofLink_9 h
set_option maxRecDepth 100000 in
set_option maxHeartbeats 4000000 in
theorem b_X12_findPart_179 {X : h_X} (hX : h_ok X cX12_findPart 9 RX12 1 25) {Q : Int32 → h_S → Prop} (hE : h_end X (some .int) (h_QI (x_Z X) Q)) {K53 : Nat → Int32 → Int32 → Int32 → Int32 → Int32 → h_S → Prop} (hK53 : ∀ (o0 : Nat) (x3 : Int32) (x4 : Int32) (x5 : Int32) (x6 : Int32) (x7 : Int32) (s : h_S), K53 o0 x3 x4 x5 x6 x7 s → h_V X 9 53 [(0, pR (some o0)), (3, pI x3), (4, pI x4), (5, pI x5), (6, pI x6), (7, pI x7)] [] s 0 0) {o0 : Nat} {x3 : Int32} {x4 : Int32} {x5 : Int32} {x6 : Int32} {x7 : Int32} (s : h_S) (h : w_X12_findPart_179 Q K53 o0 x3 x4 x5 x6 x7 s) : h_V X 9 179 [(0, pR (some o0)), (3, pI x3), (4, pI x4), (5, pI x5), (6, pI x6), (7, pI x7)] [] s 0 0 := by
  unfold w_X12_findPart_179 at h
  refine v_goto (tgt := 53) hX dX12_findPart_179 (by decide) ?_
  refine v_pick [0, 1, 2, 3, 4, 5] rfl ?_
  exact hK53 _ _ _ _ _ _ _ h
set_option maxRecDepth 100000 in
set_option maxHeartbeats 4000000 in
theorem b_X12_findPart_170 {X : h_X} (hX : h_ok X cX12_findPart 9 RX12 1 25) {Q : Int32 → h_S → Prop} (hE : h_end X (some .int) (h_QI (x_Z X) Q)) {K53 : Nat → Int32 → Int32 → Int32 → Int32 → Int32 → h_S → Prop} (hK53 : ∀ (o0 : Nat) (x3 : Int32) (x4 : Int32) (x5 : Int32) (x6 : Int32) (x7 : Int32) (s : h_S), K53 o0 x3 x4 x5 x6 x7 s → h_V X 9 53 [(0, pR (some o0)), (3, pI x3), (4, pI x4), (5, pI x5), (6, pI x6), (7, pI x7)] [] s 0 0) {o0 : Nat} {x3 : Int32} {x4 : Int32} {x5 : Int32} {x6 : Int32} {x7 : Int32} (s : h_S) (h : w_X12_findPart_170 Q K53 o0 x3 x4 x5 x6 x7 s) : h_V X 9 170 [(0, pR (some o0)), (3, pI x3), (4, pI x4), (5, pI x5), (6, pI x6), (7, pI x7)] [] s 0 0 := by
  unfold w_X12_findPart_170 at h
  refine v_iinc (c := 1) (lv' := [(6, _), (0, _), (3, _), (4, _), (5, _), (7, _)]) hX dX12_findPart_170 4 rfl (by decide) (by decide) rfl ?_
  refine v_goto (tgt := 179) hX dX12_findPart_173 (by decide) ?_
  refine v_pick [1, 2, 3, 4, 0, 5] rfl ?_
  exact b_X12_findPart_179 hX hE hK53 _ h
set_option maxRecDepth 100000 in
set_option maxHeartbeats 4000000 in
theorem b_X12_findPart_149 {X : h_X} (hX : h_ok X cX12_findPart 9 RX12 1 25) {Q : Int32 → h_S → Prop} (hE : h_end X (some .int) (h_QI (x_Z X) Q)) {K53 : Nat → Int32 → Int32 → Int32 → Int32 → Int32 → h_S → Prop} (hK53 : ∀ (o0 : Nat) (x3 : Int32) (x4 : Int32) (x5 : Int32) (x6 : Int32) (x7 : Int32) (s : h_S), K53 o0 x3 x4 x5 x6 x7 s → h_V X 9 53 [(0, pR (some o0)), (3, pI x3), (4, pI x4), (5, pI x5), (6, pI x6), (7, pI x7)] [] s 0 0) {o0 : Nat} {x3 : Int32} {x4 : Int32} {x5 : Int32} {x6 : Int32} {x7 : Int32} {x8 : Int32} (s : h_S) (h : w_X12_findPart_149 Q K53 o0 x3 x4 x5 x6 x7 x8 s) : h_V X 9 149 [(0, pR (some o0)), (3, pI x3), (4, pI x4), (5, pI x5), (6, pI x6), (7, pI x7), (8, pI x8)] [] s 0 0 := by
  unfold w_X12_findPart_149 at h
  refine v_iload hX dX12_findPart_149 4 rfl ?_
  refine v_iload_n hX dX12_findPart_151 1 rfl rfl ?_
  refine v_icmp_ne (tgt := 170) hX dX12_findPart_152 (by decide) (fun c1 => ?_) (fun c1 => ?_)
  · have h := h_E c1 h
    refine v_pick [0, 1, 2, 3, 4, 5] rfl ?_
    exact b_X12_findPart_170 hX hE hK53 _ h
  · have h := h_T c1 h
    refine v_aload_n hX dX12_findPart_155 0 rfl rfl ?_
    refine v_iload hX dX12_findPart_156 6 rfl ?_
    obtain ⟨k2, h⟩ := h
    refine v_putI hX dX12_findPart_158 f_RX12_528 k2 ?_
    refine v_aload_n hX dX12_findPart_161 0 rfl rfl ?_
    refine v_iload hX dX12_findPart_162 5 rfl ?_
    refine v_iload hX dX12_findPart_164 6 rfl ?_
    refine v_isub hX dX12_findPart_166 ?_
    refine v_putI hX dX12_findPart_167 f_RX12_531 k2 ?_
    refine v_pick [0, 1, 2, 3, 4, 5] rfl ?_
    exact b_X12_findPart_170 hX hE hK53 _ h
set_option maxRecDepth 100000 in
set_option maxHeartbeats 4000000 in
theorem b_X12_findPart_101 {X : h_X} (hX : h_ok X cX12_findPart 9 RX12 1 25) {Q : Int32 → h_S → Prop} (hE : h_end X (some .int) (h_QI (x_Z X) Q)) {K53 : Nat → Int32 → Int32 → Int32 → Int32 → Int32 → h_S → Prop} (hK53 : ∀ (o0 : Nat) (x3 : Int32) (x4 : Int32) (x5 : Int32) (x6 : Int32) (x7 : Int32) (s : h_S), K53 o0 x3 x4 x5 x6 x7 s → h_V X 9 53 [(0, pR (some o0)), (3, pI x3), (4, pI x4), (5, pI x5), (6, pI x6), (7, pI x7)] [] s 0 0) : ∀ (n : Nat) (o0 : Nat) (x3 : Int32) (x4 : Int32) (x5 : Int32) (x6 : Int32) (x7 : Int32) (x8 : Int32) (s : h_S), w_X12_findPart_101 Q K53 n o0 x3 x4 x5 x6 x7 x8 s → h_V X 9 101 [(0, pR (some o0)), (3, pI x3), (4, pI x4), (5, pI x5), (6, pI x6), (7, pI x7), (8, pI x8)] [] s 0 0 := by
  intro n
  induction n with
  | zero => intro _ _ _ _ _ _ _ s h; exact h.elim
  | succ n hK101 =>
    intro o0 x3 x4 x5 x6 x7 x8 s h
    have h : w_X12_findPart_101b Q K53 (w_X12_findPart_101 Q K53 n) o0 x3 x4 x5 x6 x7 x8 s := h
    unfold w_X12_findPart_101b at h
    refine v_iload hX dX12_findPart_101 5 rfl ?_
    refine v_aload_n hX dX12_findPart_103 0 rfl rfl ?_
    obtain ⟨k1, h⟩ := h
    refine v_getI hX dX12_findPart_104 f_RX12_342 rfl k1 ?_
    refine v_icmp_ge (tgt := 149) hX dX12_findPart_107 (by decide) (fun c2 => ?_) (fun c2 => ?_)
    · have h := h_T c2 h
      refine v_pick [0, 1, 2, 3, 4, 5, 6] rfl ?_
      exact b_X12_findPart_149 hX hE hK53 _ h
    · have h := h_E c2 h
      refine v_aload_n hX dX12_findPart_110 0 rfl rfl ?_
      refine v_getR hX dX12_findPart_111 f_RX12_91 rfl k1 ?_
      refine v_iload hX dX12_findPart_114 5 rfl ?_
      obtain ⟨a3, e_a3, h⟩ := h
      refine v_nn1 e_a3 ?_
      obtain ⟨k4, h⟩ := h
      obtain ⟨i5, h⟩ := h
      refine v_iald hX dX12_findPart_116 k4 i5 ?_
      refine v_aload_n hX dX12_findPart_117 0 rfl rfl ?_
      refine v_getR hX dX12_findPart_118 f_RX12_91 rfl k1 ?_
      refine v_iload hX dX12_findPart_121 5 rfl ?_
      refine v_iconst (v := 1) hX dX12_findPart_123 (by decide) ?_
      refine v_isub hX dX12_findPart_124 ?_
      obtain ⟨a6, e_a6, h⟩ := h
      refine v_nn1 e_a6 ?_
      obtain ⟨k7, h⟩ := h
      obtain ⟨i8, h⟩ := h
      refine v_iald hX dX12_findPart_125 k7 i8 ?_
      refine v_iconst (v := 1) hX dX12_findPart_126 (by decide) ?_
      refine v_iadd hX dX12_findPart_127 ?_
      refine v_icmp_ne (tgt := 149) hX dX12_findPart_128 (by decide) (fun c9 => ?_) (fun c9 => ?_)
      · have h := h_E c9 h
        refine v_pick [0, 1, 2, 3, 4, 5, 6] rfl ?_
        exact b_X12_findPart_149 hX hE hK53 _ h
      · have h := h_T c9 h
        refine v_aload_n hX dX12_findPart_131 0 rfl rfl ?_
        refine v_getR hX dX12_findPart_132 f_RX12_91 rfl k1 ?_
        refine v_iload hX dX12_findPart_135 5 rfl ?_
        obtain ⟨a10, e_a10, h⟩ := h
        refine v_nn1 e_a10 ?_
        obtain ⟨k11, h⟩ := h
        obtain ⟨i12, h⟩ := h
        refine v_iald hX dX12_findPart_137 k11 i12 ?_
        refine v_iload hX dX12_findPart_138 3 rfl ?_
        refine v_icmp_gt (tgt := 149) hX dX12_findPart_140 (by decide) (fun c13 => ?_) (fun c13 => ?_)
        · have h := h_T c13 h
          refine v_pick [0, 1, 2, 3, 4, 5, 6] rfl ?_
          exact b_X12_findPart_149 hX hE hK53 _ h
        · have h := h_E c13 h
          refine v_iinc (c := 1) (lv' := [(7, _), (0, _), (3, _), (4, _), (5, _), (6, _), (8, _)]) hX dX12_findPart_143 5 rfl (by decide) (by decide) rfl ?_
          refine v_goto (tgt := 101) hX dX12_findPart_146 (by decide) ?_
          refine v_pick [1, 2, 3, 4, 5, 0, 6] rfl ?_
          exact hK101 _ _ _ _ _ _ _ _ h
set_option maxRecDepth 100000 in
set_option maxHeartbeats 4000000 in
theorem b_X12_findPart_176 {X : h_X} (hX : h_ok X cX12_findPart 9 RX12 1 25) {Q : Int32 → h_S → Prop} (hE : h_end X (some .int) (h_QI (x_Z X) Q)) {K53 : Nat → Int32 → Int32 → Int32 → Int32 → Int32 → h_S → Prop} (hK53 : ∀ (o0 : Nat) (x3 : Int32) (x4 : Int32) (x5 : Int32) (x6 : Int32) (x7 : Int32) (s : h_S), K53 o0 x3 x4 x5 x6 x7 s → h_V X 9 53 [(0, pR (some o0)), (3, pI x3), (4, pI x4), (5, pI x5), (6, pI x6), (7, pI x7)] [] s 0 0) {o0 : Nat} {x3 : Int32} {x4 : Int32} {x5 : Int32} {x6 : Int32} {x7 : Int32} (s : h_S) (h : w_X12_findPart_176 Q K53 o0 x3 x4 x5 x6 x7 s) : h_V X 9 176 [(0, pR (some o0)), (3, pI x3), (4, pI x4), (5, pI x5), (6, pI x6), (7, pI x7)] [] s 0 0 := by
  unfold w_X12_findPart_176 at h
  refine v_iinc (c := 1) (lv' := [(7, _), (0, _), (3, _), (4, _), (5, _), (6, _)]) hX dX12_findPart_176 5 rfl (by decide) (by decide) rfl ?_
  refine v_pick [1, 2, 3, 4, 5, 0] rfl ?_
  exact b_X12_findPart_179 hX hE hK53 _ h
set_option maxRecDepth 100000 in
set_option maxHeartbeats 4000000 in
theorem b_X12_findPart_53 {X : h_X} (hX : h_ok X cX12_findPart 9 RX12 1 25) {Q : Int32 → h_S → Prop} (hE : h_end X (some .int) (h_QI (x_Z X) Q)) : ∀ (n : Nat) (o0 : Nat) (x3 : Int32) (x4 : Int32) (x5 : Int32) (x6 : Int32) (x7 : Int32) (s : h_S), w_X12_findPart_53 Q n o0 x3 x4 x5 x6 x7 s → h_V X 9 53 [(0, pR (some o0)), (3, pI x3), (4, pI x4), (5, pI x5), (6, pI x6), (7, pI x7)] [] s 0 0 := by
  intro n
  induction n with
  | zero => intro _ _ _ _ _ _ s h; exact h.elim
  | succ n hK53 =>
    intro o0 x3 x4 x5 x6 x7 s h
    have h : w_X12_findPart_53b Q (w_X12_findPart_53 Q n) o0 x3 x4 x5 x6 x7 s := h
    unfold w_X12_findPart_53b at h
    refine v_iload hX dX12_findPart_53 5 rfl ?_
    refine v_aload_n hX dX12_findPart_55 0 rfl rfl ?_
    obtain ⟨k1, h⟩ := h
    refine v_getI hX dX12_findPart_56 f_RX12_342 rfl k1 ?_
    refine v_icmp_ge (tgt := 182) hX dX12_findPart_59 (by decide) (fun c2 => ?_) (fun c2 => ?_)
    · have h := h_T c2 h
      refine v_iload hX dX12_findPart_182 4 rfl ?_
      exact v_iret hX hE dX12_findPart_184 h
    · have h := h_E c2 h
      refine v_iload hX dX12_findPart_62 5 rfl ?_
      refine v_istore (lv' := [(8, _), (0, _), (3, _), (4, _), (5, _), (6, _), (7, _)]) hX dX12_findPart_64 (by decide) rfl ?_
      refine v_aload_n hX dX12_findPart_66 1 rfl rfl ?_
      refine v_getR hX dX12_findPart_67 f_RX12_91 rfl k1 ?_
      refine v_iload hX dX12_findPart_70 6 rfl ?_
      obtain ⟨a3, e_a3, h⟩ := h
      refine v_nn1 e_a3 ?_
      obtain ⟨k4, h⟩ := h
      obtain ⟨i5, h⟩ := h
      refine v_iald hX dX12_findPart_72 k4 i5 ?_
      refine v_bipush (v := -7) hX dX12_findPart_73 (by decide) ?_
      refine v_icmp_eq (tgt := 176) hX dX12_findPart_75 (by decide) (fun c6 => ?_) (fun c6 => ?_)
      · have h := h_T c6 h
        refine v_pick [1, 2, 3, 4, 5, 6] rfl ?_
        exact b_X12_findPart_176 hX hE hK53 _ h
      · have h := h_E c6 h
        refine v_aload_n hX dX12_findPart_78 1 rfl rfl ?_
        refine v_getR hX dX12_findPart_79 f_RX12_91 rfl k1 ?_
        refine v_iload hX dX12_findPart_82 6 rfl ?_
        obtain ⟨a7, e_a7, h⟩ := h
        refine v_nn1 e_a7 ?_
        obtain ⟨k8, h⟩ := h
        obtain ⟨i9, h⟩ := h
        refine v_iald hX dX12_findPart_84 k8 i9 ?_
        refine v_i2l hX dX12_findPart_85 ?_
        refine v_iload hX dX12_findPart_86 3 rfl ?_
        refine v_i2l hX dX12_findPart_88 ?_
        refine v_iload hX dX12_findPart_89 4 rfl ?_
        refine v_i2l hX dX12_findPart_91 ?_
        refine v_callSi hX dX12_findPart_92 c_RX12_298 cS_X12_in [pL _, pL _, pL _] rfl rfl (Nat.le_of_ble_eq_true rfl) (by decide) (by decide) (Nat.zero_le _) (Nat.zero_le _) (m_X12_in h) (fun r11 s10 h => ?_)
        refine v_if_eq (tgt := 176) hX dX12_findPart_95 (by decide) (fun c12 => ?_) (fun c12 => ?_)
        · have h := h_T c12 h
          refine v_pick [1, 2, 3, 4, 5, 6] rfl ?_
          exact b_X12_findPart_176 hX hE hK53 _ h
        · have h := h_E c12 h
          refine v_iinc (c := 1) (lv' := [(7, _), (8, _), (0, _), (3, _), (4, _), (5, _), (6, _)]) hX dX12_findPart_98 6 rfl (by decide) (by decide) rfl ?_
          refine v_pick [2, 3, 4, 5, 6, 0, 1] rfl ?_
          obtain ⟨n, h⟩ := h
          exact b_X12_findPart_101 hX hE hK53 n _ _ _ _ _ _ _ _ h
set_option maxRecDepth 100000 in
set_option maxHeartbeats 4000000 in
theorem b_X12_findPart_42 {X : h_X} (hX : h_ok X cX12_findPart 9 RX12 1 25) {Q : Int32 → h_S → Prop} (hE : h_end X (some .int) (h_QI (x_Z X) Q)) {o0 : Nat} {x3 : Int32} {x4 : Int32} {y0 : Int32} {y1 : Int32} (s : h_S) (h : w_X12_findPart_42 Q o0 x3 x4 y0 y1 s) : h_V X 9 42 [(0, pR (some o0)), (3, pI x3), (4, pI x4)] [pI y0, pI y1] s 0 0 := by
  unfold w_X12_findPart_42 at h
  refine v_iadd hX dX12_findPart_42 ?_
  refine v_iconst (v := 1) hX dX12_findPart_43 (by decide) ?_
  refine v_isub hX dX12_findPart_44 ?_
  refine v_istore (lv' := [(5, _), (0, _), (3, _), (4, _)]) hX dX12_findPart_45 (by decide) rfl ?_
  refine v_iconst (v := 0) hX dX12_findPart_47 (by decide) ?_
  refine v_istore (lv' := [(6, _), (5, _), (0, _), (3, _), (4, _)]) hX dX12_findPart_48 (by decide) rfl ?_
  refine v_iconst (v := 0) hX dX12_findPart_50 (by decide) ?_
  refine v_istore (lv' := [(7, _), (6, _), (5, _), (0, _), (3, _), (4, _)]) hX dX12_findPart_51 (by decide) rfl ?_
  refine v_pick [3, 4, 5, 2, 1, 0] rfl ?_
  obtain ⟨n, h⟩ := h
  exact b_X12_findPart_53 hX hE n _ _ _ _ _ _ _ h
set_option maxRecDepth 100000 in
set_option maxHeartbeats 4000000 in
theorem b_X12_findPart_19 {X : h_X} (hX : h_ok X cX12_findPart 9 RX12 1 25) {Q : Int32 → h_S → Prop} (hE : h_end X (some .int) (h_QI (x_Z X) Q)) {o0 : Nat} {x1 : Int32} {x2 : Int32} {x3 : Int32} {y0 : Int32} (s : h_S) (h : w_X12_findPart_19 Q o0 x1 x2 x3 y0 s) : h_V X 9 19 [(0, pR (some o0)), (1, pI x1), (2, pI x2), (3, pI x3)] [pI y0] s 0 0 := by
  unfold w_X12_findPart_19 at h
  refine v_istore (lv' := [(4, _), (0, _), (1, _), (2, _), (3, _)]) hX dX12_findPart_19 (by decide) rfl ?_
  refine v_iload hX dX12_findPart_21 0 rfl ?_
  refine v_iload_n hX dX12_findPart_23 3 rfl rfl ?_
  refine v_if_ne (tgt := 36) hX dX12_findPart_24 (by decide) (fun c1 => ?_) (fun c1 => ?_)
  · have h := h_E c1 h
    refine v_aload_n hX dX12_findPart_36 1 rfl rfl ?_
    obtain ⟨k2, h⟩ := h
    refine v_getR hX dX12_findPart_37 f_RX12_213 rfl k2 ?_
    refine v_iload_n hX dX12_findPart_40 2 rfl rfl ?_
    obtain ⟨a3, e_a3, h⟩ := h
    refine v_nn1 e_a3 ?_
    obtain ⟨k4, h⟩ := h
    obtain ⟨i5, h⟩ := h
    refine v_iald hX dX12_findPart_41 k4 i5 ?_
    refine v_pick [1, 4, 0] rfl ?_
    exact b_X12_findPart_42 hX hE _ h
  · have h := h_T c1 h
    refine v_aload_n hX dX12_findPart_27 1 rfl rfl ?_
    obtain ⟨k6, h⟩ := h
    refine v_getR hX dX12_findPart_28 f_RX12_207 rfl k6 ?_
    refine v_iload_n hX dX12_findPart_31 2 rfl rfl ?_
    obtain ⟨a7, e_a7, h⟩ := h
    refine v_nn1 e_a7 ?_
    obtain ⟨k8, h⟩ := h
    obtain ⟨i9, h⟩ := h
    refine v_iald hX dX12_findPart_32 k8 i9 ?_
    refine v_goto (tgt := 42) hX dX12_findPart_33 (by decide) ?_
    refine v_pick [1, 4, 0] rfl ?_
    exact b_X12_findPart_42 hX hE _ h
set_option maxRecDepth 100000 in
set_option maxHeartbeats 4000000 in
theorem m_X12_findPart {Z : h_Z} {o0 : Nat} {x1 : Int32} {x2 : Int32} {x3 : Int32} {s : h_S} {Q : Int32 → h_S → Prop} (h : w_X12_findPart o0 x1 x2 x3 s Q) : h_M Z yX12_findPart cX12_findPart 9 (some .int) 1 25 [pR (some o0), pI x1, pI x2, pI x3] s 0 0 (h_QI Z Q) := by
  refine h_M.of (by decide) (Nat.le_of_ble_eq_true rfl) (fun X hZ hX hE hI => ?_)
  subst hZ
  unfold w_X12_findPart at h
  show h_V X 9 0 [(0, pR (some o0)), (1, pI x1), (2, pI x2), (3, pI x3)] [] s 0 0
  refine v_iload_n hX dX12_findPart_0 2 rfl rfl ?_
  refine v_if_ne (tgt := 13) hX dX12_findPart_1 (by decide) (fun c1 => ?_) (fun c1 => ?_)
  · have h := h_E c1 h
    refine v_aload_n hX dX12_findPart_13 0 rfl rfl ?_
    obtain ⟨k2, h⟩ := h
    refine v_getR hX dX12_findPart_14 f_RX12_210 rfl k2 ?_
    refine v_iload_n hX dX12_findPart_17 1 rfl rfl ?_
    obtain ⟨a3, e_a3, h⟩ := h
    refine v_nn1 e_a3 ?_
    obtain ⟨k4, h⟩ := h
    obtain ⟨i5, h⟩ := h
    refine v_iald hX dX12_findPart_18 k4 i5 ?_
    refine v_pick [0, 1, 2, 3] rfl ?_
    exact b_X12_findPart_19 hX hE _ h
  · have h := h_T c1 h
    refine v_aload_n hX dX12_findPart_4 0 rfl rfl ?_
    obtain ⟨k6, h⟩ := h
    refine v_getR hX dX12_findPart_5 f_RX12_204 rfl k6 ?_
    refine v_iload_n hX dX12_findPart_8 1 rfl rfl ?_
    obtain ⟨a7, e_a7, h⟩ := h
    refine v_nn1 e_a7 ?_
    obtain ⟨k8, h⟩ := h
    obtain ⟨i9, h⟩ := h
    refine v_iald hX dX12_findPart_9 k8 i9 ?_
    refine v_goto (tgt := 19) hX dX12_findPart_10 (by decide) ?_
    refine v_pick [0, 1, 2, 3] rfl ?_
    exact b_X12_findPart_19 hX hE _ h
set_option maxRecDepth 100000 in
set_option maxHeartbeats 4000000 in
theorem b_X12_ends_16 {X : h_X} (hX : h_ok X cX12_ends 4 RX12 5 118) {Q : Int32 → h_S → Prop} (hE : h_end X (some .int) (h_QI (x_Z X) Q)) (s : h_S) (h : w_X12_ends_16 Q s) : h_V X 4 16 [] [] s 0 0 := by
  unfold w_X12_ends_16 at h
  refine v_iconst (v := -1) hX dX12_ends_16 (by decide) ?_
  exact v_iret hX hE dX12_ends_17 h
set_option maxRecDepth 100000 in
set_option maxHeartbeats 4000000 in
theorem m_X12_ends {Z : h_Z} {o0 : Nat} {x1 : Int32} {x2 : Int32} {x3 : Int32} {s : h_S} {Q : Int32 → h_S → Prop} (h : w_X12_ends o0 x1 x2 x3 s Q) : h_M Z yX12_ends cX12_ends 4 (some .int) 5 118 [pR (some o0), pI x1, pI x2, pI x3] s 0 0 (h_QI Z Q) := by
  refine h_M.of (by decide) (Nat.le_of_ble_eq_true rfl) (fun X hZ hX hE hI => ?_)
  subst hZ
  unfold w_X12_ends at h
  show h_V X 4 0 [(0, pR (some o0)), (1, pI x1), (2, pI x2), (3, pI x3)] [] s 0 0
  refine v_aload_n hX dX12_ends_0 0 rfl rfl ?_
  refine v_iload_n hX dX12_ends_1 1 rfl rfl ?_
  obtain ⟨k1, h⟩ := h
  refine v_callVi hX dX12_ends_2 c_RX12_521 cV_X12_noLink (ci := 13) (T := TX12) (N := 115) rfl (by exact k1) [pI _] rfl rfl (Nat.le_of_ble_eq_true rfl) (by decide) (by decide) (Nat.zero_le _) (Nat.zero_le _) (m_X12_noLink h) (fun r3 s2 h => ?_)
  refine v_if_ne (tgt := 16) hX dX12_ends_5 (by decide) (fun c4 => ?_) (fun c4 => ?_)
  · have h := h_E c4 h
    refine v_pick [] rfl ?_
    exact b_X12_ends_16 hX hE _ h
  · have h := h_T c4 h
    refine v_aload_n hX dX12_ends_8 0 rfl rfl ?_
    refine v_iload_n hX dX12_ends_9 3 rfl rfl ?_
    obtain ⟨k5, h⟩ := h
    refine v_callVi hX dX12_ends_10 c_RX12_458 cV_X12_noVersion (ci := 13) (T := TX12) (N := 115) rfl (by exact k5) [pI _] rfl rfl (Nat.le_of_ble_eq_true rfl) (by decide) (by decide) (Nat.zero_le _) (Nat.zero_le _) (m_X12_noVersion h) (fun r7 s6 h => ?_)
    refine v_if_eq (tgt := 18) hX dX12_ends_13 (by decide) (fun c8 => ?_) (fun c8 => ?_)
    · have h := h_T c8 h
      refine v_iload_n hX dX12_ends_18 2 rfl rfl ?_
      refine v_i2l hX dX12_ends_19 ?_
      refine v_lconst (v := 0) hX dX12_ends_20 (by decide) ?_
      refine v_lconst (v := 1) hX dX12_ends_21 (by decide) ?_
      refine v_callSi hX dX12_ends_22 c_RX12_298 cS_X12_in [pL _, pL _, pL _] rfl rfl (Nat.le_of_ble_eq_true rfl) (by decide) (by decide) (Nat.zero_le _) (Nat.zero_le _) (m_X12_in h) (fun r10 s9 h => ?_)
      refine v_if_ne (tgt := 31) hX dX12_ends_25 (by decide) (fun c11 => ?_) (fun c11 => ?_)
      · have h := h_E c11 h
        refine v_aload_n hX dX12_ends_31 0 rfl rfl ?_
        refine v_iload_n hX dX12_ends_32 3 rfl rfl ?_
        obtain ⟨k12, h⟩ := h
        refine v_callVv hX dX12_ends_33 c_RX12_461 cV_X12_layVersion (ci := 13) (T := TX12) (N := 115) rfl (by exact k12) [pI _] rfl rfl (Nat.le_of_ble_eq_true rfl) (by decide) (by decide) (Nat.zero_le _) (Nat.zero_le _) (m_X12_layVersion h) (fun s13 h => ?_)
        refine v_aload_n hX dX12_ends_36 0 rfl rfl ?_
        refine v_iload_n hX dX12_ends_37 1 rfl rfl ?_
        refine v_iload_n hX dX12_ends_38 2 rfl rfl ?_
        refine v_iconst (v := -1) hX dX12_ends_39 (by decide) ?_
        obtain ⟨k15, h⟩ := h
        refine v_callVi hX dX12_ends_40 c_RX12_534 cV_X12_findPart (ci := 13) (T := TX12) (N := 115) rfl (by exact k15) [pI _, pI _, pI _] rfl rfl (Nat.le_of_ble_eq_true rfl) (by decide) (by decide) (Nat.zero_le _) (Nat.zero_le _) (m_X12_findPart h) (fun r17 s16 h => ?_)
        exact v_iret hX hE dX12_ends_43 h
      · have h := h_T c11 h
        refine v_bipush (v := -2) hX dX12_ends_28 (by decide) ?_
        exact v_iret hX hE dX12_ends_30 h
    · have h := h_E c8 h
      refine v_pick [] rfl ?_
      exact b_X12_ends_16 hX hE _ h
set_option maxRecDepth 100000 in
set_option maxHeartbeats 4000000 in
theorem b_X12_part_21 {X : h_X} (hX : h_ok X cX12_part 6 RX12 5 118) {Q : Int32 → h_S → Prop} (hE : h_end X (some .int) (h_QI (x_Z X) Q)) (s : h_S) (h : w_X12_part_21 Q s) : h_V X 6 21 [] [] s 0 0 := by
  unfold w_X12_part_21 at h
  refine v_iconst (v := -1) hX dX12_part_21 (by decide) ?_
  exact v_iret hX hE dX12_part_22 h
set_option maxRecDepth 100000 in
set_option maxHeartbeats 4000000 in
theorem b_X12_part_46 {X : h_X} (hX : h_ok X cX12_part 6 RX12 5 118) {Q : Int32 → h_S → Prop} (hE : h_end X (some .int) (h_QI (x_Z X) Q)) (s : h_S) (h : w_X12_part_46 Q s) : h_V X 6 46 [] [] s 0 0 := by
  unfold w_X12_part_46 at h
  refine v_bipush (v := -2) hX dX12_part_46 (by decide) ?_
  exact v_iret hX hE dX12_part_48 h
set_option maxRecDepth 100000 in
set_option maxHeartbeats 4000000 in
theorem b_X12_part_103 {X : h_X} (hX : h_ok X cX12_part 6 RX12 5 118) {Q : Int32 → h_S → Prop} (hE : h_end X (some .int) (h_QI (x_Z X) Q)) {y0 : Int32} (s : h_S) (h : w_X12_part_103 Q y0 s) : h_V X 6 103 [] [pI y0] s 0 0 := by
  unfold w_X12_part_103 at h
  exact v_iret hX hE dX12_part_103 h
set_option maxRecDepth 100000 in
set_option maxHeartbeats 4000000 in
theorem m_X12_part {Z : h_Z} {o0 : Nat} {x1 : Int32} {x2 : Int32} {x3 : Int32} {x4 : Int32} {x5 : Int32} {s : h_S} {Q : Int32 → h_S → Prop} (h : w_X12_part o0 x1 x2 x3 x4 x5 s Q) : h_M Z yX12_part cX12_part 6 (some .int) 5 118 [pR (some o0), pI x1, pI x2, pI x3, pI x4, pI x5] s 0 0 (h_QI Z Q) := by
  refine h_M.of (by decide) (Nat.le_of_ble_eq_true rfl) (fun X hZ hX hE hI => ?_)
  subst hZ
  unfold w_X12_part at h
  show h_V X 6 0 [(0, pR (some o0)), (1, pI x1), (2, pI x2), (3, pI x3), (4, pI x4), (5, pI x5)] [] s 0 0
  refine v_aload_n hX dX12_part_0 0 rfl rfl ?_
  refine v_iload_n hX dX12_part_1 1 rfl rfl ?_
  obtain ⟨k1, h⟩ := h
  refine v_callVi hX dX12_part_2 c_RX12_521 cV_X12_noLink (ci := 13) (T := TX12) (N := 115) rfl (by exact k1) [pI _] rfl rfl (Nat.le_of_ble_eq_true rfl) (by decide) (by decide) (Nat.zero_le _) (Nat.zero_le _) (m_X12_noLink h) (fun r3 s2 h => ?_)
  refine v_if_ne (tgt := 21) hX dX12_part_5 (by decide) (fun c4 => ?_) (fun c4 => ?_)
  · have h := h_E c4 h
    refine v_pick [] rfl ?_
    exact b_X12_part_21 hX hE _ h
  · have h := h_T c4 h
    refine v_aload_n hX dX12_part_8 0 rfl rfl ?_
    refine v_iload_n hX dX12_part_9 3 rfl rfl ?_
    obtain ⟨k5, h⟩ := h
    refine v_callVi hX dX12_part_10 c_RX12_458 cV_X12_noVersion (ci := 13) (T := TX12) (N := 115) rfl (by exact k5) [pI _] rfl rfl (Nat.le_of_ble_eq_true rfl) (by decide) (by decide) (Nat.zero_le _) (Nat.zero_le _) (m_X12_noVersion h) (fun r7 s6 h => ?_)
    refine v_if_ne (tgt := 21) hX dX12_part_13 (by decide) (fun c8 => ?_) (fun c8 => ?_)
    · have h := h_E c8 h
      refine v_pick [] rfl ?_
      exact b_X12_part_21 hX hE _ h
    · have h := h_T c8 h
      refine v_iload hX dX12_part_16 4 rfl ?_
      refine v_if_ge (tgt := 23) hX dX12_part_18 (by decide) (fun c9 => ?_) (fun c9 => ?_)
      · have h := h_T c9 h
        refine v_iload_n hX dX12_part_23 2 rfl rfl ?_
        refine v_i2l hX dX12_part_24 ?_
        refine v_lconst (v := 0) hX dX12_part_25 (by decide) ?_
        refine v_lconst (v := 1) hX dX12_part_26 (by decide) ?_
        refine v_callSi hX dX12_part_27 c_RX12_298 cS_X12_in [pL _, pL _, pL _] rfl rfl (Nat.le_of_ble_eq_true rfl) (by decide) (by decide) (Nat.zero_le _) (Nat.zero_le _) (m_X12_in h) (fun r11 s10 h => ?_)
        refine v_if_eq (tgt := 46) hX dX12_part_30 (by decide) (fun c12 => ?_) (fun c12 => ?_)
        · have h := h_T c12 h
          refine v_pick [] rfl ?_
          exact b_X12_part_46 hX hE _ h
        · have h := h_E c12 h
          refine v_iload hX dX12_part_33 5 rfl ?_
          refine v_i2l hX dX12_part_35 ?_
          refine v_lconst (v := 0) hX dX12_part_36 (by decide) ?_
          refine v_ldc2 hX dX12_part_37 k_RX12_406 ?_
          refine v_callSi hX dX12_part_40 c_RX12_298 cS_X12_in [pL _, pL _, pL _] rfl rfl (Nat.le_of_ble_eq_true rfl) (by decide) (by decide) (Nat.zero_le _) (Nat.zero_le _) (m_X12_in h) (fun r14 s13 h => ?_)
          refine v_if_ne (tgt := 49) hX dX12_part_43 (by decide) (fun c15 => ?_) (fun c15 => ?_)
          · have h := h_E c15 h
            refine v_aload_n hX dX12_part_49 0 rfl rfl ?_
            refine v_iload_n hX dX12_part_50 3 rfl rfl ?_
            obtain ⟨k16, h⟩ := h
            refine v_callVv hX dX12_part_51 c_RX12_461 cV_X12_layVersion (ci := 13) (T := TX12) (N := 115) rfl (by exact k16) [pI _] rfl rfl (Nat.le_of_ble_eq_true rfl) (by decide) (by decide) (Nat.zero_le _) (Nat.zero_le _) (m_X12_layVersion h) (fun s17 h => ?_)
            refine v_iload hX dX12_part_54 4 rfl ?_
            refine v_aload_n hX dX12_part_56 0 rfl rfl ?_
            refine v_iload_n hX dX12_part_57 1 rfl rfl ?_
            refine v_iload_n hX dX12_part_58 2 rfl rfl ?_
            refine v_iload hX dX12_part_59 4 rfl ?_
            obtain ⟨k19, h⟩ := h
            refine v_callVi hX dX12_part_61 c_RX12_534 cV_X12_findPart (ci := 13) (T := TX12) (N := 115) rfl (by exact k19) [pI _, pI _, pI _] rfl rfl (Nat.le_of_ble_eq_true rfl) (by decide) (by decide) (Nat.zero_le _) (Nat.zero_le _) (m_X12_findPart h) (fun r21 s20 h => ?_)
            refine v_icmp_lt (tgt := 69) hX dX12_part_64 (by decide) (fun c22 => ?_) (fun c22 => ?_)
            · have h := h_T c22 h
              refine v_iload hX dX12_part_69 5 rfl ?_
              refine v_if_ne (tgt := 81) hX dX12_part_71 (by decide) (fun c23 => ?_) (fun c23 => ?_)
              · have h := h_E c23 h
                refine v_iload hX dX12_part_81 5 rfl ?_
                refine v_iconst (v := 1) hX dX12_part_83 (by decide) ?_
                refine v_icmp_ne (tgt := 99) hX dX12_part_84 (by decide) (fun c24 => ?_) (fun c24 => ?_)
                · have h := h_E c24 h
                  refine v_aload_n hX dX12_part_99 0 rfl rfl ?_
                  obtain ⟨k25, h⟩ := h
                  refine v_getI hX dX12_part_100 f_RX12_531 rfl k25 ?_
                  refine v_pick [] rfl ?_
                  exact b_X12_part_103 hX hE _ h
                · have h := h_T c24 h
                  refine v_aload_n hX dX12_part_87 0 rfl rfl ?_
                  obtain ⟨k26, h⟩ := h
                  refine v_getR hX dX12_part_88 f_RX12_91 rfl k26 ?_
                  refine v_aload_n hX dX12_part_91 0 rfl rfl ?_
                  refine v_getI hX dX12_part_92 f_RX12_528 rfl k26 ?_
                  obtain ⟨a27, e_a27, h⟩ := h
                  refine v_nn1 e_a27 ?_
                  obtain ⟨k28, h⟩ := h
                  obtain ⟨i29, h⟩ := h
                  refine v_iald hX dX12_part_95 k28 i29 ?_
                  refine v_goto (tgt := 103) hX dX12_part_96 (by decide) ?_
                  refine v_pick [] rfl ?_
                  exact b_X12_part_103 hX hE _ h
              · have h := h_T c23 h
                refine v_aload_n hX dX12_part_74 0 rfl rfl ?_
                obtain ⟨k30, h⟩ := h
                refine v_getI hX dX12_part_75 f_RX12_528 rfl k30 ?_
                refine v_goto (tgt := 103) hX dX12_part_78 (by decide) ?_
                refine v_pick [] rfl ?_
                exact b_X12_part_103 hX hE _ h
            · have h := h_E c22 h
              refine v_iconst (v := -1) hX dX12_part_67 (by decide) ?_
              exact v_iret hX hE dX12_part_68 h
          · have h := h_T c15 h
            refine v_pick [] rfl ?_
            exact b_X12_part_46 hX hE _ h
      · have h := h_E c9 h
        refine v_pick [] rfl ?_
        exact b_X12_part_21 hX hE _ h
set_option maxRecDepth 100000 in
set_option maxHeartbeats 4000000 in
theorem b_X12_linksOf_80 {X : h_X} (hX : h_ok X cX12_linksOf 4 RX12 1 25) {Q : Int32 → h_S → Prop} (hE : h_end X (some .int) (h_QI (x_Z X) Q)) {K4 : Nat → Int32 → Int32 → Int32 → h_S → Prop} (hK4 : ∀ (o0 : Nat) (x1 : Int32) (x2 : Int32) (x3 : Int32) (s : h_S), K4 o0 x1 x2 x3 s → h_V X 4 4 [(0, pR (some o0)), (1, pI x1), (2, pI x2), (3, pI x3)] [] s 0 0) {o0 : Nat} {x1 : Int32} {x3 : Int32} {y0 : Int32} {y1 : Int32} (s : h_S) (h : w_X12_linksOf_80 Q K4 o0 x1 x3 y0 y1 s) : h_V X 4 80 [(0, pR (some o0)), (1, pI x1), (3, pI x3)] [pI y0, pI y1] s 0 0 := by
  unfold w_X12_linksOf_80 at h
  refine v_iadd hX dX12_linksOf_80 ?_
  refine v_istore_n (lv' := [(2, _), (0, _), (1, _), (3, _)]) hX dX12_linksOf_81 rfl (by decide) rfl ?_
  refine v_iinc (c := 1) (lv' := [(3, _), (2, _), (0, _), (1, _)]) hX dX12_linksOf_82 3 rfl (by decide) (by decide) rfl ?_
  refine v_goto (tgt := 4) hX dX12_linksOf_85 (by decide) ?_
  refine v_pick [2, 3, 1, 0] rfl ?_
  exact hK4 _ _ _ _ _ h
set_option maxRecDepth 100000 in
set_option maxHeartbeats 4000000 in
theorem b_X12_linksOf_75 {X : h_X} (hX : h_ok X cX12_linksOf 4 RX12 1 25) {Q : Int32 → h_S → Prop} (hE : h_end X (some .int) (h_QI (x_Z X) Q)) {K4 : Nat → Int32 → Int32 → Int32 → h_S → Prop} (hK4 : ∀ (o0 : Nat) (x1 : Int32) (x2 : Int32) (x3 : Int32) (s : h_S), K4 o0 x1 x2 x3 s → h_V X 4 4 [(0, pR (some o0)), (1, pI x1), (2, pI x2), (3, pI x3)] [] s 0 0) {o0 : Nat} {x1 : Int32} {x3 : Int32} {y0 : Int32} (s : h_S) (h : w_X12_linksOf_75 Q K4 o0 x1 x3 y0 s) : h_V X 4 75 [(0, pR (some o0)), (1, pI x1), (3, pI x3)] [pI y0] s 0 0 := by
  unfold w_X12_linksOf_75 at h
  refine v_iconst (v := 1) hX dX12_linksOf_75 (by decide) ?_
  refine v_goto (tgt := 80) hX dX12_linksOf_76 (by decide) ?_
  refine v_pick [0, 1, 2] rfl ?_
  exact b_X12_linksOf_80 hX hE hK4 _ h
set_option maxRecDepth 100000 in
set_option maxHeartbeats 4000000 in
theorem b_X12_linksOf_4 {X : h_X} (hX : h_ok X cX12_linksOf 4 RX12 1 25) {Q : Int32 → h_S → Prop} (hE : h_end X (some .int) (h_QI (x_Z X) Q)) : ∀ (n : Nat) (o0 : Nat) (x1 : Int32) (x2 : Int32) (x3 : Int32) (s : h_S), w_X12_linksOf_4 Q n o0 x1 x2 x3 s → h_V X 4 4 [(0, pR (some o0)), (1, pI x1), (2, pI x2), (3, pI x3)] [] s 0 0 := by
  intro n
  induction n with
  | zero => intro _ _ _ _ s h; exact h.elim
  | succ n hK4 =>
    intro o0 x1 x2 x3 s h
    have h : w_X12_linksOf_4b Q (w_X12_linksOf_4 Q n) o0 x1 x2 x3 s := h
    unfold w_X12_linksOf_4b at h
    refine v_iload_n hX dX12_linksOf_4 3 rfl rfl ?_
    refine v_aload_n hX dX12_linksOf_5 0 rfl rfl ?_
    obtain ⟨k1, h⟩ := h
    refine v_getI hX dX12_linksOf_6 f_RX12_513 rfl k1 ?_
    refine v_icmp_ge (tgt := 88) hX dX12_linksOf_9 (by decide) (fun c2 => ?_) (fun c2 => ?_)
    · have h := h_T c2 h
      refine v_iload_n hX dX12_linksOf_88 2 rfl rfl ?_
      exact v_iret hX hE dX12_linksOf_89 h
    · have h := h_E c2 h
      refine v_iload_n hX dX12_linksOf_12 2 rfl rfl ?_
      refine v_iload_n hX dX12_linksOf_13 1 rfl rfl ?_
      refine v_i2l hX dX12_linksOf_14 ?_
      refine v_aload_n hX dX12_linksOf_15 0 rfl rfl ?_
      refine v_getR hX dX12_linksOf_16 f_RX12_204 rfl k1 ?_
      refine v_iload_n hX dX12_linksOf_19 3 rfl rfl ?_
      obtain ⟨a3, e_a3, h⟩ := h
      refine v_nn1 e_a3 ?_
      obtain ⟨k4, h⟩ := h
      obtain ⟨i5, h⟩ := h
      refine v_iald hX dX12_linksOf_20 k4 i5 ?_
      refine v_i2l hX dX12_linksOf_21 ?_
      refine v_aload_n hX dX12_linksOf_22 0 rfl rfl ?_
      refine v_getR hX dX12_linksOf_23 f_RX12_204 rfl k1 ?_
      refine v_iload_n hX dX12_linksOf_26 3 rfl rfl ?_
      obtain ⟨a6, e_a6, h⟩ := h
      refine v_nn1 e_a6 ?_
      obtain ⟨k7, h⟩ := h
      obtain ⟨i8, h⟩ := h
      refine v_iald hX dX12_linksOf_27 k7 i8 ?_
      refine v_aload_n hX dX12_linksOf_28 0 rfl rfl ?_
      refine v_getR hX dX12_linksOf_29 f_RX12_207 rfl k1 ?_
      refine v_iload_n hX dX12_linksOf_32 3 rfl rfl ?_
      obtain ⟨a9, e_a9, h⟩ := h
      refine v_nn1 e_a9 ?_
      obtain ⟨k10, h⟩ := h
      obtain ⟨i11, h⟩ := h
      refine v_iald hX dX12_linksOf_33 k10 i11 ?_
      refine v_iadd hX dX12_linksOf_34 ?_
      refine v_i2l hX dX12_linksOf_35 ?_
      refine v_lconst (v := 1) hX dX12_linksOf_36 (by decide) ?_
      refine v_lsub hX dX12_linksOf_37 ?_
      refine v_callSi hX dX12_linksOf_38 c_RX12_298 cS_X12_in [pL _, pL _, pL _] rfl rfl (Nat.le_of_ble_eq_true rfl) (by decide) (by decide) (Nat.zero_le _) (Nat.zero_le _) (m_X12_in h) (fun r13 s12 h => ?_)
      refine v_if_ne (tgt := 75) hX dX12_linksOf_41 (by decide) (fun c14 => ?_) (fun c14 => ?_)
      · have h := h_E c14 h
        refine v_pick [0, 1, 3] rfl ?_
        exact b_X12_linksOf_75 hX hE hK4 _ h
      · have h := h_T c14 h
        refine v_iload_n hX dX12_linksOf_44 1 rfl rfl ?_
        refine v_i2l hX dX12_linksOf_45 ?_
        refine v_aload_n hX dX12_linksOf_46 0 rfl rfl ?_
        obtain ⟨k15, h⟩ := h
        refine v_getR hX dX12_linksOf_47 f_RX12_210 rfl k15 ?_
        refine v_iload_n hX dX12_linksOf_50 3 rfl rfl ?_
        obtain ⟨a16, e_a16, h⟩ := h
        refine v_nn1 e_a16 ?_
        obtain ⟨k17, h⟩ := h
        obtain ⟨i18, h⟩ := h
        refine v_iald hX dX12_linksOf_51 k17 i18 ?_
        refine v_i2l hX dX12_linksOf_52 ?_
        refine v_aload_n hX dX12_linksOf_53 0 rfl rfl ?_
        refine v_getR hX dX12_linksOf_54 f_RX12_210 rfl k15 ?_
        refine v_iload_n hX dX12_linksOf_57 3 rfl rfl ?_
        obtain ⟨a19, e_a19, h⟩ := h
        refine v_nn1 e_a19 ?_
        obtain ⟨k20, h⟩ := h
        obtain ⟨i21, h⟩ := h
        refine v_iald hX dX12_linksOf_58 k20 i21 ?_
        refine v_aload_n hX dX12_linksOf_59 0 rfl rfl ?_
        refine v_getR hX dX12_linksOf_60 f_RX12_213 rfl k15 ?_
        refine v_iload_n hX dX12_linksOf_63 3 rfl rfl ?_
        obtain ⟨a22, e_a22, h⟩ := h
        refine v_nn1 e_a22 ?_
        obtain ⟨k23, h⟩ := h
        obtain ⟨i24, h⟩ := h
        refine v_iald hX dX12_linksOf_64 k23 i24 ?_
        refine v_iadd hX dX12_linksOf_65 ?_
        refine v_i2l hX dX12_linksOf_66 ?_
        refine v_lconst (v := 1) hX dX12_linksOf_67 (by decide) ?_
        refine v_lsub hX dX12_linksOf_68 ?_
        refine v_callSi hX dX12_linksOf_69 c_RX12_298 cS_X12_in [pL _, pL _, pL _] rfl rfl (Nat.le_of_ble_eq_true rfl) (by decide) (by decide) (Nat.zero_le _) (Nat.zero_le _) (m_X12_in h) (fun r26 s25 h => ?_)
        refine v_if_eq (tgt := 79) hX dX12_linksOf_72 (by decide) (fun c27 => ?_) (fun c27 => ?_)
        · have h := h_T c27 h
          refine v_iconst (v := 0) hX dX12_linksOf_79 (by decide) ?_
          refine v_pick [0, 1, 3] rfl ?_
          exact b_X12_linksOf_80 hX hE hK4 _ h
        · have h := h_E c27 h
          refine v_pick [0, 1, 3] rfl ?_
          exact b_X12_linksOf_75 hX hE hK4 _ h
set_option maxRecDepth 100000 in
set_option maxHeartbeats 4000000 in
theorem m_X12_linksOf {Z : h_Z} {o0 : Nat} {x1 : Int32} {s : h_S} {Q : Int32 → h_S → Prop} (h : w_X12_linksOf o0 x1 s Q) : h_M Z yX12_linksOf cX12_linksOf 4 (some .int) 1 25 [pR (some o0), pI x1] s 0 0 (h_QI Z Q) := by
  refine h_M.of (by decide) (Nat.le_of_ble_eq_true rfl) (fun X hZ hX hE hI => ?_)
  subst hZ
  unfold w_X12_linksOf at h
  show h_V X 4 0 [(0, pR (some o0)), (1, pI x1)] [] s 0 0
  refine v_iconst (v := 0) hX dX12_linksOf_0 (by decide) ?_
  refine v_istore_n (lv' := [(2, _), (0, _), (1, _)]) hX dX12_linksOf_1 rfl (by decide) rfl ?_
  refine v_iconst (v := 0) hX dX12_linksOf_2 (by decide) ?_
  refine v_istore_n (lv' := [(3, _), (2, _), (0, _), (1, _)]) hX dX12_linksOf_3 rfl (by decide) rfl ?_
  refine v_pick [2, 3, 1, 0] rfl ?_
  obtain ⟨n, h⟩ := h
  exact b_X12_linksOf_4 hX hE n _ _ _ _ _ h
set_option maxRecDepth 100000 in
set_option maxHeartbeats 4000000 in
theorem b_X12_noRight_21 {X : h_X} (hX : h_ok X cX12_noRight 2 RX12 1 25) {Q : Int32 → h_S → Prop} (hE : h_end X (some .boolean) (h_QI (x_Z X) Q)) {y0 : Int32} (s : h_S) (h : w_X12_noRight_21 Q y0 s) : h_V X 2 21 [] [pI y0] s 0 0 := by
  unfold w_X12_noRight_21 at h
  exact v_zret hX hE dX12_noRight_21 h.1 h.2
set_option maxRecDepth 100000 in
set_option maxHeartbeats 4000000 in
theorem m_X12_noRight {Z : h_Z} {o0 : Nat} {x1 : Int32} {s : h_S} {Q : Int32 → h_S → Prop} (h : w_X12_noRight o0 x1 s Q) : h_M Z yX12_noRight cX12_noRight 2 (some .boolean) 1 25 [pR (some o0), pI x1] s 0 0 (h_QI Z Q) := by
  refine h_M.of (by decide) (Nat.le_of_ble_eq_true rfl) (fun X hZ hX hE hI => ?_)
  subst hZ
  unfold w_X12_noRight at h
  show h_V X 2 0 [(0, pR (some o0)), (1, pI x1)] [] s 0 0
  refine v_iload_n hX dX12_noRight_0 1 rfl rfl ?_
  refine v_i2l hX dX12_noRight_1 ?_
  refine v_lconst (v := 0) hX dX12_noRight_2 (by decide) ?_
  refine v_aload_n hX dX12_noRight_3 0 rfl rfl ?_
  obtain ⟨k1, h⟩ := h
  refine v_getI hX dX12_noRight_4 f_RX12_537 rfl k1 ?_
  refine v_i2l hX dX12_noRight_7 ?_
  refine v_lconst (v := 1) hX dX12_noRight_8 (by decide) ?_
  refine v_lsub hX dX12_noRight_9 ?_
  refine v_callSi hX dX12_noRight_10 c_RX12_298 cS_X12_in [pL _, pL _, pL _] rfl rfl (Nat.le_of_ble_eq_true rfl) (by decide) (by decide) (Nat.zero_le _) (Nat.zero_le _) (m_X12_in h) (fun r3 s2 h => ?_)
  refine v_if_ne (tgt := 20) hX dX12_noRight_13 (by decide) (fun c4 => ?_) (fun c4 => ?_)
  · have h := h_E c4 h
    refine v_iconst (v := 0) hX dX12_noRight_20 (by decide) ?_
    refine v_pick [] rfl ?_
    exact b_X12_noRight_21 hX hE _ h
  · have h := h_T c4 h
    refine v_iconst (v := 1) hX dX12_noRight_16 (by decide) ?_
    refine v_goto (tgt := 21) hX dX12_noRight_17 (by decide) ?_
    refine v_pick [] rfl ?_
    exact b_X12_noRight_21 hX hE _ h
set_option maxRecDepth 100000 in
set_option maxHeartbeats 4000000 in
theorem b_X12_useOf_31 {X : h_X} (hX : h_ok X cX12_useOf 1 RX12 0 0) {Q : Int32 → h_S → Prop} (hE : h_end X (some .int) (h_QI (x_Z X) Q)) {y0 : Int32} (s : h_S) (h : w_X12_useOf_31 Q y0 s) : h_V X 1 31 [] [pI y0] s 0 0 := by
  unfold w_X12_useOf_31 at h
  exact v_iret hX hE dX12_useOf_31 h
set_option maxRecDepth 100000 in
set_option maxHeartbeats 4000000 in
theorem m_X12_useOf {Z : h_Z} {x0 : Int32} {s : h_S} {Q : Int32 → h_S → Prop} (h : w_X12_useOf x0 s Q) : h_M Z yX12_useOf cX12_useOf 1 (some .int) 0 0 [pI x0] s 0 0 (h_QI Z Q) := by
  refine h_M.of (by decide) (Nat.le_of_ble_eq_true rfl) (fun X hZ hX hE hI => ?_)
  subst hZ
  unfold w_X12_useOf at h
  show h_V X 1 0 [(0, pI x0)] [] s 0 0
  refine v_iload_n hX dX12_useOf_0 0 rfl rfl ?_
  refine v_bipush (v := 114) hX dX12_useOf_1 (by decide) ?_
  refine v_icmp_ne (tgt := 10) hX dX12_useOf_3 (by decide) (fun c1 => ?_) (fun c1 => ?_)
  · have h := h_E c1 h
    refine v_iload_n hX dX12_useOf_10 0 rfl rfl ?_
    refine v_bipush (v := 113) hX dX12_useOf_11 (by decide) ?_
    refine v_icmp_ne (tgt := 20) hX dX12_useOf_13 (by decide) (fun c2 => ?_) (fun c2 => ?_)
    · have h := h_E c2 h
      refine v_iload_n hX dX12_useOf_20 0 rfl rfl ?_
      refine v_bipush (v := 108) hX dX12_useOf_21 (by decide) ?_
      refine v_icmp_ne (tgt := 30) hX dX12_useOf_23 (by decide) (fun c3 => ?_) (fun c3 => ?_)
      · have h := h_E c3 h
        refine v_iconst (v := -1) hX dX12_useOf_30 (by decide) ?_
        refine v_pick [] rfl ?_
        exact b_X12_useOf_31 hX hE _ h
      · have h := h_T c3 h
        refine v_iconst (v := 2) hX dX12_useOf_26 (by decide) ?_
        refine v_goto (tgt := 31) hX dX12_useOf_27 (by decide) ?_
        refine v_pick [] rfl ?_
        exact b_X12_useOf_31 hX hE _ h
    · have h := h_T c2 h
      refine v_iconst (v := 1) hX dX12_useOf_16 (by decide) ?_
      refine v_goto (tgt := 31) hX dX12_useOf_17 (by decide) ?_
      refine v_pick [] rfl ?_
      exact b_X12_useOf_31 hX hE _ h
  · have h := h_T c1 h
    refine v_iconst (v := 0) hX dX12_useOf_6 (by decide) ?_
    refine v_goto (tgt := 31) hX dX12_useOf_7 (by decide) ?_
    refine v_pick [] rfl ?_
    exact b_X12_useOf_31 hX hE _ h
set_option maxRecDepth 100000 in
set_option maxHeartbeats 4000000 in
theorem b_X12_readText_282 {X : h_X} (hX : h_ok X cX12_readText 9 RX12 1 25) {Q : Int32 → h_S → Prop} (hE : h_end X (some .int) (h_QI (x_Z X) Q)) {K23 : Nat → Int32 → Int32 → Int32 → Int32 → Int32 → h_S → Prop} (hK23 : ∀ (o0 : Nat) (x1 : Int32) (x2 : Int32) (x3 : Int32) (x4 : Int32) (x5 : Int32) (s : h_S), K23 o0 x1 x2 x3 x4 x5 s → h_V X 9 23 [(0, pR (some o0)), (1, pI x1), (2, pI x2), (3, pI x3), (4, pI x4), (5, pI x5)] [] s 0 0) {o0 : Nat} {x1 : Int32} {x2 : Int32} {x3 : Int32} {x4 : Int32} {x5 : Int32} (s : h_S) (h : w_X12_readText_282 Q K23 o0 x1 x2 x3 x4 x5 s) : h_V X 9 282 [(0, pR (some o0)), (1, pI x1), (2, pI x2), (3, pI x3), (4, pI x4), (5, pI x5)] [] s 0 0 := by
  unfold w_X12_readText_282 at h
  refine v_iinc (c := 1) (lv' := [(5, _), (0, _), (1, _), (2, _), (3, _), (4, _)]) hX dX12_readText_282 5 rfl (by decide) (by decide) rfl ?_
  refine v_goto (tgt := 23) hX dX12_readText_285 (by decide) ?_
  refine v_pick [1, 2, 3, 4, 5, 0] rfl ?_
  exact hK23 _ _ _ _ _ _ _ h
set_option maxRecDepth 100000 in
set_option maxHeartbeats 4000000 in
theorem b_X12_readText_279 {X : h_X} (hX : h_ok X cX12_readText 9 RX12 1 25) {Q : Int32 → h_S → Prop} (hE : h_end X (some .int) (h_QI (x_Z X) Q)) {x5 : Int32} (s : h_S) (h : w_X12_readText_279 Q x5 s) : h_V X 9 279 [(5, pI x5)] [] s 0 0 := by
  unfold w_X12_readText_279 at h
  refine v_iload hX dX12_readText_279 0 rfl ?_
  exact v_iret hX hE dX12_readText_281 h
set_option maxRecDepth 100000 in
set_option maxHeartbeats 4000000 in
theorem b_X12_readText_240 {X : h_X} (hX : h_ok X cX12_readText 9 RX12 1 25) {Q : Int32 → h_S → Prop} (hE : h_end X (some .int) (h_QI (x_Z X) Q)) {K23 : Nat → Int32 → Int32 → Int32 → Int32 → Int32 → h_S → Prop} (hK23 : ∀ (o0 : Nat) (x1 : Int32) (x2 : Int32) (x3 : Int32) (x4 : Int32) (x5 : Int32) (s : h_S), K23 o0 x1 x2 x3 x4 x5 s → h_V X 9 23 [(0, pR (some o0)), (1, pI x1), (2, pI x2), (3, pI x3), (4, pI x4), (5, pI x5)] [] s 0 0) {o0 : Nat} {x1 : Int32} {x2 : Int32} {x3 : Int32} {x4 : Int32} {x5 : Int32} {x6 : Int32} {x7 : Int32} (s : h_S) (h : w_X12_readText_240 Q K23 o0 x1 x2 x3 x4 x5 x6 x7 s) : h_V X 9 240 [(0, pR (some o0)), (1, pI x1), (2, pI x2), (3, pI x3), (4, pI x4), (5, pI x5), (6, pI x6), (7, pI x7)] [] s 0 0 := by
  unfold w_X12_readText_240 at h
  refine v_iload_n hX dX12_readText_240 3 rfl rfl ?_
  refine v_iconst (v := 4) hX dX12_readText_241 (by decide) ?_
  refine v_icmp_ne (tgt := 279) hX dX12_readText_242 (by decide) (fun c1 => ?_) (fun c1 => ?_)
  · have h := h_E c1 h
    refine v_pick [5] rfl ?_
    exact b_X12_readText_279 hX hE _ h
  · have h := h_T c1 h
    refine v_iload hX dX12_readText_245 7 rfl ?_
    refine v_if_eq (tgt := 279) hX dX12_readText_247 (by decide) (fun c2 => ?_) (fun c2 => ?_)
    · have h := h_T c2 h
      refine v_pick [5] rfl ?_
      exact b_X12_readText_279 hX hE _ h
    · have h := h_E c2 h
      refine v_iload hX dX12_readText_250 4 rfl ?_
      refine v_iconst (v := 4) hX dX12_readText_252 (by decide) ?_
      refine v_icmp_ge (tgt := 279) hX dX12_readText_253 (by decide) (fun c3 => ?_) (fun c3 => ?_)
      · have h := h_T c3 h
        refine v_pick [5] rfl ?_
        exact b_X12_readText_279 hX hE _ h
      · have h := h_E c3 h
        refine v_aload_n hX dX12_readText_256 0 rfl rfl ?_
        refine v_bipush (v := 10) hX dX12_readText_257 (by decide) ?_
        refine v_aload_n hX dX12_readText_259 0 rfl rfl ?_
        obtain ⟨k4, h⟩ := h
        refine v_getI hX dX12_readText_260 f_RX12_555 rfl k4 ?_
        refine v_imul hX dX12_readText_263 ?_
        refine v_iload hX dX12_readText_264 6 rfl ?_
        refine v_iadd hX dX12_readText_266 ?_
        refine v_bipush (v := 48) hX dX12_readText_267 (by decide) ?_
        refine v_isub hX dX12_readText_269 ?_
        refine v_putI hX dX12_readText_270 f_RX12_555 k4 ?_
        refine v_iinc (c := 1) (lv' := [(4, _), (0, _), (1, _), (2, _), (3, _), (5, _), (6, _), (7, _)]) hX dX12_readText_273 4 rfl (by decide) (by decide) rfl ?_
        refine v_goto (tgt := 282) hX dX12_readText_276 (by decide) ?_
        refine v_pick [1, 2, 3, 4, 0, 5] rfl ?_
        exact b_X12_readText_282 hX hE hK23 _ h
set_option maxRecDepth 100000 in
set_option maxHeartbeats 4000000 in
theorem b_X12_readText_215 {X : h_X} (hX : h_ok X cX12_readText 9 RX12 1 25) {Q : Int32 → h_S → Prop} (hE : h_end X (some .int) (h_QI (x_Z X) Q)) {K23 : Nat → Int32 → Int32 → Int32 → Int32 → Int32 → h_S → Prop} (hK23 : ∀ (o0 : Nat) (x1 : Int32) (x2 : Int32) (x3 : Int32) (x4 : Int32) (x5 : Int32) (s : h_S), K23 o0 x1 x2 x3 x4 x5 s → h_V X 9 23 [(0, pR (some o0)), (1, pI x1), (2, pI x2), (3, pI x3), (4, pI x4), (5, pI x5)] [] s 0 0) {o0 : Nat} {x1 : Int32} {x2 : Int32} {x3 : Int32} {x4 : Int32} {x5 : Int32} {x6 : Int32} {x7 : Int32} (s : h_S) (h : w_X12_readText_215 Q K23 o0 x1 x2 x3 x4 x5 x6 x7 s) : h_V X 9 215 [(0, pR (some o0)), (1, pI x1), (2, pI x2), (3, pI x3), (4, pI x4), (5, pI x5), (6, pI x6), (7, pI x7)] [] s 0 0 := by
  unfold w_X12_readText_215 at h
  refine v_iload_n hX dX12_readText_215 3 rfl rfl ?_
  refine v_iconst (v := 3) hX dX12_readText_216 (by decide) ?_
  refine v_icmp_ne (tgt := 240) hX dX12_readText_217 (by decide) (fun c1 => ?_) (fun c1 => ?_)
  · have h := h_E c1 h
    refine v_pick [0, 1, 2, 3, 4, 5, 6, 7] rfl ?_
    exact b_X12_readText_240 hX hE hK23 _ h
  · have h := h_T c1 h
    refine v_iload hX dX12_readText_220 6 rfl ?_
    refine v_bipush (v := 45) hX dX12_readText_222 (by decide) ?_
    refine v_icmp_ne (tgt := 240) hX dX12_readText_224 (by decide) (fun c2 => ?_) (fun c2 => ?_)
    · have h := h_E c2 h
      refine v_pick [0, 1, 2, 3, 4, 5, 6, 7] rfl ?_
      exact b_X12_readText_240 hX hE hK23 _ h
    · have h := h_T c2 h
      refine v_iload hX dX12_readText_227 4 rfl ?_
      refine v_if_le (tgt := 240) hX dX12_readText_229 (by decide) (fun c3 => ?_) (fun c3 => ?_)
      · have h := h_T c3 h
        refine v_pick [0, 1, 2, 3, 4, 5, 6, 7] rfl ?_
        exact b_X12_readText_240 hX hE hK23 _ h
      · have h := h_E c3 h
        refine v_iconst (v := 4) hX dX12_readText_232 (by decide) ?_
        refine v_istore_n (lv' := [(3, _), (0, _), (1, _), (2, _), (4, _), (5, _), (6, _), (7, _)]) hX dX12_readText_233 rfl (by decide) rfl ?_
        refine v_iconst (v := 0) hX dX12_readText_234 (by decide) ?_
        refine v_istore (lv' := [(4, _), (3, _), (0, _), (1, _), (2, _), (5, _), (6, _), (7, _)]) hX dX12_readText_235 (by decide) rfl ?_
        refine v_goto (tgt := 282) hX dX12_readText_237 (by decide) ?_
        refine v_pick [2, 3, 4, 1, 0, 5] rfl ?_
        exact b_X12_readText_282 hX hE hK23 _ h
set_option maxRecDepth 100000 in
set_option maxHeartbeats 4000000 in
theorem b_X12_readText_176 {X : h_X} (hX : h_ok X cX12_readText 9 RX12 1 25) {Q : Int32 → h_S → Prop} (hE : h_end X (some .int) (h_QI (x_Z X) Q)) {K23 : Nat → Int32 → Int32 → Int32 → Int32 → Int32 → h_S → Prop} (hK23 : ∀ (o0 : Nat) (x1 : Int32) (x2 : Int32) (x3 : Int32) (x4 : Int32) (x5 : Int32) (s : h_S), K23 o0 x1 x2 x3 x4 x5 s → h_V X 9 23 [(0, pR (some o0)), (1, pI x1), (2, pI x2), (3, pI x3), (4, pI x4), (5, pI x5)] [] s 0 0) {o0 : Nat} {x1 : Int32} {x2 : Int32} {x3 : Int32} {x4 : Int32} {x5 : Int32} {x6 : Int32} {x7 : Int32} (s : h_S) (h : w_X12_readText_176 Q K23 o0 x1 x2 x3 x4 x5 x6 x7 s) : h_V X 9 176 [(0, pR (some o0)), (1, pI x1), (2, pI x2), (3, pI x3), (4, pI x4), (5, pI x5), (6, pI x6), (7, pI x7)] [] s 0 0 := by
  unfold w_X12_readText_176 at h
  refine v_iload_n hX dX12_readText_176 3 rfl rfl ?_
  refine v_iconst (v := 3) hX dX12_readText_177 (by decide) ?_
  refine v_icmp_ne (tgt := 215) hX dX12_readText_178 (by decide) (fun c1 => ?_) (fun c1 => ?_)
  · have h := h_E c1 h
    refine v_pick [0, 1, 2, 3, 4, 5, 6, 7] rfl ?_
    exact b_X12_readText_215 hX hE hK23 _ h
  · have h := h_T c1 h
    refine v_iload hX dX12_readText_181 7 rfl ?_
    refine v_if_eq (tgt := 215) hX dX12_readText_183 (by decide) (fun c2 => ?_) (fun c2 => ?_)
    · have h := h_T c2 h
      refine v_pick [0, 1, 2, 3, 4, 5, 6, 7] rfl ?_
      exact b_X12_readText_215 hX hE hK23 _ h
    · have h := h_E c2 h
      refine v_iload hX dX12_readText_186 4 rfl ?_
      refine v_iconst (v := 4) hX dX12_readText_188 (by decide) ?_
      refine v_icmp_ge (tgt := 215) hX dX12_readText_189 (by decide) (fun c3 => ?_) (fun c3 => ?_)
      · have h := h_T c3 h
        refine v_pick [0, 1, 2, 3, 4, 5, 6, 7] rfl ?_
        exact b_X12_readText_215 hX hE hK23 _ h
      · have h := h_E c3 h
        refine v_aload_n hX dX12_readText_192 0 rfl rfl ?_
        refine v_bipush (v := 10) hX dX12_readText_193 (by decide) ?_
        refine v_aload_n hX dX12_readText_195 0 rfl rfl ?_
        obtain ⟨k4, h⟩ := h
        refine v_getI hX dX12_readText_196 f_RX12_552 rfl k4 ?_
        refine v_imul hX dX12_readText_199 ?_
        refine v_iload hX dX12_readText_200 6 rfl ?_
        refine v_iadd hX dX12_readText_202 ?_
        refine v_bipush (v := 48) hX dX12_readText_203 (by decide) ?_
        refine v_isub hX dX12_readText_205 ?_
        refine v_putI hX dX12_readText_206 f_RX12_552 k4 ?_
        refine v_iinc (c := 1) (lv' := [(4, _), (0, _), (1, _), (2, _), (3, _), (5, _), (6, _), (7, _)]) hX dX12_readText_209 4 rfl (by decide) (by decide) rfl ?_
        refine v_goto (tgt := 282) hX dX12_readText_212 (by decide) ?_
        refine v_pick [1, 2, 3, 4, 0, 5] rfl ?_
        exact b_X12_readText_282 hX hE hK23 _ h
set_option maxRecDepth 100000 in
set_option maxHeartbeats 4000000 in
theorem b_X12_readText_149 {X : h_X} (hX : h_ok X cX12_readText 9 RX12 1 25) {Q : Int32 → h_S → Prop} (hE : h_end X (some .int) (h_QI (x_Z X) Q)) {K23 : Nat → Int32 → Int32 → Int32 → Int32 → Int32 → h_S → Prop} (hK23 : ∀ (o0 : Nat) (x1 : Int32) (x2 : Int32) (x3 : Int32) (x4 : Int32) (x5 : Int32) (s : h_S), K23 o0 x1 x2 x3 x4 x5 s → h_V X 9 23 [(0, pR (some o0)), (1, pI x1), (2, pI x2), (3, pI x3), (4, pI x4), (5, pI x5)] [] s 0 0) {o0 : Nat} {x1 : Int32} {x2 : Int32} {x3 : Int32} {x4 : Int32} {x5 : Int32} {x6 : Int32} {x7 : Int32} (s : h_S) (h : w_X12_readText_149 Q K23 o0 x1 x2 x3 x4 x5 x6 x7 s) : h_V X 9 149 [(0, pR (some o0)), (1, pI x1), (2, pI x2), (3, pI x3), (4, pI x4), (5, pI x5), (6, pI x6), (7, pI x7)] [] s 0 0 := by
  unfold w_X12_readText_149 at h
  refine v_iload_n hX dX12_readText_149 3 rfl rfl ?_
  refine v_iconst (v := 2) hX dX12_readText_150 (by decide) ?_
  refine v_icmp_ne (tgt := 176) hX dX12_readText_151 (by decide) (fun c1 => ?_) (fun c1 => ?_)
  · have h := h_E c1 h
    refine v_pick [0, 1, 2, 3, 4, 5, 6, 7] rfl ?_
    exact b_X12_readText_176 hX hE hK23 _ h
  · have h := h_T c1 h
    refine v_iload hX dX12_readText_154 6 rfl ?_
    refine v_bipush (v := 64) hX dX12_readText_156 (by decide) ?_
    refine v_icmp_ne (tgt := 176) hX dX12_readText_158 (by decide) (fun c2 => ?_) (fun c2 => ?_)
    · have h := h_E c2 h
      refine v_pick [0, 1, 2, 3, 4, 5, 6, 7] rfl ?_
      exact b_X12_readText_176 hX hE hK23 _ h
    · have h := h_T c2 h
      refine v_aload_n hX dX12_readText_161 0 rfl rfl ?_
      obtain ⟨k3, h⟩ := h
      refine v_getI hX dX12_readText_162 f_RX12_549 rfl k3 ?_
      refine v_if_le (tgt := 176) hX dX12_readText_165 (by decide) (fun c4 => ?_) (fun c4 => ?_)
      · have h := h_T c4 h
        refine v_pick [0, 1, 2, 3, 4, 5, 6, 7] rfl ?_
        exact b_X12_readText_176 hX hE hK23 _ h
      · have h := h_E c4 h
        refine v_iconst (v := 3) hX dX12_readText_168 (by decide) ?_
        refine v_istore_n (lv' := [(3, _), (0, _), (1, _), (2, _), (4, _), (5, _), (6, _), (7, _)]) hX dX12_readText_169 rfl (by decide) rfl ?_
        refine v_iconst (v := 0) hX dX12_readText_170 (by decide) ?_
        refine v_istore (lv' := [(4, _), (3, _), (0, _), (1, _), (2, _), (5, _), (6, _), (7, _)]) hX dX12_readText_171 (by decide) rfl ?_
        refine v_goto (tgt := 282) hX dX12_readText_173 (by decide) ?_
        refine v_pick [2, 3, 4, 1, 0, 5] rfl ?_
        exact b_X12_readText_282 hX hE hK23 _ h
set_option maxRecDepth 100000 in
set_option maxHeartbeats 4000000 in
theorem b_X12_readText_111 {X : h_X} (hX : h_ok X cX12_readText 9 RX12 1 25) {Q : Int32 → h_S → Prop} (hE : h_end X (some .int) (h_QI (x_Z X) Q)) {K23 : Nat → Int32 → Int32 → Int32 → Int32 → Int32 → h_S → Prop} (hK23 : ∀ (o0 : Nat) (x1 : Int32) (x2 : Int32) (x3 : Int32) (x4 : Int32) (x5 : Int32) (s : h_S), K23 o0 x1 x2 x3 x4 x5 s → h_V X 9 23 [(0, pR (some o0)), (1, pI x1), (2, pI x2), (3, pI x3), (4, pI x4), (5, pI x5)] [] s 0 0) {o0 : Nat} {x1 : Int32} {x2 : Int32} {x3 : Int32} {x4 : Int32} {x5 : Int32} {x6 : Int32} {x7 : Int32} {x8 : Int32} (s : h_S) (h : w_X12_readText_111 Q K23 o0 x1 x2 x3 x4 x5 x6 x7 x8 s) : h_V X 9 111 [(0, pR (some o0)), (1, pI x1), (2, pI x2), (3, pI x3), (4, pI x4), (5, pI x5), (6, pI x6), (7, pI x7), (8, pI x8)] [] s 0 0 := by
  unfold w_X12_readText_111 at h
  refine v_iload_n hX dX12_readText_111 3 rfl rfl ?_
  refine v_iconst (v := 2) hX dX12_readText_112 (by decide) ?_
  refine v_icmp_ne (tgt := 149) hX dX12_readText_113 (by decide) (fun c1 => ?_) (fun c1 => ?_)
  · have h := h_E c1 h
    refine v_pick [0, 1, 2, 3, 4, 5, 6, 7] rfl ?_
    exact b_X12_readText_149 hX hE hK23 _ h
  · have h := h_T c1 h
    refine v_iload hX dX12_readText_116 8 rfl ?_
    refine v_if_lt (tgt := 149) hX dX12_readText_118 (by decide) (fun c2 => ?_) (fun c2 => ?_)
    · have h := h_T c2 h
      refine v_pick [0, 1, 2, 3, 4, 5, 6, 7] rfl ?_
      exact b_X12_readText_149 hX hE hK23 _ h
    · have h := h_E c2 h
      refine v_aload_n hX dX12_readText_121 0 rfl rfl ?_
      obtain ⟨k3, h⟩ := h
      refine v_getI hX dX12_readText_122 f_RX12_549 rfl k3 ?_
      refine v_iload hX dX12_readText_125 8 rfl ?_
      refine v_callSi hX dX12_readText_127 c_RX12_540 cS_X12_hasBit [pI _, pI _] rfl rfl (Nat.le_of_ble_eq_true rfl) (by decide) (by decide) (Nat.zero_le _) (Nat.zero_le _) (m_X12_hasBit h) (fun r5 s4 h => ?_)
      refine v_if_ne (tgt := 149) hX dX12_readText_130 (by decide) (fun c6 => ?_) (fun c6 => ?_)
      · have h := h_E c6 h
        refine v_pick [0, 1, 2, 3, 4, 5, 6, 7] rfl ?_
        exact b_X12_readText_149 hX hE hK23 _ h
      · have h := h_T c6 h
        refine v_aload_n hX dX12_readText_133 0 rfl rfl ?_
        refine v_dup hX dX12_readText_134 rfl ?_
        obtain ⟨k7, h⟩ := h
        refine v_getI hX dX12_readText_135 f_RX12_549 rfl k7 ?_
        refine v_iconst (v := 1) hX dX12_readText_138 (by decide) ?_
        refine v_iload hX dX12_readText_139 8 rfl ?_
        refine v_ishl hX dX12_readText_141 ?_
        refine v_ior hX dX12_readText_142 ?_
        refine v_putI hX dX12_readText_143 f_RX12_549 k7 ?_
        refine v_goto (tgt := 282) hX dX12_readText_146 (by decide) ?_
        refine v_pick [0, 1, 2, 3, 4, 5] rfl ?_
        exact b_X12_readText_282 hX hE hK23 _ h
set_option maxRecDepth 100000 in
set_option maxHeartbeats 4000000 in
theorem b_X12_readText_94 {X : h_X} (hX : h_ok X cX12_readText 9 RX12 1 25) {Q : Int32 → h_S → Prop} (hE : h_end X (some .int) (h_QI (x_Z X) Q)) {K23 : Nat → Int32 → Int32 → Int32 → Int32 → Int32 → h_S → Prop} (hK23 : ∀ (o0 : Nat) (x1 : Int32) (x2 : Int32) (x3 : Int32) (x4 : Int32) (x5 : Int32) (s : h_S), K23 o0 x1 x2 x3 x4 x5 s → h_V X 9 23 [(0, pR (some o0)), (1, pI x1), (2, pI x2), (3, pI x3), (4, pI x4), (5, pI x5)] [] s 0 0) {o0 : Nat} {x1 : Int32} {x2 : Int32} {x3 : Int32} {x4 : Int32} {x5 : Int32} {x6 : Int32} {x7 : Int32} {x8 : Int32} (s : h_S) (h : w_X12_readText_94 Q K23 o0 x1 x2 x3 x4 x5 x6 x7 x8 s) : h_V X 9 94 [(0, pR (some o0)), (1, pI x1), (2, pI x2), (3, pI x3), (4, pI x4), (5, pI x5), (6, pI x6), (7, pI x7), (8, pI x8)] [] s 0 0 := by
  unfold w_X12_readText_94 at h
  refine v_iload_n hX dX12_readText_94 3 rfl rfl ?_
  refine v_iconst (v := 1) hX dX12_readText_95 (by decide) ?_
  refine v_icmp_ne (tgt := 111) hX dX12_readText_96 (by decide) (fun c1 => ?_) (fun c1 => ?_)
  · have h := h_E c1 h
    refine v_pick [0, 1, 2, 3, 4, 5, 6, 7, 8] rfl ?_
    exact b_X12_readText_111 hX hE hK23 _ h
  · have h := h_T c1 h
    refine v_iload hX dX12_readText_99 6 rfl ?_
    refine v_bipush (v := 58) hX dX12_readText_101 (by decide) ?_
    refine v_icmp_ne (tgt := 111) hX dX12_readText_103 (by decide) (fun c2 => ?_) (fun c2 => ?_)
    · have h := h_E c2 h
      refine v_pick [0, 1, 2, 3, 4, 5, 6, 7, 8] rfl ?_
      exact b_X12_readText_111 hX hE hK23 _ h
    · have h := h_T c2 h
      refine v_iconst (v := 2) hX dX12_readText_106 (by decide) ?_
      refine v_istore_n (lv' := [(3, _), (0, _), (1, _), (2, _), (4, _), (5, _), (6, _), (7, _), (8, _)]) hX dX12_readText_107 rfl (by decide) rfl ?_
      refine v_goto (tgt := 282) hX dX12_readText_108 (by decide) ?_
      refine v_pick [1, 2, 3, 0, 4, 5] rfl ?_
      exact b_X12_readText_282 hX hE hK23 _ h
set_option maxRecDepth 100000 in
set_option maxHeartbeats 4000000 in
theorem b_X12_readText_303 {X : h_X} (hX : h_ok X cX12_readText 9 RX12 1 25) {Q : Int32 → h_S → Prop} (hE : h_end X (some .int) (h_QI (x_Z X) Q)) {y0 : Int32} (s : h_S) (h : w_X12_readText_303 Q y0 s) : h_V X 9 303 [] [pI y0] s 0 0 := by
  unfold w_X12_readText_303 at h
  exact v_iret hX hE dX12_readText_303 h
set_option maxRecDepth 100000 in
set_option maxHeartbeats 4000000 in
theorem b_X12_readText_302 {X : h_X} (hX : h_ok X cX12_readText 9 RX12 1 25) {Q : Int32 → h_S → Prop} (hE : h_end X (some .int) (h_QI (x_Z X) Q)) {x2 : Int32} (s : h_S) (h : w_X12_readText_302 Q x2 s) : h_V X 9 302 [(2, pI x2)] [] s 0 0 := by
  unfold w_X12_readText_302 at h
  refine v_iload_n hX dX12_readText_302 0 rfl rfl ?_
  refine v_pick [] rfl ?_
  exact b_X12_readText_303 hX hE _ h
set_option maxRecDepth 100000 in
set_option maxHeartbeats 4000000 in
theorem b_X12_readText_23 {X : h_X} (hX : h_ok X cX12_readText 9 RX12 1 25) {Q : Int32 → h_S → Prop} (hE : h_end X (some .int) (h_QI (x_Z X) Q)) : ∀ (n : Nat) (o0 : Nat) (x1 : Int32) (x2 : Int32) (x3 : Int32) (x4 : Int32) (x5 : Int32) (s : h_S), w_X12_readText_23 Q n o0 x1 x2 x3 x4 x5 s → h_V X 9 23 [(0, pR (some o0)), (1, pI x1), (2, pI x2), (3, pI x3), (4, pI x4), (5, pI x5)] [] s 0 0 := by
  intro n
  induction n with
  | zero => intro _ _ _ _ _ _ s h; exact h.elim
  | succ n hK23 =>
    intro o0 x1 x2 x3 x4 x5 s h
    have h : w_X12_readText_23b Q (w_X12_readText_23 Q n) o0 x1 x2 x3 x4 x5 s := h
    unfold w_X12_readText_23b at h
    refine v_iload hX dX12_readText_23 5 rfl ?_
    refine v_iload_n hX dX12_readText_25 2 rfl rfl ?_
    refine v_icmp_ge (tgt := 288) hX dX12_readText_26 (by decide) (fun c1 => ?_) (fun c1 => ?_)
    · have h := h_T c1 h
      refine v_iload_n hX dX12_readText_288 3 rfl rfl ?_
      refine v_iconst (v := 4) hX dX12_readText_289 (by decide) ?_
      refine v_icmp_ne (tgt := 302) hX dX12_readText_290 (by decide) (fun c2 => ?_) (fun c2 => ?_)
      · have h := h_E c2 h
        refine v_pick [2] rfl ?_
        exact b_X12_readText_302 hX hE _ h
      · have h := h_T c2 h
        refine v_iload hX dX12_readText_293 4 rfl ?_
        refine v_if_le (tgt := 302) hX dX12_readText_295 (by decide) (fun c3 => ?_) (fun c3 => ?_)
        · have h := h_T c3 h
          refine v_pick [2] rfl ?_
          exact b_X12_readText_302 hX hE _ h
        · have h := h_E c3 h
          refine v_iconst (v := -1) hX dX12_readText_298 (by decide) ?_
          refine v_goto (tgt := 303) hX dX12_readText_299 (by decide) ?_
          refine v_pick [] rfl ?_
          exact b_X12_readText_303 hX hE _ h
    · have h := h_E c1 h
      refine v_aload_n hX dX12_readText_29 0 rfl rfl ?_
      obtain ⟨k4, h⟩ := h
      refine v_getR hX dX12_readText_30 f_RX12_264 rfl k4 ?_
      refine v_iload_n hX dX12_readText_33 1 rfl rfl ?_
      refine v_iload hX dX12_readText_34 5 rfl ?_
      refine v_iadd hX dX12_readText_36 ?_
      obtain ⟨a5, e_a5, h⟩ := h
      refine v_nn1 e_a5 ?_
      obtain ⟨k6, h⟩ := h
      obtain ⟨i7, h⟩ := h
      refine v_iald hX dX12_readText_37 k6 i7 ?_
      refine v_istore (lv' := [(6, _), (0, _), (1, _), (2, _), (3, _), (4, _), (5, _)]) hX dX12_readText_38 (by decide) rfl ?_
      refine v_iload hX dX12_readText_40 0 rfl ?_
      refine v_i2l hX dX12_readText_42 ?_
      refine v_ldc2 hX dX12_readText_43 k_RX12_558 ?_
      refine v_ldc2 hX dX12_readText_46 k_RX12_560 ?_
      refine v_callSi hX dX12_readText_49 c_RX12_298 cS_X12_in [pL _, pL _, pL _] rfl rfl (Nat.le_of_ble_eq_true rfl) (by decide) (by decide) (Nat.zero_le _) (Nat.zero_le _) (m_X12_in h) (fun r9 s8 h => ?_)
      refine v_istore (lv' := [(7, _), (6, _), (0, _), (1, _), (2, _), (3, _), (4, _), (5, _)]) hX dX12_readText_52 (by decide) rfl ?_
      refine v_iload hX dX12_readText_54 1 rfl ?_
      refine v_callSi hX dX12_readText_56 c_RX12_562 cS_X12_useOf [pI _] rfl rfl (Nat.le_of_ble_eq_true rfl) (by decide) (by decide) (Nat.zero_le _) (Nat.zero_le _) (m_X12_useOf h) (fun r11 s10 h => ?_)
      refine v_istore (lv' := [(8, _), (7, _), (6, _), (0, _), (1, _), (2, _), (3, _), (4, _), (5, _)]) hX dX12_readText_59 (by decide) rfl ?_
      refine v_iload_n hX dX12_readText_61 6 rfl rfl ?_
      refine v_if_ne (tgt := 94) hX dX12_readText_62 (by decide) (fun c12 => ?_) (fun c12 => ?_)
      · have h := h_E c12 h
        refine v_pick [3, 4, 5, 6, 7, 8, 2, 1, 0] rfl ?_
        exact b_X12_readText_94 hX hE hK23 _ h
      · have h := h_T c12 h
        refine v_iload hX dX12_readText_65 2 rfl ?_
        refine v_i2l hX dX12_readText_67 ?_
        refine v_ldc2 hX dX12_readText_68 k_RX12_558 ?_
        refine v_ldc2 hX dX12_readText_71 k_RX12_565 ?_
        refine v_callSi hX dX12_readText_74 c_RX12_298 cS_X12_in [pL _, pL _, pL _] rfl rfl (Nat.le_of_ble_eq_true rfl) (by decide) (by decide) (Nat.zero_le _) (Nat.zero_le _) (m_X12_in h) (fun r14 s13 h => ?_)
        refine v_if_eq (tgt := 94) hX dX12_readText_77 (by decide) (fun c15 => ?_) (fun c15 => ?_)
        · have h := h_T c15 h
          refine v_pick [3, 4, 5, 6, 7, 8, 2, 1, 0] rfl ?_
          exact b_X12_readText_94 hX hE hK23 _ h
        · have h := h_E c15 h
          refine v_aload_n hX dX12_readText_80 3 rfl rfl ?_
          refine v_iload hX dX12_readText_81 2 rfl ?_
          refine v_bipush (v := 48) hX dX12_readText_83 (by decide) ?_
          refine v_isub hX dX12_readText_85 ?_
          obtain ⟨k16, h⟩ := h
          refine v_putI hX dX12_readText_86 f_RX12_567 k16 ?_
          refine v_iconst (v := 1) hX dX12_readText_89 (by decide) ?_
          refine v_istore_n (lv' := [(3, _), (8, _), (7, _), (6, _), (0, _), (1, _), (2, _), (4, _), (5, _)]) hX dX12_readText_90 rfl (by decide) rfl ?_
          refine v_goto (tgt := 282) hX dX12_readText_91 (by decide) ?_
          refine v_pick [4, 5, 6, 0, 7, 8] rfl ?_
          exact b_X12_readText_282 hX hE hK23 _ h
set_option maxRecDepth 100000 in
set_option maxHeartbeats 4000000 in
theorem m_X12_readText {Z : h_Z} {o0 : Nat} {x1 : Int32} {x2 : Int32} {s : h_S} {Q : Int32 → h_S → Prop} (h : w_X12_readText o0 x1 x2 s Q) : h_M Z yX12_readText cX12_readText 9 (some .int) 1 25 [pR (some o0), pI x1, pI x2] s 0 0 (h_QI Z Q) := by
  refine h_M.of (by decide) (Nat.le_of_ble_eq_true rfl) (fun X hZ hX hE hI => ?_)
  subst hZ
  unfold w_X12_readText at h
  show h_V X 9 0 [(0, pR (some o0)), (1, pI x1), (2, pI x2)] [] s 0 0
  refine v_iconst (v := 0) hX dX12_readText_0 (by decide) ?_
  refine v_istore_n (lv' := [(3, _), (0, _), (1, _), (2, _)]) hX dX12_readText_1 rfl (by decide) rfl ?_
  refine v_iconst (v := 0) hX dX12_readText_2 (by decide) ?_
  refine v_istore (lv' := [(4, _), (3, _), (0, _), (1, _), (2, _)]) hX dX12_readText_3 (by decide) rfl ?_
  refine v_aload_n hX dX12_readText_5 2 rfl rfl ?_
  refine v_iconst (v := 0) hX dX12_readText_6 (by decide) ?_
  obtain ⟨k1, h⟩ := h
  refine v_putI hX dX12_readText_7 f_RX12_549 k1 ?_
  refine v_aload_n hX dX12_readText_10 2 rfl rfl ?_
  refine v_iconst (v := 0) hX dX12_readText_11 (by decide) ?_
  refine v_putI hX dX12_readText_12 f_RX12_552 k1 ?_
  refine v_aload_n hX dX12_readText_15 2 rfl rfl ?_
  refine v_iconst (v := 0) hX dX12_readText_16 (by decide) ?_
  refine v_putI hX dX12_readText_17 f_RX12_555 k1 ?_
  refine v_iconst (v := 0) hX dX12_readText_20 (by decide) ?_
  refine v_istore (lv' := [(5, _), (4, _), (3, _), (0, _), (1, _), (2, _)]) hX dX12_readText_21 (by decide) rfl ?_
  refine v_pick [3, 4, 5, 2, 1, 0] rfl ?_
  obtain ⟨n, h⟩ := h
  exact b_X12_readText_23 hX hE n _ _ _ _ _ _ _ h
set_option maxRecDepth 100000 in
set_option maxHeartbeats 4000000 in
theorem m_X12_addRight {Z : h_Z} {o0 : Nat} {x1 : Int32} {x2 : Int32} {x3 : Int32} {x4 : Int32} {x5 : Int32} {x6 : Int32} {s : h_S} {Q : h_S → Prop} (h : w_X12_addRight o0 x1 x2 x3 x4 x5 x6 s Q) : h_M Z yX12_addRight cX12_addRight 7 none 0 0 [pR (some o0), pI x1, pI x2, pI x3, pI x4, pI x5, pI x6] s 0 0 (h_QV Z Q) := by
  refine h_M.of (by decide) (Nat.le_of_ble_eq_true rfl) (fun X hZ hX hE hI => ?_)
  subst hZ
  unfold w_X12_addRight at h
  show h_V X 7 0 [(0, pR (some o0)), (1, pI x1), (2, pI x2), (3, pI x3), (4, pI x4), (5, pI x5), (6, pI x6)] [] s 0 0
  refine v_aload_n hX dX12_addRight_0 0 rfl rfl ?_
  obtain ⟨k1, h⟩ := h
  refine v_getR hX dX12_addRight_1 f_RX12_219 rfl k1 ?_
  refine v_aload_n hX dX12_addRight_4 0 rfl rfl ?_
  refine v_getI hX dX12_addRight_5 f_RX12_537 rfl k1 ?_
  refine v_iload_n hX dX12_addRight_8 1 rfl rfl ?_
  obtain ⟨a2, e_a2, h⟩ := h
  refine v_nn2 e_a2 ?_
  obtain ⟨k3, h⟩ := h
  obtain ⟨i4, h⟩ := h
  refine v_iast hX dX12_addRight_9 k3 i4 ?_
  refine v_aload_n hX dX12_addRight_10 0 rfl rfl ?_
  refine v_getR hX dX12_addRight_11 f_RX12_222 rfl k1 ?_
  refine v_aload_n hX dX12_addRight_14 0 rfl rfl ?_
  refine v_getI hX dX12_addRight_15 f_RX12_537 rfl k1 ?_
  refine v_iload_n hX dX12_addRight_18 2 rfl rfl ?_
  obtain ⟨a6, e_a6, h⟩ := h
  refine v_nn2 e_a6 ?_
  obtain ⟨k7, h⟩ := h
  obtain ⟨i8, h⟩ := h
  refine v_iast hX dX12_addRight_19 k7 i8 ?_
  refine v_aload_n hX dX12_addRight_20 0 rfl rfl ?_
  refine v_getR hX dX12_addRight_21 f_RX12_225 rfl k1 ?_
  refine v_aload_n hX dX12_addRight_24 0 rfl rfl ?_
  refine v_getI hX dX12_addRight_25 f_RX12_537 rfl k1 ?_
  refine v_iload_n hX dX12_addRight_28 3 rfl rfl ?_
  obtain ⟨a10, e_a10, h⟩ := h
  refine v_nn2 e_a10 ?_
  obtain ⟨k11, h⟩ := h
  obtain ⟨i12, h⟩ := h
  refine v_iast hX dX12_addRight_29 k11 i12 ?_
  refine v_aload_n hX dX12_addRight_30 0 rfl rfl ?_
  refine v_getR hX dX12_addRight_31 f_RX12_228 rfl k1 ?_
  refine v_aload_n hX dX12_addRight_34 0 rfl rfl ?_
  refine v_getI hX dX12_addRight_35 f_RX12_537 rfl k1 ?_
  refine v_iload hX dX12_addRight_38 4 rfl ?_
  obtain ⟨a14, e_a14, h⟩ := h
  refine v_nn2 e_a14 ?_
  obtain ⟨k15, h⟩ := h
  obtain ⟨i16, h⟩ := h
  refine v_iast hX dX12_addRight_40 k15 i16 ?_
  refine v_aload_n hX dX12_addRight_41 0 rfl rfl ?_
  refine v_getR hX dX12_addRight_42 f_RX12_231 rfl k1 ?_
  refine v_aload_n hX dX12_addRight_45 0 rfl rfl ?_
  refine v_getI hX dX12_addRight_46 f_RX12_537 rfl k1 ?_
  refine v_iload hX dX12_addRight_49 5 rfl ?_
  obtain ⟨a18, e_a18, h⟩ := h
  refine v_nn2 e_a18 ?_
  obtain ⟨k19, h⟩ := h
  obtain ⟨i20, h⟩ := h
  refine v_iast hX dX12_addRight_51 k19 i20 ?_
  refine v_aload_n hX dX12_addRight_52 0 rfl rfl ?_
  refine v_getR hX dX12_addRight_53 f_RX12_234 rfl k1 ?_
  refine v_aload_n hX dX12_addRight_56 0 rfl rfl ?_
  refine v_getI hX dX12_addRight_57 f_RX12_537 rfl k1 ?_
  refine v_iload hX dX12_addRight_60 6 rfl ?_
  obtain ⟨a22, e_a22, h⟩ := h
  refine v_nn2 e_a22 ?_
  obtain ⟨k23, h⟩ := h
  obtain ⟨i24, h⟩ := h
  refine v_iast hX dX12_addRight_62 k23 i24 ?_
  refine v_aload_n hX dX12_addRight_63 0 rfl rfl ?_
  refine v_getR hX dX12_addRight_64 f_RX12_237 rfl k1 ?_
  refine v_aload_n hX dX12_addRight_67 0 rfl rfl ?_
  refine v_getI hX dX12_addRight_68 f_RX12_537 rfl k1 ?_
  refine v_aload_n hX dX12_addRight_71 0 rfl rfl ?_
  refine v_getI hX dX12_addRight_72 f_RX12_288 rfl k1 ?_
  refine v_iconst (v := 1) hX dX12_addRight_75 (by decide) ?_
  refine v_iadd hX dX12_addRight_76 ?_
  obtain ⟨a26, e_a26, h⟩ := h
  refine v_nn2 e_a26 ?_
  obtain ⟨k27, h⟩ := h
  obtain ⟨i28, h⟩ := h
  refine v_iast hX dX12_addRight_77 k27 i28 ?_
  refine v_aload_n hX dX12_addRight_78 0 rfl rfl ?_
  refine v_getR hX dX12_addRight_79 f_RX12_240 rfl k1 ?_
  refine v_aload_n hX dX12_addRight_82 0 rfl rfl ?_
  refine v_getI hX dX12_addRight_83 f_RX12_537 rfl k1 ?_
  refine v_bipush (v := -9) hX dX12_addRight_86 (by decide) ?_
  obtain ⟨a30, e_a30, h⟩ := h
  refine v_nn2 e_a30 ?_
  obtain ⟨k31, h⟩ := h
  obtain ⟨i32, h⟩ := h
  refine v_iast hX dX12_addRight_88 k31 i32 ?_
  refine v_aload_n hX dX12_addRight_89 0 rfl rfl ?_
  refine v_dup hX dX12_addRight_90 rfl ?_
  refine v_getI hX dX12_addRight_91 f_RX12_537 rfl k1 ?_
  refine v_iconst (v := 1) hX dX12_addRight_94 (by decide) ?_
  refine v_iadd hX dX12_addRight_95 ?_
  refine v_putI hX dX12_addRight_96 f_RX12_537 k1 ?_
  exact v_vret hX hE dX12_addRight_99 h
set_option maxRecDepth 100000 in
set_option maxHeartbeats 4000000 in
theorem b_X12_right_15 {X : h_X} (hX : h_ok X cX12_right 8 RX12 2 53) {Q : Int32 → h_S → Prop} (hE : h_end X (some .int) (h_QI (x_Z X) Q)) {o0 : Nat} (s : h_S) (h : w_X12_right_15 Q o0 s) : h_V X 8 15 [(0, pR (some o0))] [] s 0 0 := by
  unfold w_X12_right_15 at h
  refine v_aload_n hX dX12_right_15 0 rfl rfl ?_
  refine v_iconst (v := -1) hX dX12_right_16 (by decide) ?_
  obtain ⟨k1, h⟩ := h
  refine v_callVi hX dX12_right_17 c_RX12_389 cV_X12_refused (ci := 13) (T := TX12) (N := 115) rfl (by exact k1) [pI _] rfl rfl (Nat.le_of_ble_eq_true rfl) (by decide) (by decide) (Nat.zero_le _) (Nat.zero_le _) (m_X12_refused h) (fun r3 s2 h => ?_)
  exact v_iret hX hE dX12_right_20 h
set_option maxRecDepth 100000 in
set_option maxHeartbeats 4000000 in
theorem m_X12_right {Z : h_Z} {o0 : Nat} {x1 : Int32} {x2 : Int32} {x3 : Int32} {x4 : Int32} {x5 : Int32} {s : h_S} {Q : Int32 → h_S → Prop} (h : w_X12_right o0 x1 x2 x3 x4 x5 s Q) : h_M Z yX12_right cX12_right 8 (some .int) 2 53 [pR (some o0), pI x1, pI x2, pI x3, pI x4, pI x5] s 0 0 (h_QI Z Q) := by
  refine h_M.of (by decide) (Nat.le_of_ble_eq_true rfl) (fun X hZ hX hE hI => ?_)
  subst hZ
  unfold w_X12_right at h
  show h_V X 8 0 [(0, pR (some o0)), (1, pI x1), (2, pI x2), (3, pI x3), (4, pI x4), (5, pI x5)] [] s 0 0
  refine v_aload_n hX dX12_right_0 0 rfl rfl ?_
  refine v_iload_n hX dX12_right_1 1 rfl rfl ?_
  obtain ⟨k1, h⟩ := h
  refine v_callVi hX dX12_right_2 c_RX12_379 cV_X12_noWriting (ci := 13) (T := TX12) (N := 115) rfl (by exact k1) [pI _] rfl rfl (Nat.le_of_ble_eq_true rfl) (by decide) (by decide) (Nat.zero_le _) (Nat.zero_le _) (m_X12_noWriting h) (fun r3 s2 h => ?_)
  refine v_if_ne (tgt := 15) hX dX12_right_5 (by decide) (fun c4 => ?_) (fun c4 => ?_)
  · have h := h_E c4 h
    refine v_pick [0] rfl ?_
    exact b_X12_right_15 hX hE _ h
  · have h := h_T c4 h
    refine v_iload_n hX dX12_right_8 2 rfl rfl ?_
    refine v_callSi hX dX12_right_9 c_RX12_382 cS_X12_noSheet [pI _] rfl rfl (Nat.le_of_ble_eq_true rfl) (by decide) (by decide) (Nat.zero_le _) (Nat.zero_le _) (m_X12_noSheet h) (fun r6 s5 h => ?_)
    refine v_if_eq (tgt := 21) hX dX12_right_12 (by decide) (fun c7 => ?_) (fun c7 => ?_)
    · have h := h_T c7 h
      refine v_aload_n hX dX12_right_21 0 rfl rfl ?_
      refine v_iload_n hX dX12_right_22 2 rfl rfl ?_
      refine v_iload_n hX dX12_right_23 3 rfl rfl ?_
      refine v_iload hX dX12_right_24 4 rfl ?_
      refine v_iload hX dX12_right_26 5 rfl ?_
      obtain ⟨k8, h⟩ := h
      refine v_callVi hX dX12_right_28 c_RX12_392 cV_X12_barred (ci := 13) (T := TX12) (N := 115) rfl (by exact k8) [pI _, pI _, pI _, pI _] rfl rfl (Nat.le_of_ble_eq_true rfl) (by decide) (by decide) (Nat.zero_le _) (Nat.zero_le _) (m_X12_barred h) (fun r10 s9 h => ?_)
      refine v_istore (lv' := [(6, _), (0, _), (1, _), (2, _), (3, _), (4, _), (5, _)]) hX dX12_right_31 (by decide) rfl ?_
      refine v_iload hX dX12_right_33 0 rfl ?_
      refine v_if_ge (tgt := 41) hX dX12_right_35 (by decide) (fun c11 => ?_) (fun c11 => ?_)
      · have h := h_T c11 h
        refine v_aload_n hX dX12_right_41 1 rfl rfl ?_
        refine v_bipush (v := 60) hX dX12_right_42 (by decide) ?_
        refine v_iload_n hX dX12_right_44 3 rfl rfl ?_
        refine v_imul hX dX12_right_45 ?_
        refine v_iload hX dX12_right_46 5 rfl ?_
        refine v_iadd hX dX12_right_48 ?_
        refine v_iload hX dX12_right_49 6 rfl ?_
        obtain ⟨k12, h⟩ := h
        refine v_callVi hX dX12_right_51 c_RX12_570 cV_X12_readText (ci := 13) (T := TX12) (N := 115) rfl (by exact k12) [pI _, pI _] rfl rfl (Nat.le_of_ble_eq_true rfl) (by decide) (by decide) (Nat.zero_le _) (Nat.zero_le _) (m_X12_readText h) (fun r14 s13 h => ?_)
        refine v_istore (lv' := [(7, _), (6, _), (0, _), (1, _), (2, _), (3, _), (4, _), (5, _)]) hX dX12_right_54 (by decide) rfl ?_
        refine v_iload hX dX12_right_56 0 rfl ?_
        refine v_if_lt (tgt := 71) hX dX12_right_58 (by decide) (fun c15 => ?_) (fun c15 => ?_)
        · have h := h_T c15 h
          refine v_aload_n hX dX12_right_71 2 rfl rfl ?_
          obtain ⟨k16, h⟩ := h
          refine v_getI hX dX12_right_72 f_RX12_537 rfl k16 ?_
          refine v_bipush (v := 20) hX dX12_right_75 (by decide) ?_
          refine v_icmp_ne (tgt := 87) hX dX12_right_77 (by decide) (fun c17 => ?_) (fun c17 => ?_)
          · have h := h_E c17 h
            refine v_aload_n hX dX12_right_87 2 rfl rfl ?_
            refine v_iload_n hX dX12_right_88 3 rfl rfl ?_
            refine v_aload_n hX dX12_right_89 2 rfl rfl ?_
            refine v_getI hX dX12_right_90 f_RX12_567 rfl k16 ?_
            refine v_aload_n hX dX12_right_93 2 rfl rfl ?_
            refine v_getI hX dX12_right_94 f_RX12_549 rfl k16 ?_
            refine v_aload_n hX dX12_right_97 2 rfl rfl ?_
            refine v_getI hX dX12_right_98 f_RX12_552 rfl k16 ?_
            refine v_aload_n hX dX12_right_101 2 rfl rfl ?_
            refine v_getI hX dX12_right_102 f_RX12_555 rfl k16 ?_
            refine v_bipush (v := -9) hX dX12_right_105 (by decide) ?_
            refine v_callVv hX dX12_right_107 c_RX12_573 cV_X12_addRight (ci := 13) (T := TX12) (N := 115) rfl (by exact k16) [pI _, pI _, pI _, pI _, pI _, pI _] rfl rfl (Nat.le_of_ble_eq_true rfl) (by decide) (by decide) (Nat.zero_le _) (Nat.zero_le _) (m_X12_addRight h) (fun s18 h => ?_)
            refine v_aload_n hX dX12_right_110 2 rfl rfl ?_
            refine v_aload_n hX dX12_right_111 2 rfl rfl ?_
            refine v_aload_n hX dX12_right_112 2 rfl rfl ?_
            obtain ⟨k20, h⟩ := h
            refine v_getI hX dX12_right_113 f_RX12_537 rfl k20 ?_
            refine v_iconst (v := 1) hX dX12_right_116 (by decide) ?_
            refine v_isub hX dX12_right_117 ?_
            refine v_callVi hX dX12_right_118 c_RX12_302 cV_X12_acted (ci := 13) (T := TX12) (N := 115) rfl (by exact k20) [pI _] rfl rfl (Nat.le_of_ble_eq_true rfl) (by decide) (by decide) (Nat.zero_le _) (Nat.zero_le _) (m_X12_acted h) (fun r22 s21 h => ?_)
            obtain ⟨k23, h⟩ := h
            refine v_callVi hX dX12_right_121 c_RX12_389 cV_X12_refused (ci := 13) (T := TX12) (N := 115) rfl (by exact k23) [pI _] rfl rfl (Nat.le_of_ble_eq_true rfl) (by decide) (by decide) (Nat.zero_le _) (Nat.zero_le _) (m_X12_refused h) (fun r25 s24 h => ?_)
            exact v_iret hX hE dX12_right_124 h
          · have h := h_T c17 h
            refine v_aload_n hX dX12_right_80 2 rfl rfl ?_
            refine v_bipush (v := -4) hX dX12_right_81 (by decide) ?_
            refine v_callVi hX dX12_right_83 c_RX12_389 cV_X12_refused (ci := 13) (T := TX12) (N := 115) rfl (by exact k16) [pI _] rfl rfl (Nat.le_of_ble_eq_true rfl) (by decide) (by decide) (Nat.zero_le _) (Nat.zero_le _) (m_X12_refused h) (fun r27 s26 h => ?_)
            exact v_iret hX hE dX12_right_86 h
        · have h := h_E c15 h
          refine v_aload_n hX dX12_right_61 2 rfl rfl ?_
          refine v_bipush (v := -100) hX dX12_right_62 (by decide) ?_
          refine v_iload hX dX12_right_64 0 rfl ?_
          refine v_isub hX dX12_right_66 ?_
          obtain ⟨k28, h⟩ := h
          refine v_callVi hX dX12_right_67 c_RX12_389 cV_X12_refused (ci := 13) (T := TX12) (N := 115) rfl (by exact k28) [pI _] rfl rfl (Nat.le_of_ble_eq_true rfl) (by decide) (by decide) (Nat.zero_le _) (Nat.zero_le _) (m_X12_refused h) (fun r30 s29 h => ?_)
          exact v_iret hX hE dX12_right_70 h
      · have h := h_E c11 h
        refine v_iload hX dX12_right_38 0 rfl ?_
        exact v_iret hX hE dX12_right_40 h
    · have h := h_E c7 h
      refine v_pick [0] rfl ?_
      exact b_X12_right_15 hX hE _ h
set_option maxRecDepth 100000 in
set_option maxHeartbeats 4000000 in
theorem b_X12_lend_24 {X : h_X} (hX : h_ok X cX12_lend 4 RX12 2 51) {Q : Int32 → h_S → Prop} (hE : h_end X (some .int) (h_QI (x_Z X) Q)) (s : h_S) (h : w_X12_lend_24 Q s) : h_V X 4 24 [] [] s 0 0 := by
  unfold w_X12_lend_24 at h
  refine v_iconst (v := -1) hX dX12_lend_24 (by decide) ?_
  exact v_iret hX hE dX12_lend_25 h
set_option maxRecDepth 100000 in
set_option maxHeartbeats 4000000 in
theorem m_X12_lend {Z : h_Z} {o0 : Nat} {x1 : Int32} {x2 : Int32} {x3 : Int32} {s : h_S} {Q : Int32 → h_S → Prop} (h : w_X12_lend o0 x1 x2 x3 s Q) : h_M Z yX12_lend cX12_lend 4 (some .int) 2 51 [pR (some o0), pI x1, pI x2, pI x3] s 0 0 (h_QI Z Q) := by
  refine h_M.of (by decide) (Nat.le_of_ble_eq_true rfl) (fun X hZ hX hE hI => ?_)
  subst hZ
  unfold w_X12_lend at h
  show h_V X 4 0 [(0, pR (some o0)), (1, pI x1), (2, pI x2), (3, pI x3)] [] s 0 0
  refine v_aload_n hX dX12_lend_0 0 rfl rfl ?_
  refine v_iload_n hX dX12_lend_1 1 rfl rfl ?_
  obtain ⟨k1, h⟩ := h
  refine v_callVi hX dX12_lend_2 c_RX12_576 cV_X12_noRight (ci := 13) (T := TX12) (N := 115) rfl (by exact k1) [pI _] rfl rfl (Nat.le_of_ble_eq_true rfl) (by decide) (by decide) (Nat.zero_le _) (Nat.zero_le _) (m_X12_noRight h) (fun r3 s2 h => ?_)
  refine v_if_ne (tgt := 24) hX dX12_lend_5 (by decide) (fun c4 => ?_) (fun c4 => ?_)
  · have h := h_E c4 h
    refine v_pick [] rfl ?_
    exact b_X12_lend_24 hX hE _ h
  · have h := h_T c4 h
    refine v_aload_n hX dX12_lend_8 0 rfl rfl ?_
    refine v_iload_n hX dX12_lend_9 2 rfl rfl ?_
    obtain ⟨k5, h⟩ := h
    refine v_callVi hX dX12_lend_10 c_RX12_317 cV_X12_noHand (ci := 13) (T := TX12) (N := 115) rfl (by exact k5) [pI _] rfl rfl (Nat.le_of_ble_eq_true rfl) (by decide) (by decide) (Nat.zero_le _) (Nat.zero_le _) (m_X12_noHand h) (fun r7 s6 h => ?_)
    refine v_if_ne (tgt := 24) hX dX12_lend_13 (by decide) (fun c8 => ?_) (fun c8 => ?_)
    · have h := h_E c8 h
      refine v_pick [] rfl ?_
      exact b_X12_lend_24 hX hE _ h
    · have h := h_T c8 h
      refine v_aload_n hX dX12_lend_16 0 rfl rfl ?_
      refine v_iload_n hX dX12_lend_17 3 rfl rfl ?_
      obtain ⟨k9, h⟩ := h
      refine v_callVi hX dX12_lend_18 c_RX12_317 cV_X12_noHand (ci := 13) (T := TX12) (N := 115) rfl (by exact k9) [pI _] rfl rfl (Nat.le_of_ble_eq_true rfl) (by decide) (by decide) (Nat.zero_le _) (Nat.zero_le _) (m_X12_noHand h) (fun r11 s10 h => ?_)
      refine v_if_eq (tgt := 26) hX dX12_lend_21 (by decide) (fun c12 => ?_) (fun c12 => ?_)
      · have h := h_T c12 h
        refine v_iload_n hX dX12_lend_26 2 rfl rfl ?_
        refine v_iload_n hX dX12_lend_27 3 rfl rfl ?_
        refine v_icmp_ne (tgt := 34) hX dX12_lend_28 (by decide) (fun c13 => ?_) (fun c13 => ?_)
        · have h := h_E c13 h
          refine v_aload_n hX dX12_lend_34 0 rfl rfl ?_
          refine v_iload_n hX dX12_lend_35 1 rfl rfl ?_
          refine v_iload_n hX dX12_lend_36 2 rfl rfl ?_
          refine v_iconst (v := 2) hX dX12_lend_37 (by decide) ?_
          refine v_aload_n hX dX12_lend_38 0 rfl rfl ?_
          obtain ⟨k14, h⟩ := h
          refine v_getI hX dX12_lend_39 f_RX12_288 rfl k14 ?_
          refine v_callVi hX dX12_lend_42 c_RX12_546 cV_X12_allows (ci := 13) (T := TX12) (N := 115) rfl (by exact k14) [pI _, pI _, pI _, pI _] rfl rfl (Nat.le_of_ble_eq_true rfl) (by decide) (by decide) (Nat.zero_le _) (Nat.zero_le _) (m_X12_allows h) (fun r16 s15 h => ?_)
          refine v_if_ne (tgt := 51) hX dX12_lend_45 (by decide) (fun c17 => ?_) (fun c17 => ?_)
          · have h := h_E c17 h
            refine v_aload_n hX dX12_lend_51 0 rfl rfl ?_
            obtain ⟨k18, h⟩ := h
            refine v_getI hX dX12_lend_52 f_RX12_537 rfl k18 ?_
            refine v_bipush (v := 20) hX dX12_lend_55 (by decide) ?_
            refine v_icmp_ne (tgt := 63) hX dX12_lend_57 (by decide) (fun c19 => ?_) (fun c19 => ?_)
            · have h := h_E c19 h
              refine v_aload_n hX dX12_lend_63 0 rfl rfl ?_
              refine v_aload_n hX dX12_lend_64 0 rfl rfl ?_
              refine v_getR hX dX12_lend_65 f_RX12_219 rfl k18 ?_
              refine v_iload_n hX dX12_lend_68 1 rfl rfl ?_
              obtain ⟨a20, e_a20, h⟩ := h
              refine v_nn1 e_a20 ?_
              obtain ⟨k21, h⟩ := h
              obtain ⟨i22, h⟩ := h
              refine v_iald hX dX12_lend_69 k21 i22 ?_
              refine v_bipush (v := 8) hX dX12_lend_70 (by decide) ?_
              refine v_iload_n hX dX12_lend_72 3 rfl rfl ?_
              refine v_iadd hX dX12_lend_73 ?_
              refine v_aload_n hX dX12_lend_74 0 rfl rfl ?_
              refine v_getR hX dX12_lend_75 f_RX12_225 rfl k18 ?_
              refine v_iload_n hX dX12_lend_78 1 rfl rfl ?_
              obtain ⟨a23, e_a23, h⟩ := h
              refine v_nn1 e_a23 ?_
              obtain ⟨k24, h⟩ := h
              obtain ⟨i25, h⟩ := h
              refine v_iald hX dX12_lend_79 k24 i25 ?_
              refine v_iconst (v := 3) hX dX12_lend_80 (by decide) ?_
              refine v_iand hX dX12_lend_81 ?_
              refine v_aload_n hX dX12_lend_82 0 rfl rfl ?_
              refine v_getR hX dX12_lend_83 f_RX12_228 rfl k18 ?_
              refine v_iload_n hX dX12_lend_86 1 rfl rfl ?_
              obtain ⟨a26, e_a26, h⟩ := h
              refine v_nn1 e_a26 ?_
              obtain ⟨k27, h⟩ := h
              obtain ⟨i28, h⟩ := h
              refine v_iald hX dX12_lend_87 k27 i28 ?_
              refine v_aload_n hX dX12_lend_88 0 rfl rfl ?_
              refine v_getR hX dX12_lend_89 f_RX12_231 rfl k18 ?_
              refine v_iload_n hX dX12_lend_92 1 rfl rfl ?_
              obtain ⟨a29, e_a29, h⟩ := h
              refine v_nn1 e_a29 ?_
              obtain ⟨k30, h⟩ := h
              obtain ⟨i31, h⟩ := h
              refine v_iald hX dX12_lend_93 k30 i31 ?_
              refine v_iload_n hX dX12_lend_94 1 rfl rfl ?_
              refine v_callVv hX dX12_lend_95 c_RX12_573 cV_X12_addRight (ci := 13) (T := TX12) (N := 115) rfl (by exact k18) [pI _, pI _, pI _, pI _, pI _, pI _] rfl rfl (Nat.le_of_ble_eq_true rfl) (by decide) (by decide) (Nat.zero_le _) (Nat.zero_le _) (m_X12_addRight h) (fun s32 h => ?_)
              refine v_aload_n hX dX12_lend_98 0 rfl rfl ?_
              refine v_aload_n hX dX12_lend_99 0 rfl rfl ?_
              obtain ⟨k34, h⟩ := h
              refine v_getI hX dX12_lend_100 f_RX12_537 rfl k34 ?_
              refine v_iconst (v := 1) hX dX12_lend_103 (by decide) ?_
              refine v_isub hX dX12_lend_104 ?_
              refine v_callVi hX dX12_lend_105 c_RX12_302 cV_X12_acted (ci := 13) (T := TX12) (N := 115) rfl (by exact k34) [pI _] rfl rfl (Nat.le_of_ble_eq_true rfl) (by decide) (by decide) (Nat.zero_le _) (Nat.zero_le _) (m_X12_acted h) (fun r36 s35 h => ?_)
              exact v_iret hX hE dX12_lend_108 h
            · have h := h_T c19 h
              refine v_bipush (v := -4) hX dX12_lend_60 (by decide) ?_
              exact v_iret hX hE dX12_lend_62 h
          · have h := h_T c17 h
            refine v_bipush (v := -3) hX dX12_lend_48 (by decide) ?_
            exact v_iret hX hE dX12_lend_50 h
        · have h := h_T c13 h
          refine v_bipush (v := -2) hX dX12_lend_31 (by decide) ?_
          exact v_iret hX hE dX12_lend_33 h
      · have h := h_E c12 h
        refine v_pick [] rfl ?_
        exact b_X12_lend_24 hX hE _ h
set_option maxRecDepth 100000 in
set_option maxHeartbeats 4000000 in
theorem b_X12_take_105 {X : h_X} (hX : h_ok X cX12_take 4 RX12 2 46) {Q : Int32 → h_S → Prop} (hE : h_end X (some .int) (h_QI (x_Z X) Q)) {K42 : Nat → Int32 → Int32 → h_S → Prop} (hK42 : ∀ (o0 : Nat) (x2 : Int32) (x3 : Int32) (s : h_S), K42 o0 x2 x3 s → h_V X 4 42 [(0, pR (some o0)), (2, pI x2), (3, pI x3)] [] s 0 0) {o0 : Nat} {x2 : Int32} {x3 : Int32} (s : h_S) (h : w_X12_take_105 Q K42 o0 x2 x3 s) : h_V X 4 105 [(0, pR (some o0)), (2, pI x2), (3, pI x3)] [] s 0 0 := by
  unfold w_X12_take_105 at h
  refine v_iinc (c := 1) (lv' := [(3, _), (0, _), (2, _)]) hX dX12_take_105 2 rfl (by decide) (by decide) rfl ?_
  refine v_goto (tgt := 42) hX dX12_take_108 (by decide) ?_
  refine v_pick [1, 2, 0] rfl ?_
  exact hK42 _ _ _ _ h
set_option maxRecDepth 100000 in
set_option maxHeartbeats 4000000 in
theorem b_X12_take_42 {X : h_X} (hX : h_ok X cX12_take 4 RX12 2 46) {Q : Int32 → h_S → Prop} (hE : h_end X (some .int) (h_QI (x_Z X) Q)) : ∀ (n : Nat) (o0 : Nat) (x2 : Int32) (x3 : Int32) (s : h_S), w_X12_take_42 Q n o0 x2 x3 s → h_V X 4 42 [(0, pR (some o0)), (2, pI x2), (3, pI x3)] [] s 0 0 := by
  intro n
  induction n with
  | zero => intro _ _ _ s h; exact h.elim
  | succ n hK42 =>
    intro o0 x2 x3 s h
    have h : w_X12_take_42b Q (w_X12_take_42 Q n) o0 x2 x3 s := h
    unfold w_X12_take_42b at h
    refine v_iload_n hX dX12_take_42 2 rfl rfl ?_
    refine v_aload_n hX dX12_take_43 0 rfl rfl ?_
    obtain ⟨k1, h⟩ := h
    refine v_getI hX dX12_take_44 f_RX12_537 rfl k1 ?_
    refine v_icmp_ge (tgt := 111) hX dX12_take_47 (by decide) (fun c2 => ?_) (fun c2 => ?_)
    · have h := h_T c2 h
      refine v_aload_n hX dX12_take_111 0 rfl rfl ?_
      refine v_iload_n hX dX12_take_112 1 rfl rfl ?_
      refine v_callVi hX dX12_take_113 c_RX12_302 cV_X12_acted (ci := 13) (T := TX12) (N := 115) rfl (by exact k1) [pI _] rfl rfl (Nat.le_of_ble_eq_true rfl) (by decide) (by decide) (Nat.zero_le _) (Nat.zero_le _) (m_X12_acted h) (fun r4 s3 h => ?_)
      exact v_iret hX hE dX12_take_116 h
    · have h := h_E c2 h
      refine v_aload_n hX dX12_take_50 0 rfl rfl ?_
      refine v_getR hX dX12_take_51 f_RX12_234 rfl k1 ?_
      refine v_iload_n hX dX12_take_54 2 rfl rfl ?_
      obtain ⟨a5, e_a5, h⟩ := h
      refine v_nn1 e_a5 ?_
      obtain ⟨k6, h⟩ := h
      obtain ⟨i7, h⟩ := h
      refine v_iald hX dX12_take_55 k6 i7 ?_
      refine v_if_lt (tgt := 105) hX dX12_take_56 (by decide) (fun c8 => ?_) (fun c8 => ?_)
      · have h := h_T c8 h
        refine v_pick [0, 1, 2] rfl ?_
        exact b_X12_take_105 hX hE hK42 _ h
      · have h := h_E c8 h
        refine v_aload_n hX dX12_take_59 0 rfl rfl ?_
        refine v_getR hX dX12_take_60 f_RX12_240 rfl k1 ?_
        refine v_iload_n hX dX12_take_63 2 rfl rfl ?_
        obtain ⟨a9, e_a9, h⟩ := h
        refine v_nn1 e_a9 ?_
        obtain ⟨k10, h⟩ := h
        obtain ⟨i11, h⟩ := h
        refine v_iald hX dX12_take_64 k10 i11 ?_
        refine v_bipush (v := -9) hX dX12_take_65 (by decide) ?_
        refine v_icmp_ne (tgt := 105) hX dX12_take_67 (by decide) (fun c12 => ?_) (fun c12 => ?_)
        · have h := h_E c12 h
          refine v_pick [0, 1, 2] rfl ?_
          exact b_X12_take_105 hX hE hK42 _ h
        · have h := h_T c12 h
          refine v_aload_n hX dX12_take_70 0 rfl rfl ?_
          refine v_getR hX dX12_take_71 f_RX12_240 rfl k1 ?_
          refine v_aload_n hX dX12_take_74 0 rfl rfl ?_
          refine v_getR hX dX12_take_75 f_RX12_234 rfl k1 ?_
          refine v_iload_n hX dX12_take_78 2 rfl rfl ?_
          obtain ⟨a13, e_a13, h⟩ := h
          refine v_nn1 e_a13 ?_
          obtain ⟨k14, h⟩ := h
          obtain ⟨i15, h⟩ := h
          refine v_iald hX dX12_take_79 k14 i15 ?_
          obtain ⟨a16, e_a16, h⟩ := h
          refine v_nn1 e_a16 ?_
          obtain ⟨k17, h⟩ := h
          obtain ⟨i18, h⟩ := h
          refine v_iald hX dX12_take_80 k17 i18 ?_
          refine v_aload_n hX dX12_take_81 0 rfl rfl ?_
          refine v_getI hX dX12_take_82 f_RX12_288 rfl k1 ?_
          refine v_iconst (v := 1) hX dX12_take_85 (by decide) ?_
          refine v_iadd hX dX12_take_86 ?_
          refine v_icmp_ne (tgt := 105) hX dX12_take_87 (by decide) (fun c19 => ?_) (fun c19 => ?_)
          · have h := h_E c19 h
            refine v_pick [0, 1, 2] rfl ?_
            exact b_X12_take_105 hX hE hK42 _ h
          · have h := h_T c19 h
            refine v_aload_n hX dX12_take_90 0 rfl rfl ?_
            refine v_getR hX dX12_take_91 f_RX12_240 rfl k1 ?_
            refine v_iload_n hX dX12_take_94 2 rfl rfl ?_
            refine v_aload_n hX dX12_take_95 0 rfl rfl ?_
            refine v_getI hX dX12_take_96 f_RX12_288 rfl k1 ?_
            refine v_iconst (v := 1) hX dX12_take_99 (by decide) ?_
            refine v_iadd hX dX12_take_100 ?_
            obtain ⟨a20, e_a20, h⟩ := h
            refine v_nn2 e_a20 ?_
            obtain ⟨k21, h⟩ := h
            obtain ⟨i22, h⟩ := h
            refine v_iast hX dX12_take_101 k21 i22 ?_
            refine v_iinc (c := 1) (lv' := [(2, _), (0, _), (3, _)]) hX dX12_take_102 1 rfl (by decide) (by decide) rfl ?_
            refine v_pick [1, 0, 2] rfl ?_
            exact b_X12_take_105 hX hE hK42 _ h
set_option maxRecDepth 100000 in
set_option maxHeartbeats 4000000 in
theorem m_X12_take {Z : h_Z} {o0 : Nat} {x1 : Int32} {s : h_S} {Q : Int32 → h_S → Prop} (h : w_X12_take o0 x1 s Q) : h_M Z yX12_take cX12_take 4 (some .int) 2 46 [pR (some o0), pI x1] s 0 0 (h_QI Z Q) := by
  refine h_M.of (by decide) (Nat.le_of_ble_eq_true rfl) (fun X hZ hX hE hI => ?_)
  subst hZ
  unfold w_X12_take at h
  show h_V X 4 0 [(0, pR (some o0)), (1, pI x1)] [] s 0 0
  refine v_aload_n hX dX12_take_0 0 rfl rfl ?_
  refine v_iload_n hX dX12_take_1 1 rfl rfl ?_
  obtain ⟨k1, h⟩ := h
  refine v_callVi hX dX12_take_2 c_RX12_576 cV_X12_noRight (ci := 13) (T := TX12) (N := 115) rfl (by exact k1) [pI _] rfl rfl (Nat.le_of_ble_eq_true rfl) (by decide) (by decide) (Nat.zero_le _) (Nat.zero_le _) (m_X12_noRight h) (fun r3 s2 h => ?_)
  refine v_if_eq (tgt := 10) hX dX12_take_5 (by decide) (fun c4 => ?_) (fun c4 => ?_)
  · have h := h_T c4 h
    refine v_aload_n hX dX12_take_10 0 rfl rfl ?_
    obtain ⟨k5, h⟩ := h
    refine v_getR hX dX12_take_11 f_RX12_240 rfl k5 ?_
    refine v_iload_n hX dX12_take_14 1 rfl rfl ?_
    obtain ⟨a6, e_a6, h⟩ := h
    refine v_nn1 e_a6 ?_
    obtain ⟨k7, h⟩ := h
    obtain ⟨i8, h⟩ := h
    refine v_iald hX dX12_take_15 k7 i8 ?_
    refine v_bipush (v := -9) hX dX12_take_16 (by decide) ?_
    refine v_icmp_eq (tgt := 24) hX dX12_take_18 (by decide) (fun c9 => ?_) (fun c9 => ?_)
    · have h := h_T c9 h
      refine v_iconst (v := 1) hX dX12_take_24 (by decide) ?_
      refine v_istore_n (lv' := [(2, _), (0, _), (1, _)]) hX dX12_take_25 rfl (by decide) rfl ?_
      refine v_aload_n hX dX12_take_26 1 rfl rfl ?_
      refine v_getR hX dX12_take_27 f_RX12_240 rfl k5 ?_
      refine v_iload_n hX dX12_take_30 2 rfl rfl ?_
      refine v_aload_n hX dX12_take_31 1 rfl rfl ?_
      refine v_getI hX dX12_take_32 f_RX12_288 rfl k5 ?_
      refine v_iconst (v := 1) hX dX12_take_35 (by decide) ?_
      refine v_iadd hX dX12_take_36 ?_
      obtain ⟨a10, e_a10, h⟩ := h
      refine v_nn2 e_a10 ?_
      obtain ⟨k11, h⟩ := h
      obtain ⟨i12, h⟩ := h
      refine v_iast hX dX12_take_37 k11 i12 ?_
      refine v_iload_n hX dX12_take_38 2 rfl rfl ?_
      refine v_iconst (v := 1) hX dX12_take_39 (by decide) ?_
      refine v_iadd hX dX12_take_40 ?_
      refine v_istore_n (lv' := [(3, _), (2, _), (0, _), (1, _)]) hX dX12_take_41 rfl (by decide) rfl ?_
      refine v_pick [2, 1, 0] rfl ?_
      obtain ⟨n, h⟩ := h
      exact b_X12_take_42 hX hE n _ _ _ _ h
    · have h := h_E c9 h
      refine v_bipush (v := -3) hX dX12_take_21 (by decide) ?_
      exact v_iret hX hE dX12_take_23 h
  · have h := h_E c4 h
    refine v_iconst (v := -1) hX dX12_take_8 (by decide) ?_
    exact v_iret hX hE dX12_take_9 h
set_option maxRecDepth 100000 in
set_option maxHeartbeats 4000000 in
theorem b_X12_ofRight_110 {X : h_X} (hX : h_ok X cX12_ofRight 3 RX12 2 46) {Q : Int32 → h_S → Prop} (hE : h_end X (some .int) (h_QI (x_Z X) Q)) {y0 : Int32} (s : h_S) (h : w_X12_ofRight_110 Q y0 s) : h_V X 3 110 [] [pI y0] s 0 0 := by
  unfold w_X12_ofRight_110 at h
  exact v_iret hX hE dX12_ofRight_110 h
set_option maxRecDepth 100000 in
set_option maxHeartbeats 4000000 in
theorem m_X12_ofRight {Z : h_Z} {o0 : Nat} {x1 : Int32} {x2 : Int32} {s : h_S} {Q : Int32 → h_S → Prop} (h : w_X12_ofRight o0 x1 x2 s Q) : h_M Z yX12_ofRight cX12_ofRight 3 (some .int) 2 46 [pR (some o0), pI x1, pI x2] s 0 0 (h_QI Z Q) := by
  refine h_M.of (by decide) (Nat.le_of_ble_eq_true rfl) (fun X hZ hX hE hI => ?_)
  subst hZ
  unfold w_X12_ofRight at h
  show h_V X 3 0 [(0, pR (some o0)), (1, pI x1), (2, pI x2)] [] s 0 0
  refine v_aload_n hX dX12_ofRight_0 0 rfl rfl ?_
  refine v_iload_n hX dX12_ofRight_1 1 rfl rfl ?_
  obtain ⟨k1, h⟩ := h
  refine v_callVi hX dX12_ofRight_2 c_RX12_576 cV_X12_noRight (ci := 13) (T := TX12) (N := 115) rfl (by exact k1) [pI _] rfl rfl (Nat.le_of_ble_eq_true rfl) (by decide) (by decide) (Nat.zero_le _) (Nat.zero_le _) (m_X12_noRight h) (fun r3 s2 h => ?_)
  refine v_if_eq (tgt := 10) hX dX12_ofRight_5 (by decide) (fun c4 => ?_) (fun c4 => ?_)
  · have h := h_T c4 h
    refine v_iload_n hX dX12_ofRight_10 2 rfl rfl ?_
    refine v_gen (fun q41 e_q41 => ?_)
    rw [← e_q41] at h
    by_cases c5 : q41 = (0 : Int32)
    · have h := h_T c5 h
      refine v_tabIn (tgt := 52) hX dX12_ofRight_11 (by rw [c5]; decide) (by rw [c5]; decide) (by rw [c5]; rfl) (by decide) ?_
      refine v_aload_n hX dX12_ofRight_52 0 rfl rfl ?_
      obtain ⟨k6, h⟩ := h
      refine v_getR hX dX12_ofRight_53 f_RX12_219 rfl k6 ?_
      refine v_iload_n hX dX12_ofRight_56 1 rfl rfl ?_
      obtain ⟨a7, e_a7, h⟩ := h
      refine v_nn1 e_a7 ?_
      obtain ⟨k8, h⟩ := h
      obtain ⟨i9, h⟩ := h
      refine v_iald hX dX12_ofRight_57 k8 i9 ?_
      exact v_iret hX hE dX12_ofRight_58 h
    · have h := h_E c5 h
      by_cases c10 : q41 = (1 : Int32)
      · have h := h_T c10 h
        refine v_tabIn (tgt := 59) hX dX12_ofRight_11 (by rw [c10]; decide) (by rw [c10]; decide) (by rw [c10]; rfl) (by decide) ?_
        refine v_aload_n hX dX12_ofRight_59 0 rfl rfl ?_
        obtain ⟨k11, h⟩ := h
        refine v_getR hX dX12_ofRight_60 f_RX12_222 rfl k11 ?_
        refine v_iload_n hX dX12_ofRight_63 1 rfl rfl ?_
        obtain ⟨a12, e_a12, h⟩ := h
        refine v_nn1 e_a12 ?_
        obtain ⟨k13, h⟩ := h
        obtain ⟨i14, h⟩ := h
        refine v_iald hX dX12_ofRight_64 k13 i14 ?_
        exact v_iret hX hE dX12_ofRight_65 h
      · have h := h_E c10 h
        by_cases c15 : q41 = (2 : Int32)
        · have h := h_T c15 h
          refine v_tabIn (tgt := 66) hX dX12_ofRight_11 (by rw [c15]; decide) (by rw [c15]; decide) (by rw [c15]; rfl) (by decide) ?_
          refine v_aload_n hX dX12_ofRight_66 0 rfl rfl ?_
          obtain ⟨k16, h⟩ := h
          refine v_getR hX dX12_ofRight_67 f_RX12_225 rfl k16 ?_
          refine v_iload_n hX dX12_ofRight_70 1 rfl rfl ?_
          obtain ⟨a17, e_a17, h⟩ := h
          refine v_nn1 e_a17 ?_
          obtain ⟨k18, h⟩ := h
          obtain ⟨i19, h⟩ := h
          refine v_iald hX dX12_ofRight_71 k18 i19 ?_
          exact v_iret hX hE dX12_ofRight_72 h
        · have h := h_E c15 h
          by_cases c20 : q41 = (3 : Int32)
          · have h := h_T c20 h
            refine v_tabIn (tgt := 73) hX dX12_ofRight_11 (by rw [c20]; decide) (by rw [c20]; decide) (by rw [c20]; rfl) (by decide) ?_
            refine v_aload_n hX dX12_ofRight_73 0 rfl rfl ?_
            obtain ⟨k21, h⟩ := h
            refine v_getR hX dX12_ofRight_74 f_RX12_228 rfl k21 ?_
            refine v_iload_n hX dX12_ofRight_77 1 rfl rfl ?_
            obtain ⟨a22, e_a22, h⟩ := h
            refine v_nn1 e_a22 ?_
            obtain ⟨k23, h⟩ := h
            obtain ⟨i24, h⟩ := h
            refine v_iald hX dX12_ofRight_78 k23 i24 ?_
            exact v_iret hX hE dX12_ofRight_79 h
          · have h := h_E c20 h
            by_cases c25 : q41 = (4 : Int32)
            · have h := h_T c25 h
              refine v_tabIn (tgt := 80) hX dX12_ofRight_11 (by rw [c25]; decide) (by rw [c25]; decide) (by rw [c25]; rfl) (by decide) ?_
              refine v_aload_n hX dX12_ofRight_80 0 rfl rfl ?_
              obtain ⟨k26, h⟩ := h
              refine v_getR hX dX12_ofRight_81 f_RX12_231 rfl k26 ?_
              refine v_iload_n hX dX12_ofRight_84 1 rfl rfl ?_
              obtain ⟨a27, e_a27, h⟩ := h
              refine v_nn1 e_a27 ?_
              obtain ⟨k28, h⟩ := h
              obtain ⟨i29, h⟩ := h
              refine v_iald hX dX12_ofRight_85 k28 i29 ?_
              exact v_iret hX hE dX12_ofRight_86 h
            · have h := h_E c25 h
              by_cases c30 : q41 = (5 : Int32)
              · have h := h_T c30 h
                refine v_tabIn (tgt := 87) hX dX12_ofRight_11 (by rw [c30]; decide) (by rw [c30]; decide) (by rw [c30]; rfl) (by decide) ?_
                refine v_aload_n hX dX12_ofRight_87 0 rfl rfl ?_
                obtain ⟨k31, h⟩ := h
                refine v_getR hX dX12_ofRight_88 f_RX12_234 rfl k31 ?_
                refine v_iload_n hX dX12_ofRight_91 1 rfl rfl ?_
                obtain ⟨a32, e_a32, h⟩ := h
                refine v_nn1 e_a32 ?_
                obtain ⟨k33, h⟩ := h
                obtain ⟨i34, h⟩ := h
                refine v_iald hX dX12_ofRight_92 k33 i34 ?_
                exact v_iret hX hE dX12_ofRight_93 h
              · have h := h_E c30 h
                by_cases c35 : q41 = (6 : Int32)
                · have h := h_T c35 h
                  refine v_tabIn (tgt := 94) hX dX12_ofRight_11 (by rw [c35]; decide) (by rw [c35]; decide) (by rw [c35]; rfl) (by decide) ?_
                  refine v_aload_n hX dX12_ofRight_94 0 rfl rfl ?_
                  obtain ⟨k36, h⟩ := h
                  refine v_getR hX dX12_ofRight_95 f_RX12_240 rfl k36 ?_
                  refine v_iload_n hX dX12_ofRight_98 1 rfl rfl ?_
                  obtain ⟨a37, e_a37, h⟩ := h
                  refine v_nn1 e_a37 ?_
                  obtain ⟨k38, h⟩ := h
                  obtain ⟨i39, h⟩ := h
                  refine v_iald hX dX12_ofRight_99 k38 i39 ?_
                  refine v_bipush (v := -9) hX dX12_ofRight_100 (by decide) ?_
                  refine v_icmp_ne (tgt := 109) hX dX12_ofRight_102 (by decide) (fun c40 => ?_) (fun c40 => ?_)
                  · have h := h_E c40 h
                    refine v_iconst (v := 0) hX dX12_ofRight_109 (by decide) ?_
                    refine v_pick [] rfl ?_
                    exact b_X12_ofRight_110 hX hE _ h
                  · have h := h_T c40 h
                    refine v_iconst (v := 1) hX dX12_ofRight_105 (by decide) ?_
                    refine v_goto (tgt := 110) hX dX12_ofRight_106 (by decide) ?_
                    refine v_pick [] rfl ?_
                    exact b_X12_ofRight_110 hX hE _ h
                · have h := h_E c35 h
                  refine v_tabOut (tgt := 111) hX dX12_ofRight_11 (by have := h_ti c5 (n := 0) rfl; have := h_ti c10 (n := 1) rfl; have := h_ti c15 (n := 2) rfl; have := h_ti c20 (n := 3) rfl; have := h_ti c25 (n := 4) rfl; have := h_ti c30 (n := 5) rfl; have := h_ti c35 (n := 6) rfl; omega) (by decide) ?_
                  refine v_bipush (v := -2) hX dX12_ofRight_111 (by decide) ?_
                  exact v_iret hX hE dX12_ofRight_113 h
  · have h := h_E c4 h
    refine v_iconst (v := -1) hX dX12_ofRight_8 (by decide) ?_
    exact v_iret hX hE dX12_ofRight_9 h
set_option maxRecDepth 100000 in
set_option maxHeartbeats 4000000 in
theorem b_X12_why_25 {X : h_X} (hX : h_ok X cX12_why 5 RX12 3 76) {Q : Int32 → h_S → Prop} (hE : h_end X (some .int) (h_QI (x_Z X) Q)) (s : h_S) (h : w_X12_why_25 Q s) : h_V X 5 25 [] [] s 0 0 := by
  unfold w_X12_why_25 at h
  refine v_iconst (v := -1) hX dX12_why_25 (by decide) ?_
  exact v_iret hX hE dX12_why_26 h
set_option maxRecDepth 100000 in
set_option maxHeartbeats 4000000 in
theorem b_X12_why_53 {X : h_X} (hX : h_ok X cX12_why 5 RX12 3 76) {Q : Int32 → h_S → Prop} (hE : h_end X (some .int) (h_QI (x_Z X) Q)) {y0 : Int32} (s : h_S) (h : w_X12_why_53 Q y0 s) : h_V X 5 53 [] [pI y0] s 0 0 := by
  unfold w_X12_why_53 at h
  exact v_iret hX hE dX12_why_53 h
set_option maxRecDepth 100000 in
set_option maxHeartbeats 4000000 in
theorem m_X12_why {Z : h_Z} {o0 : Nat} {x1 : Int32} {x2 : Int32} {x3 : Int32} {x4 : Int32} {s : h_S} {Q : Int32 → h_S → Prop} (h : w_X12_why o0 x1 x2 x3 x4 s Q) : h_M Z yX12_why cX12_why 5 (some .int) 3 76 [pR (some o0), pI x1, pI x2, pI x3, pI x4] s 0 0 (h_QI Z Q) := by
  refine h_M.of (by decide) (Nat.le_of_ble_eq_true rfl) (fun X hZ hX hE hI => ?_)
  subst hZ
  unfold w_X12_why at h
  show h_V X 5 0 [(0, pR (some o0)), (1, pI x1), (2, pI x2), (3, pI x3), (4, pI x4)] [] s 0 0
  refine v_aload_n hX dX12_why_0 0 rfl rfl ?_
  refine v_iload_n hX dX12_why_1 1 rfl rfl ?_
  obtain ⟨k1, h⟩ := h
  refine v_callVi hX dX12_why_2 c_RX12_317 cV_X12_noHand (ci := 13) (T := TX12) (N := 115) rfl (by exact k1) [pI _] rfl rfl (Nat.le_of_ble_eq_true rfl) (by decide) (by decide) (Nat.zero_le _) (Nat.zero_le _) (m_X12_noHand h) (fun r3 s2 h => ?_)
  refine v_if_ne (tgt := 25) hX dX12_why_5 (by decide) (fun c4 => ?_) (fun c4 => ?_)
  · have h := h_E c4 h
    refine v_pick [] rfl ?_
    exact b_X12_why_25 hX hE _ h
  · have h := h_T c4 h
    refine v_aload_n hX dX12_why_8 0 rfl rfl ?_
    refine v_iload_n hX dX12_why_9 2 rfl rfl ?_
    obtain ⟨k5, h⟩ := h
    refine v_callVi hX dX12_why_10 c_RX12_379 cV_X12_noWriting (ci := 13) (T := TX12) (N := 115) rfl (by exact k5) [pI _] rfl rfl (Nat.le_of_ble_eq_true rfl) (by decide) (by decide) (Nat.zero_le _) (Nat.zero_le _) (m_X12_noWriting h) (fun r7 s6 h => ?_)
    refine v_if_ne (tgt := 25) hX dX12_why_13 (by decide) (fun c8 => ?_) (fun c8 => ?_)
    · have h := h_E c8 h
      refine v_pick [] rfl ?_
      exact b_X12_why_25 hX hE _ h
    · have h := h_T c8 h
      refine v_aload_n hX dX12_why_16 0 rfl rfl ?_
      refine v_iload hX dX12_why_17 4 rfl ?_
      obtain ⟨k9, h⟩ := h
      refine v_callVi hX dX12_why_19 c_RX12_425 cV_X12_noMoment (ci := 13) (T := TX12) (N := 115) rfl (by exact k9) [pI _] rfl rfl (Nat.le_of_ble_eq_true rfl) (by decide) (by decide) (Nat.zero_le _) (Nat.zero_le _) (m_X12_noMoment h) (fun r11 s10 h => ?_)
      refine v_if_eq (tgt := 27) hX dX12_why_22 (by decide) (fun c12 => ?_) (fun c12 => ?_)
      · have h := h_T c12 h
        refine v_iload_n hX dX12_why_27 3 rfl rfl ?_
        refine v_i2l hX dX12_why_28 ?_
        refine v_lconst (v := 0) hX dX12_why_29 (by decide) ?_
        refine v_ldc2 hX dX12_why_30 k_RX12_406 ?_
        refine v_callSi hX dX12_why_33 c_RX12_298 cS_X12_in [pL _, pL _, pL _] rfl rfl (Nat.le_of_ble_eq_true rfl) (by decide) (by decide) (Nat.zero_le _) (Nat.zero_le _) (m_X12_in h) (fun r14 s13 h => ?_)
        refine v_if_eq (tgt := 51) hX dX12_why_36 (by decide) (fun c15 => ?_) (fun c15 => ?_)
        · have h := h_T c15 h
          refine v_bipush (v := -2) hX dX12_why_51 (by decide) ?_
          refine v_pick [] rfl ?_
          exact b_X12_why_53 hX hE _ h
        · have h := h_E c15 h
          refine v_aload_n hX dX12_why_39 0 rfl rfl ?_
          refine v_iload_n hX dX12_why_40 1 rfl rfl ?_
          refine v_iload_n hX dX12_why_41 2 rfl rfl ?_
          refine v_iload_n hX dX12_why_42 3 rfl rfl ?_
          refine v_iload hX dX12_why_43 4 rfl ?_
          obtain ⟨k16, h⟩ := h
          refine v_callVi hX dX12_why_45 c_RX12_415 cV_X12_whyOf (ci := 13) (T := TX12) (N := 115) rfl (by exact k16) [pI _, pI _, pI _, pI _] rfl rfl (Nat.le_of_ble_eq_true rfl) (by decide) (by decide) (Nat.zero_le _) (Nat.zero_le _) (m_X12_whyOf h) (fun r18 s17 h => ?_)
          refine v_goto (tgt := 53) hX dX12_why_48 (by decide) ?_
          refine v_pick [] rfl ?_
          exact b_X12_why_53 hX hE _ h
      · have h := h_E c12 h
        refine v_pick [] rfl ?_
        exact b_X12_why_25 hX hE _ h
set_option maxRecDepth 100000 in
set_option maxHeartbeats 4000000 in
theorem b_X12_may_33 {X : h_X} (hX : h_ok X cX12_may 6 RX12 4 100) {Q : Int32 → h_S → Prop} (hE : h_end X (some .int) (h_QI (x_Z X) Q)) {y0 : Int32} (s : h_S) (h : w_X12_may_33 Q y0 s) : h_V X 6 33 [] [pI y0] s 0 0 := by
  unfold w_X12_may_33 at h
  exact v_iret hX hE dX12_may_33 h
set_option maxRecDepth 100000 in
set_option maxHeartbeats 4000000 in
theorem m_X12_may {Z : h_Z} {o0 : Nat} {x1 : Int32} {x2 : Int32} {x3 : Int32} {x4 : Int32} {s : h_S} {Q : Int32 → h_S → Prop} (h : w_X12_may o0 x1 x2 x3 x4 s Q) : h_M Z yX12_may cX12_may 6 (some .int) 4 100 [pR (some o0), pI x1, pI x2, pI x3, pI x4] s 0 0 (h_QI Z Q) := by
  refine h_M.of (by decide) (Nat.le_of_ble_eq_true rfl) (fun X hZ hX hE hI => ?_)
  subst hZ
  unfold w_X12_may at h
  show h_V X 6 0 [(0, pR (some o0)), (1, pI x1), (2, pI x2), (3, pI x3), (4, pI x4)] [] s 0 0
  refine v_aload_n hX dX12_may_0 0 rfl rfl ?_
  refine v_iload_n hX dX12_may_1 1 rfl rfl ?_
  refine v_iload_n hX dX12_may_2 2 rfl rfl ?_
  refine v_iload_n hX dX12_may_3 3 rfl rfl ?_
  refine v_iload hX dX12_may_4 4 rfl ?_
  obtain ⟨k1, h⟩ := h
  refine v_callVi hX dX12_may_6 c_RX12_579 cV_X12_why (ci := 13) (T := TX12) (N := 115) rfl (by exact k1) [pI _, pI _, pI _, pI _] rfl rfl (Nat.le_of_ble_eq_true rfl) (by decide) (by decide) (Nat.zero_le _) (Nat.zero_le _) (m_X12_why h) (fun r3 s2 h => ?_)
  refine v_istore (lv' := [(5, _), (0, _), (1, _), (2, _), (3, _), (4, _)]) hX dX12_may_9 (by decide) rfl ?_
  refine v_iload hX dX12_may_11 0 rfl ?_
  refine v_bipush (v := -9) hX dX12_may_13 (by decide) ?_
  refine v_icmp_ne (tgt := 22) hX dX12_may_15 (by decide) (fun c4 => ?_) (fun c4 => ?_)
  · have h := h_E c4 h
    refine v_iload hX dX12_may_22 0 rfl ?_
    refine v_if_ge (tgt := 32) hX dX12_may_24 (by decide) (fun c5 => ?_) (fun c5 => ?_)
    · have h := h_T c5 h
      refine v_iconst (v := 1) hX dX12_may_32 (by decide) ?_
      refine v_pick [] rfl ?_
      exact b_X12_may_33 hX hE _ h
    · have h := h_E c5 h
      refine v_iload hX dX12_may_27 0 rfl ?_
      refine v_goto (tgt := 33) hX dX12_may_29 (by decide) ?_
      refine v_pick [] rfl ?_
      exact b_X12_may_33 hX hE _ h
  · have h := h_T c4 h
    refine v_iconst (v := 0) hX dX12_may_18 (by decide) ?_
    refine v_goto (tgt := 33) hX dX12_may_19 (by decide) ?_
    refine v_pick [] rfl ?_
    exact b_X12_may_33 hX hE _ h
set_option maxRecDepth 100000 in
set_option maxHeartbeats 4000000 in
theorem b_X12_isOpen_88 {X : h_X} (hX : h_ok X cX12_isOpen 6 RX12 3 76) {Q : Int32 → h_S → Prop} (hE : h_end X (some .boolean) (h_QI (x_Z X) Q)) {y0 : Int32} (s : h_S) (h : w_X12_isOpen_88 Q y0 s) : h_V X 6 88 [] [pI y0] s 0 0 := by
  unfold w_X12_isOpen_88 at h
  exact v_zret hX hE dX12_isOpen_88 h.1 h.2
