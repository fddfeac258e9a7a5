set_option maxRecDepth 100000 in
set_option maxHeartbeats 4000000 in
theorem b_X12_readText_282 {X : h_X} (hX : h_ok X cX12_readText 9 RX12 1 25) {Q : Int32 → h_S → Prop} (hE : h_end X (some .int) (h_QI (x_Z X) Q)) {K23 : Nat → Int32 → Int32 → Int32 → Int32 → Int32 → h_S → Prop} (hK23 : ∀ (o0 : Nat) (x1 : Int32) (x2 : Int32) (x3 : Int32) (x4 : Int32) (x5 : Int32) (s : h_S), K23 o0 x1 x2 x3 x4 x5 s → h_V X 9 23 [(0, pR (some o0)), (1, pI x1), (2, pI x2), (3, pI x3), (4, pI x4), (5, pI x5)] [] s 0 0) {o0 : Nat} {x1 : Int32} {x2 : Int32} {x3 : Int32} {x4 : Int32} {x5 : Int32} (s : h_S) (h : w_X12_readText_282 Q K23 o0 x1 x2 x3 x4 x5 s) : h_V X 9 282 [(0, pR (some o0)), (1, pI x1), (2, pI x2), (3, pI x3), (4, pI x4), (5, pI x5)] [] s 0 0 := by
  unfold w_X12_readText_282 at h
  refine v_iinc (c := 1) (lv' := [(5, _), (0, _), (1, _), (2, _), (3, _), (4, _)]) hX dX12_readText_282 5 rfl (by decide) (by decide) rfl ?_
  refine v_goto (tgt := 23) hX dX12_readText_285 (by decide) ?_
  refine v_pick [1, 2, 3, 4, 5, 0] rfl ?_
  exact hK23 _ _ _ _ _ _ _ h
set_option maxRecDepth 100000 in
set_option maxHeartbeats 4000000 in
theorem b_X12_readText_279 {X : h_X} (hX : h_ok X cX12_readText 9 RX12 1 25) {Q : Int32 → h_S → Prop} (hE : h_end X (some .int) (h_QI (x_Z X) Q)) {x5 : Int32} (s : h_S) (h : w_X12_readText_279 Q x5 s) : h_V X 9 279 [(5, pI x5)] [] s 0 0 := by
  unfold w_X12_readText_279 at h
  refine v_iload hX dX12_readText_279 0 rfl ?_
  exact v_iret hX hE dX12_readText_281 h
set_option maxRecDepth 100000 in
set_option maxHeartbeats 4000000 in
theorem b_X12_readText_240 {X : h_X} (hX : h_ok X cX12_readText 9 RX12 1 25) {Q : Int32 → h_S → Prop} (hE : h_end X (some .int) (h_QI (x_Z X) Q)) {K23 : Nat → Int32 → Int32 → Int32 → Int32 → Int32 → h_S → Prop} (hK23 : ∀ (o0 : Nat) (x1 : Int32) (x2 : Int32) (x3 : Int32) (x4 : Int32) (x5 : Int32) (s : h_S), K23 o0 x1 x2 x3 x4 x5 s → h_V X 9 23 [(0, pR (some o0)), (1, pI x1), (2, pI x2), (3, pI x3), (4, pI x4), (5, pI x5)] [] s 0 0) {o0 : Nat} {x1 : Int32} {x2 : Int32} {x3 : Int32} {x4 : Int32} {x5 : Int32} {x6 : Int32} {x7 : Int32} (s : h_S) (h : w_X12_readText_240 Q K23 o0 x1 x2 x3 x4 x5 x6 x7 s) : h_V X 9 240 [(0, pR (some o0)), (1, pI x1), (2, pI x2), (3, pI x3), (4, pI x4), (5, pI x5), (6, pI x6), (7, pI x7)] [] s 0 0 := by
  unfold w_X12_readText_240 at h
  refine v_iload_n hX dX12_readText_240 3 rfl rfl ?_
  refine v_iconst (v := 4) hX dX12_readText_241 (by decide) ?_
  refine v_icmp_ne (tgt := 279) hX dX12_readText_242 (by decide) (fun c1 => ?_) (fun c1 => ?_)
  · have h := h_E c1 h
    refine v_pick [5] rfl ?_
    exact b_X12_readText_279 hX hE _ h
  · have h := h_T c1 h
    refine v_iload hX dX12_readText_245 7 rfl ?_
    refine v_if_eq (tgt := 279) hX dX12_readText_247 (by decide) (fun c2 => ?_) (fun c2 => ?_)
    · have h := h_T c2 h
      refine v_pick [5] rfl ?_
      exact b_X12_readText_279 hX hE _ h
    · have h := h_E c2 h
      refine v_iload hX dX12_readText_250 4 rfl ?_
      refine v_iconst (v := 4) hX dX12_readText_252 (by decide) ?_
      refine v_icmp_ge (tgt := 279) hX dX12_readText_253 (by decide) (fun c3 => ?_) (fun c3 => ?_)
      · have h := h_T c3 h
        refine v_pick [5] rfl ?_
        exact b_X12_readText_279 hX hE _ h
      · have h := h_E c3 h
        refine v_aload_n hX dX12_readText_256 0 rfl rfl ?_
        refine v_bipush (v := 10) hX dX12_readText_257 (by decide) ?_
        refine v_aload_n hX dX12_readText_259 0 rfl rfl ?_
        obtain ⟨k4, h⟩ := h
        refine v_getI hX dX12_readText_260 f_RX12_555 rfl k4 ?_
        refine v_imul hX dX12_readText_263 ?_
        refine v_iload hX dX12_readText_264 6 rfl ?_
        refine v_iadd hX dX12_readText_266 ?_
        refine v_bipush (v := 48) hX dX12_readText_267 (by decide) ?_
        refine v_isub hX dX12_readText_269 ?_
        refine v_putI hX dX12_readText_270 f_RX12_555 k4 ?_
        refine v_iinc (c := 1) (lv' := [(4, _), (0, _), (1, _), (2, _), (3, _), (5, _), (6, _), (7, _)]) hX dX12_readText_273 4 rfl (by decide) (by decide) rfl ?_
        refine v_goto (tgt := 282) hX dX12_readText_276 (by decide) ?_
        refine v_pick [1, 2, 3, 4, 0, 5] rfl ?_
        exact b_X12_readText_282 hX hE hK23 _ h
set_option maxRecDepth 100000 in
set_option maxHeartbeats 4000000 in
theorem b_X12_readText_215 {X : h_X} (hX : h_ok X cX12_readText 9 RX12 1 25) {Q : Int32 → h_S → Prop} (hE : h_end X (some .int) (h_QI (x_Z X) Q)) {K23 : Nat → Int32 → Int32 → Int32 → Int32 → Int32 → h_S → Prop} (hK23 : ∀ (o0 : Nat) (x1 : Int32) (x2 : Int32) (x3 : Int32) (x4 : Int32) (x5 : Int32) (s : h_S), K23 o0 x1 x2 x3 x4 x5 s → h_V X 9 23 [(0, pR (some o0)), (1, pI x1), (2, pI x2), (3, pI x3), (4, pI x4), (5, pI x5)] [] s 0 0) {o0 : Nat} {x1 : Int32} {x2 : Int32} {x3 : Int32} {x4 : Int32} {x5 : Int32} {x6 : Int32} {x7 : Int32} (s : h_S) (h : w_X12_readText_215 Q K23 o0 x1 x2 x3 x4 x5 x6 x7 s) : h_V X 9 215 [(0, pR (some o0)), (1, pI x1), (2, pI x2), (3, pI x3), (4, pI x4), (5, pI x5), (6, pI x6), (7, pI x7)] [] s 0 0 := by
  unfold w_X12_readText_215 at h
  refine v_iload_n hX dX12_readText_215 3 rfl rfl ?_
  refine v_iconst (v := 3) hX dX12_readText_216 (by decide) ?_
  refine v_icmp_ne (tgt := 240) hX dX12_readText_217 (by decide) (fun c1 => ?_) (fun c1 => ?_)
  · have h := h_E c1 h
    refine v_pick [0, 1, 2, 3, 4, 5, 6, 7] rfl ?_
    exact b_X12_readText_240 hX hE hK23 _ h
  · have h := h_T c1 h
    refine v_iload hX dX12_readText_220 6 rfl ?_
    refine v_bipush (v := 45) hX dX12_readText_222 (by decide) ?_
    refine v_icmp_ne (tgt := 240) hX dX12_readText_224 (by decide) (fun c2 => ?_) (fun c2 => ?_)
    · have h := h_E c2 h
      refine v_pick [0, 1, 2, 3, 4, 5, 6, 7] rfl ?_
      exact b_X12_readText_240 hX hE hK23 _ h
    · have h := h_T c2 h
      refine v_iload hX dX12_readText_227 4 rfl ?_
      refine v_if_le (tgt := 240) hX dX12_readText_229 (by decide) (fun c3 => ?_) (fun c3 => ?_)
      · have h := h_T c3 h
        refine v_pick [0, 1, 2, 3, 4, 5, 6, 7] rfl ?_
        exact b_X12_readText_240 hX hE hK23 _ h
      · have h := h_E c3 h
        refine v_iconst (v := 4) hX dX12_readText_232 (by decide) ?_
        refine v_istore_n (lv' := [(3, _), (0, _), (1, _), (2, _), (4, _), (5, _), (6, _), (7, _)]) hX dX12_readText_233 rfl (by decide) rfl ?_
        refine v_iconst (v := 0) hX dX12_readText_234 (by decide) ?_
        refine v_istore (lv' := [(4, _), (3, _), (0, _), (1, _), (2, _), (5, _), (6, _), (7, _)]) hX dX12_readText_235 (by decide) rfl ?_
        refine v_goto (tgt := 282) hX dX12_readText_237 (by decide) ?_
        refine v_pick [2, 3, 4, 1, 0, 5] rfl ?_
        exact b_X12_readText_282 hX hE hK23 _ h
set_option maxRecDepth 100000 in
set_option maxHeartbeats 4000000 in
theorem b_X12_readText_176 {X : h_X} (hX : h_ok X cX12_readText 9 RX12 1 25) {Q : Int32 → h_S → Prop} (hE : h_end X (some .int) (h_QI (x_Z X) Q)) {K23 : Nat → Int32 → Int32 → Int32 → Int32 → Int32 → h_S → Prop} (hK23 : ∀ (o0 : Nat) (x1 : Int32) (x2 : Int32) (x3 : Int32) (x4 : Int32) (x5 : Int32) (s : h_S), K23 o0 x1 x2 x3 x4 x5 s → h_V X 9 23 [(0, pR (some o0)), (1, pI x1), (2, pI x2), (3, pI x3), (4, pI x4), (5, pI x5)] [] s 0 0) {o0 : Nat} {x1 : Int32} {x2 : Int32} {x3 : Int32} {x4 : Int32} {x5 : Int32} {x6 : Int32} {x7 : Int32} (s : h_S) (h : w_X12_readText_176 Q K23 o0 x1 x2 x3 x4 x5 x6 x7 s) : h_V X 9 176 [(0, pR (some o0)), (1, pI x1), (2, pI x2), (3, pI x3), (4, pI x4), (5, pI x5), (6, pI x6), (7, pI x7)] [] s 0 0 := by
  unfold w_X12_readText_176 at h
  refine v_iload_n hX dX12_readText_176 3 rfl rfl ?_
  refine v_iconst (v := 3) hX dX12_readText_177 (by decide) ?_
  refine v_icmp_ne (tgt := 215) hX dX12_readText_178 (by decide) (fun c1 => ?_) (fun c1 => ?_)
  · have h := h_E c1 h
    refine v_pick [0, 1, 2, 3, 4, 5, 6, 7] rfl ?_
    exact b_X12_readText_215 hX hE hK23 _ h
  · have h := h_T c1 h
    refine v_iload hX dX12_readText_181 7 rfl ?_
    refine v_if_eq (tgt := 215) hX dX12_readText_183 (by decide) (fun c2 => ?_) (fun c2 => ?_)
    · have h := h_T c2 h
      refine v_pick [0, 1, 2, 3, 4, 5, 6, 7] rfl ?_
      exact b_X12_readText_215 hX hE hK23 _ h
    · have h := h_E c2 h
      refine v_iload hX dX12_readText_186 4 rfl ?_
      refine v_iconst (v := 4) hX dX12_readText_188 (by decide) ?_
      refine v_icmp_ge (tgt := 215) hX dX12_readText_189 (by decide) (fun c3 => ?_) (fun c3 => ?_)
      · have h := h_T c3 h
        refine v_pick [0, 1, 2, 3, 4, 5, 6, 7] rfl ?_
        exact b_X12_readText_215 hX hE hK23 _ h
      · have h := h_E c3 h
        refine v_aload_n hX dX12_readText_192 0 rfl rfl ?_
        refine v_bipush (v := 10) hX dX12_readText_193 (by decide) ?_
        refine v_aload_n hX dX12_readText_195 0 rfl rfl ?_
        obtain ⟨k4, h⟩ := h
        refine v_getI hX dX12_readText_196 f_RX12_552 rfl k4 ?_
        refine v_imul hX dX12_readText_199 ?_
        refine v_iload hX dX12_readText_200 6 rfl ?_
        refine v_iadd hX dX12_readText_202 ?_
        refine v_bipush (v := 48) hX dX12_readText_203 (by decide) ?_
        refine v_isub hX dX12_readText_205 ?_
        refine v_putI hX dX12_readText_206 f_RX12_552 k4 ?_
        refine v_iinc (c := 1) (lv' := [(4, _), (0, _), (1, _), (2, _), (3, _), (5, _), (6, _), (7, _)]) hX dX12_readText_209 4 rfl (by decide) (by decide) rfl ?_
        refine v_goto (tgt := 282) hX dX12_readText_212 (by decide) ?_
        refine v_pick [1, 2, 3, 4, 0, 5] rfl ?_
        exact b_X12_readText_282 hX hE hK23 _ h
set_option maxRecDepth 100000 in
set_option maxHeartbeats 4000000 in
theorem b_X12_readText_149 {X : h_X} (hX : h_ok X cX12_readText 9 RX12 1 25) {Q : Int32 → h_S → Prop} (hE : h_end X (some .int) (h_QI (x_Z X) Q)) {K23 : Nat → Int32 → Int32 → Int32 → Int32 → Int32 → h_S → Prop} (hK23 : ∀ (o0 : Nat) (x1 : Int32) (x2 : Int32) (x3 : Int32) (x4 : Int32) (x5 : Int32) (s : h_S), K23 o0 x1 x2 x3 x4 x5 s → h_V X 9 23 [(0, pR (some o0)), (1, pI x1), (2, pI x2), (3, pI x3), (4, pI x4), (5, pI x5)] [] s 0 0) {o0 : Nat} {x1 : Int32} {x2 : Int32} {x3 : Int32} {x4 : Int32} {x5 : Int32} {x6 : Int32} {x7 : Int32} (s : h_S) (h : w_X12_readText_149 Q K23 o0 x1 x2 x3 x4 x5 x6 x7 s) : h_V X 9 149 [(0, pR (some o0)), (1, pI x1), (2, pI x2), (3, pI x3), (4, pI x4), (5, pI x5), (6, pI x6), (7, pI x7)] [] s 0 0 := by
  unfold w_X12_readText_149 at h
  refine v_iload_n hX dX12_readText_149 3 rfl rfl ?_
  refine v_iconst (v := 2) hX dX12_readText_150 (by decide) ?_
  refine v_icmp_ne (tgt := 176) hX dX12_readText_151 (by decide) (fun c1 => ?_) (fun c1 => ?_)
  · have h := h_E c1 h
    refine v_pick [0, 1, 2, 3, 4, 5, 6, 7] rfl ?_
    exact b_X12_readText_176 hX hE hK23 _ h
  · have h := h_T c1 h
    refine v_iload hX dX12_readText_154 6 rfl ?_
    refine v_bipush (v := 64) hX dX12_readText_156 (by decide) ?_
    refine v_icmp_ne (tgt := 176) hX dX12_readText_158 (by decide) (fun c2 => ?_) (fun c2 => ?_)
    · have h := h_E c2 h
      refine v_pick [0, 1, 2, 3, 4, 5, 6, 7] rfl ?_
      exact b_X12_readText_176 hX hE hK23 _ h
    · have h := h_T c2 h
      refine v_aload_n hX dX12_readText_161 0 rfl rfl ?_
      obtain ⟨k3, h⟩ := h
      refine v_getI hX dX12_readText_162 f_RX12_549 rfl k3 ?_
      refine v_if_le (tgt := 176) hX dX12_readText_165 (by decide) (fun c4 => ?_) (fun c4 => ?_)
      · have h := h_T c4 h
        refine v_pick [0, 1, 2, 3, 4, 5, 6, 7] rfl ?_
        exact b_X12_readText_176 hX hE hK23 _ h
      · have h := h_E c4 h
        refine v_iconst (v := 3) hX dX12_readText_168 (by decide) ?_
        refine v_istore_n (lv' := [(3, _), (0, _), (1, _), (2, _), (4, _), (5, _), (6, _), (7, _)]) hX dX12_readText_169 rfl (by decide) rfl ?_
        refine v_iconst (v := 0) hX dX12_readText_170 (by decide) ?_
        refine v_istore (lv' := [(4, _), (3, _), (0, _), (1, _), (2, _), (5, _), (6, _), (7, _)]) hX dX12_readText_171 (by decide) rfl ?_
        refine v_goto (tgt := 282) hX dX12_readText_173 (by decide) ?_
        refine v_pick [2, 3, 4, 1, 0, 5] rfl ?_
        exact b_X12_readText_282 hX hE hK23 _ h
set_option maxRecDepth 100000 in
set_option maxHeartbeats 4000000 in
theorem b_X12_readText_111 {X : h_X} (hX : h_ok X cX12_readText 9 RX12 1 25) {Q : Int32 → h_S → Prop} (hE : h_end X (some .int) (h_QI (x_Z X) Q)) {K23 : Nat → Int32 → Int32 → Int32 → Int32 → Int32 → h_S → Prop} (hK23 : ∀ (o0 : Nat) (x1 : Int32) (x2 : Int32) (x3 : Int32) (x4 : Int32) (x5 : Int32) (s : h_S), K23 o0 x1 x2 x3 x4 x5 s → h_V X 9 23 [(0, pR (some o0)), (1, pI x1), (2, pI x2), (3, pI x3), (4, pI x4), (5, pI x5)] [] s 0 0) {o0 : Nat} {x1 : Int32} {x2 : Int32} {x3 : Int32} {x4 : Int32} {x5 : Int32} {x6 : Int32} {x7 : Int32} {x8 : Int32} (s : h_S) (h : w_X12_readText_111 Q K23 o0 x1 x2 x3 x4 x5 x6 x7 x8 s) : h_V X 9 111 [(0, pR (some o0)), (1, pI x1), (2, pI x2), (3, pI x3), (4, pI x4), (5, pI x5), (6, pI x6), (7, pI x7), (8, pI x8)] [] s 0 0 := by
  unfold w_X12_readText_111 at h
  refine v_iload_n hX dX12_readText_111 3 rfl rfl ?_
  refine v_iconst (v := 2) hX dX12_readText_112 (by decide) ?_
  refine v_icmp_ne (tgt := 149) hX dX12_readText_113 (by decide) (fun c1 => ?_) (fun c1 => ?_)
  · have h := h_E c1 h
    refine v_pick [0, 1, 2, 3, 4, 5, 6, 7] rfl ?_
    exact b_X12_readText_149 hX hE hK23 _ h
  · have h := h_T c1 h
    refine v_iload hX dX12_readText_116 8 rfl ?_
    refine v_if_lt (tgt := 149) hX dX12_readText_118 (by decide) (fun c2 => ?_) (fun c2 => ?_)
    · have h := h_T c2 h
      refine v_pick [0, 1, 2, 3, 4, 5, 6, 7] rfl ?_
      exact b_X12_readText_149 hX hE hK23 _ h
    · have h := h_E c2 h
      refine v_aload_n hX dX12_readText_121 0 rfl rfl ?_
      obtain ⟨k3, h⟩ := h
      refine v_getI hX dX12_readText_122 f_RX12_549 rfl k3 ?_
      refine v_iload hX dX12_readText_125 8 rfl ?_
      refine v_callSi0 hX dX12_readText_127 c_RX12_540 cS_X12_hasBit [pI _, pI _] rfl rfl (Nat.le_of_ble_eq_true rfl) (by decide) (by decide)  (m_X12_hasBit h) (fun p5 s4 h => ?_)
      refine v_if_ne (tgt := 149) hX dX12_readText_130 (by decide) (fun c6 => ?_) (fun c6 => ?_)
      · have h := h_E c6 h
        refine v_pick [0, 1, 2, 3, 4, 5, 6, 7] rfl ?_
        exact b_X12_readText_149 hX hE hK23 _ h
      · have h := h_T c6 h
        refine v_aload_n hX dX12_readText_133 0 rfl rfl ?_
        refine v_dup hX dX12_readText_134 rfl ?_
        obtain ⟨k7, h⟩ := h
        refine v_getI hX dX12_readText_135 f_RX12_549 rfl k7 ?_
        refine v_iconst (v := 1) hX dX12_readText_138 (by decide) ?_
        refine v_iload hX dX12_readText_139 8 rfl ?_
        refine v_ishl hX dX12_readText_141 ?_
        refine v_ior hX dX12_readText_142 ?_
        refine v_putI hX dX12_readText_143 f_RX12_549 k7 ?_
        refine v_goto (tgt := 282) hX dX12_readText_146 (by decide) ?_
        refine v_pick [0, 1, 2, 3, 4, 5] rfl ?_
        exact b_X12_readText_282 hX hE hK23 _ h
set_option maxRecDepth 100000 in
set_option maxHeartbeats 4000000 in
theorem b_X12_readText_94 {X : h_X} (hX : h_ok X cX12_readText 9 RX12 1 25) {Q : Int32 → h_S → Prop} (hE : h_end X (some .int) (h_QI (x_Z X) Q)) {K23 : Nat → Int32 → Int32 → Int32 → Int32 → Int32 → h_S → Prop} (hK23 : ∀ (o0 : Nat) (x1 : Int32) (x2 : Int32) (x3 : Int32) (x4 : Int32) (x5 : Int32) (s : h_S), K23 o0 x1 x2 x3 x4 x5 s → h_V X 9 23 [(0, pR (some o0)), (1, pI x1), (2, pI x2), (3, pI x3), (4, pI x4), (5, pI x5)] [] s 0 0) {o0 : Nat} {x1 : Int32} {x2 : Int32} {x3 : Int32} {x4 : Int32} {x5 : Int32} {x6 : Int32} {x7 : Int32} {x8 : Int32} (s : h_S) (h : w_X12_readText_94 Q K23 o0 x1 x2 x3 x4 x5 x6 x7 x8 s) : h_V X 9 94 [(0, pR (some o0)), (1, pI x1), (2, pI x2), (3, pI x3), (4, pI x4), (5, pI x5), (6, pI x6), (7, pI x7), (8, pI x8)] [] s 0 0 := by
  unfold w_X12_readText_94 at h
  refine v_iload_n hX dX12_readText_94 3 rfl rfl ?_
  refine v_iconst (v := 1) hX dX12_readText_95 (by decide) ?_
  refine v_icmp_ne (tgt := 111) hX dX12_readText_96 (by decide) (fun c1 => ?_) (fun c1 => ?_)
  · have h := h_E c1 h
    refine v_pick [0, 1, 2, 3, 4, 5, 6, 7, 8] rfl ?_
    exact b_X12_readText_111 hX hE hK23 _ h
  · have h := h_T c1 h
    refine v_iload hX dX12_readText_99 6 rfl ?_
    refine v_bipush (v := 58) hX dX12_readText_101 (by decide) ?_
    refine v_icmp_ne (tgt := 111) hX dX12_readText_103 (by decide) (fun c2 => ?_) (fun c2 => ?_)
    · have h := h_E c2 h
      refine v_pick [0, 1, 2, 3, 4, 5, 6, 7, 8] rfl ?_
      exact b_X12_readText_111 hX hE hK23 _ h
    · have h := h_T c2 h
      refine v_iconst (v := 2) hX dX12_readText_106 (by decide) ?_
      refine v_istore_n (lv' := [(3, _), (0, _), (1, _), (2, _), (4, _), (5, _), (6, _), (7, _), (8, _)]) hX dX12_readText_107 rfl (by decide) rfl ?_
      refine v_goto (tgt := 282) hX dX12_readText_108 (by decide) ?_
      refine v_pick [1, 2, 3, 0, 4, 5] rfl ?_
      exact b_X12_readText_282 hX hE hK23 _ h
set_option maxRecDepth 100000 in
set_option maxHeartbeats 4000000 in
theorem b_X12_readText_303 {X : h_X} (hX : h_ok X cX12_readText 9 RX12 1 25) {Q : Int32 → h_S → Prop} (hE : h_end X (some .int) (h_QI (x_Z X) Q)) {y0 : Int32} (s : h_S) (h : w_X12_readText_303 Q y0 s) : h_V X 9 303 [] [pI y0] s 0 0 := by
  unfold w_X12_readText_303 at h
  exact v_iret hX hE dX12_readText_303 h
set_option maxRecDepth 100000 in
set_option maxHeartbeats 4000000 in
theorem b_X12_readText_302 {X : h_X} (hX : h_ok X cX12_readText 9 RX12 1 25) {Q : Int32 → h_S → Prop} (hE : h_end X (some .int) (h_QI (x_Z X) Q)) {x2 : Int32} (s : h_S) (h : w_X12_readText_302 Q x2 s) : h_V X 9 302 [(2, pI x2)] [] s 0 0 := by
  unfold w_X12_readText_302 at h
  refine v_iload_n hX dX12_readText_302 0 rfl rfl ?_
  refine v_pick [] rfl ?_
  exact b_X12_readText_303 hX hE _ h
set_option maxRecDepth 100000 in
set_option maxHeartbeats 4000000 in
theorem b_X12_readText_23 {X : h_X} (hX : h_ok X cX12_readText 9 RX12 1 25) {Q : Int32 → h_S → Prop} (hE : h_end X (some .int) (h_QI (x_Z X) Q)) : ∀ (n : Nat) (o0 : Nat) (x1 : Int32) (x2 : Int32) (x3 : Int32) (x4 : Int32) (x5 : Int32) (s : h_S), w_X12_readText_23 Q n o0 x1 x2 x3 x4 x5 s → h_V X 9 23 [(0, pR (some o0)), (1, pI x1), (2, pI x2), (3, pI x3), (4, pI x4), (5, pI x5)] [] s 0 0 := by
  intro n
  induction n with
  | zero => intro _ _ _ _ _ _ s h; exact h.elim
  | succ n hK23 =>
    intro o0 x1 x2 x3 x4 x5 s h
    have h : w_X12_readText_23b Q (w_X12_readText_23 Q n) o0 x1 x2 x3 x4 x5 s := h
    unfold w_X12_readText_23b at h
    refine v_iload hX dX12_readText_23 5 rfl ?_
    refine v_iload_n hX dX12_readText_25 2 rfl rfl ?_
    refine v_icmp_ge (tgt := 288) hX dX12_readText_26 (by decide) (fun c1 => ?_) (fun c1 => ?_)
    · have h := h_T c1 h
      refine v_iload_n hX dX12_readText_288 3 rfl rfl ?_
      refine v_iconst (v := 4) hX dX12_readText_289 (by decide) ?_
      refine v_icmp_ne (tgt := 302) hX dX12_readText_290 (by decide) (fun c2 => ?_) (fun c2 => ?_)
      · have h := h_E c2 h
        refine v_pick [2] rfl ?_
        exact b_X12_readText_302 hX hE _ h
      · have h := h_T c2 h
        refine v_iload hX dX12_readText_293 4 rfl ?_
        refine v_if_le (tgt := 302) hX dX12_readText_295 (by decide) (fun c3 => ?_) (fun c3 => ?_)
        · have h := h_T c3 h
          refine v_pick [2] rfl ?_
          exact b_X12_readText_302 hX hE _ h
        · have h := h_E c3 h
          refine v_iconst (v := -1) hX dX12_readText_298 (by decide) ?_
          refine v_goto (tgt := 303) hX dX12_readText_299 (by decide) ?_
          refine v_pick [] rfl ?_
          exact b_X12_readText_303 hX hE _ h
    · have h := h_E c1 h
      refine v_aload_n hX dX12_readText_29 0 rfl rfl ?_
      obtain ⟨k4, h⟩ := h
      refine v_getR hX dX12_readText_30 f_RX12_264 rfl k4 ?_
      refine v_iload_n hX dX12_readText_33 1 rfl rfl ?_
      refine v_iload hX dX12_readText_34 5 rfl ?_
      refine v_iadd hX dX12_readText_36 ?_
      obtain ⟨a5, e_a5, h⟩ := h
      refine v_nn1 e_a5 ?_
      obtain ⟨k6, h⟩ := h
      obtain ⟨i7, h⟩ := h
      refine v_iald hX dX12_readText_37 k6 i7 ?_
      refine v_istore (lv' := [(6, _), (0, _), (1, _), (2, _), (3, _), (4, _), (5, _)]) hX dX12_readText_38 (by decide) rfl ?_
      refine v_iload hX dX12_readText_40 0 rfl ?_
      refine v_i2l hX dX12_readText_42 ?_
      refine v_ldc2 hX dX12_readText_43 k_RX12_558 ?_
      refine v_ldc2 hX dX12_readText_46 k_RX12_560 ?_
      refine v_callSi0 hX dX12_readText_49 c_RX12_298 cS_X12_in [pL _, pL _, pL _] rfl rfl (Nat.le_of_ble_eq_true rfl) (by decide) (by decide)  (m_X12_in h) (fun p9 s8 h => ?_)
      refine v_istore (lv' := [(7, _), (6, _), (0, _), (1, _), (2, _), (3, _), (4, _), (5, _)]) hX dX12_readText_52 (by decide) rfl ?_
      refine v_iload hX dX12_readText_54 1 rfl ?_
      refine v_callSi0 hX dX12_readText_56 c_RX12_562 cS_X12_useOf [pI _] rfl rfl (Nat.le_of_ble_eq_true rfl) (by decide) (by decide)  (m_X12_useOf h) (fun p11 s10 h => ?_)
      refine v_istore (lv' := [(8, _), (7, _), (6, _), (0, _), (1, _), (2, _), (3, _), (4, _), (5, _)]) hX dX12_readText_59 (by decide) rfl ?_
      refine v_iload_n hX dX12_readText_61 6 rfl rfl ?_
      refine v_if_ne (tgt := 94) hX dX12_readText_62 (by decide) (fun c12 => ?_) (fun c12 => ?_)
      · have h := h_E c12 h
        refine v_pick [3, 4, 5, 6, 7, 8, 2, 1, 0] rfl ?_
        exact b_X12_readText_94 hX hE hK23 _ h
      · have h := h_T c12 h
        refine v_iload hX dX12_readText_65 2 rfl ?_
        refine v_i2l hX dX12_readText_67 ?_
        refine v_ldc2 hX dX12_readText_68 k_RX12_558 ?_
        refine v_ldc2 hX dX12_readText_71 k_RX12_565 ?_
        refine v_callSi0 hX dX12_readText_74 c_RX12_298 cS_X12_in [pL _, pL _, pL _] rfl rfl (Nat.le_of_ble_eq_true rfl) (by decide) (by decide)  (m_X12_in h) (fun p14 s13 h => ?_)
        refine v_if_eq (tgt := 94) hX dX12_readText_77 (by decide) (fun c15 => ?_) (fun c15 => ?_)
        · have h := h_T c15 h
          refine v_pick [3, 4, 5, 6, 7, 8, 2, 1, 0] rfl ?_
          exact b_X12_readText_94 hX hE hK23 _ h
        · have h := h_E c15 h
          refine v_aload_n hX dX12_readText_80 3 rfl rfl ?_
          refine v_iload hX dX12_readText_81 2 rfl ?_
          refine v_bipush (v := 48) hX dX12_readText_83 (by decide) ?_
          refine v_isub hX dX12_readText_85 ?_
          obtain ⟨k16, h⟩ := h
          refine v_putI hX dX12_readText_86 f_RX12_567 k16 ?_
          refine v_iconst (v := 1) hX dX12_readText_89 (by decide) ?_
          refine v_istore_n (lv' := [(3, _), (8, _), (7, _), (6, _), (0, _), (1, _), (2, _), (4, _), (5, _)]) hX dX12_readText_90 rfl (by decide) rfl ?_
          refine v_goto (tgt := 282) hX dX12_readText_91 (by decide) ?_
          refine v_pick [4, 5, 6, 0, 7, 8] rfl ?_
          exact b_X12_readText_282 hX hE hK23 _ h
set_option maxRecDepth 100000 in
set_option maxHeartbeats 4000000 in
theorem m_X12_readText {Z : h_Z} {o0 : Nat} {x1 : Int32} {x2 : Int32} {s : h_S} {Q : Int32 → h_S → Prop} (h : w_X12_readText o0 x1 x2 s Q) : h_M Z yX12_readText cX12_readText 9 (some .int) 1 25 [pR (some o0), pI x1, pI x2] s 0 0 (h_QI Z Q) := by
  refine h_M.of (by decide) (Nat.le_of_ble_eq_true rfl) (fun X hZ hX hE hI => ?_)
  subst hZ
  unfold w_X12_readText at h
  show h_V X 9 0 [(0, pR (some o0)), (1, pI x1), (2, pI x2)] [] s 0 0
  refine v_iconst (v := 0) hX dX12_readText_0 (by decide) ?_
  refine v_istore_n (lv' := [(3, _), (0, _), (1, _), (2, _)]) hX dX12_readText_1 rfl (by decide) rfl ?_
  refine v_iconst (v := 0) hX dX12_readText_2 (by decide) ?_
  refine v_istore (lv' := [(4, _), (3, _), (0, _), (1, _), (2, _)]) hX dX12_readText_3 (by decide) rfl ?_
  refine v_aload_n hX dX12_readText_5 2 rfl rfl ?_
  refine v_iconst (v := 0) hX dX12_readText_6 (by decide) ?_
  obtain ⟨k1, h⟩ := h
  refine v_putI hX dX12_readText_7 f_RX12_549 k1 ?_
  refine v_aload_n hX dX12_readText_10 2 rfl rfl ?_
  refine v_iconst (v := 0) hX dX12_readText_11 (by decide) ?_
  refine v_putI hX dX12_readText_12 f_RX12_552 k1 ?_
  refine v_aload_n hX dX12_readText_15 2 rfl rfl ?_
  refine v_iconst (v := 0) hX dX12_readText_16 (by decide) ?_
  refine v_putI hX dX12_readText_17 f_RX12_555 k1 ?_
  refine v_iconst (v := 0) hX dX12_readText_20 (by decide) ?_
  refine v_istore (lv' := [(5, _), (4, _), (3, _), (0, _), (1, _), (2, _)]) hX dX12_readText_21 (by decide) rfl ?_
  refine v_pick [3, 4, 5, 2, 1, 0] rfl ?_
  obtain ⟨n, h⟩ := h
  exact b_X12_readText_23 hX hE n _ _ _ _ _ _ _ h
set_option maxRecDepth 100000 in
set_option maxHeartbeats 4000000 in
theorem m_X12_addRight {Z : h_Z} {o0 : Nat} {x1 : Int32} {x2 : Int32} {x3 : Int32} {x4 : Int32} {x5 : Int32} {x6 : Int32} {s : h_S} {Q : h_S → Prop} (h : w_X12_addRight o0 x1 x2 x3 x4 x5 x6 s Q) : h_M Z yX12_addRight cX12_addRight 7 none 0 0 [pR (some o0), pI x1, pI x2, pI x3, pI x4, pI x5, pI x6] s 0 0 (h_QV Z Q) := by
  refine h_M.of (by decide) (Nat.le_of_ble_eq_true rfl) (fun X hZ hX hE hI => ?_)
  subst hZ
  unfold w_X12_addRight at h
  show h_V X 7 0 [(0, pR (some o0)), (1, pI x1), (2, pI x2), (3, pI x3), (4, pI x4), (5, pI x5), (6, pI x6)] [] s 0 0
  refine v_aload_n hX dX12_addRight_0 0 rfl rfl ?_
  obtain ⟨k1, h⟩ := h
  refine v_getR hX dX12_addRight_1 f_RX12_219 rfl k1 ?_
  refine v_aload_n hX dX12_addRight_4 0 rfl rfl ?_
  refine v_getI hX dX12_addRight_5 f_RX12_537 rfl k1 ?_
  refine v_iload_n hX dX12_addRight_8 1 rfl rfl ?_
  obtain ⟨a2, e_a2, h⟩ := h
  refine v_nn2 e_a2 ?_
  obtain ⟨k3, h⟩ := h
  obtain ⟨i4, h⟩ := h
  refine v_iast hX dX12_addRight_9 k3 i4 ?_
  refine v_aload_n hX dX12_addRight_10 0 rfl rfl ?_
  refine v_getR hX dX12_addRight_11 f_RX12_222 rfl k1 ?_
  refine v_aload_n hX dX12_addRight_14 0 rfl rfl ?_
  refine v_getI hX dX12_addRight_15 f_RX12_537 rfl k1 ?_
  refine v_iload_n hX dX12_addRight_18 2 rfl rfl ?_
  obtain ⟨a6, e_a6, h⟩ := h
  refine v_nn2 e_a6 ?_
  obtain ⟨k7, h⟩ := h
  obtain ⟨i8, h⟩ := h
  refine v_iast hX dX12_addRight_19 k7 i8 ?_
  refine v_aload_n hX dX12_addRight_20 0 rfl rfl ?_
  refine v_getR hX dX12_addRight_21 f_RX12_225 rfl k1 ?_
  refine v_aload_n hX dX12_addRight_24 0 rfl rfl ?_
  refine v_getI hX dX12_addRight_25 f_RX12_537 rfl k1 ?_
  refine v_iload_n hX dX12_addRight_28 3 rfl rfl ?_
  obtain ⟨a10, e_a10, h⟩ := h
  refine v_nn2 e_a10 ?_
  obtain ⟨k11, h⟩ := h
  obtain ⟨i12, h⟩ := h
  refine v_iast hX dX12_addRight_29 k11 i12 ?_
  refine v_aload_n hX dX12_addRight_30 0 rfl rfl ?_
  refine v_getR hX dX12_addRight_31 f_RX12_228 rfl k1 ?_
  refine v_aload_n hX dX12_addRight_34 0 rfl rfl ?_
  refine v_getI hX dX12_addRight_35 f_RX12_537 rfl k1 ?_
  refine v_iload hX dX12_addRight_38 4 rfl ?_
  obtain ⟨a14, e_a14, h⟩ := h
  refine v_nn2 e_a14 ?_
  obtain ⟨k15, h⟩ := h
  obtain ⟨i16, h⟩ := h
  refine v_iast hX dX12_addRight_40 k15 i16 ?_
  refine v_aload_n hX dX12_addRight_41 0 rfl rfl ?_
  refine v_getR hX dX12_addRight_42 f_RX12_231 rfl k1 ?_
  refine v_aload_n hX dX12_addRight_45 0 rfl rfl ?_
  refine v_getI hX dX12_addRight_46 f_RX12_537 rfl k1 ?_
  refine v_iload hX dX12_addRight_49 5 rfl ?_
  obtain ⟨a18, e_a18, h⟩ := h
  refine v_nn2 e_a18 ?_
  obtain ⟨k19, h⟩ := h
  obtain ⟨i20, h⟩ := h
  refine v_iast hX dX12_addRight_51 k19 i20 ?_
  refine v_aload_n hX dX12_addRight_52 0 rfl rfl ?_
  refine v_getR hX dX12_addRight_53 f_RX12_234 rfl k1 ?_
  refine v_aload_n hX dX12_addRight_56 0 rfl rfl ?_
  refine v_getI hX dX12_addRight_57 f_RX12_537 rfl k1 ?_
  refine v_iload hX dX12_addRight_60 6 rfl ?_
  obtain ⟨a22, e_a22, h⟩ := h
  refine v_nn2 e_a22 ?_
  obtain ⟨k23, h⟩ := h
  obtain ⟨i24, h⟩ := h
  refine v_iast hX dX12_addRight_62 k23 i24 ?_
  refine v_aload_n hX dX12_addRight_63 0 rfl rfl ?_
  refine v_getR hX dX12_addRight_64 f_RX12_237 rfl k1 ?_
  refine v_aload_n hX dX12_addRight_67 0 rfl rfl ?_
  refine v_getI hX dX12_addRight_68 f_RX12_537 rfl k1 ?_
  refine v_aload_n hX dX12_addRight_71 0 rfl rfl ?_
  refine v_getI hX dX12_addRight_72 f_RX12_288 rfl k1 ?_
  refine v_iconst (v := 1) hX dX12_addRight_75 (by decide) ?_
  refine v_iadd hX dX12_addRight_76 ?_
  obtain ⟨a26, e_a26, h⟩ := h
  refine v_nn2 e_a26 ?_
  obtain ⟨k27, h⟩ := h
  obtain ⟨i28, h⟩ := h
  refine v_iast hX dX12_addRight_77 k27 i28 ?_
  refine v_aload_n hX dX12_addRight_78 0 rfl rfl ?_
  refine v_getR hX dX12_addRight_79 f_RX12_240 rfl k1 ?_
  refine v_aload_n hX dX12_addRight_82 0 rfl rfl ?_
  refine v_getI hX dX12_addRight_83 f_RX12_537 rfl k1 ?_
  refine v_bipush (v := -9) hX dX12_addRight_86 (by decide) ?_
  obtain ⟨a30, e_a30, h⟩ := h
  refine v_nn2 e_a30 ?_
  obtain ⟨k31, h⟩ := h
  obtain ⟨i32, h⟩ := h
  refine v_iast hX dX12_addRight_88 k31 i32 ?_
  refine v_aload_n hX dX12_addRight_89 0 rfl rfl ?_
  refine v_dup hX dX12_addRight_90 rfl ?_
  refine v_getI hX dX12_addRight_91 f_RX12_537 rfl k1 ?_
  refine v_iconst (v := 1) hX dX12_addRight_94 (by decide) ?_
  refine v_iadd hX dX12_addRight_95 ?_
  refine v_putI hX dX12_addRight_96 f_RX12_537 k1 ?_
  exact v_vret hX hE dX12_addRight_99 h
set_option maxRecDepth 100000 in
set_option maxHeartbeats 4000000 in
theorem b_X12_right_15 {X : h_X} (hX : h_ok X cX12_right 8 RX12 2 53) {Q : Int32 → h_S → Prop} (hE : h_end X (some .int) (h_QI (x_Z X) Q)) {o0 : Nat} (s : h_S) (h : w_X12_right_15 Q o0 s) : h_V X 8 15 [(0, pR (some o0))] [] s 0 0 := by
  unfold w_X12_right_15 at h
  refine v_aload_n hX dX12_right_15 0 rfl rfl ?_
  refine v_iconst (v := -1) hX dX12_right_16 (by decide) ?_
  obtain ⟨k1, h⟩ := h
  refine v_callVi0 hX dX12_right_17 c_RX12_389 cV_X12_refused (ci := 13) (T := TX12) (N := 115) rfl (by exact k1) [pI _] rfl rfl (Nat.le_of_ble_eq_true rfl) (by decide) (by decide)  (m_X12_refused h) (fun p3 s2 h => ?_)
  exact v_iret hX hE dX12_right_20 h
set_option maxRecDepth 100000 in
set_option maxHeartbeats 4000000 in
theorem m_X12_right {Z : h_Z} {o0 : Nat} {x1 : Int32} {x2 : Int32} {x3 : Int32} {x4 : Int32} {x5 : Int32} {s : h_S} {Q : Int32 → h_S → Prop} (h : w_X12_right o0 x1 x2 x3 x4 x5 s Q) : h_M Z yX12_right cX12_right 8 (some .int) 2 53 [pR (some o0), pI x1, pI x2, pI x3, pI x4, pI x5] s 0 0 (h_QI Z Q) := by
  refine h_M.of (by decide) (Nat.le_of_ble_eq_true rfl) (fun X hZ hX hE hI => ?_)
  subst hZ
  unfold w_X12_right at h
  show h_V X 8 0 [(0, pR (some o0)), (1, pI x1), (2, pI x2), (3, pI x3), (4, pI x4), (5, pI x5)] [] s 0 0
  refine v_aload_n hX dX12_right_0 0 rfl rfl ?_
  refine v_iload_n hX dX12_right_1 1 rfl rfl ?_
  obtain ⟨k1, h⟩ := h
  refine v_callVi0 hX dX12_right_2 c_RX12_379 cV_X12_noWriting (ci := 13) (T := TX12) (N := 115) rfl (by exact k1) [pI _] rfl rfl (Nat.le_of_ble_eq_true rfl) (by decide) (by decide)  (m_X12_noWriting h) (fun p3 s2 h => ?_)
  refine v_if_ne (tgt := 15) hX dX12_right_5 (by decide) (fun c4 => ?_) (fun c4 => ?_)
  · have h := h_E c4 h
    refine v_pick [0] rfl ?_
    exact b_X12_right_15 hX hE _ h
  · have h := h_T c4 h
    refine v_iload_n hX dX12_right_8 2 rfl rfl ?_
    refine v_callSi0 hX dX12_right_9 c_RX12_382 cS_X12_noSheet [pI _] rfl rfl (Nat.le_of_ble_eq_true rfl) (by decide) (by decide)  (m_X12_noSheet h) (fun p6 s5 h => ?_)
    refine v_if_eq (tgt := 21) hX dX12_right_12 (by decide) (fun c7 => ?_) (fun c7 => ?_)
    · have h := h_T c7 h
      refine v_aload_n hX dX12_right_21 0 rfl rfl ?_
      refine v_iload_n hX dX12_right_22 2 rfl rfl ?_
      refine v_iload_n hX dX12_right_23 3 rfl rfl ?_
      refine v_iload hX dX12_right_24 4 rfl ?_
      refine v_iload hX dX12_right_26 5 rfl ?_
      obtain ⟨k8, h⟩ := h
      refine v_callVi0 hX dX12_right_28 c_RX12_392 cV_X12_barred (ci := 13) (T := TX12) (N := 115) rfl (by exact k8) [pI _, pI _, pI _, pI _] rfl rfl (Nat.le_of_ble_eq_true rfl) (by decide) (by decide)  (m_X12_barred h) (fun p10 s9 h => ?_)
      refine v_istore (lv' := [(6, _), (0, _), (1, _), (2, _), (3, _), (4, _), (5, _)]) hX dX12_right_31 (by decide) rfl ?_
      refine v_iload hX dX12_right_33 0 rfl ?_
      refine v_if_ge (tgt := 41) hX dX12_right_35 (by decide) (fun c11 => ?_) (fun c11 => ?_)
      · have h := h_T c11 h
        refine v_aload_n hX dX12_right_41 1 rfl rfl ?_
        refine v_bipush (v := 60) hX dX12_right_42 (by decide) ?_
        refine v_iload_n hX dX12_right_44 3 rfl rfl ?_
        refine v_imul hX dX12_right_45 ?_
        refine v_iload hX dX12_right_46 5 rfl ?_
        refine v_iadd hX dX12_right_48 ?_
        refine v_iload hX dX12_right_49 6 rfl ?_
        obtain ⟨k12, h⟩ := h
        refine v_callVi0 hX dX12_right_51 c_RX12_570 cV_X12_readText (ci := 13) (T := TX12) (N := 115) rfl (by exact k12) [pI _, pI _] rfl rfl (Nat.le_of_ble_eq_true rfl) (by decide) (by decide)  (m_X12_readText h) (fun p14 s13 h => ?_)
        refine v_istore (lv' := [(7, _), (6, _), (0, _), (1, _), (2, _), (3, _), (4, _), (5, _)]) hX dX12_right_54 (by decide) rfl ?_
        refine v_iload hX dX12_right_56 0 rfl ?_
        refine v_if_lt (tgt := 71) hX dX12_right_58 (by decide) (fun c15 => ?_) (fun c15 => ?_)
        · have h := h_T c15 h
          refine v_aload_n hX dX12_right_71 2 rfl rfl ?_
          obtain ⟨k16, h⟩ := h
          refine v_getI hX dX12_right_72 f_RX12_537 rfl k16 ?_
          refine v_bipush (v := 20) hX dX12_right_75 (by decide) ?_
          refine v_icmp_ne (tgt := 87) hX dX12_right_77 (by decide) (fun c17 => ?_) (fun c17 => ?_)
          · have h := h_E c17 h
            refine v_aload_n hX dX12_right_87 2 rfl rfl ?_
            refine v_iload_n hX dX12_right_88 3 rfl rfl ?_
            refine v_aload_n hX dX12_right_89 2 rfl rfl ?_
            refine v_getI hX dX12_right_90 f_RX12_567 rfl k16 ?_
            refine v_aload_n hX dX12_right_93 2 rfl rfl ?_
            refine v_getI hX dX12_right_94 f_RX12_549 rfl k16 ?_
            refine v_aload_n hX dX12_right_97 2 rfl rfl ?_
            refine v_getI hX dX12_right_98 f_RX12_552 rfl k16 ?_
            refine v_aload_n hX dX12_right_101 2 rfl rfl ?_
            refine v_getI hX dX12_right_102 f_RX12_555 rfl k16 ?_
            refine v_bipush (v := -9) hX dX12_right_105 (by decide) ?_
            refine v_callVv0 hX dX12_right_107 c_RX12_573 cV_X12_addRight (ci := 13) (T := TX12) (N := 115) rfl (by exact k16) [pI _, pI _, pI _, pI _, pI _, pI _] rfl rfl (Nat.le_of_ble_eq_true rfl) (by decide) (by decide)  (m_X12_addRight h) (fun s18 h => ?_)
            refine v_aload_n hX dX12_right_110 2 rfl rfl ?_
            refine v_aload_n hX dX12_right_111 2 rfl rfl ?_
            refine v_aload_n hX dX12_right_112 2 rfl rfl ?_
            obtain ⟨k20, h⟩ := h
            refine v_getI hX dX12_right_113 f_RX12_537 rfl k20 ?_
            refine v_iconst (v := 1) hX dX12_right_116 (by decide) ?_
            refine v_isub hX dX12_right_117 ?_
            refine v_callVi0 hX dX12_right_118 c_RX12_302 cV_X12_acted (ci := 13) (T := TX12) (N := 115) rfl (by exact k20) [pI _] rfl rfl (Nat.le_of_ble_eq_true rfl) (by decide) (by decide)  (m_X12_acted h) (fun p22 s21 h => ?_)
            obtain ⟨k23, h⟩ := h
            refine v_callVi0 hX dX12_right_121 c_RX12_389 cV_X12_refused (ci := 13) (T := TX12) (N := 115) rfl (by exact k23) [pI _] rfl rfl (Nat.le_of_ble_eq_true rfl) (by decide) (by decide)  (m_X12_refused h) (fun p25 s24 h => ?_)
            exact v_iret hX hE dX12_right_124 h
          · have h := h_T c17 h
            refine v_aload_n hX dX12_right_80 2 rfl rfl ?_
            refine v_bipush (v := -4) hX dX12_right_81 (by decide) ?_
            refine v_callVi0 hX dX12_right_83 c_RX12_389 cV_X12_refused (ci := 13) (T := TX12) (N := 115) rfl (by exact k16) [pI _] rfl rfl (Nat.le_of_ble_eq_true rfl) (by decide) (by decide)  (m_X12_refused h) (fun p27 s26 h => ?_)
            exact v_iret hX hE dX12_right_86 h
        · have h := h_E c15 h
          refine v_aload_n hX dX12_right_61 2 rfl rfl ?_
          refine v_bipush (v := -100) hX dX12_right_62 (by decide) ?_
          refine v_iload hX dX12_right_64 0 rfl ?_
          refine v_isub hX dX12_right_66 ?_
          obtain ⟨k28, h⟩ := h
          refine v_callVi0 hX dX12_right_67 c_RX12_389 cV_X12_refused (ci := 13) (T := TX12) (N := 115) rfl (by exact k28) [pI _] rfl rfl (Nat.le_of_ble_eq_true rfl) (by decide) (by decide)  (m_X12_refused h) (fun p30 s29 h => ?_)
          exact v_iret hX hE dX12_right_70 h
      · have h := h_E c11 h
        refine v_iload hX dX12_right_38 0 rfl ?_
        exact v_iret hX hE dX12_right_40 h
    · have h := h_E c7 h
      refine v_pick [0] rfl ?_
      exact b_X12_right_15 hX hE _ h
set_option maxRecDepth 100000 in
set_option maxHeartbeats 4000000 in
theorem b_X12_lend_24 {X : h_X} (hX : h_ok X cX12_lend 4 RX12 2 51) {Q : Int32 → h_S → Prop} (hE : h_end X (some .int) (h_QI (x_Z X) Q)) (s : h_S) (h : w_X12_lend_24 Q s) : h_V X 4 24 [] [] s 0 0 := by
  unfold w_X12_lend_24 at h
  refine v_iconst (v := -1) hX dX12_lend_24 (by decide) ?_
  exact v_iret hX hE dX12_lend_25 h
set_option maxRecDepth 100000 in
set_option maxHeartbeats 4000000 in
theorem m_X12_lend {Z : h_Z} {o0 : Nat} {x1 : Int32} {x2 : Int32} {x3 : Int32} {s : h_S} {Q : Int32 → h_S → Prop} (h : w_X12_lend o0 x1 x2 x3 s Q) : h_M Z yX12_lend cX12_lend 4 (some .int) 2 51 [pR (some o0), pI x1, pI x2, pI x3] s 0 0 (h_QI Z Q) := by
  refine h_M.of (by decide) (Nat.le_of_ble_eq_true rfl) (fun X hZ hX hE hI => ?_)
  subst hZ
  unfold w_X12_lend at h
  show h_V X 4 0 [(0, pR (some o0)), (1, pI x1), (2, pI x2), (3, pI x3)] [] s 0 0
  refine v_aload_n hX dX12_lend_0 0 rfl rfl ?_
  refine v_iload_n hX dX12_lend_1 1 rfl rfl ?_
  obtain ⟨k1, h⟩ := h
  refine v_callVi0 hX dX12_lend_2 c_RX12_576 cV_X12_noRight (ci := 13) (T := TX12) (N := 115) rfl (by exact k1) [pI _] rfl rfl (Nat.le_of_ble_eq_true rfl) (by decide) (by decide)  (m_X12_noRight h) (fun p3 s2 h => ?_)
  refine v_if_ne (tgt := 24) hX dX12_lend_5 (by decide) (fun c4 => ?_) (fun c4 => ?_)
  · have h := h_E c4 h
    refine v_pick [] rfl ?_
    exact b_X12_lend_24 hX hE _ h
  · have h := h_T c4 h
    refine v_aload_n hX dX12_lend_8 0 rfl rfl ?_
    refine v_iload_n hX dX12_lend_9 2 rfl rfl ?_
    obtain ⟨k5, h⟩ := h
    refine v_callVi0 hX dX12_lend_10 c_RX12_317 cV_X12_noHand (ci := 13) (T := TX12) (N := 115) rfl (by exact k5) [pI _] rfl rfl (Nat.le_of_ble_eq_true rfl) (by decide) (by decide)  (m_X12_noHand h) (fun p7 s6 h => ?_)
    refine v_if_ne (tgt := 24) hX dX12_lend_13 (by decide) (fun c8 => ?_) (fun c8 => ?_)
    · have h := h_E c8 h
      refine v_pick [] rfl ?_
      exact b_X12_lend_24 hX hE _ h
    · have h := h_T c8 h
      refine v_aload_n hX dX12_lend_16 0 rfl rfl ?_
      refine v_iload_n hX dX12_lend_17 3 rfl rfl ?_
      obtain ⟨k9, h⟩ := h
      refine v_callVi0 hX dX12_lend_18 c_RX12_317 cV_X12_noHand (ci := 13) (T := TX12) (N := 115) rfl (by exact k9) [pI _] rfl rfl (Nat.le_of_ble_eq_true rfl) (by decide) (by decide)  (m_X12_noHand h) (fun p11 s10 h => ?_)
      refine v_if_eq (tgt := 26) hX dX12_lend_21 (by decide) (fun c12 => ?_) (fun c12 => ?_)
      · have h := h_T c12 h
        refine v_iload_n hX dX12_lend_26 2 rfl rfl ?_
        refine v_iload_n hX dX12_lend_27 3 rfl rfl ?_
        refine v_icmp_ne (tgt := 34) hX dX12_lend_28 (by decide) (fun c13 => ?_) (fun c13 => ?_)
        · have h := h_E c13 h
          refine v_aload_n hX dX12_lend_34 0 rfl rfl ?_
          refine v_iload_n hX dX12_lend_35 1 rfl rfl ?_
          refine v_iload_n hX dX12_lend_36 2 rfl rfl ?_
          refine v_iconst (v := 2) hX dX12_lend_37 (by decide) ?_
          refine v_aload_n hX dX12_lend_38 0 rfl rfl ?_
          obtain ⟨k14, h⟩ := h
          refine v_getI hX dX12_lend_39 f_RX12_288 rfl k14 ?_
          refine v_callVi0 hX dX12_lend_42 c_RX12_546 cV_X12_allows (ci := 13) (T := TX12) (N := 115) rfl (by exact k14) [pI _, pI _, pI _, pI _] rfl rfl (Nat.le_of_ble_eq_true rfl) (by decide) (by decide)  (m_X12_allows h) (fun p16 s15 h => ?_)
          refine v_if_ne (tgt := 51) hX dX12_lend_45 (by decide) (fun c17 => ?_) (fun c17 => ?_)
          · have h := h_E c17 h
            refine v_aload_n hX dX12_lend_51 0 rfl rfl ?_
            obtain ⟨k18, h⟩ := h
            refine v_getI hX dX12_lend_52 f_RX12_537 rfl k18 ?_
            refine v_bipush (v := 20) hX dX12_lend_55 (by decide) ?_
            refine v_icmp_ne (tgt := 63) hX dX12_lend_57 (by decide) (fun c19 => ?_) (fun c19 => ?_)
            · have h := h_E c19 h
              refine v_aload_n hX dX12_lend_63 0 rfl rfl ?_
              refine v_aload_n hX dX12_lend_64 0 rfl rfl ?_
              refine v_getR hX dX12_lend_65 f_RX12_219 rfl k18 ?_
              refine v_iload_n hX dX12_lend_68 1 rfl rfl ?_
              obtain ⟨a20, e_a20, h⟩ := h
              refine v_nn1 e_a20 ?_
              obtain ⟨k21, h⟩ := h
              obtain ⟨i22, h⟩ := h
              refine v_iald hX dX12_lend_69 k21 i22 ?_
              refine v_bipush (v := 8) hX dX12_lend_70 (by decide) ?_
              refine v_iload_n hX dX12_lend_72 3 rfl rfl ?_
              refine v_iadd hX dX12_lend_73 ?_
              refine v_aload_n hX dX12_lend_74 0 rfl rfl ?_
              refine v_getR hX dX12_lend_75 f_RX12_225 rfl k18 ?_
              refine v_iload_n hX dX12_lend_78 1 rfl rfl ?_
              obtain ⟨a23, e_a23, h⟩ := h
              refine v_nn1 e_a23 ?_
              obtain ⟨k24, h⟩ := h
              obtain ⟨i25, h⟩ := h
              refine v_iald hX dX12_lend_79 k24 i25 ?_
              refine v_iconst (v := 3) hX dX12_lend_80 (by decide) ?_
              refine v_iand hX dX12_lend_81 ?_
              refine v_aload_n hX dX12_lend_82 0 rfl rfl ?_
              refine v_getR hX dX12_lend_83 f_RX12_228 rfl k18 ?_
              refine v_iload_n hX dX12_lend_86 1 rfl rfl ?_
              obtain ⟨a26, e_a26, h⟩ := h
              refine v_nn1 e_a26 ?_
              obtain ⟨k27, h⟩ := h
              obtain ⟨i28, h⟩ := h
              refine v_iald hX dX12_lend_87 k27 i28 ?_
              refine v_aload_n hX dX12_lend_88 0 rfl rfl ?_
              refine v_getR hX dX12_lend_89 f_RX12_231 rfl k18 ?_
              refine v_iload_n hX dX12_lend_92 1 rfl rfl ?_
              obtain ⟨a29, e_a29, h⟩ := h
              refine v_nn1 e_a29 ?_
              obtain ⟨k30, h⟩ := h
              obtain ⟨i31, h⟩ := h
              refine v_iald hX dX12_lend_93 k30 i31 ?_
              refine v_iload_n hX dX12_lend_94 1 rfl rfl ?_
              refine v_callVv0 hX dX12_lend_95 c_RX12_573 cV_X12_addRight (ci := 13) (T := TX12) (N := 115) rfl (by exact k18) [pI _, pI _, pI _, pI _, pI _, pI _] rfl rfl (Nat.le_of_ble_eq_true rfl) (by decide) (by decide)  (m_X12_addRight h) (fun s32 h => ?_)
              refine v_aload_n hX dX12_lend_98 0 rfl rfl ?_
              refine v_aload_n hX dX12_lend_99 0 rfl rfl ?_
              obtain ⟨k34, h⟩ := h
              refine v_getI hX dX12_lend_100 f_RX12_537 rfl k34 ?_
              refine v_iconst (v := 1) hX dX12_lend_103 (by decide) ?_
              refine v_isub hX dX12_lend_104 ?_
              refine v_callVi0 hX dX12_lend_105 c_RX12_302 cV_X12_acted (ci := 13) (T := TX12) (N := 115) rfl (by exact k34) [pI _] rfl rfl (Nat.le_of_ble_eq_true rfl) (by decide) (by decide)  (m_X12_acted h) (fun p36 s35 h => ?_)
              exact v_iret hX hE dX12_lend_108 h
            · have h := h_T c19 h
              refine v_bipush (v := -4) hX dX12_lend_60 (by decide) ?_
              exact v_iret hX hE dX12_lend_62 h
          · have h := h_T c17 h
            refine v_bipush (v := -3) hX dX12_lend_48 (by decide) ?_
            exact v_iret hX hE dX12_lend_50 h
        · have h := h_T c13 h
          refine v_bipush (v := -2) hX dX12_lend_31 (by decide) ?_
          exact v_iret hX hE dX12_lend_33 h
      · have h := h_E c12 h
        refine v_pick [] rfl ?_
        exact b_X12_lend_24 hX hE _ h
set_option maxRecDepth 100000 in
set_option maxHeartbeats 4000000 in
theorem b_X12_take_105 {X : h_X} (hX : h_ok X cX12_take 4 RX12 2 46) {Q : Int32 → h_S → Prop} (hE : h_end X (some .int) (h_QI (x_Z X) Q)) {K42 : Nat → Int32 → Int32 → h_S → Prop} (hK42 : ∀ (o0 : Nat) (x2 : Int32) (x3 : Int32) (s : h_S), K42 o0 x2 x3 s → h_V X 4 42 [(0, pR (some o0)), (2, pI x2), (3, pI x3)] [] s 0 0) {o0 : Nat} {x2 : Int32} {x3 : Int32} (s : h_S) (h : w_X12_take_105 Q K42 o0 x2 x3 s) : h_V X 4 105 [(0, pR (some o0)), (2, pI x2), (3, pI x3)] [] s 0 0 := by
  unfold w_X12_take_105 at h
  refine v_iinc (c := 1) (lv' := [(3, _), (0, _), (2, _)]) hX dX12_take_105 2 rfl (by decide) (by decide) rfl ?_
  refine v_goto (tgt := 42) hX dX12_take_108 (by decide) ?_
  refine v_pick [1, 2, 0] rfl ?_
  exact hK42 _ _ _ _ h
set_option maxRecDepth 100000 in
set_option maxHeartbeats 4000000 in
theorem b_X12_take_42 {X : h_X} (hX : h_ok X cX12_take 4 RX12 2 46) {Q : Int32 → h_S → Prop} (hE : h_end X (some .int) (h_QI (x_Z X) Q)) : ∀ (n : Nat) (o0 : Nat) (x2 : Int32) (x3 : Int32) (s : h_S), w_X12_take_42 Q n o0 x2 x3 s → h_V X 4 42 [(0, pR (some o0)), (2, pI x2), (3, pI x3)] [] s 0 0 := by
  intro n
  induction n with
  | zero => intro _ _ _ s h; exact h.elim
  | succ n hK42 =>
    intro o0 x2 x3 s h
    have h : w_X12_take_42b Q (w_X12_take_42 Q n) o0 x2 x3 s := h
    unfold w_X12_take_42b at h
    refine v_iload_n hX dX12_take_42 2 rfl rfl ?_
    refine v_aload_n hX dX12_take_43 0 rfl rfl ?_
    obtain ⟨k1, h⟩ := h
    refine v_getI hX dX12_take_44 f_RX12_537 rfl k1 ?_
    refine v_icmp_ge (tgt := 111) hX dX12_take_47 (by decide) (fun c2 => ?_) (fun c2 => ?_)
    · have h := h_T c2 h
      refine v_aload_n hX dX12_take_111 0 rfl rfl ?_
      refine v_iload_n hX dX12_take_112 1 rfl rfl ?_
      refine v_callVi0 hX dX12_take_113 c_RX12_302 cV_X12_acted (ci := 13) (T := TX12) (N := 115) rfl (by exact k1) [pI _] rfl rfl (Nat.le_of_ble_eq_true rfl) (by decide) (by decide)  (m_X12_acted h) (fun p4 s3 h => ?_)
      exact v_iret hX hE dX12_take_116 h
    · have h := h_E c2 h
      refine v_aload_n hX dX12_take_50 0 rfl rfl ?_
      refine v_getR hX dX12_take_51 f_RX12_234 rfl k1 ?_
      refine v_iload_n hX dX12_take_54 2 rfl rfl ?_
      obtain ⟨a5, e_a5, h⟩ := h
      refine v_nn1 e_a5 ?_
      obtain ⟨k6, h⟩ := h
      obtain ⟨i7, h⟩ := h
      refine v_iald hX dX12_take_55 k6 i7 ?_
      refine v_if_lt (tgt := 105) hX dX12_take_56 (by decide) (fun c8 => ?_) (fun c8 => ?_)
      · have h := h_T c8 h
        refine v_pick [0, 1, 2] rfl ?_
        exact b_X12_take_105 hX hE hK42 _ h
      · have h := h_E c8 h
        refine v_aload_n hX dX12_take_59 0 rfl rfl ?_
        refine v_getR hX dX12_take_60 f_RX12_240 rfl k1 ?_
        refine v_iload_n hX dX12_take_63 2 rfl rfl ?_
        obtain ⟨a9, e_a9, h⟩ := h
        refine v_nn1 e_a9 ?_
        obtain ⟨k10, h⟩ := h
        obtain ⟨i11, h⟩ := h
        refine v_iald hX dX12_take_64 k10 i11 ?_
        refine v_bipush (v := -9) hX dX12_take_65 (by decide) ?_
        refine v_icmp_ne (tgt := 105) hX dX12_take_67 (by decide) (fun c12 => ?_) (fun c12 => ?_)
        · have h := h_E c12 h
          refine v_pick [0, 1, 2] rfl ?_
          exact b_X12_take_105 hX hE hK42 _ h
        · have h := h_T c12 h
          refine v_aload_n hX dX12_take_70 0 rfl rfl ?_
          refine v_getR hX dX12_take_71 f_RX12_240 rfl k1 ?_
          refine v_aload_n hX dX12_take_74 0 rfl rfl ?_
          refine v_getR hX dX12_take_75 f_RX12_234 rfl k1 ?_
          refine v_iload_n hX dX12_take_78 2 rfl rfl ?_
          obtain ⟨a13, e_a13, h⟩ := h
          refine v_nn1 e_a13 ?_
          obtain ⟨k14, h⟩ := h
          obtain ⟨i15, h⟩ := h
          refine v_iald hX dX12_take_79 k14 i15 ?_
          obtain ⟨a16, e_a16, h⟩ := h
          refine v_nn1 e_a16 ?_
          obtain ⟨k17, h⟩ := h
          obtain ⟨i18, h⟩ := h
          refine v_iald hX dX12_take_80 k17 i18 ?_
          refine v_aload_n hX dX12_take_81 0 rfl rfl ?_
          refine v_getI hX dX12_take_82 f_RX12_288 rfl k1 ?_
          refine v_iconst (v := 1) hX dX12_take_85 (by decide) ?_
          refine v_iadd hX dX12_take_86 ?_
          refine v_icmp_ne (tgt := 105) hX dX12_take_87 (by decide) (fun c19 => ?_) (fun c19 => ?_)
          · have h := h_E c19 h
            refine v_pick [0, 1, 2] rfl ?_
            exact b_X12_take_105 hX hE hK42 _ h
          · have h := h_T c19 h
            refine v_aload_n hX dX12_take_90 0 rfl rfl ?_
            refine v_getR hX dX12_take_91 f_RX12_240 rfl k1 ?_
            refine v_iload_n hX dX12_take_94 2 rfl rfl ?_
            refine v_aload_n hX dX12_take_95 0 rfl rfl ?_
            refine v_getI hX dX12_take_96 f_RX12_288 rfl k1 ?_
            refine v_iconst (v := 1) hX dX12_take_99 (by decide) ?_
            refine v_iadd hX dX12_take_100 ?_
            obtain ⟨a20, e_a20, h⟩ := h
            refine v_nn2 e_a20 ?_
            obtain ⟨k21, h⟩ := h
            obtain ⟨i22, h⟩ := h
            refine v_iast hX dX12_take_101 k21 i22 ?_
            refine v_iinc (c := 1) (lv' := [(2, _), (0, _), (3, _)]) hX dX12_take_102 1 rfl (by decide) (by decide) rfl ?_
            refine v_pick [1, 0, 2] rfl ?_
            exact b_X12_take_105 hX hE hK42 _ h
set_option maxRecDepth 100000 in
set_option maxHeartbeats 4000000 in
theorem m_X12_take {Z : h_Z} {o0 : Nat} {x1 : Int32} {s : h_S} {Q : Int32 → h_S → Prop} (h : w_X12_take o0 x1 s Q) : h_M Z yX12_take cX12_take 4 (some .int) 2 46 [pR (some o0), pI x1] s 0 0 (h_QI Z Q) := by
  refine h_M.of (by decide) (Nat.le_of_ble_eq_true rfl) (fun X hZ hX hE hI => ?_)
  subst hZ
  unfold w_X12_take at h
  show h_V X 4 0 [(0, pR (some o0)), (1, pI x1)] [] s 0 0
  refine v_aload_n hX dX12_take_0 0 rfl rfl ?_
  refine v_iload_n hX dX12_take_1 1 rfl rfl ?_
  obtain ⟨k1, h⟩ := h
  refine v_callVi0 hX dX12_take_2 c_RX12_576 cV_X12_noRight (ci := 13) (T := TX12) (N := 115) rfl (by exact k1) [pI _] rfl rfl (Nat.le_of_ble_eq_true rfl) (by decide) (by decide)  (m_X12_noRight h) (fun p3 s2 h => ?_)
  refine v_if_eq (tgt := 10) hX dX12_take_5 (by decide) (fun c4 => ?_) (fun c4 => ?_)
  · have h := h_T c4 h
    refine v_aload_n hX dX12_take_10 0 rfl rfl ?_
    obtain ⟨k5, h⟩ := h
    refine v_getR hX dX12_take_11 f_RX12_240 rfl k5 ?_
    refine v_iload_n hX dX12_take_14 1 rfl rfl ?_
    obtain ⟨a6, e_a6, h⟩ := h
    refine v_nn1 e_a6 ?_
    obtain ⟨k7, h⟩ := h
    obtain ⟨i8, h⟩ := h
    refine v_iald hX dX12_take_15 k7 i8 ?_
    refine v_bipush (v := -9) hX dX12_take_16 (by decide) ?_
    refine v_icmp_eq (tgt := 24) hX dX12_take_18 (by decide) (fun c9 => ?_) (fun c9 => ?_)
    · have h := h_T c9 h
      refine v_iconst (v := 1) hX dX12_take_24 (by decide) ?_
      refine v_istore_n (lv' := [(2, _), (0, _), (1, _)]) hX dX12_take_25 rfl (by decide) rfl ?_
      refine v_aload_n hX dX12_take_26 1 rfl rfl ?_
      refine v_getR hX dX12_take_27 f_RX12_240 rfl k5 ?_
      refine v_iload_n hX dX12_take_30 2 rfl rfl ?_
      refine v_aload_n hX dX12_take_31 1 rfl rfl ?_
      refine v_getI hX dX12_take_32 f_RX12_288 rfl k5 ?_
      refine v_iconst (v := 1) hX dX12_take_35 (by decide) ?_
      refine v_iadd hX dX12_take_36 ?_
      obtain ⟨a10, e_a10, h⟩ := h
      refine v_nn2 e_a10 ?_
      obtain ⟨k11, h⟩ := h
      obtain ⟨i12, h⟩ := h
      refine v_iast hX dX12_take_37 k11 i12 ?_
      refine v_iload_n hX dX12_take_38 2 rfl rfl ?_
      refine v_iconst (v := 1) hX dX12_take_39 (by decide) ?_
      refine v_iadd hX dX12_take_40 ?_
      refine v_istore_n (lv' := [(3, _), (2, _), (0, _), (1, _)]) hX dX12_take_41 rfl (by decide) rfl ?_
      refine v_pick [2, 1, 0] rfl ?_
      obtain ⟨n, h⟩ := h
      exact b_X12_take_42 hX hE n _ _ _ _ h
    · have h := h_E c9 h
      refine v_bipush (v := -3) hX dX12_take_21 (by decide) ?_
      exact v_iret hX hE dX12_take_23 h
  · have h := h_E c4 h
    refine v_iconst (v := -1) hX dX12_take_8 (by decide) ?_
    exact v_iret hX hE dX12_take_9 h
set_option maxRecDepth 100000 in
set_option maxHeartbeats 4000000 in
theorem b_X12_ofRight_110 {X : h_X} (hX : h_ok X cX12_ofRight 3 RX12 2 46) {Q : Int32 → h_S → Prop} (hE : h_end X (some .int) (h_QI (x_Z X) Q)) {y0 : Int32} (s : h_S) (h : w_X12_ofRight_110 Q y0 s) : h_V X 3 110 [] [pI y0] s 0 0 := by
  unfold w_X12_ofRight_110 at h
  exact v_iret hX hE dX12_ofRight_110 h
set_option maxRecDepth 100000 in
set_option maxHeartbeats 4000000 in
theorem m_X12_ofRight {Z : h_Z} {o0 : Nat} {x1 : Int32} {x2 : Int32} {s : h_S} {Q : Int32 → h_S → Prop} (h : w_X12_ofRight o0 x1 x2 s Q) : h_M Z yX12_ofRight cX12_ofRight 3 (some .int) 2 46 [pR (some o0), pI x1, pI x2] s 0 0 (h_QI Z Q) := by
  refine h_M.of (by decide) (Nat.le_of_ble_eq_true rfl) (fun X hZ hX hE hI => ?_)
  subst hZ
  unfold w_X12_ofRight at h
  show h_V X 3 0 [(0, pR (some o0)), (1, pI x1), (2, pI x2)] [] s 0 0
  refine v_aload_n hX dX12_ofRight_0 0 rfl rfl ?_
  refine v_iload_n hX dX12_ofRight_1 1 rfl rfl ?_
  obtain ⟨k1, h⟩ := h
  refine v_callVi0 hX dX12_ofRight_2 c_RX12_576 cV_X12_noRight (ci := 13) (T := TX12) (N := 115) rfl (by exact k1) [pI _] rfl rfl (Nat.le_of_ble_eq_true rfl) (by decide) (by decide)  (m_X12_noRight h) (fun p3 s2 h => ?_)
  refine v_if_eq (tgt := 10) hX dX12_ofRight_5 (by decide) (fun c4 => ?_) (fun c4 => ?_)
  · have h := h_T c4 h
    refine v_iload_n hX dX12_ofRight_10 2 rfl rfl ?_
    refine v_gen (fun q41 e_q41 => ?_)
    rw [← e_q41] at h
    by_cases c5 : q41 = (0 : Int32)
    · have h := h_T c5 h
      refine v_tabIn (tgt := 52) hX dX12_ofRight_11 (by rw [c5]; decide) (by rw [c5]; decide) (by rw [c5]; rfl) (by decide) ?_
      refine v_aload_n hX dX12_ofRight_52 0 rfl rfl ?_
      obtain ⟨k6, h⟩ := h
      refine v_getR hX dX12_ofRight_53 f_RX12_219 rfl k6 ?_
      refine v_iload_n hX dX12_ofRight_56 1 rfl rfl ?_
      obtain ⟨a7, e_a7, h⟩ := h
      refine v_nn1 e_a7 ?_
      obtain ⟨k8, h⟩ := h
      obtain ⟨i9, h⟩ := h
      refine v_iald hX dX12_ofRight_57 k8 i9 ?_
      exact v_iret hX hE dX12_ofRight_58 h
    · have h := h_E c5 h
      by_cases c10 : q41 = (1 : Int32)
      · have h := h_T c10 h
        refine v_tabIn (tgt := 59) hX dX12_ofRight_11 (by rw [c10]; decide) (by rw [c10]; decide) (by rw [c10]; rfl) (by decide) ?_
        refine v_aload_n hX dX12_ofRight_59 0 rfl rfl ?_
        obtain ⟨k11, h⟩ := h
        refine v_getR hX dX12_ofRight_60 f_RX12_222 rfl k11 ?_
        refine v_iload_n hX dX12_ofRight_63 1 rfl rfl ?_
        obtain ⟨a12, e_a12, h⟩ := h
        refine v_nn1 e_a12 ?_
        obtain ⟨k13, h⟩ := h
        obtain ⟨i14, h⟩ := h
        refine v_iald hX dX12_ofRight_64 k13 i14 ?_
        exact v_iret hX hE dX12_ofRight_65 h
      · have h := h_E c10 h
        by_cases c15 : q41 = (2 : Int32)
        · have h := h_T c15 h
          refine v_tabIn (tgt := 66) hX dX12_ofRight_11 (by rw [c15]; decide) (by rw [c15]; decide) (by rw [c15]; rfl) (by decide) ?_
          refine v_aload_n hX dX12_ofRight_66 0 rfl rfl ?_
          obtain ⟨k16, h⟩ := h
          refine v_getR hX dX12_ofRight_67 f_RX12_225 rfl k16 ?_
          refine v_iload_n hX dX12_ofRight_70 1 rfl rfl ?_
          obtain ⟨a17, e_a17, h⟩ := h
          refine v_nn1 e_a17 ?_
          obtain ⟨k18, h⟩ := h
          obtain ⟨i19, h⟩ := h
          refine v_iald hX dX12_ofRight_71 k18 i19 ?_
          exact v_iret hX hE dX12_ofRight_72 h
        · have h := h_E c15 h
          by_cases c20 : q41 = (3 : Int32)
          · have h := h_T c20 h
            refine v_tabIn (tgt := 73) hX dX12_ofRight_11 (by rw [c20]; decide) (by rw [c20]; decide) (by rw [c20]; rfl) (by decide) ?_
            refine v_aload_n hX dX12_ofRight_73 0 rfl rfl ?_
            obtain ⟨k21, h⟩ := h
            refine v_getR hX dX12_ofRight_74 f_RX12_228 rfl k21 ?_
            refine v_iload_n hX dX12_ofRight_77 1 rfl rfl ?_
            obtain ⟨a22, e_a22, h⟩ := h
            refine v_nn1 e_a22 ?_
            obtain ⟨k23, h⟩ := h
            obtain ⟨i24, h⟩ := h
            refine v_iald hX dX12_ofRight_78 k23 i24 ?_
            exact v_iret hX hE dX12_ofRight_79 h
          · have h := h_E c20 h
            by_cases c25 : q41 = (4 : Int32)
            · have h := h_T c25 h
              refine v_tabIn (tgt := 80) hX dX12_ofRight_11 (by rw [c25]; decide) (by rw [c25]; decide) (by rw [c25]; rfl) (by decide) ?_
              refine v_aload_n hX dX12_ofRight_80 0 rfl rfl ?_
              obtain ⟨k26, h⟩ := h
              refine v_getR hX dX12_ofRight_81 f_RX12_231 rfl k26 ?_
              refine v_iload_n hX dX12_ofRight_84 1 rfl rfl ?_
              obtain ⟨a27, e_a27, h⟩ := h
              refine v_nn1 e_a27 ?_
              obtain ⟨k28, h⟩ := h
              obtain ⟨i29, h⟩ := h
              refine v_iald hX dX12_ofRight_85 k28 i29 ?_
              exact v_iret hX hE dX12_ofRight_86 h
            · have h := h_E c25 h
              by_cases c30 : q41 = (5 : Int32)
              · have h := h_T c30 h
                refine v_tabIn (tgt := 87) hX dX12_ofRight_11 (by rw [c30]; decide) (by rw [c30]; decide) (by rw [c30]; rfl) (by decide) ?_
                refine v_aload_n hX dX12_ofRight_87 0 rfl rfl ?_
                obtain ⟨k31, h⟩ := h
                refine v_getR hX dX12_ofRight_88 f_RX12_234 rfl k31 ?_
                refine v_iload_n hX dX12_ofRight_91 1 rfl rfl ?_
                obtain ⟨a32, e_a32, h⟩ := h
                refine v_nn1 e_a32 ?_
                obtain ⟨k33, h⟩ := h
                obtain ⟨i34, h⟩ := h
                refine v_iald hX dX12_ofRight_92 k33 i34 ?_
                exact v_iret hX hE dX12_ofRight_93 h
              · have h := h_E c30 h
                by_cases c35 : q41 = (6 : Int32)
                · have h := h_T c35 h
                  refine v_tabIn (tgt := 94) hX dX12_ofRight_11 (by rw [c35]; decide) (by rw [c35]; decide) (by rw [c35]; rfl) (by decide) ?_
                  refine v_aload_n hX dX12_ofRight_94 0 rfl rfl ?_
                  obtain ⟨k36, h⟩ := h
                  refine v_getR hX dX12_ofRight_95 f_RX12_240 rfl k36 ?_
                  refine v_iload_n hX dX12_ofRight_98 1 rfl rfl ?_
                  obtain ⟨a37, e_a37, h⟩ := h
                  refine v_nn1 e_a37 ?_
                  obtain ⟨k38, h⟩ := h
                  obtain ⟨i39, h⟩ := h
                  refine v_iald hX dX12_ofRight_99 k38 i39 ?_
                  refine v_bipush (v := -9) hX dX12_ofRight_100 (by decide) ?_
                  refine v_icmp_ne (tgt := 109) hX dX12_ofRight_102 (by decide) (fun c40 => ?_) (fun c40 => ?_)
                  · have h := h_E c40 h
                    refine v_iconst (v := 0) hX dX12_ofRight_109 (by decide) ?_
                    refine v_pick [] rfl ?_
                    exact b_X12_ofRight_110 hX hE _ h
                  · have h := h_T c40 h
                    refine v_iconst (v := 1) hX dX12_ofRight_105 (by decide) ?_
                    refine v_goto (tgt := 110) hX dX12_ofRight_106 (by decide) ?_
                    refine v_pick [] rfl ?_
                    exact b_X12_ofRight_110 hX hE _ h
                · have h := h_E c35 h
                  refine v_tabOut (tgt := 111) hX dX12_ofRight_11 (by have := h_ti c5 (n := 0) rfl; have := h_ti c10 (n := 1) rfl; have := h_ti c15 (n := 2) rfl; have := h_ti c20 (n := 3) rfl; have := h_ti c25 (n := 4) rfl; have := h_ti c30 (n := 5) rfl; have := h_ti c35 (n := 6) rfl; omega) (by decide) ?_
                  refine v_bipush (v := -2) hX dX12_ofRight_111 (by decide) ?_
                  exact v_iret hX hE dX12_ofRight_113 h
  · have h := h_E c4 h
    refine v_iconst (v := -1) hX dX12_ofRight_8 (by decide) ?_
    exact v_iret hX hE dX12_ofRight_9 h
set_option maxRecDepth 100000 in
set_option maxHeartbeats 4000000 in
theorem b_X12_why_25 {X : h_X} (hX : h_ok X cX12_why 5 RX12 3 76) {Q : Int32 → h_S → Prop} (hE : h_end X (some .int) (h_QI (x_Z X) Q)) (s : h_S) (h : w_X12_why_25 Q s) : h_V X 5 25 [] [] s 0 0 := by
  unfold w_X12_why_25 at h
  refine v_iconst (v := -1) hX dX12_why_25 (by decide) ?_
  exact v_iret hX hE dX12_why_26 h
set_option maxRecDepth 100000 in
set_option maxHeartbeats 4000000 in
theorem b_X12_why_53 {X : h_X} (hX : h_ok X cX12_why 5 RX12 3 76) {Q : Int32 → h_S → Prop} (hE : h_end X (some .int) (h_QI (x_Z X) Q)) {y0 : Int32} (s : h_S) (h : w_X12_why_53 Q y0 s) : h_V X 5 53 [] [pI y0] s 0 0 := by
  unfold w_X12_why_53 at h
  exact v_iret hX hE dX12_why_53 h
set_option maxRecDepth 100000 in
set_option maxHeartbeats 4000000 in
theorem m_X12_why {Z : h_Z} {o0 : Nat} {x1 : Int32} {x2 : Int32} {x3 : Int32} {x4 : Int32} {s : h_S} {Q : Int32 → h_S → Prop} (h : w_X12_why o0 x1 x2 x3 x4 s Q) : h_M Z yX12_why cX12_why 5 (some .int) 3 76 [pR (some o0), pI x1, pI x2, pI x3, pI x4] s 0 0 (h_QI Z Q) := by
  refine h_M.of (by decide) (Nat.le_of_ble_eq_true rfl) (fun X hZ hX hE hI => ?_)
  subst hZ
  unfold w_X12_why at h
  show h_V X 5 0 [(0, pR (some o0)), (1, pI x1), (2, pI x2), (3, pI x3), (4, pI x4)] [] s 0 0
  refine v_aload_n hX dX12_why_0 0 rfl rfl ?_
  refine v_iload_n hX dX12_why_1 1 rfl rfl ?_
  obtain ⟨k1, h⟩ := h
  refine v_callVi0 hX dX12_why_2 c_RX12_317 cV_X12_noHand (ci := 13) (T := TX12) (N := 115) rfl (by exact k1) [pI _] rfl rfl (Nat.le_of_ble_eq_true rfl) (by decide) (by decide)  (m_X12_noHand h) (fun p3 s2 h => ?_)
  refine v_if_ne (tgt := 25) hX dX12_why_5 (by decide) (fun c4 => ?_) (fun c4 => ?_)
  · have h := h_E c4 h
    refine v_pick [] rfl ?_
    exact b_X12_why_25 hX hE _ h
  · have h := h_T c4 h
    refine v_aload_n hX dX12_why_8 0 rfl rfl ?_
    refine v_iload_n hX dX12_why_9 2 rfl rfl ?_
    obtain ⟨k5, h⟩ := h
    refine v_callVi0 hX dX12_why_10 c_RX12_379 cV_X12_noWriting (ci := 13) (T := TX12) (N := 115) rfl (by exact k5) [pI _] rfl rfl (Nat.le_of_ble_eq_true rfl) (by decide) (by decide)  (m_X12_noWriting h) (fun p7 s6 h => ?_)
    refine v_if_ne (tgt := 25) hX dX12_why_13 (by decide) (fun c8 => ?_) (fun c8 => ?_)
    · have h := h_E c8 h
      refine v_pick [] rfl ?_
      exact b_X12_why_25 hX hE _ h
    · have h := h_T c8 h
      refine v_aload_n hX dX12_why_16 0 rfl rfl ?_
      refine v_iload hX dX12_why_17 4 rfl ?_
      obtain ⟨k9, h⟩ := h
      refine v_callVi0 hX dX12_why_19 c_RX12_425 cV_X12_noMoment (ci := 13) (T := TX12) (N := 115) rfl (by exact k9) [pI _] rfl rfl (Nat.le_of_ble_eq_true rfl) (by decide) (by decide)  (m_X12_noMoment h) (fun p11 s10 h => ?_)
      refine v_if_eq (tgt := 27) hX dX12_why_22 (by decide) (fun c12 => ?_) (fun c12 => ?_)
      · have h := h_T c12 h
        refine v_iload_n hX dX12_why_27 3 rfl rfl ?_
        refine v_i2l hX dX12_why_28 ?_
        refine v_lconst (v := 0) hX dX12_why_29 (by decide) ?_
        refine v_ldc2 hX dX12_why_30 k_RX12_406 ?_
        refine v_callSi0 hX dX12_why_33 c_RX12_298 cS_X12_in [pL _, pL _, pL _] rfl rfl (Nat.le_of_ble_eq_true rfl) (by decide) (by decide)  (m_X12_in h) (fun p14 s13 h => ?_)
        refine v_if_eq (tgt := 51) hX dX12_why_36 (by decide) (fun c15 => ?_) (fun c15 => ?_)
        · have h := h_T c15 h
          refine v_bipush (v := -2) hX dX12_why_51 (by decide) ?_
          refine v_pick [] rfl ?_
          exact b_X12_why_53 hX hE _ h
        · have h := h_E c15 h
          refine v_aload_n hX dX12_why_39 0 rfl rfl ?_
          refine v_iload_n hX dX12_why_40 1 rfl rfl ?_
          refine v_iload_n hX dX12_why_41 2 rfl rfl ?_
          refine v_iload_n hX dX12_why_42 3 rfl rfl ?_
          refine v_iload hX dX12_why_43 4 rfl ?_
          obtain ⟨k16, h⟩ := h
          refine v_callVi0 hX dX12_why_45 c_RX12_415 cV_X12_whyOf (ci := 13) (T := TX12) (N := 115) rfl (by exact k16) [pI _, pI _, pI _, pI _] rfl rfl (Nat.le_of_ble_eq_true rfl) (by decide) (by decide)  (m_X12_whyOf h) (fun p18 s17 h => ?_)
          refine v_goto (tgt := 53) hX dX12_why_48 (by decide) ?_
          refine v_pick [] rfl ?_
          exact b_X12_why_53 hX hE _ h
      · have h := h_E c12 h
        refine v_pick [] rfl ?_
        exact b_X12_why_25 hX hE _ h
set_option maxRecDepth 100000 in
set_option maxHeartbeats 4000000 in
theorem b_X12_may_33 {X : h_X} (hX : h_ok X cX12_may 6 RX12 4 100) {Q : Int32 → h_S → Prop} (hE : h_end X (some .int) (h_QI (x_Z X) Q)) {y0 : Int32} (s : h_S) (h : w_X12_may_33 Q y0 s) : h_V X 6 33 [] [pI y0] s 0 0 := by
  unfold w_X12_may_33 at h
  exact v_iret hX hE dX12_may_33 h
set_option maxRecDepth 100000 in
set_option maxHeartbeats 4000000 in
theorem m_X12_may {Z : h_Z} {o0 : Nat} {x1 : Int32} {x2 : Int32} {x3 : Int32} {x4 : Int32} {s : h_S} {Q : Int32 → h_S → Prop} (h : w_X12_may o0 x1 x2 x3 x4 s Q) : h_M Z yX12_may cX12_may 6 (some .int) 4 100 [pR (some o0), pI x1, pI x2, pI x3, pI x4] s 0 0 (h_QI Z Q) := by
  refine h_M.of (by decide) (Nat.le_of_ble_eq_true rfl) (fun X hZ hX hE hI => ?_)
  subst hZ
  unfold w_X12_may at h
  show h_V X 6 0 [(0, pR (some o0)), (1, pI x1), (2, pI x2), (3, pI x3), (4, pI x4)] [] s 0 0
  refine v_aload_n hX dX12_may_0 0 rfl rfl ?_
  refine v_iload_n hX dX12_may_1 1 rfl rfl ?_
  refine v_iload_n hX dX12_may_2 2 rfl rfl ?_
  refine v_iload_n hX dX12_may_3 3 rfl rfl ?_
  refine v_iload hX dX12_may_4 4 rfl ?_
  obtain ⟨k1, h⟩ := h
  refine v_callVi0 hX dX12_may_6 c_RX12_579 cV_X12_why (ci := 13) (T := TX12) (N := 115) rfl (by exact k1) [pI _, pI _, pI _, pI _] rfl rfl (Nat.le_of_ble_eq_true rfl) (by decide) (by decide)  (m_X12_why h) (fun p3 s2 h => ?_)
  refine v_istore (lv' := [(5, _), (0, _), (1, _), (2, _), (3, _), (4, _)]) hX dX12_may_9 (by decide) rfl ?_
  refine v_iload hX dX12_may_11 0 rfl ?_
  refine v_bipush (v := -9) hX dX12_may_13 (by decide) ?_
  refine v_icmp_ne (tgt := 22) hX dX12_may_15 (by decide) (fun c4 => ?_) (fun c4 => ?_)
  · have h := h_E c4 h
    refine v_iload hX dX12_may_22 0 rfl ?_
    refine v_if_ge (tgt := 32) hX dX12_may_24 (by decide) (fun c5 => ?_) (fun c5 => ?_)
    · have h := h_T c5 h
      refine v_iconst (v := 1) hX dX12_may_32 (by decide) ?_
      refine v_pick [] rfl ?_
      exact b_X12_may_33 hX hE _ h
    · have h := h_E c5 h
      refine v_iload hX dX12_may_27 0 rfl ?_
      refine v_goto (tgt := 33) hX dX12_may_29 (by decide) ?_
      refine v_pick [] rfl ?_
      exact b_X12_may_33 hX hE _ h
  · have h := h_T c4 h
    refine v_iconst (v := 0) hX dX12_may_18 (by decide) ?_
    refine v_goto (tgt := 33) hX dX12_may_19 (by decide) ?_
    refine v_pick [] rfl ?_
    exact b_X12_may_33 hX hE _ h
set_option maxRecDepth 100000 in
set_option maxHeartbeats 4000000 in
theorem b_X12_isOpen_88 {X : h_X} (hX : h_ok X cX12_isOpen 6 RX12 3 76) {Q : Int32 → h_S → Prop} (hE : h_end X (some .boolean) (h_QI (x_Z X) Q)) {y0 : Int32} (s : h_S) (h : w_X12_isOpen_88 Q y0 s) : h_V X 6 88 [] [pI y0] s 0 0 := by
  unfold w_X12_isOpen_88 at h
  exact v_zret hX hE dX12_isOpen_88 h.1 h.2
set_option maxRecDepth 100000 in
set_option maxHeartbeats 4000000 in
theorem b_X12_isOpen_83 {X : h_X} (hX : h_ok X cX12_isOpen 6 RX12 3 76) {Q : Int32 → h_S → Prop} (hE : h_end X (some .boolean) (h_QI (x_Z X) Q)) (s : h_S) (h : w_X12_isOpen_83 Q s) : h_V X 6 83 [] [] s 0 0 := by
  unfold w_X12_isOpen_83 at h
  refine v_iconst (v := 1) hX dX12_isOpen_83 (by decide) ?_
  refine v_goto (tgt := 88) hX dX12_isOpen_84 (by decide) ?_
  refine v_pick [] rfl ?_
  exact b_X12_isOpen_88 hX hE _ h
set_option maxRecDepth 100000 in
set_option maxHeartbeats 4000000 in
theorem b_X12_isOpen_87 {X : h_X} (hX : h_ok X cX12_isOpen 6 RX12 3 76) {Q : Int32 → h_S → Prop} (hE : h_end X (some .boolean) (h_QI (x_Z X) Q)) (s : h_S) (h : w_X12_isOpen_87 Q s) : h_V X 6 87 [] [] s 0 0 := by
  unfold w_X12_isOpen_87 at h
  refine v_iconst (v := 0) hX dX12_isOpen_87 (by decide) ?_
  refine v_pick [] rfl ?_
  exact b_X12_isOpen_88 hX hE _ h
set_option maxRecDepth 100000 in
set_option maxHeartbeats 4000000 in
theorem b_X12_isOpen_51 {X : h_X} (hX : h_ok X cX12_isOpen 6 RX12 3 76) {Q : Int32 → h_S → Prop} (hE : h_end X (some .boolean) (h_QI (x_Z X) Q)) {o0 : Nat} {x1 : Int32} {x3 : Int32} {x4 : Int32} {y0 : Int32} (s : h_S) (h : w_X12_isOpen_51 Q o0 x1 x3 x4 y0 s) : h_V X 6 51 [(0, pR (some o0)), (1, pI x1), (3, pI x3), (4, pI x4)] [pI y0] s 0 0 := by
  unfold w_X12_isOpen_51 at h
  refine v_istore (lv' := [(5, _), (0, _), (1, _), (3, _), (4, _)]) hX dX12_isOpen_51 (by decide) rfl ?_
  refine v_aload_n hX dX12_isOpen_53 1 rfl rfl ?_
  obtain ⟨k1, h⟩ := h
  refine v_getR hX dX12_isOpen_54 f_RX12_22 rfl k1 ?_
  refine v_iload hX dX12_isOpen_57 4 rfl ?_
  obtain ⟨a2, e_a2, h⟩ := h
  refine v_nn1 e_a2 ?_
  obtain ⟨k3, h⟩ := h
  obtain ⟨i4, h⟩ := h
  refine v_iald hX dX12_isOpen_59 k3 i4 ?_
  refine v_iload_n hX dX12_isOpen_60 2 rfl rfl ?_
  refine v_icmp_eq (tgt := 83) hX dX12_isOpen_61 (by decide) (fun c5 => ?_) (fun c5 => ?_)
  · have h := h_T c5 h
    refine v_pick [] rfl ?_
    exact b_X12_isOpen_83 hX hE _ h
  · have h := h_E c5 h
    refine v_iload hX dX12_isOpen_64 0 rfl ?_
    refine v_if_eq (tgt := 87) hX dX12_isOpen_66 (by decide) (fun c6 => ?_) (fun c6 => ?_)
    · have h := h_T c6 h
      refine v_pick [] rfl ?_
      exact b_X12_isOpen_87 hX hE _ h
    · have h := h_E c6 h
      refine v_aload_n hX dX12_isOpen_69 1 rfl rfl ?_
      refine v_iload_n hX dX12_isOpen_70 2 rfl rfl ?_
      refine v_iload hX dX12_isOpen_71 4 rfl ?_
      refine v_iconst (v := 0) hX dX12_isOpen_73 (by decide) ?_
      refine v_iload_n hX dX12_isOpen_74 3 rfl rfl ?_
      refine v_callVi0 hX dX12_isOpen_75 c_RX12_415 cV_X12_whyOf (ci := 13) (T := TX12) (N := 115) rfl (by exact k1) [pI _, pI _, pI _, pI _] rfl rfl (Nat.le_of_ble_eq_true rfl) (by decide) (by decide)  (m_X12_whyOf h) (fun p8 s7 h => ?_)
      refine v_bipush (v := -9) hX dX12_isOpen_78 (by decide) ?_
      refine v_icmp_eq (tgt := 87) hX dX12_isOpen_80 (by decide) (fun c9 => ?_) (fun c9 => ?_)
      · have h := h_T c9 h
        refine v_pick [] rfl ?_
        exact b_X12_isOpen_87 hX hE _ h
      · have h := h_E c9 h
        refine v_pick [] rfl ?_
        exact b_X12_isOpen_83 hX hE _ h
set_option maxRecDepth 100000 in
set_option maxHeartbeats 4000000 in
theorem b_X12_isOpen_46 {X : h_X} (hX : h_ok X cX12_isOpen 6 RX12 3 76) {Q : Int32 → h_S → Prop} (hE : h_end X (some .boolean) (h_QI (x_Z X) Q)) {o0 : Nat} {x1 : Int32} {x3 : Int32} {x4 : Int32} (s : h_S) (h : w_X12_isOpen_46 Q o0 x1 x3 x4 s) : h_V X 6 46 [(0, pR (some o0)), (1, pI x1), (3, pI x3), (4, pI x4)] [] s 0 0 := by
  unfold w_X12_isOpen_46 at h
  refine v_iconst (v := 1) hX dX12_isOpen_46 (by decide) ?_
  refine v_goto (tgt := 51) hX dX12_isOpen_47 (by decide) ?_
  refine v_pick [0, 1, 2, 3] rfl ?_
  exact b_X12_isOpen_51 hX hE _ h
set_option maxRecDepth 100000 in
set_option maxHeartbeats 4000000 in
theorem b_X12_isOpen_50 {X : h_X} (hX : h_ok X cX12_isOpen 6 RX12 3 76) {Q : Int32 → h_S → Prop} (hE : h_end X (some .boolean) (h_QI (x_Z X) Q)) {o0 : Nat} {x1 : Int32} {x3 : Int32} {x4 : Int32} (s : h_S) (h : w_X12_isOpen_50 Q o0 x1 x3 x4 s) : h_V X 6 50 [(0, pR (some o0)), (1, pI x1), (3, pI x3), (4, pI x4)] [] s 0 0 := by
  unfold w_X12_isOpen_50 at h
  refine v_iconst (v := 0) hX dX12_isOpen_50 (by decide) ?_
  refine v_pick [0, 1, 2, 3] rfl ?_
  exact b_X12_isOpen_51 hX hE _ h
set_option maxRecDepth 100000 in
set_option maxHeartbeats 4000000 in
theorem m_X12_isOpen {Z : h_Z} {o0 : Nat} {x1 : Int32} {x2 : Int32} {x3 : Int32} {s : h_S} {Q : Int32 → h_S → Prop} (h : w_X12_isOpen o0 x1 x2 x3 s Q) : h_M Z yX12_isOpen cX12_isOpen 6 (some .boolean) 3 76 [pR (some o0), pI x1, pI x2, pI x3] s 0 0 (h_QI Z Q) := by
  refine h_M.of (by decide) (Nat.le_of_ble_eq_true rfl) (fun X hZ hX hE hI => ?_)
  subst hZ
  unfold w_X12_isOpen at h
  show h_V X 6 0 [(0, pR (some o0)), (1, pI x1), (2, pI x2), (3, pI x3)] [] s 0 0
  refine v_aload_n hX dX12_isOpen_0 0 rfl rfl ?_
  obtain ⟨k1, h⟩ := h
  refine v_getR hX dX12_isOpen_1 f_RX12_142 rfl k1 ?_
  refine v_iload_n hX dX12_isOpen_4 2 rfl rfl ?_
  obtain ⟨a2, e_a2, h⟩ := h
  refine v_nn1 e_a2 ?_
  obtain ⟨k3, h⟩ := h
  obtain ⟨i4, h⟩ := h
  refine v_iald hX dX12_isOpen_5 k3 i4 ?_
  refine v_istore (lv' := [(4, _), (0, _), (1, _), (2, _), (3, _)]) hX dX12_isOpen_6 (by decide) rfl ?_
  refine v_aload_n hX dX12_isOpen_8 1 rfl rfl ?_
  refine v_getR hX dX12_isOpen_9 f_RX12_148 rfl k1 ?_
  refine v_iload_n hX dX12_isOpen_12 3 rfl rfl ?_
  obtain ⟨a5, e_a5, h⟩ := h
  refine v_nn1 e_a5 ?_
  obtain ⟨k6, h⟩ := h
  obtain ⟨i7, h⟩ := h
  refine v_iald hX dX12_isOpen_13 k6 i7 ?_
  refine v_if_lt (tgt := 50) hX dX12_isOpen_14 (by decide) (fun c8 => ?_) (fun c8 => ?_)
  · have h := h_T c8 h
    refine v_pick [1, 2, 4, 0] rfl ?_
    exact b_X12_isOpen_50 hX hE _ h
  · have h := h_E c8 h
    refine v_aload_n hX dX12_isOpen_17 1 rfl rfl ?_
    refine v_getR hX dX12_isOpen_18 f_RX12_148 rfl k1 ?_
    refine v_iload_n hX dX12_isOpen_21 3 rfl rfl ?_
    obtain ⟨a9, e_a9, h⟩ := h
    refine v_nn1 e_a9 ?_
    obtain ⟨k10, h⟩ := h
    obtain ⟨i11, h⟩ := h
    refine v_iald hX dX12_isOpen_22 k10 i11 ?_
    refine v_iload_n hX dX12_isOpen_23 4 rfl rfl ?_
    refine v_icmp_gt (tgt := 50) hX dX12_isOpen_24 (by decide) (fun c12 => ?_) (fun c12 => ?_)
    · have h := h_T c12 h
      refine v_pick [1, 2, 4, 0] rfl ?_
      exact b_X12_isOpen_50 hX hE _ h
    · have h := h_E c12 h
      refine v_aload_n hX dX12_isOpen_27 1 rfl rfl ?_
      refine v_getR hX dX12_isOpen_28 f_RX12_151 rfl k1 ?_
      refine v_iload_n hX dX12_isOpen_31 3 rfl rfl ?_
      obtain ⟨a13, e_a13, h⟩ := h
      refine v_nn1 e_a13 ?_
      obtain ⟨k14, h⟩ := h
      obtain ⟨i15, h⟩ := h
      refine v_iald hX dX12_isOpen_32 k14 i15 ?_
      refine v_if_lt (tgt := 46) hX dX12_isOpen_33 (by decide) (fun c16 => ?_) (fun c16 => ?_)
      · have h := h_T c16 h
        refine v_pick [1, 2, 4, 0] rfl ?_
        exact b_X12_isOpen_46 hX hE _ h
      · have h := h_E c16 h
        refine v_aload_n hX dX12_isOpen_36 1 rfl rfl ?_
        refine v_getR hX dX12_isOpen_37 f_RX12_151 rfl k1 ?_
        refine v_iload_n hX dX12_isOpen_40 3 rfl rfl ?_
        obtain ⟨a17, e_a17, h⟩ := h
        refine v_nn1 e_a17 ?_
        obtain ⟨k18, h⟩ := h
        obtain ⟨i19, h⟩ := h
        refine v_iald hX dX12_isOpen_41 k18 i19 ?_
        refine v_iload_n hX dX12_isOpen_42 4 rfl rfl ?_
        refine v_icmp_le (tgt := 50) hX dX12_isOpen_43 (by decide) (fun c20 => ?_) (fun c20 => ?_)
        · have h := h_T c20 h
          refine v_pick [1, 2, 4, 0] rfl ?_
          exact b_X12_isOpen_50 hX hE _ h
        · have h := h_E c20 h
          refine v_pick [1, 2, 4, 0] rfl ?_
          exact b_X12_isOpen_46 hX hE _ h
set_option maxRecDepth 100000 in
set_option maxHeartbeats 4000000 in
theorem b_X12_isRead_29 {X : h_X} (hX : h_ok X cX12_isRead 4 RX12 3 76) {Q : Int32 → h_S → Prop} (hE : h_end X (some .boolean) (h_QI (x_Z X) Q)) {y0 : Int32} (s : h_S) (h : w_X12_isRead_29 Q y0 s) : h_V X 4 29 [] [pI y0] s 0 0 := by
  unfold w_X12_isRead_29 at h
  exact v_zret hX hE dX12_isRead_29 h.1 h.2
set_option maxRecDepth 100000 in
set_option maxHeartbeats 4000000 in
theorem b_X12_isRead_28 {X : h_X} (hX : h_ok X cX12_isRead 4 RX12 3 76) {Q : Int32 → h_S → Prop} (hE : h_end X (some .boolean) (h_QI (x_Z X) Q)) (s : h_S) (h : w_X12_isRead_28 Q s) : h_V X 4 28 [] [] s 0 0 := by
  unfold w_X12_isRead_28 at h
  refine v_iconst (v := 0) hX dX12_isRead_28 (by decide) ?_
  refine v_pick [] rfl ?_
  exact b_X12_isRead_29 hX hE _ h
set_option maxRecDepth 100000 in
set_option maxHeartbeats 4000000 in
theorem m_X12_isRead {Z : h_Z} {o0 : Nat} {x1 : Int32} {x2 : Int32} {x3 : Int32} {s : h_S} {Q : Int32 → h_S → Prop} (h : w_X12_isRead o0 x1 x2 x3 s Q) : h_M Z yX12_isRead cX12_isRead 4 (some .boolean) 3 76 [pR (some o0), pI x1, pI x2, pI x3] s 0 0 (h_QI Z Q) := by
  refine h_M.of (by decide) (Nat.le_of_ble_eq_true rfl) (fun X hZ hX hE hI => ?_)
  subst hZ
  unfold w_X12_isRead at h
  show h_V X 4 0 [(0, pR (some o0)), (1, pI x1), (2, pI x2), (3, pI x3)] [] s 0 0
  refine v_iload_n hX dX12_isRead_0 2 rfl rfl ?_
  refine v_bipush (v := -7) hX dX12_isRead_1 (by decide) ?_
  refine v_icmp_eq (tgt := 28) hX dX12_isRead_3 (by decide) (fun c1 => ?_) (fun c1 => ?_)
  · have h := h_T c1 h
    refine v_pick [] rfl ?_
    exact b_X12_isRead_28 hX hE _ h
  · have h := h_E c1 h
    refine v_aload_n hX dX12_isRead_6 0 rfl rfl ?_
    refine v_iload_n hX dX12_isRead_7 1 rfl rfl ?_
    refine v_aload_n hX dX12_isRead_8 0 rfl rfl ?_
    obtain ⟨k2, h⟩ := h
    refine v_getR hX dX12_isRead_9 f_RX12_61 rfl k2 ?_
    refine v_iload_n hX dX12_isRead_12 2 rfl rfl ?_
    obtain ⟨a3, e_a3, h⟩ := h
    refine v_nn1 e_a3 ?_
    obtain ⟨k4, h⟩ := h
    obtain ⟨i5, h⟩ := h
    refine v_iald hX dX12_isRead_13 k4 i5 ?_
    refine v_iconst (v := 0) hX dX12_isRead_14 (by decide) ?_
    refine v_iload_n hX dX12_isRead_15 3 rfl rfl ?_
    refine v_callVi0 hX dX12_isRead_16 c_RX12_415 cV_X12_whyOf (ci := 13) (T := TX12) (N := 115) rfl (by exact k2) [pI _, pI _, pI _, pI _] rfl rfl (Nat.le_of_ble_eq_true rfl) (by decide) (by decide)  (m_X12_whyOf h) (fun p7 s6 h => ?_)
    refine v_bipush (v := -9) hX dX12_isRead_19 (by decide) ?_
    refine v_icmp_eq (tgt := 28) hX dX12_isRead_21 (by decide) (fun c8 => ?_) (fun c8 => ?_)
    · have h := h_T c8 h
      refine v_pick [] rfl ?_
      exact b_X12_isRead_28 hX hE _ h
    · have h := h_E c8 h
      refine v_iconst (v := 1) hX dX12_isRead_24 (by decide) ?_
      refine v_goto (tgt := 29) hX dX12_isRead_25 (by decide) ?_
      refine v_pick [] rfl ?_
      exact b_X12_isRead_29 hX hE _ h
set_option maxRecDepth 100000 in
set_option maxHeartbeats 4000000 in
theorem b_X12_view_25 {X : h_X} (hX : h_ok X cX12_view 6 RX12 5 118) {Q : Int32 → h_S → Prop} (hE : h_end X (some .int) (h_QI (x_Z X) Q)) (s : h_S) (h : w_X12_view_25 Q s) : h_V X 6 25 [] [] s 0 0 := by
  unfold w_X12_view_25 at h
  refine v_iconst (v := -1) hX dX12_view_25 (by decide) ?_
  exact v_iret hX hE dX12_view_26 h
set_option maxRecDepth 100000 in
set_option maxHeartbeats 4000000 in
theorem b_X12_view_102 {X : h_X} (hX : h_ok X cX12_view 6 RX12 5 118) {Q : Int32 → h_S → Prop} (hE : h_end X (some .int) (h_QI (x_Z X) Q)) {y0 : Int32} (s : h_S) (h : w_X12_view_102 Q y0 s) : h_V X 6 102 [] [pI y0] s 0 0 := by
  unfold w_X12_view_102 at h
  exact v_iret hX hE dX12_view_102 h
set_option maxRecDepth 100000 in
set_option maxHeartbeats 4000000 in
theorem b_X12_view_100 {X : h_X} (hX : h_ok X cX12_view 6 RX12 5 118) {Q : Int32 → h_S → Prop} (hE : h_end X (some .int) (h_QI (x_Z X) Q)) (s : h_S) (h : w_X12_view_100 Q s) : h_V X 6 100 [] [] s 0 0 := by
  unfold w_X12_view_100 at h
  refine v_bipush (v := -7) hX dX12_view_100 (by decide) ?_
  refine v_pick [] rfl ?_
  exact b_X12_view_102 hX hE _ h
set_option maxRecDepth 100000 in
set_option maxHeartbeats 4000000 in
theorem m_X12_view {Z : h_Z} {o0 : Nat} {x1 : Int32} {x2 : Int32} {x3 : Int32} {x4 : Int32} {s : h_S} {Q : Int32 → h_S → Prop} (h : w_X12_view o0 x1 x2 x3 x4 s Q) : h_M Z yX12_view cX12_view 6 (some .int) 5 118 [pR (some o0), pI x1, pI x2, pI x3, pI x4] s 0 0 (h_QI Z Q) := by
  refine h_M.of (by decide) (Nat.le_of_ble_eq_true rfl) (fun X hZ hX hE hI => ?_)
  subst hZ
  unfold w_X12_view at h
  show h_V X 6 0 [(0, pR (some o0)), (1, pI x1), (2, pI x2), (3, pI x3), (4, pI x4)] [] s 0 0
  refine v_aload_n hX dX12_view_0 0 rfl rfl ?_
  refine v_iload_n hX dX12_view_1 1 rfl rfl ?_
  obtain ⟨k1, h⟩ := h
  refine v_callVi0 hX dX12_view_2 c_RX12_317 cV_X12_noHand (ci := 13) (T := TX12) (N := 115) rfl (by exact k1) [pI _] rfl rfl (Nat.le_of_ble_eq_true rfl) (by decide) (by decide)  (m_X12_noHand h) (fun p3 s2 h => ?_)
  refine v_if_ne (tgt := 25) hX dX12_view_5 (by decide) (fun c4 => ?_) (fun c4 => ?_)
  · have h := h_E c4 h
    refine v_pick [] rfl ?_
    exact b_X12_view_25 hX hE _ h
  · have h := h_T c4 h
    refine v_aload_n hX dX12_view_8 0 rfl rfl ?_
    refine v_iload_n hX dX12_view_9 2 rfl rfl ?_
    obtain ⟨k5, h⟩ := h
    refine v_callVi0 hX dX12_view_10 c_RX12_458 cV_X12_noVersion (ci := 13) (T := TX12) (N := 115) rfl (by exact k5) [pI _] rfl rfl (Nat.le_of_ble_eq_true rfl) (by decide) (by decide)  (m_X12_noVersion h) (fun p7 s6 h => ?_)
    refine v_if_ne (tgt := 25) hX dX12_view_13 (by decide) (fun c8 => ?_) (fun c8 => ?_)
    · have h := h_E c8 h
      refine v_pick [] rfl ?_
      exact b_X12_view_25 hX hE _ h
    · have h := h_T c8 h
      refine v_aload_n hX dX12_view_16 0 rfl rfl ?_
      refine v_iload hX dX12_view_17 4 rfl ?_
      obtain ⟨k9, h⟩ := h
      refine v_callVi0 hX dX12_view_19 c_RX12_425 cV_X12_noMoment (ci := 13) (T := TX12) (N := 115) rfl (by exact k9) [pI _] rfl rfl (Nat.le_of_ble_eq_true rfl) (by decide) (by decide)  (m_X12_noMoment h) (fun p11 s10 h => ?_)
      refine v_if_eq (tgt := 27) hX dX12_view_22 (by decide) (fun c12 => ?_) (fun c12 => ?_)
      · have h := h_T c12 h
        refine v_aload_n hX dX12_view_27 0 rfl rfl ?_
        refine v_iload_n hX dX12_view_28 2 rfl rfl ?_
        obtain ⟨k13, h⟩ := h
        refine v_callVv0 hX dX12_view_29 c_RX12_461 cV_X12_layVersion (ci := 13) (T := TX12) (N := 115) rfl (by exact k13) [pI _] rfl rfl (Nat.le_of_ble_eq_true rfl) (by decide) (by decide)  (m_X12_layVersion h) (fun s14 h => ?_)
        refine v_iload_n hX dX12_view_32 3 rfl rfl ?_
        refine v_i2l hX dX12_view_33 ?_
        refine v_lconst (v := 0) hX dX12_view_34 (by decide) ?_
        refine v_aload_n hX dX12_view_35 0 rfl rfl ?_
        obtain ⟨k16, h⟩ := h
        refine v_getI hX dX12_view_36 f_RX12_342 rfl k16 ?_
        refine v_i2l hX dX12_view_39 ?_
        refine v_lconst (v := 1) hX dX12_view_40 (by decide) ?_
        refine v_lsub hX dX12_view_41 ?_
        refine v_callSi0 hX dX12_view_42 c_RX12_298 cS_X12_in [pL _, pL _, pL _] rfl rfl (Nat.le_of_ble_eq_true rfl) (by decide) (by decide)  (m_X12_in h) (fun p18 s17 h => ?_)
        refine v_if_ne (tgt := 50) hX dX12_view_45 (by decide) (fun c19 => ?_) (fun c19 => ?_)
        · have h := h_E c19 h
          refine v_iload hX dX12_view_50 4 rfl ?_
          refine v_aload_n hX dX12_view_52 0 rfl rfl ?_
          obtain ⟨k20, h⟩ := h
          refine v_getR hX dX12_view_53 f_RX12_145 rfl k20 ?_
          refine v_iload_n hX dX12_view_56 2 rfl rfl ?_
          obtain ⟨a21, e_a21, h⟩ := h
          refine v_nn1 e_a21 ?_
          obtain ⟨k22, h⟩ := h
          obtain ⟨i23, h⟩ := h
          refine v_iald hX dX12_view_57 k22 i23 ?_
          refine v_icmp_ge (tgt := 64) hX dX12_view_58 (by decide) (fun c24 => ?_) (fun c24 => ?_)
          · have h := h_T c24 h
            refine v_aload_n hX dX12_view_64 0 rfl rfl ?_
            refine v_getR hX dX12_view_65 f_RX12_91 rfl k20 ?_
            refine v_iload_n hX dX12_view_68 3 rfl rfl ?_
            obtain ⟨a25, e_a25, h⟩ := h
            refine v_nn1 e_a25 ?_
            obtain ⟨k26, h⟩ := h
            obtain ⟨i27, h⟩ := h
            refine v_iald hX dX12_view_69 k26 i27 ?_
            refine v_istore (lv' := [(5, _), (0, _), (1, _), (2, _), (3, _), (4, _)]) hX dX12_view_70 (by decide) rfl ?_
            refine v_aload_n hX dX12_view_72 1 rfl rfl ?_
            refine v_iload_n hX dX12_view_73 2 rfl rfl ?_
            refine v_iload_n hX dX12_view_74 3 rfl rfl ?_
            refine v_iload hX dX12_view_75 5 rfl ?_
            refine v_callVi0 hX dX12_view_77 c_RX12_582 cV_X12_isOpen (ci := 13) (T := TX12) (N := 115) rfl (by exact k20) [pI _, pI _, pI _] rfl rfl (Nat.le_of_ble_eq_true rfl) (by decide) (by decide)  (m_X12_isOpen h) (fun p29 s28 h => ?_)
            refine v_if_eq (tgt := 100) hX dX12_view_80 (by decide) (fun c30 => ?_) (fun c30 => ?_)
            · have h := h_T c30 h
              refine v_pick [] rfl ?_
              exact b_X12_view_100 hX hE _ h
            · have h := h_E c30 h
              refine v_aload_n hX dX12_view_83 1 rfl rfl ?_
              refine v_iload_n hX dX12_view_84 2 rfl rfl ?_
              refine v_iload hX dX12_view_85 0 rfl ?_
              refine v_iload hX dX12_view_87 5 rfl ?_
              obtain ⟨k31, h⟩ := h
              refine v_callVi0 hX dX12_view_89 c_RX12_586 cV_X12_isRead (ci := 13) (T := TX12) (N := 115) rfl (by exact k31) [pI _, pI _, pI _] rfl rfl (Nat.le_of_ble_eq_true rfl) (by decide) (by decide)  (m_X12_isRead h) (fun p33 s32 h => ?_)
              refine v_if_eq (tgt := 100) hX dX12_view_92 (by decide) (fun c34 => ?_) (fun c34 => ?_)
              · have h := h_T c34 h
                refine v_pick [] rfl ?_
                exact b_X12_view_100 hX hE _ h
              · have h := h_E c34 h
                refine v_iload hX dX12_view_95 0 rfl ?_
                refine v_goto (tgt := 102) hX dX12_view_97 (by decide) ?_
                refine v_pick [] rfl ?_
                exact b_X12_view_102 hX hE _ h
          · have h := h_E c24 h
            refine v_bipush (v := -3) hX dX12_view_61 (by decide) ?_
            exact v_iret hX hE dX12_view_63 h
        · have h := h_T c19 h
          refine v_iconst (v := -1) hX dX12_view_48 (by decide) ?_
          exact v_iret hX hE dX12_view_49 h
      · have h := h_E c12 h
        refine v_pick [] rfl ?_
        exact b_X12_view_25 hX hE _ h
set_option maxRecDepth 100000 in
set_option maxHeartbeats 4000000 in
theorem b_X12_rule_24 {X : h_X} (hX : h_ok X cX12_rule 4 RX12 2 43) {Q : Int32 → h_S → Prop} (hE : h_end X (some .int) (h_QI (x_Z X) Q)) (s : h_S) (h : w_X12_rule_24 Q s) : h_V X 4 24 [] [] s 0 0 := by
  unfold w_X12_rule_24 at h
  refine v_bipush (v := -2) hX dX12_rule_24 (by decide) ?_
  exact v_iret hX hE dX12_rule_26 h
set_option maxRecDepth 100000 in
set_option maxHeartbeats 4000000 in
theorem m_X12_rule {Z : h_Z} {o0 : Nat} {x1 : Int32} {x2 : Int32} {s : h_S} {Q : Int32 → h_S → Prop} (h : w_X12_rule o0 x1 x2 s Q) : h_M Z yX12_rule cX12_rule 4 (some .int) 2 43 [pR (some o0), pI x1, pI x2] s 0 0 (h_QI Z Q) := by
  refine h_M.of (by decide) (Nat.le_of_ble_eq_true rfl) (fun X hZ hX hE hI => ?_)
  subst hZ
  unfold w_X12_rule at h
  show h_V X 4 0 [(0, pR (some o0)), (1, pI x1), (2, pI x2)] [] s 0 0
  refine v_iload_n hX dX12_rule_0 1 rfl rfl ?_
  refine v_i2l hX dX12_rule_1 ?_
  refine v_lconst (v := 0) hX dX12_rule_2 (by decide) ?_
  refine v_ldc2 hX dX12_rule_3 k_RX12_396 ?_
  refine v_callSi0 hX dX12_rule_6 c_RX12_298 cS_X12_in [pL _, pL _, pL _] rfl rfl (Nat.le_of_ble_eq_true rfl) (by decide) (by decide)  (m_X12_in h) (fun p2 s1 h => ?_)
  refine v_if_eq (tgt := 24) hX dX12_rule_9 (by decide) (fun c3 => ?_) (fun c3 => ?_)
  · have h := h_T c3 h
    refine v_pick [] rfl ?_
    exact b_X12_rule_24 hX hE _ h
  · have h := h_E c3 h
    refine v_iload_n hX dX12_rule_12 2 rfl rfl ?_
    refine v_i2l hX dX12_rule_13 ?_
    refine v_lconst (v := 0) hX dX12_rule_14 (by decide) ?_
    refine v_ldc2 hX dX12_rule_15 k_RX12_589 ?_
    refine v_callSi0 hX dX12_rule_18 c_RX12_298 cS_X12_in [pL _, pL _, pL _] rfl rfl (Nat.le_of_ble_eq_true rfl) (by decide) (by decide)  (m_X12_in h) (fun p5 s4 h => ?_)
    refine v_if_ne (tgt := 27) hX dX12_rule_21 (by decide) (fun c6 => ?_) (fun c6 => ?_)
    · have h := h_E c6 h
      refine v_bipush (v := 100) hX dX12_rule_27 (by decide) ?_
      refine v_aload_n hX dX12_rule_29 0 rfl rfl ?_
      obtain ⟨k7, h⟩ := h
      refine v_getI hX dX12_rule_30 f_RX12_270 rfl k7 ?_
      refine v_imul hX dX12_rule_33 ?_
      refine v_aload_n hX dX12_rule_34 0 rfl rfl ?_
      refine v_getI hX dX12_rule_35 f_RX12_274 rfl k7 ?_
      refine v_iadd hX dX12_rule_38 ?_
      refine v_istore_n (lv' := [(3, _), (0, _), (1, _), (2, _)]) hX dX12_rule_39 rfl (by decide) rfl ?_
      refine v_aload_n hX dX12_rule_40 1 rfl rfl ?_
      refine v_iload_n hX dX12_rule_41 2 rfl rfl ?_
      refine v_putI hX dX12_rule_42 f_RX12_270 k7 ?_
      refine v_aload_n hX dX12_rule_45 1 rfl rfl ?_
      refine v_iload_n hX dX12_rule_46 3 rfl rfl ?_
      refine v_putI hX dX12_rule_47 f_RX12_274 k7 ?_
      refine v_aload_n hX dX12_rule_50 1 rfl rfl ?_
      refine v_iload_n hX dX12_rule_51 0 rfl rfl ?_
      refine v_callVi0 hX dX12_rule_52 c_RX12_302 cV_X12_acted (ci := 13) (T := TX12) (N := 115) rfl (by exact k7) [pI _] rfl rfl (Nat.le_of_ble_eq_true rfl) (by decide) (by decide)  (m_X12_acted h) (fun p12 s11 h => ?_)
      exact v_iret hX hE dX12_rule_55 h
    · have h := h_T c6 h
      refine v_pick [] rfl ?_
      exact b_X12_rule_24 hX hE _ h
set_option maxRecDepth 100000 in
set_option maxHeartbeats 4000000 in
theorem b_X12_read_16 {X : h_X} (hX : h_ok X cX12_read 11 RX12 5 118) {Q : Int32 → h_S → Prop} (hE : h_end X (some .int) (h_QI (x_Z X) Q)) (s : h_S) (h : w_X12_read_16 Q s) : h_V X 11 16 [] [] s 0 0 := by
  unfold w_X12_read_16 at h
  refine v_iconst (v := -1) hX dX12_read_16 (by decide) ?_
  exact v_iret hX hE dX12_read_17 h
set_option maxRecDepth 100000 in
set_option maxHeartbeats 4000000 in
theorem b_X12_read_190 {X : h_X} (hX : h_ok X cX12_read 11 RX12 5 118) {Q : Int32 → h_S → Prop} (hE : h_end X (some .int) (h_QI (x_Z X) Q)) {K56 : Nat → Int32 → Int32 → Int32 → Int32 → Int32 → Int32 → h_S → Prop} (hK56 : ∀ (o0 : Nat) (x1 : Int32) (x3 : Int32) (x4 : Int32) (x5 : Int32) (x6 : Int32) (x7 : Int32) (s : h_S), K56 o0 x1 x3 x4 x5 x6 x7 s → h_V X 11 56 [(0, pR (some o0)), (1, pI x1), (3, pI x3), (4, pI x4), (5, pI x5), (6, pI x6), (7, pI x7)] [] s 0 0) {o0 : Nat} {x1 : Int32} {x3 : Int32} {x4 : Int32} {x5 : Int32} {x6 : Int32} {x7 : Int32} (s : h_S) (h : w_X12_read_190 Q K56 o0 x1 x3 x4 x5 x6 x7 s) : h_V X 11 190 [(0, pR (some o0)), (1, pI x1), (3, pI x3), (4, pI x4), (5, pI x5), (6, pI x6), (7, pI x7)] [] s 0 0 := by
  unfold w_X12_read_190 at h
  refine v_iinc (c := 1) (lv' := [(7, _), (0, _), (1, _), (3, _), (4, _), (5, _), (6, _)]) hX dX12_read_190 6 rfl (by decide) (by decide) rfl ?_
  refine v_goto (tgt := 56) hX dX12_read_193 (by decide) ?_
  refine v_pick [1, 2, 3, 4, 5, 6, 0] rfl ?_
  exact hK56 _ _ _ _ _ _ _ _ h
set_option maxRecDepth 100000 in
set_option maxHeartbeats 4000000 in
theorem b_X12_read_152 {X : h_X} (hX : h_ok X cX12_read 11 RX12 5 118) {Q : Int32 → h_S → Prop} (hE : h_end X (some .int) (h_QI (x_Z X) Q)) {K56 : Nat → Int32 → Int32 → Int32 → Int32 → Int32 → Int32 → h_S → Prop} (hK56 : ∀ (o0 : Nat) (x1 : Int32) (x3 : Int32) (x4 : Int32) (x5 : Int32) (x6 : Int32) (x7 : Int32) (s : h_S), K56 o0 x1 x3 x4 x5 x6 x7 s → h_V X 11 56 [(0, pR (some o0)), (1, pI x1), (3, pI x3), (4, pI x4), (5, pI x5), (6, pI x6), (7, pI x7)] [] s 0 0) {o0 : Nat} {x1 : Int32} {x3 : Int32} {x4 : Int32} {x5 : Int32} {x6 : Int32} {x7 : Int32} {x9 : Int32} {x10 : Int32} {y0 : Int32} {y1 : Int32} {t2 : Option Nat} (s : h_S) (h : w_X12_read_152 Q K56 o0 x1 x3 x4 x5 x6 x7 x9 x10 y0 y1 t2 s) : h_V X 11 152 [(0, pR (some o0)), (1, pI x1), (3, pI x3), (4, pI x4), (5, pI x5), (6, pI x6), (7, pI x7), (9, pI x9), (10, pI x10)] [pI y0, pI y1, pR t2] s 0 0 := by
  unfold w_X12_read_152 at h
  refine v_iadd hX dX12_read_152 ?_
  refine v_dup2 hX dX12_read_153 rfl rfl ?_
  obtain ⟨a1, e_a1, h⟩ := h
  refine v_nn1 e_a1 ?_
  obtain ⟨k2, h⟩ := h
  obtain ⟨i3, h⟩ := h
  refine v_iald hX dX12_read_154 k2 i3 ?_
  refine v_iload hX dX12_read_155 8 rfl ?_
  refine v_iadd hX dX12_read_157 ?_
  obtain ⟨a4, e_a4, h⟩ := h
  refine v_nn2 e_a4 ?_
  obtain ⟨k5, h⟩ := h
  obtain ⟨i6, h⟩ := h
  refine v_iast hX dX12_read_158 k5 i6 ?_
  refine v_aload_n hX dX12_read_159 0 rfl rfl ?_
  obtain ⟨k8, h⟩ := h
  refine v_getR hX dX12_read_160 f_RX12_243 rfl k8 ?_
  refine v_bipush (v := 8) hX dX12_read_163 (by decide) ?_
  refine v_iload_n hX dX12_read_165 1 rfl rfl ?_
  refine v_imul hX dX12_read_166 ?_
  refine v_iload hX dX12_read_167 7 rfl ?_
  refine v_iadd hX dX12_read_169 ?_
  refine v_dup2 hX dX12_read_170 rfl rfl ?_
  obtain ⟨a9, e_a9, h⟩ := h
  refine v_nn1 e_a9 ?_
  obtain ⟨k10, h⟩ := h
  obtain ⟨i11, h⟩ := h
  refine v_iald hX dX12_read_171 k10 i11 ?_
  refine v_aload_n hX dX12_read_172 0 rfl rfl ?_
  refine v_getI hX dX12_read_173 f_RX12_270 rfl k8 ?_
  refine v_iload hX dX12_read_176 8 rfl ?_
  refine v_isub hX dX12_read_178 ?_
  refine v_iadd hX dX12_read_179 ?_
  obtain ⟨a12, e_a12, h⟩ := h
  refine v_nn2 e_a12 ?_
  obtain ⟨k13, h⟩ := h
  obtain ⟨i14, h⟩ := h
  refine v_iast hX dX12_read_180 k13 i14 ?_
  refine v_iload hX dX12_read_181 5 rfl ?_
  refine v_aload_n hX dX12_read_183 0 rfl rfl ?_
  refine v_getI hX dX12_read_184 f_RX12_270 rfl k8 ?_
  refine v_iadd hX dX12_read_187 ?_
  refine v_istore (lv' := [(6, _), (0, _), (1, _), (3, _), (4, _), (5, _), (7, _), (9, _), (10, _)]) hX dX12_read_188 (by decide) rfl ?_
  refine v_pick [1, 2, 3, 4, 5, 0, 6] rfl ?_
  exact b_X12_read_190 hX hE hK56 _ h
set_option maxRecDepth 100000 in
set_option maxHeartbeats 4000000 in
theorem b_X12_read_150 {X : h_X} (hX : h_ok X cX12_read 11 RX12 5 118) {Q : Int32 → h_S → Prop} (hE : h_end X (some .int) (h_QI (x_Z X) Q)) {K56 : Nat → Int32 → Int32 → Int32 → Int32 → Int32 → Int32 → h_S → Prop} (hK56 : ∀ (o0 : Nat) (x1 : Int32) (x3 : Int32) (x4 : Int32) (x5 : Int32) (x6 : Int32) (x7 : Int32) (s : h_S), K56 o0 x1 x3 x4 x5 x6 x7 s → h_V X 11 56 [(0, pR (some o0)), (1, pI x1), (3, pI x3), (4, pI x4), (5, pI x5), (6, pI x6), (7, pI x7)] [] s 0 0) {o0 : Nat} {x1 : Int32} {x3 : Int32} {x4 : Int32} {x5 : Int32} {x6 : Int32} {x7 : Int32} {x9 : Int32} {x10 : Int32} {y0 : Int32} {t1 : Option Nat} (s : h_S) (h : w_X12_read_150 Q K56 o0 x1 x3 x4 x5 x6 x7 x9 x10 y0 t1 s) : h_V X 11 150 [(0, pR (some o0)), (1, pI x1), (3, pI x3), (4, pI x4), (5, pI x5), (6, pI x6), (7, pI x7), (9, pI x9), (10, pI x10)] [pI y0, pR t1] s 0 0 := by
  unfold w_X12_read_150 at h
  refine v_iload hX dX12_read_150 7 rfl ?_
  refine v_pick [0, 1, 2, 3, 4, 5, 6, 7, 8] rfl ?_
  exact b_X12_read_152 hX hE hK56 _ h
set_option maxRecDepth 100000 in
set_option maxHeartbeats 4000000 in
theorem b_X12_read_212 {X : h_X} (hX : h_ok X cX12_read 11 RX12 5 118) {Q : Int32 → h_S → Prop} (hE : h_end X (some .int) (h_QI (x_Z X) Q)) {y0 : Int32} (s : h_S) (h : w_X12_read_212 Q y0 s) : h_V X 11 212 [] [pI y0] s 0 0 := by
  unfold w_X12_read_212 at h
  exact v_iret hX hE dX12_read_212 h
set_option maxRecDepth 100000 in
set_option maxHeartbeats 4000000 in
theorem b_X12_read_196 {X : h_X} (hX : h_ok X cX12_read 11 RX12 5 118) {Q : Int32 → h_S → Prop} (hE : h_end X (some .int) (h_QI (x_Z X) Q)) {o0 : Nat} {x5 : Int32} {x6 : Int32} (s : h_S) (h : w_X12_read_196 Q o0 x5 x6 s) : h_V X 11 196 [(0, pR (some o0)), (5, pI x5), (6, pI x6)] [] s 0 0 := by
  unfold w_X12_read_196 at h
  refine v_iload hX dX12_read_196 1 rfl ?_
  refine v_if_ne (tgt := 206) hX dX12_read_198 (by decide) (fun c1 => ?_) (fun c1 => ?_)
  · have h := h_E c1 h
    refine v_aload_n hX dX12_read_206 0 rfl rfl ?_
    refine v_iload hX dX12_read_207 2 rfl ?_
    obtain ⟨k2, h⟩ := h
    refine v_callVi0 hX dX12_read_209 c_RX12_302 cV_X12_acted (ci := 13) (T := TX12) (N := 115) rfl (by exact k2) [pI _] rfl rfl (Nat.le_of_ble_eq_true rfl) (by decide) (by decide)  (m_X12_acted h) (fun p4 s3 h => ?_)
    refine v_pick [] rfl ?_
    exact b_X12_read_212 hX hE _ h
  · have h := h_T c1 h
    refine v_bipush (v := -3) hX dX12_read_201 (by decide) ?_
    refine v_goto (tgt := 212) hX dX12_read_203 (by decide) ?_
    refine v_pick [] rfl ?_
    exact b_X12_read_212 hX hE _ h
set_option maxRecDepth 100000 in
set_option maxHeartbeats 4000000 in
theorem b_X12_read_56 {X : h_X} (hX : h_ok X cX12_read 11 RX12 5 118) {Q : Int32 → h_S → Prop} (hE : h_end X (some .int) (h_QI (x_Z X) Q)) : ∀ (n : Nat) (o0 : Nat) (x1 : Int32) (x3 : Int32) (x4 : Int32) (x5 : Int32) (x6 : Int32) (x7 : Int32) (s : h_S), w_X12_read_56 Q n o0 x1 x3 x4 x5 x6 x7 s → h_V X 11 56 [(0, pR (some o0)), (1, pI x1), (3, pI x3), (4, pI x4), (5, pI x5), (6, pI x6), (7, pI x7)] [] s 0 0 := by
  intro n
  induction n with
  | zero => intro _ _ _ _ _ _ _ s h; exact h.elim
  | succ n hK56 =>
    intro o0 x1 x3 x4 x5 x6 x7 s h
    have h : w_X12_read_56b Q (w_X12_read_56 Q n) o0 x1 x3 x4 x5 x6 x7 s := h
    unfold w_X12_read_56b at h
    refine v_iload hX dX12_read_56 6 rfl ?_
    refine v_aload_n hX dX12_read_58 0 rfl rfl ?_
    obtain ⟨k1, h⟩ := h
    refine v_getI hX dX12_read_59 f_RX12_342 rfl k1 ?_
    refine v_icmp_ge (tgt := 196) hX dX12_read_62 (by decide) (fun c2 => ?_) (fun c2 => ?_)
    · have h := h_T c2 h
      refine v_pick [0, 4, 5] rfl ?_
      exact b_X12_read_196 hX hE _ h
    · have h := h_E c2 h
      refine v_iload_n hX dX12_read_65 2 rfl rfl ?_
      refine v_if_eq (tgt := 196) hX dX12_read_66 (by decide) (fun c3 => ?_) (fun c3 => ?_)
      · have h := h_T c3 h
        refine v_pick [0, 4, 5] rfl ?_
        exact b_X12_read_196 hX hE _ h
      · have h := h_E c3 h
        refine v_aload_n hX dX12_read_69 0 rfl rfl ?_
        refine v_getR hX dX12_read_70 f_RX12_91 rfl k1 ?_
        refine v_iload hX dX12_read_73 6 rfl ?_
        obtain ⟨a4, e_a4, h⟩ := h
        refine v_nn1 e_a4 ?_
        obtain ⟨k5, h⟩ := h
        obtain ⟨i6, h⟩ := h
        refine v_iald hX dX12_read_75 k5 i6 ?_
        refine v_istore (lv' := [(8, _), (0, _), (1, _), (3, _), (4, _), (5, _), (6, _), (7, _)]) hX dX12_read_76 (by decide) rfl ?_
        refine v_aload_n hX dX12_read_78 1 rfl rfl ?_
        refine v_iload_n hX dX12_read_79 2 rfl rfl ?_
        refine v_iload hX dX12_read_80 0 rfl ?_
        refine v_aload_n hX dX12_read_82 1 rfl rfl ?_
        refine v_getI hX dX12_read_83 f_RX12_288 rfl k1 ?_
        refine v_callVi0 hX dX12_read_86 c_RX12_586 cV_X12_isRead (ci := 13) (T := TX12) (N := 115) rfl (by exact k1) [pI _, pI _, pI _] rfl rfl (Nat.le_of_ble_eq_true rfl) (by decide) (by decide)  (m_X12_isRead h) (fun p8 s7 h => ?_)
        refine v_if_eq (tgt := 190) hX dX12_read_89 (by decide) (fun c9 => ?_) (fun c9 => ?_)
        · have h := h_T c9 h
          refine v_pick [1, 2, 3, 4, 5, 6, 7] rfl ?_
          exact b_X12_read_190 hX hE hK56 _ h
        · have h := h_E c9 h
          refine v_iinc (c := 1) (lv' := [(5, _), (8, _), (0, _), (1, _), (3, _), (4, _), (6, _), (7, _)]) hX dX12_read_92 5 rfl (by decide) (by decide) rfl ?_
          refine v_aload_n hX dX12_read_95 2 rfl rfl ?_
          obtain ⟨k10, h⟩ := h
          refine v_getR hX dX12_read_96 f_RX12_58 rfl k10 ?_
          refine v_iload hX dX12_read_99 1 rfl ?_
          obtain ⟨a11, e_a11, h⟩ := h
          refine v_nn1 e_a11 ?_
          obtain ⟨k12, h⟩ := h
          obtain ⟨i13, h⟩ := h
          refine v_iald hX dX12_read_101 k12 i13 ?_
          refine v_istore (lv' := [(9, _), (5, _), (8, _), (0, _), (1, _), (3, _), (4, _), (6, _), (7, _)]) hX dX12_read_102 (by decide) rfl ?_
          refine v_iload hX dX12_read_104 0 rfl ?_
          refine v_iload_n hX dX12_read_106 4 rfl rfl ?_
          refine v_icmp_eq (tgt := 190) hX dX12_read_107 (by decide) (fun c15 => ?_) (fun c15 => ?_)
          · have h := h_T c15 h
            refine v_pick [3, 4, 5, 6, 1, 7, 8] rfl ?_
            exact b_X12_read_190 hX hE hK56 _ h
          · have h := h_E c15 h
            refine v_aload_n hX dX12_read_110 3 rfl rfl ?_
            refine v_getI hX dX12_read_111 f_RX12_270 rfl k10 ?_
            refine v_aload_n hX dX12_read_114 3 rfl rfl ?_
            refine v_getI hX dX12_read_115 f_RX12_274 rfl k10 ?_
            refine v_imul hX dX12_read_118 ?_
            refine v_bipush (v := 10) hX dX12_read_119 (by decide) ?_
            have z16 : ¬ (10 : Int32) = 0 := by decide
            refine v_idiv hX dX12_read_121 z16 ?_
            refine v_istore (lv' := [(10, _), (9, _), (5, _), (8, _), (0, _), (1, _), (3, _), (4, _), (6, _), (7, _)]) hX dX12_read_122 (by decide) rfl ?_
            refine v_aload_n hX dX12_read_124 4 rfl rfl ?_
            refine v_getR hX dX12_read_125 f_RX12_243 rfl k10 ?_
            refine v_bipush (v := 8) hX dX12_read_128 (by decide) ?_
            refine v_iload_n hX dX12_read_130 5 rfl rfl ?_
            refine v_imul hX dX12_read_131 ?_
            refine v_iload hX dX12_read_132 7 rfl ?_
            refine v_iload hX dX12_read_134 1 rfl ?_
            refine v_icmp_eq (tgt := 150) hX dX12_read_136 (by decide) (fun c18 => ?_) (fun c18 => ?_)
            · have h := h_T c18 h
              refine v_pick [4, 5, 6, 7, 2, 8, 9, 1, 0] rfl ?_
              exact b_X12_read_150 hX hE hK56 _ h
            · have h := h_E c18 h
              refine v_iload hX dX12_read_139 7 rfl ?_
              refine v_iload_n hX dX12_read_141 5 rfl rfl ?_
              refine v_icmp_eq (tgt := 150) hX dX12_read_142 (by decide) (fun c19 => ?_) (fun c19 => ?_)
              · have h := h_T c19 h
                refine v_pick [4, 5, 6, 7, 2, 8, 9, 1, 0] rfl ?_
                exact b_X12_read_150 hX hE hK56 _ h
              · have h := h_E c19 h
                refine v_iload hX dX12_read_145 7 rfl ?_
                refine v_goto (tgt := 152) hX dX12_read_147 (by decide) ?_
                refine v_pick [4, 5, 6, 7, 2, 8, 9, 1, 0] rfl ?_
                exact b_X12_read_152 hX hE hK56 _ h
set_option maxRecDepth 100000 in
set_option maxHeartbeats 4000000 in
theorem m_X12_read {Z : h_Z} {o0 : Nat} {x1 : Int32} {x2 : Int32} {s : h_S} {Q : Int32 → h_S → Prop} (h : w_X12_read o0 x1 x2 s Q) : h_M Z yX12_read cX12_read 11 (some .int) 5 118 [pR (some o0), pI x1, pI x2] s 0 0 (h_QI Z Q) := by
  refine h_M.of (by decide) (Nat.le_of_ble_eq_true rfl) (fun X hZ hX hE hI => ?_)
  subst hZ
  unfold w_X12_read at h
  show h_V X 11 0 [(0, pR (some o0)), (1, pI x1), (2, pI x2)] [] s 0 0
  refine v_aload_n hX dX12_read_0 0 rfl rfl ?_
  refine v_iload_n hX dX12_read_1 1 rfl rfl ?_
  obtain ⟨k1, h⟩ := h
  refine v_callVi0 hX dX12_read_2 c_RX12_317 cV_X12_noHand (ci := 13) (T := TX12) (N := 115) rfl (by exact k1) [pI _] rfl rfl (Nat.le_of_ble_eq_true rfl) (by decide) (by decide)  (m_X12_noHand h) (fun p3 s2 h => ?_)
  refine v_if_ne (tgt := 16) hX dX12_read_5 (by decide) (fun c4 => ?_) (fun c4 => ?_)
  · have h := h_E c4 h
    refine v_pick [] rfl ?_
    exact b_X12_read_16 hX hE _ h
  · have h := h_T c4 h
    refine v_aload_n hX dX12_read_8 0 rfl rfl ?_
    refine v_iload_n hX dX12_read_9 2 rfl rfl ?_
    obtain ⟨k5, h⟩ := h
    refine v_callVi0 hX dX12_read_10 c_RX12_458 cV_X12_noVersion (ci := 13) (T := TX12) (N := 115) rfl (by exact k5) [pI _] rfl rfl (Nat.le_of_ble_eq_true rfl) (by decide) (by decide)  (m_X12_noVersion h) (fun p7 s6 h => ?_)
    refine v_if_eq (tgt := 18) hX dX12_read_13 (by decide) (fun c8 => ?_) (fun c8 => ?_)
    · have h := h_T c8 h
      refine v_aload_n hX dX12_read_18 0 rfl rfl ?_
      refine v_iload_n hX dX12_read_19 2 rfl rfl ?_
      obtain ⟨k9, h⟩ := h
      refine v_callVv0 hX dX12_read_20 c_RX12_461 cV_X12_layVersion (ci := 13) (T := TX12) (N := 115) rfl (by exact k9) [pI _] rfl rfl (Nat.le_of_ble_eq_true rfl) (by decide) (by decide)  (m_X12_layVersion h) (fun s10 h => ?_)
      refine v_aload_n hX dX12_read_23 0 rfl rfl ?_
      refine v_iload_n hX dX12_read_24 1 rfl rfl ?_
      refine v_iload_n hX dX12_read_25 2 rfl rfl ?_
      refine v_aload_n hX dX12_read_26 0 rfl rfl ?_
      obtain ⟨k12, h⟩ := h
      refine v_getI hX dX12_read_27 f_RX12_288 rfl k12 ?_
      refine v_callVi0 hX dX12_read_30 c_RX12_582 cV_X12_isOpen (ci := 13) (T := TX12) (N := 115) rfl (by exact k12) [pI _, pI _, pI _] rfl rfl (Nat.le_of_ble_eq_true rfl) (by decide) (by decide)  (m_X12_isOpen h) (fun p14 s13 h => ?_)
      refine v_istore_n (lv' := [(3, _), (0, _), (1, _), (2, _)]) hX dX12_read_33 rfl (by decide) rfl ?_
      refine v_aload_n hX dX12_read_34 1 rfl rfl ?_
      obtain ⟨k15, h⟩ := h
      refine v_getR hX dX12_read_35 f_RX12_22 rfl k15 ?_
      refine v_aload_n hX dX12_read_38 1 rfl rfl ?_
      refine v_getR hX dX12_read_39 f_RX12_142 rfl k15 ?_
      refine v_iload_n hX dX12_read_42 3 rfl rfl ?_
      obtain ⟨a16, e_a16, h⟩ := h
      refine v_nn1 e_a16 ?_
      obtain ⟨k17, h⟩ := h
      obtain ⟨i18, h⟩ := h
      refine v_iald hX dX12_read_43 k17 i18 ?_
      obtain ⟨a19, e_a19, h⟩ := h
      refine v_nn1 e_a19 ?_
      obtain ⟨k20, h⟩ := h
      obtain ⟨i21, h⟩ := h
      refine v_iald hX dX12_read_44 k20 i21 ?_
      refine v_istore (lv' := [(4, _), (3, _), (0, _), (1, _), (2, _)]) hX dX12_read_45 (by decide) rfl ?_
      refine v_iconst (v := 0) hX dX12_read_47 (by decide) ?_
      refine v_istore (lv' := [(5, _), (4, _), (3, _), (0, _), (1, _), (2, _)]) hX dX12_read_48 (by decide) rfl ?_
      refine v_iconst (v := 0) hX dX12_read_50 (by decide) ?_
      refine v_istore (lv' := [(6, _), (5, _), (4, _), (3, _), (0, _), (1, _), (2, _)]) hX dX12_read_51 (by decide) rfl ?_
      refine v_iconst (v := 0) hX dX12_read_53 (by decide) ?_
      refine v_istore (lv' := [(7, _), (6, _), (5, _), (4, _), (3, _), (0, _), (1, _), (2, _)]) hX dX12_read_54 (by decide) rfl ?_
      refine v_pick [5, 6, 4, 3, 2, 1, 0] rfl ?_
      obtain ⟨n, h⟩ := h
      exact b_X12_read_56 hX hE n _ _ _ _ _ _ _ _ h
    · have h := h_E c8 h
      refine v_pick [] rfl ?_
      exact b_X12_read_16 hX hE _ h
set_option maxRecDepth 100000 in
set_option maxHeartbeats 4000000 in
theorem b_X12_owes_31 {X : h_X} (hX : h_ok X cX12_owes 3 RX12 2 46) {Q : Int32 → h_S → Prop} (hE : h_end X (some .int) (h_QI (x_Z X) Q)) {y0 : Int32} (s : h_S) (h : w_X12_owes_31 Q y0 s) : h_V X 3 31 [] [pI y0] s 0 0 := by
  unfold w_X12_owes_31 at h
  exact v_iret hX hE dX12_owes_31 h
set_option maxRecDepth 100000 in
set_option maxHeartbeats 4000000 in
theorem b_X12_owes_16 {X : h_X} (hX : h_ok X cX12_owes 3 RX12 2 46) {Q : Int32 → h_S → Prop} (hE : h_end X (some .int) (h_QI (x_Z X) Q)) (s : h_S) (h : w_X12_owes_16 Q s) : h_V X 3 16 [] [] s 0 0 := by
  unfold w_X12_owes_16 at h
  refine v_iconst (v := -1) hX dX12_owes_16 (by decide) ?_
  refine v_goto (tgt := 31) hX dX12_owes_17 (by decide) ?_
  refine v_pick [] rfl ?_
  exact b_X12_owes_31 hX hE _ h
set_option maxRecDepth 100000 in
set_option maxHeartbeats 4000000 in
theorem m_X12_owes {Z : h_Z} {o0 : Nat} {x1 : Int32} {x2 : Int32} {s : h_S} {Q : Int32 → h_S → Prop} (h : w_X12_owes o0 x1 x2 s Q) : h_M Z yX12_owes cX12_owes 3 (some .int) 2 46 [pR (some o0), pI x1, pI x2] s 0 0 (h_QI Z Q) := by
  refine h_M.of (by decide) (Nat.le_of_ble_eq_true rfl) (fun X hZ hX hE hI => ?_)
  subst hZ
  unfold w_X12_owes at h
  show h_V X 3 0 [(0, pR (some o0)), (1, pI x1), (2, pI x2)] [] s 0 0
  refine v_aload_n hX dX12_owes_0 0 rfl rfl ?_
  refine v_iload_n hX dX12_owes_1 1 rfl rfl ?_
  obtain ⟨k1, h⟩ := h
  refine v_callVi0 hX dX12_owes_2 c_RX12_317 cV_X12_noHand (ci := 13) (T := TX12) (N := 115) rfl (by exact k1) [pI _] rfl rfl (Nat.le_of_ble_eq_true rfl) (by decide) (by decide)  (m_X12_noHand h) (fun p3 s2 h => ?_)
  refine v_if_ne (tgt := 16) hX dX12_owes_5 (by decide) (fun c4 => ?_) (fun c4 => ?_)
  · have h := h_E c4 h
    refine v_pick [] rfl ?_
    exact b_X12_owes_16 hX hE _ h
  · have h := h_T c4 h
    refine v_aload_n hX dX12_owes_8 0 rfl rfl ?_
    refine v_iload_n hX dX12_owes_9 2 rfl rfl ?_
    obtain ⟨k5, h⟩ := h
    refine v_callVi0 hX dX12_owes_10 c_RX12_317 cV_X12_noHand (ci := 13) (T := TX12) (N := 115) rfl (by exact k5) [pI _] rfl rfl (Nat.le_of_ble_eq_true rfl) (by decide) (by decide)  (m_X12_noHand h) (fun p7 s6 h => ?_)
    refine v_if_eq (tgt := 20) hX dX12_owes_13 (by decide) (fun c8 => ?_) (fun c8 => ?_)
    · have h := h_T c8 h
      refine v_aload_n hX dX12_owes_20 0 rfl rfl ?_
      obtain ⟨k9, h⟩ := h
      refine v_getR hX dX12_owes_21 f_RX12_243 rfl k9 ?_
      refine v_bipush (v := 8) hX dX12_owes_24 (by decide) ?_
      refine v_iload_n hX dX12_owes_26 1 rfl rfl ?_
      refine v_imul hX dX12_owes_27 ?_
      refine v_iload_n hX dX12_owes_28 2 rfl rfl ?_
      refine v_iadd hX dX12_owes_29 ?_
      obtain ⟨a10, e_a10, h⟩ := h
      refine v_nn1 e_a10 ?_
      obtain ⟨k11, h⟩ := h
      obtain ⟨i12, h⟩ := h
      refine v_iald hX dX12_owes_30 k11 i12 ?_
      refine v_pick [] rfl ?_
      exact b_X12_owes_31 hX hE _ h
    · have h := h_E c8 h
      refine v_pick [] rfl ?_
      exact b_X12_owes_16 hX hE _ h
set_option maxRecDepth 100000 in
set_option maxHeartbeats 4000000 in
theorem b_X12_pay_16 {X : h_X} (hX : h_ok X cX12_pay 4 RX12 2 46) {Q : Int32 → h_S → Prop} (hE : h_end X (some .int) (h_QI (x_Z X) Q)) (s : h_S) (h : w_X12_pay_16 Q s) : h_V X 4 16 [] [] s 0 0 := by
  unfold w_X12_pay_16 at h
  refine v_iconst (v := -1) hX dX12_pay_16 (by decide) ?_
  exact v_iret hX hE dX12_pay_17 h
set_option maxRecDepth 100000 in
set_option maxHeartbeats 4000000 in
theorem m_X12_pay {Z : h_Z} {o0 : Nat} {x1 : Int32} {x2 : Int32} {x3 : Int32} {s : h_S} {Q : Int32 → h_S → Prop} (h : w_X12_pay o0 x1 x2 x3 s Q) : h_M Z yX12_pay cX12_pay 4 (some .int) 2 46 [pR (some o0), pI x1, pI x2, pI x3] s 0 0 (h_QI Z Q) := by
  refine h_M.of (by decide) (Nat.le_of_ble_eq_true rfl) (fun X hZ hX hE hI => ?_)
  subst hZ
  unfold w_X12_pay at h
  show h_V X 4 0 [(0, pR (some o0)), (1, pI x1), (2, pI x2), (3, pI x3)] [] s 0 0
  refine v_aload_n hX dX12_pay_0 0 rfl rfl ?_
  refine v_iload_n hX dX12_pay_1 1 rfl rfl ?_
  obtain ⟨k1, h⟩ := h
  refine v_callVi0 hX dX12_pay_2 c_RX12_317 cV_X12_noHand (ci := 13) (T := TX12) (N := 115) rfl (by exact k1) [pI _] rfl rfl (Nat.le_of_ble_eq_true rfl) (by decide) (by decide)  (m_X12_noHand h) (fun p3 s2 h => ?_)
  refine v_if_ne (tgt := 16) hX dX12_pay_5 (by decide) (fun c4 => ?_) (fun c4 => ?_)
  · have h := h_E c4 h
    refine v_pick [] rfl ?_
    exact b_X12_pay_16 hX hE _ h
  · have h := h_T c4 h
    refine v_aload_n hX dX12_pay_8 0 rfl rfl ?_
    refine v_iload_n hX dX12_pay_9 2 rfl rfl ?_
    obtain ⟨k5, h⟩ := h
    refine v_callVi0 hX dX12_pay_10 c_RX12_317 cV_X12_noHand (ci := 13) (T := TX12) (N := 115) rfl (by exact k5) [pI _] rfl rfl (Nat.le_of_ble_eq_true rfl) (by decide) (by decide)  (m_X12_noHand h) (fun p7 s6 h => ?_)
    refine v_if_eq (tgt := 18) hX dX12_pay_13 (by decide) (fun c8 => ?_) (fun c8 => ?_)
    · have h := h_T c8 h
      refine v_iload_n hX dX12_pay_18 3 rfl rfl ?_
      refine v_iconst (v := 1) hX dX12_pay_19 (by decide) ?_
      refine v_icmp_ge (tgt := 26) hX dX12_pay_20 (by decide) (fun c9 => ?_) (fun c9 => ?_)
      · have h := h_T c9 h
        refine v_aload_n hX dX12_pay_26 0 rfl rfl ?_
        obtain ⟨k10, h⟩ := h
        refine v_getR hX dX12_pay_27 f_RX12_243 rfl k10 ?_
        refine v_bipush (v := 8) hX dX12_pay_30 (by decide) ?_
        refine v_iload_n hX dX12_pay_32 1 rfl rfl ?_
        refine v_imul hX dX12_pay_33 ?_
        refine v_iload_n hX dX12_pay_34 2 rfl rfl ?_
        refine v_iadd hX dX12_pay_35 ?_
        obtain ⟨a11, e_a11, h⟩ := h
        refine v_nn1 e_a11 ?_
        obtain ⟨k12, h⟩ := h
        obtain ⟨i13, h⟩ := h
        refine v_iald hX dX12_pay_36 k12 i13 ?_
        refine v_iload_n hX dX12_pay_37 3 rfl rfl ?_
        refine v_icmp_ge (tgt := 44) hX dX12_pay_38 (by decide) (fun c14 => ?_) (fun c14 => ?_)
        · have h := h_T c14 h
          refine v_aload_n hX dX12_pay_44 0 rfl rfl ?_
          refine v_getR hX dX12_pay_45 f_RX12_243 rfl k10 ?_
          refine v_bipush (v := 8) hX dX12_pay_48 (by decide) ?_
          refine v_iload_n hX dX12_pay_50 1 rfl rfl ?_
          refine v_imul hX dX12_pay_51 ?_
          refine v_iload_n hX dX12_pay_52 2 rfl rfl ?_
          refine v_iadd hX dX12_pay_53 ?_
          refine v_dup2 hX dX12_pay_54 rfl rfl ?_
          obtain ⟨a15, e_a15, h⟩ := h
          refine v_nn1 e_a15 ?_
          obtain ⟨k16, h⟩ := h
          obtain ⟨i17, h⟩ := h
          refine v_iald hX dX12_pay_55 k16 i17 ?_
          refine v_iload_n hX dX12_pay_56 3 rfl rfl ?_
          refine v_isub hX dX12_pay_57 ?_
          obtain ⟨a18, e_a18, h⟩ := h
          refine v_nn2 e_a18 ?_
          obtain ⟨k19, h⟩ := h
          obtain ⟨i20, h⟩ := h
          refine v_iast hX dX12_pay_58 k19 i20 ?_
          refine v_aload_n hX dX12_pay_59 0 rfl rfl ?_
          refine v_aload_n hX dX12_pay_60 0 rfl rfl ?_
          refine v_getR hX dX12_pay_61 f_RX12_243 rfl k10 ?_
          refine v_bipush (v := 8) hX dX12_pay_64 (by decide) ?_
          refine v_iload_n hX dX12_pay_66 1 rfl rfl ?_
          refine v_imul hX dX12_pay_67 ?_
          refine v_iload_n hX dX12_pay_68 2 rfl rfl ?_
          refine v_iadd hX dX12_pay_69 ?_
          obtain ⟨a22, e_a22, h⟩ := h
          refine v_nn1 e_a22 ?_
          obtain ⟨k23, h⟩ := h
          obtain ⟨i24, h⟩ := h
          refine v_iald hX dX12_pay_70 k23 i24 ?_
          refine v_callVi0 hX dX12_pay_71 c_RX12_302 cV_X12_acted (ci := 13) (T := TX12) (N := 115) rfl (by exact k10) [pI _] rfl rfl (Nat.le_of_ble_eq_true rfl) (by decide) (by decide)  (m_X12_acted h) (fun p26 s25 h => ?_)
          exact v_iret hX hE dX12_pay_74 h
        · have h := h_E c14 h
          refine v_bipush (v := -3) hX dX12_pay_41 (by decide) ?_
          exact v_iret hX hE dX12_pay_43 h
      · have h := h_E c9 h
        refine v_bipush (v := -2) hX dX12_pay_23 (by decide) ?_
        exact v_iret hX hE dX12_pay_25 h
    · have h := h_E c8 h
      refine v_pick [] rfl ?_
      exact b_X12_pay_16 hX hE _ h
set_option maxRecDepth 100000 in
set_option maxHeartbeats 4000000 in
theorem b_X12_noChain_52 {X : h_X} (hX : h_ok X cX12_noChain 3 RX12 5 118) {Q : Int32 → h_S → Prop} (hE : h_end X (some .int) (h_QI (x_Z X) Q)) {y0 : Int32} (s : h_S) (h : w_X12_noChain_52 Q y0 s) : h_V X 3 52 [] [pI y0] s 0 0 := by
  unfold w_X12_noChain_52 at h
  exact v_iret hX hE dX12_noChain_52 h
set_option maxRecDepth 100000 in
set_option maxHeartbeats 4000000 in
theorem m_X12_noChain {Z : h_Z} {o0 : Nat} {x1 : Int32} {x2 : Int32} {s : h_S} {Q : Int32 → h_S → Prop} (h : w_X12_noChain o0 x1 x2 s Q) : h_M Z yX12_noChain cX12_noChain 3 (some .int) 5 118 [pR (some o0), pI x1, pI x2] s 0 0 (h_QI Z Q) := by
  refine h_M.of (by decide) (Nat.le_of_ble_eq_true rfl) (fun X hZ hX hE hI => ?_)
  subst hZ
  unfold w_X12_noChain at h
  show h_V X 3 0 [(0, pR (some o0)), (1, pI x1), (2, pI x2)] [] s 0 0
  refine v_aload_n hX dX12_noChain_0 0 rfl rfl ?_
  refine v_iload_n hX dX12_noChain_1 1 rfl rfl ?_
  obtain ⟨k1, h⟩ := h
  refine v_callVi0 hX dX12_noChain_2 c_RX12_458 cV_X12_noVersion (ci := 13) (T := TX12) (N := 115) rfl (by exact k1) [pI _] rfl rfl (Nat.le_of_ble_eq_true rfl) (by decide) (by decide)  (m_X12_noVersion h) (fun p3 s2 h => ?_)
  refine v_if_eq (tgt := 10) hX dX12_noChain_5 (by decide) (fun c4 => ?_) (fun c4 => ?_)
  · have h := h_T c4 h
    refine v_aload_n hX dX12_noChain_10 0 rfl rfl ?_
    refine v_iload_n hX dX12_noChain_11 1 rfl rfl ?_
    obtain ⟨k5, h⟩ := h
    refine v_callVv0 hX dX12_noChain_12 c_RX12_461 cV_X12_layVersion (ci := 13) (T := TX12) (N := 115) rfl (by exact k5) [pI _] rfl rfl (Nat.le_of_ble_eq_true rfl) (by decide) (by decide)  (m_X12_layVersion h) (fun s6 h => ?_)
    refine v_iload_n hX dX12_noChain_15 2 rfl rfl ?_
    refine v_i2l hX dX12_noChain_16 ?_
    refine v_lconst (v := 0) hX dX12_noChain_17 (by decide) ?_
    refine v_aload_n hX dX12_noChain_18 0 rfl rfl ?_
    obtain ⟨k8, h⟩ := h
    refine v_getI hX dX12_noChain_19 f_RX12_342 rfl k8 ?_
    refine v_i2l hX dX12_noChain_22 ?_
    refine v_lconst (v := 1) hX dX12_noChain_23 (by decide) ?_
    refine v_lsub hX dX12_noChain_24 ?_
    refine v_callSi0 hX dX12_noChain_25 c_RX12_298 cS_X12_in [pL _, pL _, pL _] rfl rfl (Nat.le_of_ble_eq_true rfl) (by decide) (by decide)  (m_X12_in h) (fun p10 s9 h => ?_)
    refine v_if_ne (tgt := 35) hX dX12_noChain_28 (by decide) (fun c11 => ?_) (fun c11 => ?_)
    · have h := h_E c11 h
      refine v_aload_n hX dX12_noChain_35 0 rfl rfl ?_
      obtain ⟨k12, h⟩ := h
      refine v_getR hX dX12_noChain_36 f_RX12_91 rfl k12 ?_
      refine v_iload_n hX dX12_noChain_39 2 rfl rfl ?_
      obtain ⟨a13, e_a13, h⟩ := h
      refine v_nn1 e_a13 ?_
      obtain ⟨k14, h⟩ := h
      obtain ⟨i15, h⟩ := h
      refine v_iald hX dX12_noChain_40 k14 i15 ?_
      refine v_bipush (v := -7) hX dX12_noChain_41 (by decide) ?_
      refine v_icmp_ne (tgt := 51) hX dX12_noChain_43 (by decide) (fun c16 => ?_) (fun c16 => ?_)
      · have h := h_E c16 h
        refine v_iconst (v := 0) hX dX12_noChain_51 (by decide) ?_
        refine v_pick [] rfl ?_
        exact b_X12_noChain_52 hX hE _ h
      · have h := h_T c16 h
        refine v_bipush (v := -3) hX dX12_noChain_46 (by decide) ?_
        refine v_goto (tgt := 52) hX dX12_noChain_48 (by decide) ?_
        refine v_pick [] rfl ?_
        exact b_X12_noChain_52 hX hE _ h
    · have h := h_T c11 h
      refine v_iconst (v := -1) hX dX12_noChain_31 (by decide) ?_
      refine v_goto (tgt := 52) hX dX12_noChain_32 (by decide) ?_
      refine v_pick [] rfl ?_
      exact b_X12_noChain_52 hX hE _ h
  · have h := h_E c4 h
    refine v_iconst (v := -1) hX dX12_noChain_8 (by decide) ?_
    exact v_iret hX hE dX12_noChain_9 h
set_option maxRecDepth 100000 in
set_option maxHeartbeats 4000000 in
theorem b_X12_chainMany_40 {X : h_X} (hX : h_ok X cX12_chainMany 3 RX12 0 0) {Q : Int32 → h_S → Prop} (hE : h_end X (some .int) (h_QI (x_Z X) Q)) {y0 : Int32} (s : h_S) (h : w_X12_chainMany_40 Q y0 s) : h_V X 3 40 [] [pI y0] s 0 0 := by
  unfold w_X12_chainMany_40 at h
  exact v_iret hX hE dX12_chainMany_40 h
set_option maxRecDepth 100000 in
set_option maxHeartbeats 4000000 in
theorem m_X12_chainMany {Z : h_Z} {o0 : Nat} {x1 : Int32} {s : h_S} {Q : Int32 → h_S → Prop} (h : w_X12_chainMany o0 x1 s Q) : h_M Z yX12_chainMany cX12_chainMany 3 (some .int) 0 0 [pR (some o0), pI x1] s 0 0 (h_QI Z Q) := by
  refine h_M.of (by decide) (Nat.le_of_ble_eq_true rfl) (fun X hZ hX hE hI => ?_)
  subst hZ
  unfold w_X12_chainMany at h
  show h_V X 3 0 [(0, pR (some o0)), (1, pI x1)] [] s 0 0
  refine v_aload_n hX dX12_chainMany_0 0 rfl rfl ?_
  obtain ⟨k1, h⟩ := h
  refine v_getR hX dX12_chainMany_1 f_RX12_97 rfl k1 ?_
  refine v_iload_n hX dX12_chainMany_4 1 rfl rfl ?_
  obtain ⟨a2, e_a2, h⟩ := h
  refine v_nn1 e_a2 ?_
  obtain ⟨k3, h⟩ := h
  obtain ⟨i4, h⟩ := h
  refine v_iald hX dX12_chainMany_5 k3 i4 ?_
  refine v_istore_n (lv' := [(2, _), (0, _), (1, _)]) hX dX12_chainMany_6 rfl (by decide) rfl ?_
  refine v_aload_n hX dX12_chainMany_7 1 rfl rfl ?_
  refine v_getR hX dX12_chainMany_8 f_RX12_100 rfl k1 ?_
  refine v_iconst (v := 5) hX dX12_chainMany_11 (by decide) ?_
  refine v_iload_n hX dX12_chainMany_12 2 rfl rfl ?_
  refine v_imul hX dX12_chainMany_13 ?_
  refine v_iload_n hX dX12_chainMany_14 0 rfl rfl ?_
  refine v_iadd hX dX12_chainMany_15 ?_
  refine v_iconst (v := 1) hX dX12_chainMany_16 (by decide) ?_
  refine v_isub hX dX12_chainMany_17 ?_
  obtain ⟨a5, e_a5, h⟩ := h
  refine v_nn1 e_a5 ?_
  obtain ⟨k6, h⟩ := h
  obtain ⟨i7, h⟩ := h
  refine v_iald hX dX12_chainMany_18 k6 i7 ?_
  refine v_aload_n hX dX12_chainMany_19 1 rfl rfl ?_
  refine v_getR hX dX12_chainMany_20 f_RX12_61 rfl k1 ?_
  refine v_aload_n hX dX12_chainMany_23 1 rfl rfl ?_
  refine v_getR hX dX12_chainMany_24 f_RX12_91 rfl k1 ?_
  refine v_iload_n hX dX12_chainMany_27 2 rfl rfl ?_
  obtain ⟨a8, e_a8, h⟩ := h
  refine v_nn1 e_a8 ?_
  obtain ⟨k9, h⟩ := h
  obtain ⟨i10, h⟩ := h
  refine v_iald hX dX12_chainMany_28 k9 i10 ?_
  obtain ⟨a11, e_a11, h⟩ := h
  refine v_nn1 e_a11 ?_
  obtain ⟨k12, h⟩ := h
  obtain ⟨i13, h⟩ := h
  refine v_iald hX dX12_chainMany_29 k12 i13 ?_
  refine v_icmp_ne (tgt := 37) hX dX12_chainMany_30 (by decide) (fun c14 => ?_) (fun c14 => ?_)
  · have h := h_E c14 h
    refine v_iload_n hX dX12_chainMany_37 0 rfl rfl ?_
    refine v_iconst (v := 1) hX dX12_chainMany_38 (by decide) ?_
    refine v_iadd hX dX12_chainMany_39 ?_
    refine v_pick [] rfl ?_
    exact b_X12_chainMany_40 hX hE _ h
  · have h := h_T c14 h
    refine v_iload_n hX dX12_chainMany_33 0 rfl rfl ?_
    refine v_goto (tgt := 40) hX dX12_chainMany_34 (by decide) ?_
    refine v_pick [] rfl ?_
    exact b_X12_chainMany_40 hX hE _ h
