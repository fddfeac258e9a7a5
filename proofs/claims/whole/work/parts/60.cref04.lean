set_option maxRecDepth 100000 in
set_option maxHeartbeats 4000000 in
theorem b_X12_join_169 {X : h_X} (hX : h_ok X cX12_join 5 RX12 7 167) {Q : Int32 → h_S → Prop} (hE : h_end X (some .int) (h_QI (x_Z X) Q)) (s : h_S) (h : w_X12_join_169 Q s) : h_V X 5 169 [] [] s 0 0 := by
  unfold w_X12_join_169 at h
  refine v_bipush (v := -4) hX dX12_join_169 (by decide) ?_
  exact v_iret hX hE dX12_join_171 h
set_option maxRecDepth 100000 in
set_option maxHeartbeats 4000000 in
theorem b_X12_join_198 {X : h_X} (hX : h_ok X cX12_join 5 RX12 7 167) {Q : Int32 → h_S → Prop} (hE : h_end X (some .int) (h_QI (x_Z X) Q)) : ∀ (n : Nat) (o0 : Nat) (x4 : Int32) (s : h_S), w_X12_join_198 Q n o0 x4 s → h_V X 5 198 [(0, pR (some o0)), (4, pI x4)] [] s 0 0 := by
  intro n
  induction n with
  | zero => intro _ _ s h; exact h.elim
  | succ n hK198 =>
    intro o0 x4 s h
    have h : w_X12_join_198b Q (w_X12_join_198 Q n) o0 x4 s := h
    unfold w_X12_join_198b at h
    refine v_iload hX dX12_join_198 1 rfl ?_
    refine v_aload_n hX dX12_join_200 0 rfl rfl ?_
    obtain ⟨k1, h⟩ := h
    refine v_getI hX dX12_join_201 f_RX12_486 rfl k1 ?_
    refine v_aload_n hX dX12_join_204 0 rfl rfl ?_
    refine v_getI hX dX12_join_205 f_RX12_489 rfl k1 ?_
    refine v_iadd hX dX12_join_208 ?_
    refine v_icmp_ge (tgt := 229) hX dX12_join_209 (by decide) (fun c2 => ?_) (fun c2 => ?_)
    · have h := h_T c2 h
      refine v_aload_n hX dX12_join_229 0 rfl rfl ?_
      refine v_dup hX dX12_join_230 rfl ?_
      refine v_getI hX dX12_join_231 f_RX12_486 rfl k1 ?_
      refine v_aload_n hX dX12_join_234 0 rfl rfl ?_
      refine v_getI hX dX12_join_235 f_RX12_489 rfl k1 ?_
      refine v_iadd hX dX12_join_238 ?_
      refine v_putI hX dX12_join_239 f_RX12_486 k1 ?_
      refine v_aload_n hX dX12_join_242 0 rfl rfl ?_
      refine v_aload_n hX dX12_join_243 0 rfl rfl ?_
      refine v_getI hX dX12_join_244 f_RX12_314 rfl k1 ?_
      refine v_callVi0 hX dX12_join_247 c_RX12_373 cV_X12_store (ci := 13) (T := TX12) (N := 115) rfl (by exact k1) [pI _] rfl rfl (Nat.le_of_ble_eq_true rfl) (by decide) (by decide)  (m_X12_store h) (fun p5 s4 h => ?_)
      refine v_pop hX dX12_join_250 rfl ?_
      refine v_aload_n hX dX12_join_251 0 rfl rfl ?_
      refine v_dup hX dX12_join_252 rfl ?_
      obtain ⟨k6, h⟩ := h
      refine v_getI hX dX12_join_253 f_RX12_314 rfl k6 ?_
      refine v_iconst (v := 1) hX dX12_join_256 (by decide) ?_
      refine v_iadd hX dX12_join_257 ?_
      refine v_putI hX dX12_join_258 f_RX12_314 k6 ?_
      refine v_aload_n hX dX12_join_261 0 rfl rfl ?_
      refine v_aload_n hX dX12_join_262 0 rfl rfl ?_
      refine v_getI hX dX12_join_263 f_RX12_314 rfl k6 ?_
      refine v_iconst (v := 1) hX dX12_join_266 (by decide) ?_
      refine v_isub hX dX12_join_267 ?_
      refine v_callVi0 hX dX12_join_268 c_RX12_302 cV_X12_acted (ci := 13) (T := TX12) (N := 115) rfl (by exact k6) [pI _] rfl rfl (Nat.le_of_ble_eq_true rfl) (by decide) (by decide)  (m_X12_acted h) (fun p9 s8 h => ?_)
      exact v_iret hX hE dX12_join_271 h
    · have h := h_E c2 h
      refine v_aload_n hX dX12_join_212 0 rfl rfl ?_
      refine v_getR hX dX12_join_213 f_RX12_186 rfl k1 ?_
      refine v_iload hX dX12_join_216 1 rfl ?_
      refine v_aload_n hX dX12_join_218 0 rfl rfl ?_
      refine v_getI hX dX12_join_219 f_RX12_314 rfl k1 ?_
      obtain ⟨a10, e_a10, h⟩ := h
      refine v_nn2 e_a10 ?_
      obtain ⟨k11, h⟩ := h
      obtain ⟨i12, h⟩ := h
      refine v_iast hX dX12_join_222 k11 i12 ?_
      refine v_iinc (c := 1) (lv' := [(4, _), (0, _)]) hX dX12_join_223 1 rfl (by decide) (by decide) rfl ?_
      refine v_goto (tgt := 198) hX dX12_join_226 (by decide) ?_
      refine v_pick [1, 0] rfl ?_
      exact hK198 _ _ _ h
set_option maxRecDepth 100000 in
set_option maxHeartbeats 4000000 in
theorem b_X12_join_57 {X : h_X} (hX : h_ok X cX12_join 5 RX12 7 167) {Q : Int32 → h_S → Prop} (hE : h_end X (some .int) (h_QI (x_Z X) Q)) : ∀ (n : Nat) (o0 : Nat) (x1 : Int32) (x4 : Int32) (s : h_S), w_X12_join_57 Q n o0 x1 x4 s → h_V X 5 57 [(0, pR (some o0)), (1, pI x1), (4, pI x4)] [] s 0 0 := by
  intro n
  induction n with
  | zero => intro _ _ _ s h; exact h.elim
  | succ n hK57 =>
    intro o0 x1 x4 s h
    have h : w_X12_join_57b Q (w_X12_join_57 Q n) o0 x1 x4 s := h
    unfold w_X12_join_57b at h
    refine v_iload hX dX12_join_57 2 rfl ?_
    refine v_aload_n hX dX12_join_59 0 rfl rfl ?_
    obtain ⟨k1, h⟩ := h
    refine v_getI hX dX12_join_60 f_RX12_464 rfl k1 ?_
    refine v_icmp_gt (tgt := 137) hX dX12_join_63 (by decide) (fun c2 => ?_) (fun c2 => ?_)
    · have h := h_T c2 h
      refine v_aload_n hX dX12_join_137 0 rfl rfl ?_
      refine v_getI hX dX12_join_138 f_RX12_314 rfl k1 ?_
      refine v_bipush (v := 12) hX dX12_join_141 (by decide) ?_
      refine v_icmp_eq (tgt := 169) hX dX12_join_143 (by decide) (fun c3 => ?_) (fun c3 => ?_)
      · have h := h_T c3 h
        refine v_pick [] rfl ?_
        exact b_X12_join_169 hX hE _ h
      · have h := h_E c3 h
        refine v_aload_n hX dX12_join_146 0 rfl rfl ?_
        refine v_callVi0 hX dX12_join_147 c_RX12_507 cV_X12_piecesOfJoined (ci := 13) (T := TX12) (N := 115) rfl (by exact k1) [] rfl rfl (Nat.le_of_ble_eq_true rfl) (by decide) (by decide)  (m_X12_piecesOfJoined h) (fun p5 s4 h => ?_)
        refine v_bipush (v := 24) hX dX12_join_150 (by decide) ?_
        refine v_icmp_gt (tgt := 169) hX dX12_join_152 (by decide) (fun c6 => ?_) (fun c6 => ?_)
        · have h := h_T c6 h
          refine v_pick [] rfl ?_
          exact b_X12_join_169 hX hE _ h
        · have h := h_E c6 h
          refine v_aload_n hX dX12_join_155 0 rfl rfl ?_
          obtain ⟨k7, h⟩ := h
          refine v_getI hX dX12_join_156 f_RX12_486 rfl k7 ?_
          refine v_aload_n hX dX12_join_159 0 rfl rfl ?_
          refine v_getI hX dX12_join_160 f_RX12_489 rfl k7 ?_
          refine v_iadd hX dX12_join_163 ?_
          refine v_bipush (v := 12) hX dX12_join_164 (by decide) ?_
          refine v_icmp_le (tgt := 172) hX dX12_join_166 (by decide) (fun c8 => ?_) (fun c8 => ?_)
          · have h := h_T c8 h
            refine v_aload_n hX dX12_join_172 0 rfl rfl ?_
            refine v_getR hX dX12_join_173 f_RX12_22 rfl k7 ?_
            refine v_aload_n hX dX12_join_176 0 rfl rfl ?_
            refine v_getI hX dX12_join_177 f_RX12_314 rfl k7 ?_
            refine v_aload_n hX dX12_join_180 0 rfl rfl ?_
            refine v_getR hX dX12_join_181 f_RX12_22 rfl k7 ?_
            refine v_aload_n hX dX12_join_184 0 rfl rfl ?_
            refine v_getR hX dX12_join_185 f_RX12_142 rfl k7 ?_
            refine v_iload_n hX dX12_join_188 1 rfl rfl ?_
            obtain ⟨a9, e_a9, h⟩ := h
            refine v_nn1 e_a9 ?_
            obtain ⟨k10, h⟩ := h
            obtain ⟨i11, h⟩ := h
            refine v_iald hX dX12_join_189 k10 i11 ?_
            obtain ⟨a12, e_a12, h⟩ := h
            refine v_nn1 e_a12 ?_
            obtain ⟨k13, h⟩ := h
            obtain ⟨i14, h⟩ := h
            refine v_iald hX dX12_join_190 k13 i14 ?_
            obtain ⟨a15, e_a15, h⟩ := h
            refine v_nn2 e_a15 ?_
            obtain ⟨k16, h⟩ := h
            obtain ⟨i17, h⟩ := h
            refine v_iast hX dX12_join_191 k16 i17 ?_
            refine v_aload_n hX dX12_join_192 0 rfl rfl ?_
            refine v_getI hX dX12_join_193 f_RX12_486 rfl k7 ?_
            refine v_istore (lv' := [(4, _), (0, _), (1, _)]) hX dX12_join_196 (by decide) rfl ?_
            refine v_pick [1, 0] rfl ?_
            obtain ⟨n, h⟩ := h
            exact b_X12_join_198 hX hE n _ _ _ h
          · have h := h_E c8 h
            refine v_pick [] rfl ?_
            exact b_X12_join_169 hX hE _ h
    · have h := h_E c2 h
      refine v_aload_n hX dX12_join_66 0 rfl rfl ?_
      refine v_iload hX dX12_join_67 2 rfl ?_
      refine v_callVv0 hX dX12_join_69 c_RX12_504 cV_X12_joinAhead (ci := 13) (T := TX12) (N := 115) rfl (by exact k1) [pI _] rfl rfl (Nat.le_of_ble_eq_true rfl) (by decide) (by decide)  (m_X12_joinAhead h) (fun s19 h => ?_)
      refine v_iload hX dX12_join_72 2 rfl ?_
      refine v_aload_n hX dX12_join_74 0 rfl rfl ?_
      obtain ⟨k21, h⟩ := h
      refine v_getI hX dX12_join_75 f_RX12_464 rfl k21 ?_
      refine v_icmp_ge (tgt := 131) hX dX12_join_78 (by decide) (fun c22 => ?_) (fun c22 => ?_)
      · have h := h_T c22 h
        refine v_pick [0, 1, 2] rfl ?_
        exact b_X12_join_131 hX hE hK57 _ h
      · have h := h_E c22 h
        refine v_aload_n hX dX12_join_81 0 rfl rfl ?_
        refine v_getR hX dX12_join_82 f_RX12_176 rfl k21 ?_
        refine v_iload hX dX12_join_85 2 rfl ?_
        obtain ⟨a23, e_a23, h⟩ := h
        refine v_nn1 e_a23 ?_
        obtain ⟨k24, h⟩ := h
        obtain ⟨i25, h⟩ := h
        refine v_zald hX dX12_join_87 k24 i25 ?_
        refine v_if_ne (tgt := 131) hX dX12_join_88 (by decide) (fun c26 => ?_) (fun c26 => ?_)
        · have h := h_E c26 h
          refine v_pick [0, 1, 2] rfl ?_
          exact b_X12_join_131 hX hE hK57 _ h
        · have h := h_T c26 h
          refine v_aload_n hX dX12_join_91 0 rfl rfl ?_
          refine v_getR hX dX12_join_92 f_RX12_176 rfl k21 ?_
          refine v_sipush (v := 301) hX dX12_join_95 (by decide) ?_
          refine v_iload hX dX12_join_98 2 rfl ?_
          refine v_iadd hX dX12_join_100 ?_
          obtain ⟨a27, e_a27, h⟩ := h
          refine v_nn1 e_a27 ?_
          obtain ⟨k28, h⟩ := h
          obtain ⟨i29, h⟩ := h
          refine v_zald hX dX12_join_101 k28 i29 ?_
          refine v_if_ne (tgt := 131) hX dX12_join_102 (by decide) (fun c30 => ?_) (fun c30 => ?_)
          · have h := h_E c30 h
            refine v_pick [0, 1, 2] rfl ?_
            exact b_X12_join_131 hX hE hK57 _ h
          · have h := h_T c30 h
            refine v_aload_n hX dX12_join_105 0 rfl rfl ?_
            refine v_getR hX dX12_join_106 f_RX12_183 rfl k21 ?_
            refine v_aload_n hX dX12_join_109 0 rfl rfl ?_
            refine v_getI hX dX12_join_110 f_RX12_483 rfl k21 ?_
            refine v_aload_n hX dX12_join_113 0 rfl rfl ?_
            refine v_getR hX dX12_join_114 f_RX12_154 rfl k21 ?_
            refine v_iload hX dX12_join_117 2 rfl ?_
            obtain ⟨a31, e_a31, h⟩ := h
            refine v_nn1 e_a31 ?_
            obtain ⟨k32, h⟩ := h
            obtain ⟨i33, h⟩ := h
            refine v_iald hX dX12_join_119 k32 i33 ?_
            obtain ⟨a34, e_a34, h⟩ := h
            refine v_nn2 e_a34 ?_
            obtain ⟨k35, h⟩ := h
            obtain ⟨i36, h⟩ := h
            refine v_iast hX dX12_join_120 k35 i36 ?_
            refine v_aload_n hX dX12_join_121 0 rfl rfl ?_
            refine v_dup hX dX12_join_122 rfl ?_
            refine v_getI hX dX12_join_123 f_RX12_483 rfl k21 ?_
            refine v_iconst (v := 1) hX dX12_join_126 (by decide) ?_
            refine v_iadd hX dX12_join_127 ?_
            refine v_putI hX dX12_join_128 f_RX12_483 k21 ?_
            refine v_pick [0, 1, 2] rfl ?_
            exact b_X12_join_131 hX hE hK57 _ h
set_option maxRecDepth 100000 in
set_option maxHeartbeats 4000000 in
theorem m_X12_join {Z : h_Z} {o0 : Nat} {x1 : Int32} {x2 : Int32} {x3 : Int32} {s : h_S} {Q : Int32 → h_S → Prop} (h : w_X12_join o0 x1 x2 x3 s Q) : h_M Z yX12_join cX12_join 5 (some .int) 7 167 [pR (some o0), pI x1, pI x2, pI x3] s 0 0 (h_QI Z Q) := by
  refine h_M.of (by decide) (Nat.le_of_ble_eq_true rfl) (fun X hZ hX hE hI => ?_)
  subst hZ
  unfold w_X12_join at h
  show h_V X 5 0 [(0, pR (some o0)), (1, pI x1), (2, pI x2), (3, pI x3)] [] s 0 0
  refine v_aload_n hX dX12_join_0 0 rfl rfl ?_
  refine v_iload_n hX dX12_join_1 1 rfl rfl ?_
  obtain ⟨k1, h⟩ := h
  refine v_callVi0 hX dX12_join_2 c_RX12_458 cV_X12_noVersion (ci := 13) (T := TX12) (N := 115) rfl (by exact k1) [pI _] rfl rfl (Nat.le_of_ble_eq_true rfl) (by decide) (by decide)  (m_X12_noVersion h) (fun p3 s2 h => ?_)
  refine v_if_ne (tgt := 24) hX dX12_join_5 (by decide) (fun c4 => ?_) (fun c4 => ?_)
  · have h := h_E c4 h
    refine v_pick [] rfl ?_
    exact b_X12_join_24 hX hE _ h
  · have h := h_T c4 h
    refine v_aload_n hX dX12_join_8 0 rfl rfl ?_
    refine v_iload_n hX dX12_join_9 2 rfl rfl ?_
    obtain ⟨k5, h⟩ := h
    refine v_callVi0 hX dX12_join_10 c_RX12_458 cV_X12_noVersion (ci := 13) (T := TX12) (N := 115) rfl (by exact k5) [pI _] rfl rfl (Nat.le_of_ble_eq_true rfl) (by decide) (by decide)  (m_X12_noVersion h) (fun p7 s6 h => ?_)
    refine v_if_ne (tgt := 24) hX dX12_join_13 (by decide) (fun c8 => ?_) (fun c8 => ?_)
    · have h := h_E c8 h
      refine v_pick [] rfl ?_
      exact b_X12_join_24 hX hE _ h
    · have h := h_T c8 h
      refine v_aload_n hX dX12_join_16 0 rfl rfl ?_
      refine v_iload_n hX dX12_join_17 3 rfl rfl ?_
      obtain ⟨k9, h⟩ := h
      refine v_callVi0 hX dX12_join_18 c_RX12_458 cV_X12_noVersion (ci := 13) (T := TX12) (N := 115) rfl (by exact k9) [pI _] rfl rfl (Nat.le_of_ble_eq_true rfl) (by decide) (by decide)  (m_X12_noVersion h) (fun p11 s10 h => ?_)
      refine v_if_eq (tgt := 26) hX dX12_join_21 (by decide) (fun c12 => ?_) (fun c12 => ?_)
      · have h := h_T c12 h
        refine v_aload_n hX dX12_join_26 0 rfl rfl ?_
        refine v_iload_n hX dX12_join_27 3 rfl rfl ?_
        refine v_iconst (v := 0) hX dX12_join_28 (by decide) ?_
        obtain ⟨k13, h⟩ := h
        refine v_callVv0 hX dX12_join_29 c_RX12_470 cV_X12_takeOne (ci := 13) (T := TX12) (N := 115) rfl (by exact k13) [pI _, pI _] rfl rfl (Nat.le_of_ble_eq_true rfl) (by decide) (by decide)  (m_X12_takeOne h) (fun s14 h => ?_)
        refine v_aload_n hX dX12_join_32 0 rfl rfl ?_
        refine v_iconst (v := 0) hX dX12_join_33 (by decide) ?_
        refine v_iload_n hX dX12_join_34 1 rfl rfl ?_
        obtain ⟨k16, h⟩ := h
        refine v_callVv0 hX dX12_join_35 c_RX12_501 cV_X12_layWay (ci := 13) (T := TX12) (N := 115) rfl (by exact k16) [pI _, pI _] rfl rfl (Nat.le_of_ble_eq_true rfl) (by decide) (by decide)  (m_X12_layWay h) (fun s17 h => ?_)
        refine v_aload_n hX dX12_join_38 0 rfl rfl ?_
        refine v_iconst (v := 1) hX dX12_join_39 (by decide) ?_
        refine v_iload_n hX dX12_join_40 2 rfl rfl ?_
        obtain ⟨k19, h⟩ := h
        refine v_callVv0 hX dX12_join_41 c_RX12_501 cV_X12_layWay (ci := 13) (T := TX12) (N := 115) rfl (by exact k19) [pI _, pI _] rfl rfl (Nat.le_of_ble_eq_true rfl) (by decide) (by decide)  (m_X12_layWay h) (fun s20 h => ?_)
        refine v_aload_n hX dX12_join_44 0 rfl rfl ?_
        refine v_iconst (v := 0) hX dX12_join_45 (by decide) ?_
        obtain ⟨k22, h⟩ := h
        refine v_putI hX dX12_join_46 f_RX12_483 k22 ?_
        refine v_aload_n hX dX12_join_49 0 rfl rfl ?_
        refine v_iconst (v := 0) hX dX12_join_50 (by decide) ?_
        refine v_putI hX dX12_join_51 f_RX12_489 k22 ?_
        refine v_iconst (v := 0) hX dX12_join_54 (by decide) ?_
        refine v_istore (lv' := [(4, _), (0, _), (1, _), (2, _), (3, _)]) hX dX12_join_55 (by decide) rfl ?_
        refine v_pick [1, 2, 0] rfl ?_
        obtain ⟨n, h⟩ := h
        exact b_X12_join_57 hX hE n _ _ _ _ h
      · have h := h_E c12 h
        refine v_pick [] rfl ?_
        exact b_X12_join_24 hX hE _ h
set_option maxRecDepth 100000 in
set_option maxHeartbeats 4000000 in
theorem b_X12_clash_83 {X : h_X} (hX : h_ok X cX12_clash 3 RX12 1 25) {Q : Int32 → h_S → Prop} (hE : h_end X (some .int) (h_QI (x_Z X) Q)) {y0 : Int32} (s : h_S) (h : w_X12_clash_83 Q y0 s) : h_V X 3 83 [] [pI y0] s 0 0 := by
  unfold w_X12_clash_83 at h
  exact v_iret hX hE dX12_clash_83 h
set_option maxRecDepth 100000 in
set_option maxHeartbeats 4000000 in
theorem m_X12_clash {Z : h_Z} {o0 : Nat} {x1 : Int32} {x2 : Int32} {s : h_S} {Q : Int32 → h_S → Prop} (h : w_X12_clash o0 x1 x2 s Q) : h_M Z yX12_clash cX12_clash 3 (some .int) 1 25 [pR (some o0), pI x1, pI x2] s 0 0 (h_QI Z Q) := by
  refine h_M.of (by decide) (Nat.le_of_ble_eq_true rfl) (fun X hZ hX hE hI => ?_)
  subst hZ
  unfold w_X12_clash at h
  show h_V X 3 0 [(0, pR (some o0)), (1, pI x1), (2, pI x2)] [] s 0 0
  refine v_iload_n hX dX12_clash_0 1 rfl rfl ?_
  refine v_i2l hX dX12_clash_1 ?_
  refine v_lconst (v := 0) hX dX12_clash_2 (by decide) ?_
  refine v_aload_n hX dX12_clash_3 0 rfl rfl ?_
  obtain ⟨k1, h⟩ := h
  refine v_getI hX dX12_clash_4 f_RX12_486 rfl k1 ?_
  refine v_i2l hX dX12_clash_7 ?_
  refine v_lconst (v := 1) hX dX12_clash_8 (by decide) ?_
  refine v_lsub hX dX12_clash_9 ?_
  refine v_callSi0 hX dX12_clash_10 c_RX12_298 cS_X12_in [pL _, pL _, pL _] rfl rfl (Nat.le_of_ble_eq_true rfl) (by decide) (by decide)  (m_X12_in h) (fun p3 s2 h => ?_)
  refine v_if_ne (tgt := 18) hX dX12_clash_13 (by decide) (fun c4 => ?_) (fun c4 => ?_)
  · have h := h_E c4 h
    refine v_iload_n hX dX12_clash_18 2 rfl rfl ?_
    refine v_gen (fun q26 e_q26 => ?_)
    rw [← e_q26] at h
    by_cases c5 : q26 = (0 : Int32)
    · have h := h_T c5 h
      refine v_tabIn (tgt := 48) hX dX12_clash_19 (by rw [c5]; decide) (by rw [c5]; decide) (by rw [c5]; rfl) (by decide) ?_
      refine v_aload_n hX dX12_clash_48 0 rfl rfl ?_
      obtain ⟨k6, h⟩ := h
      refine v_getR hX dX12_clash_49 f_RX12_186 rfl k6 ?_
      refine v_iload_n hX dX12_clash_52 1 rfl rfl ?_
      obtain ⟨a7, e_a7, h⟩ := h
      refine v_nn1 e_a7 ?_
      obtain ⟨k8, h⟩ := h
      obtain ⟨i9, h⟩ := h
      refine v_iald hX dX12_clash_53 k8 i9 ?_
      exact v_iret hX hE dX12_clash_54 h
    · have h := h_E c5 h
      by_cases c10 : q26 = (1 : Int32)
      · have h := h_T c10 h
        refine v_tabIn (tgt := 55) hX dX12_clash_19 (by rw [c10]; decide) (by rw [c10]; decide) (by rw [c10]; rfl) (by decide) ?_
        refine v_aload_n hX dX12_clash_55 0 rfl rfl ?_
        obtain ⟨k11, h⟩ := h
        refine v_getR hX dX12_clash_56 f_RX12_189 rfl k11 ?_
        refine v_iload_n hX dX12_clash_59 1 rfl rfl ?_
        obtain ⟨a12, e_a12, h⟩ := h
        refine v_nn1 e_a12 ?_
        obtain ⟨k13, h⟩ := h
        obtain ⟨i14, h⟩ := h
        refine v_iald hX dX12_clash_60 k13 i14 ?_
        exact v_iret hX hE dX12_clash_61 h
      · have h := h_E c10 h
        by_cases c15 : q26 = (2 : Int32)
        · have h := h_T c15 h
          refine v_tabIn (tgt := 62) hX dX12_clash_19 (by rw [c15]; decide) (by rw [c15]; decide) (by rw [c15]; rfl) (by decide) ?_
          refine v_aload_n hX dX12_clash_62 0 rfl rfl ?_
          obtain ⟨k16, h⟩ := h
          refine v_getR hX dX12_clash_63 f_RX12_192 rfl k16 ?_
          refine v_iload_n hX dX12_clash_66 1 rfl rfl ?_
          obtain ⟨a17, e_a17, h⟩ := h
          refine v_nn1 e_a17 ?_
          obtain ⟨k18, h⟩ := h
          obtain ⟨i19, h⟩ := h
          refine v_iald hX dX12_clash_67 k18 i19 ?_
          exact v_iret hX hE dX12_clash_68 h
        · have h := h_E c15 h
          by_cases c20 : q26 = (3 : Int32)
          · have h := h_T c20 h
            refine v_tabIn (tgt := 69) hX dX12_clash_19 (by rw [c20]; decide) (by rw [c20]; decide) (by rw [c20]; rfl) (by decide) ?_
            refine v_aload_n hX dX12_clash_69 0 rfl rfl ?_
            obtain ⟨k21, h⟩ := h
            refine v_getR hX dX12_clash_70 f_RX12_195 rfl k21 ?_
            refine v_iload_n hX dX12_clash_73 1 rfl rfl ?_
            obtain ⟨a22, e_a22, h⟩ := h
            refine v_nn1 e_a22 ?_
            obtain ⟨k23, h⟩ := h
            obtain ⟨i24, h⟩ := h
            refine v_zald hX dX12_clash_74 k23 i24 ?_
            refine v_if_eq (tgt := 82) hX dX12_clash_75 (by decide) (fun c25 => ?_) (fun c25 => ?_)
            · have h := h_T c25 h
              refine v_iconst (v := 0) hX dX12_clash_82 (by decide) ?_
              refine v_pick [] rfl ?_
              exact b_X12_clash_83 hX hE _ h
            · have h := h_E c25 h
              refine v_iconst (v := 1) hX dX12_clash_78 (by decide) ?_
              refine v_goto (tgt := 83) hX dX12_clash_79 (by decide) ?_
              refine v_pick [] rfl ?_
              exact b_X12_clash_83 hX hE _ h
          · have h := h_E c20 h
            refine v_tabOut (tgt := 84) hX dX12_clash_19 (by have := h_ti c5 (n := 0) rfl; have := h_ti c10 (n := 1) rfl; have := h_ti c15 (n := 2) rfl; have := h_ti c20 (n := 3) rfl; omega) (by decide) ?_
            refine v_bipush (v := -2) hX dX12_clash_84 (by decide) ?_
            exact v_iret hX hE dX12_clash_86 h
  · have h := h_T c4 h
    refine v_iconst (v := -1) hX dX12_clash_16 (by decide) ?_
    exact v_iret hX hE dX12_clash_17 h
set_option maxRecDepth 100000 in
set_option maxHeartbeats 4000000 in
theorem b_X12_standsAt_75 {X : h_X} (hX : h_ok X cX12_standsAt 6 RX12 0 0) {Q : Int32 → h_S → Prop} (hE : h_end X (some .boolean) (h_QI (x_Z X) Q)) {K34 : Nat → Int32 → Int32 → Int32 → Int32 → Int32 → h_S → Prop} (hK34 : ∀ (o0 : Nat) (x1 : Int32) (x2 : Int32) (x3 : Int32) (x4 : Int32) (x5 : Int32) (s : h_S), K34 o0 x1 x2 x3 x4 x5 s → h_V X 6 34 [(0, pR (some o0)), (1, pI x1), (2, pI x2), (3, pI x3), (4, pI x4), (5, pI x5)] [] s 0 0) {o0 : Nat} {x1 : Int32} {x2 : Int32} {x3 : Int32} {x5 : Int32} {y0 : Int32} (s : h_S) (h : w_X12_standsAt_75 Q K34 o0 x1 x2 x3 x5 y0 s) : h_V X 6 75 [(0, pR (some o0)), (1, pI x1), (2, pI x2), (3, pI x3), (5, pI x5)] [pI y0] s 0 0 := by
  unfold w_X12_standsAt_75 at h
  refine v_istore (lv' := [(4, _), (0, _), (1, _), (2, _), (3, _), (5, _)]) hX dX12_standsAt_75 (by decide) rfl ?_
  refine v_iinc (c := 1) (lv' := [(5, _), (4, _), (0, _), (1, _), (2, _), (3, _)]) hX dX12_standsAt_77 5 rfl (by decide) (by decide) rfl ?_
  refine v_goto (tgt := 34) hX dX12_standsAt_80 (by decide) ?_
  refine v_pick [2, 3, 4, 5, 1, 0] rfl ?_
  exact hK34 _ _ _ _ _ _ _ h
set_option maxRecDepth 100000 in
set_option maxHeartbeats 4000000 in
theorem b_X12_standsAt_83 {X : h_X} (hX : h_ok X cX12_standsAt 6 RX12 0 0) {Q : Int32 → h_S → Prop} (hE : h_end X (some .boolean) (h_QI (x_Z X) Q)) {x4 : Int32} (s : h_S) (h : w_X12_standsAt_83 Q x4 s) : h_V X 6 83 [(4, pI x4)] [] s 0 0 := by
  unfold w_X12_standsAt_83 at h
  refine v_iload hX dX12_standsAt_83 0 rfl ?_
  exact v_zret hX hE dX12_standsAt_85 h.1 h.2
set_option maxRecDepth 100000 in
set_option maxHeartbeats 4000000 in
theorem b_X12_standsAt_34 {X : h_X} (hX : h_ok X cX12_standsAt 6 RX12 0 0) {Q : Int32 → h_S → Prop} (hE : h_end X (some .boolean) (h_QI (x_Z X) Q)) : ∀ (n : Nat) (o0 : Nat) (x1 : Int32) (x2 : Int32) (x3 : Int32) (x4 : Int32) (x5 : Int32) (s : h_S), w_X12_standsAt_34 Q n o0 x1 x2 x3 x4 x5 s → h_V X 6 34 [(0, pR (some o0)), (1, pI x1), (2, pI x2), (3, pI x3), (4, pI x4), (5, pI x5)] [] s 0 0 := by
  intro n
  induction n with
  | zero => intro _ _ _ _ _ _ s h; exact h.elim
  | succ n hK34 =>
    intro o0 x1 x2 x3 x4 x5 s h
    have h : w_X12_standsAt_34b Q (w_X12_standsAt_34 Q n) o0 x1 x2 x3 x4 x5 s := h
    unfold w_X12_standsAt_34b at h
    refine v_iload hX dX12_standsAt_34 5 rfl ?_
    refine v_iload_n hX dX12_standsAt_36 3 rfl rfl ?_
    refine v_icmp_ge (tgt := 83) hX dX12_standsAt_37 (by decide) (fun c1 => ?_) (fun c1 => ?_)
    · have h := h_T c1 h
      refine v_pick [4] rfl ?_
      exact b_X12_standsAt_83 hX hE _ h
    · have h := h_E c1 h
      refine v_iload hX dX12_standsAt_40 4 rfl ?_
      refine v_if_eq (tgt := 83) hX dX12_standsAt_42 (by decide) (fun c2 => ?_) (fun c2 => ?_)
      · have h := h_T c2 h
        refine v_pick [4] rfl ?_
        exact b_X12_standsAt_83 hX hE _ h
      · have h := h_E c2 h
        refine v_aload_n hX dX12_standsAt_45 0 rfl rfl ?_
        obtain ⟨k3, h⟩ := h
        refine v_getR hX dX12_standsAt_46 f_RX12_91 rfl k3 ?_
        refine v_iload_n hX dX12_standsAt_49 2 rfl rfl ?_
        refine v_iload hX dX12_standsAt_50 5 rfl ?_
        refine v_iadd hX dX12_standsAt_52 ?_
        obtain ⟨a4, e_a4, h⟩ := h
        refine v_nn1 e_a4 ?_
        obtain ⟨k5, h⟩ := h
        obtain ⟨i6, h⟩ := h
        refine v_iald hX dX12_standsAt_53 k5 i6 ?_
        refine v_aload_n hX dX12_standsAt_54 0 rfl rfl ?_
        refine v_getR hX dX12_standsAt_55 f_RX12_198 rfl k3 ?_
        refine v_sipush (v := 600) hX dX12_standsAt_58 (by decide) ?_
        refine v_iload_n hX dX12_standsAt_61 1 rfl rfl ?_
        refine v_imul hX dX12_standsAt_62 ?_
        refine v_iload hX dX12_standsAt_63 5 rfl ?_
        refine v_iadd hX dX12_standsAt_65 ?_
        obtain ⟨a7, e_a7, h⟩ := h
        refine v_nn1 e_a7 ?_
        obtain ⟨k8, h⟩ := h
        obtain ⟨i9, h⟩ := h
        refine v_iald hX dX12_standsAt_66 k8 i9 ?_
        refine v_icmp_ne (tgt := 74) hX dX12_standsAt_67 (by decide) (fun c10 => ?_) (fun c10 => ?_)
        · have h := h_E c10 h
          refine v_iconst (v := 0) hX dX12_standsAt_74 (by decide) ?_
          refine v_pick [0, 1, 2, 3, 5] rfl ?_
          exact b_X12_standsAt_75 hX hE hK34 _ h
        · have h := h_T c10 h
          refine v_iconst (v := 1) hX dX12_standsAt_70 (by decide) ?_
          refine v_goto (tgt := 75) hX dX12_standsAt_71 (by decide) ?_
          refine v_pick [0, 1, 2, 3, 5] rfl ?_
          exact b_X12_standsAt_75 hX hE hK34 _ h
set_option maxRecDepth 100000 in
set_option maxHeartbeats 4000000 in
theorem b_X12_standsAt_29 {X : h_X} (hX : h_ok X cX12_standsAt 6 RX12 0 0) {Q : Int32 → h_S → Prop} (hE : h_end X (some .boolean) (h_QI (x_Z X) Q)) {o0 : Nat} {x1 : Int32} {x2 : Int32} {x3 : Int32} {y0 : Int32} (s : h_S) (h : w_X12_standsAt_29 Q o0 x1 x2 x3 y0 s) : h_V X 6 29 [(0, pR (some o0)), (1, pI x1), (2, pI x2), (3, pI x3)] [pI y0] s 0 0 := by
  unfold w_X12_standsAt_29 at h
  refine v_istore (lv' := [(4, _), (0, _), (1, _), (2, _), (3, _)]) hX dX12_standsAt_29 (by decide) rfl ?_
  refine v_iconst (v := 0) hX dX12_standsAt_31 (by decide) ?_
  refine v_istore (lv' := [(5, _), (4, _), (0, _), (1, _), (2, _), (3, _)]) hX dX12_standsAt_32 (by decide) rfl ?_
  refine v_pick [2, 3, 4, 5, 1, 0] rfl ?_
  obtain ⟨n, h⟩ := h
  exact b_X12_standsAt_34 hX hE n _ _ _ _ _ _ _ h
set_option maxRecDepth 100000 in
set_option maxHeartbeats 4000000 in
theorem m_X12_standsAt {Z : h_Z} {o0 : Nat} {x1 : Int32} {x2 : Int32} {s : h_S} {Q : Int32 → h_S → Prop} (h : w_X12_standsAt o0 x1 x2 s Q) : h_M Z yX12_standsAt cX12_standsAt 6 (some .boolean) 0 0 [pR (some o0), pI x1, pI x2] s 0 0 (h_QI Z Q) := by
  refine h_M.of (by decide) (Nat.le_of_ble_eq_true rfl) (fun X hZ hX hE hI => ?_)
  subst hZ
  unfold w_X12_standsAt at h
  show h_V X 6 0 [(0, pR (some o0)), (1, pI x1), (2, pI x2)] [] s 0 0
  refine v_aload_n hX dX12_standsAt_0 0 rfl rfl ?_
  obtain ⟨k1, h⟩ := h
  refine v_getR hX dX12_standsAt_1 f_RX12_189 rfl k1 ?_
  refine v_iload_n hX dX12_standsAt_4 1 rfl rfl ?_
  obtain ⟨a2, e_a2, h⟩ := h
  refine v_nn1 e_a2 ?_
  obtain ⟨k3, h⟩ := h
  obtain ⟨i4, h⟩ := h
  refine v_iald hX dX12_standsAt_5 k3 i4 ?_
  refine v_aload_n hX dX12_standsAt_6 0 rfl rfl ?_
  refine v_getR hX dX12_standsAt_7 f_RX12_192 rfl k1 ?_
  refine v_iload_n hX dX12_standsAt_10 1 rfl rfl ?_
  obtain ⟨a5, e_a5, h⟩ := h
  refine v_nn1 e_a5 ?_
  obtain ⟨k6, h⟩ := h
  obtain ⟨i7, h⟩ := h
  refine v_iald hX dX12_standsAt_11 k6 i7 ?_
  refine v_iadd hX dX12_standsAt_12 ?_
  refine v_istore_n (lv' := [(3, _), (0, _), (1, _), (2, _)]) hX dX12_standsAt_13 rfl (by decide) rfl ?_
  refine v_iload_n hX dX12_standsAt_14 3 rfl rfl ?_
  refine v_iload_n hX dX12_standsAt_15 0 rfl rfl ?_
  refine v_iadd hX dX12_standsAt_16 ?_
  refine v_aload_n hX dX12_standsAt_17 1 rfl rfl ?_
  refine v_getI hX dX12_standsAt_18 f_RX12_342 rfl k1 ?_
  refine v_icmp_gt (tgt := 28) hX dX12_standsAt_21 (by decide) (fun c9 => ?_) (fun c9 => ?_)
  · have h := h_T c9 h
    refine v_iconst (v := 0) hX dX12_standsAt_28 (by decide) ?_
    refine v_pick [1, 2, 3, 0] rfl ?_
    exact b_X12_standsAt_29 hX hE _ h
  · have h := h_E c9 h
    refine v_iconst (v := 1) hX dX12_standsAt_24 (by decide) ?_
    refine v_goto (tgt := 29) hX dX12_standsAt_25 (by decide) ?_
    refine v_pick [1, 2, 3, 0] rfl ?_
    exact b_X12_standsAt_29 hX hE _ h
set_option maxRecDepth 100000 in
set_option maxHeartbeats 4000000 in
theorem b_X12_settle_157 {X : h_X} (hX : h_ok X cX12_settle 7 RX12 5 118) {Q : Int32 → h_S → Prop} (hE : h_end X (some .int) (h_QI (x_Z X) Q)) {o0 : Nat} {x1 : Int32} {x3 : Int32} {x5 : Int32} {y0 : Int32} (s : h_S) (h : w_X12_settle_157 Q o0 x1 x3 x5 y0 s) : h_V X 7 157 [(0, pR (some o0)), (1, pI x1), (3, pI x3), (5, pI x5)] [pI y0] s 0 0 := by
  unfold w_X12_settle_157 at h
  refine v_istore (lv' := [(6, _), (0, _), (1, _), (3, _), (5, _)]) hX dX12_settle_157 (by decide) rfl ?_
  refine v_aload_n hX dX12_settle_159 1 rfl rfl ?_
  refine v_iload hX dX12_settle_160 4 rfl ?_
  refine v_iload hX dX12_settle_162 0 rfl ?_
  obtain ⟨k1, h⟩ := h
  refine v_callVv0 hX dX12_settle_164 c_RX12_446 cV_X12_takeOut (ci := 13) (T := TX12) (N := 115) rfl (by exact k1) [pI _, pI _] rfl rfl (Nat.le_of_ble_eq_true rfl) (by decide) (by decide)  (m_X12_takeOut h) (fun s2 h => ?_)
  refine v_aload_n hX dX12_settle_167 1 rfl rfl ?_
  refine v_iload_n hX dX12_settle_168 3 rfl rfl ?_
  obtain ⟨k4, h⟩ := h
  refine v_callVi0 hX dX12_settle_169 c_RX12_373 cV_X12_store (ci := 13) (T := TX12) (N := 115) rfl (by exact k4) [pI _] rfl rfl (Nat.le_of_ble_eq_true rfl) (by decide) (by decide)  (m_X12_store h) (fun p6 s5 h => ?_)
  refine v_if_ne (tgt := 178) hX dX12_settle_172 (by decide) (fun c7 => ?_) (fun c7 => ?_)
  · have h := h_E c7 h
    refine v_aload_n hX dX12_settle_178 1 rfl rfl ?_
    obtain ⟨k8, h⟩ := h
    refine v_getR hX dX12_settle_179 f_RX12_195 rfl k8 ?_
    refine v_iload_n hX dX12_settle_182 2 rfl rfl ?_
    refine v_iconst (v := 1) hX dX12_settle_183 (by decide) ?_
    obtain ⟨a9, e_a9, h⟩ := h
    refine v_nn2 e_a9 ?_
    obtain ⟨k10, h⟩ := h
    obtain ⟨i11, h⟩ := h
    refine v_zast hX dX12_settle_184 k10 i11 (Or.inr rfl) ?_
    refine v_aload_n hX dX12_settle_185 1 rfl rfl ?_
    refine v_iload hX dX12_settle_186 0 rfl ?_
    refine v_callVi0 hX dX12_settle_188 c_RX12_302 cV_X12_acted (ci := 13) (T := TX12) (N := 115) rfl (by exact k8) [pI _] rfl rfl (Nat.le_of_ble_eq_true rfl) (by decide) (by decide)  (m_X12_acted h) (fun p14 s13 h => ?_)
    exact v_iret hX hE dX12_settle_191 h
  · have h := h_T c7 h
    refine v_bipush (v := -4) hX dX12_settle_175 (by decide) ?_
    exact v_iret hX hE dX12_settle_177 h
set_option maxRecDepth 100000 in
set_option maxHeartbeats 4000000 in
theorem b_X12_settle_115 {X : h_X} (hX : h_ok X cX12_settle 7 RX12 5 118) {Q : Int32 → h_S → Prop} (hE : h_end X (some .int) (h_QI (x_Z X) Q)) {o0 : Nat} {x1 : Int32} {x2 : Int32} {x3 : Int32} {y0 : Int32} (s : h_S) (h : w_X12_settle_115 Q o0 x1 x2 x3 y0 s) : h_V X 7 115 [(0, pR (some o0)), (1, pI x1), (2, pI x2), (3, pI x3)] [pI y0] s 0 0 := by
  unfold w_X12_settle_115 at h
  refine v_istore (lv' := [(5, _), (0, _), (1, _), (2, _), (3, _)]) hX dX12_settle_115 (by decide) rfl ?_
  refine v_iload_n hX dX12_settle_117 3 rfl rfl ?_
  refine v_if_ne (tgt := 130) hX dX12_settle_118 (by decide) (fun c1 => ?_) (fun c1 => ?_)
  · have h := h_E c1 h
    refine v_iload_n hX dX12_settle_130 3 rfl rfl ?_
    refine v_iconst (v := 1) hX dX12_settle_131 (by decide) ?_
    refine v_icmp_ne (tgt := 144) hX dX12_settle_132 (by decide) (fun c2 => ?_) (fun c2 => ?_)
    · have h := h_E c2 h
      refine v_aload_n hX dX12_settle_144 1 rfl rfl ?_
      obtain ⟨k3, h⟩ := h
      refine v_getR hX dX12_settle_145 f_RX12_189 rfl k3 ?_
      refine v_iload_n hX dX12_settle_148 2 rfl rfl ?_
      obtain ⟨a4, e_a4, h⟩ := h
      refine v_nn1 e_a4 ?_
      obtain ⟨k5, h⟩ := h
      obtain ⟨i6, h⟩ := h
      refine v_iald hX dX12_settle_149 k5 i6 ?_
      refine v_aload_n hX dX12_settle_150 1 rfl rfl ?_
      refine v_getR hX dX12_settle_151 f_RX12_192 rfl k3 ?_
      refine v_iload_n hX dX12_settle_154 2 rfl rfl ?_
      obtain ⟨a7, e_a7, h⟩ := h
      refine v_nn1 e_a7 ?_
      obtain ⟨k8, h⟩ := h
      obtain ⟨i9, h⟩ := h
      refine v_iald hX dX12_settle_155 k8 i9 ?_
      refine v_iadd hX dX12_settle_156 ?_
      refine v_pick [1, 2, 4, 0] rfl ?_
      exact b_X12_settle_157 hX hE _ h
    · have h := h_T c2 h
      refine v_aload_n hX dX12_settle_135 1 rfl rfl ?_
      obtain ⟨k10, h⟩ := h
      refine v_getR hX dX12_settle_136 f_RX12_189 rfl k10 ?_
      refine v_iload_n hX dX12_settle_139 2 rfl rfl ?_
      obtain ⟨a11, e_a11, h⟩ := h
      refine v_nn1 e_a11 ?_
      obtain ⟨k12, h⟩ := h
      obtain ⟨i13, h⟩ := h
      refine v_iald hX dX12_settle_140 k12 i13 ?_
      refine v_goto (tgt := 157) hX dX12_settle_141 (by decide) ?_
      refine v_pick [1, 2, 4, 0] rfl ?_
      exact b_X12_settle_157 hX hE _ h
  · have h := h_T c1 h
    refine v_aload_n hX dX12_settle_121 1 rfl rfl ?_
    obtain ⟨k14, h⟩ := h
    refine v_getR hX dX12_settle_122 f_RX12_192 rfl k14 ?_
    refine v_iload_n hX dX12_settle_125 2 rfl rfl ?_
    obtain ⟨a15, e_a15, h⟩ := h
    refine v_nn1 e_a15 ?_
    obtain ⟨k16, h⟩ := h
    obtain ⟨i17, h⟩ := h
    refine v_iald hX dX12_settle_126 k16 i17 ?_
    refine v_goto (tgt := 157) hX dX12_settle_127 (by decide) ?_
    refine v_pick [1, 2, 4, 0] rfl ?_
    exact b_X12_settle_157 hX hE _ h
set_option maxRecDepth 100000 in
set_option maxHeartbeats 4000000 in
theorem b_X12_settle_85 {X : h_X} (hX : h_ok X cX12_settle 7 RX12 5 118) {Q : Int32 → h_S → Prop} (hE : h_end X (some .int) (h_QI (x_Z X) Q)) {o0 : Nat} {x1 : Int32} {x2 : Int32} {x3 : Int32} {x4 : Int32} (s : h_S) (h : w_X12_settle_85 Q o0 x1 x2 x3 x4 s) : h_V X 7 85 [(0, pR (some o0)), (1, pI x1), (2, pI x2), (3, pI x3), (4, pI x4)] [] s 0 0 := by
  unfold w_X12_settle_85 at h
  refine v_iload hX dX12_settle_85 4 rfl ?_
  refine v_aload_n hX dX12_settle_87 0 rfl rfl ?_
  obtain ⟨k1, h⟩ := h
  refine v_getI hX dX12_settle_88 f_RX12_342 rfl k1 ?_
  refine v_icmp_ne (tgt := 97) hX dX12_settle_91 (by decide) (fun c2 => ?_) (fun c2 => ?_)
  · have h := h_E c2 h
    refine v_iload_n hX dX12_settle_97 2 rfl rfl ?_
    refine v_if_ne (tgt := 113) hX dX12_settle_98 (by decide) (fun c3 => ?_) (fun c3 => ?_)
    · have h := h_E c3 h
      refine v_iload hX dX12_settle_113 4 rfl ?_
      refine v_pick [0, 1, 2, 3] rfl ?_
      exact b_X12_settle_115 hX hE _ h
    · have h := h_T c3 h
      refine v_iload hX dX12_settle_101 4 rfl ?_
      refine v_aload_n hX dX12_settle_103 0 rfl rfl ?_
      refine v_getR hX dX12_settle_104 f_RX12_189 rfl k1 ?_
      refine v_iload_n hX dX12_settle_107 1 rfl rfl ?_
      obtain ⟨a4, e_a4, h⟩ := h
      refine v_nn1 e_a4 ?_
      obtain ⟨k5, h⟩ := h
      obtain ⟨i6, h⟩ := h
      refine v_iald hX dX12_settle_108 k5 i6 ?_
      refine v_iadd hX dX12_settle_109 ?_
      refine v_goto (tgt := 115) hX dX12_settle_110 (by decide) ?_
      refine v_pick [0, 1, 2, 3] rfl ?_
      exact b_X12_settle_115 hX hE _ h
  · have h := h_T c2 h
    refine v_bipush (v := -3) hX dX12_settle_94 (by decide) ?_
    exact v_iret hX hE dX12_settle_96 h
set_option maxRecDepth 100000 in
set_option maxHeartbeats 4000000 in
theorem b_X12_settle_60 {X : h_X} (hX : h_ok X cX12_settle 7 RX12 5 118) {Q : Int32 → h_S → Prop} (hE : h_end X (some .int) (h_QI (x_Z X) Q)) : ∀ (n : Nat) (o0 : Nat) (x1 : Int32) (x2 : Int32) (x3 : Int32) (x4 : Int32) (s : h_S), w_X12_settle_60 Q n o0 x1 x2 x3 x4 s → h_V X 7 60 [(0, pR (some o0)), (1, pI x1), (2, pI x2), (3, pI x3), (4, pI x4)] [] s 0 0 := by
  intro n
  induction n with
  | zero => intro _ _ _ _ _ s h; exact h.elim
  | succ n hK60 =>
    intro o0 x1 x2 x3 x4 s h
    have h : w_X12_settle_60b Q (w_X12_settle_60 Q n) o0 x1 x2 x3 x4 s := h
    unfold w_X12_settle_60b at h
    refine v_iload hX dX12_settle_60 4 rfl ?_
    refine v_aload_n hX dX12_settle_62 0 rfl rfl ?_
    obtain ⟨k1, h⟩ := h
    refine v_getI hX dX12_settle_63 f_RX12_342 rfl k1 ?_
    refine v_icmp_ge (tgt := 85) hX dX12_settle_66 (by decide) (fun c2 => ?_) (fun c2 => ?_)
    · have h := h_T c2 h
      refine v_pick [0, 1, 2, 3, 4] rfl ?_
      exact b_X12_settle_85 hX hE _ h
    · have h := h_E c2 h
      refine v_aload_n hX dX12_settle_69 0 rfl rfl ?_
      refine v_iload_n hX dX12_settle_70 1 rfl rfl ?_
      refine v_iload hX dX12_settle_71 4 rfl ?_
      refine v_callVi0 hX dX12_settle_73 c_RX12_510 cV_X12_standsAt (ci := 13) (T := TX12) (N := 115) rfl (by exact k1) [pI _, pI _] rfl rfl (Nat.le_of_ble_eq_true rfl) (by decide) (by decide)  (m_X12_standsAt h) (fun p4 s3 h => ?_)
      refine v_if_ne (tgt := 85) hX dX12_settle_76 (by decide) (fun c5 => ?_) (fun c5 => ?_)
      · have h := h_E c5 h
        refine v_pick [0, 1, 2, 3, 4] rfl ?_
        exact b_X12_settle_85 hX hE _ h
      · have h := h_T c5 h
        refine v_iinc (c := 1) (lv' := [(4, _), (0, _), (1, _), (2, _), (3, _)]) hX dX12_settle_79 4 rfl (by decide) (by decide) rfl ?_
        refine v_goto (tgt := 60) hX dX12_settle_82 (by decide) ?_
        refine v_pick [1, 2, 3, 4, 0] rfl ?_
        exact hK60 _ _ _ _ _ _ h
set_option maxRecDepth 100000 in
set_option maxHeartbeats 4000000 in
theorem m_X12_settle {Z : h_Z} {o0 : Nat} {x1 : Int32} {x2 : Int32} {s : h_S} {Q : Int32 → h_S → Prop} (h : w_X12_settle o0 x1 x2 s Q) : h_M Z yX12_settle cX12_settle 7 (some .int) 5 118 [pR (some o0), pI x1, pI x2] s 0 0 (h_QI Z Q) := by
  refine h_M.of (by decide) (Nat.le_of_ble_eq_true rfl) (fun X hZ hX hE hI => ?_)
  subst hZ
  unfold w_X12_settle at h
  show h_V X 7 0 [(0, pR (some o0)), (1, pI x1), (2, pI x2)] [] s 0 0
  refine v_iload_n hX dX12_settle_0 1 rfl rfl ?_
  refine v_i2l hX dX12_settle_1 ?_
  refine v_lconst (v := 0) hX dX12_settle_2 (by decide) ?_
  refine v_aload_n hX dX12_settle_3 0 rfl rfl ?_
  obtain ⟨k1, h⟩ := h
  refine v_getI hX dX12_settle_4 f_RX12_486 rfl k1 ?_
  refine v_i2l hX dX12_settle_7 ?_
  refine v_lconst (v := 1) hX dX12_settle_8 (by decide) ?_
  refine v_lsub hX dX12_settle_9 ?_
  refine v_callSi0 hX dX12_settle_10 c_RX12_298 cS_X12_in [pL _, pL _, pL _] rfl rfl (Nat.le_of_ble_eq_true rfl) (by decide) (by decide)  (m_X12_in h) (fun p3 s2 h => ?_)
  refine v_if_ne (tgt := 18) hX dX12_settle_13 (by decide) (fun c4 => ?_) (fun c4 => ?_)
  · have h := h_E c4 h
    refine v_iload_n hX dX12_settle_18 2 rfl rfl ?_
    refine v_i2l hX dX12_settle_19 ?_
    refine v_lconst (v := 0) hX dX12_settle_20 (by decide) ?_
    refine v_ldc2 hX dX12_settle_21 k_RX12_406 ?_
    refine v_callSi0 hX dX12_settle_24 c_RX12_298 cS_X12_in [pL _, pL _, pL _] rfl rfl (Nat.le_of_ble_eq_true rfl) (by decide) (by decide)  (m_X12_in h) (fun p6 s5 h => ?_)
    refine v_if_ne (tgt := 33) hX dX12_settle_27 (by decide) (fun c7 => ?_) (fun c7 => ?_)
    · have h := h_E c7 h
      refine v_aload_n hX dX12_settle_33 0 rfl rfl ?_
      obtain ⟨k8, h⟩ := h
      refine v_getR hX dX12_settle_34 f_RX12_195 rfl k8 ?_
      refine v_iload_n hX dX12_settle_37 1 rfl rfl ?_
      obtain ⟨a9, e_a9, h⟩ := h
      refine v_nn1 e_a9 ?_
      obtain ⟨k10, h⟩ := h
      obtain ⟨i11, h⟩ := h
      refine v_zald hX dX12_settle_38 k10 i11 ?_
      refine v_if_eq (tgt := 45) hX dX12_settle_39 (by decide) (fun c12 => ?_) (fun c12 => ?_)
      · have h := h_T c12 h
        refine v_aload_n hX dX12_settle_45 0 rfl rfl ?_
        refine v_getR hX dX12_settle_46 f_RX12_186 rfl k8 ?_
        refine v_iload_n hX dX12_settle_49 1 rfl rfl ?_
        obtain ⟨a13, e_a13, h⟩ := h
        refine v_nn1 e_a13 ?_
        obtain ⟨k14, h⟩ := h
        obtain ⟨i15, h⟩ := h
        refine v_iald hX dX12_settle_50 k14 i15 ?_
        refine v_istore_n (lv' := [(3, _), (0, _), (1, _), (2, _)]) hX dX12_settle_51 rfl (by decide) rfl ?_
        refine v_aload_n hX dX12_settle_52 1 rfl rfl ?_
        refine v_iload_n hX dX12_settle_53 0 rfl rfl ?_
        refine v_callVv0 hX dX12_settle_54 c_RX12_398 cV_X12_open (ci := 13) (T := TX12) (N := 115) rfl (by exact k8) [pI _] rfl rfl (Nat.le_of_ble_eq_true rfl) (by decide) (by decide)  (m_X12_open h) (fun s16 h => ?_)
        refine v_iconst (v := 0) hX dX12_settle_57 (by decide) ?_
        refine v_istore (lv' := [(4, _), (3, _), (0, _), (1, _), (2, _)]) hX dX12_settle_58 (by decide) rfl ?_
        refine v_pick [2, 3, 4, 1, 0] rfl ?_
        obtain ⟨n, h⟩ := h
        exact b_X12_settle_60 hX hE n _ _ _ _ _ _ h
      · have h := h_E c12 h
        refine v_bipush (v := -3) hX dX12_settle_42 (by decide) ?_
        exact v_iret hX hE dX12_settle_44 h
    · have h := h_T c7 h
      refine v_bipush (v := -2) hX dX12_settle_30 (by decide) ?_
      exact v_iret hX hE dX12_settle_32 h
  · have h := h_T c4 h
    refine v_iconst (v := -1) hX dX12_settle_16 (by decide) ?_
    exact v_iret hX hE dX12_settle_17 h
set_option maxRecDepth 100000 in
set_option maxHeartbeats 4000000 in
theorem b_X12_noLink_21 {X : h_X} (hX : h_ok X cX12_noLink 2 RX12 1 25) {Q : Int32 → h_S → Prop} (hE : h_end X (some .boolean) (h_QI (x_Z X) Q)) {y0 : Int32} (s : h_S) (h : w_X12_noLink_21 Q y0 s) : h_V X 2 21 [] [pI y0] s 0 0 := by
  unfold w_X12_noLink_21 at h
  exact v_zret hX hE dX12_noLink_21 h.1 h.2
set_option maxRecDepth 100000 in
set_option maxHeartbeats 4000000 in
theorem m_X12_noLink {Z : h_Z} {o0 : Nat} {x1 : Int32} {s : h_S} {Q : Int32 → h_S → Prop} (h : w_X12_noLink o0 x1 s Q) : h_M Z yX12_noLink cX12_noLink 2 (some .boolean) 1 25 [pR (some o0), pI x1] s 0 0 (h_QI Z Q) := by
  refine h_M.of (by decide) (Nat.le_of_ble_eq_true rfl) (fun X hZ hX hE hI => ?_)
  subst hZ
  unfold w_X12_noLink at h
  show h_V X 2 0 [(0, pR (some o0)), (1, pI x1)] [] s 0 0
  refine v_iload_n hX dX12_noLink_0 1 rfl rfl ?_
  refine v_i2l hX dX12_noLink_1 ?_
  refine v_lconst (v := 0) hX dX12_noLink_2 (by decide) ?_
  refine v_aload_n hX dX12_noLink_3 0 rfl rfl ?_
  obtain ⟨k1, h⟩ := h
  refine v_getI hX dX12_noLink_4 f_RX12_513 rfl k1 ?_
  refine v_i2l hX dX12_noLink_7 ?_
  refine v_lconst (v := 1) hX dX12_noLink_8 (by decide) ?_
  refine v_lsub hX dX12_noLink_9 ?_
  refine v_callSi0 hX dX12_noLink_10 c_RX12_298 cS_X12_in [pL _, pL _, pL _] rfl rfl (Nat.le_of_ble_eq_true rfl) (by decide) (by decide)  (m_X12_in h) (fun p3 s2 h => ?_)
  refine v_if_ne (tgt := 20) hX dX12_noLink_13 (by decide) (fun c4 => ?_) (fun c4 => ?_)
  · have h := h_E c4 h
    refine v_iconst (v := 0) hX dX12_noLink_20 (by decide) ?_
    refine v_pick [] rfl ?_
    exact b_X12_noLink_21 hX hE _ h
  · have h := h_T c4 h
    refine v_iconst (v := 1) hX dX12_noLink_16 (by decide) ?_
    refine v_goto (tgt := 21) hX dX12_noLink_17 (by decide) ?_
    refine v_pick [] rfl ?_
    exact b_X12_noLink_21 hX hE _ h
set_option maxRecDepth 100000 in
set_option maxHeartbeats 4000000 in
theorem b_X12_areWords_23 {X : h_X} (hX : h_ok X cX12_areWords 3 RX12 0 0) {Q : Int32 → h_S → Prop} (hE : h_end X (some .boolean) (h_QI (x_Z X) Q)) {y0 : Int32} (s : h_S) (h : w_X12_areWords_23 Q y0 s) : h_V X 3 23 [] [pI y0] s 0 0 := by
  unfold w_X12_areWords_23 at h
  exact v_zret hX hE dX12_areWords_23 h.1 h.2
set_option maxRecDepth 100000 in
set_option maxHeartbeats 4000000 in
theorem b_X12_areWords_22 {X : h_X} (hX : h_ok X cX12_areWords 3 RX12 0 0) {Q : Int32 → h_S → Prop} (hE : h_end X (some .boolean) (h_QI (x_Z X) Q)) (s : h_S) (h : w_X12_areWords_22 Q s) : h_V X 3 22 [] [] s 0 0 := by
  unfold w_X12_areWords_22 at h
  refine v_iconst (v := 0) hX dX12_areWords_22 (by decide) ?_
  refine v_pick [] rfl ?_
  exact b_X12_areWords_23 hX hE _ h
set_option maxRecDepth 100000 in
set_option maxHeartbeats 4000000 in
theorem m_X12_areWords {Z : h_Z} {o0 : Nat} {x1 : Int32} {x2 : Int32} {s : h_S} {Q : Int32 → h_S → Prop} (h : w_X12_areWords o0 x1 x2 s Q) : h_M Z yX12_areWords cX12_areWords 3 (some .boolean) 0 0 [pR (some o0), pI x1, pI x2] s 0 0 (h_QI Z Q) := by
  refine h_M.of (by decide) (Nat.le_of_ble_eq_true rfl) (fun X hZ hX hE hI => ?_)
  subst hZ
  unfold w_X12_areWords at h
  show h_V X 3 0 [(0, pR (some o0)), (1, pI x1), (2, pI x2)] [] s 0 0
  refine v_iload_n hX dX12_areWords_0 1 rfl rfl ?_
  refine v_if_lt (tgt := 22) hX dX12_areWords_1 (by decide) (fun c1 => ?_) (fun c1 => ?_)
  · have h := h_T c1 h
    refine v_pick [] rfl ?_
    exact b_X12_areWords_22 hX hE _ h
  · have h := h_E c1 h
    refine v_iload_n hX dX12_areWords_4 1 rfl rfl ?_
    refine v_i2l hX dX12_areWords_5 ?_
    refine v_iload_n hX dX12_areWords_6 2 rfl rfl ?_
    refine v_i2l hX dX12_areWords_7 ?_
    refine v_ladd hX dX12_areWords_8 ?_
    refine v_aload_n hX dX12_areWords_9 0 rfl rfl ?_
    obtain ⟨k2, h⟩ := h
    refine v_getI hX dX12_areWords_10 f_RX12_321 rfl k2 ?_
    refine v_i2l hX dX12_areWords_13 ?_
    refine v_lcmp hX dX12_areWords_14 ?_
    refine v_if_gt (tgt := 22) hX dX12_areWords_15 (by decide) (fun c3 => ?_) (fun c3 => ?_)
    · have h := h_T c3 h
      refine v_pick [] rfl ?_
      exact b_X12_areWords_22 hX hE _ h
    · have h := h_E c3 h
      refine v_iconst (v := 1) hX dX12_areWords_18 (by decide) ?_
      refine v_goto (tgt := 23) hX dX12_areWords_19 (by decide) ?_
      refine v_pick [] rfl ?_
      exact b_X12_areWords_23 hX hE _ h
set_option maxRecDepth 100000 in
set_option maxHeartbeats 4000000 in
theorem b_X12_areAlike_53 {X : h_X} (hX : h_ok X cX12_areAlike 7 RX12 0 0) {Q : Int32 → h_S → Prop} (hE : h_end X (some .boolean) (h_QI (x_Z X) Q)) {K16 : Nat → Int32 → Int32 → Int32 → Int32 → Int32 → h_S → Prop} (hK16 : ∀ (o0 : Nat) (x1 : Int32) (x2 : Int32) (x3 : Int32) (x5 : Int32) (x6 : Int32) (s : h_S), K16 o0 x1 x2 x3 x5 x6 s → h_V X 7 16 [(0, pR (some o0)), (1, pI x1), (2, pI x2), (3, pI x3), (5, pI x5), (6, pI x6)] [] s 0 0) {o0 : Nat} {x1 : Int32} {x2 : Int32} {x3 : Int32} {x6 : Int32} {y0 : Int32} (s : h_S) (h : w_X12_areAlike_53 Q K16 o0 x1 x2 x3 x6 y0 s) : h_V X 7 53 [(0, pR (some o0)), (1, pI x1), (2, pI x2), (3, pI x3), (6, pI x6)] [pI y0] s 0 0 := by
  unfold w_X12_areAlike_53 at h
  refine v_istore (lv' := [(5, _), (0, _), (1, _), (2, _), (3, _), (6, _)]) hX dX12_areAlike_53 (by decide) rfl ?_
  refine v_iinc (c := 1) (lv' := [(6, _), (5, _), (0, _), (1, _), (2, _), (3, _)]) hX dX12_areAlike_55 5 rfl (by decide) (by decide) rfl ?_
  refine v_goto (tgt := 16) hX dX12_areAlike_58 (by decide) ?_
  refine v_pick [2, 3, 4, 5, 1, 0] rfl ?_
  exact hK16 _ _ _ _ _ _ _ h
set_option maxRecDepth 100000 in
set_option maxHeartbeats 4000000 in
theorem b_X12_areAlike_61 {X : h_X} (hX : h_ok X cX12_areAlike 7 RX12 0 0) {Q : Int32 → h_S → Prop} (hE : h_end X (some .boolean) (h_QI (x_Z X) Q)) {x5 : Int32} (s : h_S) (h : w_X12_areAlike_61 Q x5 s) : h_V X 7 61 [(5, pI x5)] [] s 0 0 := by
  unfold w_X12_areAlike_61 at h
  refine v_iload hX dX12_areAlike_61 0 rfl ?_
  exact v_zret hX hE dX12_areAlike_63 h.1 h.2
set_option maxRecDepth 100000 in
set_option maxHeartbeats 4000000 in
theorem b_X12_areAlike_16 {X : h_X} (hX : h_ok X cX12_areAlike 7 RX12 0 0) {Q : Int32 → h_S → Prop} (hE : h_end X (some .boolean) (h_QI (x_Z X) Q)) : ∀ (n : Nat) (o0 : Nat) (x1 : Int32) (x2 : Int32) (x3 : Int32) (x5 : Int32) (x6 : Int32) (s : h_S), w_X12_areAlike_16 Q n o0 x1 x2 x3 x5 x6 s → h_V X 7 16 [(0, pR (some o0)), (1, pI x1), (2, pI x2), (3, pI x3), (5, pI x5), (6, pI x6)] [] s 0 0 := by
  intro n
  induction n with
  | zero => intro _ _ _ _ _ _ s h; exact h.elim
  | succ n hK16 =>
    intro o0 x1 x2 x3 x5 x6 s h
    have h : w_X12_areAlike_16b Q (w_X12_areAlike_16 Q n) o0 x1 x2 x3 x5 x6 s := h
    unfold w_X12_areAlike_16b at h
    refine v_iload hX dX12_areAlike_16 5 rfl ?_
    refine v_iload_n hX dX12_areAlike_18 2 rfl rfl ?_
    refine v_icmp_ge (tgt := 61) hX dX12_areAlike_19 (by decide) (fun c1 => ?_) (fun c1 => ?_)
    · have h := h_T c1 h
      refine v_pick [4] rfl ?_
      exact b_X12_areAlike_61 hX hE _ h
    · have h := h_E c1 h
      refine v_iload hX dX12_areAlike_22 4 rfl ?_
      refine v_if_eq (tgt := 61) hX dX12_areAlike_24 (by decide) (fun c2 => ?_) (fun c2 => ?_)
      · have h := h_T c2 h
        refine v_pick [4] rfl ?_
        exact b_X12_areAlike_61 hX hE _ h
      · have h := h_E c2 h
        refine v_aload_n hX dX12_areAlike_27 0 rfl rfl ?_
        obtain ⟨k3, h⟩ := h
        refine v_getR hX dX12_areAlike_28 f_RX12_55 rfl k3 ?_
        refine v_iload_n hX dX12_areAlike_31 1 rfl rfl ?_
        refine v_iload hX dX12_areAlike_32 5 rfl ?_
        refine v_iadd hX dX12_areAlike_34 ?_
        obtain ⟨a4, e_a4, h⟩ := h
        refine v_nn1 e_a4 ?_
        obtain ⟨k5, h⟩ := h
        obtain ⟨i6, h⟩ := h
        refine v_iald hX dX12_areAlike_35 k5 i6 ?_
        refine v_aload_n hX dX12_areAlike_36 0 rfl rfl ?_
        refine v_getR hX dX12_areAlike_37 f_RX12_55 rfl k3 ?_
        refine v_iload_n hX dX12_areAlike_40 3 rfl rfl ?_
        refine v_iload hX dX12_areAlike_41 5 rfl ?_
        refine v_iadd hX dX12_areAlike_43 ?_
        obtain ⟨a7, e_a7, h⟩ := h
        refine v_nn1 e_a7 ?_
        obtain ⟨k8, h⟩ := h
        obtain ⟨i9, h⟩ := h
        refine v_iald hX dX12_areAlike_44 k8 i9 ?_
        refine v_icmp_ne (tgt := 52) hX dX12_areAlike_45 (by decide) (fun c10 => ?_) (fun c10 => ?_)
        · have h := h_E c10 h
          refine v_iconst (v := 0) hX dX12_areAlike_52 (by decide) ?_
          refine v_pick [0, 1, 2, 3, 5] rfl ?_
          exact b_X12_areAlike_53 hX hE hK16 _ h
        · have h := h_T c10 h
          refine v_iconst (v := 1) hX dX12_areAlike_48 (by decide) ?_
          refine v_goto (tgt := 53) hX dX12_areAlike_49 (by decide) ?_
          refine v_pick [0, 1, 2, 3, 5] rfl ?_
          exact b_X12_areAlike_53 hX hE hK16 _ h
set_option maxRecDepth 100000 in
set_option maxHeartbeats 4000000 in
theorem b_X12_areAlike_11 {X : h_X} (hX : h_ok X cX12_areAlike 7 RX12 0 0) {Q : Int32 → h_S → Prop} (hE : h_end X (some .boolean) (h_QI (x_Z X) Q)) {o0 : Nat} {x1 : Int32} {x2 : Int32} {x3 : Int32} {y0 : Int32} (s : h_S) (h : w_X12_areAlike_11 Q o0 x1 x2 x3 y0 s) : h_V X 7 11 [(0, pR (some o0)), (1, pI x1), (2, pI x2), (3, pI x3)] [pI y0] s 0 0 := by
  unfold w_X12_areAlike_11 at h
  refine v_istore (lv' := [(5, _), (0, _), (1, _), (2, _), (3, _)]) hX dX12_areAlike_11 (by decide) rfl ?_
  refine v_iconst (v := 0) hX dX12_areAlike_13 (by decide) ?_
  refine v_istore (lv' := [(6, _), (5, _), (0, _), (1, _), (2, _), (3, _)]) hX dX12_areAlike_14 (by decide) rfl ?_
  refine v_pick [2, 3, 4, 5, 1, 0] rfl ?_
  obtain ⟨n, h⟩ := h
  exact b_X12_areAlike_16 hX hE n _ _ _ _ _ _ _ h
set_option maxRecDepth 100000 in
set_option maxHeartbeats 4000000 in
theorem m_X12_areAlike {Z : h_Z} {o0 : Nat} {x1 : Int32} {x2 : Int32} {x3 : Int32} {x4 : Int32} {s : h_S} {Q : Int32 → h_S → Prop} (h : w_X12_areAlike o0 x1 x2 x3 x4 s Q) : h_M Z yX12_areAlike cX12_areAlike 7 (some .boolean) 0 0 [pR (some o0), pI x1, pI x2, pI x3, pI x4] s 0 0 (h_QI Z Q) := by
  refine h_M.of (by decide) (Nat.le_of_ble_eq_true rfl) (fun X hZ hX hE hI => ?_)
  subst hZ
  unfold w_X12_areAlike at h
  show h_V X 7 0 [(0, pR (some o0)), (1, pI x1), (2, pI x2), (3, pI x3), (4, pI x4)] [] s 0 0
  refine v_iload_n hX dX12_areAlike_0 2 rfl rfl ?_
  refine v_iload hX dX12_areAlike_1 4 rfl ?_
  refine v_icmp_ne (tgt := 10) hX dX12_areAlike_3 (by decide) (fun c1 => ?_) (fun c1 => ?_)
  · have h := h_E c1 h
    refine v_iconst (v := 0) hX dX12_areAlike_10 (by decide) ?_
    refine v_pick [0, 1, 2, 3] rfl ?_
    exact b_X12_areAlike_11 hX hE _ h
  · have h := h_T c1 h
    refine v_iconst (v := 1) hX dX12_areAlike_6 (by decide) ?_
    refine v_goto (tgt := 11) hX dX12_areAlike_7 (by decide) ?_
    refine v_pick [0, 1, 2, 3] rfl ?_
    exact b_X12_areAlike_11 hX hE _ h
set_option maxRecDepth 100000 in
set_option maxHeartbeats 4000000 in
theorem b_X12_link_28 {X : h_X} (hX : h_ok X cX12_link 6 RX12 2 46) {Q : Int32 → h_S → Prop} (hE : h_end X (some .int) (h_QI (x_Z X) Q)) {o0 : Nat} (s : h_S) (h : w_X12_link_28 Q o0 s) : h_V X 6 28 [(0, pR (some o0))] [] s 0 0 := by
  unfold w_X12_link_28 at h
  refine v_aload_n hX dX12_link_28 0 rfl rfl ?_
  refine v_bipush (v := -2) hX dX12_link_29 (by decide) ?_
  obtain ⟨k1, h⟩ := h
  refine v_callVi0 hX dX12_link_31 c_RX12_389 cV_X12_refused (ci := 13) (T := TX12) (N := 115) rfl (by exact k1) [pI _] rfl rfl (Nat.le_of_ble_eq_true rfl) (by decide) (by decide)  (m_X12_refused h) (fun p3 s2 h => ?_)
  exact v_iret hX hE dX12_link_34 h
set_option maxRecDepth 100000 in
set_option maxHeartbeats 4000000 in
theorem b_X12_link_72 {X : h_X} (hX : h_ok X cX12_link 6 RX12 2 46) {Q : Int32 → h_S → Prop} (hE : h_end X (some .int) (h_QI (x_Z X) Q)) {o0 : Nat} (s : h_S) (h : w_X12_link_72 Q o0 s) : h_V X 6 72 [(0, pR (some o0))] [] s 0 0 := by
  unfold w_X12_link_72 at h
  refine v_aload_n hX dX12_link_72 0 rfl rfl ?_
  refine v_iconst (v := -1) hX dX12_link_73 (by decide) ?_
  obtain ⟨k1, h⟩ := h
  refine v_callVi0 hX dX12_link_74 c_RX12_389 cV_X12_refused (ci := 13) (T := TX12) (N := 115) rfl (by exact k1) [pI _] rfl rfl (Nat.le_of_ble_eq_true rfl) (by decide) (by decide)  (m_X12_refused h) (fun p3 s2 h => ?_)
  exact v_iret hX hE dX12_link_77 h
set_option maxRecDepth 100000 in
set_option maxHeartbeats 4000000 in
theorem b_X12_link_250 {X : h_X} (hX : h_ok X cX12_link 6 RX12 2 46) {Q : Int32 → h_S → Prop} (hE : h_end X (some .int) (h_QI (x_Z X) Q)) {o0 : Nat} {y0 : Int32} {y1 : Int32} {t2 : Option Nat} (s : h_S) (h : w_X12_link_250 Q o0 y0 y1 t2 s) : h_V X 6 250 [(0, pR (some o0))] [pI y0, pI y1, pR t2] s 0 0 := by
  unfold w_X12_link_250 at h
  obtain ⟨a1, e_a1, h⟩ := h
  refine v_nn2 e_a1 ?_
  obtain ⟨k2, h⟩ := h
  obtain ⟨i3, h⟩ := h
  refine v_iast hX dX12_link_250 k2 i3 ?_
  refine v_aload_n hX dX12_link_251 0 rfl rfl ?_
  refine v_dup hX dX12_link_252 rfl ?_
  obtain ⟨k5, h⟩ := h
  refine v_getI hX dX12_link_253 f_RX12_513 rfl k5 ?_
  refine v_iconst (v := 1) hX dX12_link_256 (by decide) ?_
  refine v_iadd hX dX12_link_257 ?_
  refine v_putI hX dX12_link_258 f_RX12_513 k5 ?_
  refine v_aload_n hX dX12_link_261 0 rfl rfl ?_
  refine v_aload_n hX dX12_link_262 0 rfl rfl ?_
  refine v_aload_n hX dX12_link_263 0 rfl rfl ?_
  refine v_getI hX dX12_link_264 f_RX12_513 rfl k5 ?_
  refine v_iconst (v := 1) hX dX12_link_267 (by decide) ?_
  refine v_isub hX dX12_link_268 ?_
  refine v_callVi0 hX dX12_link_269 c_RX12_302 cV_X12_acted (ci := 13) (T := TX12) (N := 115) rfl (by exact k5) [pI _] rfl rfl (Nat.le_of_ble_eq_true rfl) (by decide) (by decide)  (m_X12_acted h) (fun p8 s7 h => ?_)
  obtain ⟨k9, h⟩ := h
  refine v_callVi0 hX dX12_link_272 c_RX12_389 cV_X12_refused (ci := 13) (T := TX12) (N := 115) rfl (by exact k9) [pI _] rfl rfl (Nat.le_of_ble_eq_true rfl) (by decide) (by decide)  (m_X12_refused h) (fun p11 s10 h => ?_)
  exact v_iret hX hE dX12_link_275 h
set_option maxRecDepth 100000 in
set_option maxHeartbeats 4000000 in
theorem b_X12_link_229 {X : h_X} (hX : h_ok X cX12_link 6 RX12 2 46) {Q : Int32 → h_S → Prop} (hE : h_end X (some .int) (h_QI (x_Z X) Q)) {o0 : Nat} {x1 : Int32} {x4 : Int32} {y0 : Int32} {y1 : Int32} {t2 : Option Nat} (s : h_S) (h : w_X12_link_229 Q o0 x1 x4 y0 y1 t2 s) : h_V X 6 229 [(0, pR (some o0)), (1, pI x1), (4, pI x4)] [pI y0, pI y1, pR t2] s 0 0 := by
  unfold w_X12_link_229 at h
  obtain ⟨a1, e_a1, h⟩ := h
  refine v_nn2 e_a1 ?_
  obtain ⟨k2, h⟩ := h
  obtain ⟨i3, h⟩ := h
  refine v_iast hX dX12_link_229 k2 i3 ?_
  refine v_aload_n hX dX12_link_230 0 rfl rfl ?_
  obtain ⟨k5, h⟩ := h
  refine v_getR hX dX12_link_231 f_RX12_216 rfl k5 ?_
  refine v_aload_n hX dX12_link_234 0 rfl rfl ?_
  refine v_getI hX dX12_link_235 f_RX12_513 rfl k5 ?_
  refine v_iload_n hX dX12_link_238 1 rfl rfl ?_
  refine v_iconst (v := 2) hX dX12_link_239 (by decide) ?_
  refine v_icmp_ne (tgt := 248) hX dX12_link_240 (by decide) (fun c6 => ?_) (fun c6 => ?_)
  · have h := h_E c6 h
    refine v_bipush (v := -9) hX dX12_link_248 (by decide) ?_
    refine v_pick [0] rfl ?_
    exact b_X12_link_250 hX hE _ h
  · have h := h_T c6 h
    refine v_iload hX dX12_link_243 2 rfl ?_
    refine v_goto (tgt := 250) hX dX12_link_245 (by decide) ?_
    refine v_pick [0] rfl ?_
    exact b_X12_link_250 hX hE _ h
set_option maxRecDepth 100000 in
set_option maxHeartbeats 4000000 in
theorem b_X12_link_203 {X : h_X} (hX : h_ok X cX12_link 6 RX12 2 46) {Q : Int32 → h_S → Prop} (hE : h_end X (some .int) (h_QI (x_Z X) Q)) {o0 : Nat} {x1 : Int32} {x4 : Int32} {x5 : Int32} {y0 : Int32} {y1 : Int32} {t2 : Option Nat} (s : h_S) (h : w_X12_link_203 Q o0 x1 x4 x5 y0 y1 t2 s) : h_V X 6 203 [(0, pR (some o0)), (1, pI x1), (4, pI x4), (5, pI x5)] [pI y0, pI y1, pR t2] s 0 0 := by
  unfold w_X12_link_203 at h
  obtain ⟨a1, e_a1, h⟩ := h
  refine v_nn2 e_a1 ?_
  obtain ⟨k2, h⟩ := h
  obtain ⟨i3, h⟩ := h
  refine v_iast hX dX12_link_203 k2 i3 ?_
  refine v_aload_n hX dX12_link_204 0 rfl rfl ?_
  obtain ⟨k5, h⟩ := h
  refine v_getR hX dX12_link_205 f_RX12_213 rfl k5 ?_
  refine v_aload_n hX dX12_link_208 0 rfl rfl ?_
  refine v_getI hX dX12_link_209 f_RX12_513 rfl k5 ?_
  refine v_iload_n hX dX12_link_212 1 rfl rfl ?_
  refine v_iconst (v := 2) hX dX12_link_213 (by decide) ?_
  refine v_icmp_ne (tgt := 227) hX dX12_link_214 (by decide) (fun c6 => ?_) (fun c6 => ?_)
  · have h := h_E c6 h
    refine v_iload hX dX12_link_227 3 rfl ?_
    refine v_pick [0, 1, 2] rfl ?_
    exact b_X12_link_229 hX hE _ h
  · have h := h_T c6 h
    refine v_aload_n hX dX12_link_217 0 rfl rfl ?_
    refine v_getR hX dX12_link_218 f_RX12_207 rfl k5 ?_
    refine v_iload hX dX12_link_221 2 rfl ?_
    obtain ⟨a7, e_a7, h⟩ := h
    refine v_nn1 e_a7 ?_
    obtain ⟨k8, h⟩ := h
    obtain ⟨i9, h⟩ := h
    refine v_iald hX dX12_link_223 k8 i9 ?_
    refine v_goto (tgt := 229) hX dX12_link_224 (by decide) ?_
    refine v_pick [0, 1, 2] rfl ?_
    exact b_X12_link_229 hX hE _ h
set_option maxRecDepth 100000 in
set_option maxHeartbeats 4000000 in
theorem b_X12_link_132 {X : h_X} (hX : h_ok X cX12_link 6 RX12 2 46) {Q : Int32 → h_S → Prop} (hE : h_end X (some .int) (h_QI (x_Z X) Q)) {o0 : Nat} {x1 : Int32} {x2 : Int32} {x3 : Int32} {x4 : Int32} {x5 : Int32} (s : h_S) (h : w_X12_link_132 Q o0 x1 x2 x3 x4 x5 s) : h_V X 6 132 [(0, pR (some o0)), (1, pI x1), (2, pI x2), (3, pI x3), (4, pI x4), (5, pI x5)] [] s 0 0 := by
  unfold w_X12_link_132 at h
  refine v_aload_n hX dX12_link_132 0 rfl rfl ?_
  obtain ⟨k1, h⟩ := h
  refine v_getI hX dX12_link_133 f_RX12_513 rfl k1 ?_
  refine v_bipush (v := 24) hX dX12_link_136 (by decide) ?_
  refine v_icmp_ne (tgt := 148) hX dX12_link_138 (by decide) (fun c2 => ?_) (fun c2 => ?_)
  · have h := h_E c2 h
    refine v_aload_n hX dX12_link_148 0 rfl rfl ?_
    refine v_getR hX dX12_link_149 f_RX12_201 rfl k1 ?_
    refine v_aload_n hX dX12_link_152 0 rfl rfl ?_
    refine v_getI hX dX12_link_153 f_RX12_513 rfl k1 ?_
    refine v_iload_n hX dX12_link_156 1 rfl rfl ?_
    obtain ⟨a3, e_a3, h⟩ := h
    refine v_nn2 e_a3 ?_
    obtain ⟨k4, h⟩ := h
    obtain ⟨i5, h⟩ := h
    refine v_iast hX dX12_link_157 k4 i5 ?_
    refine v_aload_n hX dX12_link_158 0 rfl rfl ?_
    refine v_getR hX dX12_link_159 f_RX12_204 rfl k1 ?_
    refine v_aload_n hX dX12_link_162 0 rfl rfl ?_
    refine v_getI hX dX12_link_163 f_RX12_513 rfl k1 ?_
    refine v_iload_n hX dX12_link_166 2 rfl rfl ?_
    obtain ⟨a7, e_a7, h⟩ := h
    refine v_nn2 e_a7 ?_
    obtain ⟨k8, h⟩ := h
    obtain ⟨i9, h⟩ := h
    refine v_iast hX dX12_link_167 k8 i9 ?_
    refine v_aload_n hX dX12_link_168 0 rfl rfl ?_
    refine v_getR hX dX12_link_169 f_RX12_207 rfl k1 ?_
    refine v_aload_n hX dX12_link_172 0 rfl rfl ?_
    refine v_getI hX dX12_link_173 f_RX12_513 rfl k1 ?_
    refine v_iload_n hX dX12_link_176 3 rfl rfl ?_
    obtain ⟨a11, e_a11, h⟩ := h
    refine v_nn2 e_a11 ?_
    obtain ⟨k12, h⟩ := h
    obtain ⟨i13, h⟩ := h
    refine v_iast hX dX12_link_177 k12 i13 ?_
    refine v_aload_n hX dX12_link_178 0 rfl rfl ?_
    refine v_getR hX dX12_link_179 f_RX12_210 rfl k1 ?_
    refine v_aload_n hX dX12_link_182 0 rfl rfl ?_
    refine v_getI hX dX12_link_183 f_RX12_513 rfl k1 ?_
    refine v_iload_n hX dX12_link_186 1 rfl rfl ?_
    refine v_iconst (v := 2) hX dX12_link_187 (by decide) ?_
    refine v_icmp_ne (tgt := 201) hX dX12_link_188 (by decide) (fun c15 => ?_) (fun c15 => ?_)
    · have h := h_E c15 h
      refine v_iload hX dX12_link_201 4 rfl ?_
      refine v_pick [0, 1, 4, 5] rfl ?_
      exact b_X12_link_203 hX hE _ h
    · have h := h_T c15 h
      refine v_aload_n hX dX12_link_191 0 rfl rfl ?_
      refine v_getR hX dX12_link_192 f_RX12_204 rfl k1 ?_
      refine v_iload hX dX12_link_195 4 rfl ?_
      obtain ⟨a16, e_a16, h⟩ := h
      refine v_nn1 e_a16 ?_
      obtain ⟨k17, h⟩ := h
      obtain ⟨i18, h⟩ := h
      refine v_iald hX dX12_link_197 k17 i18 ?_
      refine v_goto (tgt := 203) hX dX12_link_198 (by decide) ?_
      refine v_pick [0, 1, 4, 5] rfl ?_
      exact b_X12_link_203 hX hE _ h
  · have h := h_T c2 h
    refine v_aload_n hX dX12_link_141 0 rfl rfl ?_
    refine v_bipush (v := -4) hX dX12_link_142 (by decide) ?_
    refine v_callVi0 hX dX12_link_144 c_RX12_389 cV_X12_refused (ci := 13) (T := TX12) (N := 115) rfl (by exact k1) [pI _] rfl rfl (Nat.le_of_ble_eq_true rfl) (by decide) (by decide)  (m_X12_refused h) (fun p20 s19 h => ?_)
    exact v_iret hX hE dX12_link_147 h
set_option maxRecDepth 100000 in
set_option maxHeartbeats 4000000 in
theorem b_X12_link_107 {X : h_X} (hX : h_ok X cX12_link 6 RX12 2 46) {Q : Int32 → h_S → Prop} (hE : h_end X (some .int) (h_QI (x_Z X) Q)) {o0 : Nat} {x1 : Int32} {x2 : Int32} {x3 : Int32} {x4 : Int32} {x5 : Int32} (s : h_S) (h : w_X12_link_107 Q o0 x1 x2 x3 x4 x5 s) : h_V X 6 107 [(0, pR (some o0)), (1, pI x1), (2, pI x2), (3, pI x3), (4, pI x4), (5, pI x5)] [] s 0 0 := by
  unfold w_X12_link_107 at h
  refine v_iload_n hX dX12_link_107 1 rfl rfl ?_
  refine v_iconst (v := 4) hX dX12_link_108 (by decide) ?_
  refine v_icmp_ne (tgt := 132) hX dX12_link_109 (by decide) (fun c1 => ?_) (fun c1 => ?_)
  · have h := h_E c1 h
    refine v_pick [0, 1, 2, 3, 4, 5] rfl ?_
    exact b_X12_link_132 hX hE _ h
  · have h := h_T c1 h
    refine v_aload_n hX dX12_link_112 0 rfl rfl ?_
    refine v_iload_n hX dX12_link_113 2 rfl rfl ?_
    refine v_iload_n hX dX12_link_114 3 rfl rfl ?_
    refine v_iload hX dX12_link_115 4 rfl ?_
    refine v_iload hX dX12_link_117 5 rfl ?_
    obtain ⟨k2, h⟩ := h
    refine v_callVi0 hX dX12_link_119 c_RX12_524 cV_X12_areAlike (ci := 13) (T := TX12) (N := 115) rfl (by exact k2) [pI _, pI _, pI _, pI _] rfl rfl (Nat.le_of_ble_eq_true rfl) (by decide) (by decide)  (m_X12_areAlike h) (fun p4 s3 h => ?_)
    refine v_if_eq (tgt := 132) hX dX12_link_122 (by decide) (fun c5 => ?_) (fun c5 => ?_)
    · have h := h_T c5 h
      refine v_pick [0, 1, 2, 3, 4, 5] rfl ?_
      exact b_X12_link_132 hX hE _ h
    · have h := h_E c5 h
      refine v_aload_n hX dX12_link_125 0 rfl rfl ?_
      refine v_bipush (v := -3) hX dX12_link_126 (by decide) ?_
      obtain ⟨k6, h⟩ := h
      refine v_callVi0 hX dX12_link_128 c_RX12_389 cV_X12_refused (ci := 13) (T := TX12) (N := 115) rfl (by exact k6) [pI _] rfl rfl (Nat.le_of_ble_eq_true rfl) (by decide) (by decide)  (m_X12_refused h) (fun p8 s7 h => ?_)
      exact v_iret hX hE dX12_link_131 h
set_option maxRecDepth 100000 in
set_option maxHeartbeats 4000000 in
theorem b_X12_link_78 {X : h_X} (hX : h_ok X cX12_link 6 RX12 2 46) {Q : Int32 → h_S → Prop} (hE : h_end X (some .int) (h_QI (x_Z X) Q)) {o0 : Nat} {x1 : Int32} {x2 : Int32} {x3 : Int32} {x4 : Int32} {x5 : Int32} (s : h_S) (h : w_X12_link_78 Q o0 x1 x2 x3 x4 x5 s) : h_V X 6 78 [(0, pR (some o0)), (1, pI x1), (2, pI x2), (3, pI x3), (4, pI x4), (5, pI x5)] [] s 0 0 := by
  unfold w_X12_link_78 at h
  refine v_iload_n hX dX12_link_78 1 rfl rfl ?_
  refine v_iconst (v := 2) hX dX12_link_79 (by decide) ?_
  refine v_icmp_ne (tgt := 107) hX dX12_link_80 (by decide) (fun c1 => ?_) (fun c1 => ?_)
  · have h := h_E c1 h
    refine v_pick [0, 1, 2, 3, 4, 5] rfl ?_
    exact b_X12_link_107 hX hE _ h
  · have h := h_T c1 h
    refine v_aload_n hX dX12_link_83 0 rfl rfl ?_
    obtain ⟨k2, h⟩ := h
    refine v_getR hX dX12_link_84 f_RX12_201 rfl k2 ?_
    refine v_iload hX dX12_link_87 4 rfl ?_
    obtain ⟨a3, e_a3, h⟩ := h
    refine v_nn1 e_a3 ?_
    obtain ⟨k4, h⟩ := h
    obtain ⟨i5, h⟩ := h
    refine v_iald hX dX12_link_89 k4 i5 ?_
    refine v_i2l hX dX12_link_90 ?_
    refine v_lconst (v := 1) hX dX12_link_91 (by decide) ?_
    refine v_ldc2 hX dX12_link_92 k_RX12_406 ?_
    refine v_callSi0 hX dX12_link_95 c_RX12_298 cS_X12_in [pL _, pL _, pL _] rfl rfl (Nat.le_of_ble_eq_true rfl) (by decide) (by decide)  (m_X12_in h) (fun p7 s6 h => ?_)
    refine v_if_ne (tgt := 107) hX dX12_link_98 (by decide) (fun c8 => ?_) (fun c8 => ?_)
    · have h := h_E c8 h
      refine v_pick [0, 1, 2, 3, 4, 5] rfl ?_
      exact b_X12_link_107 hX hE _ h
    · have h := h_T c8 h
      refine v_aload_n hX dX12_link_101 0 rfl rfl ?_
      refine v_iconst (v := 2) hX dX12_link_102 (by decide) ?_
      obtain ⟨k9, h⟩ := h
      refine v_callVi0 hX dX12_link_103 c_RX12_408 cV_X12_failed (ci := 13) (T := TX12) (N := 115) rfl (by exact k9) [pI _] rfl rfl (Nat.le_of_ble_eq_true rfl) (by decide) (by decide)  (m_X12_failed h) (fun p11 s10 h => ?_)
      exact v_iret hX hE dX12_link_106 h
set_option maxRecDepth 100000 in
set_option maxHeartbeats 4000000 in
theorem b_X12_link_35 {X : h_X} (hX : h_ok X cX12_link 6 RX12 2 46) {Q : Int32 → h_S → Prop} (hE : h_end X (some .int) (h_QI (x_Z X) Q)) {o0 : Nat} {x1 : Int32} {x2 : Int32} {x3 : Int32} {x4 : Int32} {x5 : Int32} (s : h_S) (h : w_X12_link_35 Q o0 x1 x2 x3 x4 x5 s) : h_V X 6 35 [(0, pR (some o0)), (1, pI x1), (2, pI x2), (3, pI x3), (4, pI x4), (5, pI x5)] [] s 0 0 := by
  unfold w_X12_link_35 at h
  refine v_aload_n hX dX12_link_35 0 rfl rfl ?_
  refine v_iload_n hX dX12_link_36 2 rfl rfl ?_
  refine v_iload_n hX dX12_link_37 3 rfl rfl ?_
  obtain ⟨k1, h⟩ := h
  refine v_callVi0 hX dX12_link_38 c_RX12_518 cV_X12_areWords (ci := 13) (T := TX12) (N := 115) rfl (by exact k1) [pI _, pI _] rfl rfl (Nat.le_of_ble_eq_true rfl) (by decide) (by decide)  (m_X12_areWords h) (fun p3 s2 h => ?_)
  refine v_if_eq (tgt := 72) hX dX12_link_41 (by decide) (fun c4 => ?_) (fun c4 => ?_)
  · have h := h_T c4 h
    refine v_pick [0] rfl ?_
    exact b_X12_link_72 hX hE _ h
  · have h := h_E c4 h
    refine v_iload_n hX dX12_link_44 1 rfl rfl ?_
    refine v_iconst (v := 2) hX dX12_link_45 (by decide) ?_
    refine v_icmp_ne (tgt := 61) hX dX12_link_46 (by decide) (fun c5 => ?_) (fun c5 => ?_)
    · have h := h_E c5 h
      refine v_aload_n hX dX12_link_61 0 rfl rfl ?_
      refine v_iload hX dX12_link_62 4 rfl ?_
      refine v_iload hX dX12_link_64 5 rfl ?_
      obtain ⟨k6, h⟩ := h
      refine v_callVi0 hX dX12_link_66 c_RX12_518 cV_X12_areWords (ci := 13) (T := TX12) (N := 115) rfl (by exact k6) [pI _, pI _] rfl rfl (Nat.le_of_ble_eq_true rfl) (by decide) (by decide)  (m_X12_areWords h) (fun p8 s7 h => ?_)
      refine v_if_ne (tgt := 78) hX dX12_link_69 (by decide) (fun c9 => ?_) (fun c9 => ?_)
      · have h := h_E c9 h
        refine v_pick [0, 1, 2, 3, 4, 5] rfl ?_
        exact b_X12_link_78 hX hE _ h
      · have h := h_T c9 h
        refine v_pick [0] rfl ?_
        exact b_X12_link_72 hX hE _ h
    · have h := h_T c5 h
      refine v_aload_n hX dX12_link_49 0 rfl rfl ?_
      refine v_iload hX dX12_link_50 4 rfl ?_
      obtain ⟨k10, h⟩ := h
      refine v_callVi0 hX dX12_link_52 c_RX12_521 cV_X12_noLink (ci := 13) (T := TX12) (N := 115) rfl (by exact k10) [pI _] rfl rfl (Nat.le_of_ble_eq_true rfl) (by decide) (by decide)  (m_X12_noLink h) (fun p12 s11 h => ?_)
      refine v_if_eq (tgt := 78) hX dX12_link_55 (by decide) (fun c13 => ?_) (fun c13 => ?_)
      · have h := h_T c13 h
        refine v_pick [0, 1, 2, 3, 4, 5] rfl ?_
        exact b_X12_link_78 hX hE _ h
      · have h := h_E c13 h
        refine v_goto (tgt := 72) hX dX12_link_58 (by decide) ?_
        refine v_pick [0] rfl ?_
        exact b_X12_link_72 hX hE _ h
set_option maxRecDepth 100000 in
set_option maxHeartbeats 4000000 in
theorem m_X12_link {Z : h_Z} {o0 : Nat} {x1 : Int32} {x2 : Int32} {x3 : Int32} {x4 : Int32} {x5 : Int32} {s : h_S} {Q : Int32 → h_S → Prop} (h : w_X12_link o0 x1 x2 x3 x4 x5 s Q) : h_M Z yX12_link cX12_link 6 (some .int) 2 46 [pR (some o0), pI x1, pI x2, pI x3, pI x4, pI x5] s 0 0 (h_QI Z Q) := by
  refine h_M.of (by decide) (Nat.le_of_ble_eq_true rfl) (fun X hZ hX hE hI => ?_)
  subst hZ
  unfold w_X12_link at h
  show h_V X 6 0 [(0, pR (some o0)), (1, pI x1), (2, pI x2), (3, pI x3), (4, pI x4), (5, pI x5)] [] s 0 0
  refine v_iload_n hX dX12_link_0 1 rfl rfl ?_
  refine v_i2l hX dX12_link_1 ?_
  refine v_lconst (v := 0) hX dX12_link_2 (by decide) ?_
  refine v_ldc2 hX dX12_link_3 k_RX12_516 ?_
  refine v_callSi0 hX dX12_link_6 c_RX12_298 cS_X12_in [pL _, pL _, pL _] rfl rfl (Nat.le_of_ble_eq_true rfl) (by decide) (by decide)  (m_X12_in h) (fun p2 s1 h => ?_)
  refine v_if_eq (tgt := 28) hX dX12_link_9 (by decide) (fun c3 => ?_) (fun c3 => ?_)
  · have h := h_T c3 h
    refine v_pick [0] rfl ?_
    exact b_X12_link_28 hX hE _ h
  · have h := h_E c3 h
    refine v_iload_n hX dX12_link_12 3 rfl rfl ?_
    refine v_iconst (v := 1) hX dX12_link_13 (by decide) ?_
    refine v_icmp_lt (tgt := 28) hX dX12_link_14 (by decide) (fun c4 => ?_) (fun c4 => ?_)
    · have h := h_T c4 h
      refine v_pick [0] rfl ?_
      exact b_X12_link_28 hX hE _ h
    · have h := h_E c4 h
      refine v_iload_n hX dX12_link_17 1 rfl rfl ?_
      refine v_iconst (v := 2) hX dX12_link_18 (by decide) ?_
      refine v_icmp_eq (tgt := 35) hX dX12_link_19 (by decide) (fun c5 => ?_) (fun c5 => ?_)
      · have h := h_T c5 h
        refine v_pick [0, 1, 2, 3, 4, 5] rfl ?_
        exact b_X12_link_35 hX hE _ h
      · have h := h_E c5 h
        refine v_iload hX dX12_link_22 5 rfl ?_
        refine v_iconst (v := 1) hX dX12_link_24 (by decide) ?_
        refine v_icmp_ge (tgt := 35) hX dX12_link_25 (by decide) (fun c6 => ?_) (fun c6 => ?_)
        · have h := h_T c6 h
          refine v_pick [0, 1, 2, 3, 4, 5] rfl ?_
          exact b_X12_link_35 hX hE _ h
        · have h := h_E c6 h
          refine v_pick [0] rfl ?_
          exact b_X12_link_28 hX hE _ h
set_option maxRecDepth 100000 in
set_option maxHeartbeats 4000000 in
theorem m_X12_ofLink {Z : h_Z} {o0 : Nat} {x1 : Int32} {x2 : Int32} {s : h_S} {Q : Int32 → h_S → Prop} (h : w_X12_ofLink o0 x1 x2 s Q) : h_M Z yX12_ofLink cX12_ofLink 3 (some .int) 2 46 [pR (some o0), pI x1, pI x2] s 0 0 (h_QI Z Q) := by
  refine h_M.of (by decide) (Nat.le_of_ble_eq_true rfl) (fun X hZ hX hE hI => ?_)
  subst hZ
  unfold w_X12_ofLink at h
  show h_V X 3 0 [(0, pR (some o0)), (1, pI x1), (2, pI x2)] [] s 0 0
  refine v_aload_n hX dX12_ofLink_0 0 rfl rfl ?_
  refine v_iload_n hX dX12_ofLink_1 1 rfl rfl ?_
  obtain ⟨k1, h⟩ := h
  refine v_callVi0 hX dX12_ofLink_2 c_RX12_521 cV_X12_noLink (ci := 13) (T := TX12) (N := 115) rfl (by exact k1) [pI _] rfl rfl (Nat.le_of_ble_eq_true rfl) (by decide) (by decide)  (m_X12_noLink h) (fun p3 s2 h => ?_)
  refine v_if_eq (tgt := 10) hX dX12_ofLink_5 (by decide) (fun c4 => ?_) (fun c4 => ?_)
  · have h := h_T c4 h
    refine v_iload_n hX dX12_ofLink_10 2 rfl rfl ?_
    refine v_gen (fun q35 e_q35 => ?_)
    rw [← e_q35] at h
    by_cases c5 : q35 = (0 : Int32)
    · have h := h_T c5 h
      refine v_tabIn (tgt := 48) hX dX12_ofLink_11 (by rw [c5]; decide) (by rw [c5]; decide) (by rw [c5]; rfl) (by decide) ?_
      refine v_aload_n hX dX12_ofLink_48 0 rfl rfl ?_
      obtain ⟨k6, h⟩ := h
      refine v_getR hX dX12_ofLink_49 f_RX12_201 rfl k6 ?_
      refine v_iload_n hX dX12_ofLink_52 1 rfl rfl ?_
      obtain ⟨a7, e_a7, h⟩ := h
      refine v_nn1 e_a7 ?_
      obtain ⟨k8, h⟩ := h
      obtain ⟨i9, h⟩ := h
      refine v_iald hX dX12_ofLink_53 k8 i9 ?_
      exact v_iret hX hE dX12_ofLink_54 h
    · have h := h_E c5 h
      by_cases c10 : q35 = (1 : Int32)
      · have h := h_T c10 h
        refine v_tabIn (tgt := 55) hX dX12_ofLink_11 (by rw [c10]; decide) (by rw [c10]; decide) (by rw [c10]; rfl) (by decide) ?_
        refine v_aload_n hX dX12_ofLink_55 0 rfl rfl ?_
        obtain ⟨k11, h⟩ := h
        refine v_getR hX dX12_ofLink_56 f_RX12_204 rfl k11 ?_
        refine v_iload_n hX dX12_ofLink_59 1 rfl rfl ?_
        obtain ⟨a12, e_a12, h⟩ := h
        refine v_nn1 e_a12 ?_
        obtain ⟨k13, h⟩ := h
        obtain ⟨i14, h⟩ := h
        refine v_iald hX dX12_ofLink_60 k13 i14 ?_
        exact v_iret hX hE dX12_ofLink_61 h
      · have h := h_E c10 h
        by_cases c15 : q35 = (2 : Int32)
        · have h := h_T c15 h
          refine v_tabIn (tgt := 62) hX dX12_ofLink_11 (by rw [c15]; decide) (by rw [c15]; decide) (by rw [c15]; rfl) (by decide) ?_
          refine v_aload_n hX dX12_ofLink_62 0 rfl rfl ?_
          obtain ⟨k16, h⟩ := h
          refine v_getR hX dX12_ofLink_63 f_RX12_207 rfl k16 ?_
          refine v_iload_n hX dX12_ofLink_66 1 rfl rfl ?_
          obtain ⟨a17, e_a17, h⟩ := h
          refine v_nn1 e_a17 ?_
          obtain ⟨k18, h⟩ := h
          obtain ⟨i19, h⟩ := h
          refine v_iald hX dX12_ofLink_67 k18 i19 ?_
          exact v_iret hX hE dX12_ofLink_68 h
        · have h := h_E c15 h
          by_cases c20 : q35 = (3 : Int32)
          · have h := h_T c20 h
            refine v_tabIn (tgt := 69) hX dX12_ofLink_11 (by rw [c20]; decide) (by rw [c20]; decide) (by rw [c20]; rfl) (by decide) ?_
            refine v_aload_n hX dX12_ofLink_69 0 rfl rfl ?_
            obtain ⟨k21, h⟩ := h
            refine v_getR hX dX12_ofLink_70 f_RX12_210 rfl k21 ?_
            refine v_iload_n hX dX12_ofLink_73 1 rfl rfl ?_
            obtain ⟨a22, e_a22, h⟩ := h
            refine v_nn1 e_a22 ?_
            obtain ⟨k23, h⟩ := h
            obtain ⟨i24, h⟩ := h
            refine v_iald hX dX12_ofLink_74 k23 i24 ?_
            exact v_iret hX hE dX12_ofLink_75 h
          · have h := h_E c20 h
            by_cases c25 : q35 = (4 : Int32)
            · have h := h_T c25 h
              refine v_tabIn (tgt := 76) hX dX12_ofLink_11 (by rw [c25]; decide) (by rw [c25]; decide) (by rw [c25]; rfl) (by decide) ?_
              refine v_aload_n hX dX12_ofLink_76 0 rfl rfl ?_
              obtain ⟨k26, h⟩ := h
              refine v_getR hX dX12_ofLink_77 f_RX12_213 rfl k26 ?_
              refine v_iload_n hX dX12_ofLink_80 1 rfl rfl ?_
              obtain ⟨a27, e_a27, h⟩ := h
              refine v_nn1 e_a27 ?_
              obtain ⟨k28, h⟩ := h
              obtain ⟨i29, h⟩ := h
              refine v_iald hX dX12_ofLink_81 k28 i29 ?_
              exact v_iret hX hE dX12_ofLink_82 h
            · have h := h_E c25 h
              by_cases c30 : q35 = (5 : Int32)
              · have h := h_T c30 h
                refine v_tabIn (tgt := 83) hX dX12_ofLink_11 (by rw [c30]; decide) (by rw [c30]; decide) (by rw [c30]; rfl) (by decide) ?_
                refine v_aload_n hX dX12_ofLink_83 0 rfl rfl ?_
                obtain ⟨k31, h⟩ := h
                refine v_getR hX dX12_ofLink_84 f_RX12_216 rfl k31 ?_
                refine v_iload_n hX dX12_ofLink_87 1 rfl rfl ?_
                obtain ⟨a32, e_a32, h⟩ := h
                refine v_nn1 e_a32 ?_
                obtain ⟨k33, h⟩ := h
                obtain ⟨i34, h⟩ := h
                refine v_iald hX dX12_ofLink_88 k33 i34 ?_
                exact v_iret hX hE dX12_ofLink_89 h
              · have h := h_E c30 h
                refine v_tabOut (tgt := 90) hX dX12_ofLink_11 (by have := h_ti c5 (n := 0) rfl; have := h_ti c10 (n := 1) rfl; have := h_ti c15 (n := 2) rfl; have := h_ti c20 (n := 3) rfl; have := h_ti c25 (n := 4) rfl; have := h_ti c30 (n := 5) rfl; omega) (by decide) ?_
                refine v_bipush (v := -2) hX dX12_ofLink_90 (by decide) ?_
                exact v_iret hX hE dX12_ofLink_92 h
  · have h := h_E c4 h
    refine v_iconst (v := -1) hX dX12_ofLink_8 (by decide) ?_
    exact v_iret hX hE dX12_ofLink_9 h
set_option maxRecDepth 100000 in
set_option maxHeartbeats 4000000 in
theorem b_X12_findPart_179 {X : h_X} (hX : h_ok X cX12_findPart 9 RX12 1 25) {Q : Int32 → h_S → Prop} (hE : h_end X (some .int) (h_QI (x_Z X) Q)) {K53 : Nat → Int32 → Int32 → Int32 → Int32 → Int32 → h_S → Prop} (hK53 : ∀ (o0 : Nat) (x3 : Int32) (x4 : Int32) (x5 : Int32) (x6 : Int32) (x7 : Int32) (s : h_S), K53 o0 x3 x4 x5 x6 x7 s → h_V X 9 53 [(0, pR (some o0)), (3, pI x3), (4, pI x4), (5, pI x5), (6, pI x6), (7, pI x7)] [] s 0 0) {o0 : Nat} {x3 : Int32} {x4 : Int32} {x5 : Int32} {x6 : Int32} {x7 : Int32} (s : h_S) (h : w_X12_findPart_179 Q K53 o0 x3 x4 x5 x6 x7 s) : h_V X 9 179 [(0, pR (some o0)), (3, pI x3), (4, pI x4), (5, pI x5), (6, pI x6), (7, pI x7)] [] s 0 0 := by
  unfold w_X12_findPart_179 at h
  refine v_goto (tgt := 53) hX dX12_findPart_179 (by decide) ?_
  refine v_pick [0, 1, 2, 3, 4, 5] rfl ?_
  exact hK53 _ _ _ _ _ _ _ h
set_option maxRecDepth 100000 in
set_option maxHeartbeats 4000000 in
theorem b_X12_findPart_170 {X : h_X} (hX : h_ok X cX12_findPart 9 RX12 1 25) {Q : Int32 → h_S → Prop} (hE : h_end X (some .int) (h_QI (x_Z X) Q)) {K53 : Nat → Int32 → Int32 → Int32 → Int32 → Int32 → h_S → Prop} (hK53 : ∀ (o0 : Nat) (x3 : Int32) (x4 : Int32) (x5 : Int32) (x6 : Int32) (x7 : Int32) (s : h_S), K53 o0 x3 x4 x5 x6 x7 s → h_V X 9 53 [(0, pR (some o0)), (3, pI x3), (4, pI x4), (5, pI x5), (6, pI x6), (7, pI x7)] [] s 0 0) {o0 : Nat} {x3 : Int32} {x4 : Int32} {x5 : Int32} {x6 : Int32} {x7 : Int32} (s : h_S) (h : w_X12_findPart_170 Q K53 o0 x3 x4 x5 x6 x7 s) : h_V X 9 170 [(0, pR (some o0)), (3, pI x3), (4, pI x4), (5, pI x5), (6, pI x6), (7, pI x7)] [] s 0 0 := by
  unfold w_X12_findPart_170 at h
  refine v_iinc (c := 1) (lv' := [(6, _), (0, _), (3, _), (4, _), (5, _), (7, _)]) hX dX12_findPart_170 4 rfl (by decide) (by decide) rfl ?_
  refine v_goto (tgt := 179) hX dX12_findPart_173 (by decide) ?_
  refine v_pick [1, 2, 3, 4, 0, 5] rfl ?_
  exact b_X12_findPart_179 hX hE hK53 _ h
set_option maxRecDepth 100000 in
set_option maxHeartbeats 4000000 in
theorem b_X12_findPart_149 {X : h_X} (hX : h_ok X cX12_findPart 9 RX12 1 25) {Q : Int32 → h_S → Prop} (hE : h_end X (some .int) (h_QI (x_Z X) Q)) {K53 : Nat → Int32 → Int32 → Int32 → Int32 → Int32 → h_S → Prop} (hK53 : ∀ (o0 : Nat) (x3 : Int32) (x4 : Int32) (x5 : Int32) (x6 : Int32) (x7 : Int32) (s : h_S), K53 o0 x3 x4 x5 x6 x7 s → h_V X 9 53 [(0, pR (some o0)), (3, pI x3), (4, pI x4), (5, pI x5), (6, pI x6), (7, pI x7)] [] s 0 0) {o0 : Nat} {x3 : Int32} {x4 : Int32} {x5 : Int32} {x6 : Int32} {x7 : Int32} {x8 : Int32} (s : h_S) (h : w_X12_findPart_149 Q K53 o0 x3 x4 x5 x6 x7 x8 s) : h_V X 9 149 [(0, pR (some o0)), (3, pI x3), (4, pI x4), (5, pI x5), (6, pI x6), (7, pI x7), (8, pI x8)] [] s 0 0 := by
  unfold w_X12_findPart_149 at h
  refine v_iload hX dX12_findPart_149 4 rfl ?_
  refine v_iload_n hX dX12_findPart_151 1 rfl rfl ?_
  refine v_icmp_ne (tgt := 170) hX dX12_findPart_152 (by decide) (fun c1 => ?_) (fun c1 => ?_)
  · have h := h_E c1 h
    refine v_pick [0, 1, 2, 3, 4, 5] rfl ?_
    exact b_X12_findPart_170 hX hE hK53 _ h
  · have h := h_T c1 h
    refine v_aload_n hX dX12_findPart_155 0 rfl rfl ?_
    refine v_iload hX dX12_findPart_156 6 rfl ?_
    obtain ⟨k2, h⟩ := h
    refine v_putI hX dX12_findPart_158 f_RX12_528 k2 ?_
    refine v_aload_n hX dX12_findPart_161 0 rfl rfl ?_
    refine v_iload hX dX12_findPart_162 5 rfl ?_
    refine v_iload hX dX12_findPart_164 6 rfl ?_
    refine v_isub hX dX12_findPart_166 ?_
    refine v_putI hX dX12_findPart_167 f_RX12_531 k2 ?_
    refine v_pick [0, 1, 2, 3, 4, 5] rfl ?_
    exact b_X12_findPart_170 hX hE hK53 _ h
set_option maxRecDepth 100000 in
set_option maxHeartbeats 4000000 in
theorem b_X12_findPart_101 {X : h_X} (hX : h_ok X cX12_findPart 9 RX12 1 25) {Q : Int32 → h_S → Prop} (hE : h_end X (some .int) (h_QI (x_Z X) Q)) {K53 : Nat → Int32 → Int32 → Int32 → Int32 → Int32 → h_S → Prop} (hK53 : ∀ (o0 : Nat) (x3 : Int32) (x4 : Int32) (x5 : Int32) (x6 : Int32) (x7 : Int32) (s : h_S), K53 o0 x3 x4 x5 x6 x7 s → h_V X 9 53 [(0, pR (some o0)), (3, pI x3), (4, pI x4), (5, pI x5), (6, pI x6), (7, pI x7)] [] s 0 0) : ∀ (n : Nat) (o0 : Nat) (x3 : Int32) (x4 : Int32) (x5 : Int32) (x6 : Int32) (x7 : Int32) (x8 : Int32) (s : h_S), w_X12_findPart_101 Q K53 n o0 x3 x4 x5 x6 x7 x8 s → h_V X 9 101 [(0, pR (some o0)), (3, pI x3), (4, pI x4), (5, pI x5), (6, pI x6), (7, pI x7), (8, pI x8)] [] s 0 0 := by
  intro n
  induction n with
  | zero => intro _ _ _ _ _ _ _ s h; exact h.elim
  | succ n hK101 =>
    intro o0 x3 x4 x5 x6 x7 x8 s h
    have h : w_X12_findPart_101b Q K53 (w_X12_findPart_101 Q K53 n) o0 x3 x4 x5 x6 x7 x8 s := h
    unfold w_X12_findPart_101b at h
    refine v_iload hX dX12_findPart_101 5 rfl ?_
    refine v_aload_n hX dX12_findPart_103 0 rfl rfl ?_
    obtain ⟨k1, h⟩ := h
    refine v_getI hX dX12_findPart_104 f_RX12_342 rfl k1 ?_
    refine v_icmp_ge (tgt := 149) hX dX12_findPart_107 (by decide) (fun c2 => ?_) (fun c2 => ?_)
    · have h := h_T c2 h
      refine v_pick [0, 1, 2, 3, 4, 5, 6] rfl ?_
      exact b_X12_findPart_149 hX hE hK53 _ h
    · have h := h_E c2 h
      refine v_aload_n hX dX12_findPart_110 0 rfl rfl ?_
      refine v_getR hX dX12_findPart_111 f_RX12_91 rfl k1 ?_
      refine v_iload hX dX12_findPart_114 5 rfl ?_
      obtain ⟨a3, e_a3, h⟩ := h
      refine v_nn1 e_a3 ?_
      obtain ⟨k4, h⟩ := h
      obtain ⟨i5, h⟩ := h
      refine v_iald hX dX12_findPart_116 k4 i5 ?_
      refine v_aload_n hX dX12_findPart_117 0 rfl rfl ?_
      refine v_getR hX dX12_findPart_118 f_RX12_91 rfl k1 ?_
      refine v_iload hX dX12_findPart_121 5 rfl ?_
      refine v_iconst (v := 1) hX dX12_findPart_123 (by decide) ?_
      refine v_isub hX dX12_findPart_124 ?_
      obtain ⟨a6, e_a6, h⟩ := h
      refine v_nn1 e_a6 ?_
      obtain ⟨k7, h⟩ := h
      obtain ⟨i8, h⟩ := h
      refine v_iald hX dX12_findPart_125 k7 i8 ?_
      refine v_iconst (v := 1) hX dX12_findPart_126 (by decide) ?_
      refine v_iadd hX dX12_findPart_127 ?_
      refine v_icmp_ne (tgt := 149) hX dX12_findPart_128 (by decide) (fun c9 => ?_) (fun c9 => ?_)
      · have h := h_E c9 h
        refine v_pick [0, 1, 2, 3, 4, 5, 6] rfl ?_
        exact b_X12_findPart_149 hX hE hK53 _ h
      · have h := h_T c9 h
        refine v_aload_n hX dX12_findPart_131 0 rfl rfl ?_
        refine v_getR hX dX12_findPart_132 f_RX12_91 rfl k1 ?_
        refine v_iload hX dX12_findPart_135 5 rfl ?_
        obtain ⟨a10, e_a10, h⟩ := h
        refine v_nn1 e_a10 ?_
        obtain ⟨k11, h⟩ := h
        obtain ⟨i12, h⟩ := h
        refine v_iald hX dX12_findPart_137 k11 i12 ?_
        refine v_iload hX dX12_findPart_138 3 rfl ?_
        refine v_icmp_gt (tgt := 149) hX dX12_findPart_140 (by decide) (fun c13 => ?_) (fun c13 => ?_)
        · have h := h_T c13 h
          refine v_pick [0, 1, 2, 3, 4, 5, 6] rfl ?_
          exact b_X12_findPart_149 hX hE hK53 _ h
        · have h := h_E c13 h
          refine v_iinc (c := 1) (lv' := [(7, _), (0, _), (3, _), (4, _), (5, _), (6, _), (8, _)]) hX dX12_findPart_143 5 rfl (by decide) (by decide) rfl ?_
          refine v_goto (tgt := 101) hX dX12_findPart_146 (by decide) ?_
          refine v_pick [1, 2, 3, 4, 5, 0, 6] rfl ?_
          exact hK101 _ _ _ _ _ _ _ _ h
set_option maxRecDepth 100000 in
set_option maxHeartbeats 4000000 in
theorem b_X12_findPart_176 {X : h_X} (hX : h_ok X cX12_findPart 9 RX12 1 25) {Q : Int32 → h_S → Prop} (hE : h_end X (some .int) (h_QI (x_Z X) Q)) {K53 : Nat → Int32 → Int32 → Int32 → Int32 → Int32 → h_S → Prop} (hK53 : ∀ (o0 : Nat) (x3 : Int32) (x4 : Int32) (x5 : Int32) (x6 : Int32) (x7 : Int32) (s : h_S), K53 o0 x3 x4 x5 x6 x7 s → h_V X 9 53 [(0, pR (some o0)), (3, pI x3), (4, pI x4), (5, pI x5), (6, pI x6), (7, pI x7)] [] s 0 0) {o0 : Nat} {x3 : Int32} {x4 : Int32} {x5 : Int32} {x6 : Int32} {x7 : Int32} (s : h_S) (h : w_X12_findPart_176 Q K53 o0 x3 x4 x5 x6 x7 s) : h_V X 9 176 [(0, pR (some o0)), (3, pI x3), (4, pI x4), (5, pI x5), (6, pI x6), (7, pI x7)] [] s 0 0 := by
  unfold w_X12_findPart_176 at h
  refine v_iinc (c := 1) (lv' := [(7, _), (0, _), (3, _), (4, _), (5, _), (6, _)]) hX dX12_findPart_176 5 rfl (by decide) (by decide) rfl ?_
  refine v_pick [1, 2, 3, 4, 5, 0] rfl ?_
  exact b_X12_findPart_179 hX hE hK53 _ h
set_option maxRecDepth 100000 in
set_option maxHeartbeats 4000000 in
theorem b_X12_findPart_53 {X : h_X} (hX : h_ok X cX12_findPart 9 RX12 1 25) {Q : Int32 → h_S → Prop} (hE : h_end X (some .int) (h_QI (x_Z X) Q)) : ∀ (n : Nat) (o0 : Nat) (x3 : Int32) (x4 : Int32) (x5 : Int32) (x6 : Int32) (x7 : Int32) (s : h_S), w_X12_findPart_53 Q n o0 x3 x4 x5 x6 x7 s → h_V X 9 53 [(0, pR (some o0)), (3, pI x3), (4, pI x4), (5, pI x5), (6, pI x6), (7, pI x7)] [] s 0 0 := by
  intro n
  induction n with
  | zero => intro _ _ _ _ _ _ s h; exact h.elim
  | succ n hK53 =>
    intro o0 x3 x4 x5 x6 x7 s h
    have h : w_X12_findPart_53b Q (w_X12_findPart_53 Q n) o0 x3 x4 x5 x6 x7 s := h
    unfold w_X12_findPart_53b at h
    refine v_iload hX dX12_findPart_53 5 rfl ?_
    refine v_aload_n hX dX12_findPart_55 0 rfl rfl ?_
    obtain ⟨k1, h⟩ := h
    refine v_getI hX dX12_findPart_56 f_RX12_342 rfl k1 ?_
    refine v_icmp_ge (tgt := 182) hX dX12_findPart_59 (by decide) (fun c2 => ?_) (fun c2 => ?_)
    · have h := h_T c2 h
      refine v_iload hX dX12_findPart_182 4 rfl ?_
      exact v_iret hX hE dX12_findPart_184 h
    · have h := h_E c2 h
      refine v_iload hX dX12_findPart_62 5 rfl ?_
      refine v_istore (lv' := [(8, _), (0, _), (3, _), (4, _), (5, _), (6, _), (7, _)]) hX dX12_findPart_64 (by decide) rfl ?_
      refine v_aload_n hX dX12_findPart_66 1 rfl rfl ?_
      refine v_getR hX dX12_findPart_67 f_RX12_91 rfl k1 ?_
      refine v_iload hX dX12_findPart_70 6 rfl ?_
      obtain ⟨a3, e_a3, h⟩ := h
      refine v_nn1 e_a3 ?_
      obtain ⟨k4, h⟩ := h
      obtain ⟨i5, h⟩ := h
      refine v_iald hX dX12_findPart_72 k4 i5 ?_
      refine v_bipush (v := -7) hX dX12_findPart_73 (by decide) ?_
      refine v_icmp_eq (tgt := 176) hX dX12_findPart_75 (by decide) (fun c6 => ?_) (fun c6 => ?_)
      · have h := h_T c6 h
        refine v_pick [1, 2, 3, 4, 5, 6] rfl ?_
        exact b_X12_findPart_176 hX hE hK53 _ h
      · have h := h_E c6 h
        refine v_aload_n hX dX12_findPart_78 1 rfl rfl ?_
        refine v_getR hX dX12_findPart_79 f_RX12_91 rfl k1 ?_
        refine v_iload hX dX12_findPart_82 6 rfl ?_
        obtain ⟨a7, e_a7, h⟩ := h
        refine v_nn1 e_a7 ?_
        obtain ⟨k8, h⟩ := h
        obtain ⟨i9, h⟩ := h
        refine v_iald hX dX12_findPart_84 k8 i9 ?_
        refine v_i2l hX dX12_findPart_85 ?_
        refine v_iload hX dX12_findPart_86 3 rfl ?_
        refine v_i2l hX dX12_findPart_88 ?_
        refine v_iload hX dX12_findPart_89 4 rfl ?_
        refine v_i2l hX dX12_findPart_91 ?_
        refine v_callSi0 hX dX12_findPart_92 c_RX12_298 cS_X12_in [pL _, pL _, pL _] rfl rfl (Nat.le_of_ble_eq_true rfl) (by decide) (by decide)  (m_X12_in h) (fun p11 s10 h => ?_)
        refine v_if_eq (tgt := 176) hX dX12_findPart_95 (by decide) (fun c12 => ?_) (fun c12 => ?_)
        · have h := h_T c12 h
          refine v_pick [1, 2, 3, 4, 5, 6] rfl ?_
          exact b_X12_findPart_176 hX hE hK53 _ h
        · have h := h_E c12 h
          refine v_iinc (c := 1) (lv' := [(7, _), (8, _), (0, _), (3, _), (4, _), (5, _), (6, _)]) hX dX12_findPart_98 6 rfl (by decide) (by decide) rfl ?_
          refine v_pick [2, 3, 4, 5, 6, 0, 1] rfl ?_
          obtain ⟨n, h⟩ := h
          exact b_X12_findPart_101 hX hE hK53 n _ _ _ _ _ _ _ _ h
set_option maxRecDepth 100000 in
set_option maxHeartbeats 4000000 in
theorem b_X12_findPart_42 {X : h_X} (hX : h_ok X cX12_findPart 9 RX12 1 25) {Q : Int32 → h_S → Prop} (hE : h_end X (some .int) (h_QI (x_Z X) Q)) {o0 : Nat} {x3 : Int32} {x4 : Int32} {y0 : Int32} {y1 : Int32} (s : h_S) (h : w_X12_findPart_42 Q o0 x3 x4 y0 y1 s) : h_V X 9 42 [(0, pR (some o0)), (3, pI x3), (4, pI x4)] [pI y0, pI y1] s 0 0 := by
  unfold w_X12_findPart_42 at h
  refine v_iadd hX dX12_findPart_42 ?_
  refine v_iconst (v := 1) hX dX12_findPart_43 (by decide) ?_
  refine v_isub hX dX12_findPart_44 ?_
  refine v_istore (lv' := [(5, _), (0, _), (3, _), (4, _)]) hX dX12_findPart_45 (by decide) rfl ?_
  refine v_iconst (v := 0) hX dX12_findPart_47 (by decide) ?_
  refine v_istore (lv' := [(6, _), (5, _), (0, _), (3, _), (4, _)]) hX dX12_findPart_48 (by decide) rfl ?_
  refine v_iconst (v := 0) hX dX12_findPart_50 (by decide) ?_
  refine v_istore (lv' := [(7, _), (6, _), (5, _), (0, _), (3, _), (4, _)]) hX dX12_findPart_51 (by decide) rfl ?_
  refine v_pick [3, 4, 5, 2, 1, 0] rfl ?_
  obtain ⟨n, h⟩ := h
  exact b_X12_findPart_53 hX hE n _ _ _ _ _ _ _ h
set_option maxRecDepth 100000 in
set_option maxHeartbeats 4000000 in
theorem b_X12_findPart_19 {X : h_X} (hX : h_ok X cX12_findPart 9 RX12 1 25) {Q : Int32 → h_S → Prop} (hE : h_end X (some .int) (h_QI (x_Z X) Q)) {o0 : Nat} {x1 : Int32} {x2 : Int32} {x3 : Int32} {y0 : Int32} (s : h_S) (h : w_X12_findPart_19 Q o0 x1 x2 x3 y0 s) : h_V X 9 19 [(0, pR (some o0)), (1, pI x1), (2, pI x2), (3, pI x3)] [pI y0] s 0 0 := by
  unfold w_X12_findPart_19 at h
  refine v_istore (lv' := [(4, _), (0, _), (1, _), (2, _), (3, _)]) hX dX12_findPart_19 (by decide) rfl ?_
  refine v_iload hX dX12_findPart_21 0 rfl ?_
  refine v_iload_n hX dX12_findPart_23 3 rfl rfl ?_
  refine v_if_ne (tgt := 36) hX dX12_findPart_24 (by decide) (fun c1 => ?_) (fun c1 => ?_)
  · have h := h_E c1 h
    refine v_aload_n hX dX12_findPart_36 1 rfl rfl ?_
    obtain ⟨k2, h⟩ := h
    refine v_getR hX dX12_findPart_37 f_RX12_213 rfl k2 ?_
    refine v_iload_n hX dX12_findPart_40 2 rfl rfl ?_
    obtain ⟨a3, e_a3, h⟩ := h
    refine v_nn1 e_a3 ?_
    obtain ⟨k4, h⟩ := h
    obtain ⟨i5, h⟩ := h
    refine v_iald hX dX12_findPart_41 k4 i5 ?_
    refine v_pick [1, 4, 0] rfl ?_
    exact b_X12_findPart_42 hX hE _ h
  · have h := h_T c1 h
    refine v_aload_n hX dX12_findPart_27 1 rfl rfl ?_
    obtain ⟨k6, h⟩ := h
    refine v_getR hX dX12_findPart_28 f_RX12_207 rfl k6 ?_
    refine v_iload_n hX dX12_findPart_31 2 rfl rfl ?_
    obtain ⟨a7, e_a7, h⟩ := h
    refine v_nn1 e_a7 ?_
    obtain ⟨k8, h⟩ := h
    obtain ⟨i9, h⟩ := h
    refine v_iald hX dX12_findPart_32 k8 i9 ?_
    refine v_goto (tgt := 42) hX dX12_findPart_33 (by decide) ?_
    refine v_pick [1, 4, 0] rfl ?_
    exact b_X12_findPart_42 hX hE _ h
set_option maxRecDepth 100000 in
set_option maxHeartbeats 4000000 in
theorem m_X12_findPart {Z : h_Z} {o0 : Nat} {x1 : Int32} {x2 : Int32} {x3 : Int32} {s : h_S} {Q : Int32 → h_S → Prop} (h : w_X12_findPart o0 x1 x2 x3 s Q) : h_M Z yX12_findPart cX12_findPart 9 (some .int) 1 25 [pR (some o0), pI x1, pI x2, pI x3] s 0 0 (h_QI Z Q) := by
  refine h_M.of (by decide) (Nat.le_of_ble_eq_true rfl) (fun X hZ hX hE hI => ?_)
  subst hZ
  unfold w_X12_findPart at h
  show h_V X 9 0 [(0, pR (some o0)), (1, pI x1), (2, pI x2), (3, pI x3)] [] s 0 0
  refine v_iload_n hX dX12_findPart_0 2 rfl rfl ?_
  refine v_if_ne (tgt := 13) hX dX12_findPart_1 (by decide) (fun c1 => ?_) (fun c1 => ?_)
  · have h := h_E c1 h
    refine v_aload_n hX dX12_findPart_13 0 rfl rfl ?_
    obtain ⟨k2, h⟩ := h
    refine v_getR hX dX12_findPart_14 f_RX12_210 rfl k2 ?_
    refine v_iload_n hX dX12_findPart_17 1 rfl rfl ?_
    obtain ⟨a3, e_a3, h⟩ := h
    refine v_nn1 e_a3 ?_
    obtain ⟨k4, h⟩ := h
    obtain ⟨i5, h⟩ := h
    refine v_iald hX dX12_findPart_18 k4 i5 ?_
    refine v_pick [0, 1, 2, 3] rfl ?_
    exact b_X12_findPart_19 hX hE _ h
  · have h := h_T c1 h
    refine v_aload_n hX dX12_findPart_4 0 rfl rfl ?_
    obtain ⟨k6, h⟩ := h
    refine v_getR hX dX12_findPart_5 f_RX12_204 rfl k6 ?_
    refine v_iload_n hX dX12_findPart_8 1 rfl rfl ?_
    obtain ⟨a7, e_a7, h⟩ := h
    refine v_nn1 e_a7 ?_
    obtain ⟨k8, h⟩ := h
    obtain ⟨i9, h⟩ := h
    refine v_iald hX dX12_findPart_9 k8 i9 ?_
    refine v_goto (tgt := 19) hX dX12_findPart_10 (by decide) ?_
    refine v_pick [0, 1, 2, 3] rfl ?_
    exact b_X12_findPart_19 hX hE _ h
set_option maxRecDepth 100000 in
set_option maxHeartbeats 4000000 in
theorem b_X12_ends_16 {X : h_X} (hX : h_ok X cX12_ends 4 RX12 5 118) {Q : Int32 → h_S → Prop} (hE : h_end X (some .int) (h_QI (x_Z X) Q)) (s : h_S) (h : w_X12_ends_16 Q s) : h_V X 4 16 [] [] s 0 0 := by
  unfold w_X12_ends_16 at h
  refine v_iconst (v := -1) hX dX12_ends_16 (by decide) ?_
  exact v_iret hX hE dX12_ends_17 h
set_option maxRecDepth 100000 in
set_option maxHeartbeats 4000000 in
theorem m_X12_ends {Z : h_Z} {o0 : Nat} {x1 : Int32} {x2 : Int32} {x3 : Int32} {s : h_S} {Q : Int32 → h_S → Prop} (h : w_X12_ends o0 x1 x2 x3 s Q) : h_M Z yX12_ends cX12_ends 4 (some .int) 5 118 [pR (some o0), pI x1, pI x2, pI x3] s 0 0 (h_QI Z Q) := by
  refine h_M.of (by decide) (Nat.le_of_ble_eq_true rfl) (fun X hZ hX hE hI => ?_)
  subst hZ
  unfold w_X12_ends at h
  show h_V X 4 0 [(0, pR (some o0)), (1, pI x1), (2, pI x2), (3, pI x3)] [] s 0 0
  refine v_aload_n hX dX12_ends_0 0 rfl rfl ?_
  refine v_iload_n hX dX12_ends_1 1 rfl rfl ?_
  obtain ⟨k1, h⟩ := h
  refine v_callVi0 hX dX12_ends_2 c_RX12_521 cV_X12_noLink (ci := 13) (T := TX12) (N := 115) rfl (by exact k1) [pI _] rfl rfl (Nat.le_of_ble_eq_true rfl) (by decide) (by decide)  (m_X12_noLink h) (fun p3 s2 h => ?_)
  refine v_if_ne (tgt := 16) hX dX12_ends_5 (by decide) (fun c4 => ?_) (fun c4 => ?_)
  · have h := h_E c4 h
    refine v_pick [] rfl ?_
    exact b_X12_ends_16 hX hE _ h
  · have h := h_T c4 h
    refine v_aload_n hX dX12_ends_8 0 rfl rfl ?_
    refine v_iload_n hX dX12_ends_9 3 rfl rfl ?_
    obtain ⟨k5, h⟩ := h
    refine v_callVi0 hX dX12_ends_10 c_RX12_458 cV_X12_noVersion (ci := 13) (T := TX12) (N := 115) rfl (by exact k5) [pI _] rfl rfl (Nat.le_of_ble_eq_true rfl) (by decide) (by decide)  (m_X12_noVersion h) (fun p7 s6 h => ?_)
    refine v_if_eq (tgt := 18) hX dX12_ends_13 (by decide) (fun c8 => ?_) (fun c8 => ?_)
    · have h := h_T c8 h
      refine v_iload_n hX dX12_ends_18 2 rfl rfl ?_
      refine v_i2l hX dX12_ends_19 ?_
      refine v_lconst (v := 0) hX dX12_ends_20 (by decide) ?_
      refine v_lconst (v := 1) hX dX12_ends_21 (by decide) ?_
      refine v_callSi0 hX dX12_ends_22 c_RX12_298 cS_X12_in [pL _, pL _, pL _] rfl rfl (Nat.le_of_ble_eq_true rfl) (by decide) (by decide)  (m_X12_in h) (fun p10 s9 h => ?_)
      refine v_if_ne (tgt := 31) hX dX12_ends_25 (by decide) (fun c11 => ?_) (fun c11 => ?_)
      · have h := h_E c11 h
        refine v_aload_n hX dX12_ends_31 0 rfl rfl ?_
        refine v_iload_n hX dX12_ends_32 3 rfl rfl ?_
        obtain ⟨k12, h⟩ := h
        refine v_callVv0 hX dX12_ends_33 c_RX12_461 cV_X12_layVersion (ci := 13) (T := TX12) (N := 115) rfl (by exact k12) [pI _] rfl rfl (Nat.le_of_ble_eq_true rfl) (by decide) (by decide)  (m_X12_layVersion h) (fun s13 h => ?_)
        refine v_aload_n hX dX12_ends_36 0 rfl rfl ?_
        refine v_iload_n hX dX12_ends_37 1 rfl rfl ?_
        refine v_iload_n hX dX12_ends_38 2 rfl rfl ?_
        refine v_iconst (v := -1) hX dX12_ends_39 (by decide) ?_
        obtain ⟨k15, h⟩ := h
        refine v_callVi0 hX dX12_ends_40 c_RX12_534 cV_X12_findPart (ci := 13) (T := TX12) (N := 115) rfl (by exact k15) [pI _, pI _, pI _] rfl rfl (Nat.le_of_ble_eq_true rfl) (by decide) (by decide)  (m_X12_findPart h) (fun p17 s16 h => ?_)
        exact v_iret hX hE dX12_ends_43 h
      · have h := h_T c11 h
        refine v_bipush (v := -2) hX dX12_ends_28 (by decide) ?_
        exact v_iret hX hE dX12_ends_30 h
    · have h := h_E c8 h
      refine v_pick [] rfl ?_
      exact b_X12_ends_16 hX hE _ h
set_option maxRecDepth 100000 in
set_option maxHeartbeats 4000000 in
theorem b_X12_part_21 {X : h_X} (hX : h_ok X cX12_part 6 RX12 5 118) {Q : Int32 → h_S → Prop} (hE : h_end X (some .int) (h_QI (x_Z X) Q)) (s : h_S) (h : w_X12_part_21 Q s) : h_V X 6 21 [] [] s 0 0 := by
  unfold w_X12_part_21 at h
  refine v_iconst (v := -1) hX dX12_part_21 (by decide) ?_
  exact v_iret hX hE dX12_part_22 h
set_option maxRecDepth 100000 in
set_option maxHeartbeats 4000000 in
theorem b_X12_part_46 {X : h_X} (hX : h_ok X cX12_part 6 RX12 5 118) {Q : Int32 → h_S → Prop} (hE : h_end X (some .int) (h_QI (x_Z X) Q)) (s : h_S) (h : w_X12_part_46 Q s) : h_V X 6 46 [] [] s 0 0 := by
  unfold w_X12_part_46 at h
  refine v_bipush (v := -2) hX dX12_part_46 (by decide) ?_
  exact v_iret hX hE dX12_part_48 h
set_option maxRecDepth 100000 in
set_option maxHeartbeats 4000000 in
theorem b_X12_part_103 {X : h_X} (hX : h_ok X cX12_part 6 RX12 5 118) {Q : Int32 → h_S → Prop} (hE : h_end X (some .int) (h_QI (x_Z X) Q)) {y0 : Int32} (s : h_S) (h : w_X12_part_103 Q y0 s) : h_V X 6 103 [] [pI y0] s 0 0 := by
  unfold w_X12_part_103 at h
  exact v_iret hX hE dX12_part_103 h
set_option maxRecDepth 100000 in
set_option maxHeartbeats 4000000 in
theorem m_X12_part {Z : h_Z} {o0 : Nat} {x1 : Int32} {x2 : Int32} {x3 : Int32} {x4 : Int32} {x5 : Int32} {s : h_S} {Q : Int32 → h_S → Prop} (h : w_X12_part o0 x1 x2 x3 x4 x5 s Q) : h_M Z yX12_part cX12_part 6 (some .int) 5 118 [pR (some o0), pI x1, pI x2, pI x3, pI x4, pI x5] s 0 0 (h_QI Z Q) := by
  refine h_M.of (by decide) (Nat.le_of_ble_eq_true rfl) (fun X hZ hX hE hI => ?_)
  subst hZ
  unfold w_X12_part at h
  show h_V X 6 0 [(0, pR (some o0)), (1, pI x1), (2, pI x2), (3, pI x3), (4, pI x4), (5, pI x5)] [] s 0 0
  refine v_aload_n hX dX12_part_0 0 rfl rfl ?_
  refine v_iload_n hX dX12_part_1 1 rfl rfl ?_
  obtain ⟨k1, h⟩ := h
  refine v_callVi0 hX dX12_part_2 c_RX12_521 cV_X12_noLink (ci := 13) (T := TX12) (N := 115) rfl (by exact k1) [pI _] rfl rfl (Nat.le_of_ble_eq_true rfl) (by decide) (by decide)  (m_X12_noLink h) (fun p3 s2 h => ?_)
  refine v_if_ne (tgt := 21) hX dX12_part_5 (by decide) (fun c4 => ?_) (fun c4 => ?_)
  · have h := h_E c4 h
    refine v_pick [] rfl ?_
    exact b_X12_part_21 hX hE _ h
  · have h := h_T c4 h
    refine v_aload_n hX dX12_part_8 0 rfl rfl ?_
    refine v_iload_n hX dX12_part_9 3 rfl rfl ?_
    obtain ⟨k5, h⟩ := h
    refine v_callVi0 hX dX12_part_10 c_RX12_458 cV_X12_noVersion (ci := 13) (T := TX12) (N := 115) rfl (by exact k5) [pI _] rfl rfl (Nat.le_of_ble_eq_true rfl) (by decide) (by decide)  (m_X12_noVersion h) (fun p7 s6 h => ?_)
    refine v_if_ne (tgt := 21) hX dX12_part_13 (by decide) (fun c8 => ?_) (fun c8 => ?_)
    · have h := h_E c8 h
      refine v_pick [] rfl ?_
      exact b_X12_part_21 hX hE _ h
    · have h := h_T c8 h
      refine v_iload hX dX12_part_16 4 rfl ?_
      refine v_if_ge (tgt := 23) hX dX12_part_18 (by decide) (fun c9 => ?_) (fun c9 => ?_)
      · have h := h_T c9 h
        refine v_iload_n hX dX12_part_23 2 rfl rfl ?_
        refine v_i2l hX dX12_part_24 ?_
        refine v_lconst (v := 0) hX dX12_part_25 (by decide) ?_
        refine v_lconst (v := 1) hX dX12_part_26 (by decide) ?_
        refine v_callSi0 hX dX12_part_27 c_RX12_298 cS_X12_in [pL _, pL _, pL _] rfl rfl (Nat.le_of_ble_eq_true rfl) (by decide) (by decide)  (m_X12_in h) (fun p11 s10 h => ?_)
        refine v_if_eq (tgt := 46) hX dX12_part_30 (by decide) (fun c12 => ?_) (fun c12 => ?_)
        · have h := h_T c12 h
          refine v_pick [] rfl ?_
          exact b_X12_part_46 hX hE _ h
        · have h := h_E c12 h
          refine v_iload hX dX12_part_33 5 rfl ?_
          refine v_i2l hX dX12_part_35 ?_
          refine v_lconst (v := 0) hX dX12_part_36 (by decide) ?_
          refine v_ldc2 hX dX12_part_37 k_RX12_406 ?_
          refine v_callSi0 hX dX12_part_40 c_RX12_298 cS_X12_in [pL _, pL _, pL _] rfl rfl (Nat.le_of_ble_eq_true rfl) (by decide) (by decide)  (m_X12_in h) (fun p14 s13 h => ?_)
          refine v_if_ne (tgt := 49) hX dX12_part_43 (by decide) (fun c15 => ?_) (fun c15 => ?_)
          · have h := h_E c15 h
            refine v_aload_n hX dX12_part_49 0 rfl rfl ?_
            refine v_iload_n hX dX12_part_50 3 rfl rfl ?_
            obtain ⟨k16, h⟩ := h
            refine v_callVv0 hX dX12_part_51 c_RX12_461 cV_X12_layVersion (ci := 13) (T := TX12) (N := 115) rfl (by exact k16) [pI _] rfl rfl (Nat.le_of_ble_eq_true rfl) (by decide) (by decide)  (m_X12_layVersion h) (fun s17 h => ?_)
            refine v_iload hX dX12_part_54 4 rfl ?_
            refine v_aload_n hX dX12_part_56 0 rfl rfl ?_
            refine v_iload_n hX dX12_part_57 1 rfl rfl ?_
            refine v_iload_n hX dX12_part_58 2 rfl rfl ?_
            refine v_iload hX dX12_part_59 4 rfl ?_
            obtain ⟨k19, h⟩ := h
            refine v_callVi0 hX dX12_part_61 c_RX12_534 cV_X12_findPart (ci := 13) (T := TX12) (N := 115) rfl (by exact k19) [pI _, pI _, pI _] rfl rfl (Nat.le_of_ble_eq_true rfl) (by decide) (by decide)  (m_X12_findPart h) (fun p21 s20 h => ?_)
            refine v_icmp_lt (tgt := 69) hX dX12_part_64 (by decide) (fun c22 => ?_) (fun c22 => ?_)
            · have h := h_T c22 h
              refine v_iload hX dX12_part_69 5 rfl ?_
              refine v_if_ne (tgt := 81) hX dX12_part_71 (by decide) (fun c23 => ?_) (fun c23 => ?_)
              · have h := h_E c23 h
                refine v_iload hX dX12_part_81 5 rfl ?_
                refine v_iconst (v := 1) hX dX12_part_83 (by decide) ?_
                refine v_icmp_ne (tgt := 99) hX dX12_part_84 (by decide) (fun c24 => ?_) (fun c24 => ?_)
                · have h := h_E c24 h
                  refine v_aload_n hX dX12_part_99 0 rfl rfl ?_
                  obtain ⟨k25, h⟩ := h
                  refine v_getI hX dX12_part_100 f_RX12_531 rfl k25 ?_
                  refine v_pick [] rfl ?_
                  exact b_X12_part_103 hX hE _ h
                · have h := h_T c24 h
                  refine v_aload_n hX dX12_part_87 0 rfl rfl ?_
                  obtain ⟨k26, h⟩ := h
                  refine v_getR hX dX12_part_88 f_RX12_91 rfl k26 ?_
                  refine v_aload_n hX dX12_part_91 0 rfl rfl ?_
                  refine v_getI hX dX12_part_92 f_RX12_528 rfl k26 ?_
                  obtain ⟨a27, e_a27, h⟩ := h
                  refine v_nn1 e_a27 ?_
                  obtain ⟨k28, h⟩ := h
                  obtain ⟨i29, h⟩ := h
                  refine v_iald hX dX12_part_95 k28 i29 ?_
                  refine v_goto (tgt := 103) hX dX12_part_96 (by decide) ?_
                  refine v_pick [] rfl ?_
                  exact b_X12_part_103 hX hE _ h
              · have h := h_T c23 h
                refine v_aload_n hX dX12_part_74 0 rfl rfl ?_
                obtain ⟨k30, h⟩ := h
                refine v_getI hX dX12_part_75 f_RX12_528 rfl k30 ?_
                refine v_goto (tgt := 103) hX dX12_part_78 (by decide) ?_
                refine v_pick [] rfl ?_
                exact b_X12_part_103 hX hE _ h
            · have h := h_E c22 h
              refine v_iconst (v := -1) hX dX12_part_67 (by decide) ?_
              exact v_iret hX hE dX12_part_68 h
          · have h := h_T c15 h
            refine v_pick [] rfl ?_
            exact b_X12_part_46 hX hE _ h
      · have h := h_E c9 h
        refine v_pick [] rfl ?_
        exact b_X12_part_21 hX hE _ h
set_option maxRecDepth 100000 in
set_option maxHeartbeats 4000000 in
theorem b_X12_linksOf_80 {X : h_X} (hX : h_ok X cX12_linksOf 4 RX12 1 25) {Q : Int32 → h_S → Prop} (hE : h_end X (some .int) (h_QI (x_Z X) Q)) {K4 : Nat → Int32 → Int32 → Int32 → h_S → Prop} (hK4 : ∀ (o0 : Nat) (x1 : Int32) (x2 : Int32) (x3 : Int32) (s : h_S), K4 o0 x1 x2 x3 s → h_V X 4 4 [(0, pR (some o0)), (1, pI x1), (2, pI x2), (3, pI x3)] [] s 0 0) {o0 : Nat} {x1 : Int32} {x3 : Int32} {y0 : Int32} {y1 : Int32} (s : h_S) (h : w_X12_linksOf_80 Q K4 o0 x1 x3 y0 y1 s) : h_V X 4 80 [(0, pR (some o0)), (1, pI x1), (3, pI x3)] [pI y0, pI y1] s 0 0 := by
  unfold w_X12_linksOf_80 at h
  refine v_iadd hX dX12_linksOf_80 ?_
  refine v_istore_n (lv' := [(2, _), (0, _), (1, _), (3, _)]) hX dX12_linksOf_81 rfl (by decide) rfl ?_
  refine v_iinc (c := 1) (lv' := [(3, _), (2, _), (0, _), (1, _)]) hX dX12_linksOf_82 3 rfl (by decide) (by decide) rfl ?_
  refine v_goto (tgt := 4) hX dX12_linksOf_85 (by decide) ?_
  refine v_pick [2, 3, 1, 0] rfl ?_
  exact hK4 _ _ _ _ _ h
set_option maxRecDepth 100000 in
set_option maxHeartbeats 4000000 in
theorem b_X12_linksOf_75 {X : h_X} (hX : h_ok X cX12_linksOf 4 RX12 1 25) {Q : Int32 → h_S → Prop} (hE : h_end X (some .int) (h_QI (x_Z X) Q)) {K4 : Nat → Int32 → Int32 → Int32 → h_S → Prop} (hK4 : ∀ (o0 : Nat) (x1 : Int32) (x2 : Int32) (x3 : Int32) (s : h_S), K4 o0 x1 x2 x3 s → h_V X 4 4 [(0, pR (some o0)), (1, pI x1), (2, pI x2), (3, pI x3)] [] s 0 0) {o0 : Nat} {x1 : Int32} {x3 : Int32} {y0 : Int32} (s : h_S) (h : w_X12_linksOf_75 Q K4 o0 x1 x3 y0 s) : h_V X 4 75 [(0, pR (some o0)), (1, pI x1), (3, pI x3)] [pI y0] s 0 0 := by
  unfold w_X12_linksOf_75 at h
  refine v_iconst (v := 1) hX dX12_linksOf_75 (by decide) ?_
  refine v_goto (tgt := 80) hX dX12_linksOf_76 (by decide) ?_
  refine v_pick [0, 1, 2] rfl ?_
  exact b_X12_linksOf_80 hX hE hK4 _ h
set_option maxRecDepth 100000 in
set_option maxHeartbeats 4000000 in
theorem b_X12_linksOf_4 {X : h_X} (hX : h_ok X cX12_linksOf 4 RX12 1 25) {Q : Int32 → h_S → Prop} (hE : h_end X (some .int) (h_QI (x_Z X) Q)) : ∀ (n : Nat) (o0 : Nat) (x1 : Int32) (x2 : Int32) (x3 : Int32) (s : h_S), w_X12_linksOf_4 Q n o0 x1 x2 x3 s → h_V X 4 4 [(0, pR (some o0)), (1, pI x1), (2, pI x2), (3, pI x3)] [] s 0 0 := by
  intro n
  induction n with
  | zero => intro _ _ _ _ s h; exact h.elim
  | succ n hK4 =>
    intro o0 x1 x2 x3 s h
    have h : w_X12_linksOf_4b Q (w_X12_linksOf_4 Q n) o0 x1 x2 x3 s := h
    unfold w_X12_linksOf_4b at h
    refine v_iload_n hX dX12_linksOf_4 3 rfl rfl ?_
    refine v_aload_n hX dX12_linksOf_5 0 rfl rfl ?_
    obtain ⟨k1, h⟩ := h
    refine v_getI hX dX12_linksOf_6 f_RX12_513 rfl k1 ?_
    refine v_icmp_ge (tgt := 88) hX dX12_linksOf_9 (by decide) (fun c2 => ?_) (fun c2 => ?_)
    · have h := h_T c2 h
      refine v_iload_n hX dX12_linksOf_88 2 rfl rfl ?_
      exact v_iret hX hE dX12_linksOf_89 h
    · have h := h_E c2 h
      refine v_iload_n hX dX12_linksOf_12 2 rfl rfl ?_
      refine v_iload_n hX dX12_linksOf_13 1 rfl rfl ?_
      refine v_i2l hX dX12_linksOf_14 ?_
      refine v_aload_n hX dX12_linksOf_15 0 rfl rfl ?_
      refine v_getR hX dX12_linksOf_16 f_RX12_204 rfl k1 ?_
      refine v_iload_n hX dX12_linksOf_19 3 rfl rfl ?_
      obtain ⟨a3, e_a3, h⟩ := h
      refine v_nn1 e_a3 ?_
      obtain ⟨k4, h⟩ := h
      obtain ⟨i5, h⟩ := h
      refine v_iald hX dX12_linksOf_20 k4 i5 ?_
      refine v_i2l hX dX12_linksOf_21 ?_
      refine v_aload_n hX dX12_linksOf_22 0 rfl rfl ?_
      refine v_getR hX dX12_linksOf_23 f_RX12_204 rfl k1 ?_
      refine v_iload_n hX dX12_linksOf_26 3 rfl rfl ?_
      obtain ⟨a6, e_a6, h⟩ := h
      refine v_nn1 e_a6 ?_
      obtain ⟨k7, h⟩ := h
      obtain ⟨i8, h⟩ := h
      refine v_iald hX dX12_linksOf_27 k7 i8 ?_
      refine v_aload_n hX dX12_linksOf_28 0 rfl rfl ?_
      refine v_getR hX dX12_linksOf_29 f_RX12_207 rfl k1 ?_
      refine v_iload_n hX dX12_linksOf_32 3 rfl rfl ?_
      obtain ⟨a9, e_a9, h⟩ := h
      refine v_nn1 e_a9 ?_
      obtain ⟨k10, h⟩ := h
      obtain ⟨i11, h⟩ := h
      refine v_iald hX dX12_linksOf_33 k10 i11 ?_
      refine v_iadd hX dX12_linksOf_34 ?_
      refine v_i2l hX dX12_linksOf_35 ?_
      refine v_lconst (v := 1) hX dX12_linksOf_36 (by decide) ?_
      refine v_lsub hX dX12_linksOf_37 ?_
      refine v_callSi0 hX dX12_linksOf_38 c_RX12_298 cS_X12_in [pL _, pL _, pL _] rfl rfl (Nat.le_of_ble_eq_true rfl) (by decide) (by decide)  (m_X12_in h) (fun p13 s12 h => ?_)
      refine v_if_ne (tgt := 75) hX dX12_linksOf_41 (by decide) (fun c14 => ?_) (fun c14 => ?_)
      · have h := h_E c14 h
        refine v_pick [0, 1, 3] rfl ?_
        exact b_X12_linksOf_75 hX hE hK4 _ h
      · have h := h_T c14 h
        refine v_iload_n hX dX12_linksOf_44 1 rfl rfl ?_
        refine v_i2l hX dX12_linksOf_45 ?_
        refine v_aload_n hX dX12_linksOf_46 0 rfl rfl ?_
        obtain ⟨k15, h⟩ := h
        refine v_getR hX dX12_linksOf_47 f_RX12_210 rfl k15 ?_
        refine v_iload_n hX dX12_linksOf_50 3 rfl rfl ?_
        obtain ⟨a16, e_a16, h⟩ := h
        refine v_nn1 e_a16 ?_
        obtain ⟨k17, h⟩ := h
        obtain ⟨i18, h⟩ := h
        refine v_iald hX dX12_linksOf_51 k17 i18 ?_
        refine v_i2l hX dX12_linksOf_52 ?_
        refine v_aload_n hX dX12_linksOf_53 0 rfl rfl ?_
        refine v_getR hX dX12_linksOf_54 f_RX12_210 rfl k15 ?_
        refine v_iload_n hX dX12_linksOf_57 3 rfl rfl ?_
        obtain ⟨a19, e_a19, h⟩ := h
        refine v_nn1 e_a19 ?_
        obtain ⟨k20, h⟩ := h
        obtain ⟨i21, h⟩ := h
        refine v_iald hX dX12_linksOf_58 k20 i21 ?_
        refine v_aload_n hX dX12_linksOf_59 0 rfl rfl ?_
        refine v_getR hX dX12_linksOf_60 f_RX12_213 rfl k15 ?_
        refine v_iload_n hX dX12_linksOf_63 3 rfl rfl ?_
        obtain ⟨a22, e_a22, h⟩ := h
        refine v_nn1 e_a22 ?_
        obtain ⟨k23, h⟩ := h
        obtain ⟨i24, h⟩ := h
        refine v_iald hX dX12_linksOf_64 k23 i24 ?_
        refine v_iadd hX dX12_linksOf_65 ?_
        refine v_i2l hX dX12_linksOf_66 ?_
        refine v_lconst (v := 1) hX dX12_linksOf_67 (by decide) ?_
        refine v_lsub hX dX12_linksOf_68 ?_
        refine v_callSi0 hX dX12_linksOf_69 c_RX12_298 cS_X12_in [pL _, pL _, pL _] rfl rfl (Nat.le_of_ble_eq_true rfl) (by decide) (by decide)  (m_X12_in h) (fun p26 s25 h => ?_)
        refine v_if_eq (tgt := 79) hX dX12_linksOf_72 (by decide) (fun c27 => ?_) (fun c27 => ?_)
        · have h := h_T c27 h
          refine v_iconst (v := 0) hX dX12_linksOf_79 (by decide) ?_
          refine v_pick [0, 1, 3] rfl ?_
          exact b_X12_linksOf_80 hX hE hK4 _ h
        · have h := h_E c27 h
          refine v_pick [0, 1, 3] rfl ?_
          exact b_X12_linksOf_75 hX hE hK4 _ h
set_option maxRecDepth 100000 in
set_option maxHeartbeats 4000000 in
theorem m_X12_linksOf {Z : h_Z} {o0 : Nat} {x1 : Int32} {s : h_S} {Q : Int32 → h_S → Prop} (h : w_X12_linksOf o0 x1 s Q) : h_M Z yX12_linksOf cX12_linksOf 4 (some .int) 1 25 [pR (some o0), pI x1] s 0 0 (h_QI Z Q) := by
  refine h_M.of (by decide) (Nat.le_of_ble_eq_true rfl) (fun X hZ hX hE hI => ?_)
  subst hZ
  unfold w_X12_linksOf at h
  show h_V X 4 0 [(0, pR (some o0)), (1, pI x1)] [] s 0 0
  refine v_iconst (v := 0) hX dX12_linksOf_0 (by decide) ?_
  refine v_istore_n (lv' := [(2, _), (0, _), (1, _)]) hX dX12_linksOf_1 rfl (by decide) rfl ?_
  refine v_iconst (v := 0) hX dX12_linksOf_2 (by decide) ?_
  refine v_istore_n (lv' := [(3, _), (2, _), (0, _), (1, _)]) hX dX12_linksOf_3 rfl (by decide) rfl ?_
  refine v_pick [2, 3, 1, 0] rfl ?_
  obtain ⟨n, h⟩ := h
  exact b_X12_linksOf_4 hX hE n _ _ _ _ _ h
set_option maxRecDepth 100000 in
set_option maxHeartbeats 4000000 in
theorem b_X12_noRight_21 {X : h_X} (hX : h_ok X cX12_noRight 2 RX12 1 25) {Q : Int32 → h_S → Prop} (hE : h_end X (some .boolean) (h_QI (x_Z X) Q)) {y0 : Int32} (s : h_S) (h : w_X12_noRight_21 Q y0 s) : h_V X 2 21 [] [pI y0] s 0 0 := by
  unfold w_X12_noRight_21 at h
  exact v_zret hX hE dX12_noRight_21 h.1 h.2
set_option maxRecDepth 100000 in
set_option maxHeartbeats 4000000 in
theorem m_X12_noRight {Z : h_Z} {o0 : Nat} {x1 : Int32} {s : h_S} {Q : Int32 → h_S → Prop} (h : w_X12_noRight o0 x1 s Q) : h_M Z yX12_noRight cX12_noRight 2 (some .boolean) 1 25 [pR (some o0), pI x1] s 0 0 (h_QI Z Q) := by
  refine h_M.of (by decide) (Nat.le_of_ble_eq_true rfl) (fun X hZ hX hE hI => ?_)
  subst hZ
  unfold w_X12_noRight at h
  show h_V X 2 0 [(0, pR (some o0)), (1, pI x1)] [] s 0 0
  refine v_iload_n hX dX12_noRight_0 1 rfl rfl ?_
  refine v_i2l hX dX12_noRight_1 ?_
  refine v_lconst (v := 0) hX dX12_noRight_2 (by decide) ?_
  refine v_aload_n hX dX12_noRight_3 0 rfl rfl ?_
  obtain ⟨k1, h⟩ := h
  refine v_getI hX dX12_noRight_4 f_RX12_537 rfl k1 ?_
  refine v_i2l hX dX12_noRight_7 ?_
  refine v_lconst (v := 1) hX dX12_noRight_8 (by decide) ?_
  refine v_lsub hX dX12_noRight_9 ?_
  refine v_callSi0 hX dX12_noRight_10 c_RX12_298 cS_X12_in [pL _, pL _, pL _] rfl rfl (Nat.le_of_ble_eq_true rfl) (by decide) (by decide)  (m_X12_in h) (fun p3 s2 h => ?_)
  refine v_if_ne (tgt := 20) hX dX12_noRight_13 (by decide) (fun c4 => ?_) (fun c4 => ?_)
  · have h := h_E c4 h
    refine v_iconst (v := 0) hX dX12_noRight_20 (by decide) ?_
    refine v_pick [] rfl ?_
    exact b_X12_noRight_21 hX hE _ h
  · have h := h_T c4 h
    refine v_iconst (v := 1) hX dX12_noRight_16 (by decide) ?_
    refine v_goto (tgt := 21) hX dX12_noRight_17 (by decide) ?_
    refine v_pick [] rfl ?_
    exact b_X12_noRight_21 hX hE _ h
set_option maxRecDepth 100000 in
set_option maxHeartbeats 4000000 in
theorem b_X12_useOf_31 {X : h_X} (hX : h_ok X cX12_useOf 1 RX12 0 0) {Q : Int32 → h_S → Prop} (hE : h_end X (some .int) (h_QI (x_Z X) Q)) {y0 : Int32} (s : h_S) (h : w_X12_useOf_31 Q y0 s) : h_V X 1 31 [] [pI y0] s 0 0 := by
  unfold w_X12_useOf_31 at h
  exact v_iret hX hE dX12_useOf_31 h
set_option maxRecDepth 100000 in
set_option maxHeartbeats 4000000 in
theorem m_X12_useOf {Z : h_Z} {x0 : Int32} {s : h_S} {Q : Int32 → h_S → Prop} (h : w_X12_useOf x0 s Q) : h_M Z yX12_useOf cX12_useOf 1 (some .int) 0 0 [pI x0] s 0 0 (h_QI Z Q) := by
  refine h_M.of (by decide) (Nat.le_of_ble_eq_true rfl) (fun X hZ hX hE hI => ?_)
  subst hZ
  unfold w_X12_useOf at h
  show h_V X 1 0 [(0, pI x0)] [] s 0 0
  refine v_iload_n hX dX12_useOf_0 0 rfl rfl ?_
  refine v_bipush (v := 114) hX dX12_useOf_1 (by decide) ?_
  refine v_icmp_ne (tgt := 10) hX dX12_useOf_3 (by decide) (fun c1 => ?_) (fun c1 => ?_)
  · have h := h_E c1 h
    refine v_iload_n hX dX12_useOf_10 0 rfl rfl ?_
    refine v_bipush (v := 113) hX dX12_useOf_11 (by decide) ?_
    refine v_icmp_ne (tgt := 20) hX dX12_useOf_13 (by decide) (fun c2 => ?_) (fun c2 => ?_)
    · have h := h_E c2 h
      refine v_iload_n hX dX12_useOf_20 0 rfl rfl ?_
      refine v_bipush (v := 108) hX dX12_useOf_21 (by decide) ?_
      refine v_icmp_ne (tgt := 30) hX dX12_useOf_23 (by decide) (fun c3 => ?_) (fun c3 => ?_)
      · have h := h_E c3 h
        refine v_iconst (v := -1) hX dX12_useOf_30 (by decide) ?_
        refine v_pick [] rfl ?_
        exact b_X12_useOf_31 hX hE _ h
      · have h := h_T c3 h
        refine v_iconst (v := 2) hX dX12_useOf_26 (by decide) ?_
        refine v_goto (tgt := 31) hX dX12_useOf_27 (by decide) ?_
        refine v_pick [] rfl ?_
        exact b_X12_useOf_31 hX hE _ h
    · have h := h_T c2 h
      refine v_iconst (v := 1) hX dX12_useOf_16 (by decide) ?_
      refine v_goto (tgt := 31) hX dX12_useOf_17 (by decide) ?_
      refine v_pick [] rfl ?_
      exact b_X12_useOf_31 hX hE _ h
  · have h := h_T c1 h
    refine v_iconst (v := 0) hX dX12_useOf_6 (by decide) ?_
    refine v_goto (tgt := 31) hX dX12_useOf_7 (by decide) ?_
    refine v_pick [] rfl ?_
    exact b_X12_useOf_31 hX hE _ h
