set_option maxRecDepth 100000 in
set_option maxHeartbeats 4000000 in
theorem b_X9_sharedOf_153 {X : h_X} (hX : h_ok X cX9_sharedOf 11 RX9 1 23) {Q : Int32 → h_S → Prop} (hE : h_end X (some .int) (h_QI (x_Z X) Q)) {K17 : Nat → Option Nat → Option Nat → Int32 → Int32 → h_S → Prop} (hK17 : ∀ (o0 : Nat) (r1 : Option Nat) (r3 : Option Nat) (x4 : Int32) (x5 : Int32) (s : h_S), K17 o0 r1 r3 x4 x5 s → h_V X 11 17 [(0, pR (some o0)), (1, pR r1), (3, pR r3), (4, pI x4), (5, pI x5)] [] s 0 0) {K61 : Nat → Option Nat → Option Nat → Int32 → Int32 → Option Nat → Option Nat → Int32 → Int32 → h_S → Prop} (hK61 : ∀ (o0 : Nat) (r1 : Option Nat) (r3 : Option Nat) (x4 : Int32) (x5 : Int32) (r6 : Option Nat) (r7 : Option Nat) (x8 : Int32) (x9 : Int32) (s : h_S), K61 o0 r1 r3 x4 x5 r6 r7 x8 x9 s → h_V X 11 61 [(0, pR (some o0)), (1, pR r1), (3, pR r3), (4, pI x4), (5, pI x5), (6, pR r6), (7, pR r7), (8, pI x8), (9, pI x9)] [] s 0 0) {o0 : Nat} {r1 : Option Nat} {r3 : Option Nat} {x4 : Int32} {x5 : Int32} {r6 : Option Nat} {r7 : Option Nat} {x9 : Int32} {y0 : Int32} {y1 : Int32} (s : h_S) (h : w_X9_sharedOf_153 Q K17 K61 o0 r1 r3 x4 x5 r6 r7 x9 y0 y1 s) : h_V X 11 153 [(0, pR (some o0)), (1, pR r1), (3, pR r3), (4, pI x4), (5, pI x5), (6, pR r6), (7, pR r7), (9, pI x9)] [pI y0, pI y1] s 0 0 := by
  unfold w_X9_sharedOf_153 at h
  refine v_ior hX dX9_sharedOf_153 ?_
  refine v_istore (lv' := [(8, _), (0, _), (1, _), (3, _), (4, _), (5, _), (6, _), (7, _), (9, _)]) hX dX9_sharedOf_154 (by decide) rfl ?_
  refine v_iload hX dX9_sharedOf_156 8 rfl ?_
  refine v_bipush (v := 31) hX dX9_sharedOf_158 (by decide) ?_
  refine v_iand hX dX9_sharedOf_160 ?_
  refine v_if_ne (tgt := 184) hX dX9_sharedOf_161 (by decide) (fun c1 => ?_) (fun c1 => ?_)
  · have h := h_E c1 h
    refine v_pick [1, 2, 3, 4, 5, 6, 7, 0, 8] rfl ?_
    exact b_X9_sharedOf_184 hX hE hK17 hK61 _ h
  · have h := h_T c1 h
    refine v_aload_n hX dX9_sharedOf_164 1 rfl rfl ?_
    obtain ⟨k2, h⟩ := h
    refine v_getR hX dX9_sharedOf_165 f_RX9_16 rfl k2 ?_
    refine v_iload hX dX9_sharedOf_168 5 rfl ?_
    refine v_bipush (v := 10) hX dX9_sharedOf_170 (by decide) ?_
    refine v_imul hX dX9_sharedOf_172 ?_
    refine v_iload hX dX9_sharedOf_173 8 rfl ?_
    refine v_iconst (v := 5) hX dX9_sharedOf_175 (by decide) ?_
    refine v_ishr hX dX9_sharedOf_176 ?_
    refine v_iadd hX dX9_sharedOf_177 ?_
    refine v_iload hX dX9_sharedOf_178 0 rfl ?_
    obtain ⟨a3, e_a3, h⟩ := h
    refine v_nn2 e_a3 ?_
    obtain ⟨k4, h⟩ := h
    obtain ⟨i5, h⟩ := h
    refine v_iast hX dX9_sharedOf_180 k4 i5 ?_
    refine v_iconst (v := 0) hX dX9_sharedOf_181 (by decide) ?_
    refine v_istore (lv' := [(8, _), (0, _), (1, _), (3, _), (4, _), (5, _), (6, _), (7, _), (9, _)]) hX dX9_sharedOf_182 (by decide) rfl ?_
    refine v_pick [1, 2, 3, 4, 5, 6, 7, 0, 8] rfl ?_
    exact b_X9_sharedOf_184 hX hE hK17 hK61 _ h
set_option maxRecDepth 100000 in
set_option maxHeartbeats 4000000 in
theorem b_X9_sharedOf_138 {X : h_X} (hX : h_ok X cX9_sharedOf 11 RX9 1 23) {Q : Int32 → h_S → Prop} (hE : h_end X (some .int) (h_QI (x_Z X) Q)) {K17 : Nat → Option Nat → Option Nat → Int32 → Int32 → h_S → Prop} (hK17 : ∀ (o0 : Nat) (r1 : Option Nat) (r3 : Option Nat) (x4 : Int32) (x5 : Int32) (s : h_S), K17 o0 r1 r3 x4 x5 s → h_V X 11 17 [(0, pR (some o0)), (1, pR r1), (3, pR r3), (4, pI x4), (5, pI x5)] [] s 0 0) {K61 : Nat → Option Nat → Option Nat → Int32 → Int32 → Option Nat → Option Nat → Int32 → Int32 → h_S → Prop} (hK61 : ∀ (o0 : Nat) (r1 : Option Nat) (r3 : Option Nat) (x4 : Int32) (x5 : Int32) (r6 : Option Nat) (r7 : Option Nat) (x8 : Int32) (x9 : Int32) (s : h_S), K61 o0 r1 r3 x4 x5 r6 r7 x8 x9 s → h_V X 11 61 [(0, pR (some o0)), (1, pR r1), (3, pR r3), (4, pI x4), (5, pI x5), (6, pR r6), (7, pR r7), (8, pI x8), (9, pI x9)] [] s 0 0) {o0 : Nat} {r1 : Option Nat} {r3 : Option Nat} {x4 : Int32} {x5 : Int32} {r6 : Option Nat} {r7 : Option Nat} {x8 : Int32} {x9 : Int32} {x10 : Int32} {y0 : Int32} {y1 : Int32} {t2 : Option Nat} (s : h_S) (h : w_X9_sharedOf_138 Q K17 K61 o0 r1 r3 x4 x5 r6 r7 x8 x9 x10 y0 y1 t2 s) : h_V X 11 138 [(0, pR (some o0)), (1, pR r1), (3, pR r3), (4, pI x4), (5, pI x5), (6, pR r6), (7, pR r7), (8, pI x8), (9, pI x9), (10, pI x10)] [pI y0, pI y1, pR t2] s 0 0 := by
  unfold w_X9_sharedOf_138 at h
  obtain ⟨a1, e_a1, h⟩ := h
  refine v_nn2 e_a1 ?_
  obtain ⟨k2, h⟩ := h
  obtain ⟨i3, h⟩ := h
  refine v_iast hX dX9_sharedOf_138 k2 i3 ?_
  refine v_iload hX dX9_sharedOf_139 7 rfl ?_
  refine v_iconst (v := 1) hX dX9_sharedOf_141 (by decide) ?_
  refine v_ishl hX dX9_sharedOf_142 ?_
  refine v_iload hX dX9_sharedOf_143 9 rfl ?_
  refine v_if_eq (tgt := 152) hX dX9_sharedOf_145 (by decide) (fun c5 => ?_) (fun c5 => ?_)
  · have h := h_T c5 h
    refine v_iconst (v := 0) hX dX9_sharedOf_152 (by decide) ?_
    refine v_pick [0, 1, 2, 3, 4, 5, 6, 8] rfl ?_
    exact b_X9_sharedOf_153 hX hE hK17 hK61 _ h
  · have h := h_E c5 h
    refine v_iconst (v := 1) hX dX9_sharedOf_148 (by decide) ?_
    refine v_goto (tgt := 153) hX dX9_sharedOf_149 (by decide) ?_
    refine v_pick [0, 1, 2, 3, 4, 5, 6, 8] rfl ?_
    exact b_X9_sharedOf_153 hX hE hK17 hK61 _ h
set_option maxRecDepth 100000 in
set_option maxHeartbeats 4000000 in
theorem b_X9_sharedOf_86 {X : h_X} (hX : h_ok X cX9_sharedOf 11 RX9 1 23) {Q : Int32 → h_S → Prop} (hE : h_end X (some .int) (h_QI (x_Z X) Q)) {K17 : Nat → Option Nat → Option Nat → Int32 → Int32 → h_S → Prop} (hK17 : ∀ (o0 : Nat) (r1 : Option Nat) (r3 : Option Nat) (x4 : Int32) (x5 : Int32) (s : h_S), K17 o0 r1 r3 x4 x5 s → h_V X 11 17 [(0, pR (some o0)), (1, pR r1), (3, pR r3), (4, pI x4), (5, pI x5)] [] s 0 0) {K61 : Nat → Option Nat → Option Nat → Int32 → Int32 → Option Nat → Option Nat → Int32 → Int32 → h_S → Prop} (hK61 : ∀ (o0 : Nat) (r1 : Option Nat) (r3 : Option Nat) (x4 : Int32) (x5 : Int32) (r6 : Option Nat) (r7 : Option Nat) (x8 : Int32) (x9 : Int32) (s : h_S), K61 o0 r1 r3 x4 x5 r6 r7 x8 x9 s → h_V X 11 61 [(0, pR (some o0)), (1, pR r1), (3, pR r3), (4, pI x4), (5, pI x5), (6, pR r6), (7, pR r7), (8, pI x8), (9, pI x9)] [] s 0 0) {o0 : Nat} {r1 : Option Nat} {r3 : Option Nat} {x4 : Int32} {x5 : Int32} {r6 : Option Nat} {r7 : Option Nat} {x8 : Int32} {x9 : Int32} {y0 : Int32} (s : h_S) (h : w_X9_sharedOf_86 Q K17 K61 o0 r1 r3 x4 x5 r6 r7 x8 x9 y0 s) : h_V X 11 86 [(0, pR (some o0)), (1, pR r1), (3, pR r3), (4, pI x4), (5, pI x5), (6, pR r6), (7, pR r7), (8, pI x8), (9, pI x9)] [pI y0] s 0 0 := by
  unfold w_X9_sharedOf_86 at h
  refine v_istore (lv' := [(10, _), (0, _), (1, _), (3, _), (4, _), (5, _), (6, _), (7, _), (8, _), (9, _)]) hX dX9_sharedOf_86 (by decide) rfl ?_
  refine v_aload hX dX9_sharedOf_88 7 rfl ?_
  refine v_iload hX dX9_sharedOf_90 9 rfl ?_
  refine v_aload_n hX dX9_sharedOf_92 2 rfl rfl ?_
  refine v_iload hX dX9_sharedOf_93 5 rfl ?_
  obtain ⟨a1, e_a1, h⟩ := h
  refine v_nn1 e_a1 ?_
  obtain ⟨k2, h⟩ := h
  obtain ⟨i3, h⟩ := h
  refine v_iald hX dX9_sharedOf_95 k2 i3 ?_
  refine v_aload_n hX dX9_sharedOf_96 3 rfl rfl ?_
  refine v_iload hX dX9_sharedOf_97 9 rfl ?_
  obtain ⟨a4, e_a4, h⟩ := h
  refine v_nn1 e_a4 ?_
  obtain ⟨k5, h⟩ := h
  obtain ⟨i6, h⟩ := h
  refine v_iald hX dX9_sharedOf_99 k5 i6 ?_
  refine v_callSi hX dX9_sharedOf_100 c_RX9_70 cS_X9_alike [pI _, pI _] rfl rfl (Nat.le_of_ble_eq_true rfl) (by decide) (by decide) (Nat.zero_le _) (Nat.zero_le _) (m_X9_alike h) (fun p8 s7 h => ?_)
  refine v_if_eq (tgt := 118) hX dX9_sharedOf_103 (by decide) (fun c9 => ?_) (fun c9 => ?_)
  · have h := h_T c9 h
    refine v_iload hX dX9_sharedOf_118 0 rfl ?_
    refine v_if_eq (tgt := 131) hX dX9_sharedOf_120 (by decide) (fun c10 => ?_) (fun c10 => ?_)
    · have h := h_T c10 h
      refine v_aload hX dX9_sharedOf_131 7 rfl ?_
      refine v_iload hX dX9_sharedOf_133 9 rfl ?_
      refine v_iconst (v := 1) hX dX9_sharedOf_135 (by decide) ?_
      refine v_iadd hX dX9_sharedOf_136 ?_
      obtain ⟨a11, e_a11, h⟩ := h
      refine v_nn1 e_a11 ?_
      obtain ⟨k12, h⟩ := h
      obtain ⟨i13, h⟩ := h
      refine v_iald hX dX9_sharedOf_137 k12 i13 ?_
      refine v_pick [1, 2, 3, 4, 5, 6, 7, 8, 9, 0] rfl ?_
      exact b_X9_sharedOf_138 hX hE hK17 hK61 _ h
    · have h := h_E c10 h
      refine v_aload hX dX9_sharedOf_123 6 rfl ?_
      refine v_iload hX dX9_sharedOf_125 9 rfl ?_
      obtain ⟨a14, e_a14, h⟩ := h
      refine v_nn1 e_a14 ?_
      obtain ⟨k15, h⟩ := h
      obtain ⟨i16, h⟩ := h
      refine v_iald hX dX9_sharedOf_127 k15 i16 ?_
      refine v_goto (tgt := 138) hX dX9_sharedOf_128 (by decide) ?_
      refine v_pick [1, 2, 3, 4, 5, 6, 7, 8, 9, 0] rfl ?_
      exact b_X9_sharedOf_138 hX hE hK17 hK61 _ h
  · have h := h_E c9 h
    refine v_aload hX dX9_sharedOf_106 6 rfl ?_
    refine v_iload hX dX9_sharedOf_108 9 rfl ?_
    refine v_iconst (v := 1) hX dX9_sharedOf_110 (by decide) ?_
    refine v_iadd hX dX9_sharedOf_111 ?_
    obtain ⟨a17, e_a17, h⟩ := h
    refine v_nn1 e_a17 ?_
    obtain ⟨k18, h⟩ := h
    obtain ⟨i19, h⟩ := h
    refine v_iald hX dX9_sharedOf_112 k18 i19 ?_
    refine v_iconst (v := 1) hX dX9_sharedOf_113 (by decide) ?_
    refine v_iadd hX dX9_sharedOf_114 ?_
    refine v_goto (tgt := 138) hX dX9_sharedOf_115 (by decide) ?_
    refine v_pick [1, 2, 3, 4, 5, 6, 7, 8, 9, 0] rfl ?_
    exact b_X9_sharedOf_138 hX hE hK17 hK61 _ h
set_option maxRecDepth 100000 in
set_option maxHeartbeats 4000000 in
theorem b_X9_sharedOf_61 {X : h_X} (hX : h_ok X cX9_sharedOf 11 RX9 1 23) {Q : Int32 → h_S → Prop} (hE : h_end X (some .int) (h_QI (x_Z X) Q)) {K17 : Nat → Option Nat → Option Nat → Int32 → Int32 → h_S → Prop} (hK17 : ∀ (o0 : Nat) (r1 : Option Nat) (r3 : Option Nat) (x4 : Int32) (x5 : Int32) (s : h_S), K17 o0 r1 r3 x4 x5 s → h_V X 11 17 [(0, pR (some o0)), (1, pR r1), (3, pR r3), (4, pI x4), (5, pI x5)] [] s 0 0) : ∀ (n : Nat) (o0 : Nat) (r1 : Option Nat) (r3 : Option Nat) (x4 : Int32) (x5 : Int32) (r6 : Option Nat) (r7 : Option Nat) (x8 : Int32) (x9 : Int32) (s : h_S), w_X9_sharedOf_61 Q K17 n o0 r1 r3 x4 x5 r6 r7 x8 x9 s → h_V X 11 61 [(0, pR (some o0)), (1, pR r1), (3, pR r3), (4, pI x4), (5, pI x5), (6, pR r6), (7, pR r7), (8, pI x8), (9, pI x9)] [] s 0 0 := by
  intro n
  induction n with
  | zero => intro _ _ _ _ _ _ _ _ _ s h; exact h.elim
  | succ n hK61 =>
    intro o0 r1 r3 x4 x5 r6 r7 x8 x9 s h
    have h : w_X9_sharedOf_61b Q K17 (w_X9_sharedOf_61 Q K17 n) o0 r1 r3 x4 x5 r6 r7 x8 x9 s := h
    unfold w_X9_sharedOf_61b at h
    refine v_iload hX dX9_sharedOf_61 8 rfl ?_
    refine v_if_lt (tgt := 190) hX dX9_sharedOf_63 (by decide) (fun c1 => ?_) (fun c1 => ?_)
    · have h := h_T c1 h
      refine v_iinc (c := -1) (lv' := [(5, _), (0, _), (1, _), (3, _), (4, _), (6, _), (7, _), (8, _), (9, _)]) hX dX9_sharedOf_190 4 rfl (by decide) (by decide) rfl ?_
      refine v_goto (tgt := 17) hX dX9_sharedOf_193 (by decide) ?_
      refine v_pick [1, 2, 3, 4, 0] rfl ?_
      exact hK17 _ _ _ _ _ _ h
    · have h := h_E c1 h
      refine v_aload hX dX9_sharedOf_66 5 rfl ?_
      refine v_iload hX dX9_sharedOf_68 8 rfl ?_
      obtain ⟨a2, e_a2, h⟩ := h
      refine v_nn1 e_a2 ?_
      obtain ⟨k3, h⟩ := h
      obtain ⟨i4, h⟩ := h
      refine v_iald hX dX9_sharedOf_70 k3 i4 ?_
      refine v_aload hX dX9_sharedOf_71 6 rfl ?_
      refine v_iload hX dX9_sharedOf_73 8 rfl ?_
      refine v_iconst (v := 1) hX dX9_sharedOf_75 (by decide) ?_
      refine v_iadd hX dX9_sharedOf_76 ?_
      obtain ⟨a5, e_a5, h⟩ := h
      refine v_nn1 e_a5 ?_
      obtain ⟨k6, h⟩ := h
      obtain ⟨i7, h⟩ := h
      refine v_iald hX dX9_sharedOf_77 k6 i7 ?_
      refine v_icmp_lt (tgt := 85) hX dX9_sharedOf_78 (by decide) (fun c8 => ?_) (fun c8 => ?_)
      · have h := h_T c8 h
        refine v_iconst (v := 0) hX dX9_sharedOf_85 (by decide) ?_
        refine v_pick [0, 1, 2, 3, 4, 5, 6, 7, 8] rfl ?_
        exact b_X9_sharedOf_86 hX hE hK17 hK61 _ h
      · have h := h_E c8 h
        refine v_iconst (v := 1) hX dX9_sharedOf_81 (by decide) ?_
        refine v_goto (tgt := 86) hX dX9_sharedOf_82 (by decide) ?_
        refine v_pick [0, 1, 2, 3, 4, 5, 6, 7, 8] rfl ?_
        exact b_X9_sharedOf_86 hX hE hK17 hK61 _ h
set_option maxRecDepth 100000 in
set_option maxHeartbeats 4000000 in
theorem b_X9_sharedOf_17 {X : h_X} (hX : h_ok X cX9_sharedOf 11 RX9 1 23) {Q : Int32 → h_S → Prop} (hE : h_end X (some .int) (h_QI (x_Z X) Q)) : ∀ (n : Nat) (o0 : Nat) (r1 : Option Nat) (r3 : Option Nat) (x4 : Int32) (x5 : Int32) (s : h_S), w_X9_sharedOf_17 Q n o0 r1 r3 x4 x5 s → h_V X 11 17 [(0, pR (some o0)), (1, pR r1), (3, pR r3), (4, pI x4), (5, pI x5)] [] s 0 0 := by
  intro n
  induction n with
  | zero => intro _ _ _ _ _ s h; exact h.elim
  | succ n hK17 =>
    intro o0 r1 r3 x4 x5 s h
    have h : w_X9_sharedOf_17b Q (w_X9_sharedOf_17 Q n) o0 r1 r3 x4 x5 s := h
    unfold w_X9_sharedOf_17b at h
    refine v_iload hX dX9_sharedOf_17 4 rfl ?_
    refine v_if_lt (tgt := 196) hX dX9_sharedOf_19 (by decide) (fun c1 => ?_) (fun c1 => ?_)
    · have h := h_T c1 h
      refine v_aload_n hX dX9_sharedOf_196 0 rfl rfl ?_
      obtain ⟨k2, h⟩ := h
      refine v_getR hX dX9_sharedOf_197 f_RX9_11 rfl k2 ?_
      refine v_iconst (v := 0) hX dX9_sharedOf_200 (by decide) ?_
      obtain ⟨a3, e_a3, h⟩ := h
      refine v_nn1 e_a3 ?_
      obtain ⟨k4, h⟩ := h
      obtain ⟨i5, h⟩ := h
      refine v_aald (k := 8) hX dX9_sharedOf_201 rfl rfl (by decide) (by decide) k4 i5 ?_
      refine v_iconst (v := 0) hX dX9_sharedOf_202 (by decide) ?_
      obtain ⟨a6, e_a6, h⟩ := h
      refine v_nn1 e_a6 ?_
      obtain ⟨k7, h⟩ := h
      obtain ⟨i8, h⟩ := h
      refine v_iald hX dX9_sharedOf_203 k7 i8 ?_
      exact v_iret hX hE dX9_sharedOf_204 h
    · have h := h_E c1 h
      refine v_aload_n hX dX9_sharedOf_22 0 rfl rfl ?_
      obtain ⟨k9, h⟩ := h
      refine v_getR hX dX9_sharedOf_23 f_RX9_11 rfl k9 ?_
      refine v_iload hX dX9_sharedOf_26 4 rfl ?_
      refine v_iconst (v := 1) hX dX9_sharedOf_28 (by decide) ?_
      refine v_iadd hX dX9_sharedOf_29 ?_
      refine v_iconst (v := 1) hX dX9_sharedOf_30 (by decide) ?_
      refine v_iand hX dX9_sharedOf_31 ?_
      obtain ⟨a10, e_a10, h⟩ := h
      refine v_nn1 e_a10 ?_
      obtain ⟨k11, h⟩ := h
      obtain ⟨i12, h⟩ := h
      refine v_aald (k := 8) hX dX9_sharedOf_32 rfl rfl (by decide) (by decide) k11 i12 ?_
      refine v_astore (lv' := [(6, _), (0, _), (1, _), (3, _), (4, _), (5, _)]) hX dX9_sharedOf_33 (by decide) rfl ?_
      refine v_aload_n hX dX9_sharedOf_35 1 rfl rfl ?_
      refine v_getR hX dX9_sharedOf_36 f_RX9_11 rfl k9 ?_
      refine v_iload hX dX9_sharedOf_39 5 rfl ?_
      refine v_iconst (v := 1) hX dX9_sharedOf_41 (by decide) ?_
      refine v_iand hX dX9_sharedOf_42 ?_
      obtain ⟨a14, e_a14, h⟩ := h
      refine v_nn1 e_a14 ?_
      obtain ⟨k15, h⟩ := h
      obtain ⟨i16, h⟩ := h
      refine v_aald (k := 8) hX dX9_sharedOf_43 rfl rfl (by decide) (by decide) k15 i16 ?_
      refine v_astore (lv' := [(7, _), (6, _), (0, _), (1, _), (3, _), (4, _), (5, _)]) hX dX9_sharedOf_44 (by decide) rfl ?_
      refine v_aload hX dX9_sharedOf_46 0 rfl ?_
      refine v_iload hX dX9_sharedOf_48 5 rfl ?_
      refine v_iconst (v := 0) hX dX9_sharedOf_50 (by decide) ?_
      obtain ⟨a18, e_a18, h⟩ := h
      refine v_nn2 e_a18 ?_
      obtain ⟨k19, h⟩ := h
      obtain ⟨i20, h⟩ := h
      refine v_iast hX dX9_sharedOf_51 k19 i20 ?_
      refine v_iconst (v := 0) hX dX9_sharedOf_52 (by decide) ?_
      refine v_istore (lv' := [(8, _), (7, _), (6, _), (0, _), (1, _), (3, _), (4, _), (5, _)]) hX dX9_sharedOf_53 (by decide) rfl ?_
      refine v_iload hX dX9_sharedOf_55 6 rfl ?_
      refine v_iconst (v := 1) hX dX9_sharedOf_57 (by decide) ?_
      refine v_isub hX dX9_sharedOf_58 ?_
      refine v_istore (lv' := [(9, _), (8, _), (7, _), (6, _), (0, _), (1, _), (3, _), (4, _), (5, _)]) hX dX9_sharedOf_59 (by decide) rfl ?_
      refine v_pick [4, 5, 6, 7, 8, 3, 2, 1, 0] rfl ?_
      obtain ⟨n, h⟩ := h
      exact b_X9_sharedOf_61 hX hE hK17 n _ _ _ _ _ _ _ _ _ _ h
set_option maxRecDepth 100000 in
set_option maxHeartbeats 4000000 in
theorem m_X9_sharedOf {Z : h_Z} {o0 : Nat} {r1 : Option Nat} {x2 : Int32} {r3 : Option Nat} {x4 : Int32} {s : h_S} {Q : Int32 → h_S → Prop} (h : w_X9_sharedOf o0 r1 x2 r3 x4 s Q) : h_M Z yX9_sharedOf cX9_sharedOf 11 (some .int) 1 23 [pR (some o0), pR r1, pI x2, pR r3, pI x4] s 0 0 (h_QI Z Q) := by
  refine h_M.of (by decide) (Nat.le_of_ble_eq_true rfl) (fun X hZ hX hE hI => ?_)
  subst hZ
  unfold w_X9_sharedOf at h
  show h_V X 11 0 [(0, pR (some o0)), (1, pR r1), (2, pI x2), (3, pR r3), (4, pI x4)] [] s 0 0
  refine v_aload_n hX dX9_sharedOf_0 0 rfl rfl ?_
  obtain ⟨k1, h⟩ := h
  refine v_getR hX dX9_sharedOf_1 f_RX9_11 rfl k1 ?_
  refine v_iload_n hX dX9_sharedOf_4 2 rfl rfl ?_
  refine v_iconst (v := 1) hX dX9_sharedOf_5 (by decide) ?_
  refine v_iand hX dX9_sharedOf_6 ?_
  obtain ⟨a2, e_a2, h⟩ := h
  refine v_nn1 e_a2 ?_
  obtain ⟨k3, h⟩ := h
  obtain ⟨i4, h⟩ := h
  refine v_aald (k := 8) hX dX9_sharedOf_7 rfl rfl (by decide) (by decide) k3 i4 ?_
  refine v_iconst (v := 0) hX dX9_sharedOf_8 (by decide) ?_
  refine v_callSv hX dX9_sharedOf_9 c_RX9_64 cS_J7_fill_53178 [pR _, pI _] rfl rfl (Nat.le_of_ble_eq_true rfl) (by decide) (by decide) (Nat.zero_le _) (Nat.zero_le _) (m_J7_fill_53178 h) (fun s5 h => ?_)
  refine v_iload_n hX dX9_sharedOf_12 2 rfl rfl ?_
  refine v_iconst (v := 1) hX dX9_sharedOf_13 (by decide) ?_
  refine v_isub hX dX9_sharedOf_14 ?_
  refine v_istore (lv' := [(5, _), (0, _), (1, _), (2, _), (3, _), (4, _)]) hX dX9_sharedOf_15 (by decide) rfl ?_
  refine v_pick [1, 2, 4, 5, 0] rfl ?_
  obtain ⟨n, h⟩ := h
  exact b_X9_sharedOf_17 hX hE n _ _ _ _ _ _ h
set_option maxRecDepth 100000 in
set_option maxHeartbeats 4000000 in
theorem m_X9_sharedBy {Z : h_Z} {o0 : Nat} {r1 : Option Nat} {r2 : Option Nat} {s : h_S} {Q : Int32 → h_S → Prop} (h : w_X9_sharedBy o0 r1 r2 s Q) : h_M Z yX9_sharedBy cX9_sharedBy 3 (some .int) 2 60 [pR (some o0), pR r1, pR r2] s 0 0 (h_QI Z Q) := by
  refine h_M.of (by decide) (Nat.le_of_ble_eq_true rfl) (fun X hZ hX hE hI => ?_)
  subst hZ
  unfold w_X9_sharedBy at h
  show h_V X 3 0 [(0, pR (some o0)), (1, pR r1), (2, pR r2)] [] s 0 0
  refine v_aload_n hX dX9_sharedBy_0 0 rfl rfl ?_
  refine v_aload_n hX dX9_sharedBy_1 1 rfl rfl ?_
  refine v_aload_n hX dX9_sharedBy_2 1 rfl rfl ?_
  obtain ⟨a1, e_a1, h⟩ := h
  refine v_nn0 e_a1 ?_
  obtain ⟨k2, h⟩ := h
  refine v_alenK hX dX9_sharedBy_3 (k := 1) rfl (by decide) (by decide) k2 ?_
  refine v_sipush (v := 300) hX dX9_sharedBy_4 (by decide) ?_
  refine v_min hX dX9_sharedBy_7 mm_min_RX9_54 (by decide) (Nat.le_of_ble_eq_true rfl) ?_
  refine v_aload_n hX dX9_sharedBy_10 2 rfl rfl ?_
  refine v_aload_n hX dX9_sharedBy_11 2 rfl rfl ?_
  obtain ⟨a3, e_a3, h⟩ := h
  refine v_nn0 e_a3 ?_
  obtain ⟨k4, h⟩ := h
  refine v_alenK hX dX9_sharedBy_12 (k := 1) rfl (by decide) (by decide) k4 ?_
  refine v_sipush (v := 300) hX dX9_sharedBy_13 (by decide) ?_
  refine v_min hX dX9_sharedBy_16 mm_min_RX9_54 (by decide) (Nat.le_of_ble_eq_true rfl) ?_
  obtain ⟨k5, h⟩ := h
  refine v_callVi hX dX9_sharedBy_19 c_RX9_60 cV_X9_sharedOf (ci := 10) (T := TX9) (N := 16) rfl (by exact k5) [pR _, pI _, pR _, pI _] rfl rfl (Nat.le_of_ble_eq_true rfl) (by decide) (by decide) (Nat.zero_le _) (Nat.zero_le _) (m_X9_sharedOf h) (fun p7 s6 h => ?_)
  exact v_iret hX hE dX9_sharedBy_22 h
set_option maxRecDepth 100000 in
set_option maxHeartbeats 4000000 in
theorem b_X9_isCut_29 {X : h_X} (hX : h_ok X cX9_isCut 3 RX9 0 0) {Q : Int32 → h_S → Prop} (hE : h_end X (some .boolean) (h_QI (x_Z X) Q)) {y0 : Int32} (s : h_S) (h : w_X9_isCut_29 Q y0 s) : h_V X 3 29 [] [pI y0] s 0 0 := by
  unfold w_X9_isCut_29 at h
  exact v_zret hX hE dX9_isCut_29 h.1 h.2
set_option maxRecDepth 100000 in
set_option maxHeartbeats 4000000 in
theorem m_X9_isCut {Z : h_Z} {o0 : Nat} {x1 : Int32} {x2 : Int32} {s : h_S} {Q : Int32 → h_S → Prop} (h : w_X9_isCut o0 x1 x2 s Q) : h_M Z yX9_isCut cX9_isCut 3 (some .boolean) 0 0 [pR (some o0), pI x1, pI x2] s 0 0 (h_QI Z Q) := by
  refine h_M.of (by decide) (Nat.le_of_ble_eq_true rfl) (fun X hZ hX hE hI => ?_)
  subst hZ
  unfold w_X9_isCut at h
  show h_V X 3 0 [(0, pR (some o0)), (1, pI x1), (2, pI x2)] [] s 0 0
  refine v_aload_n hX dX9_isCut_0 0 rfl rfl ?_
  obtain ⟨k1, h⟩ := h
  refine v_getR hX dX9_isCut_1 f_RX9_16 rfl k1 ?_
  refine v_iload_n hX dX9_isCut_4 1 rfl rfl ?_
  refine v_bipush (v := 10) hX dX9_isCut_5 (by decide) ?_
  refine v_imul hX dX9_isCut_7 ?_
  refine v_iload_n hX dX9_isCut_8 2 rfl rfl ?_
  refine v_iconst (v := 5) hX dX9_isCut_9 (by decide) ?_
  refine v_ishr hX dX9_isCut_10 ?_
  refine v_iadd hX dX9_isCut_11 ?_
  obtain ⟨a2, e_a2, h⟩ := h
  refine v_nn1 e_a2 ?_
  obtain ⟨k3, h⟩ := h
  obtain ⟨i4, h⟩ := h
  refine v_iald hX dX9_isCut_12 k3 i4 ?_
  refine v_iload_n hX dX9_isCut_13 2 rfl rfl ?_
  refine v_bipush (v := 31) hX dX9_isCut_14 (by decide) ?_
  refine v_iand hX dX9_isCut_16 ?_
  refine v_ishr hX dX9_isCut_17 ?_
  refine v_iconst (v := 1) hX dX9_isCut_18 (by decide) ?_
  refine v_iand hX dX9_isCut_19 ?_
  refine v_iconst (v := 1) hX dX9_isCut_20 (by decide) ?_
  refine v_icmp_ne (tgt := 28) hX dX9_isCut_21 (by decide) (fun c5 => ?_) (fun c5 => ?_)
  · have h := h_E c5 h
    refine v_iconst (v := 0) hX dX9_isCut_28 (by decide) ?_
    refine v_pick [] rfl ?_
    exact b_X9_isCut_29 hX hE _ h
  · have h := h_T c5 h
    refine v_iconst (v := 1) hX dX9_isCut_24 (by decide) ?_
    refine v_goto (tgt := 29) hX dX9_isCut_25 (by decide) ?_
    refine v_pick [] rfl ?_
    exact b_X9_isCut_29 hX hE _ h
set_option maxRecDepth 100000 in
set_option maxHeartbeats 4000000 in
theorem b_X9_commonTo_52 {X : h_X} (hX : h_ok X cX9_commonTo 8 RX9 1 23) {Q : Int32 → h_S → Prop} (hE : h_end X (some .int) (h_QI (x_Z X) Q)) {K17 : Nat → Option Nat → Option Nat → Int32 → Int32 → h_S → Prop} (hK17 : ∀ (o0 : Nat) (r2 : Option Nat) (r3 : Option Nat) (x4 : Int32) (x5 : Int32) (s : h_S), K17 o0 r2 r3 x4 x5 s → h_V X 8 17 [(0, pR (some o0)), (2, pR r2), (3, pR r3), (4, pI x4), (5, pI x5)] [] s 0 0) {o0 : Nat} {r2 : Option Nat} {r3 : Option Nat} {x4 : Int32} {x5 : Int32} (s : h_S) (h : w_X9_commonTo_52 Q K17 o0 r2 r3 x4 x5 s) : h_V X 8 52 [(0, pR (some o0)), (2, pR r2), (3, pR r3), (4, pI x4), (5, pI x5)] [] s 0 0 := by
  unfold w_X9_commonTo_52 at h
  refine v_iinc (c := 1) (lv' := [(5, _), (0, _), (2, _), (3, _), (4, _)]) hX dX9_commonTo_52 4 rfl (by decide) (by decide) rfl ?_
  refine v_goto (tgt := 17) hX dX9_commonTo_55 (by decide) ?_
  refine v_pick [1, 2, 3, 4, 0] rfl ?_
  exact hK17 _ _ _ _ _ _ h
set_option maxRecDepth 100000 in
set_option maxHeartbeats 4000000 in
theorem b_X9_commonTo_120 {X : h_X} (hX : h_ok X cX9_commonTo 8 RX9 1 23) {Q : Int32 → h_S → Prop} (hE : h_end X (some .int) (h_QI (x_Z X) Q)) {K71 : Nat → Int32 → Option Nat → Int32 → Int32 → h_S → Prop} (hK71 : ∀ (o0 : Nat) (x3 : Int32) (r4 : Option Nat) (x5 : Int32) (x6 : Int32) (s : h_S), K71 o0 x3 r4 x5 x6 s → h_V X 8 71 [(0, pR (some o0)), (3, pI x3), (4, pR r4), (5, pI x5), (6, pI x6)] [] s 0 0) {o0 : Nat} {x3 : Int32} {r4 : Option Nat} {x5 : Int32} {x6 : Int32} (s : h_S) (h : w_X9_commonTo_120 Q K71 o0 x3 r4 x5 x6 s) : h_V X 8 120 [(0, pR (some o0)), (3, pI x3), (4, pR r4), (5, pI x5), (6, pI x6)] [] s 0 0 := by
  unfold w_X9_commonTo_120 at h
  refine v_iinc (c := 1) (lv' := [(6, _), (0, _), (3, _), (4, _), (5, _)]) hX dX9_commonTo_120 4 rfl (by decide) (by decide) rfl ?_
  refine v_goto (tgt := 71) hX dX9_commonTo_123 (by decide) ?_
  refine v_pick [1, 2, 3, 4, 0] rfl ?_
  exact hK71 _ _ _ _ _ _ h
set_option maxRecDepth 100000 in
set_option maxHeartbeats 4000000 in
theorem b_X9_commonTo_71 {X : h_X} (hX : h_ok X cX9_commonTo 8 RX9 1 23) {Q : Int32 → h_S → Prop} (hE : h_end X (some .int) (h_QI (x_Z X) Q)) : ∀ (n : Nat) (o0 : Nat) (x3 : Int32) (r4 : Option Nat) (x5 : Int32) (x6 : Int32) (s : h_S), w_X9_commonTo_71 Q n o0 x3 r4 x5 x6 s → h_V X 8 71 [(0, pR (some o0)), (3, pI x3), (4, pR r4), (5, pI x5), (6, pI x6)] [] s 0 0 := by
  intro n
  induction n with
  | zero => intro _ _ _ _ _ s h; exact h.elim
  | succ n hK71 =>
    intro o0 x3 r4 x5 x6 s h
    have h : w_X9_commonTo_71b Q (w_X9_commonTo_71 Q n) o0 x3 r4 x5 x6 s := h
    unfold w_X9_commonTo_71b at h
    refine v_iload hX dX9_commonTo_71 4 rfl ?_
    refine v_iload hX dX9_commonTo_73 3 rfl ?_
    refine v_icmp_ge (tgt := 126) hX dX9_commonTo_75 (by decide) (fun c1 => ?_) (fun c1 => ?_)
    · have h := h_T c1 h
      refine v_iload_n hX dX9_commonTo_126 1 rfl rfl ?_
      exact v_iret hX hE dX9_commonTo_127 h
    · have h := h_E c1 h
      refine v_aload hX dX9_commonTo_78 2 rfl ?_
      refine v_iload hX dX9_commonTo_80 4 rfl ?_
      obtain ⟨a2, e_a2, h⟩ := h
      refine v_nn1 e_a2 ?_
      obtain ⟨k3, h⟩ := h
      obtain ⟨i4, h⟩ := h
      refine v_iald hX dX9_commonTo_82 k3 i4 ?_
      refine v_istore (lv' := [(7, _), (0, _), (3, _), (4, _), (5, _), (6, _)]) hX dX9_commonTo_83 (by decide) rfl ?_
      refine v_iload hX dX9_commonTo_85 0 rfl ?_
      refine v_sipush (v := 500) hX dX9_commonTo_87 (by decide) ?_
      refine v_callSi hX dX9_commonTo_90 c_RX9_74 cS_X11_within [pI _, pI _] rfl rfl (Nat.le_of_ble_eq_true rfl) (by decide) (by decide) (Nat.zero_le _) (Nat.zero_le _) (m_X11_within h) (fun p6 s5 h => ?_)
      refine v_if_eq (tgt := 120) hX dX9_commonTo_93 (by decide) (fun c7 => ?_) (fun c7 => ?_)
      · have h := h_T c7 h
        refine v_pick [1, 2, 3, 4, 5] rfl ?_
        exact b_X9_commonTo_120 hX hE hK71 _ h
      · have h := h_E c7 h
        refine v_aload_n hX dX9_commonTo_96 1 rfl rfl ?_
        obtain ⟨k8, h⟩ := h
        refine v_getR hX dX9_commonTo_97 f_RX9_20 rfl k8 ?_
        refine v_iload hX dX9_commonTo_100 0 rfl ?_
        obtain ⟨a9, e_a9, h⟩ := h
        refine v_nn1 e_a9 ?_
        obtain ⟨k10, h⟩ := h
        obtain ⟨i11, h⟩ := h
        refine v_iald hX dX9_commonTo_102 k10 i11 ?_
        refine v_if_le (tgt := 120) hX dX9_commonTo_103 (by decide) (fun c12 => ?_) (fun c12 => ?_)
        · have h := h_T c12 h
          refine v_pick [1, 2, 3, 4, 5] rfl ?_
          exact b_X9_commonTo_120 hX hE hK71 _ h
        · have h := h_E c12 h
          refine v_aload_n hX dX9_commonTo_106 1 rfl rfl ?_
          refine v_getR hX dX9_commonTo_107 f_RX9_20 rfl k8 ?_
          refine v_iload hX dX9_commonTo_110 0 rfl ?_
          refine v_dup2 hX dX9_commonTo_112 rfl rfl ?_
          obtain ⟨a13, e_a13, h⟩ := h
          refine v_nn1 e_a13 ?_
          obtain ⟨k14, h⟩ := h
          obtain ⟨i15, h⟩ := h
          refine v_iald hX dX9_commonTo_113 k14 i15 ?_
          refine v_iconst (v := 1) hX dX9_commonTo_114 (by decide) ?_
          refine v_isub hX dX9_commonTo_115 ?_
          obtain ⟨a16, e_a16, h⟩ := h
          refine v_nn2 e_a16 ?_
          obtain ⟨k17, h⟩ := h
          obtain ⟨i18, h⟩ := h
          refine v_iast hX dX9_commonTo_116 k17 i18 ?_
          refine v_iinc (c := 1) (lv' := [(3, _), (7, _), (0, _), (4, _), (5, _), (6, _)]) hX dX9_commonTo_117 2 rfl (by decide) (by decide) rfl ?_
          refine v_pick [2, 0, 3, 4, 5] rfl ?_
          exact b_X9_commonTo_120 hX hE hK71 _ h
set_option maxRecDepth 100000 in
set_option maxHeartbeats 4000000 in
theorem b_X9_commonTo_17 {X : h_X} (hX : h_ok X cX9_commonTo 8 RX9 1 23) {Q : Int32 → h_S → Prop} (hE : h_end X (some .int) (h_QI (x_Z X) Q)) : ∀ (n : Nat) (o0 : Nat) (r2 : Option Nat) (r3 : Option Nat) (x4 : Int32) (x5 : Int32) (s : h_S), w_X9_commonTo_17 Q n o0 r2 r3 x4 x5 s → h_V X 8 17 [(0, pR (some o0)), (2, pR r2), (3, pR r3), (4, pI x4), (5, pI x5)] [] s 0 0 := by
  intro n
  induction n with
  | zero => intro _ _ _ _ _ s h; exact h.elim
  | succ n hK17 =>
    intro o0 r2 r3 x4 x5 s h
    have h : w_X9_commonTo_17b Q (w_X9_commonTo_17 Q n) o0 r2 r3 x4 x5 s := h
    unfold w_X9_commonTo_17b at h
    refine v_iload hX dX9_commonTo_17 4 rfl ?_
    refine v_iload hX dX9_commonTo_19 3 rfl ?_
    refine v_icmp_ge (tgt := 58) hX dX9_commonTo_21 (by decide) (fun c1 => ?_) (fun c1 => ?_)
    · have h := h_T c1 h
      refine v_iconst (v := 0) hX dX9_commonTo_58 (by decide) ?_
      refine v_istore_n (lv' := [(3, _), (0, _), (2, _), (4, _), (5, _)]) hX dX9_commonTo_59 rfl (by decide) rfl ?_
      refine v_aload_n hX dX9_commonTo_60 2 rfl rfl ?_
      refine v_astore (lv' := [(4, _), (3, _), (0, _), (2, _), (5, _)]) hX dX9_commonTo_61 (by decide) rfl ?_
      refine v_aload hX dX9_commonTo_63 0 rfl ?_
      obtain ⟨a2, e_a2, h⟩ := h
      refine v_nn0 e_a2 ?_
      obtain ⟨k3, h⟩ := h
      refine v_alenK hX dX9_commonTo_65 (k := 1) rfl (by decide) (by decide) k3 ?_
      refine v_istore (lv' := [(5, _), (4, _), (3, _), (0, _), (2, _)]) hX dX9_commonTo_66 (by decide) rfl ?_
      refine v_iconst (v := 0) hX dX9_commonTo_68 (by decide) ?_
      refine v_istore (lv' := [(6, _), (5, _), (4, _), (3, _), (0, _), (2, _)]) hX dX9_commonTo_69 (by decide) rfl ?_
      refine v_pick [4, 3, 2, 1, 0] rfl ?_
      obtain ⟨n, h⟩ := h
      exact b_X9_commonTo_71 hX hE n _ _ _ _ _ _ h
    · have h := h_E c1 h
      refine v_aload_n hX dX9_commonTo_24 2 rfl rfl ?_
      refine v_iload hX dX9_commonTo_25 4 rfl ?_
      obtain ⟨a4, e_a4, h⟩ := h
      refine v_nn1 e_a4 ?_
      obtain ⟨k5, h⟩ := h
      obtain ⟨i6, h⟩ := h
      refine v_iald hX dX9_commonTo_27 k5 i6 ?_
      refine v_istore (lv' := [(6, _), (0, _), (2, _), (3, _), (4, _), (5, _)]) hX dX9_commonTo_28 (by decide) rfl ?_
      refine v_iload hX dX9_commonTo_30 0 rfl ?_
      refine v_sipush (v := 500) hX dX9_commonTo_32 (by decide) ?_
      refine v_callSi hX dX9_commonTo_35 c_RX9_74 cS_X11_within [pI _, pI _] rfl rfl (Nat.le_of_ble_eq_true rfl) (by decide) (by decide) (Nat.zero_le _) (Nat.zero_le _) (m_X11_within h) (fun p8 s7 h => ?_)
      refine v_if_eq (tgt := 52) hX dX9_commonTo_38 (by decide) (fun c9 => ?_) (fun c9 => ?_)
      · have h := h_T c9 h
        refine v_pick [1, 2, 3, 4, 5] rfl ?_
        exact b_X9_commonTo_52 hX hE hK17 _ h
      · have h := h_E c9 h
        refine v_aload_n hX dX9_commonTo_41 1 rfl rfl ?_
        obtain ⟨k10, h⟩ := h
        refine v_getR hX dX9_commonTo_42 f_RX9_20 rfl k10 ?_
        refine v_iload hX dX9_commonTo_45 0 rfl ?_
        refine v_dup2 hX dX9_commonTo_47 rfl rfl ?_
        obtain ⟨a11, e_a11, h⟩ := h
        refine v_nn1 e_a11 ?_
        obtain ⟨k12, h⟩ := h
        obtain ⟨i13, h⟩ := h
        refine v_iald hX dX9_commonTo_48 k12 i13 ?_
        refine v_iconst (v := 1) hX dX9_commonTo_49 (by decide) ?_
        refine v_iadd hX dX9_commonTo_50 ?_
        obtain ⟨a14, e_a14, h⟩ := h
        refine v_nn2 e_a14 ?_
        obtain ⟨k15, h⟩ := h
        obtain ⟨i16, h⟩ := h
        refine v_iast hX dX9_commonTo_51 k15 i16 ?_
        refine v_pick [1, 2, 3, 4, 5] rfl ?_
        exact b_X9_commonTo_52 hX hE hK17 _ h
set_option maxRecDepth 100000 in
set_option maxHeartbeats 4000000 in
theorem m_X9_commonTo {Z : h_Z} {o0 : Nat} {r1 : Option Nat} {r2 : Option Nat} {s : h_S} {Q : Int32 → h_S → Prop} (h : w_X9_commonTo o0 r1 r2 s Q) : h_M Z yX9_commonTo cX9_commonTo 8 (some .int) 1 23 [pR (some o0), pR r1, pR r2] s 0 0 (h_QI Z Q) := by
  refine h_M.of (by decide) (Nat.le_of_ble_eq_true rfl) (fun X hZ hX hE hI => ?_)
  subst hZ
  unfold w_X9_commonTo at h
  show h_V X 8 0 [(0, pR (some o0)), (1, pR r1), (2, pR r2)] [] s 0 0
  refine v_aload_n hX dX9_commonTo_0 0 rfl rfl ?_
  obtain ⟨k1, h⟩ := h
  refine v_getR hX dX9_commonTo_1 f_RX9_20 rfl k1 ?_
  refine v_iconst (v := 0) hX dX9_commonTo_4 (by decide) ?_
  refine v_callSv hX dX9_commonTo_5 c_RX9_64 cS_J7_fill_53178 [pR _, pI _] rfl rfl (Nat.le_of_ble_eq_true rfl) (by decide) (by decide) (Nat.zero_le _) (Nat.zero_le _) (m_J7_fill_53178 h) (fun s2 h => ?_)
  refine v_aload_n hX dX9_commonTo_8 1 rfl rfl ?_
  refine v_astore_n (lv' := [(3, _), (0, _), (1, _), (2, _)]) hX dX9_commonTo_9 rfl (by decide) rfl ?_
  refine v_aload_n hX dX9_commonTo_10 0 rfl rfl ?_
  obtain ⟨a4, e_a4, h⟩ := h
  refine v_nn0 e_a4 ?_
  obtain ⟨k5, h⟩ := h
  refine v_alenK hX dX9_commonTo_11 (k := 1) rfl (by decide) (by decide) k5 ?_
  refine v_istore (lv' := [(4, _), (3, _), (0, _), (1, _), (2, _)]) hX dX9_commonTo_12 (by decide) rfl ?_
  refine v_iconst (v := 0) hX dX9_commonTo_14 (by decide) ?_
  refine v_istore (lv' := [(5, _), (4, _), (3, _), (0, _), (1, _), (2, _)]) hX dX9_commonTo_15 (by decide) rfl ?_
  refine v_pick [3, 5, 2, 1, 0] rfl ?_
  obtain ⟨n, h⟩ := h
  exact b_X9_commonTo_17 hX hE n _ _ _ _ _ _ h
set_option maxRecDepth 100000 in
set_option maxHeartbeats 4000000 in
theorem b_X9_withoutGaps_45 {X : h_X} (hX : h_ok X cX9_withoutGaps 7 RX9 0 0) {Q : Int32 → h_S → Prop} (hE : h_end X (some .int) (h_QI (x_Z X) Q)) {K11 : Option Nat → Int32 → Option Nat → Int32 → Int32 → h_S → Prop} (hK11 : ∀ (r1 : Option Nat) (x2 : Int32) (r3 : Option Nat) (x4 : Int32) (x5 : Int32) (s : h_S), K11 r1 x2 r3 x4 x5 s → h_V X 7 11 [(1, pR r1), (2, pI x2), (3, pR r3), (4, pI x4), (5, pI x5)] [] s 0 0) {r1 : Option Nat} {x2 : Int32} {r3 : Option Nat} {x4 : Int32} {x5 : Int32} (s : h_S) (h : w_X9_withoutGaps_45 Q K11 r1 x2 r3 x4 x5 s) : h_V X 7 45 [(1, pR r1), (2, pI x2), (3, pR r3), (4, pI x4), (5, pI x5)] [] s 0 0 := by
  unfold w_X9_withoutGaps_45 at h
  refine v_iinc (c := 1) (lv' := [(5, _), (1, _), (2, _), (3, _), (4, _)]) hX dX9_withoutGaps_45 4 rfl (by decide) (by decide) rfl ?_
  refine v_goto (tgt := 11) hX dX9_withoutGaps_48 (by decide) ?_
  refine v_pick [1, 2, 3, 4, 0] rfl ?_
  exact hK11 _ _ _ _ _ _ h
set_option maxRecDepth 100000 in
set_option maxHeartbeats 4000000 in
theorem b_X9_withoutGaps_11 {X : h_X} (hX : h_ok X cX9_withoutGaps 7 RX9 0 0) {Q : Int32 → h_S → Prop} (hE : h_end X (some .int) (h_QI (x_Z X) Q)) : ∀ (n : Nat) (r1 : Option Nat) (x2 : Int32) (r3 : Option Nat) (x4 : Int32) (x5 : Int32) (s : h_S), w_X9_withoutGaps_11 Q n r1 x2 r3 x4 x5 s → h_V X 7 11 [(1, pR r1), (2, pI x2), (3, pR r3), (4, pI x4), (5, pI x5)] [] s 0 0 := by
  intro n
  induction n with
  | zero => intro _ _ _ _ _ s h; exact h.elim
  | succ n hK11 =>
    intro r1 x2 r3 x4 x5 s h
    have h : w_X9_withoutGaps_11b Q (w_X9_withoutGaps_11 Q n) r1 x2 r3 x4 x5 s := h
    unfold w_X9_withoutGaps_11b at h
    refine v_iload hX dX9_withoutGaps_11 4 rfl ?_
    refine v_iload hX dX9_withoutGaps_13 3 rfl ?_
    refine v_icmp_ge (tgt := 51) hX dX9_withoutGaps_15 (by decide) (fun c1 => ?_) (fun c1 => ?_)
    · have h := h_T c1 h
      refine v_iload_n hX dX9_withoutGaps_51 1 rfl rfl ?_
      exact v_iret hX hE dX9_withoutGaps_52 h
    · have h := h_E c1 h
      refine v_aload_n hX dX9_withoutGaps_18 2 rfl rfl ?_
      refine v_iload hX dX9_withoutGaps_19 4 rfl ?_
      obtain ⟨a2, e_a2, h⟩ := h
      refine v_nn1 e_a2 ?_
      obtain ⟨k3, h⟩ := h
      obtain ⟨i4, h⟩ := h
      refine v_iald hX dX9_withoutGaps_21 k3 i4 ?_
      refine v_istore (lv' := [(6, _), (1, _), (2, _), (3, _), (4, _), (5, _)]) hX dX9_withoutGaps_22 (by decide) rfl ?_
      refine v_iload hX dX9_withoutGaps_24 0 rfl ?_
      refine v_bipush (v := -7) hX dX9_withoutGaps_26 (by decide) ?_
      refine v_icmp_eq (tgt := 45) hX dX9_withoutGaps_28 (by decide) (fun c5 => ?_) (fun c5 => ?_)
      · have h := h_T c5 h
        refine v_pick [1, 2, 3, 4, 5] rfl ?_
        exact b_X9_withoutGaps_45 hX hE hK11 _ h
      · have h := h_E c5 h
        refine v_iload_n hX dX9_withoutGaps_31 2 rfl rfl ?_
        refine v_aload_n hX dX9_withoutGaps_32 1 rfl rfl ?_
        obtain ⟨a6, e_a6, h⟩ := h
        refine v_nn0 e_a6 ?_
        obtain ⟨k7, h⟩ := h
        refine v_alenK hX dX9_withoutGaps_33 (k := 1) rfl (by decide) (by decide) k7 ?_
        refine v_icmp_ge (tgt := 45) hX dX9_withoutGaps_34 (by decide) (fun c8 => ?_) (fun c8 => ?_)
        · have h := h_T c8 h
          refine v_pick [1, 2, 3, 4, 5] rfl ?_
          exact b_X9_withoutGaps_45 hX hE hK11 _ h
        · have h := h_E c8 h
          refine v_aload_n hX dX9_withoutGaps_37 1 rfl rfl ?_
          refine v_iload_n hX dX9_withoutGaps_38 2 rfl rfl ?_
          refine v_iload hX dX9_withoutGaps_39 0 rfl ?_
          obtain ⟨a9, e_a9, h⟩ := h
          refine v_nn2 e_a9 ?_
          obtain ⟨k10, h⟩ := h
          obtain ⟨i11, h⟩ := h
          refine v_iast hX dX9_withoutGaps_41 k10 i11 ?_
          refine v_iinc (c := 1) (lv' := [(2, _), (6, _), (1, _), (3, _), (4, _), (5, _)]) hX dX9_withoutGaps_42 2 rfl (by decide) (by decide) rfl ?_
          refine v_pick [2, 0, 3, 4, 5] rfl ?_
          exact b_X9_withoutGaps_45 hX hE hK11 _ h
set_option maxRecDepth 100000 in
set_option maxHeartbeats 4000000 in
theorem m_X9_withoutGaps {Z : h_Z} {r0 : Option Nat} {r1 : Option Nat} {s : h_S} {Q : Int32 → h_S → Prop} (h : w_X9_withoutGaps r0 r1 s Q) : h_M Z yX9_withoutGaps cX9_withoutGaps 7 (some .int) 0 0 [pR r0, pR r1] s 0 0 (h_QI Z Q) := by
  refine h_M.of (by decide) (Nat.le_of_ble_eq_true rfl) (fun X hZ hX hE hI => ?_)
  subst hZ
  unfold w_X9_withoutGaps at h
  show h_V X 7 0 [(0, pR r0), (1, pR r1)] [] s 0 0
  refine v_iconst (v := 0) hX dX9_withoutGaps_0 (by decide) ?_
  refine v_istore_n (lv' := [(2, _), (0, _), (1, _)]) hX dX9_withoutGaps_1 rfl (by decide) rfl ?_
  refine v_aload_n hX dX9_withoutGaps_2 1 rfl rfl ?_
  refine v_astore_n (lv' := [(3, _), (2, _), (0, _), (1, _)]) hX dX9_withoutGaps_3 rfl (by decide) rfl ?_
  refine v_aload_n hX dX9_withoutGaps_4 0 rfl rfl ?_
  obtain ⟨a1, e_a1, h⟩ := h
  refine v_nn0 e_a1 ?_
  obtain ⟨k2, h⟩ := h
  refine v_alenK hX dX9_withoutGaps_5 (k := 1) rfl (by decide) (by decide) k2 ?_
  refine v_istore (lv' := [(4, _), (3, _), (2, _), (0, _), (1, _)]) hX dX9_withoutGaps_6 (by decide) rfl ?_
  refine v_iconst (v := 0) hX dX9_withoutGaps_8 (by decide) ?_
  refine v_istore (lv' := [(5, _), (4, _), (3, _), (2, _), (0, _), (1, _)]) hX dX9_withoutGaps_9 (by decide) rfl ?_
  refine v_pick [5, 3, 2, 1, 0] rfl ?_
  obtain ⟨n, h⟩ := h
  exact b_X9_withoutGaps_11 hX hE n _ _ _ _ _ _ h
set_option maxRecDepth 100000 in
set_option maxHeartbeats 4000000 in
theorem b_X9_findWay_137 {X : h_X} (hX : h_ok X cX9_findWay 6 RX9 2 53) {Q : h_S → Prop} (hE : h_end X none (h_QV (x_Z X) Q)) {K35 : Nat → Int32 → Option Nat → Int32 → Int32 → Int32 → h_S → Prop} (hK35 : ∀ (o0 : Nat) (x1 : Int32) (r2 : Option Nat) (x3 : Int32) (x4 : Int32) (x5 : Int32) (s : h_S), K35 o0 x1 r2 x3 x4 x5 s → h_V X 6 35 [(0, pR (some o0)), (1, pI x1), (2, pR r2), (3, pI x3), (4, pI x4), (5, pI x5)] [] s 0 0) {o0 : Nat} {x1 : Int32} {r2 : Option Nat} {x3 : Int32} {x4 : Int32} {x5 : Int32} (s : h_S) (h : w_X9_findWay_137 Q K35 o0 x1 r2 x3 x4 x5 s) : h_V X 6 137 [(0, pR (some o0)), (1, pI x1), (2, pR r2), (3, pI x3), (4, pI x4), (5, pI x5)] [] s 0 0 := by
  unfold w_X9_findWay_137 at h
  refine v_iinc (c := 1) (lv' := [(5, _), (0, _), (1, _), (2, _), (3, _), (4, _)]) hX dX9_findWay_137 5 rfl (by decide) (by decide) rfl ?_
  refine v_goto (tgt := 35) hX dX9_findWay_140 (by decide) ?_
  refine v_pick [1, 2, 3, 4, 5, 0] rfl ?_
  exact hK35 _ _ _ _ _ _ _ h
set_option maxRecDepth 100000 in
set_option maxHeartbeats 4000000 in
theorem b_X9_findWay_129 {X : h_X} (hX : h_ok X cX9_findWay 6 RX9 2 53) {Q : h_S → Prop} (hE : h_end X none (h_QV (x_Z X) Q)) {K35 : Nat → Int32 → Option Nat → Int32 → Int32 → Int32 → h_S → Prop} (hK35 : ∀ (o0 : Nat) (x1 : Int32) (r2 : Option Nat) (x3 : Int32) (x4 : Int32) (x5 : Int32) (s : h_S), K35 o0 x1 r2 x3 x4 x5 s → h_V X 6 35 [(0, pR (some o0)), (1, pI x1), (2, pR r2), (3, pI x3), (4, pI x4), (5, pI x5)] [] s 0 0) {o0 : Nat} {x1 : Int32} {r2 : Option Nat} {x3 : Int32} {x4 : Int32} {x5 : Int32} (s : h_S) (h : w_X9_findWay_129 Q K35 o0 x1 r2 x3 x4 x5 s) : h_V X 6 129 [(0, pR (some o0)), (1, pI x1), (2, pR r2), (3, pI x3), (4, pI x4), (5, pI x5)] [] s 0 0 := by
  unfold w_X9_findWay_129 at h
  refine v_aload_n hX dX9_findWay_129 0 rfl rfl ?_
  obtain ⟨k1, h⟩ := h
  refine v_getR hX dX9_findWay_130 f_RX9_38 rfl k1 ?_
  refine v_iload hX dX9_findWay_133 5 rfl ?_
  refine v_iconst (v := 1) hX dX9_findWay_135 (by decide) ?_
  obtain ⟨a2, e_a2, h⟩ := h
  refine v_nn2 e_a2 ?_
  obtain ⟨k3, h⟩ := h
  obtain ⟨i4, h⟩ := h
  refine v_zast hX dX9_findWay_136 k3 i4 (Or.inr rfl) ?_
  refine v_pick [0, 1, 2, 3, 4, 5] rfl ?_
  exact b_X9_findWay_137 hX hE hK35 _ h
set_option maxRecDepth 100000 in
set_option maxHeartbeats 4000000 in
theorem b_X9_findWay_92 {X : h_X} (hX : h_ok X cX9_findWay 6 RX9 2 53) {Q : h_S → Prop} (hE : h_end X none (h_QV (x_Z X) Q)) {K35 : Nat → Int32 → Option Nat → Int32 → Int32 → Int32 → h_S → Prop} (hK35 : ∀ (o0 : Nat) (x1 : Int32) (r2 : Option Nat) (x3 : Int32) (x4 : Int32) (x5 : Int32) (s : h_S), K35 o0 x1 r2 x3 x4 x5 s → h_V X 6 35 [(0, pR (some o0)), (1, pI x1), (2, pR r2), (3, pI x3), (4, pI x4), (5, pI x5)] [] s 0 0) {o0 : Nat} {x1 : Int32} {r2 : Option Nat} {x3 : Int32} {x4 : Int32} {x5 : Int32} (s : h_S) (h : w_X9_findWay_92 Q K35 o0 x1 r2 x3 x4 x5 s) : h_V X 6 92 [(0, pR (some o0)), (1, pI x1), (2, pR r2), (3, pI x3), (4, pI x4), (5, pI x5)] [] s 0 0 := by
  unfold w_X9_findWay_92 at h
  refine v_aload_n hX dX9_findWay_92 0 rfl rfl ?_
  obtain ⟨k1, h⟩ := h
  refine v_getR hX dX9_findWay_93 f_RX9_35 rfl k1 ?_
  refine v_iload_n hX dX9_findWay_96 1 rfl rfl ?_
  obtain ⟨a2, e_a2, h⟩ := h
  refine v_nn1 e_a2 ?_
  obtain ⟨k3, h⟩ := h
  obtain ⟨i4, h⟩ := h
  refine v_aald (k := 8) hX dX9_findWay_97 rfl rfl (by decide) (by decide) k3 i4 ?_
  refine v_iload hX dX9_findWay_98 5 rfl ?_
  refine v_iload hX dX9_findWay_100 4 rfl ?_
  obtain ⟨a5, e_a5, h⟩ := h
  refine v_nn2 e_a5 ?_
  obtain ⟨k6, h⟩ := h
  obtain ⟨i7, h⟩ := h
  refine v_iast hX dX9_findWay_102 k6 i7 ?_
  refine v_iload hX dX9_findWay_103 4 rfl ?_
  refine v_iload_n hX dX9_findWay_105 3 rfl rfl ?_
  refine v_icmp_ge (tgt := 129) hX dX9_findWay_106 (by decide) (fun c9 => ?_) (fun c9 => ?_)
  · have h := h_T c9 h
    refine v_pick [0, 1, 2, 3, 4, 5] rfl ?_
    exact b_X9_findWay_129 hX hE hK35 _ h
  · have h := h_E c9 h
    refine v_aload_n hX dX9_findWay_109 2 rfl rfl ?_
    refine v_iload hX dX9_findWay_110 4 rfl ?_
    obtain ⟨a10, e_a10, h⟩ := h
    refine v_nn1 e_a10 ?_
    obtain ⟨k11, h⟩ := h
    obtain ⟨i12, h⟩ := h
    refine v_iald hX dX9_findWay_112 k11 i12 ?_
    refine v_aload_n hX dX9_findWay_113 0 rfl rfl ?_
    refine v_getR hX dX9_findWay_114 f_RX9_23 rfl k1 ?_
    refine v_iload hX dX9_findWay_117 5 rfl ?_
    obtain ⟨a13, e_a13, h⟩ := h
    refine v_nn1 e_a13 ?_
    obtain ⟨k14, h⟩ := h
    obtain ⟨i15, h⟩ := h
    refine v_iald hX dX9_findWay_119 k14 i15 ?_
    refine v_icmp_ne (tgt := 129) hX dX9_findWay_120 (by decide) (fun c16 => ?_) (fun c16 => ?_)
    · have h := h_E c16 h
      refine v_pick [0, 1, 2, 3, 4, 5] rfl ?_
      exact b_X9_findWay_129 hX hE hK35 _ h
    · have h := h_T c16 h
      refine v_iinc (c := 1) (lv' := [(4, _), (0, _), (1, _), (2, _), (3, _), (5, _)]) hX dX9_findWay_123 4 rfl (by decide) (by decide) rfl ?_
      refine v_goto (tgt := 137) hX dX9_findWay_126 (by decide) ?_
      refine v_pick [1, 2, 3, 4, 0, 5] rfl ?_
      exact b_X9_findWay_137 hX hE hK35 _ h
set_option maxRecDepth 100000 in
set_option maxHeartbeats 4000000 in
theorem b_X9_findWay_55 {X : h_X} (hX : h_ok X cX9_findWay 6 RX9 2 53) {Q : h_S → Prop} (hE : h_end X none (h_QV (x_Z X) Q)) {K35 : Nat → Int32 → Option Nat → Int32 → Int32 → Int32 → h_S → Prop} (hK35 : ∀ (o0 : Nat) (x1 : Int32) (r2 : Option Nat) (x3 : Int32) (x4 : Int32) (x5 : Int32) (s : h_S), K35 o0 x1 r2 x3 x4 x5 s → h_V X 6 35 [(0, pR (some o0)), (1, pI x1), (2, pR r2), (3, pI x3), (4, pI x4), (5, pI x5)] [] s 0 0) : ∀ (n : Nat) (o0 : Nat) (x1 : Int32) (r2 : Option Nat) (x3 : Int32) (x4 : Int32) (x5 : Int32) (s : h_S), w_X9_findWay_55 Q K35 n o0 x1 r2 x3 x4 x5 s → h_V X 6 55 [(0, pR (some o0)), (1, pI x1), (2, pR r2), (3, pI x3), (4, pI x4), (5, pI x5)] [] s 0 0 := by
  intro n
  induction n with
  | zero => intro _ _ _ _ _ _ s h; exact h.elim
  | succ n hK55 =>
    intro o0 x1 r2 x3 x4 x5 s h
    have h : w_X9_findWay_55b Q K35 (w_X9_findWay_55 Q K35 n) o0 x1 r2 x3 x4 x5 s := h
    unfold w_X9_findWay_55b at h
    refine v_iload hX dX9_findWay_55 4 rfl ?_
    refine v_iload_n hX dX9_findWay_57 3 rfl rfl ?_
    refine v_icmp_ge (tgt := 92) hX dX9_findWay_58 (by decide) (fun c1 => ?_) (fun c1 => ?_)
    · have h := h_T c1 h
      refine v_pick [0, 1, 2, 3, 4, 5] rfl ?_
      exact b_X9_findWay_92 hX hE hK35 _ h
    · have h := h_E c1 h
      refine v_aload_n hX dX9_findWay_61 2 rfl rfl ?_
      refine v_iload hX dX9_findWay_62 4 rfl ?_
      obtain ⟨a2, e_a2, h⟩ := h
      refine v_nn1 e_a2 ?_
      obtain ⟨k3, h⟩ := h
      obtain ⟨i4, h⟩ := h
      refine v_iald hX dX9_findWay_64 k3 i4 ?_
      refine v_aload_n hX dX9_findWay_65 0 rfl rfl ?_
      obtain ⟨k5, h⟩ := h
      refine v_getR hX dX9_findWay_66 f_RX9_23 rfl k5 ?_
      refine v_iload hX dX9_findWay_69 5 rfl ?_
      obtain ⟨a6, e_a6, h⟩ := h
      refine v_nn1 e_a6 ?_
      obtain ⟨k7, h⟩ := h
      obtain ⟨i8, h⟩ := h
      refine v_iald hX dX9_findWay_71 k7 i8 ?_
      refine v_icmp_eq (tgt := 92) hX dX9_findWay_72 (by decide) (fun c9 => ?_) (fun c9 => ?_)
      · have h := h_T c9 h
        refine v_pick [0, 1, 2, 3, 4, 5] rfl ?_
        exact b_X9_findWay_92 hX hE hK35 _ h
      · have h := h_E c9 h
        refine v_aload_n hX dX9_findWay_75 0 rfl rfl ?_
        refine v_iload hX dX9_findWay_76 5 rfl ?_
        refine v_iload hX dX9_findWay_78 4 rfl ?_
        refine v_callVi hX dX9_findWay_80 c_RX9_102 cV_X9_isCut (ci := 10) (T := TX9) (N := 16) rfl (by exact k5) [pI _, pI _] rfl rfl (Nat.le_of_ble_eq_true rfl) (by decide) (by decide) (Nat.zero_le _) (Nat.zero_le _) (m_X9_isCut h) (fun p11 s10 h => ?_)
        refine v_if_ne (tgt := 92) hX dX9_findWay_83 (by decide) (fun c12 => ?_) (fun c12 => ?_)
        · have h := h_E c12 h
          refine v_pick [0, 1, 2, 3, 4, 5] rfl ?_
          exact b_X9_findWay_92 hX hE hK35 _ h
        · have h := h_T c12 h
          refine v_iinc (c := 1) (lv' := [(4, _), (0, _), (1, _), (2, _), (3, _), (5, _)]) hX dX9_findWay_86 4 rfl (by decide) (by decide) rfl ?_
          refine v_goto (tgt := 55) hX dX9_findWay_89 (by decide) ?_
          refine v_pick [1, 2, 3, 4, 0, 5] rfl ?_
          exact hK55 _ _ _ _ _ _ _ h
set_option maxRecDepth 100000 in
set_option maxHeartbeats 4000000 in
theorem b_X9_findWay_35 {X : h_X} (hX : h_ok X cX9_findWay 6 RX9 2 53) {Q : h_S → Prop} (hE : h_end X none (h_QV (x_Z X) Q)) : ∀ (n : Nat) (o0 : Nat) (x1 : Int32) (r2 : Option Nat) (x3 : Int32) (x4 : Int32) (x5 : Int32) (s : h_S), w_X9_findWay_35 Q n o0 x1 r2 x3 x4 x5 s → h_V X 6 35 [(0, pR (some o0)), (1, pI x1), (2, pR r2), (3, pI x3), (4, pI x4), (5, pI x5)] [] s 0 0 := by
  intro n
  induction n with
  | zero => intro _ _ _ _ _ _ s h; exact h.elim
  | succ n hK35 =>
    intro o0 x1 r2 x3 x4 x5 s h
    have h : w_X9_findWay_35b Q (w_X9_findWay_35 Q n) o0 x1 r2 x3 x4 x5 s := h
    unfold w_X9_findWay_35b at h
    refine v_iload hX dX9_findWay_35 5 rfl ?_
    refine v_aload_n hX dX9_findWay_37 0 rfl rfl ?_
    obtain ⟨k1, h⟩ := h
    refine v_getI hX dX9_findWay_38 f_RX9_81 rfl k1 ?_
    refine v_icmp_ge (tgt := 143) hX dX9_findWay_41 (by decide) (fun c2 => ?_) (fun c2 => ?_)
    · have h := h_T c2 h
      refine v_aload_n hX dX9_findWay_143 0 rfl rfl ?_
      refine v_getR hX dX9_findWay_144 f_RX9_32 rfl k1 ?_
      refine v_iload_n hX dX9_findWay_147 1 rfl rfl ?_
      obtain ⟨a3, e_a3, h⟩ := h
      refine v_nn1 e_a3 ?_
      obtain ⟨k4, h⟩ := h
      obtain ⟨i5, h⟩ := h
      refine v_aald (k := 8) hX dX9_findWay_148 rfl rfl (by decide) (by decide) k4 i5 ?_
      refine v_aload_n hX dX9_findWay_149 0 rfl rfl ?_
      refine v_getI hX dX9_findWay_150 f_RX9_81 rfl k1 ?_
      refine v_iload hX dX9_findWay_153 4 rfl ?_
      obtain ⟨a6, e_a6, h⟩ := h
      refine v_nn2 e_a6 ?_
      obtain ⟨k7, h⟩ := h
      obtain ⟨i8, h⟩ := h
      refine v_iast hX dX9_findWay_155 k7 i8 ?_
      refine v_aload_n hX dX9_findWay_156 0 rfl rfl ?_
      refine v_getR hX dX9_findWay_157 f_RX9_35 rfl k1 ?_
      refine v_iload_n hX dX9_findWay_160 1 rfl rfl ?_
      obtain ⟨a10, e_a10, h⟩ := h
      refine v_nn1 e_a10 ?_
      obtain ⟨k11, h⟩ := h
      obtain ⟨i12, h⟩ := h
      refine v_aald (k := 8) hX dX9_findWay_161 rfl rfl (by decide) (by decide) k11 i12 ?_
      refine v_aload_n hX dX9_findWay_162 0 rfl rfl ?_
      refine v_getI hX dX9_findWay_163 f_RX9_81 rfl k1 ?_
      refine v_iload_n hX dX9_findWay_166 3 rfl rfl ?_
      obtain ⟨a13, e_a13, h⟩ := h
      refine v_nn2 e_a13 ?_
      obtain ⟨k14, h⟩ := h
      obtain ⟨i15, h⟩ := h
      refine v_iast hX dX9_findWay_167 k14 i15 ?_
      exact v_vret hX hE dX9_findWay_168 h
    · have h := h_E c2 h
      refine v_aload_n hX dX9_findWay_44 0 rfl rfl ?_
      refine v_getR hX dX9_findWay_45 f_RX9_32 rfl k1 ?_
      refine v_iload_n hX dX9_findWay_48 1 rfl rfl ?_
      obtain ⟨a17, e_a17, h⟩ := h
      refine v_nn1 e_a17 ?_
      obtain ⟨k18, h⟩ := h
      obtain ⟨i19, h⟩ := h
      refine v_aald (k := 8) hX dX9_findWay_49 rfl rfl (by decide) (by decide) k18 i19 ?_
      refine v_iload hX dX9_findWay_50 5 rfl ?_
      refine v_iload hX dX9_findWay_52 4 rfl ?_
      obtain ⟨a20, e_a20, h⟩ := h
      refine v_nn2 e_a20 ?_
      obtain ⟨k21, h⟩ := h
      obtain ⟨i22, h⟩ := h
      refine v_iast hX dX9_findWay_54 k21 i22 ?_
      refine v_pick [0, 1, 2, 3, 4, 5] rfl ?_
      obtain ⟨n, h⟩ := h
      exact b_X9_findWay_55 hX hE hK35 n _ _ _ _ _ _ _ h
set_option maxRecDepth 100000 in
set_option maxHeartbeats 4000000 in
theorem m_X9_findWay {Z : h_Z} {o0 : Nat} {x1 : Int32} {s : h_S} {Q : h_S → Prop} (h : w_X9_findWay o0 x1 s Q) : h_M Z yX9_findWay cX9_findWay 6 none 2 53 [pR (some o0), pI x1] s 0 0 (h_QV Z Q) := by
  refine h_M.of (by decide) (Nat.le_of_ble_eq_true rfl) (fun X hZ hX hE hI => ?_)
  subst hZ
  unfold w_X9_findWay at h
  show h_V X 6 0 [(0, pR (some o0)), (1, pI x1)] [] s 0 0
  refine v_aload_n hX dX9_findWay_0 0 rfl rfl ?_
  obtain ⟨k1, h⟩ := h
  refine v_getR hX dX9_findWay_1 f_RX9_26 rfl k1 ?_
  refine v_iload_n hX dX9_findWay_4 1 rfl rfl ?_
  obtain ⟨a2, e_a2, h⟩ := h
  refine v_nn1 e_a2 ?_
  obtain ⟨k3, h⟩ := h
  obtain ⟨i4, h⟩ := h
  refine v_aald (k := 8) hX dX9_findWay_5 rfl rfl (by decide) (by decide) k3 i4 ?_
  refine v_astore_n (lv' := [(2, _), (0, _), (1, _)]) hX dX9_findWay_6 rfl (by decide) rfl ?_
  refine v_aload_n hX dX9_findWay_7 1 rfl rfl ?_
  refine v_getR hX dX9_findWay_8 f_RX9_29 rfl k1 ?_
  refine v_iload_n hX dX9_findWay_11 2 rfl rfl ?_
  obtain ⟨a5, e_a5, h⟩ := h
  refine v_nn1 e_a5 ?_
  obtain ⟨k6, h⟩ := h
  obtain ⟨i7, h⟩ := h
  refine v_iald hX dX9_findWay_12 k6 i7 ?_
  refine v_istore_n (lv' := [(3, _), (2, _), (0, _), (1, _)]) hX dX9_findWay_13 rfl (by decide) rfl ?_
  refine v_aload_n hX dX9_findWay_14 2 rfl rfl ?_
  refine v_aload_n hX dX9_findWay_15 2 rfl rfl ?_
  refine v_getR hX dX9_findWay_16 f_RX9_23 rfl k1 ?_
  refine v_aload_n hX dX9_findWay_19 2 rfl rfl ?_
  refine v_getI hX dX9_findWay_20 f_RX9_81 rfl k1 ?_
  refine v_aload_n hX dX9_findWay_23 1 rfl rfl ?_
  refine v_iload_n hX dX9_findWay_24 0 rfl rfl ?_
  refine v_callVi hX dX9_findWay_25 c_RX9_60 cV_X9_sharedOf (ci := 10) (T := TX9) (N := 16) rfl (by exact k1) [pR _, pI _, pR _, pI _] rfl rfl (Nat.le_of_ble_eq_true rfl) (by decide) (by decide) (Nat.zero_le _) (Nat.zero_le _) (m_X9_sharedOf h) (fun p9 s8 h => ?_)
  refine v_pop hX dX9_findWay_28 rfl ?_
  refine v_iconst (v := 0) hX dX9_findWay_29 (by decide) ?_
  refine v_istore (lv' := [(4, _), (3, _), (2, _), (0, _), (1, _)]) hX dX9_findWay_30 (by decide) rfl ?_
  refine v_iconst (v := 0) hX dX9_findWay_32 (by decide) ?_
  refine v_istore (lv' := [(5, _), (4, _), (3, _), (2, _), (0, _), (1, _)]) hX dX9_findWay_33 (by decide) rfl ?_
  refine v_pick [4, 5, 3, 2, 1, 0] rfl ?_
  obtain ⟨n, h⟩ := h
  exact b_X9_findWay_35 hX hE n _ _ _ _ _ _ _ h
set_option maxRecDepth 100000 in
set_option maxHeartbeats 4000000 in
theorem b_J6_compare_7cf53_19 {X : h_X} (hX : h_ok X cJ6_compare_7cf53 2 RJ6 0 0) {Q : Int32 → h_S → Prop} (hE : h_end X (some .int) (h_QI (x_Z X) Q)) {y0 : Int32} (s : h_S) (h : w_J6_compare_7cf53_19 Q y0 s) : h_V X 2 19 [] [pI y0] s 0 0 := by
  unfold w_J6_compare_7cf53_19 at h
  exact v_iret hX hE dJ6_compare_7cf53_19 h
set_option maxRecDepth 100000 in
set_option maxHeartbeats 4000000 in
theorem m_J6_compare_7cf53 {Z : h_Z} {x0 : Int32} {x1 : Int32} {s : h_S} {Q : Int32 → h_S → Prop} (h : w_J6_compare_7cf53 x0 x1 s Q) : h_M Z yJ6_compare_7cf53 cJ6_compare_7cf53 2 (some .int) 0 0 [pI x0, pI x1] s 0 0 (h_QI Z Q) := by
  refine h_M.of (by decide) (Nat.le_of_ble_eq_true rfl) (fun X hZ hX hE hI => ?_)
  subst hZ
  unfold w_J6_compare_7cf53 at h
  show h_V X 2 0 [(0, pI x0), (1, pI x1)] [] s 0 0
  refine v_iload_n hX dJ6_compare_7cf53_0 0 rfl rfl ?_
  refine v_iload_n hX dJ6_compare_7cf53_1 1 rfl rfl ?_
  refine v_icmp_ge (tgt := 9) hX dJ6_compare_7cf53_2 (by decide) (fun c1 => ?_) (fun c1 => ?_)
  · have h := h_T c1 h
    refine v_iload_n hX dJ6_compare_7cf53_9 0 rfl rfl ?_
    refine v_iload_n hX dJ6_compare_7cf53_10 1 rfl rfl ?_
    refine v_icmp_ne (tgt := 18) hX dJ6_compare_7cf53_11 (by decide) (fun c2 => ?_) (fun c2 => ?_)
    · have h := h_E c2 h
      refine v_iconst (v := 1) hX dJ6_compare_7cf53_18 (by decide) ?_
      refine v_pick [] rfl ?_
      exact b_J6_compare_7cf53_19 hX hE _ h
    · have h := h_T c2 h
      refine v_iconst (v := 0) hX dJ6_compare_7cf53_14 (by decide) ?_
      refine v_goto (tgt := 19) hX dJ6_compare_7cf53_15 (by decide) ?_
      refine v_pick [] rfl ?_
      exact b_J6_compare_7cf53_19 hX hE _ h
  · have h := h_E c1 h
    refine v_iconst (v := -1) hX dJ6_compare_7cf53_5 (by decide) ?_
    refine v_goto (tgt := 19) hX dJ6_compare_7cf53_6 (by decide) ?_
    refine v_pick [] rfl ?_
    exact b_J6_compare_7cf53_19 hX hE _ h
set_option maxRecDepth 100000 in
set_option maxHeartbeats 4000000 in
theorem b_X9_orderOfPuts_112 {X : h_X} (hX : h_ok X cX9_orderOfPuts 7 RX9 1 21) {Q : Int32 → h_S → Prop} (hE : h_end X (some .int) (h_QI (x_Z X) Q)) {x2 : Int32} {x3 : Int32} (s : h_S) (h : w_X9_orderOfPuts_112 Q x2 x3 s) : h_V X 7 112 [(2, pI x2), (3, pI x3)] [] s 0 0 := by
  unfold w_X9_orderOfPuts_112 at h
  refine v_iload_n hX dX9_orderOfPuts_112 0 rfl rfl ?_
  refine v_iload_n hX dX9_orderOfPuts_113 1 rfl rfl ?_
  refine v_callSi hX dX9_orderOfPuts_114 c_RX9_113 cS_J6_compare_7cf53 [pI _, pI _] rfl rfl (Nat.le_of_ble_eq_true rfl) (by decide) (by decide) (Nat.zero_le _) (Nat.zero_le _) (m_J6_compare_7cf53 h) (fun p2 s1 h => ?_)
  exact v_iret hX hE dX9_orderOfPuts_117 h
set_option maxRecDepth 100000 in
set_option maxHeartbeats 4000000 in
theorem b_X9_orderOfPuts_39 {X : h_X} (hX : h_ok X cX9_orderOfPuts 7 RX9 1 21) {Q : Int32 → h_S → Prop} (hE : h_end X (some .int) (h_QI (x_Z X) Q)) : ∀ (n : Nat) (o0 : Nat) (x1 : Int32) (x2 : Int32) (x3 : Int32) (x4 : Int32) (s : h_S), w_X9_orderOfPuts_39 Q n o0 x1 x2 x3 x4 s → h_V X 7 39 [(0, pR (some o0)), (1, pI x1), (2, pI x2), (3, pI x3), (4, pI x4)] [] s 0 0 := by
  intro n
  induction n with
  | zero => intro _ _ _ _ _ s h; exact h.elim
  | succ n hK39 =>
    intro o0 x1 x2 x3 x4 s h
    have h : w_X9_orderOfPuts_39b Q (w_X9_orderOfPuts_39 Q n) o0 x1 x2 x3 x4 s := h
    unfold w_X9_orderOfPuts_39b at h
    refine v_iload hX dX9_orderOfPuts_39 4 rfl ?_
    refine v_iload_n hX dX9_orderOfPuts_41 2 rfl rfl ?_
    refine v_icmp_ge (tgt := 112) hX dX9_orderOfPuts_42 (by decide) (fun c1 => ?_) (fun c1 => ?_)
    · have h := h_T c1 h
      refine v_pick [2, 3] rfl ?_
      exact b_X9_orderOfPuts_112 hX hE _ h
    · have h := h_E c1 h
      refine v_iload hX dX9_orderOfPuts_45 4 rfl ?_
      refine v_iload_n hX dX9_orderOfPuts_47 3 rfl rfl ?_
      refine v_icmp_ge (tgt := 112) hX dX9_orderOfPuts_48 (by decide) (fun c2 => ?_) (fun c2 => ?_)
      · have h := h_T c2 h
        refine v_pick [2, 3] rfl ?_
        exact b_X9_orderOfPuts_112 hX hE _ h
      · have h := h_E c2 h
        refine v_aload_n hX dX9_orderOfPuts_51 0 rfl rfl ?_
        obtain ⟨k3, h⟩ := h
        refine v_getR hX dX9_orderOfPuts_52 f_RX9_26 rfl k3 ?_
        refine v_iconst (v := 0) hX dX9_orderOfPuts_55 (by decide) ?_
        obtain ⟨a4, e_a4, h⟩ := h
        refine v_nn1 e_a4 ?_
        obtain ⟨k5, h⟩ := h
        obtain ⟨i6, h⟩ := h
        refine v_aald (k := 8) hX dX9_orderOfPuts_56 rfl rfl (by decide) (by decide) k5 i6 ?_
        refine v_aload_n hX dX9_orderOfPuts_57 0 rfl rfl ?_
        refine v_getR hX dX9_orderOfPuts_58 f_RX9_32 rfl k3 ?_
        refine v_iconst (v := 0) hX dX9_orderOfPuts_61 (by decide) ?_
        obtain ⟨a7, e_a7, h⟩ := h
        refine v_nn1 e_a7 ?_
        obtain ⟨k8, h⟩ := h
        obtain ⟨i9, h⟩ := h
        refine v_aald (k := 8) hX dX9_orderOfPuts_62 rfl rfl (by decide) (by decide) k8 i9 ?_
        refine v_iload_n hX dX9_orderOfPuts_63 1 rfl rfl ?_
        obtain ⟨a10, e_a10, h⟩ := h
        refine v_nn1 e_a10 ?_
        obtain ⟨k11, h⟩ := h
        obtain ⟨i12, h⟩ := h
        refine v_iald hX dX9_orderOfPuts_64 k11 i12 ?_
        refine v_iload hX dX9_orderOfPuts_65 4 rfl ?_
        refine v_iadd hX dX9_orderOfPuts_67 ?_
        obtain ⟨a13, e_a13, h⟩ := h
        refine v_nn1 e_a13 ?_
        obtain ⟨k14, h⟩ := h
        obtain ⟨i15, h⟩ := h
        refine v_iald hX dX9_orderOfPuts_68 k14 i15 ?_
        refine v_istore (lv' := [(5, _), (0, _), (1, _), (2, _), (3, _), (4, _)]) hX dX9_orderOfPuts_69 (by decide) rfl ?_
        refine v_aload_n hX dX9_orderOfPuts_71 1 rfl rfl ?_
        refine v_getR hX dX9_orderOfPuts_72 f_RX9_26 rfl k3 ?_
        refine v_iconst (v := 1) hX dX9_orderOfPuts_75 (by decide) ?_
        obtain ⟨a17, e_a17, h⟩ := h
        refine v_nn1 e_a17 ?_
        obtain ⟨k18, h⟩ := h
        obtain ⟨i19, h⟩ := h
        refine v_aald (k := 8) hX dX9_orderOfPuts_76 rfl rfl (by decide) (by decide) k18 i19 ?_
        refine v_aload_n hX dX9_orderOfPuts_77 1 rfl rfl ?_
        refine v_getR hX dX9_orderOfPuts_78 f_RX9_32 rfl k3 ?_
        refine v_iconst (v := 1) hX dX9_orderOfPuts_81 (by decide) ?_
        obtain ⟨a20, e_a20, h⟩ := h
        refine v_nn1 e_a20 ?_
        obtain ⟨k21, h⟩ := h
        obtain ⟨i22, h⟩ := h
        refine v_aald (k := 8) hX dX9_orderOfPuts_82 rfl rfl (by decide) (by decide) k21 i22 ?_
        refine v_iload_n hX dX9_orderOfPuts_83 2 rfl rfl ?_
        obtain ⟨a23, e_a23, h⟩ := h
        refine v_nn1 e_a23 ?_
        obtain ⟨k24, h⟩ := h
        obtain ⟨i25, h⟩ := h
        refine v_iald hX dX9_orderOfPuts_84 k24 i25 ?_
        refine v_iload hX dX9_orderOfPuts_85 5 rfl ?_
        refine v_iadd hX dX9_orderOfPuts_87 ?_
        obtain ⟨a26, e_a26, h⟩ := h
        refine v_nn1 e_a26 ?_
        obtain ⟨k27, h⟩ := h
        obtain ⟨i28, h⟩ := h
        refine v_iald hX dX9_orderOfPuts_88 k27 i28 ?_
        refine v_istore (lv' := [(6, _), (5, _), (0, _), (1, _), (2, _), (3, _), (4, _)]) hX dX9_orderOfPuts_89 (by decide) rfl ?_
        refine v_iload hX dX9_orderOfPuts_91 1 rfl ?_
        refine v_iload hX dX9_orderOfPuts_93 0 rfl ?_
        refine v_icmp_eq (tgt := 106) hX dX9_orderOfPuts_95 (by decide) (fun c30 => ?_) (fun c30 => ?_)
        · have h := h_T c30 h
          refine v_iinc (c := 1) (lv' := [(4, _), (6, _), (5, _), (0, _), (1, _), (2, _), (3, _)]) hX dX9_orderOfPuts_106 6 rfl (by decide) (by decide) rfl ?_
          refine v_goto (tgt := 39) hX dX9_orderOfPuts_109 (by decide) ?_
          refine v_pick [3, 4, 5, 6, 0] rfl ?_
          exact hK39 _ _ _ _ _ _ h
        · have h := h_E c30 h
          refine v_iload hX dX9_orderOfPuts_98 1 rfl ?_
          refine v_iload hX dX9_orderOfPuts_100 0 rfl ?_
          refine v_callSi hX dX9_orderOfPuts_102 c_RX9_113 cS_J6_compare_7cf53 [pI _, pI _] rfl rfl (Nat.le_of_ble_eq_true rfl) (by decide) (by decide) (Nat.zero_le _) (Nat.zero_le _) (m_J6_compare_7cf53 h) (fun p32 s31 h => ?_)
          exact v_iret hX hE dX9_orderOfPuts_105 h
set_option maxRecDepth 100000 in
set_option maxHeartbeats 4000000 in
theorem m_X9_orderOfPuts {Z : h_Z} {o0 : Nat} {x1 : Int32} {s : h_S} {Q : Int32 → h_S → Prop} (h : w_X9_orderOfPuts o0 x1 s Q) : h_M Z yX9_orderOfPuts cX9_orderOfPuts 7 (some .int) 1 21 [pR (some o0), pI x1] s 0 0 (h_QI Z Q) := by
  refine h_M.of (by decide) (Nat.le_of_ble_eq_true rfl) (fun X hZ hX hE hI => ?_)
  subst hZ
  unfold w_X9_orderOfPuts at h
  show h_V X 7 0 [(0, pR (some o0)), (1, pI x1)] [] s 0 0
  refine v_aload_n hX dX9_orderOfPuts_0 0 rfl rfl ?_
  obtain ⟨k1, h⟩ := h
  refine v_getR hX dX9_orderOfPuts_1 f_RX9_35 rfl k1 ?_
  refine v_iconst (v := 0) hX dX9_orderOfPuts_4 (by decide) ?_
  obtain ⟨a2, e_a2, h⟩ := h
  refine v_nn1 e_a2 ?_
  obtain ⟨k3, h⟩ := h
  obtain ⟨i4, h⟩ := h
  refine v_aald (k := 8) hX dX9_orderOfPuts_5 rfl rfl (by decide) (by decide) k3 i4 ?_
  refine v_iload_n hX dX9_orderOfPuts_6 1 rfl rfl ?_
  obtain ⟨a5, e_a5, h⟩ := h
  refine v_nn1 e_a5 ?_
  obtain ⟨k6, h⟩ := h
  obtain ⟨i7, h⟩ := h
  refine v_iald hX dX9_orderOfPuts_7 k6 i7 ?_
  refine v_aload_n hX dX9_orderOfPuts_8 0 rfl rfl ?_
  refine v_getR hX dX9_orderOfPuts_9 f_RX9_32 rfl k1 ?_
  refine v_iconst (v := 0) hX dX9_orderOfPuts_12 (by decide) ?_
  obtain ⟨a8, e_a8, h⟩ := h
  refine v_nn1 e_a8 ?_
  obtain ⟨k9, h⟩ := h
  obtain ⟨i10, h⟩ := h
  refine v_aald (k := 8) hX dX9_orderOfPuts_13 rfl rfl (by decide) (by decide) k9 i10 ?_
  refine v_iload_n hX dX9_orderOfPuts_14 1 rfl rfl ?_
  obtain ⟨a11, e_a11, h⟩ := h
  refine v_nn1 e_a11 ?_
  obtain ⟨k12, h⟩ := h
  obtain ⟨i13, h⟩ := h
  refine v_iald hX dX9_orderOfPuts_15 k12 i13 ?_
  refine v_isub hX dX9_orderOfPuts_16 ?_
  refine v_istore_n (lv' := [(2, _), (0, _), (1, _)]) hX dX9_orderOfPuts_17 rfl (by decide) rfl ?_
  refine v_aload_n hX dX9_orderOfPuts_18 1 rfl rfl ?_
  refine v_getR hX dX9_orderOfPuts_19 f_RX9_35 rfl k1 ?_
  refine v_iconst (v := 1) hX dX9_orderOfPuts_22 (by decide) ?_
  obtain ⟨a15, e_a15, h⟩ := h
  refine v_nn1 e_a15 ?_
  obtain ⟨k16, h⟩ := h
  obtain ⟨i17, h⟩ := h
  refine v_aald (k := 8) hX dX9_orderOfPuts_23 rfl rfl (by decide) (by decide) k16 i17 ?_
  refine v_iload_n hX dX9_orderOfPuts_24 2 rfl rfl ?_
  obtain ⟨a18, e_a18, h⟩ := h
  refine v_nn1 e_a18 ?_
  obtain ⟨k19, h⟩ := h
  obtain ⟨i20, h⟩ := h
  refine v_iald hX dX9_orderOfPuts_25 k19 i20 ?_
  refine v_aload_n hX dX9_orderOfPuts_26 1 rfl rfl ?_
  refine v_getR hX dX9_orderOfPuts_27 f_RX9_32 rfl k1 ?_
  refine v_iconst (v := 1) hX dX9_orderOfPuts_30 (by decide) ?_
  obtain ⟨a21, e_a21, h⟩ := h
  refine v_nn1 e_a21 ?_
  obtain ⟨k22, h⟩ := h
  obtain ⟨i23, h⟩ := h
  refine v_aald (k := 8) hX dX9_orderOfPuts_31 rfl rfl (by decide) (by decide) k22 i23 ?_
  refine v_iload_n hX dX9_orderOfPuts_32 2 rfl rfl ?_
  obtain ⟨a24, e_a24, h⟩ := h
  refine v_nn1 e_a24 ?_
  obtain ⟨k25, h⟩ := h
  obtain ⟨i26, h⟩ := h
  refine v_iald hX dX9_orderOfPuts_33 k25 i26 ?_
  refine v_isub hX dX9_orderOfPuts_34 ?_
  refine v_istore_n (lv' := [(3, _), (2, _), (0, _), (1, _)]) hX dX9_orderOfPuts_35 rfl (by decide) rfl ?_
  refine v_iconst (v := 0) hX dX9_orderOfPuts_36 (by decide) ?_
  refine v_istore (lv' := [(4, _), (3, _), (2, _), (0, _), (1, _)]) hX dX9_orderOfPuts_37 (by decide) rfl ?_
  refine v_pick [3, 4, 2, 1, 0] rfl ?_
  obtain ⟨n, h⟩ := h
  exact b_X9_orderOfPuts_39 hX hE n _ _ _ _ _ _ h
set_option maxRecDepth 100000 in
set_option maxHeartbeats 4000000 in
theorem b_X9_append_50 {X : h_X} (hX : h_ok X cX9_append 5 RX9 0 0) {Q : h_S → Prop} (hE : h_end X none (h_QV (x_Z X) Q)) (s : h_S) (h : w_X9_append_50 Q s) : h_V X 5 50 [] [] s 0 0 := by
  unfold w_X9_append_50 at h
  exact v_vret hX hE dX9_append_50 h
set_option maxRecDepth 100000 in
set_option maxHeartbeats 4000000 in
theorem b_X9_append_3 {X : h_X} (hX : h_ok X cX9_append 5 RX9 0 0) {Q : h_S → Prop} (hE : h_end X none (h_QV (x_Z X) Q)) : ∀ (n : Nat) (o0 : Nat) (r1 : Option Nat) (x3 : Int32) (x4 : Int32) (s : h_S), w_X9_append_3 Q n o0 r1 x3 x4 s → h_V X 5 3 [(0, pR (some o0)), (1, pR r1), (3, pI x3), (4, pI x4)] [] s 0 0 := by
  intro n
  induction n with
  | zero => intro _ _ _ _ s h; exact h.elim
  | succ n hK3 =>
    intro o0 r1 x3 x4 s h
    have h : w_X9_append_3b Q (w_X9_append_3 Q n) o0 r1 x3 x4 s := h
    unfold w_X9_append_3b at h
    refine v_iload hX dX9_append_3 3 rfl ?_
    refine v_iload_n hX dX9_append_5 2 rfl rfl ?_
    refine v_icmp_ge (tgt := 50) hX dX9_append_6 (by decide) (fun c1 => ?_) (fun c1 => ?_)
    · have h := h_T c1 h
      refine v_pick [] rfl ?_
      exact b_X9_append_50 hX hE _ h
    · have h := h_E c1 h
      refine v_aload_n hX dX9_append_9 0 rfl rfl ?_
      obtain ⟨k2, h⟩ := h
      refine v_getI hX dX9_append_10 f_RX9_89 rfl k2 ?_
      refine v_aload_n hX dX9_append_13 0 rfl rfl ?_
      refine v_getR hX dX9_append_14 f_RX9_42 rfl k2 ?_
      obtain ⟨a3, e_a3, h⟩ := h
      refine v_nn0 e_a3 ?_
      obtain ⟨k4, h⟩ := h
      refine v_alenK hX dX9_append_17 (k := 1) rfl (by decide) (by decide) k4 ?_
      refine v_icmp_ge (tgt := 50) hX dX9_append_18 (by decide) (fun c5 => ?_) (fun c5 => ?_)
      · have h := h_T c5 h
        refine v_pick [] rfl ?_
        exact b_X9_append_50 hX hE _ h
      · have h := h_E c5 h
        refine v_aload_n hX dX9_append_21 0 rfl rfl ?_
        refine v_getR hX dX9_append_22 f_RX9_42 rfl k2 ?_
        refine v_aload_n hX dX9_append_25 0 rfl rfl ?_
        refine v_getI hX dX9_append_26 f_RX9_89 rfl k2 ?_
        refine v_aload_n hX dX9_append_29 1 rfl rfl ?_
        refine v_iload hX dX9_append_30 3 rfl ?_
        obtain ⟨a6, e_a6, h⟩ := h
        refine v_nn1 e_a6 ?_
        obtain ⟨k7, h⟩ := h
        obtain ⟨i8, h⟩ := h
        refine v_iald hX dX9_append_32 k7 i8 ?_
        obtain ⟨a9, e_a9, h⟩ := h
        refine v_nn2 e_a9 ?_
        obtain ⟨k10, h⟩ := h
        obtain ⟨i11, h⟩ := h
        refine v_iast hX dX9_append_33 k10 i11 ?_
        refine v_aload_n hX dX9_append_34 0 rfl rfl ?_
        refine v_dup hX dX9_append_35 rfl ?_
        refine v_getI hX dX9_append_36 f_RX9_89 rfl k2 ?_
        refine v_iconst (v := 1) hX dX9_append_39 (by decide) ?_
        refine v_iadd hX dX9_append_40 ?_
        refine v_putI hX dX9_append_41 f_RX9_89 k2 ?_
        refine v_iinc (c := 1) (lv' := [(4, _), (0, _), (1, _), (3, _)]) hX dX9_append_44 3 rfl (by decide) (by decide) rfl ?_
        refine v_goto (tgt := 3) hX dX9_append_47 (by decide) ?_
        refine v_pick [1, 2, 3, 0] rfl ?_
        exact hK3 _ _ _ _ _ h
set_option maxRecDepth 100000 in
set_option maxHeartbeats 4000000 in
theorem m_X9_append {Z : h_Z} {o0 : Nat} {r1 : Option Nat} {x2 : Int32} {x3 : Int32} {s : h_S} {Q : h_S → Prop} (h : w_X9_append o0 r1 x2 x3 s Q) : h_M Z yX9_append cX9_append 5 none 0 0 [pR (some o0), pR r1, pI x2, pI x3] s 0 0 (h_QV Z Q) := by
  refine h_M.of (by decide) (Nat.le_of_ble_eq_true rfl) (fun X hZ hX hE hI => ?_)
  subst hZ
  unfold w_X9_append at h
  show h_V X 5 0 [(0, pR (some o0)), (1, pR r1), (2, pI x2), (3, pI x3)] [] s 0 0
  refine v_iload_n hX dX9_append_0 2 rfl rfl ?_
  refine v_istore (lv' := [(4, _), (0, _), (1, _), (2, _), (3, _)]) hX dX9_append_1 (by decide) rfl ?_
  refine v_pick [1, 2, 4, 0] rfl ?_
  obtain ⟨n, h⟩ := h
  exact b_X9_append_3 hX hE n _ _ _ _ _ h
set_option maxRecDepth 100000 in
set_option maxHeartbeats 4000000 in
theorem b_X9_noteClash_42 {X : h_X} (hX : h_ok X cX9_noteClash 3 RX9 0 0) {Q : h_S → Prop} (hE : h_end X none (h_QV (x_Z X) Q)) {o0 : Nat} (s : h_S) (h : w_X9_noteClash_42 Q o0 s) : h_V X 3 42 [(0, pR (some o0))] [] s 0 0 := by
  unfold w_X9_noteClash_42 at h
  refine v_aload_n hX dX9_noteClash_42 0 rfl rfl ?_
  refine v_dup hX dX9_noteClash_43 rfl ?_
  obtain ⟨k1, h⟩ := h
  refine v_getI hX dX9_noteClash_44 f_RX9_92 rfl k1 ?_
  refine v_iconst (v := 1) hX dX9_noteClash_47 (by decide) ?_
  refine v_iadd hX dX9_noteClash_48 ?_
  refine v_putI hX dX9_noteClash_49 f_RX9_92 k1 ?_
  exact v_vret hX hE dX9_noteClash_52 h
set_option maxRecDepth 100000 in
set_option maxHeartbeats 4000000 in
theorem m_X9_noteClash {Z : h_Z} {o0 : Nat} {x1 : Int32} {x2 : Int32} {s : h_S} {Q : h_S → Prop} (h : w_X9_noteClash o0 x1 x2 s Q) : h_M Z yX9_noteClash cX9_noteClash 3 none 0 0 [pR (some o0), pI x1, pI x2] s 0 0 (h_QV Z Q) := by
  refine h_M.of (by decide) (Nat.le_of_ble_eq_true rfl) (fun X hZ hX hE hI => ?_)
  subst hZ
  unfold w_X9_noteClash at h
  show h_V X 3 0 [(0, pR (some o0)), (1, pI x1), (2, pI x2)] [] s 0 0
  refine v_aload_n hX dX9_noteClash_0 0 rfl rfl ?_
  obtain ⟨k1, h⟩ := h
  refine v_getI hX dX9_noteClash_1 f_RX9_92 rfl k1 ?_
  refine v_bipush (v := 12) hX dX9_noteClash_4 (by decide) ?_
  refine v_icmp_ge (tgt := 42) hX dX9_noteClash_6 (by decide) (fun c2 => ?_) (fun c2 => ?_)
  · have h := h_T c2 h
    refine v_pick [0] rfl ?_
    exact b_X9_noteClash_42 hX hE _ h
  · have h := h_E c2 h
    refine v_aload_n hX dX9_noteClash_9 0 rfl rfl ?_
    refine v_getR hX dX9_noteClash_10 f_RX9_45 rfl k1 ?_
    refine v_aload_n hX dX9_noteClash_13 0 rfl rfl ?_
    refine v_getI hX dX9_noteClash_14 f_RX9_92 rfl k1 ?_
    refine v_iload_n hX dX9_noteClash_17 1 rfl rfl ?_
    obtain ⟨a3, e_a3, h⟩ := h
    refine v_nn2 e_a3 ?_
    obtain ⟨k4, h⟩ := h
    obtain ⟨i5, h⟩ := h
    refine v_iast hX dX9_noteClash_18 k4 i5 ?_
    refine v_aload_n hX dX9_noteClash_19 0 rfl rfl ?_
    refine v_getR hX dX9_noteClash_20 f_RX9_48 rfl k1 ?_
    refine v_aload_n hX dX9_noteClash_23 0 rfl rfl ?_
    refine v_getI hX dX9_noteClash_24 f_RX9_92 rfl k1 ?_
    refine v_iload_n hX dX9_noteClash_27 2 rfl rfl ?_
    obtain ⟨a7, e_a7, h⟩ := h
    refine v_nn2 e_a7 ?_
    obtain ⟨k8, h⟩ := h
    obtain ⟨i9, h⟩ := h
    refine v_iast hX dX9_noteClash_28 k8 i9 ?_
    refine v_aload_n hX dX9_noteClash_29 0 rfl rfl ?_
    refine v_getR hX dX9_noteClash_30 f_RX9_51 rfl k1 ?_
    refine v_aload_n hX dX9_noteClash_33 0 rfl rfl ?_
    refine v_getI hX dX9_noteClash_34 f_RX9_92 rfl k1 ?_
    refine v_aload_n hX dX9_noteClash_37 0 rfl rfl ?_
    refine v_getI hX dX9_noteClash_38 f_RX9_89 rfl k1 ?_
    obtain ⟨a11, e_a11, h⟩ := h
    refine v_nn2 e_a11 ?_
    obtain ⟨k12, h⟩ := h
    obtain ⟨i13, h⟩ := h
    refine v_iast hX dX9_noteClash_41 k12 i13 ?_
    refine v_pick [0] rfl ?_
    exact b_X9_noteClash_42 hX hE _ h
set_option maxRecDepth 100000 in
set_option maxHeartbeats 4000000 in
theorem b_X9_joinPuts_210 {X : h_X} (hX : h_ok X cX9_joinPuts 8 RX9 2 47) {Q : h_S → Prop} (hE : h_end X none (h_QV (x_Z X) Q)) (s : h_S) (h : w_X9_joinPuts_210 Q s) : h_V X 8 210 [] [] s 0 0 := by
  unfold w_X9_joinPuts_210 at h
  exact v_vret hX hE dX9_joinPuts_210 h
set_option maxRecDepth 100000 in
set_option maxHeartbeats 4000000 in
theorem b_X9_joinPuts_52 {X : h_X} (hX : h_ok X cX9_joinPuts 8 RX9 2 47) {Q : h_S → Prop} (hE : h_end X none (h_QV (x_Z X) Q)) {o0 : Nat} {x1 : Int32} (s : h_S) (h : w_X9_joinPuts_52 Q o0 x1 s) : h_V X 8 52 [(0, pR (some o0)), (1, pI x1)] [] s 0 0 := by
  unfold w_X9_joinPuts_52 at h
  refine v_aload_n hX dX9_joinPuts_52 0 rfl rfl ?_
  refine v_aload_n hX dX9_joinPuts_53 0 rfl rfl ?_
  obtain ⟨k1, h⟩ := h
  refine v_getR hX dX9_joinPuts_54 f_RX9_26 rfl k1 ?_
  refine v_iconst (v := 0) hX dX9_joinPuts_57 (by decide) ?_
  obtain ⟨a2, e_a2, h⟩ := h
  refine v_nn1 e_a2 ?_
  obtain ⟨k3, h⟩ := h
  obtain ⟨i4, h⟩ := h
  refine v_aald (k := 8) hX dX9_joinPuts_58 rfl rfl (by decide) (by decide) k3 i4 ?_
  refine v_aload_n hX dX9_joinPuts_59 0 rfl rfl ?_
  refine v_getR hX dX9_joinPuts_60 f_RX9_32 rfl k1 ?_
  refine v_iconst (v := 0) hX dX9_joinPuts_63 (by decide) ?_
  obtain ⟨a5, e_a5, h⟩ := h
  refine v_nn1 e_a5 ?_
  obtain ⟨k6, h⟩ := h
  obtain ⟨i7, h⟩ := h
  refine v_aald (k := 8) hX dX9_joinPuts_64 rfl rfl (by decide) (by decide) k6 i7 ?_
  refine v_iload_n hX dX9_joinPuts_65 1 rfl rfl ?_
  obtain ⟨a8, e_a8, h⟩ := h
  refine v_nn1 e_a8 ?_
  obtain ⟨k9, h⟩ := h
  obtain ⟨i10, h⟩ := h
  refine v_iald hX dX9_joinPuts_66 k9 i10 ?_
  refine v_aload_n hX dX9_joinPuts_67 0 rfl rfl ?_
  refine v_getR hX dX9_joinPuts_68 f_RX9_35 rfl k1 ?_
  refine v_iconst (v := 0) hX dX9_joinPuts_71 (by decide) ?_
  obtain ⟨a11, e_a11, h⟩ := h
  refine v_nn1 e_a11 ?_
  obtain ⟨k12, h⟩ := h
  obtain ⟨i13, h⟩ := h
  refine v_aald (k := 8) hX dX9_joinPuts_72 rfl rfl (by decide) (by decide) k12 i13 ?_
  refine v_iload_n hX dX9_joinPuts_73 1 rfl rfl ?_
  obtain ⟨a14, e_a14, h⟩ := h
  refine v_nn1 e_a14 ?_
  obtain ⟨k15, h⟩ := h
  obtain ⟨i16, h⟩ := h
  refine v_iald hX dX9_joinPuts_74 k15 i16 ?_
  refine v_callVv hX dX9_joinPuts_75 c_RX9_98 cV_X9_append (ci := 10) (T := TX9) (N := 16) rfl (by exact k1) [pR _, pI _, pI _] rfl rfl (Nat.le_of_ble_eq_true rfl) (by decide) (by decide) (Nat.zero_le _) (Nat.zero_le _) (m_X9_append h) (fun s17 h => ?_)
  refine v_goto (tgt := 210) hX dX9_joinPuts_78 (by decide) ?_
  refine v_pick [] rfl ?_
  exact b_X9_joinPuts_210 hX hE _ h
set_option maxRecDepth 100000 in
set_option maxHeartbeats 4000000 in
theorem b_X9_joinPuts_124 {X : h_X} (hX : h_ok X cX9_joinPuts 8 RX9 2 47) {Q : h_S → Prop} (hE : h_end X none (h_QV (x_Z X) Q)) {o0 : Nat} {x1 : Int32} {y0 : Int32} (s : h_S) (h : w_X9_joinPuts_124 Q o0 x1 y0 s) : h_V X 8 124 [(0, pR (some o0)), (1, pI x1)] [pI y0] s 0 0 := by
  unfold w_X9_joinPuts_124 at h
  refine v_istore (lv' := [(5, _), (0, _), (1, _)]) hX dX9_joinPuts_124 (by decide) rfl ?_
  refine v_aload_n hX dX9_joinPuts_126 1 rfl rfl ?_
  obtain ⟨k1, h⟩ := h
  refine v_getI hX dX9_joinPuts_127 f_RX9_89 rfl k1 ?_
  refine v_istore (lv' := [(6, _), (5, _), (0, _), (1, _)]) hX dX9_joinPuts_130 (by decide) rfl ?_
  refine v_aload_n hX dX9_joinPuts_132 2 rfl rfl ?_
  refine v_aload_n hX dX9_joinPuts_133 2 rfl rfl ?_
  refine v_getR hX dX9_joinPuts_134 f_RX9_26 rfl k1 ?_
  refine v_iload hX dX9_joinPuts_137 1 rfl ?_
  obtain ⟨a2, e_a2, h⟩ := h
  refine v_nn1 e_a2 ?_
  obtain ⟨k3, h⟩ := h
  obtain ⟨i4, h⟩ := h
  refine v_aald (k := 8) hX dX9_joinPuts_139 rfl rfl (by decide) (by decide) k3 i4 ?_
  refine v_aload_n hX dX9_joinPuts_140 2 rfl rfl ?_
  refine v_getR hX dX9_joinPuts_141 f_RX9_32 rfl k1 ?_
  refine v_iload hX dX9_joinPuts_144 1 rfl ?_
  obtain ⟨a5, e_a5, h⟩ := h
  refine v_nn1 e_a5 ?_
  obtain ⟨k6, h⟩ := h
  obtain ⟨i7, h⟩ := h
  refine v_aald (k := 8) hX dX9_joinPuts_146 rfl rfl (by decide) (by decide) k6 i7 ?_
  refine v_iload_n hX dX9_joinPuts_147 3 rfl rfl ?_
  obtain ⟨a8, e_a8, h⟩ := h
  refine v_nn1 e_a8 ?_
  obtain ⟨k9, h⟩ := h
  obtain ⟨i10, h⟩ := h
  refine v_iald hX dX9_joinPuts_148 k9 i10 ?_
  refine v_aload_n hX dX9_joinPuts_149 2 rfl rfl ?_
  refine v_getR hX dX9_joinPuts_150 f_RX9_35 rfl k1 ?_
  refine v_iload hX dX9_joinPuts_153 1 rfl ?_
  obtain ⟨a11, e_a11, h⟩ := h
  refine v_nn1 e_a11 ?_
  obtain ⟨k12, h⟩ := h
  obtain ⟨i13, h⟩ := h
  refine v_aald (k := 8) hX dX9_joinPuts_155 rfl rfl (by decide) (by decide) k12 i13 ?_
  refine v_iload_n hX dX9_joinPuts_156 3 rfl rfl ?_
  obtain ⟨a14, e_a14, h⟩ := h
  refine v_nn1 e_a14 ?_
  obtain ⟨k15, h⟩ := h
  obtain ⟨i16, h⟩ := h
  refine v_iald hX dX9_joinPuts_157 k15 i16 ?_
  refine v_callVv hX dX9_joinPuts_158 c_RX9_98 cV_X9_append (ci := 10) (T := TX9) (N := 16) rfl (by exact k1) [pR _, pI _, pI _] rfl rfl (Nat.le_of_ble_eq_true rfl) (by decide) (by decide) (Nat.zero_le _) (Nat.zero_le _) (m_X9_append h) (fun s17 h => ?_)
  refine v_aload_n hX dX9_joinPuts_161 2 rfl rfl ?_
  obtain ⟨k19, h⟩ := h
  refine v_getI hX dX9_joinPuts_162 f_RX9_89 rfl k19 ?_
  refine v_istore (lv' := [(7, _), (6, _), (5, _), (0, _), (1, _)]) hX dX9_joinPuts_165 (by decide) rfl ?_
  refine v_aload_n hX dX9_joinPuts_167 3 rfl rfl ?_
  refine v_aload_n hX dX9_joinPuts_168 3 rfl rfl ?_
  refine v_getR hX dX9_joinPuts_169 f_RX9_26 rfl k19 ?_
  refine v_iconst (v := 1) hX dX9_joinPuts_172 (by decide) ?_
  refine v_iload hX dX9_joinPuts_173 2 rfl ?_
  refine v_isub hX dX9_joinPuts_175 ?_
  obtain ⟨a20, e_a20, h⟩ := h
  refine v_nn1 e_a20 ?_
  obtain ⟨k21, h⟩ := h
  obtain ⟨i22, h⟩ := h
  refine v_aald (k := 8) hX dX9_joinPuts_176 rfl rfl (by decide) (by decide) k21 i22 ?_
  refine v_aload_n hX dX9_joinPuts_177 3 rfl rfl ?_
  refine v_getR hX dX9_joinPuts_178 f_RX9_32 rfl k19 ?_
  refine v_iconst (v := 1) hX dX9_joinPuts_181 (by decide) ?_
  refine v_iload hX dX9_joinPuts_182 2 rfl ?_
  refine v_isub hX dX9_joinPuts_184 ?_
  obtain ⟨a23, e_a23, h⟩ := h
  refine v_nn1 e_a23 ?_
  obtain ⟨k24, h⟩ := h
  obtain ⟨i25, h⟩ := h
  refine v_aald (k := 8) hX dX9_joinPuts_185 rfl rfl (by decide) (by decide) k24 i25 ?_
  refine v_iload_n hX dX9_joinPuts_186 4 rfl rfl ?_
  obtain ⟨a26, e_a26, h⟩ := h
  refine v_nn1 e_a26 ?_
  obtain ⟨k27, h⟩ := h
  obtain ⟨i28, h⟩ := h
  refine v_iald hX dX9_joinPuts_187 k27 i28 ?_
  refine v_aload_n hX dX9_joinPuts_188 3 rfl rfl ?_
  refine v_getR hX dX9_joinPuts_189 f_RX9_35 rfl k19 ?_
  refine v_iconst (v := 1) hX dX9_joinPuts_192 (by decide) ?_
  refine v_iload hX dX9_joinPuts_193 2 rfl ?_
  refine v_isub hX dX9_joinPuts_195 ?_
  obtain ⟨a29, e_a29, h⟩ := h
  refine v_nn1 e_a29 ?_
  obtain ⟨k30, h⟩ := h
  obtain ⟨i31, h⟩ := h
  refine v_aald (k := 8) hX dX9_joinPuts_196 rfl rfl (by decide) (by decide) k30 i31 ?_
  refine v_iload_n hX dX9_joinPuts_197 4 rfl rfl ?_
  obtain ⟨a32, e_a32, h⟩ := h
  refine v_nn1 e_a32 ?_
  obtain ⟨k33, h⟩ := h
  obtain ⟨i34, h⟩ := h
  refine v_iald hX dX9_joinPuts_198 k33 i34 ?_
  refine v_callVv hX dX9_joinPuts_199 c_RX9_98 cV_X9_append (ci := 10) (T := TX9) (N := 16) rfl (by exact k19) [pR _, pI _, pI _] rfl rfl (Nat.le_of_ble_eq_true rfl) (by decide) (by decide) (Nat.zero_le _) (Nat.zero_le _) (m_X9_append h) (fun s35 h => ?_)
  refine v_aload_n hX dX9_joinPuts_202 3 rfl rfl ?_
  refine v_iload hX dX9_joinPuts_203 1 rfl ?_
  refine v_iload hX dX9_joinPuts_205 0 rfl ?_
  obtain ⟨k37, h⟩ := h
  refine v_callVv hX dX9_joinPuts_207 c_RX9_109 cV_X9_noteClash (ci := 10) (T := TX9) (N := 16) rfl (by exact k37) [pI _, pI _] rfl rfl (Nat.le_of_ble_eq_true rfl) (by decide) (by decide) (Nat.zero_le _) (Nat.zero_le _) (m_X9_noteClash h) (fun s38 h => ?_)
  refine v_pick [] rfl ?_
  exact b_X9_joinPuts_210 hX hE _ h
set_option maxRecDepth 100000 in
set_option maxHeartbeats 4000000 in
theorem m_X9_joinPuts {Z : h_Z} {o0 : Nat} {x1 : Int32} {s : h_S} {Q : h_S → Prop} (h : w_X9_joinPuts o0 x1 s Q) : h_M Z yX9_joinPuts cX9_joinPuts 8 none 2 47 [pR (some o0), pI x1] s 0 0 (h_QV Z Q) := by
  refine h_M.of (by decide) (Nat.le_of_ble_eq_true rfl) (fun X hZ hX hE hI => ?_)
  subst hZ
  unfold w_X9_joinPuts at h
  show h_V X 8 0 [(0, pR (some o0)), (1, pI x1)] [] s 0 0
  refine v_aload_n hX dX9_joinPuts_0 0 rfl rfl ?_
  obtain ⟨k1, h⟩ := h
  refine v_getR hX dX9_joinPuts_1 f_RX9_35 rfl k1 ?_
  refine v_iconst (v := 0) hX dX9_joinPuts_4 (by decide) ?_
  obtain ⟨a2, e_a2, h⟩ := h
  refine v_nn1 e_a2 ?_
  obtain ⟨k3, h⟩ := h
  obtain ⟨i4, h⟩ := h
  refine v_aald (k := 8) hX dX9_joinPuts_5 rfl rfl (by decide) (by decide) k3 i4 ?_
  refine v_iload_n hX dX9_joinPuts_6 1 rfl rfl ?_
  obtain ⟨a5, e_a5, h⟩ := h
  refine v_nn1 e_a5 ?_
  obtain ⟨k6, h⟩ := h
  obtain ⟨i7, h⟩ := h
  refine v_iald hX dX9_joinPuts_7 k6 i7 ?_
  refine v_aload_n hX dX9_joinPuts_8 0 rfl rfl ?_
  refine v_getR hX dX9_joinPuts_9 f_RX9_32 rfl k1 ?_
  refine v_iconst (v := 0) hX dX9_joinPuts_12 (by decide) ?_
  obtain ⟨a8, e_a8, h⟩ := h
  refine v_nn1 e_a8 ?_
  obtain ⟨k9, h⟩ := h
  obtain ⟨i10, h⟩ := h
  refine v_aald (k := 8) hX dX9_joinPuts_13 rfl rfl (by decide) (by decide) k9 i10 ?_
  refine v_iload_n hX dX9_joinPuts_14 1 rfl rfl ?_
  obtain ⟨a11, e_a11, h⟩ := h
  refine v_nn1 e_a11 ?_
  obtain ⟨k12, h⟩ := h
  obtain ⟨i13, h⟩ := h
  refine v_iald hX dX9_joinPuts_15 k12 i13 ?_
  refine v_isub hX dX9_joinPuts_16 ?_
  refine v_istore_n (lv' := [(2, _), (0, _), (1, _)]) hX dX9_joinPuts_17 rfl (by decide) rfl ?_
  refine v_aload_n hX dX9_joinPuts_18 1 rfl rfl ?_
  refine v_getR hX dX9_joinPuts_19 f_RX9_35 rfl k1 ?_
  refine v_iconst (v := 1) hX dX9_joinPuts_22 (by decide) ?_
  obtain ⟨a15, e_a15, h⟩ := h
  refine v_nn1 e_a15 ?_
  obtain ⟨k16, h⟩ := h
  obtain ⟨i17, h⟩ := h
  refine v_aald (k := 8) hX dX9_joinPuts_23 rfl rfl (by decide) (by decide) k16 i17 ?_
  refine v_iload_n hX dX9_joinPuts_24 2 rfl rfl ?_
  obtain ⟨a18, e_a18, h⟩ := h
  refine v_nn1 e_a18 ?_
  obtain ⟨k19, h⟩ := h
  obtain ⟨i20, h⟩ := h
  refine v_iald hX dX9_joinPuts_25 k19 i20 ?_
  refine v_aload_n hX dX9_joinPuts_26 1 rfl rfl ?_
  refine v_getR hX dX9_joinPuts_27 f_RX9_32 rfl k1 ?_
  refine v_iconst (v := 1) hX dX9_joinPuts_30 (by decide) ?_
  obtain ⟨a21, e_a21, h⟩ := h
  refine v_nn1 e_a21 ?_
  obtain ⟨k22, h⟩ := h
  obtain ⟨i23, h⟩ := h
  refine v_aald (k := 8) hX dX9_joinPuts_31 rfl rfl (by decide) (by decide) k22 i23 ?_
  refine v_iload_n hX dX9_joinPuts_32 2 rfl rfl ?_
  obtain ⟨a24, e_a24, h⟩ := h
  refine v_nn1 e_a24 ?_
  obtain ⟨k25, h⟩ := h
  obtain ⟨i26, h⟩ := h
  refine v_iald hX dX9_joinPuts_33 k25 i26 ?_
  refine v_isub hX dX9_joinPuts_34 ?_
  refine v_istore_n (lv' := [(3, _), (2, _), (0, _), (1, _)]) hX dX9_joinPuts_35 rfl (by decide) rfl ?_
  refine v_aload_n hX dX9_joinPuts_36 2 rfl rfl ?_
  refine v_iload_n hX dX9_joinPuts_37 3 rfl rfl ?_
  refine v_callVi hX dX9_joinPuts_38 c_RX9_105 cV_X9_orderOfPuts (ci := 10) (T := TX9) (N := 16) rfl (by exact k1) [pI _] rfl rfl (Nat.le_of_ble_eq_true rfl) (by decide) (by decide) (Nat.zero_le _) (Nat.zero_le _) (m_X9_orderOfPuts h) (fun p29 s28 h => ?_)
  refine v_istore (lv' := [(4, _), (3, _), (2, _), (0, _), (1, _)]) hX dX9_joinPuts_41 (by decide) rfl ?_
  refine v_iload_n hX dX9_joinPuts_43 1 rfl rfl ?_
  refine v_if_eq (tgt := 52) hX dX9_joinPuts_44 (by decide) (fun c30 => ?_) (fun c30 => ?_)
  · have h := h_T c30 h
    refine v_pick [3, 4] rfl ?_
    exact b_X9_joinPuts_52 hX hE _ h
  · have h := h_E c30 h
    refine v_iload hX dX9_joinPuts_47 0 rfl ?_
    refine v_if_ne (tgt := 81) hX dX9_joinPuts_49 (by decide) (fun c31 => ?_) (fun c31 => ?_)
    · have h := h_E c31 h
      refine v_iload_n hX dX9_joinPuts_81 2 rfl rfl ?_
      refine v_if_ne (tgt := 114) hX dX9_joinPuts_82 (by decide) (fun c32 => ?_) (fun c32 => ?_)
      · have h := h_E c32 h
        refine v_iload hX dX9_joinPuts_114 0 rfl ?_
        refine v_if_ge (tgt := 123) hX dX9_joinPuts_116 (by decide) (fun c33 => ?_) (fun c33 => ?_)
        · have h := h_T c33 h
          refine v_iconst (v := 1) hX dX9_joinPuts_123 (by decide) ?_
          refine v_pick [3, 4] rfl ?_
          exact b_X9_joinPuts_124 hX hE _ h
        · have h := h_E c33 h
          refine v_iconst (v := 0) hX dX9_joinPuts_119 (by decide) ?_
          refine v_goto (tgt := 124) hX dX9_joinPuts_120 (by decide) ?_
          refine v_pick [3, 4] rfl ?_
          exact b_X9_joinPuts_124 hX hE _ h
      · have h := h_T c32 h
        refine v_aload_n hX dX9_joinPuts_85 3 rfl rfl ?_
        refine v_aload_n hX dX9_joinPuts_86 3 rfl rfl ?_
        obtain ⟨k34, h⟩ := h
        refine v_getR hX dX9_joinPuts_87 f_RX9_26 rfl k34 ?_
        refine v_iconst (v := 1) hX dX9_joinPuts_90 (by decide) ?_
        obtain ⟨a35, e_a35, h⟩ := h
        refine v_nn1 e_a35 ?_
        obtain ⟨k36, h⟩ := h
        obtain ⟨i37, h⟩ := h
        refine v_aald (k := 8) hX dX9_joinPuts_91 rfl rfl (by decide) (by decide) k36 i37 ?_
        refine v_aload_n hX dX9_joinPuts_92 3 rfl rfl ?_
        refine v_getR hX dX9_joinPuts_93 f_RX9_32 rfl k34 ?_
        refine v_iconst (v := 1) hX dX9_joinPuts_96 (by decide) ?_
        obtain ⟨a38, e_a38, h⟩ := h
        refine v_nn1 e_a38 ?_
        obtain ⟨k39, h⟩ := h
        obtain ⟨i40, h⟩ := h
        refine v_aald (k := 8) hX dX9_joinPuts_97 rfl rfl (by decide) (by decide) k39 i40 ?_
        refine v_iload_n hX dX9_joinPuts_98 4 rfl rfl ?_
        obtain ⟨a41, e_a41, h⟩ := h
        refine v_nn1 e_a41 ?_
        obtain ⟨k42, h⟩ := h
        obtain ⟨i43, h⟩ := h
        refine v_iald hX dX9_joinPuts_99 k42 i43 ?_
        refine v_aload_n hX dX9_joinPuts_100 3 rfl rfl ?_
        refine v_getR hX dX9_joinPuts_101 f_RX9_35 rfl k34 ?_
        refine v_iconst (v := 1) hX dX9_joinPuts_104 (by decide) ?_
        obtain ⟨a44, e_a44, h⟩ := h
        refine v_nn1 e_a44 ?_
        obtain ⟨k45, h⟩ := h
        obtain ⟨i46, h⟩ := h
        refine v_aald (k := 8) hX dX9_joinPuts_105 rfl rfl (by decide) (by decide) k45 i46 ?_
        refine v_iload_n hX dX9_joinPuts_106 4 rfl rfl ?_
        obtain ⟨a47, e_a47, h⟩ := h
        refine v_nn1 e_a47 ?_
        obtain ⟨k48, h⟩ := h
        obtain ⟨i49, h⟩ := h
        refine v_iald hX dX9_joinPuts_107 k48 i49 ?_
        refine v_callVv hX dX9_joinPuts_108 c_RX9_98 cV_X9_append (ci := 10) (T := TX9) (N := 16) rfl (by exact k34) [pR _, pI _, pI _] rfl rfl (Nat.le_of_ble_eq_true rfl) (by decide) (by decide) (Nat.zero_le _) (Nat.zero_le _) (m_X9_append h) (fun s50 h => ?_)
        refine v_goto (tgt := 210) hX dX9_joinPuts_111 (by decide) ?_
        refine v_pick [] rfl ?_
        exact b_X9_joinPuts_210 hX hE _ h
    · have h := h_T c31 h
      refine v_pick [3, 4] rfl ?_
      exact b_X9_joinPuts_52 hX hE _ h
set_option maxRecDepth 100000 in
set_option maxHeartbeats 4000000 in
theorem b_X9_weaveBy_140 {X : h_X} (hX : h_ok X cX9_weaveBy 5 RX9 3 78) {Q : h_S → Prop} (hE : h_end X none (h_QV (x_Z X) Q)) {K92 : Nat → Int32 → h_S → Prop} (hK92 : ∀ (o0 : Nat) (x4 : Int32) (s : h_S), K92 o0 x4 s → h_V X 5 92 [(0, pR (some o0)), (4, pI x4)] [] s 0 0) {o0 : Nat} {x4 : Int32} (s : h_S) (h : w_X9_weaveBy_140 Q K92 o0 x4 s) : h_V X 5 140 [(0, pR (some o0)), (4, pI x4)] [] s 0 0 := by
  unfold w_X9_weaveBy_140 at h
  refine v_iinc (c := 1) (lv' := [(4, _), (0, _)]) hX dX9_weaveBy_140 1 rfl (by decide) (by decide) rfl ?_
  refine v_goto (tgt := 92) hX dX9_weaveBy_143 (by decide) ?_
  refine v_pick [1, 0] rfl ?_
  exact hK92 _ _ _ h
set_option maxRecDepth 100000 in
set_option maxHeartbeats 4000000 in
theorem b_X9_weaveBy_92 {X : h_X} (hX : h_ok X cX9_weaveBy 5 RX9 3 78) {Q : h_S → Prop} (hE : h_end X none (h_QV (x_Z X) Q)) : ∀ (n : Nat) (o0 : Nat) (x4 : Int32) (s : h_S), w_X9_weaveBy_92 Q n o0 x4 s → h_V X 5 92 [(0, pR (some o0)), (4, pI x4)] [] s 0 0 := by
  intro n
  induction n with
  | zero => intro _ _ s h; exact h.elim
  | succ n hK92 =>
    intro o0 x4 s h
    have h : w_X9_weaveBy_92b Q (w_X9_weaveBy_92 Q n) o0 x4 s := h
    unfold w_X9_weaveBy_92b at h
    refine v_iload hX dX9_weaveBy_92 1 rfl ?_
    refine v_aload_n hX dX9_weaveBy_94 0 rfl rfl ?_
    obtain ⟨k1, h⟩ := h
    refine v_getI hX dX9_weaveBy_95 f_RX9_81 rfl k1 ?_
    refine v_icmp_gt (tgt := 146) hX dX9_weaveBy_98 (by decide) (fun c2 => ?_) (fun c2 => ?_)
    · have h := h_T c2 h
      exact v_vret hX hE dX9_weaveBy_146 h
    · have h := h_E c2 h
      refine v_aload_n hX dX9_weaveBy_101 0 rfl rfl ?_
      refine v_iload hX dX9_weaveBy_102 1 rfl ?_
      refine v_callVv hX dX9_weaveBy_104 c_RX9_95 cV_X9_joinPuts (ci := 10) (T := TX9) (N := 16) rfl (by exact k1) [pI _] rfl rfl (Nat.le_of_ble_eq_true rfl) (by decide) (by decide) (Nat.zero_le _) (Nat.zero_le _) (m_X9_joinPuts h) (fun s3 h => ?_)
      refine v_iload hX dX9_weaveBy_107 1 rfl ?_
      refine v_aload_n hX dX9_weaveBy_109 0 rfl rfl ?_
      obtain ⟨k5, h⟩ := h
      refine v_getI hX dX9_weaveBy_110 f_RX9_81 rfl k5 ?_
      refine v_icmp_ge (tgt := 140) hX dX9_weaveBy_113 (by decide) (fun c6 => ?_) (fun c6 => ?_)
      · have h := h_T c6 h
        refine v_pick [0, 1] rfl ?_
        exact b_X9_weaveBy_140 hX hE hK92 _ h
      · have h := h_E c6 h
        refine v_aload_n hX dX9_weaveBy_116 0 rfl rfl ?_
        refine v_getR hX dX9_weaveBy_117 f_RX9_38 rfl k5 ?_
        refine v_iload hX dX9_weaveBy_120 1 rfl ?_
        obtain ⟨a7, e_a7, h⟩ := h
        refine v_nn1 e_a7 ?_
        obtain ⟨k8, h⟩ := h
        obtain ⟨i9, h⟩ := h
        refine v_zald hX dX9_weaveBy_122 k8 i9 ?_
        refine v_if_ne (tgt := 140) hX dX9_weaveBy_123 (by decide) (fun c10 => ?_) (fun c10 => ?_)
        · have h := h_E c10 h
          refine v_pick [0, 1] rfl ?_
          exact b_X9_weaveBy_140 hX hE hK92 _ h
        · have h := h_T c10 h
          refine v_aload_n hX dX9_weaveBy_126 0 rfl rfl ?_
          refine v_aload_n hX dX9_weaveBy_127 0 rfl rfl ?_
          refine v_getR hX dX9_weaveBy_128 f_RX9_23 rfl k5 ?_
          refine v_iload hX dX9_weaveBy_131 1 rfl ?_
          refine v_iload hX dX9_weaveBy_133 1 rfl ?_
          refine v_iconst (v := 1) hX dX9_weaveBy_135 (by decide) ?_
          refine v_iadd hX dX9_weaveBy_136 ?_
          refine v_callVv hX dX9_weaveBy_137 c_RX9_98 cV_X9_append (ci := 10) (T := TX9) (N := 16) rfl (by exact k5) [pR _, pI _, pI _] rfl rfl (Nat.le_of_ble_eq_true rfl) (by decide) (by decide) (Nat.zero_le _) (Nat.zero_le _) (m_X9_append h) (fun s11 h => ?_)
          refine v_pick [0, 1] rfl ?_
          exact b_X9_weaveBy_140 hX hE hK92 _ h
set_option maxRecDepth 100000 in
set_option maxHeartbeats 4000000 in
theorem b_X9_weaveBy_47 {X : h_X} (hX : h_ok X cX9_weaveBy 5 RX9 3 78) {Q : h_S → Prop} (hE : h_end X none (h_QV (x_Z X) Q)) : ∀ (n : Nat) (o0 : Nat) (x4 : Int32) (s : h_S), w_X9_weaveBy_47 Q n o0 x4 s → h_V X 5 47 [(0, pR (some o0)), (4, pI x4)] [] s 0 0 := by
  intro n
  induction n with
  | zero => intro _ _ s h; exact h.elim
  | succ n hK47 =>
    intro o0 x4 s h
    have h : w_X9_weaveBy_47b Q (w_X9_weaveBy_47 Q n) o0 x4 s := h
    unfold w_X9_weaveBy_47b at h
    refine v_iload hX dX9_weaveBy_47 1 rfl ?_
    refine v_sipush (v := 300) hX dX9_weaveBy_49 (by decide) ?_
    refine v_icmp_ge (tgt := 69) hX dX9_weaveBy_52 (by decide) (fun c1 => ?_) (fun c1 => ?_)
    · have h := h_T c1 h
      refine v_aload_n hX dX9_weaveBy_69 0 rfl rfl ?_
      refine v_iconst (v := 0) hX dX9_weaveBy_70 (by decide) ?_
      obtain ⟨k2, h⟩ := h
      refine v_callVv hX dX9_weaveBy_71 c_RX9_85 cV_X9_findWay (ci := 10) (T := TX9) (N := 16) rfl (by exact k2) [pI _] rfl rfl (Nat.le_of_ble_eq_true rfl) (by decide) (by decide) (Nat.zero_le _) (Nat.zero_le _) (m_X9_findWay h) (fun s3 h => ?_)
      refine v_aload_n hX dX9_weaveBy_74 0 rfl rfl ?_
      refine v_iconst (v := 1) hX dX9_weaveBy_75 (by decide) ?_
      obtain ⟨k5, h⟩ := h
      refine v_callVv hX dX9_weaveBy_76 c_RX9_85 cV_X9_findWay (ci := 10) (T := TX9) (N := 16) rfl (by exact k5) [pI _] rfl rfl (Nat.le_of_ble_eq_true rfl) (by decide) (by decide) (Nat.zero_le _) (Nat.zero_le _) (m_X9_findWay h) (fun s6 h => ?_)
      refine v_aload_n hX dX9_weaveBy_79 0 rfl rfl ?_
      refine v_iconst (v := 0) hX dX9_weaveBy_80 (by decide) ?_
      obtain ⟨k8, h⟩ := h
      refine v_putI hX dX9_weaveBy_81 f_RX9_89 k8 ?_
      refine v_aload_n hX dX9_weaveBy_84 0 rfl rfl ?_
      refine v_iconst (v := 0) hX dX9_weaveBy_85 (by decide) ?_
      refine v_putI hX dX9_weaveBy_86 f_RX9_92 k8 ?_
      refine v_iconst (v := 0) hX dX9_weaveBy_89 (by decide) ?_
      refine v_istore (lv' := [(4, _), (0, _)]) hX dX9_weaveBy_90 (by decide) rfl ?_
      refine v_pick [1, 0] rfl ?_
      obtain ⟨n, h⟩ := h
      exact b_X9_weaveBy_92 hX hE n _ _ _ h
    · have h := h_E c1 h
      refine v_aload_n hX dX9_weaveBy_55 0 rfl rfl ?_
      obtain ⟨k11, h⟩ := h
      refine v_getR hX dX9_weaveBy_56 f_RX9_38 rfl k11 ?_
      refine v_iload hX dX9_weaveBy_59 1 rfl ?_
      refine v_iconst (v := 0) hX dX9_weaveBy_61 (by decide) ?_
      obtain ⟨a12, e_a12, h⟩ := h
      refine v_nn2 e_a12 ?_
      obtain ⟨k13, h⟩ := h
      obtain ⟨i14, h⟩ := h
      refine v_zast hX dX9_weaveBy_62 k13 i14 (Or.inl rfl) ?_
      refine v_iinc (c := 1) (lv' := [(4, _), (0, _)]) hX dX9_weaveBy_63 1 rfl (by decide) (by decide) rfl ?_
      refine v_goto (tgt := 47) hX dX9_weaveBy_66 (by decide) ?_
      refine v_pick [1, 0] rfl ?_
      exact hK47 _ _ _ h
set_option maxRecDepth 100000 in
set_option maxHeartbeats 4000000 in
theorem m_X9_weaveBy {Z : h_Z} {o0 : Nat} {r1 : Option Nat} {r2 : Option Nat} {r3 : Option Nat} {s : h_S} {Q : h_S → Prop} (h : w_X9_weaveBy o0 r1 r2 r3 s Q) : h_M Z yX9_weaveBy cX9_weaveBy 5 none 3 78 [pR (some o0), pR r1, pR r2, pR r3] s 0 0 (h_QV Z Q) := by
  refine h_M.of (by decide) (Nat.le_of_ble_eq_true rfl) (fun X hZ hX hE hI => ?_)
  subst hZ
  unfold w_X9_weaveBy at h
  show h_V X 5 0 [(0, pR (some o0)), (1, pR r1), (2, pR r2), (3, pR r3)] [] s 0 0
  refine v_aload_n hX dX9_weaveBy_0 0 rfl rfl ?_
  refine v_aload_n hX dX9_weaveBy_1 3 rfl rfl ?_
  refine v_aload_n hX dX9_weaveBy_2 0 rfl rfl ?_
  obtain ⟨k1, h⟩ := h
  refine v_getR hX dX9_weaveBy_3 f_RX9_23 rfl k1 ?_
  refine v_callSi hX dX9_weaveBy_6 c_RX9_77 cS_X9_withoutGaps [pR _, pR _] rfl rfl (Nat.le_of_ble_eq_true rfl) (by decide) (by decide) (Nat.zero_le _) (Nat.zero_le _) (m_X9_withoutGaps h) (fun p3 s2 h => ?_)
  obtain ⟨k4, h⟩ := h
  refine v_putI hX dX9_weaveBy_9 f_RX9_81 k4 ?_
  refine v_aload_n hX dX9_weaveBy_12 0 rfl rfl ?_
  refine v_getR hX dX9_weaveBy_13 f_RX9_29 rfl k4 ?_
  refine v_iconst (v := 0) hX dX9_weaveBy_16 (by decide) ?_
  refine v_aload_n hX dX9_weaveBy_17 1 rfl rfl ?_
  refine v_aload_n hX dX9_weaveBy_18 0 rfl rfl ?_
  refine v_getR hX dX9_weaveBy_19 f_RX9_26 rfl k4 ?_
  refine v_iconst (v := 0) hX dX9_weaveBy_22 (by decide) ?_
  obtain ⟨a6, e_a6, h⟩ := h
  refine v_nn1 e_a6 ?_
  obtain ⟨k7, h⟩ := h
  obtain ⟨i8, h⟩ := h
  refine v_aald (k := 8) hX dX9_weaveBy_23 rfl rfl (by decide) (by decide) k7 i8 ?_
  refine v_callSi hX dX9_weaveBy_24 c_RX9_77 cS_X9_withoutGaps [pR _, pR _] rfl rfl (Nat.le_of_ble_eq_true rfl) (by decide) (by decide) (Nat.zero_le _) (Nat.zero_le _) (m_X9_withoutGaps h) (fun p10 s9 h => ?_)
  obtain ⟨a11, e_a11, h⟩ := h
  refine v_nn2 e_a11 ?_
  obtain ⟨k12, h⟩ := h
  obtain ⟨i13, h⟩ := h
  refine v_iast hX dX9_weaveBy_27 k12 i13 ?_
  refine v_aload_n hX dX9_weaveBy_28 0 rfl rfl ?_
  obtain ⟨k15, h⟩ := h
  refine v_getR hX dX9_weaveBy_29 f_RX9_29 rfl k15 ?_
  refine v_iconst (v := 1) hX dX9_weaveBy_32 (by decide) ?_
  refine v_aload_n hX dX9_weaveBy_33 2 rfl rfl ?_
  refine v_aload_n hX dX9_weaveBy_34 0 rfl rfl ?_
  refine v_getR hX dX9_weaveBy_35 f_RX9_26 rfl k15 ?_
  refine v_iconst (v := 1) hX dX9_weaveBy_38 (by decide) ?_
  obtain ⟨a16, e_a16, h⟩ := h
  refine v_nn1 e_a16 ?_
  obtain ⟨k17, h⟩ := h
  obtain ⟨i18, h⟩ := h
  refine v_aald (k := 8) hX dX9_weaveBy_39 rfl rfl (by decide) (by decide) k17 i18 ?_
  refine v_callSi hX dX9_weaveBy_40 c_RX9_77 cS_X9_withoutGaps [pR _, pR _] rfl rfl (Nat.le_of_ble_eq_true rfl) (by decide) (by decide) (Nat.zero_le _) (Nat.zero_le _) (m_X9_withoutGaps h) (fun p20 s19 h => ?_)
  obtain ⟨a21, e_a21, h⟩ := h
  refine v_nn2 e_a21 ?_
  obtain ⟨k22, h⟩ := h
  obtain ⟨i23, h⟩ := h
  refine v_iast hX dX9_weaveBy_43 k22 i23 ?_
  refine v_iconst (v := 0) hX dX9_weaveBy_44 (by decide) ?_
  refine v_istore (lv' := [(4, _), (0, _), (1, _), (2, _), (3, _)]) hX dX9_weaveBy_45 (by decide) rfl ?_
  refine v_pick [1, 0] rfl ?_
  obtain ⟨n, h⟩ := h
  exact b_X9_weaveBy_47 hX hE n _ _ _ h
set_option maxRecDepth 100000 in
set_option maxHeartbeats 4000000 in
theorem m_J7_checkLength_df160 {Z : h_Z} {x0 : Int32} {x1 : Int32} {s : h_S} {mc ms : Nat} {Q : h_S → Prop} (h : w_J7_checkLength_df160 x0 x1 s mc ms Q) : h_M Z yJ7_checkLength_df160 cJ7_checkLength_df160 2 none 0 0 [pI x0, pI x1] s mc ms (h_QV Z Q) := by
  refine h_M.of (by decide) (Nat.le_of_ble_eq_true rfl) (fun X hZ hX hE hI => ?_)
  subst hZ
  unfold w_J7_checkLength_df160 at h
  show h_V X 2 0 [(0, pI x0), (1, pI x1)] [] s mc ms
  refine v_iload_n hX dJ7_checkLength_df160_0 1 rfl rfl ?_
  refine v_iload_n hX dJ7_checkLength_df160_1 0 rfl rfl ?_
  refine v_icmp_ge (tgt := 37) hX dJ7_checkLength_df160_2 (by decide) (fun c1 => ?_) (fun c1 => ?_)
  · have h := h_T c1 h
    exact v_vret hX hE dJ7_checkLength_df160_37 h
  · have h := h_E c1 h
    exact h.elim
set_option maxRecDepth 100000 in
set_option maxHeartbeats 4000000 in
theorem m_J7_copyOfRangeInt_feecc {Z : h_Z} {r0 : Option Nat} {x1 : Int32} {x2 : Int32} {s : h_S} {mc ms : Nat} {Q : Option Nat → h_S → Prop} (h : w_J7_copyOfRangeInt_feecc r0 x1 x2 s mc ms Q) : h_M Z yJ7_copyOfRangeInt_feecc cJ7_copyOfRangeInt_feecc 5 (some (.array .int)) 1 60 [pR r0, pI x1, pI x2] s mc ms (h_QR Z Q) := by
  refine h_M.of (by decide) (Nat.le_of_ble_eq_true rfl) (fun X hZ hX hE hI => ?_)
  subst hZ
  unfold w_J7_copyOfRangeInt_feecc at h
  show h_V X 5 0 [(0, pR r0), (1, pI x1), (2, pI x2)] [] s mc ms
  refine v_iload_n hX dJ7_copyOfRangeInt_feecc_0 1 rfl rfl ?_
  refine v_iload_n hX dJ7_copyOfRangeInt_feecc_1 2 rfl rfl ?_
  obtain ⟨mc3, ms4, b5, b6, h⟩ := h
  refine v_callSv hX dJ7_copyOfRangeInt_feecc_2 c_RJ7_343 cS_J7_checkLength_df160 [pI _, pI _] rfl rfl (Nat.le_of_ble_eq_true rfl) (by decide) (by decide) b5 b6 (m_J7_checkLength_df160 h) (fun s1 h => ?_)
  refine v_iload_n hX dJ7_copyOfRangeInt_feecc_5 2 rfl rfl ?_
  refine v_iload_n hX dJ7_copyOfRangeInt_feecc_6 1 rfl rfl ?_
  refine v_isub hX dJ7_copyOfRangeInt_feecc_7 ?_
  refine v_istore_n (lv' := [(3, _), (0, _), (1, _), (2, _)]) hX dJ7_copyOfRangeInt_feecc_8 rfl (by decide) rfl ?_
  refine v_iload_n hX dJ7_copyOfRangeInt_feecc_9 0 rfl rfl ?_
  obtain ⟨n11, n12, b9, b10, h⟩ := h
  refine v_newI hX dJ7_copyOfRangeInt_feecc_10 ac_int rfl n11 n12 b9 b10 (fun q7 k8 => ?_)
  have h := h q7 k8
  refine v_astore (lv' := [(4, _), (3, _), (0, _), (1, _), (2, _)]) hX dJ7_copyOfRangeInt_feecc_12 (by decide) rfl ?_
  refine v_aload_n hX dJ7_copyOfRangeInt_feecc_14 2 rfl rfl ?_
  refine v_iload_n hX dJ7_copyOfRangeInt_feecc_15 3 rfl rfl ?_
  refine v_aload hX dJ7_copyOfRangeInt_feecc_16 0 rfl ?_
  refine v_iconst (v := 0) hX dJ7_copyOfRangeInt_feecc_18 (by decide) ?_
  refine v_aload_n hX dJ7_copyOfRangeInt_feecc_19 2 rfl rfl ?_
  obtain ⟨a16, e_a16, h⟩ := h
  refine v_nn0 e_a16 ?_
  obtain ⟨k17, h⟩ := h
  refine v_alenK hX dJ7_copyOfRangeInt_feecc_20 (k := 1) rfl (by decide) (by decide) k17 ?_
  refine v_iload_n hX dJ7_copyOfRangeInt_feecc_21 3 rfl rfl ?_
  refine v_isub hX dJ7_copyOfRangeInt_feecc_22 ?_
  refine v_iload_n hX dJ7_copyOfRangeInt_feecc_23 1 rfl rfl ?_
  refine v_min hX dJ7_copyOfRangeInt_feecc_24 mm_min_RJ7_304 (by decide) (Nat.le_of_ble_eq_true rfl) ?_
  obtain ⟨k18, h⟩ := h
  obtain ⟨a19, e_a19, h⟩ := h
  refine v_nn4 e_a19 ?_
  obtain ⟨k20, h⟩ := h
  obtain ⟨i21, i22, i23, i24, i25, h⟩ := h
  refine v_copy hX dJ7_copyOfRangeInt_feecc_27 sy_RJ7_150 sy_nat sy_stat sy_ini (by decide) (Nat.le_of_ble_eq_true rfl) k20 k18 i21 i22 i23 i24 i25 ?_
  refine v_aload hX dJ7_copyOfRangeInt_feecc_30 0 rfl ?_
  exact v_aret hX hE (Or.inr ⟨_, rfl⟩) dJ7_copyOfRangeInt_feecc_32 h
set_option maxRecDepth 100000 in
set_option maxHeartbeats 4000000 in
theorem b_J7_copyOfRange_feecc_10 {X : h_X} (hX : h_ok X cJ7_copyOfRange_feecc 3 RJ7 2 84) {Q : Option Nat → h_S → Prop} (hE : h_end X (some (.array .int)) (h_QR (x_Z X) Q)) {r0 : Option Nat} {x1 : Int32} {x2 : Int32} (s : h_S) {bc bs : Nat} (h : w_J7_copyOfRange_feecc_10 Q r0 x1 x2 s bc bs) : h_V X 3 10 [(0, pR r0), (1, pI x1), (2, pI x2)] [] s bc bs := by
  unfold w_J7_copyOfRange_feecc_10 at h
  refine v_aload_n hX dJ7_copyOfRange_feecc_10 0 rfl rfl ?_
  refine v_iload_n hX dJ7_copyOfRange_feecc_11 1 rfl rfl ?_
  refine v_iload_n hX dJ7_copyOfRange_feecc_12 2 rfl rfl ?_
  obtain ⟨mc3, ms4, b5, b6, h⟩ := h
  refine v_callSr hX dJ7_copyOfRange_feecc_13 c_RJ7_351 cS_J7_copyOfRangeInt_feecc [pR _, pI _, pI _] rfl rfl (Nat.le_of_ble_eq_true rfl) (by decide) (by decide) b5 b6 (m_J7_copyOfRangeInt_feecc h) (fun p2 s1 h => ?_)
  exact v_aret hX hE (Or.inr ⟨_, rfl⟩) dJ7_copyOfRange_feecc_16 h
set_option maxRecDepth 100000 in
set_option maxHeartbeats 4000000 in
theorem m_J7_copyOfRange_feecc {Z : h_Z} {r0 : Option Nat} {x1 : Int32} {x2 : Int32} {s : h_S} {mc ms : Nat} {Q : Option Nat → h_S → Prop} (h : w_J7_copyOfRange_feecc r0 x1 x2 s mc ms Q) : h_M Z yJ7_copyOfRange_feecc cJ7_copyOfRange_feecc 3 (some (.array .int)) 2 84 [pR r0, pI x1, pI x2] s mc ms (h_QR Z Q) := by
  refine h_M.of (by decide) (Nat.le_of_ble_eq_true rfl) (fun X hZ hX hE hI => ?_)
  subst hZ
  unfold w_J7_copyOfRange_feecc at h
  show h_V X 3 0 [(0, pR r0), (1, pI x1), (2, pI x2)] [] s mc ms
  refine v_iload_n hX dJ7_copyOfRange_feecc_0 1 rfl rfl ?_
  refine v_if_ne (tgt := 10) hX dJ7_copyOfRange_feecc_1 (by decide) (fun c1 => ?_) (fun c1 => ?_)
  · have h := h_E c1 h
    refine v_pick [0, 1, 2] rfl ?_
    exact b_J7_copyOfRange_feecc_10 hX hE _ h
  · have h := h_T c1 h
    refine v_iload_n hX dJ7_copyOfRange_feecc_4 2 rfl rfl ?_
    refine v_aload_n hX dJ7_copyOfRange_feecc_5 0 rfl rfl ?_
    obtain ⟨a2, e_a2, h⟩ := h
    refine v_nn0 e_a2 ?_
    obtain ⟨k3, h⟩ := h
    refine v_alenK hX dJ7_copyOfRange_feecc_6 (k := 1) rfl (by decide) (by decide) k3 ?_
    refine v_icmp_eq (tgt := 17) hX dJ7_copyOfRange_feecc_7 (by decide) (fun c4 => ?_) (fun c4 => ?_)
    · have h := h_T c4 h
      refine v_aload_n hX dJ7_copyOfRange_feecc_17 0 rfl rfl ?_
      obtain ⟨a5, e_a5, h⟩ := h
      refine v_nn0 e_a5 ?_
      obtain ⟨k6, h⟩ := h
      obtain ⟨b9, b10, h⟩ := h
      refine v_clone hX dJ7_copyOfRange_feecc_18 (by decide) (Nat.le_of_ble_eq_true rfl) k6 b9 b10 (fun q7 k8 => ?_)
      have h := h q7 k8
      obtain ⟨k14, h⟩ := h
      refine v_castI hX dJ7_copyOfRange_feecc_21 kl_RJ7_317 k14 ?_
      exact v_aret hX hE (Or.inr ⟨_, rfl⟩) dJ7_copyOfRange_feecc_24 h
    · have h := h_E c4 h
      refine v_pick [0, 1, 2] rfl ?_
      exact b_J7_copyOfRange_feecc_10 hX hE _ h
set_option maxRecDepth 100000 in
set_option maxHeartbeats 4000000 in
theorem m_X9_clashAt {Z : h_Z} {o0 : Nat} {x1 : Int32} {x2 : Int32} {s : h_S} {mc ms : Nat} {Q : Option Nat → h_S → Prop} (h : w_X9_clashAt o0 x1 x2 s mc ms Q) : h_M Z yX9_clashAt cX9_clashAt 4 (some (.object "SeenWords$Clash")) 3 106 [pR (some o0), pI x1, pI x2] s mc ms (h_QR Z Q) := by
  refine h_M.of (by decide) (Nat.le_of_ble_eq_true rfl) (fun X hZ hX hE hI => ?_)
  subst hZ
  unfold w_X9_clashAt at h
  show h_V X 4 0 [(0, pR (some o0)), (1, pI x1), (2, pI x2)] [] s mc ms
  refine v_iload_n hX dX9_clashAt_0 1 rfl rfl ?_
  refine v_bipush (v := 12) hX dX9_clashAt_1 (by decide) ?_
  refine v_callSi hX dX9_clashAt_3 c_RX9_74 cS_X11_within [pI _, pI _] rfl rfl (Nat.le_of_ble_eq_true rfl) (by decide) (by decide) (Nat.zero_le _) (Nat.zero_le _) (m_X11_within h) (fun p2 s1 h => ?_)
  refine v_if_ne (tgt := 22) hX dX9_clashAt_6 (by decide) (fun c3 => ?_) (fun c3 => ?_)
  · have h := h_E c3 h
    refine v_aload_n hX dX9_clashAt_22 0 rfl rfl ?_
    obtain ⟨k4, h⟩ := h
    refine v_getR hX dX9_clashAt_23 f_RX9_42 rfl k4 ?_
    refine v_aload_n hX dX9_clashAt_26 0 rfl rfl ?_
    refine v_getR hX dX9_clashAt_27 f_RX9_45 rfl k4 ?_
    refine v_iload_n hX dX9_clashAt_30 1 rfl rfl ?_
    obtain ⟨a5, e_a5, h⟩ := h
    refine v_nn1 e_a5 ?_
    obtain ⟨k6, h⟩ := h
    obtain ⟨i7, h⟩ := h
    refine v_iald hX dX9_clashAt_31 k6 i7 ?_
    refine v_aload_n hX dX9_clashAt_32 0 rfl rfl ?_
    refine v_getR hX dX9_clashAt_33 f_RX9_51 rfl k4 ?_
    refine v_iload_n hX dX9_clashAt_36 1 rfl rfl ?_
    obtain ⟨a8, e_a8, h⟩ := h
    refine v_nn1 e_a8 ?_
    obtain ⟨k9, h⟩ := h
    obtain ⟨i10, h⟩ := h
    refine v_iald hX dX9_clashAt_37 k9 i10 ?_
    obtain ⟨mc13, ms14, b15, b16, h⟩ := h
    refine v_callSr hX dX9_clashAt_38 c_RX9_123 cS_J7_copyOfRange_feecc [pR _, pI _, pI _] rfl rfl (Nat.le_of_ble_eq_true rfl) (by decide) (by decide) b15 b16 (m_J7_copyOfRange_feecc h) (fun p12 s11 h => ?_)
    refine v_astore_n (lv' := [(3, _), (0, _), (1, _), (2, _)]) hX dX9_clashAt_41 rfl (by decide) rfl ?_
    obtain ⟨b19, b20, h⟩ := h
    refine v_new hX dX9_clashAt_42 n_RX9_118 b19 b20 (fun q17 k18 => ?_)
    have h := h q17 k18
    refine v_dup hX dX9_clashAt_45 rfl ?_
    refine v_iload_n hX dX9_clashAt_46 3 rfl rfl ?_
    refine v_aload_n hX dX9_clashAt_47 0 rfl rfl ?_
    refine v_aload_n hX dX9_clashAt_48 1 rfl rfl ?_
    obtain ⟨k24, h⟩ := h
    refine v_getR hX dX9_clashAt_49 f_RX9_48 rfl k24 ?_
    refine v_iload_n hX dX9_clashAt_52 2 rfl rfl ?_
    obtain ⟨a25, e_a25, h⟩ := h
    refine v_nn1 e_a25 ?_
    obtain ⟨k26, h⟩ := h
    obtain ⟨i27, h⟩ := h
    refine v_iald hX dX9_clashAt_53 k26 i27 ?_
    refine v_aload_n hX dX9_clashAt_54 1 rfl rfl ?_
    refine v_getR hX dX9_clashAt_55 f_RX9_45 rfl k24 ?_
    refine v_iload_n hX dX9_clashAt_58 2 rfl rfl ?_
    obtain ⟨a28, e_a28, h⟩ := h
    refine v_nn1 e_a28 ?_
    obtain ⟨k29, h⟩ := h
    obtain ⟨i30, h⟩ := h
    refine v_iald hX dX9_clashAt_59 k29 i30 ?_
    refine v_isub hX dX9_clashAt_60 ?_
    refine v_callIv hX dX9_clashAt_61 c_RX9_120 cI_X0_init [pI _, pR _, pI _] rfl rfl (Nat.le_of_ble_eq_true rfl) (by decide) (by decide) (Nat.zero_le _) (Nat.zero_le _) (m_X0_init h) (fun s31 h => ?_)
    exact v_aret hX hE (Or.inl ⟨_, rfl⟩) dX9_clashAt_64 h
  · have h := h_T c3 h
    obtain ⟨b35, b36, h⟩ := h
    refine v_new hX dX9_clashAt_9 n_RX9_118 b35 b36 (fun q33 k34 => ?_)
    have h := h q33 k34
    refine v_dup hX dX9_clashAt_12 rfl ?_
    refine v_iload_n hX dX9_clashAt_13 2 rfl rfl ?_
    refine v_iconst (v := 0) hX dX9_clashAt_14 (by decide) ?_
    obtain ⟨b42, b43, h⟩ := h
    refine v_newI (N := 0) hX dX9_clashAt_15 ac_int (by decide) (by decide) (by decide) b42 b43 (fun q40 k41 => ?_)
    have h := h q40 k41
    refine v_iconst (v := 0) hX dX9_clashAt_17 (by decide) ?_
    refine v_callIv hX dX9_clashAt_18 c_RX9_120 cI_X0_init [pI _, pR _, pI _] rfl rfl (Nat.le_of_ble_eq_true rfl) (by decide) (by decide) (Nat.zero_le _) (Nat.zero_le _) (m_X0_init h) (fun s47 h => ?_)
    exact v_aret hX hE (Or.inl ⟨_, rfl⟩) dX9_clashAt_21 h
set_option maxRecDepth 100000 in
set_option maxHeartbeats 4000000 in
theorem b_X9_runs_45 {X : h_X} (hX : h_ok X cX9_runs 3 RX9 0 0) {Q : Int32 → h_S → Prop} (hE : h_end X (some .int) (h_QI (x_Z X) Q)) {K15 : Nat → Int32 → Int32 → h_S → Prop} (hK15 : ∀ (o0 : Nat) (x1 : Int32) (x2 : Int32) (s : h_S), K15 o0 x1 x2 s → h_V X 3 15 [(0, pR (some o0)), (1, pI x1), (2, pI x2)] [] s 0 0) {o0 : Nat} {x1 : Int32} {x2 : Int32} (s : h_S) (h : w_X9_runs_45 Q K15 o0 x1 x2 s) : h_V X 3 45 [(0, pR (some o0)), (1, pI x1), (2, pI x2)] [] s 0 0 := by
  unfold w_X9_runs_45 at h
  refine v_iinc (c := 1) (lv' := [(2, _), (0, _), (1, _)]) hX dX9_runs_45 2 rfl (by decide) (by decide) rfl ?_
  refine v_goto (tgt := 15) hX dX9_runs_48 (by decide) ?_
  refine v_pick [1, 2, 0] rfl ?_
  exact hK15 _ _ _ _ h
set_option maxRecDepth 100000 in
set_option maxHeartbeats 4000000 in
theorem b_X9_runs_15 {X : h_X} (hX : h_ok X cX9_runs 3 RX9 0 0) {Q : Int32 → h_S → Prop} (hE : h_end X (some .int) (h_QI (x_Z X) Q)) : ∀ (n : Nat) (o0 : Nat) (x1 : Int32) (x2 : Int32) (s : h_S), w_X9_runs_15 Q n o0 x1 x2 s → h_V X 3 15 [(0, pR (some o0)), (1, pI x1), (2, pI x2)] [] s 0 0 := by
  intro n
  induction n with
  | zero => intro _ _ _ s h; exact h.elim
  | succ n hK15 =>
    intro o0 x1 x2 s h
    have h : w_X9_runs_15b Q (w_X9_runs_15 Q n) o0 x1 x2 s := h
    unfold w_X9_runs_15b at h
    refine v_iload_n hX dX9_runs_15 2 rfl rfl ?_
    refine v_aload_n hX dX9_runs_16 0 rfl rfl ?_
    obtain ⟨k1, h⟩ := h
    refine v_getI hX dX9_runs_17 f_RX9_89 rfl k1 ?_
    refine v_icmp_ge (tgt := 51) hX dX9_runs_20 (by decide) (fun c2 => ?_) (fun c2 => ?_)
    · have h := h_T c2 h
      refine v_iload_n hX dX9_runs_51 1 rfl rfl ?_
      exact v_iret hX hE dX9_runs_52 h
    · have h := h_E c2 h
      refine v_aload_n hX dX9_runs_23 0 rfl rfl ?_
      refine v_getR hX dX9_runs_24 f_RX9_42 rfl k1 ?_
      refine v_iload_n hX dX9_runs_27 2 rfl rfl ?_
      obtain ⟨a3, e_a3, h⟩ := h
      refine v_nn1 e_a3 ?_
      obtain ⟨k4, h⟩ := h
      obtain ⟨i5, h⟩ := h
      refine v_iald hX dX9_runs_28 k4 i5 ?_
      refine v_aload_n hX dX9_runs_29 0 rfl rfl ?_
      refine v_getR hX dX9_runs_30 f_RX9_42 rfl k1 ?_
      refine v_iload_n hX dX9_runs_33 2 rfl rfl ?_
      refine v_iconst (v := 1) hX dX9_runs_34 (by decide) ?_
      refine v_isub hX dX9_runs_35 ?_
      obtain ⟨a6, e_a6, h⟩ := h
      refine v_nn1 e_a6 ?_
      obtain ⟨k7, h⟩ := h
      obtain ⟨i8, h⟩ := h
      refine v_iald hX dX9_runs_36 k7 i8 ?_
      refine v_iconst (v := 1) hX dX9_runs_37 (by decide) ?_
      refine v_iadd hX dX9_runs_38 ?_
      refine v_icmp_eq (tgt := 45) hX dX9_runs_39 (by decide) (fun c9 => ?_) (fun c9 => ?_)
      · have h := h_T c9 h
        refine v_pick [0, 1, 2] rfl ?_
        exact b_X9_runs_45 hX hE hK15 _ h
      · have h := h_E c9 h
        refine v_iinc (c := 1) (lv' := [(1, _), (0, _), (2, _)]) hX dX9_runs_42 1 rfl (by decide) (by decide) rfl ?_
        refine v_pick [1, 0, 2] rfl ?_
        exact b_X9_runs_45 hX hE hK15 _ h
set_option maxRecDepth 100000 in
set_option maxHeartbeats 4000000 in
theorem b_X9_runs_12 {X : h_X} (hX : h_ok X cX9_runs 3 RX9 0 0) {Q : Int32 → h_S → Prop} (hE : h_end X (some .int) (h_QI (x_Z X) Q)) {o0 : Nat} {y0 : Int32} (s : h_S) (h : w_X9_runs_12 Q o0 y0 s) : h_V X 3 12 [(0, pR (some o0))] [pI y0] s 0 0 := by
  unfold w_X9_runs_12 at h
  refine v_istore_n (lv' := [(1, _), (0, _)]) hX dX9_runs_12 rfl (by decide) rfl ?_
  refine v_iconst (v := 1) hX dX9_runs_13 (by decide) ?_
  refine v_istore_n (lv' := [(2, _), (1, _), (0, _)]) hX dX9_runs_14 rfl (by decide) rfl ?_
  refine v_pick [2, 1, 0] rfl ?_
  obtain ⟨n, h⟩ := h
  exact b_X9_runs_15 hX hE n _ _ _ _ h
set_option maxRecDepth 100000 in
set_option maxHeartbeats 4000000 in
theorem m_X9_runs {Z : h_Z} {o0 : Nat} {s : h_S} {Q : Int32 → h_S → Prop} (h : w_X9_runs o0 s Q) : h_M Z yX9_runs cX9_runs 3 (some .int) 0 0 [pR (some o0)] s 0 0 (h_QI Z Q) := by
  refine h_M.of (by decide) (Nat.le_of_ble_eq_true rfl) (fun X hZ hX hE hI => ?_)
  subst hZ
  unfold w_X9_runs at h
  show h_V X 3 0 [(0, pR (some o0))] [] s 0 0
  refine v_aload_n hX dX9_runs_0 0 rfl rfl ?_
  obtain ⟨k1, h⟩ := h
  refine v_getI hX dX9_runs_1 f_RX9_89 rfl k1 ?_
  refine v_if_le (tgt := 11) hX dX9_runs_4 (by decide) (fun c2 => ?_) (fun c2 => ?_)
  · have h := h_T c2 h
    refine v_iconst (v := 0) hX dX9_runs_11 (by decide) ?_
    refine v_pick [0] rfl ?_
    exact b_X9_runs_12 hX hE _ h
  · have h := h_E c2 h
    refine v_iconst (v := 1) hX dX9_runs_7 (by decide) ?_
    refine v_goto (tgt := 12) hX dX9_runs_8 (by decide) ?_
    refine v_pick [0] rfl ?_
    exact b_X9_runs_12 hX hE _ h
set_option maxRecDepth 100000 in
set_option maxHeartbeats 4000000 in
theorem m_X11_mix {Z : h_Z} {x0 : Int32} {x1 : Int32} {s : h_S} {Q : Int32 → h_S → Prop} (h : w_X11_mix x0 x1 s Q) : h_M Z yX11_mix cX11_mix 3 (some .int) 0 0 [pI x0, pI x1] s 0 0 (h_QI Z Q) := by
  refine h_M.of (by decide) (Nat.le_of_ble_eq_true rfl) (fun X hZ hX hE hI => ?_)
  subst hZ
  unfold w_X11_mix at h
  show h_V X 3 0 [(0, pI x0), (1, pI x1)] [] s 0 0
  refine v_iload_n hX dX11_mix_0 0 rfl rfl ?_
  refine v_ldcw hX dX11_mix_1 k_RX11_491 ?_
  refine v_imul hX dX11_mix_4 ?_
  refine v_iload_n hX dX11_mix_5 1 rfl rfl ?_
  refine v_iadd hX dX11_mix_6 ?_
  refine v_istore_n (lv' := [(2, _), (0, _), (1, _)]) hX dX11_mix_7 rfl (by decide) rfl ?_
  refine v_iload_n hX dX11_mix_8 0 rfl rfl ?_
  refine v_iload_n hX dX11_mix_9 0 rfl rfl ?_
  refine v_bipush (v := 15) hX dX11_mix_10 (by decide) ?_
  refine v_iushr hX dX11_mix_12 ?_
  refine v_ixor hX dX11_mix_13 ?_
  refine v_ldcw hX dX11_mix_14 k_RX11_492 ?_
  refine v_imul hX dX11_mix_17 ?_
  refine v_istore_n (lv' := [(2, _), (0, _), (1, _)]) hX dX11_mix_18 rfl (by decide) rfl ?_
  refine v_iload_n hX dX11_mix_19 0 rfl rfl ?_
  refine v_iload_n hX dX11_mix_20 0 rfl rfl ?_
  refine v_bipush (v := 13) hX dX11_mix_21 (by decide) ?_
  refine v_iushr hX dX11_mix_23 ?_
  refine v_ixor hX dX11_mix_24 ?_
  exact v_iret hX hE dX11_mix_25 h
set_option maxRecDepth 100000 in
set_option maxHeartbeats 4000000 in
theorem b_X11_acted_66 {X : h_X} (hX : h_ok X cX11_acted 2 RX11 1 22) {Q : Int32 → h_S → Prop} (hE : h_end X (some .int) (h_QI (x_Z X) Q)) {x1 : Int32} (s : h_S) (h : w_X11_acted_66 Q x1 s) : h_V X 2 66 [(1, pI x1)] [] s 0 0 := by
  unfold w_X11_acted_66 at h
  refine v_iload_n hX dX11_acted_66 0 rfl rfl ?_
  exact v_iret hX hE dX11_acted_67 h
set_option maxRecDepth 100000 in
set_option maxHeartbeats 4000000 in
theorem m_X11_acted {Z : h_Z} {o0 : Nat} {x1 : Int32} {s : h_S} {Q : Int32 → h_S → Prop} (h : w_X11_acted o0 x1 s Q) : h_M Z yX11_acted cX11_acted 2 (some .int) 1 22 [pR (some o0), pI x1] s 0 0 (h_QI Z Q) := by
  refine h_M.of (by decide) (Nat.le_of_ble_eq_true rfl) (fun X hZ hX hE hI => ?_)
  subst hZ
  unfold w_X11_acted at h
  show h_V X 2 0 [(0, pR (some o0)), (1, pI x1)] [] s 0 0
  refine v_aload_n hX dX11_acted_0 0 rfl rfl ?_
  obtain ⟨k1, h⟩ := h
  refine v_getI hX dX11_acted_1 f_RX11_84 rfl k1 ?_
  refine v_iconst (v := 1) hX dX11_acted_4 (by decide) ?_
  refine v_iadd hX dX11_acted_5 ?_
  refine v_sipush (v := 600) hX dX11_acted_6 (by decide) ?_
  refine v_icmp_ge (tgt := 66) hX dX11_acted_9 (by decide) (fun c2 => ?_) (fun c2 => ?_)
  · have h := h_T c2 h
    refine v_pick [1] rfl ?_
    exact b_X11_acted_66 hX hE _ h
  · have h := h_E c2 h
    refine v_aload_n hX dX11_acted_12 0 rfl rfl ?_
    refine v_getR hX dX11_acted_13 f_RX11_13 rfl k1 ?_
    refine v_aload_n hX dX11_acted_16 0 rfl rfl ?_
    refine v_getI hX dX11_acted_17 f_RX11_84 rfl k1 ?_
    refine v_iconst (v := 1) hX dX11_acted_20 (by decide) ?_
    refine v_iadd hX dX11_acted_21 ?_
    refine v_aload_n hX dX11_acted_22 0 rfl rfl ?_
    refine v_getR hX dX11_acted_23 f_RX11_13 rfl k1 ?_
    refine v_aload_n hX dX11_acted_26 0 rfl rfl ?_
    refine v_getI hX dX11_acted_27 f_RX11_84 rfl k1 ?_
    obtain ⟨a3, e_a3, h⟩ := h
    refine v_nn1 e_a3 ?_
    obtain ⟨k4, h⟩ := h
    obtain ⟨i5, h⟩ := h
    refine v_iald hX dX11_acted_30 k4 i5 ?_
    refine v_iload_n hX dX11_acted_31 1 rfl rfl ?_
    refine v_callSi hX dX11_acted_32 c_RX11_488 cS_X11_mix [pI _, pI _] rfl rfl (Nat.le_of_ble_eq_true rfl) (by decide) (by decide) (Nat.zero_le _) (Nat.zero_le _) (m_X11_mix h) (fun p7 s6 h => ?_)
    obtain ⟨a8, e_a8, h⟩ := h
    refine v_nn2 e_a8 ?_
    obtain ⟨k9, h⟩ := h
    obtain ⟨i10, h⟩ := h
    refine v_iast hX dX11_acted_35 k9 i10 ?_
    refine v_aload_n hX dX11_acted_36 0 rfl rfl ?_
    obtain ⟨k12, h⟩ := h
    refine v_getR hX dX11_acted_37 f_RX11_17 rfl k12 ?_
    refine v_aload_n hX dX11_acted_40 0 rfl rfl ?_
    refine v_getI hX dX11_acted_41 f_RX11_84 rfl k12 ?_
    refine v_iconst (v := 1) hX dX11_acted_44 (by decide) ?_
    refine v_iadd hX dX11_acted_45 ?_
    refine v_aload_n hX dX11_acted_46 0 rfl rfl ?_
    refine v_getR hX dX11_acted_47 f_RX11_17 rfl k12 ?_
    refine v_aload_n hX dX11_acted_50 0 rfl rfl ?_
    refine v_getI hX dX11_acted_51 f_RX11_84 rfl k12 ?_
    obtain ⟨a13, e_a13, h⟩ := h
    refine v_nn1 e_a13 ?_
    obtain ⟨k14, h⟩ := h
    obtain ⟨i15, h⟩ := h
    refine v_iald hX dX11_acted_54 k14 i15 ?_
    obtain ⟨a16, e_a16, h⟩ := h
    refine v_nn2 e_a16 ?_
    obtain ⟨k17, h⟩ := h
    obtain ⟨i18, h⟩ := h
    refine v_iast hX dX11_acted_55 k17 i18 ?_
    refine v_aload_n hX dX11_acted_56 0 rfl rfl ?_
    refine v_dup hX dX11_acted_57 rfl ?_
    refine v_getI hX dX11_acted_58 f_RX11_84 rfl k12 ?_
    refine v_iconst (v := 1) hX dX11_acted_61 (by decide) ?_
    refine v_iadd hX dX11_acted_62 ?_
    refine v_putI hX dX11_acted_63 f_RX11_84 k12 ?_
    refine v_pick [1] rfl ?_
    exact b_X11_acted_66 hX hE _ h
set_option maxRecDepth 100000 in
set_option maxHeartbeats 4000000 in
theorem m_X11_hand {Z : h_Z} {o0 : Nat} {s : h_S} {Q : Int32 → h_S → Prop} (h : w_X11_hand o0 s Q) : h_M Z yX11_hand cX11_hand 1 (some .int) 2 43 [pR (some o0)] s 0 0 (h_QI Z Q) := by
  refine h_M.of (by decide) (Nat.le_of_ble_eq_true rfl) (fun X hZ hX hE hI => ?_)
  subst hZ
  unfold w_X11_hand at h
  show h_V X 1 0 [(0, pR (some o0))] [] s 0 0
  refine v_aload_n hX dX11_hand_0 0 rfl rfl ?_
  obtain ⟨k1, h⟩ := h
  refine v_getI hX dX11_hand_1 f_RX11_73 rfl k1 ?_
  refine v_bipush (v := 8) hX dX11_hand_4 (by decide) ?_
  refine v_icmp_lt (tgt := 12) hX dX11_hand_6 (by decide) (fun c2 => ?_) (fun c2 => ?_)
  · have h := h_T c2 h
    refine v_aload_n hX dX11_hand_12 0 rfl rfl ?_
    refine v_dup hX dX11_hand_13 rfl ?_
    refine v_getI hX dX11_hand_14 f_RX11_73 rfl k1 ?_
    refine v_iconst (v := 1) hX dX11_hand_17 (by decide) ?_
    refine v_iadd hX dX11_hand_18 ?_
    refine v_putI hX dX11_hand_19 f_RX11_73 k1 ?_
    refine v_aload_n hX dX11_hand_22 0 rfl rfl ?_
    refine v_aload_n hX dX11_hand_23 0 rfl rfl ?_
    refine v_getI hX dX11_hand_24 f_RX11_73 rfl k1 ?_
    refine v_iconst (v := 1) hX dX11_hand_27 (by decide) ?_
    refine v_isub hX dX11_hand_28 ?_
    refine v_callVi hX dX11_hand_29 c_RX11_76 cV_X11_acted (ci := 12) (T := TX11) (N := 19) rfl (by exact k1) [pI _] rfl rfl (Nat.le_of_ble_eq_true rfl) (by decide) (by decide) (Nat.zero_le _) (Nat.zero_le _) (m_X11_acted h) (fun p5 s4 h => ?_)
    exact v_iret hX hE dX11_hand_32 h
  · have h := h_E c2 h
    refine v_bipush (v := -4) hX dX11_hand_9 (by decide) ?_
    exact v_iret hX hE dX11_hand_11 h
set_option maxRecDepth 100000 in
set_option maxHeartbeats 4000000 in
theorem b_X11_groupAsOf_29 {X : h_X} (hX : h_ok X cX11_groupAsOf 3 RX11 1 21) {Q : Int32 → h_S → Prop} (hE : h_end X (some .int) (h_QI (x_Z X) Q)) {y0 : Int32} (s : h_S) (h : w_X11_groupAsOf_29 Q y0 s) : h_V X 3 29 [] [pI y0] s 0 0 := by
  unfold w_X11_groupAsOf_29 at h
  exact v_iret hX hE dX11_groupAsOf_29 h
set_option maxRecDepth 100000 in
set_option maxHeartbeats 4000000 in
theorem m_X11_groupAsOf {Z : h_Z} {o0 : Nat} {x1 : Int32} {x2 : Int32} {s : h_S} {Q : Int32 → h_S → Prop} (h : w_X11_groupAsOf o0 x1 x2 s Q) : h_M Z yX11_groupAsOf cX11_groupAsOf 3 (some .int) 1 21 [pR (some o0), pI x1, pI x2] s 0 0 (h_QI Z Q) := by
  refine h_M.of (by decide) (Nat.le_of_ble_eq_true rfl) (fun X hZ hX hE hI => ?_)
  subst hZ
  unfold w_X11_groupAsOf at h
  show h_V X 3 0 [(0, pR (some o0)), (1, pI x1), (2, pI x2)] [] s 0 0
  refine v_iload_n hX dX11_groupAsOf_0 2 rfl rfl ?_
  refine v_sipush (v := 600) hX dX11_groupAsOf_1 (by decide) ?_
  refine v_callSi hX dX11_groupAsOf_4 c_RX11_80 cS_X11_within [pI _, pI _] rfl rfl (Nat.le_of_ble_eq_true rfl) (by decide) (by decide) (Nat.zero_le _) (Nat.zero_le _) (m_X11_within h) (fun p2 s1 h => ?_)
  refine v_if_eq (tgt := 28) hX dX11_groupAsOf_7 (by decide) (fun c3 => ?_) (fun c3 => ?_)
  · have h := h_T c3 h
    refine v_iconst (v := 0) hX dX11_groupAsOf_28 (by decide) ?_
    refine v_pick [] rfl ?_
    exact b_X11_groupAsOf_29 hX hE _ h
  · have h := h_E c3 h
    refine v_aload_n hX dX11_groupAsOf_10 0 rfl rfl ?_
    obtain ⟨k4, h⟩ := h
    refine v_getR hX dX11_groupAsOf_11 f_RX11_17 rfl k4 ?_
    refine v_iload_n hX dX11_groupAsOf_14 2 rfl rfl ?_
    obtain ⟨a5, e_a5, h⟩ := h
    refine v_nn1 e_a5 ?_
    obtain ⟨k6, h⟩ := h
    obtain ⟨i7, h⟩ := h
    refine v_iald hX dX11_groupAsOf_15 k6 i7 ?_
    refine v_bipush (v := 8) hX dX11_groupAsOf_16 (by decide) ?_
    refine v_iload_n hX dX11_groupAsOf_18 1 rfl rfl ?_
    refine v_imul hX dX11_groupAsOf_19 ?_
    refine v_iushr hX dX11_groupAsOf_20 ?_
    refine v_sipush (v := 255) hX dX11_groupAsOf_21 (by decide) ?_
    refine v_iand hX dX11_groupAsOf_24 ?_
    refine v_goto (tgt := 29) hX dX11_groupAsOf_25 (by decide) ?_
    refine v_pick [] rfl ?_
    exact b_X11_groupAsOf_29 hX hE _ h
set_option maxRecDepth 100000 in
set_option maxHeartbeats 4000000 in
theorem m_X11_group {Z : h_Z} {o0 : Nat} {x1 : Int32} {x2 : Int32} {s : h_S} {Q : Int32 → h_S → Prop} (h : w_X11_group o0 x1 x2 s Q) : h_M Z yX11_group cX11_group 5 (some .int) 2 43 [pR (some o0), pI x1, pI x2] s 0 0 (h_QI Z Q) := by
  refine h_M.of (by decide) (Nat.le_of_ble_eq_true rfl) (fun X hZ hX hE hI => ?_)
  subst hZ
  unfold w_X11_group at h
  show h_V X 5 0 [(0, pR (some o0)), (1, pI x1), (2, pI x2)] [] s 0 0
  refine v_iload_n hX dX11_group_0 1 rfl rfl ?_
  refine v_iconst (v := 4) hX dX11_group_1 (by decide) ?_
  refine v_callSi hX dX11_group_2 c_RX11_80 cS_X11_within [pI _, pI _] rfl rfl (Nat.le_of_ble_eq_true rfl) (by decide) (by decide) (Nat.zero_le _) (Nat.zero_le _) (m_X11_within h) (fun p2 s1 h => ?_)
  refine v_if_ne (tgt := 10) hX dX11_group_5 (by decide) (fun c3 => ?_) (fun c3 => ?_)
  · have h := h_E c3 h
    refine v_iload_n hX dX11_group_10 2 rfl rfl ?_
    refine v_aload_n hX dX11_group_11 0 rfl rfl ?_
    obtain ⟨k4, h⟩ := h
    refine v_getI hX dX11_group_12 f_RX11_73 rfl k4 ?_
    refine v_iushr hX dX11_group_15 ?_
    refine v_if_eq (tgt := 22) hX dX11_group_16 (by decide) (fun c5 => ?_) (fun c5 => ?_)
    · have h := h_T c5 h
      refine v_aload_n hX dX11_group_22 0 rfl rfl ?_
      refine v_iload_n hX dX11_group_23 1 rfl rfl ?_
      refine v_aload_n hX dX11_group_24 0 rfl rfl ?_
      refine v_getI hX dX11_group_25 f_RX11_84 rfl k4 ?_
      refine v_callVi hX dX11_group_28 c_RX11_87 cV_X11_groupAsOf (ci := 12) (T := TX11) (N := 19) rfl (by exact k4) [pI _, pI _] rfl rfl (Nat.le_of_ble_eq_true rfl) (by decide) (by decide) (Nat.zero_le _) (Nat.zero_le _) (m_X11_groupAsOf h) (fun p7 s6 h => ?_)
      refine v_istore_n (lv' := [(3, _), (0, _), (1, _), (2, _)]) hX dX11_group_31 rfl (by decide) rfl ?_
      refine v_aload_n hX dX11_group_32 1 rfl rfl ?_
      obtain ⟨k8, h⟩ := h
      refine v_getR hX dX11_group_33 f_RX11_17 rfl k8 ?_
      refine v_aload_n hX dX11_group_36 1 rfl rfl ?_
      refine v_getI hX dX11_group_37 f_RX11_84 rfl k8 ?_
      obtain ⟨a9, e_a9, h⟩ := h
      refine v_nn1 e_a9 ?_
      obtain ⟨k10, h⟩ := h
      obtain ⟨i11, h⟩ := h
      refine v_iald hX dX11_group_40 k10 i11 ?_
      refine v_sipush (v := 255) hX dX11_group_41 (by decide) ?_
      refine v_bipush (v := 8) hX dX11_group_44 (by decide) ?_
      refine v_iload_n hX dX11_group_46 2 rfl rfl ?_
      refine v_imul hX dX11_group_47 ?_
      refine v_ishl hX dX11_group_48 ?_
      refine v_iconst (v := -1) hX dX11_group_49 (by decide) ?_
      refine v_ixor hX dX11_group_50 ?_
      refine v_iand hX dX11_group_51 ?_
      refine v_istore (lv' := [(4, _), (3, _), (0, _), (1, _), (2, _)]) hX dX11_group_52 (by decide) rfl ?_
      refine v_aload_n hX dX11_group_54 2 rfl rfl ?_
      refine v_iload_n hX dX11_group_55 1 rfl rfl ?_
      refine v_callVi hX dX11_group_56 c_RX11_76 cV_X11_acted (ci := 12) (T := TX11) (N := 19) rfl (by exact k8) [pI _] rfl rfl (Nat.le_of_ble_eq_true rfl) (by decide) (by decide) (Nat.zero_le _) (Nat.zero_le _) (m_X11_acted h) (fun p14 s13 h => ?_)
      refine v_pop hX dX11_group_59 rfl ?_
      refine v_aload_n hX dX11_group_60 2 rfl rfl ?_
      obtain ⟨k15, h⟩ := h
      refine v_getR hX dX11_group_61 f_RX11_17 rfl k15 ?_
      refine v_aload_n hX dX11_group_64 2 rfl rfl ?_
      refine v_getI hX dX11_group_65 f_RX11_84 rfl k15 ?_
      refine v_iload hX dX11_group_68 0 rfl ?_
      refine v_iload_n hX dX11_group_70 4 rfl rfl ?_
      refine v_bipush (v := 8) hX dX11_group_71 (by decide) ?_
      refine v_iload_n hX dX11_group_73 3 rfl rfl ?_
      refine v_imul hX dX11_group_74 ?_
      refine v_ishl hX dX11_group_75 ?_
      refine v_ior hX dX11_group_76 ?_
      obtain ⟨a16, e_a16, h⟩ := h
      refine v_nn2 e_a16 ?_
      obtain ⟨k17, h⟩ := h
      obtain ⟨i18, h⟩ := h
      refine v_iast hX dX11_group_77 k17 i18 ?_
      refine v_iload_n hX dX11_group_78 1 rfl rfl ?_
      exact v_iret hX hE dX11_group_79 h
    · have h := h_E c5 h
      refine v_bipush (v := -2) hX dX11_group_19 (by decide) ?_
      exact v_iret hX hE dX11_group_21 h
  · have h := h_T c3 h
    refine v_iconst (v := -1) hX dX11_group_8 (by decide) ?_
    exact v_iret hX hE dX11_group_9 h
set_option maxRecDepth 100000 in
set_option maxHeartbeats 4000000 in
theorem m_X11_isHand {Z : h_Z} {o0 : Nat} {x1 : Int32} {s : h_S} {Q : Int32 → h_S → Prop} (h : w_X11_isHand o0 x1 s Q) : h_M Z yX11_isHand cX11_isHand 2 (some .boolean) 1 21 [pR (some o0), pI x1] s 0 0 (h_QI Z Q) := by
  refine h_M.of (by decide) (Nat.le_of_ble_eq_true rfl) (fun X hZ hX hE hI => ?_)
  subst hZ
  unfold w_X11_isHand at h
  show h_V X 2 0 [(0, pR (some o0)), (1, pI x1)] [] s 0 0
  refine v_iload_n hX dX11_isHand_0 1 rfl rfl ?_
  refine v_aload_n hX dX11_isHand_1 0 rfl rfl ?_
  obtain ⟨k1, h⟩ := h
  refine v_getI hX dX11_isHand_2 f_RX11_73 rfl k1 ?_
  refine v_callSi hX dX11_isHand_5 c_RX11_80 cS_X11_within [pI _, pI _] rfl rfl (Nat.le_of_ble_eq_true rfl) (by decide) (by decide) (Nat.zero_le _) (Nat.zero_le _) (m_X11_within h) (fun p3 s2 h => ?_)
  exact v_zret hX hE dX11_isHand_8 h.1 h.2
set_option maxRecDepth 100000 in
set_option maxHeartbeats 4000000 in
theorem m_X11_writing {Z : h_Z} {o0 : Nat} {x1 : Int32} {s : h_S} {mc ms : Nat} {Q : Int32 → h_S → Prop} (h : w_X11_writing o0 x1 s mc ms Q) : h_M Z yX11_writing cX11_writing 2 (some .int) 3 65 [pR (some o0), pI x1] s mc ms (h_QI Z Q) := by
  refine h_M.of (by decide) (Nat.le_of_ble_eq_true rfl) (fun X hZ hX hE hI => ?_)
  subst hZ
  unfold w_X11_writing at h
  show h_V X 2 0 [(0, pR (some o0)), (1, pI x1)] [] s mc ms
  refine v_aload_n hX dX11_writing_0 0 rfl rfl ?_
  refine v_iload_n hX dX11_writing_1 1 rfl rfl ?_
  obtain ⟨k1, h⟩ := h
  refine v_callVi hX dX11_writing_2 c_RX11_91 cV_X11_isHand (ci := 12) (T := TX11) (N := 19) rfl (by exact k1) [pI _] rfl rfl (Nat.le_of_ble_eq_true rfl) (by decide) (by decide) (Nat.zero_le _) (Nat.zero_le _) (m_X11_isHand h) (fun p3 s2 h => ?_)
  refine v_if_ne (tgt := 10) hX dX11_writing_5 (by decide) (fun c4 => ?_) (fun c4 => ?_)
  · have h := h_E c4 h
    refine v_aload_n hX dX11_writing_10 0 rfl rfl ?_
    obtain ⟨k5, h⟩ := h
    refine v_getR hX dX11_writing_11 f_RX11_23 rfl k5 ?_
    obtain ⟨a6, e_a6, h⟩ := h
    refine v_nn0 e_a6 ?_
    obtain ⟨k7, h⟩ := h
    refine v_callVi hX dX11_writing_14 c_RX11_95 cV_X7_isFull (ci := 8) (T := TX7) (N := 13) rfl (by exact k7) [] rfl rfl (Nat.le_of_ble_eq_true rfl) (by decide) (by decide) (Nat.zero_le _) (Nat.zero_le _) (m_X7_isFull h) (fun p9 s8 h => ?_)
    refine v_if_eq (tgt := 23) hX dX11_writing_17 (by decide) (fun c10 => ?_) (fun c10 => ?_)
    · have h := h_T c10 h
      refine v_aload_n hX dX11_writing_23 0 rfl rfl ?_
      refine v_aload_n hX dX11_writing_24 0 rfl rfl ?_
      obtain ⟨k11, h⟩ := h
      refine v_getR hX dX11_writing_25 f_RX11_23 rfl k11 ?_
      refine v_iload_n hX dX11_writing_28 1 rfl rfl ?_
      refine v_aload_n hX dX11_writing_29 0 rfl rfl ?_
      refine v_getI hX dX11_writing_30 f_RX11_84 rfl k11 ?_
      refine v_iconst (v := 1) hX dX11_writing_33 (by decide) ?_
      refine v_iadd hX dX11_writing_34 ?_
      obtain ⟨a12, e_a12, h⟩ := h
      refine v_nn2 e_a12 ?_
      obtain ⟨k13, h⟩ := h
      obtain ⟨mc16, ms17, b18, b19, h⟩ := h
      refine v_callVi hX dX11_writing_35 c_RX11_99 cV_X7_begin (ci := 8) (T := TX7) (N := 13) rfl (by exact k13) [pI _, pI _] rfl rfl (Nat.le_of_ble_eq_true rfl) (by decide) (by decide) b18 b19 (m_X7_begin h) (fun p15 s14 h => ?_)
      obtain ⟨k20, h⟩ := h
      refine v_callVi hX dX11_writing_38 c_RX11_76 cV_X11_acted (ci := 12) (T := TX11) (N := 19) rfl (by exact k20) [pI _] rfl rfl (Nat.le_of_ble_eq_true rfl) (by decide) (by decide) (Nat.zero_le _) (Nat.zero_le _) (m_X11_acted h) (fun p22 s21 h => ?_)
      exact v_iret hX hE dX11_writing_41 h
    · have h := h_E c10 h
      refine v_bipush (v := -4) hX dX11_writing_20 (by decide) ?_
      exact v_iret hX hE dX11_writing_22 h
  · have h := h_T c4 h
    refine v_iconst (v := -1) hX dX11_writing_8 (by decide) ?_
    exact v_iret hX hE dX11_writing_9 h
set_option maxRecDepth 100000 in
set_option maxHeartbeats 4000000 in
theorem m_X11_isWriting {Z : h_Z} {o0 : Nat} {x1 : Int32} {s : h_S} {Q : Int32 → h_S → Prop} (h : w_X11_isWriting o0 x1 s Q) : h_M Z yX11_isWriting cX11_isWriting 2 (some .boolean) 1 21 [pR (some o0), pI x1] s 0 0 (h_QI Z Q) := by
  refine h_M.of (by decide) (Nat.le_of_ble_eq_true rfl) (fun X hZ hX hE hI => ?_)
  subst hZ
  unfold w_X11_isWriting at h
  show h_V X 2 0 [(0, pR (some o0)), (1, pI x1)] [] s 0 0
  refine v_iload_n hX dX11_isWriting_0 1 rfl rfl ?_
  refine v_aload_n hX dX11_isWriting_1 0 rfl rfl ?_
  obtain ⟨k1, h⟩ := h
  refine v_getR hX dX11_isWriting_2 f_RX11_23 rfl k1 ?_
  obtain ⟨a2, e_a2, h⟩ := h
  refine v_nn0 e_a2 ?_
  obtain ⟨k3, h⟩ := h
  refine v_getI hX dX11_isWriting_5 f_RX11_533 rfl k3 ?_
  refine v_callSi hX dX11_isWriting_8 c_RX11_80 cS_X11_within [pI _, pI _] rfl rfl (Nat.le_of_ble_eq_true rfl) (by decide) (by decide) (Nat.zero_le _) (Nat.zero_le _) (m_X11_within h) (fun p5 s4 h => ?_)
  exact v_zret hX hE dX11_isWriting_11 h.1 h.2
