set_option maxRecDepth 100000 in
set_option maxHeartbeats 4000000 in
theorem m_X12_takeTwo {Z : h_Z} {o0 : Nat} {x1 : Int32} {x2 : Int32} {s : h_S} {Q : h_S → Prop} (h : w_X12_takeTwo o0 x1 x2 s Q) : h_M Z yX12_takeTwo cX12_takeTwo 4 none 5 118 [pR (some o0), pI x1, pI x2] s 0 0 (h_QV Z Q) := by
  refine h_M.of (by decide) (Nat.le_of_ble_eq_true rfl) (fun X hZ hX hE hI => ?_)
  subst hZ
  unfold w_X12_takeTwo at h
  show h_V X 4 0 [(0, pR (some o0)), (1, pI x1), (2, pI x2)] [] s 0 0
  refine v_aload_n hX dX12_takeTwo_0 0 rfl rfl ?_
  refine v_iload_n hX dX12_takeTwo_1 1 rfl rfl ?_
  obtain ⟨k1, h⟩ := h
  refine v_callVv0 hX dX12_takeTwo_2 c_RX12_461 cV_X12_layVersion (ci := 13) (T := TX12) (N := 115) rfl (by exact k1) [pI _] rfl rfl (Nat.le_of_ble_eq_true rfl) (by decide) (by decide)  (m_X12_layVersion h) (fun s2 h => ?_)
  refine v_aload_n hX dX12_takeTwo_5 0 rfl rfl ?_
  refine v_iconst (v := 0) hX dX12_takeTwo_6 (by decide) ?_
  obtain ⟨k4, h⟩ := h
  refine v_putI hX dX12_takeTwo_7 f_RX12_467 k4 ?_
  refine v_iconst (v := 0) hX dX12_takeTwo_10 (by decide) ?_
  refine v_istore_n (lv' := [(3, _), (0, _), (1, _), (2, _)]) hX dX12_takeTwo_11 rfl (by decide) rfl ?_
  refine v_pick [1, 3, 0] rfl ?_
  obtain ⟨n, h⟩ := h
  exact b_X12_takeTwo_12 hX hE n _ _ _ _ h
set_option maxRecDepth 100000 in
set_option maxHeartbeats 4000000 in
theorem b_X12_layShared_142 {X : h_X} (hX : h_ok X cX12_layShared 7 RX12 0 0) {Q : h_S → Prop} (hE : h_end X none (h_QV (x_Z X) Q)) {K5 : Nat → Int32 → h_S → Prop} (hK5 : ∀ (o0 : Nat) (x1 : Int32) (s : h_S), K5 o0 x1 s → h_V X 7 5 [(0, pR (some o0)), (1, pI x1)] [] s 0 0) {K14 : Nat → Int32 → Int32 → h_S → Prop} (hK14 : ∀ (o0 : Nat) (x1 : Int32) (x2 : Int32) (s : h_S), K14 o0 x1 x2 s → h_V X 7 14 [(0, pR (some o0)), (1, pI x1), (2, pI x2)] [] s 0 0) {o0 : Nat} {x1 : Int32} {x2 : Int32} {x3 : Int32} (s : h_S) (h : w_X12_layShared_142 Q K5 K14 o0 x1 x2 x3 s) : h_V X 7 142 [(0, pR (some o0)), (1, pI x1), (2, pI x2), (3, pI x3)] [] s 0 0 := by
  unfold w_X12_layShared_142 at h
  refine v_aload_n hX dX12_layShared_142 0 rfl rfl ?_
  obtain ⟨k1, h⟩ := h
  refine v_getR hX dX12_layShared_143 f_RX12_161 rfl k1 ?_
  refine v_sipush (v := 301) hX dX12_layShared_146 (by decide) ?_
  refine v_iload_n hX dX12_layShared_149 1 rfl rfl ?_
  refine v_imul hX dX12_layShared_150 ?_
  refine v_iload_n hX dX12_layShared_151 2 rfl rfl ?_
  refine v_iadd hX dX12_layShared_152 ?_
  refine v_iload_n hX dX12_layShared_153 3 rfl rfl ?_
  obtain ⟨a2, e_a2, h⟩ := h
  refine v_nn2 e_a2 ?_
  obtain ⟨k3, h⟩ := h
  obtain ⟨i4, h⟩ := h
  refine v_iast hX dX12_layShared_154 k3 i4 ?_
  refine v_iinc (c := -1) (lv' := [(2, _), (0, _), (1, _), (3, _)]) hX dX12_layShared_155 2 rfl (by decide) (by decide) rfl ?_
  refine v_goto (tgt := 14) hX dX12_layShared_158 (by decide) ?_
  refine v_pick [1, 2, 0] rfl ?_
  exact hK14 _ _ _ _ h
set_option maxRecDepth 100000 in
set_option maxHeartbeats 4000000 in
theorem b_X12_layShared_141 {X : h_X} (hX : h_ok X cX12_layShared 7 RX12 0 0) {Q : h_S → Prop} (hE : h_end X none (h_QV (x_Z X) Q)) {K5 : Nat → Int32 → h_S → Prop} (hK5 : ∀ (o0 : Nat) (x1 : Int32) (s : h_S), K5 o0 x1 s → h_V X 7 5 [(0, pR (some o0)), (1, pI x1)] [] s 0 0) {K14 : Nat → Int32 → Int32 → h_S → Prop} (hK14 : ∀ (o0 : Nat) (x1 : Int32) (x2 : Int32) (s : h_S), K14 o0 x1 x2 s → h_V X 7 14 [(0, pR (some o0)), (1, pI x1), (2, pI x2)] [] s 0 0) {o0 : Nat} {x1 : Int32} {x2 : Int32} {y0 : Int32} (s : h_S) (h : w_X12_layShared_141 Q K5 K14 o0 x1 x2 y0 s) : h_V X 7 141 [(0, pR (some o0)), (1, pI x1), (2, pI x2)] [pI y0] s 0 0 := by
  unfold w_X12_layShared_141 at h
  refine v_istore_n (lv' := [(3, _), (0, _), (1, _), (2, _)]) hX dX12_layShared_141 rfl (by decide) rfl ?_
  refine v_pick [1, 2, 3, 0] rfl ?_
  exact b_X12_layShared_142 hX hE hK5 hK14 _ h
set_option maxRecDepth 100000 in
set_option maxHeartbeats 4000000 in
theorem b_X12_layShared_99 {X : h_X} (hX : h_ok X cX12_layShared 7 RX12 0 0) {Q : h_S → Prop} (hE : h_end X none (h_QV (x_Z X) Q)) {K5 : Nat → Int32 → h_S → Prop} (hK5 : ∀ (o0 : Nat) (x1 : Int32) (s : h_S), K5 o0 x1 s → h_V X 7 5 [(0, pR (some o0)), (1, pI x1)] [] s 0 0) {K14 : Nat → Int32 → Int32 → h_S → Prop} (hK14 : ∀ (o0 : Nat) (x1 : Int32) (x2 : Int32) (s : h_S), K14 o0 x1 x2 s → h_V X 7 14 [(0, pR (some o0)), (1, pI x1), (2, pI x2)] [] s 0 0) {o0 : Nat} {x1 : Int32} {x2 : Int32} {x4 : Int32} {x5 : Int32} {y0 : Int32} (s : h_S) (h : w_X12_layShared_99 Q K5 K14 o0 x1 x2 x4 x5 y0 s) : h_V X 7 99 [(0, pR (some o0)), (1, pI x1), (2, pI x2), (4, pI x4), (5, pI x5)] [pI y0] s 0 0 := by
  unfold w_X12_layShared_99 at h
  refine v_istore (lv' := [(6, _), (0, _), (1, _), (2, _), (4, _), (5, _)]) hX dX12_layShared_99 (by decide) rfl ?_
  refine v_iload hX dX12_layShared_101 0 rfl ?_
  refine v_if_eq (tgt := 127) hX dX12_layShared_103 (by decide) (fun c1 => ?_) (fun c1 => ?_)
  · have h := h_T c1 h
    refine v_iload hX dX12_layShared_127 4 rfl ?_
    refine v_iload hX dX12_layShared_129 5 rfl ?_
    refine v_icmp_le (tgt := 139) hX dX12_layShared_131 (by decide) (fun c2 => ?_) (fun c2 => ?_)
    · have h := h_T c2 h
      refine v_iload hX dX12_layShared_139 5 rfl ?_
      refine v_pick [1, 2, 3] rfl ?_
      exact b_X12_layShared_141 hX hE hK5 hK14 _ h
    · have h := h_E c2 h
      refine v_iload hX dX12_layShared_134 4 rfl ?_
      refine v_goto (tgt := 141) hX dX12_layShared_136 (by decide) ?_
      refine v_pick [1, 2, 3] rfl ?_
      exact b_X12_layShared_141 hX hE hK5 hK14 _ h
  · have h := h_E c1 h
    refine v_iconst (v := 1) hX dX12_layShared_106 (by decide) ?_
    refine v_aload_n hX dX12_layShared_107 1 rfl rfl ?_
    obtain ⟨k3, h⟩ := h
    refine v_getR hX dX12_layShared_108 f_RX12_161 rfl k3 ?_
    refine v_sipush (v := 301) hX dX12_layShared_111 (by decide) ?_
    refine v_iload_n hX dX12_layShared_114 2 rfl rfl ?_
    refine v_iconst (v := 1) hX dX12_layShared_115 (by decide) ?_
    refine v_iadd hX dX12_layShared_116 ?_
    refine v_imul hX dX12_layShared_117 ?_
    refine v_iload_n hX dX12_layShared_118 3 rfl rfl ?_
    refine v_iadd hX dX12_layShared_119 ?_
    refine v_iconst (v := 1) hX dX12_layShared_120 (by decide) ?_
    refine v_iadd hX dX12_layShared_121 ?_
    obtain ⟨a4, e_a4, h⟩ := h
    refine v_nn1 e_a4 ?_
    obtain ⟨k5, h⟩ := h
    obtain ⟨i6, h⟩ := h
    refine v_iald hX dX12_layShared_122 k5 i6 ?_
    refine v_iadd hX dX12_layShared_123 ?_
    refine v_goto (tgt := 141) hX dX12_layShared_124 (by decide) ?_
    refine v_pick [1, 2, 3] rfl ?_
    exact b_X12_layShared_141 hX hE hK5 hK14 _ h
set_option maxRecDepth 100000 in
set_option maxHeartbeats 4000000 in
theorem b_X12_layShared_98 {X : h_X} (hX : h_ok X cX12_layShared 7 RX12 0 0) {Q : h_S → Prop} (hE : h_end X none (h_QV (x_Z X) Q)) {K5 : Nat → Int32 → h_S → Prop} (hK5 : ∀ (o0 : Nat) (x1 : Int32) (s : h_S), K5 o0 x1 s → h_V X 7 5 [(0, pR (some o0)), (1, pI x1)] [] s 0 0) {K14 : Nat → Int32 → Int32 → h_S → Prop} (hK14 : ∀ (o0 : Nat) (x1 : Int32) (x2 : Int32) (s : h_S), K14 o0 x1 x2 s → h_V X 7 14 [(0, pR (some o0)), (1, pI x1), (2, pI x2)] [] s 0 0) {o0 : Nat} {x1 : Int32} {x2 : Int32} {x4 : Int32} {x5 : Int32} (s : h_S) (h : w_X12_layShared_98 Q K5 K14 o0 x1 x2 x4 x5 s) : h_V X 7 98 [(0, pR (some o0)), (1, pI x1), (2, pI x2), (4, pI x4), (5, pI x5)] [] s 0 0 := by
  unfold w_X12_layShared_98 at h
  refine v_iconst (v := 0) hX dX12_layShared_98 (by decide) ?_
  refine v_pick [0, 1, 2, 3, 4] rfl ?_
  exact b_X12_layShared_99 hX hE hK5 hK14 _ h
set_option maxRecDepth 100000 in
set_option maxHeartbeats 4000000 in
theorem b_X12_layShared_14 {X : h_X} (hX : h_ok X cX12_layShared 7 RX12 0 0) {Q : h_S → Prop} (hE : h_end X none (h_QV (x_Z X) Q)) {K5 : Nat → Int32 → h_S → Prop} (hK5 : ∀ (o0 : Nat) (x1 : Int32) (s : h_S), K5 o0 x1 s → h_V X 7 5 [(0, pR (some o0)), (1, pI x1)] [] s 0 0) : ∀ (n : Nat) (o0 : Nat) (x1 : Int32) (x2 : Int32) (s : h_S), w_X12_layShared_14 Q K5 n o0 x1 x2 s → h_V X 7 14 [(0, pR (some o0)), (1, pI x1), (2, pI x2)] [] s 0 0 := by
  intro n
  induction n with
  | zero => intro _ _ _ s h; exact h.elim
  | succ n hK14 =>
    intro o0 x1 x2 s h
    have h : w_X12_layShared_14b Q K5 (w_X12_layShared_14 Q K5 n) o0 x1 x2 s := h
    unfold w_X12_layShared_14b at h
    refine v_iload_n hX dX12_layShared_14 2 rfl rfl ?_
    refine v_if_lt (tgt := 161) hX dX12_layShared_15 (by decide) (fun c1 => ?_) (fun c1 => ?_)
    · have h := h_T c1 h
      refine v_iinc (c := -1) (lv' := [(1, _), (0, _), (2, _)]) hX dX12_layShared_161 1 rfl (by decide) (by decide) rfl ?_
      refine v_goto (tgt := 5) hX dX12_layShared_164 (by decide) ?_
      refine v_pick [1, 0] rfl ?_
      exact hK5 _ _ _ h
    · have h := h_E c1 h
      refine v_iconst (v := 0) hX dX12_layShared_18 (by decide) ?_
      refine v_istore_n (lv' := [(3, _), (0, _), (1, _), (2, _)]) hX dX12_layShared_19 rfl (by decide) rfl ?_
      refine v_iload_n hX dX12_layShared_20 2 rfl rfl ?_
      refine v_aload_n hX dX12_layShared_21 1 rfl rfl ?_
      obtain ⟨k2, h⟩ := h
      refine v_getI hX dX12_layShared_22 f_RX12_464 rfl k2 ?_
      refine v_icmp_ge (tgt := 142) hX dX12_layShared_25 (by decide) (fun c3 => ?_) (fun c3 => ?_)
      · have h := h_T c3 h
        refine v_pick [1, 2, 3, 0] rfl ?_
        exact b_X12_layShared_142 hX hE hK5 hK14 _ h
      · have h := h_E c3 h
        refine v_iload_n hX dX12_layShared_28 3 rfl rfl ?_
        refine v_aload_n hX dX12_layShared_29 1 rfl rfl ?_
        refine v_getI hX dX12_layShared_30 f_RX12_467 rfl k2 ?_
        refine v_icmp_ge (tgt := 142) hX dX12_layShared_33 (by decide) (fun c4 => ?_) (fun c4 => ?_)
        · have h := h_T c4 h
          refine v_pick [1, 2, 3, 0] rfl ?_
          exact b_X12_layShared_142 hX hE hK5 hK14 _ h
        · have h := h_E c4 h
          refine v_aload_n hX dX12_layShared_36 1 rfl rfl ?_
          refine v_getR hX dX12_layShared_37 f_RX12_161 rfl k2 ?_
          refine v_sipush (v := 301) hX dX12_layShared_40 (by decide) ?_
          refine v_iload_n hX dX12_layShared_43 2 rfl rfl ?_
          refine v_iconst (v := 1) hX dX12_layShared_44 (by decide) ?_
          refine v_iadd hX dX12_layShared_45 ?_
          refine v_imul hX dX12_layShared_46 ?_
          refine v_iload_n hX dX12_layShared_47 3 rfl rfl ?_
          refine v_iadd hX dX12_layShared_48 ?_
          obtain ⟨a5, e_a5, h⟩ := h
          refine v_nn1 e_a5 ?_
          obtain ⟨k6, h⟩ := h
          obtain ⟨i7, h⟩ := h
          refine v_iald hX dX12_layShared_49 k6 i7 ?_
          refine v_istore (lv' := [(4, _), (3, _), (0, _), (1, _), (2, _)]) hX dX12_layShared_50 (by decide) rfl ?_
          refine v_aload_n hX dX12_layShared_52 2 rfl rfl ?_
          refine v_getR hX dX12_layShared_53 f_RX12_161 rfl k2 ?_
          refine v_sipush (v := 301) hX dX12_layShared_56 (by decide) ?_
          refine v_iload_n hX dX12_layShared_59 3 rfl rfl ?_
          refine v_imul hX dX12_layShared_60 ?_
          refine v_iload_n hX dX12_layShared_61 4 rfl rfl ?_
          refine v_iadd hX dX12_layShared_62 ?_
          refine v_iconst (v := 1) hX dX12_layShared_63 (by decide) ?_
          refine v_iadd hX dX12_layShared_64 ?_
          obtain ⟨a9, e_a9, h⟩ := h
          refine v_nn1 e_a9 ?_
          obtain ⟨k10, h⟩ := h
          obtain ⟨i11, h⟩ := h
          refine v_iald hX dX12_layShared_65 k10 i11 ?_
          refine v_istore (lv' := [(5, _), (4, _), (3, _), (0, _), (1, _), (2, _)]) hX dX12_layShared_66 (by decide) rfl ?_
          refine v_aload_n hX dX12_layShared_68 3 rfl rfl ?_
          refine v_getR hX dX12_layShared_69 f_RX12_154 rfl k2 ?_
          refine v_iload_n hX dX12_layShared_72 4 rfl rfl ?_
          obtain ⟨a13, e_a13, h⟩ := h
          refine v_nn1 e_a13 ?_
          obtain ⟨k14, h⟩ := h
          obtain ⟨i15, h⟩ := h
          refine v_iald hX dX12_layShared_73 k14 i15 ?_
          refine v_aload_n hX dX12_layShared_74 3 rfl rfl ?_
          refine v_getR hX dX12_layShared_75 f_RX12_157 rfl k2 ?_
          refine v_iload_n hX dX12_layShared_78 5 rfl rfl ?_
          obtain ⟨a16, e_a16, h⟩ := h
          refine v_nn1 e_a16 ?_
          obtain ⟨k17, h⟩ := h
          obtain ⟨i18, h⟩ := h
          refine v_iald hX dX12_layShared_79 k17 i18 ?_
          refine v_icmp_ne (tgt := 98) hX dX12_layShared_80 (by decide) (fun c19 => ?_) (fun c19 => ?_)
          · have h := h_E c19 h
            refine v_pick [3, 4, 5, 1, 0] rfl ?_
            exact b_X12_layShared_98 hX hE hK5 hK14 _ h
          · have h := h_T c19 h
            refine v_aload_n hX dX12_layShared_83 3 rfl rfl ?_
            refine v_getR hX dX12_layShared_84 f_RX12_154 rfl k2 ?_
            refine v_iload_n hX dX12_layShared_87 4 rfl rfl ?_
            obtain ⟨a20, e_a20, h⟩ := h
            refine v_nn1 e_a20 ?_
            obtain ⟨k21, h⟩ := h
            obtain ⟨i22, h⟩ := h
            refine v_iald hX dX12_layShared_88 k21 i22 ?_
            refine v_bipush (v := -7) hX dX12_layShared_89 (by decide) ?_
            refine v_icmp_eq (tgt := 98) hX dX12_layShared_91 (by decide) (fun c23 => ?_) (fun c23 => ?_)
            · have h := h_T c23 h
              refine v_pick [3, 4, 5, 1, 0] rfl ?_
              exact b_X12_layShared_98 hX hE hK5 hK14 _ h
            · have h := h_E c23 h
              refine v_iconst (v := 1) hX dX12_layShared_94 (by decide) ?_
              refine v_goto (tgt := 99) hX dX12_layShared_95 (by decide) ?_
              refine v_pick [3, 4, 5, 1, 0] rfl ?_
              exact b_X12_layShared_99 hX hE hK5 hK14 _ h
set_option maxRecDepth 100000 in
set_option maxHeartbeats 4000000 in
theorem b_X12_layShared_5 {X : h_X} (hX : h_ok X cX12_layShared 7 RX12 0 0) {Q : h_S → Prop} (hE : h_end X none (h_QV (x_Z X) Q)) : ∀ (n : Nat) (o0 : Nat) (x1 : Int32) (s : h_S), w_X12_layShared_5 Q n o0 x1 s → h_V X 7 5 [(0, pR (some o0)), (1, pI x1)] [] s 0 0 := by
  intro n
  induction n with
  | zero => intro _ _ s h; exact h.elim
  | succ n hK5 =>
    intro o0 x1 s h
    have h : w_X12_layShared_5b Q (w_X12_layShared_5 Q n) o0 x1 s := h
    unfold w_X12_layShared_5b at h
    refine v_iload_n hX dX12_layShared_5 1 rfl rfl ?_
    refine v_if_lt (tgt := 167) hX dX12_layShared_6 (by decide) (fun c1 => ?_) (fun c1 => ?_)
    · have h := h_T c1 h
      exact v_vret hX hE dX12_layShared_167 h
    · have h := h_E c1 h
      refine v_aload_n hX dX12_layShared_9 0 rfl rfl ?_
      obtain ⟨k2, h⟩ := h
      refine v_getI hX dX12_layShared_10 f_RX12_467 rfl k2 ?_
      refine v_istore_n (lv' := [(2, _), (0, _), (1, _)]) hX dX12_layShared_13 rfl (by decide) rfl ?_
      refine v_pick [1, 2, 0] rfl ?_
      obtain ⟨n, h⟩ := h
      exact b_X12_layShared_14 hX hE hK5 n _ _ _ _ h
set_option maxRecDepth 100000 in
set_option maxHeartbeats 4000000 in
theorem m_X12_layShared {Z : h_Z} {o0 : Nat} {s : h_S} {Q : h_S → Prop} (h : w_X12_layShared o0 s Q) : h_M Z yX12_layShared cX12_layShared 7 none 0 0 [pR (some o0)] s 0 0 (h_QV Z Q) := by
  refine h_M.of (by decide) (Nat.le_of_ble_eq_true rfl) (fun X hZ hX hE hI => ?_)
  subst hZ
  unfold w_X12_layShared at h
  show h_V X 7 0 [(0, pR (some o0))] [] s 0 0
  refine v_aload_n hX dX12_layShared_0 0 rfl rfl ?_
  obtain ⟨k1, h⟩ := h
  refine v_getI hX dX12_layShared_1 f_RX12_464 rfl k1 ?_
  refine v_istore_n (lv' := [(1, _), (0, _)]) hX dX12_layShared_4 rfl (by decide) rfl ?_
  refine v_pick [1, 0] rfl ?_
  obtain ⟨n, h⟩ := h
  exact b_X12_layShared_5 hX hE n _ _ _ h
set_option maxRecDepth 100000 in
set_option maxHeartbeats 4000000 in
theorem b_X12_inCommon_60 {X : h_X} (hX : h_ok X cX12_inCommon 3 RX12 0 0) {Q : Int32 → h_S → Prop} (hE : h_end X (some .int) (h_QI (x_Z X) Q)) {K26 : Nat → Int32 → Int32 → h_S → Prop} (hK26 : ∀ (o0 : Nat) (x1 : Int32) (x2 : Int32) (s : h_S), K26 o0 x1 x2 s → h_V X 3 26 [(0, pR (some o0)), (1, pI x1), (2, pI x2)] [] s 0 0) {o0 : Nat} {x1 : Int32} {x2 : Int32} (s : h_S) (h : w_X12_inCommon_60 Q K26 o0 x1 x2 s) : h_V X 3 60 [(0, pR (some o0)), (1, pI x1), (2, pI x2)] [] s 0 0 := by
  unfold w_X12_inCommon_60 at h
  refine v_iinc (c := 1) (lv' := [(2, _), (0, _), (1, _)]) hX dX12_inCommon_60 2 rfl (by decide) (by decide) rfl ?_
  refine v_goto (tgt := 26) hX dX12_inCommon_63 (by decide) ?_
  refine v_pick [1, 2, 0] rfl ?_
  exact hK26 _ _ _ _ h
set_option maxRecDepth 100000 in
set_option maxHeartbeats 4000000 in
theorem b_X12_inCommon_119 {X : h_X} (hX : h_ok X cX12_inCommon 3 RX12 0 0) {Q : Int32 → h_S → Prop} (hE : h_end X (some .int) (h_QI (x_Z X) Q)) {K68 : Nat → Int32 → Int32 → h_S → Prop} (hK68 : ∀ (o0 : Nat) (x1 : Int32) (x2 : Int32) (s : h_S), K68 o0 x1 x2 s → h_V X 3 68 [(0, pR (some o0)), (1, pI x1), (2, pI x2)] [] s 0 0) {o0 : Nat} {x1 : Int32} {x2 : Int32} (s : h_S) (h : w_X12_inCommon_119 Q K68 o0 x1 x2 s) : h_V X 3 119 [(0, pR (some o0)), (1, pI x1), (2, pI x2)] [] s 0 0 := by
  unfold w_X12_inCommon_119 at h
  refine v_iinc (c := 1) (lv' := [(2, _), (0, _), (1, _)]) hX dX12_inCommon_119 2 rfl (by decide) (by decide) rfl ?_
  refine v_goto (tgt := 68) hX dX12_inCommon_122 (by decide) ?_
  refine v_pick [1, 2, 0] rfl ?_
  exact hK68 _ _ _ _ h
set_option maxRecDepth 100000 in
set_option maxHeartbeats 4000000 in
theorem b_X12_inCommon_68 {X : h_X} (hX : h_ok X cX12_inCommon 3 RX12 0 0) {Q : Int32 → h_S → Prop} (hE : h_end X (some .int) (h_QI (x_Z X) Q)) : ∀ (n : Nat) (o0 : Nat) (x1 : Int32) (x2 : Int32) (s : h_S), w_X12_inCommon_68 Q n o0 x1 x2 s → h_V X 3 68 [(0, pR (some o0)), (1, pI x1), (2, pI x2)] [] s 0 0 := by
  intro n
  induction n with
  | zero => intro _ _ _ s h; exact h.elim
  | succ n hK68 =>
    intro o0 x1 x2 s h
    have h : w_X12_inCommon_68b Q (w_X12_inCommon_68 Q n) o0 x1 x2 s := h
    unfold w_X12_inCommon_68b at h
    refine v_iload_n hX dX12_inCommon_68 2 rfl rfl ?_
    refine v_aload_n hX dX12_inCommon_69 0 rfl rfl ?_
    obtain ⟨k1, h⟩ := h
    refine v_getI hX dX12_inCommon_70 f_RX12_467 rfl k1 ?_
    refine v_icmp_ge (tgt := 125) hX dX12_inCommon_73 (by decide) (fun c2 => ?_) (fun c2 => ?_)
    · have h := h_T c2 h
      refine v_iload_n hX dX12_inCommon_125 1 rfl rfl ?_
      exact v_iret hX hE dX12_inCommon_126 h
    · have h := h_E c2 h
      refine v_aload_n hX dX12_inCommon_76 0 rfl rfl ?_
      refine v_getR hX dX12_inCommon_77 f_RX12_157 rfl k1 ?_
      refine v_iload_n hX dX12_inCommon_80 2 rfl rfl ?_
      obtain ⟨a3, e_a3, h⟩ := h
      refine v_nn1 e_a3 ?_
      obtain ⟨k4, h⟩ := h
      obtain ⟨i5, h⟩ := h
      refine v_iald hX dX12_inCommon_81 k4 i5 ?_
      refine v_bipush (v := -7) hX dX12_inCommon_82 (by decide) ?_
      refine v_icmp_eq (tgt := 119) hX dX12_inCommon_84 (by decide) (fun c6 => ?_) (fun c6 => ?_)
      · have h := h_T c6 h
        refine v_pick [0, 1, 2] rfl ?_
        exact b_X12_inCommon_119 hX hE hK68 _ h
      · have h := h_E c6 h
        refine v_aload_n hX dX12_inCommon_87 0 rfl rfl ?_
        refine v_getR hX dX12_inCommon_88 f_RX12_164 rfl k1 ?_
        refine v_aload_n hX dX12_inCommon_91 0 rfl rfl ?_
        refine v_getR hX dX12_inCommon_92 f_RX12_157 rfl k1 ?_
        refine v_iload_n hX dX12_inCommon_95 2 rfl rfl ?_
        obtain ⟨a7, e_a7, h⟩ := h
        refine v_nn1 e_a7 ?_
        obtain ⟨k8, h⟩ := h
        obtain ⟨i9, h⟩ := h
        refine v_iald hX dX12_inCommon_96 k8 i9 ?_
        obtain ⟨a10, e_a10, h⟩ := h
        refine v_nn1 e_a10 ?_
        obtain ⟨k11, h⟩ := h
        obtain ⟨i12, h⟩ := h
        refine v_iald hX dX12_inCommon_97 k11 i12 ?_
        refine v_if_le (tgt := 119) hX dX12_inCommon_98 (by decide) (fun c13 => ?_) (fun c13 => ?_)
        · have h := h_T c13 h
          refine v_pick [0, 1, 2] rfl ?_
          exact b_X12_inCommon_119 hX hE hK68 _ h
        · have h := h_E c13 h
          refine v_aload_n hX dX12_inCommon_101 0 rfl rfl ?_
          refine v_getR hX dX12_inCommon_102 f_RX12_164 rfl k1 ?_
          refine v_aload_n hX dX12_inCommon_105 0 rfl rfl ?_
          refine v_getR hX dX12_inCommon_106 f_RX12_157 rfl k1 ?_
          refine v_iload_n hX dX12_inCommon_109 2 rfl rfl ?_
          obtain ⟨a14, e_a14, h⟩ := h
          refine v_nn1 e_a14 ?_
          obtain ⟨k15, h⟩ := h
          obtain ⟨i16, h⟩ := h
          refine v_iald hX dX12_inCommon_110 k15 i16 ?_
          refine v_dup2 hX dX12_inCommon_111 rfl rfl ?_
          obtain ⟨a17, e_a17, h⟩ := h
          refine v_nn1 e_a17 ?_
          obtain ⟨k18, h⟩ := h
          obtain ⟨i19, h⟩ := h
          refine v_iald hX dX12_inCommon_112 k18 i19 ?_
          refine v_iconst (v := 1) hX dX12_inCommon_113 (by decide) ?_
          refine v_isub hX dX12_inCommon_114 ?_
          obtain ⟨a20, e_a20, h⟩ := h
          refine v_nn2 e_a20 ?_
          obtain ⟨k21, h⟩ := h
          obtain ⟨i22, h⟩ := h
          refine v_iast hX dX12_inCommon_115 k21 i22 ?_
          refine v_iinc (c := 1) (lv' := [(1, _), (0, _), (2, _)]) hX dX12_inCommon_116 1 rfl (by decide) (by decide) rfl ?_
          refine v_pick [1, 0, 2] rfl ?_
          exact b_X12_inCommon_119 hX hE hK68 _ h
set_option maxRecDepth 100000 in
set_option maxHeartbeats 4000000 in
theorem b_X12_inCommon_26 {X : h_X} (hX : h_ok X cX12_inCommon 3 RX12 0 0) {Q : Int32 → h_S → Prop} (hE : h_end X (some .int) (h_QI (x_Z X) Q)) : ∀ (n : Nat) (o0 : Nat) (x1 : Int32) (x2 : Int32) (s : h_S), w_X12_inCommon_26 Q n o0 x1 x2 s → h_V X 3 26 [(0, pR (some o0)), (1, pI x1), (2, pI x2)] [] s 0 0 := by
  intro n
  induction n with
  | zero => intro _ _ _ s h; exact h.elim
  | succ n hK26 =>
    intro o0 x1 x2 s h
    have h : w_X12_inCommon_26b Q (w_X12_inCommon_26 Q n) o0 x1 x2 s := h
    unfold w_X12_inCommon_26b at h
    refine v_iload_n hX dX12_inCommon_26 2 rfl rfl ?_
    refine v_aload_n hX dX12_inCommon_27 0 rfl rfl ?_
    obtain ⟨k1, h⟩ := h
    refine v_getI hX dX12_inCommon_28 f_RX12_464 rfl k1 ?_
    refine v_icmp_ge (tgt := 66) hX dX12_inCommon_31 (by decide) (fun c2 => ?_) (fun c2 => ?_)
    · have h := h_T c2 h
      refine v_iconst (v := 0) hX dX12_inCommon_66 (by decide) ?_
      refine v_istore_n (lv' := [(2, _), (0, _), (1, _)]) hX dX12_inCommon_67 rfl (by decide) rfl ?_
      refine v_pick [1, 2, 0] rfl ?_
      obtain ⟨n, h⟩ := h
      exact b_X12_inCommon_68 hX hE n _ _ _ _ h
    · have h := h_E c2 h
      refine v_aload_n hX dX12_inCommon_34 0 rfl rfl ?_
      refine v_getR hX dX12_inCommon_35 f_RX12_154 rfl k1 ?_
      refine v_iload_n hX dX12_inCommon_38 2 rfl rfl ?_
      obtain ⟨a3, e_a3, h⟩ := h
      refine v_nn1 e_a3 ?_
      obtain ⟨k4, h⟩ := h
      obtain ⟨i5, h⟩ := h
      refine v_iald hX dX12_inCommon_39 k4 i5 ?_
      refine v_bipush (v := -7) hX dX12_inCommon_40 (by decide) ?_
      refine v_icmp_eq (tgt := 60) hX dX12_inCommon_42 (by decide) (fun c6 => ?_) (fun c6 => ?_)
      · have h := h_T c6 h
        refine v_pick [0, 1, 2] rfl ?_
        exact b_X12_inCommon_60 hX hE hK26 _ h
      · have h := h_E c6 h
        refine v_aload_n hX dX12_inCommon_45 0 rfl rfl ?_
        refine v_getR hX dX12_inCommon_46 f_RX12_164 rfl k1 ?_
        refine v_aload_n hX dX12_inCommon_49 0 rfl rfl ?_
        refine v_getR hX dX12_inCommon_50 f_RX12_154 rfl k1 ?_
        refine v_iload_n hX dX12_inCommon_53 2 rfl rfl ?_
        obtain ⟨a7, e_a7, h⟩ := h
        refine v_nn1 e_a7 ?_
        obtain ⟨k8, h⟩ := h
        obtain ⟨i9, h⟩ := h
        refine v_iald hX dX12_inCommon_54 k8 i9 ?_
        refine v_dup2 hX dX12_inCommon_55 rfl rfl ?_
        obtain ⟨a10, e_a10, h⟩ := h
        refine v_nn1 e_a10 ?_
        obtain ⟨k11, h⟩ := h
        obtain ⟨i12, h⟩ := h
        refine v_iald hX dX12_inCommon_56 k11 i12 ?_
        refine v_iconst (v := 1) hX dX12_inCommon_57 (by decide) ?_
        refine v_iadd hX dX12_inCommon_58 ?_
        obtain ⟨a13, e_a13, h⟩ := h
        refine v_nn2 e_a13 ?_
        obtain ⟨k14, h⟩ := h
        obtain ⟨i15, h⟩ := h
        refine v_iast hX dX12_inCommon_59 k14 i15 ?_
        refine v_pick [0, 1, 2] rfl ?_
        exact b_X12_inCommon_60 hX hE hK26 _ h
set_option maxRecDepth 100000 in
set_option maxHeartbeats 4000000 in
theorem b_X12_inCommon_4 {X : h_X} (hX : h_ok X cX12_inCommon 3 RX12 0 0) {Q : Int32 → h_S → Prop} (hE : h_end X (some .int) (h_QI (x_Z X) Q)) : ∀ (n : Nat) (o0 : Nat) (x1 : Int32) (x2 : Int32) (s : h_S), w_X12_inCommon_4 Q n o0 x1 x2 s → h_V X 3 4 [(0, pR (some o0)), (1, pI x1), (2, pI x2)] [] s 0 0 := by
  intro n
  induction n with
  | zero => intro _ _ _ s h; exact h.elim
  | succ n hK4 =>
    intro o0 x1 x2 s h
    have h : w_X12_inCommon_4b Q (w_X12_inCommon_4 Q n) o0 x1 x2 s := h
    unfold w_X12_inCommon_4b at h
    refine v_iload_n hX dX12_inCommon_4 2 rfl rfl ?_
    refine v_sipush (v := 500) hX dX12_inCommon_5 (by decide) ?_
    refine v_icmp_ge (tgt := 24) hX dX12_inCommon_8 (by decide) (fun c1 => ?_) (fun c1 => ?_)
    · have h := h_T c1 h
      refine v_iconst (v := 0) hX dX12_inCommon_24 (by decide) ?_
      refine v_istore_n (lv' := [(2, _), (0, _), (1, _)]) hX dX12_inCommon_25 rfl (by decide) rfl ?_
      refine v_pick [1, 2, 0] rfl ?_
      obtain ⟨n, h⟩ := h
      exact b_X12_inCommon_26 hX hE n _ _ _ _ h
    · have h := h_E c1 h
      refine v_aload_n hX dX12_inCommon_11 0 rfl rfl ?_
      obtain ⟨k2, h⟩ := h
      refine v_getR hX dX12_inCommon_12 f_RX12_164 rfl k2 ?_
      refine v_iload_n hX dX12_inCommon_15 2 rfl rfl ?_
      refine v_iconst (v := 0) hX dX12_inCommon_16 (by decide) ?_
      obtain ⟨a3, e_a3, h⟩ := h
      refine v_nn2 e_a3 ?_
      obtain ⟨k4, h⟩ := h
      obtain ⟨i5, h⟩ := h
      refine v_iast hX dX12_inCommon_17 k4 i5 ?_
      refine v_iinc (c := 1) (lv' := [(2, _), (0, _), (1, _)]) hX dX12_inCommon_18 2 rfl (by decide) (by decide) rfl ?_
      refine v_goto (tgt := 4) hX dX12_inCommon_21 (by decide) ?_
      refine v_pick [1, 2, 0] rfl ?_
      exact hK4 _ _ _ _ h
set_option maxRecDepth 100000 in
set_option maxHeartbeats 4000000 in
theorem m_X12_inCommon {Z : h_Z} {o0 : Nat} {s : h_S} {Q : Int32 → h_S → Prop} (h : w_X12_inCommon o0 s Q) : h_M Z yX12_inCommon cX12_inCommon 3 (some .int) 0 0 [pR (some o0)] s 0 0 (h_QI Z Q) := by
  refine h_M.of (by decide) (Nat.le_of_ble_eq_true rfl) (fun X hZ hX hE hI => ?_)
  subst hZ
  unfold w_X12_inCommon at h
  show h_V X 3 0 [(0, pR (some o0))] [] s 0 0
  refine v_iconst (v := 0) hX dX12_inCommon_0 (by decide) ?_
  refine v_istore_n (lv' := [(1, _), (0, _)]) hX dX12_inCommon_1 rfl (by decide) rfl ?_
  refine v_iconst (v := 0) hX dX12_inCommon_2 (by decide) ?_
  refine v_istore_n (lv' := [(2, _), (1, _), (0, _)]) hX dX12_inCommon_3 rfl (by decide) rfl ?_
  refine v_pick [2, 1, 0] rfl ?_
  obtain ⟨n, h⟩ := h
  exact b_X12_inCommon_4 hX hE n _ _ _ _ h
set_option maxRecDepth 100000 in
set_option maxHeartbeats 4000000 in
theorem b_X12_compare_16 {X : h_X} (hX : h_ok X cX12_compare 5 RX12 6 141) {Q : Int32 → h_S → Prop} (hE : h_end X (some .int) (h_QI (x_Z X) Q)) (s : h_S) (h : w_X12_compare_16 Q s) : h_V X 5 16 [] [] s 0 0 := by
  unfold w_X12_compare_16 at h
  refine v_iconst (v := -1) hX dX12_compare_16 (by decide) ?_
  exact v_iret hX hE dX12_compare_17 h
set_option maxRecDepth 100000 in
set_option maxHeartbeats 4000000 in
theorem b_X12_compare_103 {X : h_X} (hX : h_ok X cX12_compare 5 RX12 6 141) {Q : Int32 → h_S → Prop} (hE : h_end X (some .int) (h_QI (x_Z X) Q)) {y0 : Int32} (s : h_S) (h : w_X12_compare_103 Q y0 s) : h_V X 5 103 [] [pI y0] s 0 0 := by
  unfold w_X12_compare_103 at h
  exact v_iret hX hE dX12_compare_103 h
set_option maxRecDepth 100000 in
set_option maxHeartbeats 4000000 in
theorem m_X12_compare {Z : h_Z} {o0 : Nat} {x1 : Int32} {x2 : Int32} {x3 : Int32} {s : h_S} {Q : Int32 → h_S → Prop} (h : w_X12_compare o0 x1 x2 x3 s Q) : h_M Z yX12_compare cX12_compare 5 (some .int) 6 141 [pR (some o0), pI x1, pI x2, pI x3] s 0 0 (h_QI Z Q) := by
  refine h_M.of (by decide) (Nat.le_of_ble_eq_true rfl) (fun X hZ hX hE hI => ?_)
  subst hZ
  unfold w_X12_compare at h
  show h_V X 5 0 [(0, pR (some o0)), (1, pI x1), (2, pI x2), (3, pI x3)] [] s 0 0
  refine v_aload_n hX dX12_compare_0 0 rfl rfl ?_
  refine v_iload_n hX dX12_compare_1 1 rfl rfl ?_
  obtain ⟨k1, h⟩ := h
  refine v_callVi0 hX dX12_compare_2 c_RX12_458 cV_X12_noVersion (ci := 13) (T := TX12) (N := 115) rfl (by exact k1) [pI _] rfl rfl (Nat.le_of_ble_eq_true rfl) (by decide) (by decide)  (m_X12_noVersion h) (fun p3 s2 h => ?_)
  refine v_if_ne (tgt := 16) hX dX12_compare_5 (by decide) (fun c4 => ?_) (fun c4 => ?_)
  · have h := h_E c4 h
    refine v_pick [] rfl ?_
    exact b_X12_compare_16 hX hE _ h
  · have h := h_T c4 h
    refine v_aload_n hX dX12_compare_8 0 rfl rfl ?_
    refine v_iload_n hX dX12_compare_9 2 rfl rfl ?_
    obtain ⟨k5, h⟩ := h
    refine v_callVi0 hX dX12_compare_10 c_RX12_458 cV_X12_noVersion (ci := 13) (T := TX12) (N := 115) rfl (by exact k5) [pI _] rfl rfl (Nat.le_of_ble_eq_true rfl) (by decide) (by decide)  (m_X12_noVersion h) (fun p7 s6 h => ?_)
    refine v_if_eq (tgt := 18) hX dX12_compare_13 (by decide) (fun c8 => ?_) (fun c8 => ?_)
    · have h := h_T c8 h
      refine v_iload_n hX dX12_compare_18 3 rfl rfl ?_
      refine v_i2l hX dX12_compare_19 ?_
      refine v_lconst (v := 0) hX dX12_compare_20 (by decide) ?_
      refine v_ldc2 hX dX12_compare_21 k_RX12_309 ?_
      refine v_callSi0 hX dX12_compare_24 c_RX12_298 cS_X12_in [pL _, pL _, pL _] rfl rfl (Nat.le_of_ble_eq_true rfl) (by decide) (by decide)  (m_X12_in h) (fun p10 s9 h => ?_)
      refine v_if_ne (tgt := 33) hX dX12_compare_27 (by decide) (fun c11 => ?_) (fun c11 => ?_)
      · have h := h_E c11 h
        refine v_aload_n hX dX12_compare_33 0 rfl rfl ?_
        refine v_iload_n hX dX12_compare_34 1 rfl rfl ?_
        refine v_iconst (v := 1) hX dX12_compare_35 (by decide) ?_
        obtain ⟨k12, h⟩ := h
        refine v_callVv0 hX dX12_compare_36 c_RX12_470 cV_X12_takeOne (ci := 13) (T := TX12) (N := 115) rfl (by exact k12) [pI _, pI _] rfl rfl (Nat.le_of_ble_eq_true rfl) (by decide) (by decide)  (m_X12_takeOne h) (fun s13 h => ?_)
        refine v_aload_n hX dX12_compare_39 0 rfl rfl ?_
        refine v_iload_n hX dX12_compare_40 2 rfl rfl ?_
        refine v_iconst (v := 1) hX dX12_compare_41 (by decide) ?_
        obtain ⟨k15, h⟩ := h
        refine v_callVv0 hX dX12_compare_42 c_RX12_473 cV_X12_takeTwo (ci := 13) (T := TX12) (N := 115) rfl (by exact k15) [pI _, pI _] rfl rfl (Nat.le_of_ble_eq_true rfl) (by decide) (by decide)  (m_X12_takeTwo h) (fun s16 h => ?_)
        refine v_aload_n hX dX12_compare_45 0 rfl rfl ?_
        obtain ⟨k18, h⟩ := h
        refine v_callVv0 hX dX12_compare_46 c_RX12_476 cV_X12_layShared (ci := 13) (T := TX12) (N := 115) rfl (by exact k18) [] rfl rfl (Nat.le_of_ble_eq_true rfl) (by decide) (by decide)  (m_X12_layShared h) (fun s19 h => ?_)
        refine v_aload_n hX dX12_compare_49 0 rfl rfl ?_
        obtain ⟨k21, h⟩ := h
        refine v_getR hX dX12_compare_50 f_RX12_161 rfl k21 ?_
        refine v_iconst (v := 0) hX dX12_compare_53 (by decide) ?_
        obtain ⟨a22, e_a22, h⟩ := h
        refine v_nn1 e_a22 ?_
        obtain ⟨k23, h⟩ := h
        obtain ⟨i24, h⟩ := h
        refine v_iald hX dX12_compare_54 k23 i24 ?_
        refine v_istore (lv' := [(4, _), (0, _), (1, _), (2, _), (3, _)]) hX dX12_compare_55 (by decide) rfl ?_
        refine v_iload_n hX dX12_compare_57 4 rfl rfl ?_
        refine v_if_ne (tgt := 66) hX dX12_compare_58 (by decide) (fun c26 => ?_) (fun c26 => ?_)
        · have h := h_E c26 h
          refine v_iload_n hX dX12_compare_66 4 rfl rfl ?_
          refine v_iconst (v := 1) hX dX12_compare_67 (by decide) ?_
          refine v_icmp_ne (tgt := 81) hX dX12_compare_68 (by decide) (fun c27 => ?_) (fun c27 => ?_)
          · have h := h_E c27 h
            refine v_iload_n hX dX12_compare_81 4 rfl rfl ?_
            refine v_iconst (v := 2) hX dX12_compare_82 (by decide) ?_
            refine v_icmp_ne (tgt := 96) hX dX12_compare_83 (by decide) (fun c28 => ?_) (fun c28 => ?_)
            · have h := h_E c28 h
              refine v_aload_n hX dX12_compare_96 1 rfl rfl ?_
              refine v_callVi0 hX dX12_compare_97 c_RX12_479 cV_X12_inCommon (ci := 13) (T := TX12) (N := 115) rfl (by exact k21) [] rfl rfl (Nat.le_of_ble_eq_true rfl) (by decide) (by decide)  (m_X12_inCommon h) (fun p30 s29 h => ?_)
              refine v_iload hX dX12_compare_100 0 rfl ?_
              refine v_isub hX dX12_compare_102 ?_
              refine v_pick [] rfl ?_
              exact b_X12_compare_103 hX hE _ h
            · have h := h_T c28 h
              refine v_aload_n hX dX12_compare_86 1 rfl rfl ?_
              refine v_getI hX dX12_compare_87 f_RX12_467 rfl k21 ?_
              refine v_iload hX dX12_compare_90 0 rfl ?_
              refine v_isub hX dX12_compare_92 ?_
              refine v_goto (tgt := 103) hX dX12_compare_93 (by decide) ?_
              refine v_pick [] rfl ?_
              exact b_X12_compare_103 hX hE _ h
          · have h := h_T c27 h
            refine v_aload_n hX dX12_compare_71 1 rfl rfl ?_
            refine v_getI hX dX12_compare_72 f_RX12_464 rfl k21 ?_
            refine v_iload hX dX12_compare_75 0 rfl ?_
            refine v_isub hX dX12_compare_77 ?_
            refine v_goto (tgt := 103) hX dX12_compare_78 (by decide) ?_
            refine v_pick [] rfl ?_
            exact b_X12_compare_103 hX hE _ h
        · have h := h_T c26 h
          refine v_iload hX dX12_compare_61 0 rfl ?_
          refine v_goto (tgt := 103) hX dX12_compare_63 (by decide) ?_
          refine v_pick [] rfl ?_
          exact b_X12_compare_103 hX hE _ h
      · have h := h_T c11 h
        refine v_bipush (v := -2) hX dX12_compare_30 (by decide) ?_
        exact v_iret hX hE dX12_compare_32 h
    · have h := h_E c8 h
      refine v_pick [] rfl ?_
      exact b_X12_compare_16 hX hE _ h
set_option maxRecDepth 100000 in
set_option maxHeartbeats 4000000 in
theorem b_X12_layWay_174 {X : h_X} (hX : h_ok X cX12_layWay 7 RX12 6 141) {Q : h_S → Prop} (hE : h_end X none (h_QV (x_Z X) Q)) {K59 : Nat → Int32 → Int32 → Int32 → h_S → Prop} (hK59 : ∀ (o0 : Nat) (x1 : Int32) (x3 : Int32) (x4 : Int32) (s : h_S), K59 o0 x1 x3 x4 s → h_V X 7 59 [(0, pR (some o0)), (1, pI x1), (3, pI x3), (4, pI x4)] [] s 0 0) {K85 : Nat → Int32 → Int32 → Int32 → Int32 → h_S → Prop} (hK85 : ∀ (o0 : Nat) (x1 : Int32) (x3 : Int32) (x4 : Int32) (x5 : Int32) (s : h_S), K85 o0 x1 x3 x4 x5 s → h_V X 7 85 [(0, pR (some o0)), (1, pI x1), (3, pI x3), (4, pI x4), (5, pI x5)] [] s 0 0) {o0 : Nat} {x1 : Int32} {x4 : Int32} {x5 : Int32} {y0 : Int32} {y1 : Int32} (s : h_S) (h : w_X12_layWay_174 Q K59 K85 o0 x1 x4 x5 y0 y1 s) : h_V X 7 174 [(0, pR (some o0)), (1, pI x1), (4, pI x4), (5, pI x5)] [pI y0, pI y1] s 0 0 := by
  unfold w_X12_layWay_174 at h
  refine v_iadd hX dX12_layWay_174 ?_
  refine v_istore_n (lv' := [(3, _), (0, _), (1, _), (4, _), (5, _)]) hX dX12_layWay_175 rfl (by decide) rfl ?_
  refine v_goto (tgt := 85) hX dX12_layWay_176 (by decide) ?_
  refine v_pick [1, 2, 0, 3, 4] rfl ?_
  exact hK85 _ _ _ _ _ _ h
set_option maxRecDepth 100000 in
set_option maxHeartbeats 4000000 in
theorem b_X12_layWay_161 {X : h_X} (hX : h_ok X cX12_layWay 7 RX12 6 141) {Q : h_S → Prop} (hE : h_end X none (h_QV (x_Z X) Q)) {K59 : Nat → Int32 → Int32 → Int32 → h_S → Prop} (hK59 : ∀ (o0 : Nat) (x1 : Int32) (x3 : Int32) (x4 : Int32) (s : h_S), K59 o0 x1 x3 x4 s → h_V X 7 59 [(0, pR (some o0)), (1, pI x1), (3, pI x3), (4, pI x4)] [] s 0 0) {K85 : Nat → Int32 → Int32 → Int32 → Int32 → h_S → Prop} (hK85 : ∀ (o0 : Nat) (x1 : Int32) (x3 : Int32) (x4 : Int32) (x5 : Int32) (s : h_S), K85 o0 x1 x3 x4 x5 s → h_V X 7 85 [(0, pR (some o0)), (1, pI x1), (3, pI x3), (4, pI x4), (5, pI x5)] [] s 0 0) {o0 : Nat} {x1 : Int32} {x3 : Int32} {x4 : Int32} {y0 : Int32} (s : h_S) (h : w_X12_layWay_161 Q K59 K85 o0 x1 x3 x4 y0 s) : h_V X 7 161 [(0, pR (some o0)), (1, pI x1), (3, pI x3), (4, pI x4)] [pI y0] s 0 0 := by
  unfold w_X12_layWay_161 at h
  refine v_istore (lv' := [(5, _), (0, _), (1, _), (3, _), (4, _)]) hX dX12_layWay_161 (by decide) rfl ?_
  refine v_iload_n hX dX12_layWay_163 3 rfl rfl ?_
  refine v_iload hX dX12_layWay_164 0 rfl ?_
  refine v_if_eq (tgt := 173) hX dX12_layWay_166 (by decide) (fun c1 => ?_) (fun c1 => ?_)
  · have h := h_T c1 h
    refine v_iconst (v := 0) hX dX12_layWay_173 (by decide) ?_
    refine v_pick [1, 2, 4, 0] rfl ?_
    exact b_X12_layWay_174 hX hE hK59 hK85 _ h
  · have h := h_E c1 h
    refine v_iconst (v := 1) hX dX12_layWay_169 (by decide) ?_
    refine v_goto (tgt := 174) hX dX12_layWay_170 (by decide) ?_
    refine v_pick [1, 2, 4, 0] rfl ?_
    exact b_X12_layWay_174 hX hE hK59 hK85 _ h
set_option maxRecDepth 100000 in
set_option maxHeartbeats 4000000 in
theorem b_X12_layWay_156 {X : h_X} (hX : h_ok X cX12_layWay 7 RX12 6 141) {Q : h_S → Prop} (hE : h_end X none (h_QV (x_Z X) Q)) {K59 : Nat → Int32 → Int32 → Int32 → h_S → Prop} (hK59 : ∀ (o0 : Nat) (x1 : Int32) (x3 : Int32) (x4 : Int32) (s : h_S), K59 o0 x1 x3 x4 s → h_V X 7 59 [(0, pR (some o0)), (1, pI x1), (3, pI x3), (4, pI x4)] [] s 0 0) {K85 : Nat → Int32 → Int32 → Int32 → Int32 → h_S → Prop} (hK85 : ∀ (o0 : Nat) (x1 : Int32) (x3 : Int32) (x4 : Int32) (x5 : Int32) (s : h_S), K85 o0 x1 x3 x4 x5 s → h_V X 7 85 [(0, pR (some o0)), (1, pI x1), (3, pI x3), (4, pI x4), (5, pI x5)] [] s 0 0) {o0 : Nat} {x1 : Int32} {x3 : Int32} {x4 : Int32} (s : h_S) (h : w_X12_layWay_156 Q K59 K85 o0 x1 x3 x4 s) : h_V X 7 156 [(0, pR (some o0)), (1, pI x1), (3, pI x3), (4, pI x4)] [] s 0 0 := by
  unfold w_X12_layWay_156 at h
  refine v_iconst (v := 1) hX dX12_layWay_156 (by decide) ?_
  refine v_goto (tgt := 161) hX dX12_layWay_157 (by decide) ?_
  refine v_pick [0, 1, 2, 3] rfl ?_
  exact b_X12_layWay_161 hX hE hK59 hK85 _ h
set_option maxRecDepth 100000 in
set_option maxHeartbeats 4000000 in
theorem b_X12_layWay_160 {X : h_X} (hX : h_ok X cX12_layWay 7 RX12 6 141) {Q : h_S → Prop} (hE : h_end X none (h_QV (x_Z X) Q)) {K59 : Nat → Int32 → Int32 → Int32 → h_S → Prop} (hK59 : ∀ (o0 : Nat) (x1 : Int32) (x3 : Int32) (x4 : Int32) (s : h_S), K59 o0 x1 x3 x4 s → h_V X 7 59 [(0, pR (some o0)), (1, pI x1), (3, pI x3), (4, pI x4)] [] s 0 0) {K85 : Nat → Int32 → Int32 → Int32 → Int32 → h_S → Prop} (hK85 : ∀ (o0 : Nat) (x1 : Int32) (x3 : Int32) (x4 : Int32) (x5 : Int32) (s : h_S), K85 o0 x1 x3 x4 x5 s → h_V X 7 85 [(0, pR (some o0)), (1, pI x1), (3, pI x3), (4, pI x4), (5, pI x5)] [] s 0 0) {o0 : Nat} {x1 : Int32} {x3 : Int32} {x4 : Int32} (s : h_S) (h : w_X12_layWay_160 Q K59 K85 o0 x1 x3 x4 s) : h_V X 7 160 [(0, pR (some o0)), (1, pI x1), (3, pI x3), (4, pI x4)] [] s 0 0 := by
  unfold w_X12_layWay_160 at h
  refine v_iconst (v := 0) hX dX12_layWay_160 (by decide) ?_
  refine v_pick [0, 1, 2, 3] rfl ?_
  exact b_X12_layWay_161 hX hE hK59 hK85 _ h
set_option maxRecDepth 100000 in
set_option maxHeartbeats 4000000 in
theorem b_X12_layWay_267 {X : h_X} (hX : h_ok X cX12_layWay 7 RX12 6 141) {Q : h_S → Prop} (hE : h_end X none (h_QV (x_Z X) Q)) {K59 : Nat → Int32 → Int32 → Int32 → h_S → Prop} (hK59 : ∀ (o0 : Nat) (x1 : Int32) (x3 : Int32) (x4 : Int32) (s : h_S), K59 o0 x1 x3 x4 s → h_V X 7 59 [(0, pR (some o0)), (1, pI x1), (3, pI x3), (4, pI x4)] [] s 0 0) {o0 : Nat} {x1 : Int32} {x4 : Int32} {y0 : Int32} {y1 : Int32} (s : h_S) (h : w_X12_layWay_267 Q K59 o0 x1 x4 y0 y1 s) : h_V X 7 267 [(0, pR (some o0)), (1, pI x1), (4, pI x4)] [pI y0, pI y1] s 0 0 := by
  unfold w_X12_layWay_267 at h
  refine v_iadd hX dX12_layWay_267 ?_
  refine v_istore_n (lv' := [(3, _), (0, _), (1, _), (4, _)]) hX dX12_layWay_268 rfl (by decide) rfl ?_
  refine v_iinc (c := 1) (lv' := [(4, _), (3, _), (0, _), (1, _)]) hX dX12_layWay_269 3 rfl (by decide) (by decide) rfl ?_
  refine v_goto (tgt := 59) hX dX12_layWay_272 (by decide) ?_
  refine v_pick [2, 3, 1, 0] rfl ?_
  exact hK59 _ _ _ _ _ h
set_option maxRecDepth 100000 in
set_option maxHeartbeats 4000000 in
theorem b_X12_layWay_255 {X : h_X} (hX : h_ok X cX12_layWay 7 RX12 6 141) {Q : h_S → Prop} (hE : h_end X none (h_QV (x_Z X) Q)) {K59 : Nat → Int32 → Int32 → Int32 → h_S → Prop} (hK59 : ∀ (o0 : Nat) (x1 : Int32) (x3 : Int32) (x4 : Int32) (s : h_S), K59 o0 x1 x3 x4 s → h_V X 7 59 [(0, pR (some o0)), (1, pI x1), (3, pI x3), (4, pI x4)] [] s 0 0) {o0 : Nat} {x1 : Int32} {x3 : Int32} {x4 : Int32} {x6 : Int32} {y0 : Int32} {y1 : Int32} {t2 : Option Nat} (s : h_S) (h : w_X12_layWay_255 Q K59 o0 x1 x3 x4 x6 y0 y1 t2 s) : h_V X 7 255 [(0, pR (some o0)), (1, pI x1), (3, pI x3), (4, pI x4), (6, pI x6)] [pI y0, pI y1, pR t2] s 0 0 := by
  unfold w_X12_layWay_255 at h
  obtain ⟨a1, e_a1, h⟩ := h
  refine v_nn2 e_a1 ?_
  obtain ⟨k2, h⟩ := h
  obtain ⟨i3, h⟩ := h
  obtain ⟨b4, h⟩ := h
  refine v_zast hX dX12_layWay_255 k2 i3 b4 ?_
  refine v_iload_n hX dX12_layWay_256 2 rfl rfl ?_
  refine v_iload hX dX12_layWay_257 4 rfl ?_
  refine v_if_eq (tgt := 266) hX dX12_layWay_259 (by decide) (fun c6 => ?_) (fun c6 => ?_)
  · have h := h_T c6 h
    refine v_iconst (v := 0) hX dX12_layWay_266 (by decide) ?_
    refine v_pick [0, 1, 3] rfl ?_
    exact b_X12_layWay_267 hX hE hK59 _ h
  · have h := h_E c6 h
    refine v_iconst (v := 1) hX dX12_layWay_262 (by decide) ?_
    refine v_goto (tgt := 267) hX dX12_layWay_263 (by decide) ?_
    refine v_pick [0, 1, 3] rfl ?_
    exact b_X12_layWay_267 hX hE hK59 _ h
set_option maxRecDepth 100000 in
set_option maxHeartbeats 4000000 in
theorem b_X12_layWay_231 {X : h_X} (hX : h_ok X cX12_layWay 7 RX12 6 141) {Q : h_S → Prop} (hE : h_end X none (h_QV (x_Z X) Q)) {K59 : Nat → Int32 → Int32 → Int32 → h_S → Prop} (hK59 : ∀ (o0 : Nat) (x1 : Int32) (x3 : Int32) (x4 : Int32) (s : h_S), K59 o0 x1 x3 x4 s → h_V X 7 59 [(0, pR (some o0)), (1, pI x1), (3, pI x3), (4, pI x4)] [] s 0 0) {o0 : Nat} {x1 : Int32} {x3 : Int32} {x4 : Int32} {y0 : Int32} (s : h_S) (h : w_X12_layWay_231 Q K59 o0 x1 x3 x4 y0 s) : h_V X 7 231 [(0, pR (some o0)), (1, pI x1), (3, pI x3), (4, pI x4)] [pI y0] s 0 0 := by
  unfold w_X12_layWay_231 at h
  refine v_istore (lv' := [(6, _), (0, _), (1, _), (3, _), (4, _)]) hX dX12_layWay_231 (by decide) rfl ?_
  refine v_aload_n hX dX12_layWay_233 1 rfl rfl ?_
  obtain ⟨k1, h⟩ := h
  refine v_getR hX dX12_layWay_234 f_RX12_176 rfl k1 ?_
  refine v_sipush (v := 301) hX dX12_layWay_237 (by decide) ?_
  refine v_iload_n hX dX12_layWay_240 2 rfl rfl ?_
  refine v_imul hX dX12_layWay_241 ?_
  refine v_iload hX dX12_layWay_242 4 rfl ?_
  refine v_iadd hX dX12_layWay_244 ?_
  refine v_iload hX dX12_layWay_245 0 rfl ?_
  refine v_if_ne (tgt := 254) hX dX12_layWay_247 (by decide) (fun c2 => ?_) (fun c2 => ?_)
  · have h := h_E c2 h
    refine v_iconst (v := 0) hX dX12_layWay_254 (by decide) ?_
    refine v_pick [1, 2, 3, 4, 0] rfl ?_
    exact b_X12_layWay_255 hX hE hK59 _ h
  · have h := h_T c2 h
    refine v_iconst (v := 1) hX dX12_layWay_250 (by decide) ?_
    refine v_goto (tgt := 255) hX dX12_layWay_251 (by decide) ?_
    refine v_pick [1, 2, 3, 4, 0] rfl ?_
    exact b_X12_layWay_255 hX hE hK59 _ h
set_option maxRecDepth 100000 in
set_option maxHeartbeats 4000000 in
theorem b_X12_layWay_230 {X : h_X} (hX : h_ok X cX12_layWay 7 RX12 6 141) {Q : h_S → Prop} (hE : h_end X none (h_QV (x_Z X) Q)) {K59 : Nat → Int32 → Int32 → Int32 → h_S → Prop} (hK59 : ∀ (o0 : Nat) (x1 : Int32) (x3 : Int32) (x4 : Int32) (s : h_S), K59 o0 x1 x3 x4 s → h_V X 7 59 [(0, pR (some o0)), (1, pI x1), (3, pI x3), (4, pI x4)] [] s 0 0) {o0 : Nat} {x1 : Int32} {x3 : Int32} {x4 : Int32} (s : h_S) (h : w_X12_layWay_230 Q K59 o0 x1 x3 x4 s) : h_V X 7 230 [(0, pR (some o0)), (1, pI x1), (3, pI x3), (4, pI x4)] [] s 0 0 := by
  unfold w_X12_layWay_230 at h
  refine v_iconst (v := 0) hX dX12_layWay_230 (by decide) ?_
  refine v_pick [0, 1, 2, 3] rfl ?_
  exact b_X12_layWay_231 hX hE hK59 _ h
set_option maxRecDepth 100000 in
set_option maxHeartbeats 4000000 in
theorem b_X12_layWay_85 {X : h_X} (hX : h_ok X cX12_layWay 7 RX12 6 141) {Q : h_S → Prop} (hE : h_end X none (h_QV (x_Z X) Q)) {K59 : Nat → Int32 → Int32 → Int32 → h_S → Prop} (hK59 : ∀ (o0 : Nat) (x1 : Int32) (x3 : Int32) (x4 : Int32) (s : h_S), K59 o0 x1 x3 x4 s → h_V X 7 59 [(0, pR (some o0)), (1, pI x1), (3, pI x3), (4, pI x4)] [] s 0 0) : ∀ (n : Nat) (o0 : Nat) (x1 : Int32) (x3 : Int32) (x4 : Int32) (x5 : Int32) (s : h_S), w_X12_layWay_85 Q K59 n o0 x1 x3 x4 x5 s → h_V X 7 85 [(0, pR (some o0)), (1, pI x1), (3, pI x3), (4, pI x4), (5, pI x5)] [] s 0 0 := by
  intro n
  induction n with
  | zero => intro _ _ _ _ _ s h; exact h.elim
  | succ n hK85 =>
    intro o0 x1 x3 x4 x5 s h
    have h : w_X12_layWay_85b Q K59 (w_X12_layWay_85 Q K59 n) o0 x1 x3 x4 x5 s := h
    unfold w_X12_layWay_85b at h
    refine v_iload hX dX12_layWay_85 4 rfl ?_
    refine v_if_eq (tgt := 179) hX dX12_layWay_87 (by decide) (fun c1 => ?_) (fun c1 => ?_)
    · have h := h_T c1 h
      refine v_aload_n hX dX12_layWay_179 0 rfl rfl ?_
      obtain ⟨k2, h⟩ := h
      refine v_getR hX dX12_layWay_180 f_RX12_180 rfl k2 ?_
      refine v_sipush (v := 302) hX dX12_layWay_183 (by decide) ?_
      refine v_iload_n hX dX12_layWay_186 1 rfl rfl ?_
      refine v_imul hX dX12_layWay_187 ?_
      refine v_iload hX dX12_layWay_188 3 rfl ?_
      refine v_iadd hX dX12_layWay_190 ?_
      refine v_iload_n hX dX12_layWay_191 2 rfl rfl ?_
      obtain ⟨a3, e_a3, h⟩ := h
      refine v_nn2 e_a3 ?_
      obtain ⟨k4, h⟩ := h
      obtain ⟨i5, h⟩ := h
      refine v_iast hX dX12_layWay_192 k4 i5 ?_
      refine v_iload hX dX12_layWay_193 3 rfl ?_
      refine v_aload_n hX dX12_layWay_195 0 rfl rfl ?_
      refine v_getI hX dX12_layWay_196 f_RX12_464 rfl k2 ?_
      refine v_icmp_ge (tgt := 230) hX dX12_layWay_199 (by decide) (fun c7 => ?_) (fun c7 => ?_)
      · have h := h_T c7 h
        refine v_pick [0, 1, 2, 3] rfl ?_
        exact b_X12_layWay_230 hX hE hK59 _ h
      · have h := h_E c7 h
        refine v_iload_n hX dX12_layWay_202 2 rfl rfl ?_
        refine v_aload_n hX dX12_layWay_203 0 rfl rfl ?_
        refine v_getI hX dX12_layWay_204 f_RX12_467 rfl k2 ?_
        refine v_icmp_ge (tgt := 230) hX dX12_layWay_207 (by decide) (fun c8 => ?_) (fun c8 => ?_)
        · have h := h_T c8 h
          refine v_pick [0, 1, 2, 3] rfl ?_
          exact b_X12_layWay_230 hX hE hK59 _ h
        · have h := h_E c8 h
          refine v_aload_n hX dX12_layWay_210 0 rfl rfl ?_
          refine v_getR hX dX12_layWay_211 f_RX12_154 rfl k2 ?_
          refine v_iload hX dX12_layWay_214 3 rfl ?_
          obtain ⟨a9, e_a9, h⟩ := h
          refine v_nn1 e_a9 ?_
          obtain ⟨k10, h⟩ := h
          obtain ⟨i11, h⟩ := h
          refine v_iald hX dX12_layWay_216 k10 i11 ?_
          refine v_aload_n hX dX12_layWay_217 0 rfl rfl ?_
          refine v_getR hX dX12_layWay_218 f_RX12_157 rfl k2 ?_
          refine v_iload_n hX dX12_layWay_221 2 rfl rfl ?_
          obtain ⟨a12, e_a12, h⟩ := h
          refine v_nn1 e_a12 ?_
          obtain ⟨k13, h⟩ := h
          obtain ⟨i14, h⟩ := h
          refine v_iald hX dX12_layWay_222 k13 i14 ?_
          refine v_icmp_ne (tgt := 230) hX dX12_layWay_223 (by decide) (fun c15 => ?_) (fun c15 => ?_)
          · have h := h_E c15 h
            refine v_pick [0, 1, 2, 3] rfl ?_
            exact b_X12_layWay_230 hX hE hK59 _ h
          · have h := h_T c15 h
            refine v_iconst (v := 1) hX dX12_layWay_226 (by decide) ?_
            refine v_goto (tgt := 231) hX dX12_layWay_227 (by decide) ?_
            refine v_pick [0, 1, 2, 3] rfl ?_
            exact b_X12_layWay_231 hX hE hK59 _ h
    · have h := h_E c1 h
      refine v_iload_n hX dX12_layWay_90 2 rfl rfl ?_
      refine v_aload_n hX dX12_layWay_91 0 rfl rfl ?_
      obtain ⟨k16, h⟩ := h
      refine v_getI hX dX12_layWay_92 f_RX12_467 rfl k16 ?_
      refine v_icmp_ge (tgt := 160) hX dX12_layWay_95 (by decide) (fun c17 => ?_) (fun c17 => ?_)
      · have h := h_T c17 h
        refine v_pick [0, 1, 2, 3] rfl ?_
        exact b_X12_layWay_160 hX hE hK59 hK85 _ h
      · have h := h_E c17 h
        refine v_iload hX dX12_layWay_98 3 rfl ?_
        refine v_aload_n hX dX12_layWay_100 0 rfl rfl ?_
        refine v_getI hX dX12_layWay_101 f_RX12_464 rfl k16 ?_
        refine v_icmp_eq (tgt := 156) hX dX12_layWay_104 (by decide) (fun c18 => ?_) (fun c18 => ?_)
        · have h := h_T c18 h
          refine v_pick [0, 1, 2, 3] rfl ?_
          exact b_X12_layWay_156 hX hE hK59 hK85 _ h
        · have h := h_E c18 h
          refine v_aload_n hX dX12_layWay_107 0 rfl rfl ?_
          refine v_getR hX dX12_layWay_108 f_RX12_154 rfl k16 ?_
          refine v_iload hX dX12_layWay_111 3 rfl ?_
          obtain ⟨a19, e_a19, h⟩ := h
          refine v_nn1 e_a19 ?_
          obtain ⟨k20, h⟩ := h
          obtain ⟨i21, h⟩ := h
          refine v_iald hX dX12_layWay_113 k20 i21 ?_
          refine v_aload_n hX dX12_layWay_114 0 rfl rfl ?_
          refine v_getR hX dX12_layWay_115 f_RX12_157 rfl k16 ?_
          refine v_iload_n hX dX12_layWay_118 2 rfl rfl ?_
          obtain ⟨a22, e_a22, h⟩ := h
          refine v_nn1 e_a22 ?_
          obtain ⟨k23, h⟩ := h
          obtain ⟨i24, h⟩ := h
          refine v_iald hX dX12_layWay_119 k23 i24 ?_
          refine v_icmp_eq (tgt := 160) hX dX12_layWay_120 (by decide) (fun c25 => ?_) (fun c25 => ?_)
          · have h := h_T c25 h
            refine v_pick [0, 1, 2, 3] rfl ?_
            exact b_X12_layWay_160 hX hE hK59 hK85 _ h
          · have h := h_E c25 h
            refine v_aload_n hX dX12_layWay_123 0 rfl rfl ?_
            refine v_getR hX dX12_layWay_124 f_RX12_161 rfl k16 ?_
            refine v_sipush (v := 301) hX dX12_layWay_127 (by decide) ?_
            refine v_iload hX dX12_layWay_130 3 rfl ?_
            refine v_iconst (v := 1) hX dX12_layWay_132 (by decide) ?_
            refine v_iadd hX dX12_layWay_133 ?_
            refine v_imul hX dX12_layWay_134 ?_
            refine v_iload_n hX dX12_layWay_135 2 rfl rfl ?_
            refine v_iadd hX dX12_layWay_136 ?_
            obtain ⟨a26, e_a26, h⟩ := h
            refine v_nn1 e_a26 ?_
            obtain ⟨k27, h⟩ := h
            obtain ⟨i28, h⟩ := h
            refine v_iald hX dX12_layWay_137 k27 i28 ?_
            refine v_aload_n hX dX12_layWay_138 0 rfl rfl ?_
            refine v_getR hX dX12_layWay_139 f_RX12_161 rfl k16 ?_
            refine v_sipush (v := 301) hX dX12_layWay_142 (by decide) ?_
            refine v_iload hX dX12_layWay_145 3 rfl ?_
            refine v_imul hX dX12_layWay_147 ?_
            refine v_iload_n hX dX12_layWay_148 2 rfl rfl ?_
            refine v_iadd hX dX12_layWay_149 ?_
            refine v_iconst (v := 1) hX dX12_layWay_150 (by decide) ?_
            refine v_iadd hX dX12_layWay_151 ?_
            obtain ⟨a29, e_a29, h⟩ := h
            refine v_nn1 e_a29 ?_
            obtain ⟨k30, h⟩ := h
            obtain ⟨i31, h⟩ := h
            refine v_iald hX dX12_layWay_152 k30 i31 ?_
            refine v_icmp_ge (tgt := 160) hX dX12_layWay_153 (by decide) (fun c32 => ?_) (fun c32 => ?_)
            · have h := h_T c32 h
              refine v_pick [0, 1, 2, 3] rfl ?_
              exact b_X12_layWay_160 hX hE hK59 hK85 _ h
            · have h := h_E c32 h
              refine v_pick [0, 1, 2, 3] rfl ?_
              exact b_X12_layWay_156 hX hE hK59 hK85 _ h
set_option maxRecDepth 100000 in
set_option maxHeartbeats 4000000 in
theorem b_X12_layWay_59 {X : h_X} (hX : h_ok X cX12_layWay 7 RX12 6 141) {Q : h_S → Prop} (hE : h_end X none (h_QV (x_Z X) Q)) : ∀ (n : Nat) (o0 : Nat) (x1 : Int32) (x3 : Int32) (x4 : Int32) (s : h_S), w_X12_layWay_59 Q n o0 x1 x3 x4 s → h_V X 7 59 [(0, pR (some o0)), (1, pI x1), (3, pI x3), (4, pI x4)] [] s 0 0 := by
  intro n
  induction n with
  | zero => intro _ _ _ _ s h; exact h.elim
  | succ n hK59 =>
    intro o0 x1 x3 x4 s h
    have h : w_X12_layWay_59b Q (w_X12_layWay_59 Q n) o0 x1 x3 x4 s := h
    unfold w_X12_layWay_59b at h
    refine v_iload hX dX12_layWay_59 3 rfl ?_
    refine v_aload_n hX dX12_layWay_61 0 rfl rfl ?_
    obtain ⟨k1, h⟩ := h
    refine v_getI hX dX12_layWay_62 f_RX12_464 rfl k1 ?_
    refine v_icmp_gt (tgt := 275) hX dX12_layWay_65 (by decide) (fun c2 => ?_) (fun c2 => ?_)
    · have h := h_T c2 h
      exact v_vret hX hE dX12_layWay_275 h
    · have h := h_E c2 h
      refine v_aload_n hX dX12_layWay_68 0 rfl rfl ?_
      refine v_getR hX dX12_layWay_69 f_RX12_173 rfl k1 ?_
      refine v_sipush (v := 302) hX dX12_layWay_72 (by decide) ?_
      refine v_iload_n hX dX12_layWay_75 1 rfl rfl ?_
      refine v_imul hX dX12_layWay_76 ?_
      refine v_iload hX dX12_layWay_77 3 rfl ?_
      refine v_iadd hX dX12_layWay_79 ?_
      refine v_iload_n hX dX12_layWay_80 2 rfl rfl ?_
      obtain ⟨a3, e_a3, h⟩ := h
      refine v_nn2 e_a3 ?_
      obtain ⟨k4, h⟩ := h
      obtain ⟨i5, h⟩ := h
      refine v_iast hX dX12_layWay_81 k4 i5 ?_
      refine v_iconst (v := 1) hX dX12_layWay_82 (by decide) ?_
      refine v_istore (lv' := [(5, _), (0, _), (1, _), (3, _), (4, _)]) hX dX12_layWay_83 (by decide) rfl ?_
      refine v_pick [1, 2, 3, 4, 0] rfl ?_
      obtain ⟨n, h⟩ := h
      exact b_X12_layWay_85 hX hE hK59 n _ _ _ _ _ _ h
set_option maxRecDepth 100000 in
set_option maxHeartbeats 4000000 in
theorem b_X12_layWay_22 {X : h_X} (hX : h_ok X cX12_layWay 7 RX12 6 141) {Q : h_S → Prop} (hE : h_end X none (h_QV (x_Z X) Q)) : ∀ (n : Nat) (o0 : Nat) (x1 : Int32) (x3 : Int32) (s : h_S), w_X12_layWay_22 Q n o0 x1 x3 s → h_V X 7 22 [(0, pR (some o0)), (1, pI x1), (3, pI x3)] [] s 0 0 := by
  intro n
  induction n with
  | zero => intro _ _ _ s h; exact h.elim
  | succ n hK22 =>
    intro o0 x1 x3 s h
    have h : w_X12_layWay_22b Q (w_X12_layWay_22 Q n) o0 x1 x3 s := h
    unfold w_X12_layWay_22b at h
    refine v_iload_n hX dX12_layWay_22 2 rfl rfl ?_
    refine v_aload_n hX dX12_layWay_23 0 rfl rfl ?_
    obtain ⟨k1, h⟩ := h
    refine v_getI hX dX12_layWay_24 f_RX12_467 rfl k1 ?_
    refine v_icmp_ge (tgt := 54) hX dX12_layWay_27 (by decide) (fun c2 => ?_) (fun c2 => ?_)
    · have h := h_T c2 h
      refine v_iconst (v := 0) hX dX12_layWay_54 (by decide) ?_
      refine v_istore_n (lv' := [(3, _), (0, _), (1, _)]) hX dX12_layWay_55 rfl (by decide) rfl ?_
      refine v_iconst (v := 0) hX dX12_layWay_56 (by decide) ?_
      refine v_istore (lv' := [(4, _), (3, _), (0, _), (1, _)]) hX dX12_layWay_57 (by decide) rfl ?_
      refine v_pick [2, 3, 1, 0] rfl ?_
      obtain ⟨n, h⟩ := h
      exact b_X12_layWay_59 hX hE n _ _ _ _ _ h
    · have h := h_E c2 h
      refine v_aload_n hX dX12_layWay_30 0 rfl rfl ?_
      refine v_getR hX dX12_layWay_31 f_RX12_167 rfl k1 ?_
      refine v_sipush (v := 300) hX dX12_layWay_34 (by decide) ?_
      refine v_iload_n hX dX12_layWay_37 1 rfl rfl ?_
      refine v_imul hX dX12_layWay_38 ?_
      refine v_iload_n hX dX12_layWay_39 2 rfl rfl ?_
      refine v_iadd hX dX12_layWay_40 ?_
      refine v_aload_n hX dX12_layWay_41 0 rfl rfl ?_
      refine v_getR hX dX12_layWay_42 f_RX12_157 rfl k1 ?_
      refine v_iload_n hX dX12_layWay_45 2 rfl rfl ?_
      obtain ⟨a3, e_a3, h⟩ := h
      refine v_nn1 e_a3 ?_
      obtain ⟨k4, h⟩ := h
      obtain ⟨i5, h⟩ := h
      refine v_iald hX dX12_layWay_46 k4 i5 ?_
      obtain ⟨a6, e_a6, h⟩ := h
      refine v_nn2 e_a6 ?_
      obtain ⟨k7, h⟩ := h
      obtain ⟨i8, h⟩ := h
      refine v_iast hX dX12_layWay_47 k7 i8 ?_
      refine v_iinc (c := 1) (lv' := [(3, _), (0, _), (1, _)]) hX dX12_layWay_48 2 rfl (by decide) (by decide) rfl ?_
      refine v_goto (tgt := 22) hX dX12_layWay_51 (by decide) ?_
      refine v_pick [1, 2, 0] rfl ?_
      exact hK22 _ _ _ _ h
set_option maxRecDepth 100000 in
set_option maxHeartbeats 4000000 in
theorem m_X12_layWay {Z : h_Z} {o0 : Nat} {x1 : Int32} {x2 : Int32} {s : h_S} {Q : h_S → Prop} (h : w_X12_layWay o0 x1 x2 s Q) : h_M Z yX12_layWay cX12_layWay 7 none 6 141 [pR (some o0), pI x1, pI x2] s 0 0 (h_QV Z Q) := by
  refine h_M.of (by decide) (Nat.le_of_ble_eq_true rfl) (fun X hZ hX hE hI => ?_)
  subst hZ
  unfold w_X12_layWay at h
  show h_V X 7 0 [(0, pR (some o0)), (1, pI x1), (2, pI x2)] [] s 0 0
  refine v_aload_n hX dX12_layWay_0 0 rfl rfl ?_
  refine v_iload_n hX dX12_layWay_1 2 rfl rfl ?_
  refine v_iconst (v := 0) hX dX12_layWay_2 (by decide) ?_
  obtain ⟨k1, h⟩ := h
  refine v_callVv0 hX dX12_layWay_3 c_RX12_473 cV_X12_takeTwo (ci := 13) (T := TX12) (N := 115) rfl (by exact k1) [pI _, pI _] rfl rfl (Nat.le_of_ble_eq_true rfl) (by decide) (by decide)  (m_X12_takeTwo h) (fun s2 h => ?_)
  refine v_aload_n hX dX12_layWay_6 0 rfl rfl ?_
  obtain ⟨k4, h⟩ := h
  refine v_callVv0 hX dX12_layWay_7 c_RX12_476 cV_X12_layShared (ci := 13) (T := TX12) (N := 115) rfl (by exact k4) [] rfl rfl (Nat.le_of_ble_eq_true rfl) (by decide) (by decide)  (m_X12_layShared h) (fun s5 h => ?_)
  refine v_aload_n hX dX12_layWay_10 0 rfl rfl ?_
  obtain ⟨k7, h⟩ := h
  refine v_getR hX dX12_layWay_11 f_RX12_170 rfl k7 ?_
  refine v_iload_n hX dX12_layWay_14 1 rfl rfl ?_
  refine v_aload_n hX dX12_layWay_15 0 rfl rfl ?_
  refine v_getI hX dX12_layWay_16 f_RX12_467 rfl k7 ?_
  obtain ⟨a8, e_a8, h⟩ := h
  refine v_nn2 e_a8 ?_
  obtain ⟨k9, h⟩ := h
  obtain ⟨i10, h⟩ := h
  refine v_iast hX dX12_layWay_19 k9 i10 ?_
  refine v_iconst (v := 0) hX dX12_layWay_20 (by decide) ?_
  refine v_istore_n (lv' := [(3, _), (0, _), (1, _), (2, _)]) hX dX12_layWay_21 rfl (by decide) rfl ?_
  refine v_pick [1, 2, 0] rfl ?_
  obtain ⟨n, h⟩ := h
  exact b_X12_layWay_22 hX hE n _ _ _ _ h
set_option maxRecDepth 100000 in
set_option maxHeartbeats 4000000 in
theorem b_X12_joinRow_3 {X : h_X} (hX : h_ok X cX12_joinRow 5 RX12 0 0) {Q : h_S → Prop} (hE : h_end X none (h_QV (x_Z X) Q)) : ∀ (n : Nat) (o0 : Nat) (x1 : Int32) (x3 : Int32) (x4 : Int32) (s : h_S), w_X12_joinRow_3 Q n o0 x1 x3 x4 s → h_V X 5 3 [(0, pR (some o0)), (1, pI x1), (3, pI x3), (4, pI x4)] [] s 0 0 := by
  intro n
  induction n with
  | zero => intro _ _ _ _ s h; exact h.elim
  | succ n hK3 =>
    intro o0 x1 x3 x4 s h
    have h : w_X12_joinRow_3b Q (w_X12_joinRow_3 Q n) o0 x1 x3 x4 s := h
    unfold w_X12_joinRow_3b at h
    refine v_iload hX dX12_joinRow_3 3 rfl ?_
    refine v_iload_n hX dX12_joinRow_5 2 rfl rfl ?_
    refine v_icmp_ge (tgt := 47) hX dX12_joinRow_6 (by decide) (fun c1 => ?_) (fun c1 => ?_)
    · have h := h_T c1 h
      exact v_vret hX hE dX12_joinRow_47 h
    · have h := h_E c1 h
      refine v_aload_n hX dX12_joinRow_9 0 rfl rfl ?_
      obtain ⟨k2, h⟩ := h
      refine v_getR hX dX12_joinRow_10 f_RX12_183 rfl k2 ?_
      refine v_aload_n hX dX12_joinRow_13 0 rfl rfl ?_
      refine v_getI hX dX12_joinRow_14 f_RX12_483 rfl k2 ?_
      refine v_aload_n hX dX12_joinRow_17 0 rfl rfl ?_
      refine v_getR hX dX12_joinRow_18 f_RX12_167 rfl k2 ?_
      refine v_sipush (v := 300) hX dX12_joinRow_21 (by decide) ?_
      refine v_iload_n hX dX12_joinRow_24 1 rfl rfl ?_
      refine v_imul hX dX12_joinRow_25 ?_
      refine v_iload hX dX12_joinRow_26 3 rfl ?_
      refine v_iadd hX dX12_joinRow_28 ?_
      obtain ⟨a3, e_a3, h⟩ := h
      refine v_nn1 e_a3 ?_
      obtain ⟨k4, h⟩ := h
      obtain ⟨i5, h⟩ := h
      refine v_iald hX dX12_joinRow_29 k4 i5 ?_
      obtain ⟨a6, e_a6, h⟩ := h
      refine v_nn2 e_a6 ?_
      obtain ⟨k7, h⟩ := h
      obtain ⟨i8, h⟩ := h
      refine v_iast hX dX12_joinRow_30 k7 i8 ?_
      refine v_aload_n hX dX12_joinRow_31 0 rfl rfl ?_
      refine v_dup hX dX12_joinRow_32 rfl ?_
      refine v_getI hX dX12_joinRow_33 f_RX12_483 rfl k2 ?_
      refine v_iconst (v := 1) hX dX12_joinRow_36 (by decide) ?_
      refine v_iadd hX dX12_joinRow_37 ?_
      refine v_putI hX dX12_joinRow_38 f_RX12_483 k2 ?_
      refine v_iinc (c := 1) (lv' := [(4, _), (0, _), (1, _), (3, _)]) hX dX12_joinRow_41 3 rfl (by decide) (by decide) rfl ?_
      refine v_goto (tgt := 3) hX dX12_joinRow_44 (by decide) ?_
      refine v_pick [1, 2, 3, 0] rfl ?_
      exact hK3 _ _ _ _ _ h
set_option maxRecDepth 100000 in
set_option maxHeartbeats 4000000 in
theorem m_X12_joinRow {Z : h_Z} {o0 : Nat} {x1 : Int32} {x2 : Int32} {x3 : Int32} {s : h_S} {Q : h_S → Prop} (h : w_X12_joinRow o0 x1 x2 x3 s Q) : h_M Z yX12_joinRow cX12_joinRow 5 none 0 0 [pR (some o0), pI x1, pI x2, pI x3] s 0 0 (h_QV Z Q) := by
  refine h_M.of (by decide) (Nat.le_of_ble_eq_true rfl) (fun X hZ hX hE hI => ?_)
  subst hZ
  unfold w_X12_joinRow at h
  show h_V X 5 0 [(0, pR (some o0)), (1, pI x1), (2, pI x2), (3, pI x3)] [] s 0 0
  refine v_iload_n hX dX12_joinRow_0 2 rfl rfl ?_
  refine v_istore (lv' := [(4, _), (0, _), (1, _), (2, _), (3, _)]) hX dX12_joinRow_1 (by decide) rfl ?_
  refine v_pick [1, 2, 4, 0] rfl ?_
  obtain ⟨n, h⟩ := h
  exact b_X12_joinRow_3 hX hE n _ _ _ _ _ h
set_option maxRecDepth 100000 in
set_option maxHeartbeats 4000000 in
theorem b_X12_compareRows_79 {X : h_X} (hX : h_ok X cX12_compareRows 8 RX12 0 0) {Q : Int32 → h_S → Prop} (hE : h_end X (some .int) (h_QI (x_Z X) Q)) {y0 : Int32} (s : h_S) (h : w_X12_compareRows_79 Q y0 s) : h_V X 8 79 [] [pI y0] s 0 0 := by
  unfold w_X12_compareRows_79 at h
  exact v_iret hX hE dX12_compareRows_79 h
set_option maxRecDepth 100000 in
set_option maxHeartbeats 4000000 in
theorem b_X12_compareRows_57 {X : h_X} (hX : h_ok X cX12_compareRows 8 RX12 0 0) {Q : Int32 → h_S → Prop} (hE : h_end X (some .int) (h_QI (x_Z X) Q)) {x2 : Int32} {x4 : Int32} {x5 : Int32} {x6 : Int32} (s : h_S) (h : w_X12_compareRows_57 Q x2 x4 x5 x6 s) : h_V X 8 57 [(2, pI x2), (4, pI x4), (5, pI x5), (6, pI x6)] [] s 0 0 := by
  unfold w_X12_compareRows_57 at h
  refine v_iload hX dX12_compareRows_57 2 rfl ?_
  refine v_iload_n hX dX12_compareRows_59 0 rfl rfl ?_
  refine v_icmp_ge (tgt := 67) hX dX12_compareRows_60 (by decide) (fun c1 => ?_) (fun c1 => ?_)
  · have h := h_T c1 h
    refine v_iload hX dX12_compareRows_67 3 rfl ?_
    refine v_iload hX dX12_compareRows_69 1 rfl ?_
    refine v_icmp_ge (tgt := 78) hX dX12_compareRows_71 (by decide) (fun c2 => ?_) (fun c2 => ?_)
    · have h := h_T c2 h
      refine v_iconst (v := 0) hX dX12_compareRows_78 (by decide) ?_
      refine v_pick [] rfl ?_
      exact b_X12_compareRows_79 hX hE _ h
    · have h := h_E c2 h
      refine v_iconst (v := -1) hX dX12_compareRows_74 (by decide) ?_
      refine v_goto (tgt := 79) hX dX12_compareRows_75 (by decide) ?_
      refine v_pick [] rfl ?_
      exact b_X12_compareRows_79 hX hE _ h
  · have h := h_E c1 h
    refine v_iconst (v := 1) hX dX12_compareRows_63 (by decide) ?_
    refine v_goto (tgt := 79) hX dX12_compareRows_64 (by decide) ?_
    refine v_pick [] rfl ?_
    exact b_X12_compareRows_79 hX hE _ h
set_option maxRecDepth 100000 in
set_option maxHeartbeats 4000000 in
theorem b_X12_compareRows_6 {X : h_X} (hX : h_ok X cX12_compareRows 8 RX12 0 0) {Q : Int32 → h_S → Prop} (hE : h_end X (some .int) (h_QI (x_Z X) Q)) : ∀ (n : Nat) (o0 : Nat) (x2 : Int32) (x4 : Int32) (x5 : Int32) (x6 : Int32) (s : h_S), w_X12_compareRows_6 Q n o0 x2 x4 x5 x6 s → h_V X 8 6 [(0, pR (some o0)), (2, pI x2), (4, pI x4), (5, pI x5), (6, pI x6)] [] s 0 0 := by
  intro n
  induction n with
  | zero => intro _ _ _ _ _ s h; exact h.elim
  | succ n hK6 =>
    intro o0 x2 x4 x5 x6 s h
    have h : w_X12_compareRows_6b Q (w_X12_compareRows_6 Q n) o0 x2 x4 x5 x6 s := h
    unfold w_X12_compareRows_6b at h
    refine v_iload hX dX12_compareRows_6 3 rfl ?_
    refine v_iload_n hX dX12_compareRows_8 1 rfl rfl ?_
    refine v_icmp_ge (tgt := 57) hX dX12_compareRows_9 (by decide) (fun c1 => ?_) (fun c1 => ?_)
    · have h := h_T c1 h
      refine v_pick [1, 2, 3, 4] rfl ?_
      exact b_X12_compareRows_57 hX hE _ h
    · have h := h_E c1 h
      refine v_iload hX dX12_compareRows_12 4 rfl ?_
      refine v_iload hX dX12_compareRows_14 2 rfl ?_
      refine v_icmp_ge (tgt := 57) hX dX12_compareRows_16 (by decide) (fun c2 => ?_) (fun c2 => ?_)
      · have h := h_T c2 h
        refine v_pick [1, 2, 3, 4] rfl ?_
        exact b_X12_compareRows_57 hX hE _ h
      · have h := h_E c2 h
        refine v_aload_n hX dX12_compareRows_19 0 rfl rfl ?_
        obtain ⟨k3, h⟩ := h
        refine v_getR hX dX12_compareRows_20 f_RX12_167 rfl k3 ?_
        refine v_iload hX dX12_compareRows_23 3 rfl ?_
        obtain ⟨a4, e_a4, h⟩ := h
        refine v_nn1 e_a4 ?_
        obtain ⟨k5, h⟩ := h
        obtain ⟨i6, h⟩ := h
        refine v_iald hX dX12_compareRows_25 k5 i6 ?_
        refine v_aload_n hX dX12_compareRows_26 0 rfl rfl ?_
        refine v_getR hX dX12_compareRows_27 f_RX12_167 rfl k3 ?_
        refine v_sipush (v := 300) hX dX12_compareRows_30 (by decide) ?_
        refine v_iload hX dX12_compareRows_33 4 rfl ?_
        refine v_iadd hX dX12_compareRows_35 ?_
        obtain ⟨a7, e_a7, h⟩ := h
        refine v_nn1 e_a7 ?_
        obtain ⟨k8, h⟩ := h
        obtain ⟨i9, h⟩ := h
        refine v_iald hX dX12_compareRows_36 k8 i9 ?_
        refine v_isub hX dX12_compareRows_37 ?_
        refine v_istore (lv' := [(7, _), (0, _), (2, _), (4, _), (5, _), (6, _)]) hX dX12_compareRows_38 (by decide) rfl ?_
        refine v_iload hX dX12_compareRows_40 0 rfl ?_
        refine v_if_eq (tgt := 48) hX dX12_compareRows_42 (by decide) (fun c11 => ?_) (fun c11 => ?_)
        · have h := h_T c11 h
          refine v_iinc (c := 1) (lv' := [(5, _), (7, _), (0, _), (2, _), (4, _), (6, _)]) hX dX12_compareRows_48 4 rfl (by decide) (by decide) rfl ?_
          refine v_iinc (c := 1) (lv' := [(6, _), (5, _), (7, _), (0, _), (2, _), (4, _)]) hX dX12_compareRows_51 5 rfl (by decide) (by decide) rfl ?_
          refine v_goto (tgt := 6) hX dX12_compareRows_54 (by decide) ?_
          refine v_pick [3, 4, 5, 1, 0] rfl ?_
          exact hK6 _ _ _ _ _ _ h
        · have h := h_E c11 h
          refine v_iload hX dX12_compareRows_45 0 rfl ?_
          exact v_iret hX hE dX12_compareRows_47 h
set_option maxRecDepth 100000 in
set_option maxHeartbeats 4000000 in
theorem m_X12_compareRows {Z : h_Z} {o0 : Nat} {x1 : Int32} {x2 : Int32} {x3 : Int32} {x4 : Int32} {s : h_S} {Q : Int32 → h_S → Prop} (h : w_X12_compareRows o0 x1 x2 x3 x4 s Q) : h_M Z yX12_compareRows cX12_compareRows 8 (some .int) 0 0 [pR (some o0), pI x1, pI x2, pI x3, pI x4] s 0 0 (h_QI Z Q) := by
  refine h_M.of (by decide) (Nat.le_of_ble_eq_true rfl) (fun X hZ hX hE hI => ?_)
  subst hZ
  unfold w_X12_compareRows at h
  show h_V X 8 0 [(0, pR (some o0)), (1, pI x1), (2, pI x2), (3, pI x3), (4, pI x4)] [] s 0 0
  refine v_iload_n hX dX12_compareRows_0 1 rfl rfl ?_
  refine v_istore (lv' := [(5, _), (0, _), (1, _), (2, _), (3, _), (4, _)]) hX dX12_compareRows_1 (by decide) rfl ?_
  refine v_iload_n hX dX12_compareRows_3 4 rfl rfl ?_
  refine v_istore (lv' := [(6, _), (5, _), (0, _), (1, _), (2, _), (3, _), (4, _)]) hX dX12_compareRows_4 (by decide) rfl ?_
  refine v_pick [2, 4, 6, 1, 0] rfl ?_
  obtain ⟨n, h⟩ := h
  exact b_X12_compareRows_6 hX hE n _ _ _ _ _ _ h
set_option maxRecDepth 100000 in
set_option maxHeartbeats 4000000 in
theorem b_X12_keepClash_201 {X : h_X} (hX : h_ok X cX12_keepClash 12 RX12 0 0) {Q : h_S → Prop} (hE : h_end X none (h_QV (x_Z X) Q)) {o0 : Nat} (s : h_S) (h : w_X12_keepClash_201 Q o0 s) : h_V X 12 201 [(0, pR (some o0))] [] s 0 0 := by
  unfold w_X12_keepClash_201 at h
  refine v_aload_n hX dX12_keepClash_201 0 rfl rfl ?_
  refine v_dup hX dX12_keepClash_202 rfl ?_
  obtain ⟨k1, h⟩ := h
  refine v_getI hX dX12_keepClash_203 f_RX12_489 rfl k1 ?_
  refine v_iconst (v := 1) hX dX12_keepClash_206 (by decide) ?_
  refine v_iadd hX dX12_keepClash_207 ?_
  refine v_putI hX dX12_keepClash_208 f_RX12_489 k1 ?_
  exact v_vret hX hE dX12_keepClash_211 h
set_option maxRecDepth 100000 in
set_option maxHeartbeats 4000000 in
theorem b_X12_keepClash_148 {X : h_X} (hX : h_ok X cX12_keepClash 12 RX12 0 0) {Q : h_S → Prop} (hE : h_end X none (h_QV (x_Z X) Q)) : ∀ (n : Nat) (o0 : Nat) (x1 : Int32) (x6 : Int32) (x9 : Int32) (x10 : Int32) (x11 : Int32) (s : h_S), w_X12_keepClash_148 Q n o0 x1 x6 x9 x10 x11 s → h_V X 12 148 [(0, pR (some o0)), (1, pI x1), (6, pI x6), (9, pI x9), (10, pI x10), (11, pI x11)] [] s 0 0 := by
  intro n
  induction n with
  | zero => intro _ _ _ _ _ _ s h; exact h.elim
  | succ n hK148 =>
    intro o0 x1 x6 x9 x10 x11 s h
    have h : w_X12_keepClash_148b Q (w_X12_keepClash_148 Q n) o0 x1 x6 x9 x10 x11 s := h
    unfold w_X12_keepClash_148b at h
    refine v_iload hX dX12_keepClash_148 5 rfl ?_
    refine v_iload hX dX12_keepClash_150 4 rfl ?_
    refine v_icmp_ge (tgt := 201) hX dX12_keepClash_152 (by decide) (fun c1 => ?_) (fun c1 => ?_)
    · have h := h_T c1 h
      refine v_pick [0] rfl ?_
      exact b_X12_keepClash_201 hX hE _ h
    · have h := h_E c1 h
      refine v_aload_n hX dX12_keepClash_155 0 rfl rfl ?_
      obtain ⟨k2, h⟩ := h
      refine v_getR hX dX12_keepClash_156 f_RX12_198 rfl k2 ?_
      refine v_sipush (v := 600) hX dX12_keepClash_159 (by decide) ?_
      refine v_iload hX dX12_keepClash_162 2 rfl ?_
      refine v_imul hX dX12_keepClash_164 ?_
      refine v_aload_n hX dX12_keepClash_165 0 rfl rfl ?_
      refine v_getR hX dX12_keepClash_166 f_RX12_189 rfl k2 ?_
      refine v_iload hX dX12_keepClash_169 2 rfl ?_
      obtain ⟨a3, e_a3, h⟩ := h
      refine v_nn1 e_a3 ?_
      obtain ⟨k4, h⟩ := h
      obtain ⟨i5, h⟩ := h
      refine v_iald hX dX12_keepClash_171 k4 i5 ?_
      refine v_iadd hX dX12_keepClash_172 ?_
      refine v_iload hX dX12_keepClash_173 5 rfl ?_
      refine v_iadd hX dX12_keepClash_175 ?_
      refine v_iload hX dX12_keepClash_176 3 rfl ?_
      refine v_isub hX dX12_keepClash_178 ?_
      refine v_aload_n hX dX12_keepClash_179 0 rfl rfl ?_
      refine v_getR hX dX12_keepClash_180 f_RX12_167 rfl k2 ?_
      refine v_sipush (v := 300) hX dX12_keepClash_183 (by decide) ?_
      refine v_iconst (v := 1) hX dX12_keepClash_186 (by decide) ?_
      refine v_iload_n hX dX12_keepClash_187 1 rfl rfl ?_
      refine v_isub hX dX12_keepClash_188 ?_
      refine v_imul hX dX12_keepClash_189 ?_
      refine v_iload hX dX12_keepClash_190 5 rfl ?_
      refine v_iadd hX dX12_keepClash_192 ?_
      obtain ⟨a6, e_a6, h⟩ := h
      refine v_nn1 e_a6 ?_
      obtain ⟨k7, h⟩ := h
      obtain ⟨i8, h⟩ := h
      refine v_iald hX dX12_keepClash_193 k7 i8 ?_
      obtain ⟨a9, e_a9, h⟩ := h
      refine v_nn2 e_a9 ?_
      obtain ⟨k10, h⟩ := h
      obtain ⟨i11, h⟩ := h
      refine v_iast hX dX12_keepClash_194 k10 i11 ?_
      refine v_iinc (c := 1) (lv' := [(11, _), (0, _), (1, _), (6, _), (9, _), (10, _)]) hX dX12_keepClash_195 5 rfl (by decide) (by decide) rfl ?_
      refine v_goto (tgt := 148) hX dX12_keepClash_198 (by decide) ?_
      refine v_pick [1, 2, 3, 4, 5, 0] rfl ?_
      exact hK148 _ _ _ _ _ _ _ h
set_option maxRecDepth 100000 in
set_option maxHeartbeats 4000000 in
theorem b_X12_keepClash_130 {X : h_X} (hX : h_ok X cX12_keepClash 12 RX12 0 0) {Q : h_S → Prop} (hE : h_end X none (h_QV (x_Z X) Q)) {o0 : Nat} {x1 : Int32} {x6 : Int32} {x9 : Int32} {y0 : Int32} (s : h_S) (h : w_X12_keepClash_130 Q o0 x1 x6 x9 y0 s) : h_V X 12 130 [(0, pR (some o0)), (1, pI x1), (6, pI x6), (9, pI x9)] [pI y0] s 0 0 := by
  unfold w_X12_keepClash_130 at h
  refine v_istore (lv' := [(10, _), (0, _), (1, _), (6, _), (9, _)]) hX dX12_keepClash_130 (by decide) rfl ?_
  refine v_aload_n hX dX12_keepClash_132 1 rfl rfl ?_
  obtain ⟨k1, h⟩ := h
  refine v_getR hX dX12_keepClash_133 f_RX12_192 rfl k1 ?_
  refine v_iload hX dX12_keepClash_136 3 rfl ?_
  refine v_iload hX dX12_keepClash_138 0 rfl ?_
  refine v_iload hX dX12_keepClash_140 4 rfl ?_
  refine v_isub hX dX12_keepClash_142 ?_
  obtain ⟨a2, e_a2, h⟩ := h
  refine v_nn2 e_a2 ?_
  obtain ⟨k3, h⟩ := h
  obtain ⟨i4, h⟩ := h
  refine v_iast hX dX12_keepClash_143 k3 i4 ?_
  refine v_iload hX dX12_keepClash_144 4 rfl ?_
  refine v_istore (lv' := [(11, _), (10, _), (0, _), (1, _), (6, _), (9, _)]) hX dX12_keepClash_146 (by decide) rfl ?_
  refine v_pick [2, 3, 4, 5, 1, 0] rfl ?_
  obtain ⟨n, h⟩ := h
  exact b_X12_keepClash_148 hX hE n _ _ _ _ _ _ _ h
set_option maxRecDepth 100000 in
set_option maxHeartbeats 4000000 in
theorem b_X12_keepClash_118 {X : h_X} (hX : h_ok X cX12_keepClash 12 RX12 0 0) {Q : h_S → Prop} (hE : h_end X none (h_QV (x_Z X) Q)) {o0 : Nat} {x1 : Int32} {x3 : Int32} {x5 : Int32} {x6 : Int32} {y0 : Int32} (s : h_S) (h : w_X12_keepClash_118 Q o0 x1 x3 x5 x6 y0 s) : h_V X 12 118 [(0, pR (some o0)), (1, pI x1), (3, pI x3), (5, pI x5), (6, pI x6)] [pI y0] s 0 0 := by
  unfold w_X12_keepClash_118 at h
  refine v_istore (lv' := [(9, _), (0, _), (1, _), (3, _), (5, _), (6, _)]) hX dX12_keepClash_118 (by decide) rfl ?_
  refine v_iload_n hX dX12_keepClash_120 2 rfl rfl ?_
  refine v_if_ne (tgt := 129) hX dX12_keepClash_121 (by decide) (fun c1 => ?_) (fun c1 => ?_)
  · have h := h_E c1 h
    refine v_iload_n hX dX12_keepClash_129 3 rfl rfl ?_
    refine v_pick [1, 2, 5, 0] rfl ?_
    exact b_X12_keepClash_130 hX hE _ h
  · have h := h_T c1 h
    refine v_iload hX dX12_keepClash_124 4 rfl ?_
    refine v_goto (tgt := 130) hX dX12_keepClash_126 (by decide) ?_
    refine v_pick [1, 2, 5, 0] rfl ?_
    exact b_X12_keepClash_130 hX hE _ h
set_option maxRecDepth 100000 in
set_option maxHeartbeats 4000000 in
theorem b_X12_keepClash_65 {X : h_X} (hX : h_ok X cX12_keepClash 12 RX12 0 0) {Q : h_S → Prop} (hE : h_end X none (h_QV (x_Z X) Q)) : ∀ (n : Nat) (o0 : Nat) (x1 : Int32) (x2 : Int32) (x3 : Int32) (x4 : Int32) (x5 : Int32) (x6 : Int32) (x7 : Int32) (x8 : Int32) (x9 : Int32) (s : h_S), w_X12_keepClash_65 Q n o0 x1 x2 x3 x4 x5 x6 x7 x8 x9 s → h_V X 12 65 [(0, pR (some o0)), (1, pI x1), (2, pI x2), (3, pI x3), (4, pI x4), (5, pI x5), (6, pI x6), (7, pI x7), (8, pI x8), (9, pI x9)] [] s 0 0 := by
  intro n
  induction n with
  | zero => intro _ _ _ _ _ _ _ _ _ _ s h; exact h.elim
  | succ n hK65 =>
    intro o0 x1 x2 x3 x4 x5 x6 x7 x8 x9 s h
    have h : w_X12_keepClash_65b Q (w_X12_keepClash_65 Q n) o0 x1 x2 x3 x4 x5 x6 x7 x8 x9 s := h
    unfold w_X12_keepClash_65b at h
    refine v_iload hX dX12_keepClash_65 9 rfl ?_
    refine v_iload hX dX12_keepClash_67 8 rfl ?_
    refine v_icmp_ge (tgt := 108) hX dX12_keepClash_69 (by decide) (fun c1 => ?_) (fun c1 => ?_)
    · have h := h_T c1 h
      refine v_iload_n hX dX12_keepClash_108 1 rfl rfl ?_
      refine v_if_ne (tgt := 117) hX dX12_keepClash_109 (by decide) (fun c2 => ?_) (fun c2 => ?_)
      · have h := h_E c2 h
        refine v_iload_n hX dX12_keepClash_117 2 rfl rfl ?_
        refine v_pick [0, 1, 3, 5, 6] rfl ?_
        exact b_X12_keepClash_118 hX hE _ h
      · have h := h_T c2 h
        refine v_iload hX dX12_keepClash_112 4 rfl ?_
        refine v_goto (tgt := 118) hX dX12_keepClash_114 (by decide) ?_
        refine v_pick [0, 1, 3, 5, 6] rfl ?_
        exact b_X12_keepClash_118 hX hE _ h
    · have h := h_E c1 h
      refine v_aload_n hX dX12_keepClash_72 0 rfl rfl ?_
      obtain ⟨k3, h⟩ := h
      refine v_getR hX dX12_keepClash_73 f_RX12_198 rfl k3 ?_
      refine v_sipush (v := 600) hX dX12_keepClash_76 (by decide) ?_
      refine v_iload hX dX12_keepClash_79 6 rfl ?_
      refine v_imul hX dX12_keepClash_81 ?_
      refine v_iload hX dX12_keepClash_82 9 rfl ?_
      refine v_iadd hX dX12_keepClash_84 ?_
      refine v_iload hX dX12_keepClash_85 7 rfl ?_
      refine v_isub hX dX12_keepClash_87 ?_
      refine v_aload_n hX dX12_keepClash_88 0 rfl rfl ?_
      refine v_getR hX dX12_keepClash_89 f_RX12_167 rfl k3 ?_
      refine v_sipush (v := 300) hX dX12_keepClash_92 (by decide) ?_
      refine v_iload_n hX dX12_keepClash_95 1 rfl rfl ?_
      refine v_imul hX dX12_keepClash_96 ?_
      refine v_iload hX dX12_keepClash_97 9 rfl ?_
      refine v_iadd hX dX12_keepClash_99 ?_
      obtain ⟨a4, e_a4, h⟩ := h
      refine v_nn1 e_a4 ?_
      obtain ⟨k5, h⟩ := h
      obtain ⟨i6, h⟩ := h
      refine v_iald hX dX12_keepClash_100 k5 i6 ?_
      obtain ⟨a7, e_a7, h⟩ := h
      refine v_nn2 e_a7 ?_
      obtain ⟨k8, h⟩ := h
      obtain ⟨i9, h⟩ := h
      refine v_iast hX dX12_keepClash_101 k8 i9 ?_
      refine v_iinc (c := 1) (lv' := [(9, _), (0, _), (1, _), (2, _), (3, _), (4, _), (5, _), (6, _), (7, _), (8, _)]) hX dX12_keepClash_102 9 rfl (by decide) (by decide) rfl ?_
      refine v_goto (tgt := 65) hX dX12_keepClash_105 (by decide) ?_
      refine v_pick [1, 2, 3, 4, 5, 6, 7, 8, 9, 0] rfl ?_
      exact hK65 _ _ _ _ _ _ _ _ _ _ _ h
set_option maxRecDepth 100000 in
set_option maxHeartbeats 4000000 in
theorem b_X12_keepClash_47 {X : h_X} (hX : h_ok X cX12_keepClash 12 RX12 0 0) {Q : h_S → Prop} (hE : h_end X none (h_QV (x_Z X) Q)) {o0 : Nat} {x1 : Int32} {x2 : Int32} {x3 : Int32} {x4 : Int32} {x5 : Int32} {x6 : Int32} {x7 : Int32} {y0 : Int32} (s : h_S) (h : w_X12_keepClash_47 Q o0 x1 x2 x3 x4 x5 x6 x7 y0 s) : h_V X 12 47 [(0, pR (some o0)), (1, pI x1), (2, pI x2), (3, pI x3), (4, pI x4), (5, pI x5), (6, pI x6), (7, pI x7)] [pI y0] s 0 0 := by
  unfold w_X12_keepClash_47 at h
  refine v_istore (lv' := [(8, _), (0, _), (1, _), (2, _), (3, _), (4, _), (5, _), (6, _), (7, _)]) hX dX12_keepClash_47 (by decide) rfl ?_
  refine v_aload_n hX dX12_keepClash_49 1 rfl rfl ?_
  obtain ⟨k1, h⟩ := h
  refine v_getR hX dX12_keepClash_50 f_RX12_189 rfl k1 ?_
  refine v_iload hX dX12_keepClash_53 7 rfl ?_
  refine v_iload hX dX12_keepClash_55 0 rfl ?_
  refine v_iload hX dX12_keepClash_57 8 rfl ?_
  refine v_isub hX dX12_keepClash_59 ?_
  obtain ⟨a2, e_a2, h⟩ := h
  refine v_nn2 e_a2 ?_
  obtain ⟨k3, h⟩ := h
  obtain ⟨i4, h⟩ := h
  refine v_iast hX dX12_keepClash_60 k3 i4 ?_
  refine v_iload hX dX12_keepClash_61 8 rfl ?_
  refine v_istore (lv' := [(9, _), (8, _), (0, _), (1, _), (2, _), (3, _), (4, _), (5, _), (6, _), (7, _)]) hX dX12_keepClash_63 (by decide) rfl ?_
  refine v_pick [2, 3, 4, 5, 6, 7, 8, 9, 1, 0] rfl ?_
  obtain ⟨n, h⟩ := h
  exact b_X12_keepClash_65 hX hE n _ _ _ _ _ _ _ _ _ _ _ h
set_option maxRecDepth 100000 in
set_option maxHeartbeats 4000000 in
theorem b_X12_keepClash_35 {X : h_X} (hX : h_ok X cX12_keepClash 12 RX12 0 0) {Q : h_S → Prop} (hE : h_end X none (h_QV (x_Z X) Q)) {o0 : Nat} {x1 : Int32} {x2 : Int32} {x3 : Int32} {x4 : Int32} {x5 : Int32} {x6 : Int32} {y0 : Int32} (s : h_S) (h : w_X12_keepClash_35 Q o0 x1 x2 x3 x4 x5 x6 y0 s) : h_V X 12 35 [(0, pR (some o0)), (1, pI x1), (2, pI x2), (3, pI x3), (4, pI x4), (5, pI x5), (6, pI x6)] [pI y0] s 0 0 := by
  unfold w_X12_keepClash_35 at h
  refine v_istore (lv' := [(7, _), (0, _), (1, _), (2, _), (3, _), (4, _), (5, _), (6, _)]) hX dX12_keepClash_35 (by decide) rfl ?_
  refine v_iload_n hX dX12_keepClash_37 2 rfl rfl ?_
  refine v_if_ne (tgt := 45) hX dX12_keepClash_38 (by decide) (fun c1 => ?_) (fun c1 => ?_)
  · have h := h_E c1 h
    refine v_iload hX dX12_keepClash_45 6 rfl ?_
    refine v_pick [1, 2, 3, 4, 5, 6, 7, 0] rfl ?_
    exact b_X12_keepClash_47 hX hE _ h
  · have h := h_T c1 h
    refine v_iload_n hX dX12_keepClash_41 4 rfl rfl ?_
    refine v_goto (tgt := 47) hX dX12_keepClash_42 (by decide) ?_
    refine v_pick [1, 2, 3, 4, 5, 6, 7, 0] rfl ?_
    exact b_X12_keepClash_47 hX hE _ h
set_option maxRecDepth 100000 in
set_option maxHeartbeats 4000000 in
theorem m_X12_keepClash {Z : h_Z} {o0 : Nat} {x1 : Int32} {x2 : Int32} {x3 : Int32} {x4 : Int32} {x5 : Int32} {s : h_S} {Q : h_S → Prop} (h : w_X12_keepClash o0 x1 x2 x3 x4 x5 s Q) : h_M Z yX12_keepClash cX12_keepClash 12 none 0 0 [pR (some o0), pI x1, pI x2, pI x3, pI x4, pI x5] s 0 0 (h_QV Z Q) := by
  refine h_M.of (by decide) (Nat.le_of_ble_eq_true rfl) (fun X hZ hX hE hI => ?_)
  subst hZ
  unfold w_X12_keepClash at h
  show h_V X 12 0 [(0, pR (some o0)), (1, pI x1), (2, pI x2), (3, pI x3), (4, pI x4), (5, pI x5)] [] s 0 0
  refine v_aload_n hX dX12_keepClash_0 0 rfl rfl ?_
  obtain ⟨k1, h⟩ := h
  refine v_getI hX dX12_keepClash_1 f_RX12_486 rfl k1 ?_
  refine v_aload_n hX dX12_keepClash_4 0 rfl rfl ?_
  refine v_getI hX dX12_keepClash_5 f_RX12_489 rfl k1 ?_
  refine v_iadd hX dX12_keepClash_8 ?_
  refine v_bipush (v := 12) hX dX12_keepClash_9 (by decide) ?_
  refine v_icmp_ge (tgt := 201) hX dX12_keepClash_11 (by decide) (fun c2 => ?_) (fun c2 => ?_)
  · have h := h_T c2 h
    refine v_pick [0] rfl ?_
    exact b_X12_keepClash_201 hX hE _ h
  · have h := h_E c2 h
    refine v_aload_n hX dX12_keepClash_14 0 rfl rfl ?_
    refine v_getI hX dX12_keepClash_15 f_RX12_486 rfl k1 ?_
    refine v_aload_n hX dX12_keepClash_18 0 rfl rfl ?_
    refine v_getI hX dX12_keepClash_19 f_RX12_489 rfl k1 ?_
    refine v_iadd hX dX12_keepClash_22 ?_
    refine v_istore (lv' := [(6, _), (0, _), (1, _), (2, _), (3, _), (4, _), (5, _)]) hX dX12_keepClash_23 (by decide) rfl ?_
    refine v_iload_n hX dX12_keepClash_25 2 rfl rfl ?_
    refine v_if_ne (tgt := 33) hX dX12_keepClash_26 (by decide) (fun c4 => ?_) (fun c4 => ?_)
    · have h := h_E c4 h
      refine v_iload hX dX12_keepClash_33 5 rfl ?_
      refine v_pick [1, 2, 3, 4, 5, 6, 0] rfl ?_
      exact b_X12_keepClash_35 hX hE _ h
    · have h := h_T c4 h
      refine v_iload_n hX dX12_keepClash_29 3 rfl rfl ?_
      refine v_goto (tgt := 35) hX dX12_keepClash_30 (by decide) ?_
      refine v_pick [1, 2, 3, 4, 5, 6, 0] rfl ?_
      exact b_X12_keepClash_35 hX hE _ h
set_option maxRecDepth 100000 in
set_option maxHeartbeats 4000000 in
theorem b_X12_joinAhead_171 {X : h_X} (hX : h_ok X cX12_joinAhead 8 RX12 1 31) {Q : h_S → Prop} (hE : h_end X none (h_QV (x_Z X) Q)) (s : h_S) (h : w_X12_joinAhead_171 Q s) : h_V X 8 171 [] [] s 0 0 := by
  unfold w_X12_joinAhead_171 at h
  exact v_vret hX hE dX12_joinAhead_171 h
set_option maxRecDepth 100000 in
set_option maxHeartbeats 4000000 in
theorem b_X12_joinAhead_79 {X : h_X} (hX : h_ok X cX12_joinAhead 8 RX12 1 31) {Q : h_S → Prop} (hE : h_end X none (h_QV (x_Z X) Q)) {o0 : Nat} {x2 : Int32} {x3 : Int32} (s : h_S) (h : w_X12_joinAhead_79 Q o0 x2 x3 s) : h_V X 8 79 [(0, pR (some o0)), (2, pI x2), (3, pI x3)] [] s 0 0 := by
  unfold w_X12_joinAhead_79 at h
  refine v_aload_n hX dX12_joinAhead_79 0 rfl rfl ?_
  refine v_iconst (v := 0) hX dX12_joinAhead_80 (by decide) ?_
  refine v_iload_n hX dX12_joinAhead_81 1 rfl rfl ?_
  refine v_iload_n hX dX12_joinAhead_82 2 rfl rfl ?_
  obtain ⟨k1, h⟩ := h
  refine v_callVv0 hX dX12_joinAhead_83 c_RX12_495 cV_X12_joinRow (ci := 13) (T := TX12) (N := 115) rfl (by exact k1) [pI _, pI _, pI _] rfl rfl (Nat.le_of_ble_eq_true rfl) (by decide) (by decide)  (m_X12_joinRow h) (fun s2 h => ?_)
  refine v_goto (tgt := 171) hX dX12_joinAhead_86 (by decide) ?_
  refine v_pick [] rfl ?_
  exact b_X12_joinAhead_171 hX hE _ h
set_option maxRecDepth 100000 in
set_option maxHeartbeats 4000000 in
theorem b_X12_joinAhead_168 {X : h_X} (hX : h_ok X cX12_joinAhead 8 RX12 1 31) {Q : h_S → Prop} (hE : h_end X none (h_QV (x_Z X) Q)) {y0 : Int32} {y1 : Int32} {y2 : Int32} {u3 : Nat} (s : h_S) (h : w_X12_joinAhead_168 Q y0 y1 y2 u3 s) : h_V X 8 168 [] [pI y0, pI y1, pI y2, pR (some u3)] s 0 0 := by
  unfold w_X12_joinAhead_168 at h
  obtain ⟨k1, h⟩ := h
  refine v_callVv0 hX dX12_joinAhead_168 c_RX12_495 cV_X12_joinRow (ci := 13) (T := TX12) (N := 115) rfl (by exact k1) [pI _, pI _, pI _] rfl rfl (Nat.le_of_ble_eq_true rfl) (by decide) (by decide)  (m_X12_joinRow h) (fun s2 h => ?_)
  refine v_pick [] rfl ?_
  exact b_X12_joinAhead_171 hX hE _ h
set_option maxRecDepth 100000 in
set_option maxHeartbeats 4000000 in
theorem b_X12_joinAhead_157 {X : h_X} (hX : h_ok X cX12_joinAhead 8 RX12 1 31) {Q : h_S → Prop} (hE : h_end X none (h_QV (x_Z X) Q)) {x3 : Int32} {x5 : Int32} {x7 : Int32} {y0 : Int32} {y1 : Int32} {u2 : Nat} (s : h_S) (h : w_X12_joinAhead_157 Q x3 x5 x7 y0 y1 u2 s) : h_V X 8 157 [(3, pI x3), (5, pI x5), (7, pI x7)] [pI y0, pI y1, pR (some u2)] s 0 0 := by
  unfold w_X12_joinAhead_157 at h
  refine v_iload hX dX12_joinAhead_157 2 rfl ?_
  refine v_if_ne (tgt := 167) hX dX12_joinAhead_159 (by decide) (fun c1 => ?_) (fun c1 => ?_)
  · have h := h_E c1 h
    refine v_iload_n hX dX12_joinAhead_167 0 rfl rfl ?_
    refine v_pick [] rfl ?_
    exact b_X12_joinAhead_168 hX hE _ h
  · have h := h_T c1 h
    refine v_iload hX dX12_joinAhead_162 1 rfl ?_
    refine v_goto (tgt := 168) hX dX12_joinAhead_164 (by decide) ?_
    refine v_pick [] rfl ?_
    exact b_X12_joinAhead_168 hX hE _ h
set_option maxRecDepth 100000 in
set_option maxHeartbeats 4000000 in
theorem b_X12_joinAhead_138 {X : h_X} (hX : h_ok X cX12_joinAhead 8 RX12 1 31) {Q : h_S → Prop} (hE : h_end X none (h_QV (x_Z X) Q)) {o0 : Nat} {x2 : Int32} {x3 : Int32} {x4 : Int32} {x5 : Int32} {x7 : Int32} {y0 : Int32} {y1 : Int32} {y2 : Int32} {u3 : Nat} (s : h_S) (h : w_X12_joinAhead_138 Q o0 x2 x3 x4 x5 x7 y0 y1 y2 u3 s) : h_V X 8 138 [(0, pR (some o0)), (2, pI x2), (3, pI x3), (4, pI x4), (5, pI x5), (7, pI x7)] [pI y0, pI y1, pI y2, pR (some u3)] s 0 0 := by
  unfold w_X12_joinAhead_138 at h
  obtain ⟨k1, h⟩ := h
  refine v_callVv0 hX dX12_joinAhead_138 c_RX12_495 cV_X12_joinRow (ci := 13) (T := TX12) (N := 115) rfl (by exact k1) [pI _, pI _, pI _] rfl rfl (Nat.le_of_ble_eq_true rfl) (by decide) (by decide)  (m_X12_joinRow h) (fun s2 h => ?_)
  refine v_aload_n hX dX12_joinAhead_141 0 rfl rfl ?_
  refine v_iconst (v := 1) hX dX12_joinAhead_142 (by decide) ?_
  refine v_iload hX dX12_joinAhead_143 5 rfl ?_
  refine v_isub hX dX12_joinAhead_145 ?_
  refine v_iload hX dX12_joinAhead_146 5 rfl ?_
  refine v_if_ne (tgt := 156) hX dX12_joinAhead_148 (by decide) (fun c4 => ?_) (fun c4 => ?_)
  · have h := h_E c4 h
    refine v_iload_n hX dX12_joinAhead_156 1 rfl rfl ?_
    refine v_pick [2, 4, 5] rfl ?_
    exact b_X12_joinAhead_157 hX hE _ h
  · have h := h_T c4 h
    refine v_iload hX dX12_joinAhead_151 3 rfl ?_
    refine v_goto (tgt := 157) hX dX12_joinAhead_153 (by decide) ?_
    refine v_pick [2, 4, 5] rfl ?_
    exact b_X12_joinAhead_157 hX hE _ h
set_option maxRecDepth 100000 in
set_option maxHeartbeats 4000000 in
theorem b_X12_joinAhead_127 {X : h_X} (hX : h_ok X cX12_joinAhead 8 RX12 1 31) {Q : h_S → Prop} (hE : h_end X none (h_QV (x_Z X) Q)) {o0 : Nat} {x2 : Int32} {x3 : Int32} {x4 : Int32} {x5 : Int32} {x7 : Int32} {y0 : Int32} {y1 : Int32} {u2 : Nat} (s : h_S) (h : w_X12_joinAhead_127 Q o0 x2 x3 x4 x5 x7 y0 y1 u2 s) : h_V X 8 127 [(0, pR (some o0)), (2, pI x2), (3, pI x3), (4, pI x4), (5, pI x5), (7, pI x7)] [pI y0, pI y1, pR (some u2)] s 0 0 := by
  unfold w_X12_joinAhead_127 at h
  refine v_iload hX dX12_joinAhead_127 5 rfl ?_
  refine v_if_ne (tgt := 136) hX dX12_joinAhead_129 (by decide) (fun c1 => ?_) (fun c1 => ?_)
  · have h := h_E c1 h
    refine v_iload hX dX12_joinAhead_136 4 rfl ?_
    refine v_pick [0, 1, 2, 3, 4, 5] rfl ?_
    exact b_X12_joinAhead_138 hX hE _ h
  · have h := h_T c1 h
    refine v_iload_n hX dX12_joinAhead_132 2 rfl rfl ?_
    refine v_goto (tgt := 138) hX dX12_joinAhead_133 (by decide) ?_
    refine v_pick [0, 1, 2, 3, 4, 5] rfl ?_
    exact b_X12_joinAhead_138 hX hE _ h
set_option maxRecDepth 100000 in
set_option maxHeartbeats 4000000 in
theorem b_X12_joinAhead_99 {X : h_X} (hX : h_ok X cX12_joinAhead 8 RX12 1 31) {Q : h_S → Prop} (hE : h_end X none (h_QV (x_Z X) Q)) {o0 : Nat} {x2 : Int32} {x3 : Int32} {x4 : Int32} {x5 : Int32} {y0 : Int32} (s : h_S) (h : w_X12_joinAhead_99 Q o0 x2 x3 x4 x5 y0 s) : h_V X 8 99 [(0, pR (some o0)), (2, pI x2), (3, pI x3), (4, pI x4), (5, pI x5)] [pI y0] s 0 0 := by
  unfold w_X12_joinAhead_99 at h
  refine v_istore (lv' := [(7, _), (0, _), (2, _), (3, _), (4, _), (5, _)]) hX dX12_joinAhead_99 (by decide) rfl ?_
  refine v_aload_n hX dX12_joinAhead_101 1 rfl rfl ?_
  refine v_iload hX dX12_joinAhead_102 0 rfl ?_
  refine v_iload_n hX dX12_joinAhead_104 2 rfl rfl ?_
  refine v_iload_n hX dX12_joinAhead_105 3 rfl rfl ?_
  refine v_iload hX dX12_joinAhead_106 4 rfl ?_
  refine v_iload hX dX12_joinAhead_108 5 rfl ?_
  obtain ⟨k1, h⟩ := h
  refine v_callVv0 hX dX12_joinAhead_110 c_RX12_498 cV_X12_keepClash (ci := 13) (T := TX12) (N := 115) rfl (by exact k1) [pI _, pI _, pI _, pI _, pI _] rfl rfl (Nat.le_of_ble_eq_true rfl) (by decide) (by decide)  (m_X12_keepClash h) (fun s2 h => ?_)
  refine v_aload_n hX dX12_joinAhead_113 1 rfl rfl ?_
  refine v_iload hX dX12_joinAhead_114 0 rfl ?_
  refine v_iload hX dX12_joinAhead_116 0 rfl ?_
  refine v_if_ne (tgt := 125) hX dX12_joinAhead_118 (by decide) (fun c4 => ?_) (fun c4 => ?_)
  · have h := h_E c4 h
    refine v_iload hX dX12_joinAhead_125 4 rfl ?_
    refine v_pick [1, 2, 3, 4, 5, 0] rfl ?_
    exact b_X12_joinAhead_127 hX hE _ h
  · have h := h_T c4 h
    refine v_iload_n hX dX12_joinAhead_121 2 rfl rfl ?_
    refine v_goto (tgt := 127) hX dX12_joinAhead_122 (by decide) ?_
    refine v_pick [1, 2, 3, 4, 5, 0] rfl ?_
    exact b_X12_joinAhead_127 hX hE _ h
set_option maxRecDepth 100000 in
set_option maxHeartbeats 4000000 in
theorem m_X12_joinAhead {Z : h_Z} {o0 : Nat} {x1 : Int32} {s : h_S} {Q : h_S → Prop} (h : w_X12_joinAhead o0 x1 s Q) : h_M Z yX12_joinAhead cX12_joinAhead 8 none 1 31 [pR (some o0), pI x1] s 0 0 (h_QV Z Q) := by
  refine h_M.of (by decide) (Nat.le_of_ble_eq_true rfl) (fun X hZ hX hE hI => ?_)
  subst hZ
  unfold w_X12_joinAhead at h
  show h_V X 8 0 [(0, pR (some o0)), (1, pI x1)] [] s 0 0
  refine v_aload_n hX dX12_joinAhead_0 0 rfl rfl ?_
  obtain ⟨k1, h⟩ := h
  refine v_getR hX dX12_joinAhead_1 f_RX12_173 rfl k1 ?_
  refine v_iload_n hX dX12_joinAhead_4 1 rfl rfl ?_
  obtain ⟨a2, e_a2, h⟩ := h
  refine v_nn1 e_a2 ?_
  obtain ⟨k3, h⟩ := h
  obtain ⟨i4, h⟩ := h
  refine v_iald hX dX12_joinAhead_5 k3 i4 ?_
  refine v_istore_n (lv' := [(2, _), (0, _), (1, _)]) hX dX12_joinAhead_6 rfl (by decide) rfl ?_
  refine v_aload_n hX dX12_joinAhead_7 1 rfl rfl ?_
  refine v_getR hX dX12_joinAhead_8 f_RX12_180 rfl k1 ?_
  refine v_iload_n hX dX12_joinAhead_11 2 rfl rfl ?_
  obtain ⟨a5, e_a5, h⟩ := h
  refine v_nn1 e_a5 ?_
  obtain ⟨k6, h⟩ := h
  obtain ⟨i7, h⟩ := h
  refine v_iald hX dX12_joinAhead_12 k6 i7 ?_
  refine v_istore_n (lv' := [(3, _), (2, _), (0, _), (1, _)]) hX dX12_joinAhead_13 rfl (by decide) rfl ?_
  refine v_aload_n hX dX12_joinAhead_14 2 rfl rfl ?_
  refine v_getR hX dX12_joinAhead_15 f_RX12_173 rfl k1 ?_
  refine v_sipush (v := 302) hX dX12_joinAhead_18 (by decide) ?_
  refine v_iload_n hX dX12_joinAhead_21 3 rfl rfl ?_
  refine v_iadd hX dX12_joinAhead_22 ?_
  obtain ⟨a8, e_a8, h⟩ := h
  refine v_nn1 e_a8 ?_
  obtain ⟨k9, h⟩ := h
  obtain ⟨i10, h⟩ := h
  refine v_iald hX dX12_joinAhead_23 k9 i10 ?_
  refine v_istore (lv' := [(4, _), (3, _), (2, _), (0, _), (1, _)]) hX dX12_joinAhead_24 (by decide) rfl ?_
  refine v_aload_n hX dX12_joinAhead_26 3 rfl rfl ?_
  refine v_getR hX dX12_joinAhead_27 f_RX12_180 rfl k1 ?_
  refine v_sipush (v := 302) hX dX12_joinAhead_30 (by decide) ?_
  refine v_iload_n hX dX12_joinAhead_33 4 rfl rfl ?_
  refine v_iadd hX dX12_joinAhead_34 ?_
  obtain ⟨a12, e_a12, h⟩ := h
  refine v_nn1 e_a12 ?_
  obtain ⟨k13, h⟩ := h
  obtain ⟨i14, h⟩ := h
  refine v_iald hX dX12_joinAhead_35 k13 i14 ?_
  refine v_istore (lv' := [(5, _), (4, _), (3, _), (2, _), (0, _), (1, _)]) hX dX12_joinAhead_36 (by decide) rfl ?_
  refine v_aload_n hX dX12_joinAhead_38 4 rfl rfl ?_
  refine v_iload_n hX dX12_joinAhead_39 3 rfl rfl ?_
  refine v_iload_n hX dX12_joinAhead_40 2 rfl rfl ?_
  refine v_iload hX dX12_joinAhead_41 1 rfl ?_
  refine v_iload hX dX12_joinAhead_43 0 rfl ?_
  refine v_callVi0 hX dX12_joinAhead_45 c_RX12_492 cV_X12_compareRows (ci := 13) (T := TX12) (N := 115) rfl (by exact k1) [pI _, pI _, pI _, pI _] rfl rfl (Nat.le_of_ble_eq_true rfl) (by decide) (by decide)  (m_X12_compareRows h) (fun p17 s16 h => ?_)
  refine v_istore (lv' := [(6, _), (5, _), (4, _), (3, _), (2, _), (0, _), (1, _)]) hX dX12_joinAhead_48 (by decide) rfl ?_
  refine v_iload_n hX dX12_joinAhead_50 4 rfl rfl ?_
  refine v_iload_n hX dX12_joinAhead_51 3 rfl rfl ?_
  refine v_icmp_ne (tgt := 67) hX dX12_joinAhead_52 (by decide) (fun c18 => ?_) (fun c18 => ?_)
  · have h := h_E c18 h
    refine v_iload hX dX12_joinAhead_67 2 rfl ?_
    refine v_iload hX dX12_joinAhead_69 1 rfl ?_
    refine v_icmp_eq (tgt := 79) hX dX12_joinAhead_71 (by decide) (fun c19 => ?_) (fun c19 => ?_)
    · have h := h_T c19 h
      refine v_pick [5, 4, 3] rfl ?_
      exact b_X12_joinAhead_79 hX hE _ h
    · have h := h_E c19 h
      refine v_iload hX dX12_joinAhead_74 0 rfl ?_
      refine v_if_ne (tgt := 89) hX dX12_joinAhead_76 (by decide) (fun c20 => ?_) (fun c20 => ?_)
      · have h := h_E c20 h
        refine v_iload hX dX12_joinAhead_89 0 rfl ?_
        refine v_if_ge (tgt := 98) hX dX12_joinAhead_91 (by decide) (fun c21 => ?_) (fun c21 => ?_)
        · have h := h_T c21 h
          refine v_iconst (v := 1) hX dX12_joinAhead_98 (by decide) ?_
          refine v_pick [5, 4, 3, 2, 1] rfl ?_
          exact b_X12_joinAhead_99 hX hE _ h
        · have h := h_E c21 h
          refine v_iconst (v := 0) hX dX12_joinAhead_94 (by decide) ?_
          refine v_goto (tgt := 99) hX dX12_joinAhead_95 (by decide) ?_
          refine v_pick [5, 4, 3, 2, 1] rfl ?_
          exact b_X12_joinAhead_99 hX hE _ h
      · have h := h_T c20 h
        refine v_pick [5, 4, 3] rfl ?_
        exact b_X12_joinAhead_79 hX hE _ h
  · have h := h_T c18 h
    refine v_aload_n hX dX12_joinAhead_55 5 rfl rfl ?_
    refine v_iconst (v := 1) hX dX12_joinAhead_56 (by decide) ?_
    refine v_iload hX dX12_joinAhead_57 2 rfl ?_
    refine v_iload hX dX12_joinAhead_59 1 rfl ?_
    obtain ⟨k22, h⟩ := h
    refine v_callVv0 hX dX12_joinAhead_61 c_RX12_495 cV_X12_joinRow (ci := 13) (T := TX12) (N := 115) rfl (by exact k22) [pI _, pI _, pI _] rfl rfl (Nat.le_of_ble_eq_true rfl) (by decide) (by decide)  (m_X12_joinRow h) (fun s23 h => ?_)
    refine v_goto (tgt := 171) hX dX12_joinAhead_64 (by decide) ?_
    refine v_pick [] rfl ?_
    exact b_X12_joinAhead_171 hX hE _ h
set_option maxRecDepth 100000 in
set_option maxHeartbeats 4000000 in
theorem b_X12_piecesOfJoined_104 {X : h_X} (hX : h_ok X cX12_piecesOfJoined 4 RX12 1 26) {Q : Int32 → h_S → Prop} (hE : h_end X (some .int) (h_QI (x_Z X) Q)) {K9 : Nat → Int32 → Int32 → h_S → Prop} (hK9 : ∀ (o0 : Nat) (x1 : Int32) (x2 : Int32) (s : h_S), K9 o0 x1 x2 s → h_V X 4 9 [(0, pR (some o0)), (1, pI x1), (2, pI x2)] [] s 0 0) {o0 : Nat} {x1 : Int32} {x2 : Int32} (s : h_S) (h : w_X12_piecesOfJoined_104 Q K9 o0 x1 x2 s) : h_V X 4 104 [(0, pR (some o0)), (1, pI x1), (2, pI x2)] [] s 0 0 := by
  unfold w_X12_piecesOfJoined_104 at h
  refine v_iinc (c := 1) (lv' := [(2, _), (0, _), (1, _)]) hX dX12_piecesOfJoined_104 2 rfl (by decide) (by decide) rfl ?_
  refine v_goto (tgt := 9) hX dX12_piecesOfJoined_107 (by decide) ?_
  refine v_pick [1, 2, 0] rfl ?_
  exact hK9 _ _ _ _ h
set_option maxRecDepth 100000 in
set_option maxHeartbeats 4000000 in
theorem b_X12_piecesOfJoined_92 {X : h_X} (hX : h_ok X cX12_piecesOfJoined 4 RX12 1 26) {Q : Int32 → h_S → Prop} (hE : h_end X (some .int) (h_QI (x_Z X) Q)) {K9 : Nat → Int32 → Int32 → h_S → Prop} (hK9 : ∀ (o0 : Nat) (x1 : Int32) (x2 : Int32) (s : h_S), K9 o0 x1 x2 s → h_V X 4 9 [(0, pR (some o0)), (1, pI x1), (2, pI x2)] [] s 0 0) {o0 : Nat} {x1 : Int32} {x2 : Int32} (s : h_S) (h : w_X12_piecesOfJoined_92 Q K9 o0 x1 x2 s) : h_V X 4 92 [(0, pR (some o0)), (1, pI x1), (2, pI x2)] [] s 0 0 := by
  unfold w_X12_piecesOfJoined_92 at h
  refine v_aload_n hX dX12_piecesOfJoined_92 0 rfl rfl ?_
  obtain ⟨k1, h⟩ := h
  refine v_getR hX dX12_piecesOfJoined_93 f_RX12_109 rfl k1 ?_
  refine v_iload_n hX dX12_piecesOfJoined_96 1 rfl rfl ?_
  refine v_iconst (v := 1) hX dX12_piecesOfJoined_97 (by decide) ?_
  refine v_isub hX dX12_piecesOfJoined_98 ?_
  refine v_dup2 hX dX12_piecesOfJoined_99 rfl rfl ?_
  obtain ⟨a2, e_a2, h⟩ := h
  refine v_nn1 e_a2 ?_
  obtain ⟨k3, h⟩ := h
  obtain ⟨i4, h⟩ := h
  refine v_iald hX dX12_piecesOfJoined_100 k3 i4 ?_
  refine v_iconst (v := 1) hX dX12_piecesOfJoined_101 (by decide) ?_
  refine v_iadd hX dX12_piecesOfJoined_102 ?_
  obtain ⟨a5, e_a5, h⟩ := h
  refine v_nn2 e_a5 ?_
  obtain ⟨k6, h⟩ := h
  obtain ⟨i7, h⟩ := h
  refine v_iast hX dX12_piecesOfJoined_103 k6 i7 ?_
  refine v_pick [0, 1, 2] rfl ?_
  exact b_X12_piecesOfJoined_104 hX hE hK9 _ h
set_option maxRecDepth 100000 in
set_option maxHeartbeats 4000000 in
theorem b_X12_piecesOfJoined_56 {X : h_X} (hX : h_ok X cX12_piecesOfJoined 4 RX12 1 26) {Q : Int32 → h_S → Prop} (hE : h_end X (some .int) (h_QI (x_Z X) Q)) {K9 : Nat → Int32 → Int32 → h_S → Prop} (hK9 : ∀ (o0 : Nat) (x1 : Int32) (x2 : Int32) (s : h_S), K9 o0 x1 x2 s → h_V X 4 9 [(0, pR (some o0)), (1, pI x1), (2, pI x2)] [] s 0 0) {o0 : Nat} {x2 : Int32} {x3 : Int32} {y0 : Int32} {y1 : Int32} (s : h_S) (h : w_X12_piecesOfJoined_56 Q K9 o0 x2 x3 y0 y1 s) : h_V X 4 56 [(0, pR (some o0)), (2, pI x2), (3, pI x3)] [pI y0, pI y1] s 0 0 := by
  unfold w_X12_piecesOfJoined_56 at h
  refine v_iadd hX dX12_piecesOfJoined_56 ?_
  refine v_istore_n (lv' := [(1, _), (0, _), (2, _), (3, _)]) hX dX12_piecesOfJoined_57 rfl (by decide) rfl ?_
  refine v_iload_n hX dX12_piecesOfJoined_58 0 rfl rfl ?_
  refine v_bipush (v := 24) hX dX12_piecesOfJoined_59 (by decide) ?_
  refine v_icmp_gt (tgt := 104) hX dX12_piecesOfJoined_61 (by decide) (fun c1 => ?_) (fun c1 => ?_)
  · have h := h_T c1 h
    refine v_pick [1, 0, 2] rfl ?_
    exact b_X12_piecesOfJoined_104 hX hE hK9 _ h
  · have h := h_E c1 h
    refine v_iload_n hX dX12_piecesOfJoined_64 3 rfl rfl ?_
    refine v_if_ne (tgt := 92) hX dX12_piecesOfJoined_65 (by decide) (fun c2 => ?_) (fun c2 => ?_)
    · have h := h_E c2 h
      refine v_pick [1, 0, 2] rfl ?_
      exact b_X12_piecesOfJoined_92 hX hE hK9 _ h
    · have h := h_T c2 h
      refine v_aload_n hX dX12_piecesOfJoined_68 1 rfl rfl ?_
      refine v_iload_n hX dX12_piecesOfJoined_69 0 rfl rfl ?_
      refine v_iconst (v := 1) hX dX12_piecesOfJoined_70 (by decide) ?_
      refine v_isub hX dX12_piecesOfJoined_71 ?_
      refine v_iconst (v := 1) hX dX12_piecesOfJoined_72 (by decide) ?_
      refine v_aload_n hX dX12_piecesOfJoined_73 1 rfl rfl ?_
      obtain ⟨k3, h⟩ := h
      refine v_getR hX dX12_piecesOfJoined_74 f_RX12_183 rfl k3 ?_
      refine v_iload_n hX dX12_piecesOfJoined_77 2 rfl rfl ?_
      obtain ⟨a4, e_a4, h⟩ := h
      refine v_nn1 e_a4 ?_
      obtain ⟨k5, h⟩ := h
      obtain ⟨i6, h⟩ := h
      refine v_iald hX dX12_piecesOfJoined_78 k5 i6 ?_
      refine v_iconst (v := 0) hX dX12_piecesOfJoined_79 (by decide) ?_
      refine v_bipush (v := -9) hX dX12_piecesOfJoined_80 (by decide) ?_
      refine v_bipush (v := -9) hX dX12_piecesOfJoined_82 (by decide) ?_
      refine v_callVv0 hX dX12_piecesOfJoined_84 c_RX12_348 cV_X12_setPiece (ci := 13) (T := TX12) (N := 115) rfl (by exact k3) [pI _, pI _, pI _, pI _, pI _, pI _] rfl rfl (Nat.le_of_ble_eq_true rfl) (by decide) (by decide)  (m_X12_setPiece h) (fun s7 h => ?_)
      refine v_aload_n hX dX12_piecesOfJoined_87 1 rfl rfl ?_
      refine v_iload_n hX dX12_piecesOfJoined_88 0 rfl rfl ?_
      obtain ⟨k9, h⟩ := h
      refine v_putI hX dX12_piecesOfJoined_89 f_RX12_345 k9 ?_
      refine v_pick [1, 0, 2] rfl ?_
      exact b_X12_piecesOfJoined_92 hX hE hK9 _ h
set_option maxRecDepth 100000 in
set_option maxHeartbeats 4000000 in
theorem b_X12_piecesOfJoined_45 {X : h_X} (hX : h_ok X cX12_piecesOfJoined 4 RX12 1 26) {Q : Int32 → h_S → Prop} (hE : h_end X (some .int) (h_QI (x_Z X) Q)) {K9 : Nat → Int32 → Int32 → h_S → Prop} (hK9 : ∀ (o0 : Nat) (x1 : Int32) (x2 : Int32) (s : h_S), K9 o0 x1 x2 s → h_V X 4 9 [(0, pR (some o0)), (1, pI x1), (2, pI x2)] [] s 0 0) {o0 : Nat} {x1 : Int32} {x2 : Int32} {y0 : Int32} (s : h_S) (h : w_X12_piecesOfJoined_45 Q K9 o0 x1 x2 y0 s) : h_V X 4 45 [(0, pR (some o0)), (1, pI x1), (2, pI x2)] [pI y0] s 0 0 := by
  unfold w_X12_piecesOfJoined_45 at h
  refine v_istore_n (lv' := [(3, _), (0, _), (1, _), (2, _)]) hX dX12_piecesOfJoined_45 rfl (by decide) rfl ?_
  refine v_iload_n hX dX12_piecesOfJoined_46 2 rfl rfl ?_
  refine v_iload_n hX dX12_piecesOfJoined_47 0 rfl rfl ?_
  refine v_if_eq (tgt := 55) hX dX12_piecesOfJoined_48 (by decide) (fun c1 => ?_) (fun c1 => ?_)
  · have h := h_T c1 h
    refine v_iconst (v := 1) hX dX12_piecesOfJoined_55 (by decide) ?_
    refine v_pick [1, 3, 0] rfl ?_
    exact b_X12_piecesOfJoined_56 hX hE hK9 _ h
  · have h := h_E c1 h
    refine v_iconst (v := 0) hX dX12_piecesOfJoined_51 (by decide) ?_
    refine v_goto (tgt := 56) hX dX12_piecesOfJoined_52 (by decide) ?_
    refine v_pick [1, 3, 0] rfl ?_
    exact b_X12_piecesOfJoined_56 hX hE hK9 _ h
set_option maxRecDepth 100000 in
set_option maxHeartbeats 4000000 in
theorem b_X12_piecesOfJoined_44 {X : h_X} (hX : h_ok X cX12_piecesOfJoined 4 RX12 1 26) {Q : Int32 → h_S → Prop} (hE : h_end X (some .int) (h_QI (x_Z X) Q)) {K9 : Nat → Int32 → Int32 → h_S → Prop} (hK9 : ∀ (o0 : Nat) (x1 : Int32) (x2 : Int32) (s : h_S), K9 o0 x1 x2 s → h_V X 4 9 [(0, pR (some o0)), (1, pI x1), (2, pI x2)] [] s 0 0) {o0 : Nat} {x1 : Int32} {x2 : Int32} (s : h_S) (h : w_X12_piecesOfJoined_44 Q K9 o0 x1 x2 s) : h_V X 4 44 [(0, pR (some o0)), (1, pI x1), (2, pI x2)] [] s 0 0 := by
  unfold w_X12_piecesOfJoined_44 at h
  refine v_iconst (v := 0) hX dX12_piecesOfJoined_44 (by decide) ?_
  refine v_pick [0, 1, 2] rfl ?_
  exact b_X12_piecesOfJoined_45 hX hE hK9 _ h
set_option maxRecDepth 100000 in
set_option maxHeartbeats 4000000 in
theorem b_X12_piecesOfJoined_9 {X : h_X} (hX : h_ok X cX12_piecesOfJoined 4 RX12 1 26) {Q : Int32 → h_S → Prop} (hE : h_end X (some .int) (h_QI (x_Z X) Q)) : ∀ (n : Nat) (o0 : Nat) (x1 : Int32) (x2 : Int32) (s : h_S), w_X12_piecesOfJoined_9 Q n o0 x1 x2 s → h_V X 4 9 [(0, pR (some o0)), (1, pI x1), (2, pI x2)] [] s 0 0 := by
  intro n
  induction n with
  | zero => intro _ _ _ s h; exact h.elim
  | succ n hK9 =>
    intro o0 x1 x2 s h
    have h : w_X12_piecesOfJoined_9b Q (w_X12_piecesOfJoined_9 Q n) o0 x1 x2 s := h
    unfold w_X12_piecesOfJoined_9b at h
    refine v_iload_n hX dX12_piecesOfJoined_9 2 rfl rfl ?_
    refine v_aload_n hX dX12_piecesOfJoined_10 0 rfl rfl ?_
    obtain ⟨k1, h⟩ := h
    refine v_getI hX dX12_piecesOfJoined_11 f_RX12_483 rfl k1 ?_
    refine v_icmp_ge (tgt := 110) hX dX12_piecesOfJoined_14 (by decide) (fun c2 => ?_) (fun c2 => ?_)
    · have h := h_T c2 h
      refine v_iload_n hX dX12_piecesOfJoined_110 1 rfl rfl ?_
      exact v_iret hX hE dX12_piecesOfJoined_111 h
    · have h := h_E c2 h
      refine v_iload_n hX dX12_piecesOfJoined_17 2 rfl rfl ?_
      refine v_if_le (tgt := 44) hX dX12_piecesOfJoined_18 (by decide) (fun c3 => ?_) (fun c3 => ?_)
      · have h := h_T c3 h
        refine v_pick [0, 1, 2] rfl ?_
        exact b_X12_piecesOfJoined_44 hX hE hK9 _ h
      · have h := h_E c3 h
        refine v_aload_n hX dX12_piecesOfJoined_21 0 rfl rfl ?_
        refine v_getR hX dX12_piecesOfJoined_22 f_RX12_183 rfl k1 ?_
        refine v_iload_n hX dX12_piecesOfJoined_25 2 rfl rfl ?_
        obtain ⟨a4, e_a4, h⟩ := h
        refine v_nn1 e_a4 ?_
        obtain ⟨k5, h⟩ := h
        obtain ⟨i6, h⟩ := h
        refine v_iald hX dX12_piecesOfJoined_26 k5 i6 ?_
        refine v_aload_n hX dX12_piecesOfJoined_27 0 rfl rfl ?_
        refine v_getR hX dX12_piecesOfJoined_28 f_RX12_183 rfl k1 ?_
        refine v_iload_n hX dX12_piecesOfJoined_31 2 rfl rfl ?_
        refine v_iconst (v := 1) hX dX12_piecesOfJoined_32 (by decide) ?_
        refine v_isub hX dX12_piecesOfJoined_33 ?_
        obtain ⟨a7, e_a7, h⟩ := h
        refine v_nn1 e_a7 ?_
        obtain ⟨k8, h⟩ := h
        obtain ⟨i9, h⟩ := h
        refine v_iald hX dX12_piecesOfJoined_34 k8 i9 ?_
        refine v_iconst (v := 1) hX dX12_piecesOfJoined_35 (by decide) ?_
        refine v_iadd hX dX12_piecesOfJoined_36 ?_
        refine v_icmp_ne (tgt := 44) hX dX12_piecesOfJoined_37 (by decide) (fun c10 => ?_) (fun c10 => ?_)
        · have h := h_E c10 h
          refine v_pick [0, 1, 2] rfl ?_
          exact b_X12_piecesOfJoined_44 hX hE hK9 _ h
        · have h := h_T c10 h
          refine v_iconst (v := 1) hX dX12_piecesOfJoined_40 (by decide) ?_
          refine v_goto (tgt := 45) hX dX12_piecesOfJoined_41 (by decide) ?_
          refine v_pick [0, 1, 2] rfl ?_
          exact b_X12_piecesOfJoined_45 hX hE hK9 _ h
set_option maxRecDepth 100000 in
set_option maxHeartbeats 4000000 in
theorem m_X12_piecesOfJoined {Z : h_Z} {o0 : Nat} {s : h_S} {Q : Int32 → h_S → Prop} (h : w_X12_piecesOfJoined o0 s Q) : h_M Z yX12_piecesOfJoined cX12_piecesOfJoined 4 (some .int) 1 26 [pR (some o0)] s 0 0 (h_QI Z Q) := by
  refine h_M.of (by decide) (Nat.le_of_ble_eq_true rfl) (fun X hZ hX hE hI => ?_)
  subst hZ
  unfold w_X12_piecesOfJoined at h
  show h_V X 4 0 [(0, pR (some o0))] [] s 0 0
  refine v_aload_n hX dX12_piecesOfJoined_0 0 rfl rfl ?_
  refine v_iconst (v := 0) hX dX12_piecesOfJoined_1 (by decide) ?_
  obtain ⟨k1, h⟩ := h
  refine v_putI hX dX12_piecesOfJoined_2 f_RX12_345 k1 ?_
  refine v_iconst (v := 0) hX dX12_piecesOfJoined_5 (by decide) ?_
  refine v_istore_n (lv' := [(1, _), (0, _)]) hX dX12_piecesOfJoined_6 rfl (by decide) rfl ?_
  refine v_iconst (v := 0) hX dX12_piecesOfJoined_7 (by decide) ?_
  refine v_istore_n (lv' := [(2, _), (1, _), (0, _)]) hX dX12_piecesOfJoined_8 rfl (by decide) rfl ?_
  refine v_pick [2, 1, 0] rfl ?_
  obtain ⟨n, h⟩ := h
  exact b_X12_piecesOfJoined_9 hX hE n _ _ _ _ h
set_option maxRecDepth 100000 in
set_option maxHeartbeats 4000000 in
theorem b_X12_join_24 {X : h_X} (hX : h_ok X cX12_join 5 RX12 7 167) {Q : Int32 → h_S → Prop} (hE : h_end X (some .int) (h_QI (x_Z X) Q)) (s : h_S) (h : w_X12_join_24 Q s) : h_V X 5 24 [] [] s 0 0 := by
  unfold w_X12_join_24 at h
  refine v_iconst (v := -1) hX dX12_join_24 (by decide) ?_
  exact v_iret hX hE dX12_join_25 h
set_option maxRecDepth 100000 in
set_option maxHeartbeats 4000000 in
theorem b_X12_join_131 {X : h_X} (hX : h_ok X cX12_join 5 RX12 7 167) {Q : Int32 → h_S → Prop} (hE : h_end X (some .int) (h_QI (x_Z X) Q)) {K57 : Nat → Int32 → Int32 → h_S → Prop} (hK57 : ∀ (o0 : Nat) (x1 : Int32) (x4 : Int32) (s : h_S), K57 o0 x1 x4 s → h_V X 5 57 [(0, pR (some o0)), (1, pI x1), (4, pI x4)] [] s 0 0) {o0 : Nat} {x1 : Int32} {x4 : Int32} (s : h_S) (h : w_X12_join_131 Q K57 o0 x1 x4 s) : h_V X 5 131 [(0, pR (some o0)), (1, pI x1), (4, pI x4)] [] s 0 0 := by
  unfold w_X12_join_131 at h
  refine v_iinc (c := 1) (lv' := [(4, _), (0, _), (1, _)]) hX dX12_join_131 2 rfl (by decide) (by decide) rfl ?_
  refine v_goto (tgt := 57) hX dX12_join_134 (by decide) ?_
  refine v_pick [1, 2, 0] rfl ?_
  exact hK57 _ _ _ _ h
