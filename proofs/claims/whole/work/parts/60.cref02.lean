set_option maxRecDepth 100000 in
set_option maxHeartbeats 4000000 in
theorem b_X12_come2_26 {X : h_X} (hX : h_ok X cX12_come2 3 RX12 0 0) {Q : h_S → Prop} (hE : h_end X none (h_QV (x_Z X) Q)) {y0 : Int32} {y1 : Int32} {t2 : Option Nat} (s : h_S) (h : w_X12_come2_26 Q y0 y1 t2 s) : h_V X 3 26 [] [pI y0, pI y1, pR t2] s 0 0 := by
  unfold w_X12_come2_26 at h
  obtain ⟨a1, e_a1, h⟩ := h
  refine v_nn2 e_a1 ?_
  obtain ⟨k2, h⟩ := h
  obtain ⟨i3, h⟩ := h
  refine v_iast hX dX12_come2_26 k2 i3 ?_
  exact v_vret hX hE dX12_come2_27 h
set_option maxRecDepth 100000 in
set_option maxHeartbeats 4000000 in
theorem m_X12_come2 {Z : h_Z} {o0 : Nat} {x1 : Int32} {x2 : Int32} {s : h_S} {Q : h_S → Prop} (h : w_X12_come2 o0 x1 x2 s Q) : h_M Z yX12_come2 cX12_come2 3 none 0 0 [pR (some o0), pI x1, pI x2] s 0 0 (h_QV Z Q) := by
  refine h_M.of (by decide) (Nat.le_of_ble_eq_true rfl) (fun X hZ hX hE hI => ?_)
  subst hZ
  unfold w_X12_come2 at h
  show h_V X 3 0 [(0, pR (some o0)), (1, pI x1), (2, pI x2)] [] s 0 0
  refine v_aload_n hX dX12_come2_0 0 rfl rfl ?_
  obtain ⟨k1, h⟩ := h
  refine v_getR hX dX12_come2_1 f_RX12_139 rfl k1 ?_
  refine v_iload_n hX dX12_come2_4 1 rfl rfl ?_
  refine v_aload_n hX dX12_come2_5 0 rfl rfl ?_
  refine v_getR hX dX12_come2_6 f_RX12_139 rfl k1 ?_
  refine v_iload_n hX dX12_come2_9 1 rfl rfl ?_
  obtain ⟨a2, e_a2, h⟩ := h
  refine v_nn1 e_a2 ?_
  obtain ⟨k3, h⟩ := h
  obtain ⟨i4, h⟩ := h
  refine v_iald hX dX12_come2_10 k3 i4 ?_
  refine v_bipush (v := -9) hX dX12_come2_11 (by decide) ?_
  refine v_icmp_ne (tgt := 20) hX dX12_come2_13 (by decide) (fun c5 => ?_) (fun c5 => ?_)
  · have h := h_E c5 h
    refine v_aload_n hX dX12_come2_20 0 rfl rfl ?_
    refine v_getR hX dX12_come2_21 f_RX12_139 rfl k1 ?_
    refine v_iload_n hX dX12_come2_24 1 rfl rfl ?_
    obtain ⟨a6, e_a6, h⟩ := h
    refine v_nn1 e_a6 ?_
    obtain ⟨k7, h⟩ := h
    obtain ⟨i8, h⟩ := h
    refine v_iald hX dX12_come2_25 k7 i8 ?_
    refine v_pick [] rfl ?_
    exact b_X12_come2_26 hX hE _ h
  · have h := h_T c5 h
    refine v_iload_n hX dX12_come2_16 2 rfl rfl ?_
    refine v_goto (tgt := 26) hX dX12_come2_17 (by decide) ?_
    refine v_pick [] rfl ?_
    exact b_X12_come2_26 hX hE _ h
set_option maxRecDepth 100000 in
set_option maxHeartbeats 4000000 in
theorem b_X12_goFrom_137 {X : h_X} (hX : h_ok X cX12_goFrom 8 RX12 1 23) {Q : h_S → Prop} (hE : h_end X none (h_QV (x_Z X) Q)) {K14 : Nat → Int32 → Int32 → Int32 → Int32 → h_S → Prop} (hK14 : ∀ (o0 : Nat) (x2 : Int32) (x3 : Int32) (x4 : Int32) (x5 : Int32) (s : h_S), K14 o0 x2 x3 x4 x5 s → h_V X 8 14 [(0, pR (some o0)), (2, pI x2), (3, pI x3), (4, pI x4), (5, pI x5)] [] s 0 0) {o0 : Nat} {x2 : Int32} {x3 : Int32} {x4 : Int32} {x5 : Int32} (s : h_S) (h : w_X12_goFrom_137 Q K14 o0 x2 x3 x4 x5 s) : h_V X 8 137 [(0, pR (some o0)), (2, pI x2), (3, pI x3), (4, pI x4), (5, pI x5)] [] s 0 0 := by
  unfold w_X12_goFrom_137 at h
  refine v_iinc (c := 1) (lv' := [(5, _), (0, _), (2, _), (3, _), (4, _)]) hX dX12_goFrom_137 4 rfl (by decide) (by decide) rfl ?_
  refine v_goto (tgt := 14) hX dX12_goFrom_140 (by decide) ?_
  refine v_pick [1, 2, 3, 4, 0] rfl ?_
  exact hK14 _ _ _ _ _ _ h
set_option maxRecDepth 100000 in
set_option maxHeartbeats 4000000 in
theorem b_X12_goFrom_84 {X : h_X} (hX : h_ok X cX12_goFrom 8 RX12 1 23) {Q : h_S → Prop} (hE : h_end X none (h_QV (x_Z X) Q)) {K14 : Nat → Int32 → Int32 → Int32 → Int32 → h_S → Prop} (hK14 : ∀ (o0 : Nat) (x2 : Int32) (x3 : Int32) (x4 : Int32) (x5 : Int32) (s : h_S), K14 o0 x2 x3 x4 x5 s → h_V X 8 14 [(0, pR (some o0)), (2, pI x2), (3, pI x3), (4, pI x4), (5, pI x5)] [] s 0 0) : ∀ (n : Nat) (o0 : Nat) (x2 : Int32) (x3 : Int32) (x4 : Int32) (x5 : Int32) (x6 : Int32) (x7 : Int32) (s : h_S), w_X12_goFrom_84 Q K14 n o0 x2 x3 x4 x5 x6 x7 s → h_V X 8 84 [(0, pR (some o0)), (2, pI x2), (3, pI x3), (4, pI x4), (5, pI x5), (6, pI x6), (7, pI x7)] [] s 0 0 := by
  intro n
  induction n with
  | zero => intro _ _ _ _ _ _ _ s h; exact h.elim
  | succ n hK84 =>
    intro o0 x2 x3 x4 x5 x6 x7 s h
    have h : w_X12_goFrom_84b Q K14 (w_X12_goFrom_84 Q K14 n) o0 x2 x3 x4 x5 x6 x7 s := h
    unfold w_X12_goFrom_84b at h
    refine v_iload hX dX12_goFrom_84 6 rfl ?_
    refine v_aload_n hX dX12_goFrom_86 0 rfl rfl ?_
    obtain ⟨k1, h⟩ := h
    refine v_getR hX dX12_goFrom_87 f_RX12_46 rfl k1 ?_
    refine v_iload hX dX12_goFrom_90 5 rfl ?_
    obtain ⟨a2, e_a2, h⟩ := h
    refine v_nn1 e_a2 ?_
    obtain ⟨k3, h⟩ := h
    obtain ⟨i4, h⟩ := h
    refine v_iald hX dX12_goFrom_92 k3 i4 ?_
    refine v_icmp_ge (tgt := 137) hX dX12_goFrom_93 (by decide) (fun c5 => ?_) (fun c5 => ?_)
    · have h := h_T c5 h
      refine v_pick [0, 1, 2, 3, 4] rfl ?_
      exact b_X12_goFrom_137 hX hE hK14 _ h
    · have h := h_E c5 h
      refine v_aload_n hX dX12_goFrom_96 0 rfl rfl ?_
      refine v_getR hX dX12_goFrom_97 f_RX12_40 rfl k1 ?_
      refine v_iload hX dX12_goFrom_100 5 rfl ?_
      obtain ⟨a6, e_a6, h⟩ := h
      refine v_nn1 e_a6 ?_
      obtain ⟨k7, h⟩ := h
      obtain ⟨i8, h⟩ := h
      refine v_iald hX dX12_goFrom_102 k7 i8 ?_
      refine v_iconst (v := 1) hX dX12_goFrom_103 (by decide) ?_
      refine v_icmp_ne (tgt := 137) hX dX12_goFrom_104 (by decide) (fun c9 => ?_) (fun c9 => ?_)
      · have h := h_E c9 h
        refine v_pick [0, 1, 2, 3, 4] rfl ?_
        exact b_X12_goFrom_137 hX hE hK14 _ h
      · have h := h_T c9 h
        refine v_iload_n hX dX12_goFrom_107 2 rfl rfl ?_
        refine v_if_ne (tgt := 137) hX dX12_goFrom_108 (by decide) (fun c10 => ?_) (fun c10 => ?_)
        · have h := h_E c10 h
          refine v_pick [0, 1, 2, 3, 4] rfl ?_
          exact b_X12_goFrom_137 hX hE hK14 _ h
        · have h := h_T c10 h
          refine v_aload_n hX dX12_goFrom_111 0 rfl rfl ?_
          refine v_aload_n hX dX12_goFrom_112 0 rfl rfl ?_
          refine v_getR hX dX12_goFrom_113 f_RX12_61 rfl k1 ?_
          refine v_aload_n hX dX12_goFrom_116 0 rfl rfl ?_
          refine v_getR hX dX12_goFrom_117 f_RX12_43 rfl k1 ?_
          refine v_iload hX dX12_goFrom_120 5 rfl ?_
          obtain ⟨a11, e_a11, h⟩ := h
          refine v_nn1 e_a11 ?_
          obtain ⟨k12, h⟩ := h
          obtain ⟨i13, h⟩ := h
          refine v_iald hX dX12_goFrom_122 k12 i13 ?_
          refine v_iload hX dX12_goFrom_123 6 rfl ?_
          refine v_iadd hX dX12_goFrom_125 ?_
          obtain ⟨a14, e_a14, h⟩ := h
          refine v_nn1 e_a14 ?_
          obtain ⟨k15, h⟩ := h
          obtain ⟨i16, h⟩ := h
          refine v_iald hX dX12_goFrom_126 k15 i16 ?_
          refine v_iload_n hX dX12_goFrom_127 1 rfl rfl ?_
          refine v_callVv0 hX dX12_goFrom_128 c_RX12_435 cV_X12_come2 (ci := 13) (T := TX12) (N := 115) rfl (by exact k1) [pI _, pI _] rfl rfl (Nat.le_of_ble_eq_true rfl) (by decide) (by decide)  (m_X12_come2 h) (fun s17 h => ?_)
          refine v_iinc (c := 1) (lv' := [(7, _), (0, _), (2, _), (3, _), (4, _), (5, _), (6, _)]) hX dX12_goFrom_131 6 rfl (by decide) (by decide) rfl ?_
          refine v_goto (tgt := 84) hX dX12_goFrom_134 (by decide) ?_
          refine v_pick [1, 2, 3, 4, 5, 6, 0] rfl ?_
          exact hK84 _ _ _ _ _ _ _ _ h
set_option maxRecDepth 100000 in
set_option maxHeartbeats 4000000 in
theorem b_X12_goFrom_81 {X : h_X} (hX : h_ok X cX12_goFrom 8 RX12 1 23) {Q : h_S → Prop} (hE : h_end X none (h_QV (x_Z X) Q)) {K14 : Nat → Int32 → Int32 → Int32 → Int32 → h_S → Prop} (hK14 : ∀ (o0 : Nat) (x2 : Int32) (x3 : Int32) (x4 : Int32) (x5 : Int32) (s : h_S), K14 o0 x2 x3 x4 x5 s → h_V X 8 14 [(0, pR (some o0)), (2, pI x2), (3, pI x3), (4, pI x4), (5, pI x5)] [] s 0 0) {o0 : Nat} {x2 : Int32} {x3 : Int32} {x4 : Int32} {x5 : Int32} {x6 : Int32} (s : h_S) (h : w_X12_goFrom_81 Q K14 o0 x2 x3 x4 x5 x6 s) : h_V X 8 81 [(0, pR (some o0)), (2, pI x2), (3, pI x3), (4, pI x4), (5, pI x5), (6, pI x6)] [] s 0 0 := by
  unfold w_X12_goFrom_81 at h
  refine v_iconst (v := 0) hX dX12_goFrom_81 (by decide) ?_
  refine v_istore (lv' := [(7, _), (0, _), (2, _), (3, _), (4, _), (5, _), (6, _)]) hX dX12_goFrom_82 (by decide) rfl ?_
  refine v_pick [1, 2, 3, 4, 5, 6, 0] rfl ?_
  obtain ⟨n, h⟩ := h
  exact b_X12_goFrom_84 hX hE hK14 n _ _ _ _ _ _ _ _ h
set_option maxRecDepth 100000 in
set_option maxHeartbeats 4000000 in
theorem b_X12_goFrom_69 {X : h_X} (hX : h_ok X cX12_goFrom 8 RX12 1 23) {Q : h_S → Prop} (hE : h_end X none (h_QV (x_Z X) Q)) {K14 : Nat → Int32 → Int32 → Int32 → Int32 → h_S → Prop} (hK14 : ∀ (o0 : Nat) (x2 : Int32) (x3 : Int32) (x4 : Int32) (x5 : Int32) (s : h_S), K14 o0 x2 x3 x4 x5 s → h_V X 8 14 [(0, pR (some o0)), (2, pI x2), (3, pI x3), (4, pI x4), (5, pI x5)] [] s 0 0) {o0 : Nat} {x2 : Int32} {x3 : Int32} {x4 : Int32} {x5 : Int32} {x6 : Int32} (s : h_S) (h : w_X12_goFrom_69 Q K14 o0 x2 x3 x4 x5 x6 s) : h_V X 8 69 [(0, pR (some o0)), (2, pI x2), (3, pI x3), (4, pI x4), (5, pI x5), (6, pI x6)] [] s 0 0 := by
  unfold w_X12_goFrom_69 at h
  refine v_aload_n hX dX12_goFrom_69 0 rfl rfl ?_
  refine v_aload_n hX dX12_goFrom_70 0 rfl rfl ?_
  obtain ⟨k1, h⟩ := h
  refine v_getR hX dX12_goFrom_71 f_RX12_49 rfl k1 ?_
  refine v_iload hX dX12_goFrom_74 5 rfl ?_
  obtain ⟨a2, e_a2, h⟩ := h
  refine v_nn1 e_a2 ?_
  obtain ⟨k3, h⟩ := h
  obtain ⟨i4, h⟩ := h
  refine v_iald hX dX12_goFrom_76 k3 i4 ?_
  refine v_iload_n hX dX12_goFrom_77 1 rfl rfl ?_
  refine v_callVv0 hX dX12_goFrom_78 c_RX12_435 cV_X12_come2 (ci := 13) (T := TX12) (N := 115) rfl (by exact k1) [pI _, pI _] rfl rfl (Nat.le_of_ble_eq_true rfl) (by decide) (by decide)  (m_X12_come2 h) (fun s5 h => ?_)
  refine v_pick [0, 1, 2, 3, 4, 5] rfl ?_
  exact b_X12_goFrom_81 hX hE hK14 _ h
set_option maxRecDepth 100000 in
set_option maxHeartbeats 4000000 in
theorem b_X12_goFrom_143 {X : h_X} (hX : h_ok X cX12_goFrom 8 RX12 1 23) {Q : h_S → Prop} (hE : h_end X none (h_QV (x_Z X) Q)) (s : h_S) (h : w_X12_goFrom_143 Q s) : h_V X 8 143 [] [] s 0 0 := by
  unfold w_X12_goFrom_143 at h
  exact v_vret hX hE dX12_goFrom_143 h
set_option maxRecDepth 100000 in
set_option maxHeartbeats 4000000 in
theorem b_X12_goFrom_14 {X : h_X} (hX : h_ok X cX12_goFrom 8 RX12 1 23) {Q : h_S → Prop} (hE : h_end X none (h_QV (x_Z X) Q)) : ∀ (n : Nat) (o0 : Nat) (x2 : Int32) (x3 : Int32) (x4 : Int32) (x5 : Int32) (s : h_S), w_X12_goFrom_14 Q n o0 x2 x3 x4 x5 s → h_V X 8 14 [(0, pR (some o0)), (2, pI x2), (3, pI x3), (4, pI x4), (5, pI x5)] [] s 0 0 := by
  intro n
  induction n with
  | zero => intro _ _ _ _ _ s h; exact h.elim
  | succ n hK14 =>
    intro o0 x2 x3 x4 x5 s h
    have h : w_X12_goFrom_14b Q (w_X12_goFrom_14 Q n) o0 x2 x3 x4 x5 s := h
    unfold w_X12_goFrom_14b at h
    refine v_iload hX dX12_goFrom_14 3 rfl ?_
    refine v_if_lt (tgt := 143) hX dX12_goFrom_16 (by decide) (fun c1 => ?_) (fun c1 => ?_)
    · have h := h_T c1 h
      refine v_pick [] rfl ?_
      exact b_X12_goFrom_143 hX hE _ h
    · have h := h_E c1 h
      refine v_iload hX dX12_goFrom_19 4 rfl ?_
      refine v_aload_n hX dX12_goFrom_21 0 rfl rfl ?_
      obtain ⟨k2, h⟩ := h
      refine v_getR hX dX12_goFrom_22 f_RX12_37 rfl k2 ?_
      refine v_iload hX dX12_goFrom_25 3 rfl ?_
      obtain ⟨a3, e_a3, h⟩ := h
      refine v_nn1 e_a3 ?_
      obtain ⟨k4, h⟩ := h
      obtain ⟨i5, h⟩ := h
      refine v_iald hX dX12_goFrom_27 k4 i5 ?_
      refine v_icmp_ge (tgt := 143) hX dX12_goFrom_28 (by decide) (fun c6 => ?_) (fun c6 => ?_)
      · have h := h_T c6 h
        refine v_pick [] rfl ?_
        exact b_X12_goFrom_143 hX hE _ h
      · have h := h_E c6 h
        refine v_aload_n hX dX12_goFrom_31 0 rfl rfl ?_
        refine v_getR hX dX12_goFrom_32 f_RX12_34 rfl k2 ?_
        refine v_iload hX dX12_goFrom_35 3 rfl ?_
        obtain ⟨a7, e_a7, h⟩ := h
        refine v_nn1 e_a7 ?_
        obtain ⟨k8, h⟩ := h
        obtain ⟨i9, h⟩ := h
        refine v_iald hX dX12_goFrom_37 k8 i9 ?_
        refine v_iload hX dX12_goFrom_38 4 rfl ?_
        refine v_iadd hX dX12_goFrom_40 ?_
        refine v_istore (lv' := [(6, _), (0, _), (2, _), (3, _), (4, _), (5, _)]) hX dX12_goFrom_41 (by decide) rfl ?_
        refine v_aload_n hX dX12_goFrom_43 1 rfl rfl ?_
        refine v_getR hX dX12_goFrom_44 f_RX12_40 rfl k2 ?_
        refine v_iload hX dX12_goFrom_47 0 rfl ?_
        obtain ⟨a10, e_a10, h⟩ := h
        refine v_nn1 e_a10 ?_
        obtain ⟨k11, h⟩ := h
        obtain ⟨i12, h⟩ := h
        refine v_iald hX dX12_goFrom_49 k11 i12 ?_
        refine v_iconst (v := 3) hX dX12_goFrom_50 (by decide) ?_
        refine v_icmp_eq (tgt := 69) hX dX12_goFrom_51 (by decide) (fun c13 => ?_) (fun c13 => ?_)
        · have h := h_T c13 h
          refine v_pick [1, 2, 3, 4, 5, 0] rfl ?_
          exact b_X12_goFrom_69 hX hE hK14 _ h
        · have h := h_E c13 h
          refine v_aload_n hX dX12_goFrom_54 1 rfl rfl ?_
          refine v_getR hX dX12_goFrom_55 f_RX12_40 rfl k2 ?_
          refine v_iload hX dX12_goFrom_58 0 rfl ?_
          obtain ⟨a14, e_a14, h⟩ := h
          refine v_nn1 e_a14 ?_
          obtain ⟨k15, h⟩ := h
          obtain ⟨i16, h⟩ := h
          refine v_iald hX dX12_goFrom_60 k15 i16 ?_
          refine v_iconst (v := 2) hX dX12_goFrom_61 (by decide) ?_
          refine v_icmp_ne (tgt := 81) hX dX12_goFrom_62 (by decide) (fun c17 => ?_) (fun c17 => ?_)
          · have h := h_E c17 h
            refine v_pick [1, 2, 3, 4, 5, 0] rfl ?_
            exact b_X12_goFrom_81 hX hE hK14 _ h
          · have h := h_T c17 h
            refine v_iload_n hX dX12_goFrom_65 3 rfl rfl ?_
            refine v_if_ne (tgt := 81) hX dX12_goFrom_66 (by decide) (fun c18 => ?_) (fun c18 => ?_)
            · have h := h_E c18 h
              refine v_pick [1, 2, 3, 4, 5, 0] rfl ?_
              exact b_X12_goFrom_81 hX hE hK14 _ h
            · have h := h_T c18 h
              refine v_pick [1, 2, 3, 4, 5, 0] rfl ?_
              exact b_X12_goFrom_69 hX hE hK14 _ h
set_option maxRecDepth 100000 in
set_option maxHeartbeats 4000000 in
theorem m_X12_goFrom {Z : h_Z} {o0 : Nat} {x1 : Int32} {x2 : Int32} {x3 : Int32} {s : h_S} {Q : h_S → Prop} (h : w_X12_goFrom o0 x1 x2 x3 s Q) : h_M Z yX12_goFrom cX12_goFrom 8 none 1 23 [pR (some o0), pI x1, pI x2, pI x3] s 0 0 (h_QV Z Q) := by
  refine h_M.of (by decide) (Nat.le_of_ble_eq_true rfl) (fun X hZ hX hE hI => ?_)
  subst hZ
  unfold w_X12_goFrom at h
  show h_V X 8 0 [(0, pR (some o0)), (1, pI x1), (2, pI x2), (3, pI x3)] [] s 0 0
  refine v_aload_n hX dX12_goFrom_0 0 rfl rfl ?_
  refine v_iload_n hX dX12_goFrom_1 1 rfl rfl ?_
  refine v_aload_n hX dX12_goFrom_2 0 rfl rfl ?_
  obtain ⟨k1, h⟩ := h
  refine v_getI hX dX12_goFrom_3 f_RX12_288 rfl k1 ?_
  refine v_callVi0 hX dX12_goFrom_6 c_RX12_324 cV_X12_logOf (ci := 13) (T := TX12) (N := 115) rfl (by exact k1) [pI _, pI _] rfl rfl (Nat.le_of_ble_eq_true rfl) (by decide) (by decide)  (m_X12_logOf h) (fun p3 s2 h => ?_)
  refine v_istore (lv' := [(4, _), (0, _), (1, _), (2, _), (3, _)]) hX dX12_goFrom_9 (by decide) rfl ?_
  refine v_iconst (v := 0) hX dX12_goFrom_11 (by decide) ?_
  refine v_istore (lv' := [(5, _), (4, _), (0, _), (1, _), (2, _), (3, _)]) hX dX12_goFrom_12 (by decide) rfl ?_
  refine v_pick [2, 4, 5, 1, 0] rfl ?_
  obtain ⟨n, h⟩ := h
  exact b_X12_goFrom_14 hX hE n _ _ _ _ _ _ h
set_option maxRecDepth 100000 in
set_option maxHeartbeats 4000000 in
theorem b_X12_laySteps_26 {X : h_X} (hX : h_ok X cX12_laySteps 5 RX12 2 50) {Q : h_S → Prop} (hE : h_end X none (h_QV (x_Z X) Q)) {K2 : Nat → Int32 → Int32 → Int32 → h_S → Prop} (hK2 : ∀ (o0 : Nat) (x1 : Int32) (x2 : Int32) (x3 : Int32) (s : h_S), K2 o0 x1 x2 x3 s → h_V X 5 2 [(0, pR (some o0)), (1, pI x1), (2, pI x2), (3, pI x3)] [] s 0 0) {o0 : Nat} {x1 : Int32} {x2 : Int32} {x3 : Int32} {y0 : Int32} {y1 : Int32} {t2 : Option Nat} (s : h_S) (h : w_X12_laySteps_26 Q K2 o0 x1 x2 x3 y0 y1 t2 s) : h_V X 5 26 [(0, pR (some o0)), (1, pI x1), (2, pI x2), (3, pI x3)] [pI y0, pI y1, pR t2] s 0 0 := by
  unfold w_X12_laySteps_26 at h
  obtain ⟨a1, e_a1, h⟩ := h
  refine v_nn2 e_a1 ?_
  obtain ⟨k2, h⟩ := h
  obtain ⟨i3, h⟩ := h
  refine v_iast hX dX12_laySteps_26 k2 i3 ?_
  refine v_iinc (c := 1) (lv' := [(3, _), (0, _), (1, _), (2, _)]) hX dX12_laySteps_27 3 rfl (by decide) (by decide) rfl ?_
  refine v_goto (tgt := 2) hX dX12_laySteps_30 (by decide) ?_
  refine v_pick [1, 2, 3, 0] rfl ?_
  exact hK2 _ _ _ _ _ h
set_option maxRecDepth 100000 in
set_option maxHeartbeats 4000000 in
theorem b_X12_laySteps_76 {X : h_X} (hX : h_ok X cX12_laySteps 5 RX12 2 50) {Q : h_S → Prop} (hE : h_end X none (h_QV (x_Z X) Q)) {K35 : Nat → Int32 → Int32 → h_S → Prop} (hK35 : ∀ (o0 : Nat) (x2 : Int32) (x3 : Int32) (s : h_S), K35 o0 x2 x3 s → h_V X 5 35 [(0, pR (some o0)), (2, pI x2), (3, pI x3)] [] s 0 0) {K46 : Nat → Int32 → Int32 → Int32 → h_S → Prop} (hK46 : ∀ (o0 : Nat) (x2 : Int32) (x3 : Int32) (x4 : Int32) (s : h_S), K46 o0 x2 x3 x4 s → h_V X 5 46 [(0, pR (some o0)), (2, pI x2), (3, pI x3), (4, pI x4)] [] s 0 0) {o0 : Nat} {x2 : Int32} {x3 : Int32} {x4 : Int32} (s : h_S) (h : w_X12_laySteps_76 Q K35 K46 o0 x2 x3 x4 s) : h_V X 5 76 [(0, pR (some o0)), (2, pI x2), (3, pI x3), (4, pI x4)] [] s 0 0 := by
  unfold w_X12_laySteps_76 at h
  refine v_iinc (c := 1) (lv' := [(4, _), (0, _), (2, _), (3, _)]) hX dX12_laySteps_76 3 rfl (by decide) (by decide) rfl ?_
  refine v_goto (tgt := 46) hX dX12_laySteps_79 (by decide) ?_
  refine v_pick [1, 2, 3, 0] rfl ?_
  exact hK46 _ _ _ _ _ h
set_option maxRecDepth 100000 in
set_option maxHeartbeats 4000000 in
theorem b_X12_laySteps_46 {X : h_X} (hX : h_ok X cX12_laySteps 5 RX12 2 50) {Q : h_S → Prop} (hE : h_end X none (h_QV (x_Z X) Q)) {K35 : Nat → Int32 → Int32 → h_S → Prop} (hK35 : ∀ (o0 : Nat) (x2 : Int32) (x3 : Int32) (s : h_S), K35 o0 x2 x3 s → h_V X 5 35 [(0, pR (some o0)), (2, pI x2), (3, pI x3)] [] s 0 0) : ∀ (n : Nat) (o0 : Nat) (x2 : Int32) (x3 : Int32) (x4 : Int32) (s : h_S), w_X12_laySteps_46 Q K35 n o0 x2 x3 x4 s → h_V X 5 46 [(0, pR (some o0)), (2, pI x2), (3, pI x3), (4, pI x4)] [] s 0 0 := by
  intro n
  induction n with
  | zero => intro _ _ _ _ s h; exact h.elim
  | succ n hK46 =>
    intro o0 x2 x3 x4 s h
    have h : w_X12_laySteps_46b Q K35 (w_X12_laySteps_46 Q K35 n) o0 x2 x3 x4 s := h
    unfold w_X12_laySteps_46b at h
    refine v_iload hX dX12_laySteps_46 3 rfl ?_
    refine v_aload_n hX dX12_laySteps_48 0 rfl rfl ?_
    obtain ⟨k1, h⟩ := h
    refine v_getI hX dX12_laySteps_49 f_RX12_314 rfl k1 ?_
    refine v_icmp_ge (tgt := 82) hX dX12_laySteps_52 (by decide) (fun c2 => ?_) (fun c2 => ?_)
    · have h := h_T c2 h
      refine v_iinc (c := 1) (lv' := [(3, _), (0, _), (2, _), (4, _)]) hX dX12_laySteps_82 2 rfl (by decide) (by decide) rfl ?_
      refine v_goto (tgt := 35) hX dX12_laySteps_85 (by decide) ?_
      refine v_pick [1, 2, 0] rfl ?_
      exact hK35 _ _ _ _ h
    · have h := h_E c2 h
      refine v_aload_n hX dX12_laySteps_55 0 rfl rfl ?_
      refine v_getR hX dX12_laySteps_56 f_RX12_139 rfl k1 ?_
      refine v_iload hX dX12_laySteps_59 3 rfl ?_
      obtain ⟨a3, e_a3, h⟩ := h
      refine v_nn1 e_a3 ?_
      obtain ⟨k4, h⟩ := h
      obtain ⟨i5, h⟩ := h
      refine v_iald hX dX12_laySteps_61 k4 i5 ?_
      refine v_iload_n hX dX12_laySteps_62 2 rfl rfl ?_
      refine v_icmp_ne (tgt := 76) hX dX12_laySteps_63 (by decide) (fun c6 => ?_) (fun c6 => ?_)
      · have h := h_E c6 h
        refine v_pick [0, 1, 2, 3] rfl ?_
        exact b_X12_laySteps_76 hX hE hK35 hK46 _ h
      · have h := h_T c6 h
        refine v_aload_n hX dX12_laySteps_66 0 rfl rfl ?_
        refine v_iload hX dX12_laySteps_67 3 rfl ?_
        refine v_iload_n hX dX12_laySteps_69 2 rfl rfl ?_
        refine v_iconst (v := 1) hX dX12_laySteps_70 (by decide) ?_
        refine v_iadd hX dX12_laySteps_71 ?_
        refine v_iload_n hX dX12_laySteps_72 1 rfl rfl ?_
        refine v_callVv0 hX dX12_laySteps_73 c_RX12_431 cV_X12_goFrom (ci := 13) (T := TX12) (N := 115) rfl (by exact k1) [pI _, pI _, pI _] rfl rfl (Nat.le_of_ble_eq_true rfl) (by decide) (by decide)  (m_X12_goFrom h) (fun s7 h => ?_)
        refine v_pick [0, 1, 2, 3] rfl ?_
        exact b_X12_laySteps_76 hX hE hK35 hK46 _ h
set_option maxRecDepth 100000 in
set_option maxHeartbeats 4000000 in
theorem b_X12_laySteps_35 {X : h_X} (hX : h_ok X cX12_laySteps 5 RX12 2 50) {Q : h_S → Prop} (hE : h_end X none (h_QV (x_Z X) Q)) : ∀ (n : Nat) (o0 : Nat) (x2 : Int32) (x3 : Int32) (s : h_S), w_X12_laySteps_35 Q n o0 x2 x3 s → h_V X 5 35 [(0, pR (some o0)), (2, pI x2), (3, pI x3)] [] s 0 0 := by
  intro n
  induction n with
  | zero => intro _ _ _ s h; exact h.elim
  | succ n hK35 =>
    intro o0 x2 x3 s h
    have h : w_X12_laySteps_35b Q (w_X12_laySteps_35 Q n) o0 x2 x3 s := h
    unfold w_X12_laySteps_35b at h
    refine v_iload_n hX dX12_laySteps_35 2 rfl rfl ?_
    refine v_aload_n hX dX12_laySteps_36 0 rfl rfl ?_
    obtain ⟨k1, h⟩ := h
    refine v_getI hX dX12_laySteps_37 f_RX12_314 rfl k1 ?_
    refine v_icmp_ge (tgt := 88) hX dX12_laySteps_40 (by decide) (fun c2 => ?_) (fun c2 => ?_)
    · have h := h_T c2 h
      exact v_vret hX hE dX12_laySteps_88 h
    · have h := h_E c2 h
      refine v_iconst (v := 0) hX dX12_laySteps_43 (by decide) ?_
      refine v_istore (lv' := [(4, _), (0, _), (2, _), (3, _)]) hX dX12_laySteps_44 (by decide) rfl ?_
      refine v_pick [1, 2, 3, 0] rfl ?_
      obtain ⟨n, h⟩ := h
      exact b_X12_laySteps_46 hX hE hK35 n _ _ _ _ _ h
set_option maxRecDepth 100000 in
set_option maxHeartbeats 4000000 in
theorem b_X12_laySteps_2 {X : h_X} (hX : h_ok X cX12_laySteps 5 RX12 2 50) {Q : h_S → Prop} (hE : h_end X none (h_QV (x_Z X) Q)) : ∀ (n : Nat) (o0 : Nat) (x1 : Int32) (x2 : Int32) (x3 : Int32) (s : h_S), w_X12_laySteps_2 Q n o0 x1 x2 x3 s → h_V X 5 2 [(0, pR (some o0)), (1, pI x1), (2, pI x2), (3, pI x3)] [] s 0 0 := by
  intro n
  induction n with
  | zero => intro _ _ _ _ s h; exact h.elim
  | succ n hK2 =>
    intro o0 x1 x2 x3 s h
    have h : w_X12_laySteps_2b Q (w_X12_laySteps_2 Q n) o0 x1 x2 x3 s := h
    unfold w_X12_laySteps_2b at h
    refine v_iload_n hX dX12_laySteps_2 3 rfl rfl ?_
    refine v_aload_n hX dX12_laySteps_3 0 rfl rfl ?_
    obtain ⟨k1, h⟩ := h
    refine v_getI hX dX12_laySteps_4 f_RX12_314 rfl k1 ?_
    refine v_icmp_ge (tgt := 33) hX dX12_laySteps_7 (by decide) (fun c2 => ?_) (fun c2 => ?_)
    · have h := h_T c2 h
      refine v_iconst (v := 0) hX dX12_laySteps_33 (by decide) ?_
      refine v_istore_n (lv' := [(3, _), (0, _), (1, _), (2, _)]) hX dX12_laySteps_34 rfl (by decide) rfl ?_
      refine v_pick [1, 3, 0] rfl ?_
      obtain ⟨n, h⟩ := h
      exact b_X12_laySteps_35 hX hE n _ _ _ _ h
    · have h := h_E c2 h
      refine v_aload_n hX dX12_laySteps_10 0 rfl rfl ?_
      refine v_getR hX dX12_laySteps_11 f_RX12_139 rfl k1 ?_
      refine v_iload_n hX dX12_laySteps_14 3 rfl rfl ?_
      refine v_iload_n hX dX12_laySteps_15 3 rfl rfl ?_
      refine v_iload_n hX dX12_laySteps_16 1 rfl rfl ?_
      refine v_icmp_ne (tgt := 24) hX dX12_laySteps_17 (by decide) (fun c3 => ?_) (fun c3 => ?_)
      · have h := h_E c3 h
        refine v_bipush (v := -9) hX dX12_laySteps_24 (by decide) ?_
        refine v_pick [0, 1, 2, 3] rfl ?_
        exact b_X12_laySteps_26 hX hE hK2 _ h
      · have h := h_T c3 h
        refine v_iconst (v := 0) hX dX12_laySteps_20 (by decide) ?_
        refine v_goto (tgt := 26) hX dX12_laySteps_21 (by decide) ?_
        refine v_pick [0, 1, 2, 3] rfl ?_
        exact b_X12_laySteps_26 hX hE hK2 _ h
set_option maxRecDepth 100000 in
set_option maxHeartbeats 4000000 in
theorem m_X12_laySteps {Z : h_Z} {o0 : Nat} {x1 : Int32} {x2 : Int32} {s : h_S} {Q : h_S → Prop} (h : w_X12_laySteps o0 x1 x2 s Q) : h_M Z yX12_laySteps cX12_laySteps 5 none 2 50 [pR (some o0), pI x1, pI x2] s 0 0 (h_QV Z Q) := by
  refine h_M.of (by decide) (Nat.le_of_ble_eq_true rfl) (fun X hZ hX hE hI => ?_)
  subst hZ
  unfold w_X12_laySteps at h
  show h_V X 5 0 [(0, pR (some o0)), (1, pI x1), (2, pI x2)] [] s 0 0
  refine v_iconst (v := 0) hX dX12_laySteps_0 (by decide) ?_
  refine v_istore_n (lv' := [(3, _), (0, _), (1, _), (2, _)]) hX dX12_laySteps_1 rfl (by decide) rfl ?_
  refine v_pick [1, 2, 3, 0] rfl ?_
  obtain ⟨n, h⟩ := h
  exact b_X12_laySteps_2 hX hE n _ _ _ _ _ h
set_option maxRecDepth 100000 in
set_option maxHeartbeats 4000000 in
theorem b_X12_live_25 {X : h_X} (hX : h_ok X cX12_live 6 RX12 5 119) {Q : Int32 → h_S → Prop} (hE : h_end X (some .int) (h_QI (x_Z X) Q)) (s : h_S) (h : w_X12_live_25 Q s) : h_V X 6 25 [] [] s 0 0 := by
  unfold w_X12_live_25 at h
  refine v_iconst (v := -1) hX dX12_live_25 (by decide) ?_
  exact v_iret hX hE dX12_live_26 h
set_option maxRecDepth 100000 in
set_option maxHeartbeats 4000000 in
theorem b_X12_live_125 {X : h_X} (hX : h_ok X cX12_live 6 RX12 5 119) {Q : Int32 → h_S → Prop} (hE : h_end X (some .int) (h_QI (x_Z X) Q)) {y0 : Int32} (s : h_S) (h : w_X12_live_125 Q y0 s) : h_V X 6 125 [] [pI y0] s 0 0 := by
  unfold w_X12_live_125 at h
  exact v_iret hX hE dX12_live_125 h
set_option maxRecDepth 100000 in
set_option maxHeartbeats 4000000 in
theorem m_X12_live {Z : h_Z} {o0 : Nat} {x1 : Int32} {x2 : Int32} {x3 : Int32} {x4 : Int32} {x5 : Int32} {s : h_S} {Q : Int32 → h_S → Prop} (h : w_X12_live o0 x1 x2 x3 x4 x5 s Q) : h_M Z yX12_live cX12_live 6 (some .int) 5 119 [pR (some o0), pI x1, pI x2, pI x3, pI x4, pI x5] s 0 0 (h_QI Z Q) := by
  refine h_M.of (by decide) (Nat.le_of_ble_eq_true rfl) (fun X hZ hX hE hI => ?_)
  subst hZ
  unfold w_X12_live at h
  show h_V X 6 0 [(0, pR (some o0)), (1, pI x1), (2, pI x2), (3, pI x3), (4, pI x4), (5, pI x5)] [] s 0 0
  refine v_aload_n hX dX12_live_0 0 rfl rfl ?_
  refine v_iload_n hX dX12_live_1 1 rfl rfl ?_
  obtain ⟨k1, h⟩ := h
  refine v_callVi0 hX dX12_live_2 c_RX12_379 cV_X12_noWriting (ci := 13) (T := TX12) (N := 115) rfl (by exact k1) [pI _] rfl rfl (Nat.le_of_ble_eq_true rfl) (by decide) (by decide)  (m_X12_noWriting h) (fun p3 s2 h => ?_)
  refine v_if_ne (tgt := 25) hX dX12_live_5 (by decide) (fun c4 => ?_) (fun c4 => ?_)
  · have h := h_E c4 h
    refine v_pick [] rfl ?_
    exact b_X12_live_25 hX hE _ h
  · have h := h_T c4 h
    refine v_aload_n hX dX12_live_8 0 rfl rfl ?_
    refine v_iload_n hX dX12_live_9 3 rfl rfl ?_
    obtain ⟨k5, h⟩ := h
    refine v_callVi0 hX dX12_live_10 c_RX12_379 cV_X12_noWriting (ci := 13) (T := TX12) (N := 115) rfl (by exact k5) [pI _] rfl rfl (Nat.le_of_ble_eq_true rfl) (by decide) (by decide)  (m_X12_noWriting h) (fun p7 s6 h => ?_)
    refine v_if_ne (tgt := 25) hX dX12_live_13 (by decide) (fun c8 => ?_) (fun c8 => ?_)
    · have h := h_E c8 h
      refine v_pick [] rfl ?_
      exact b_X12_live_25 hX hE _ h
    · have h := h_T c8 h
      refine v_aload_n hX dX12_live_16 0 rfl rfl ?_
      refine v_iload_n hX dX12_live_17 1 rfl rfl ?_
      refine v_iload_n hX dX12_live_18 2 rfl rfl ?_
      obtain ⟨k9, h⟩ := h
      refine v_callVi0 hX dX12_live_19 c_RX12_385 cV_X12_noPlaceAhead (ci := 13) (T := TX12) (N := 115) rfl (by exact k9) [pI _, pI _] rfl rfl (Nat.le_of_ble_eq_true rfl) (by decide) (by decide)  (m_X12_noPlaceAhead h) (fun p11 s10 h => ?_)
      refine v_if_eq (tgt := 27) hX dX12_live_22 (by decide) (fun c12 => ?_) (fun c12 => ?_)
      · have h := h_T c12 h
        refine v_iload hX dX12_live_27 4 rfl ?_
        refine v_iload hX dX12_live_29 5 rfl ?_
        refine v_callSi0 hX dX12_live_31 c_RX12_428 cS_X12_isWindow [pI _, pI _] rfl rfl (Nat.le_of_ble_eq_true rfl) (by decide) (by decide)  (m_X12_isWindow h) (fun p14 s13 h => ?_)
        refine v_if_ne (tgt := 40) hX dX12_live_34 (by decide) (fun c15 => ?_) (fun c15 => ?_)
        · have h := h_E c15 h
          refine v_aload_n hX dX12_live_40 0 rfl rfl ?_
          refine v_aload_n hX dX12_live_41 0 rfl rfl ?_
          obtain ⟨k16, h⟩ := h
          refine v_getR hX dX12_live_42 f_RX12_22 rfl k16 ?_
          refine v_iload_n hX dX12_live_45 1 rfl rfl ?_
          obtain ⟨a17, e_a17, h⟩ := h
          refine v_nn1 e_a17 ?_
          obtain ⟨k18, h⟩ := h
          obtain ⟨i19, h⟩ := h
          refine v_iald hX dX12_live_46 k18 i19 ?_
          refine v_iload_n hX dX12_live_47 3 rfl rfl ?_
          refine v_iconst (v := 1) hX dX12_live_48 (by decide) ?_
          refine v_aload_n hX dX12_live_49 0 rfl rfl ?_
          refine v_getI hX dX12_live_50 f_RX12_288 rfl k16 ?_
          refine v_callVi0 hX dX12_live_53 c_RX12_415 cV_X12_whyOf (ci := 13) (T := TX12) (N := 115) rfl (by exact k16) [pI _, pI _, pI _, pI _] rfl rfl (Nat.le_of_ble_eq_true rfl) (by decide) (by decide)  (m_X12_whyOf h) (fun p21 s20 h => ?_)
          refine v_bipush (v := -9) hX dX12_live_56 (by decide) ?_
          refine v_icmp_ne (tgt := 64) hX dX12_live_58 (by decide) (fun c22 => ?_) (fun c22 => ?_)
          · have h := h_E c22 h
            refine v_aload_n hX dX12_live_64 0 rfl rfl ?_
            refine v_iload_n hX dX12_live_65 3 rfl rfl ?_
            refine v_iconst (v := 1) hX dX12_live_66 (by decide) ?_
            obtain ⟨k23, h⟩ := h
            refine v_callVv0 hX dX12_live_67 c_RX12_438 cV_X12_laySteps (ci := 13) (T := TX12) (N := 115) rfl (by exact k23) [pI _, pI _] rfl rfl (Nat.le_of_ble_eq_true rfl) (by decide) (by decide)  (m_X12_laySteps h) (fun s24 h => ?_)
            refine v_aload_n hX dX12_live_70 0 rfl rfl ?_
            obtain ⟨k26, h⟩ := h
            refine v_getR hX dX12_live_71 f_RX12_139 rfl k26 ?_
            refine v_iload_n hX dX12_live_74 1 rfl rfl ?_
            obtain ⟨a27, e_a27, h⟩ := h
            refine v_nn1 e_a27 ?_
            obtain ⟨k28, h⟩ := h
            obtain ⟨i29, h⟩ := h
            refine v_iald hX dX12_live_75 k28 i29 ?_
            refine v_if_lt (tgt := 89) hX dX12_live_76 (by decide) (fun c30 => ?_) (fun c30 => ?_)
            · have h := h_T c30 h
              refine v_aload_n hX dX12_live_89 0 rfl rfl ?_
              refine v_iload_n hX dX12_live_90 1 rfl rfl ?_
              refine v_callVv0 hX dX12_live_91 c_RX12_398 cV_X12_open (ci := 13) (T := TX12) (N := 115) rfl (by exact k26) [pI _] rfl rfl (Nat.le_of_ble_eq_true rfl) (by decide) (by decide)  (m_X12_open h) (fun s31 h => ?_)
              refine v_aload_n hX dX12_live_94 0 rfl rfl ?_
              refine v_iload_n hX dX12_live_95 1 rfl rfl ?_
              refine v_iload_n hX dX12_live_96 2 rfl rfl ?_
              refine v_iconst (v := 3) hX dX12_live_97 (by decide) ?_
              refine v_iload hX dX12_live_98 4 rfl ?_
              refine v_iload hX dX12_live_100 5 rfl ?_
              refine v_iload_n hX dX12_live_102 3 rfl rfl ?_
              refine v_bipush (v := -9) hX dX12_live_103 (by decide) ?_
              obtain ⟨k33, h⟩ := h
              refine v_callVi0 hX dX12_live_105 c_RX12_402 cV_X12_come (ci := 13) (T := TX12) (N := 115) rfl (by exact k33) [pI _, pI _, pI _, pI _, pI _, pI _, pI _] rfl rfl (Nat.le_of_ble_eq_true rfl) (by decide) (by decide)  (m_X12_come h) (fun p35 s34 h => ?_)
              refine v_if_eq (tgt := 123) hX dX12_live_108 (by decide) (fun c36 => ?_) (fun c36 => ?_)
              · have h := h_T c36 h
                refine v_bipush (v := -4) hX dX12_live_123 (by decide) ?_
                refine v_pick [] rfl ?_
                exact b_X12_live_125 hX hE _ h
              · have h := h_E c36 h
                refine v_aload_n hX dX12_live_111 0 rfl rfl ?_
                refine v_aload_n hX dX12_live_112 0 rfl rfl ?_
                refine v_iload_n hX dX12_live_113 1 rfl rfl ?_
                obtain ⟨k37, h⟩ := h
                refine v_callVi0 hX dX12_live_114 c_RX12_418 cV_X12_shownThen (ci := 13) (T := TX12) (N := 115) rfl (by exact k37) [pI _] rfl rfl (Nat.le_of_ble_eq_true rfl) (by decide) (by decide)  (m_X12_shownThen h) (fun p39 s38 h => ?_)
                obtain ⟨k40, h⟩ := h
                refine v_callVi0 hX dX12_live_117 c_RX12_302 cV_X12_acted (ci := 13) (T := TX12) (N := 115) rfl (by exact k40) [pI _] rfl rfl (Nat.le_of_ble_eq_true rfl) (by decide) (by decide)  (m_X12_acted h) (fun p42 s41 h => ?_)
                refine v_goto (tgt := 125) hX dX12_live_120 (by decide) ?_
                refine v_pick [] rfl ?_
                exact b_X12_live_125 hX hE _ h
            · have h := h_E c30 h
              refine v_bipush (v := -100) hX dX12_live_79 (by decide) ?_
              refine v_aload_n hX dX12_live_81 0 rfl rfl ?_
              refine v_getR hX dX12_live_82 f_RX12_139 rfl k26 ?_
              refine v_iload_n hX dX12_live_85 1 rfl rfl ?_
              obtain ⟨a43, e_a43, h⟩ := h
              refine v_nn1 e_a43 ?_
              obtain ⟨k44, h⟩ := h
              obtain ⟨i45, h⟩ := h
              refine v_iald hX dX12_live_86 k44 i45 ?_
              refine v_isub hX dX12_live_87 ?_
              exact v_iret hX hE dX12_live_88 h
          · have h := h_T c22 h
            refine v_bipush (v := -3) hX dX12_live_61 (by decide) ?_
            exact v_iret hX hE dX12_live_63 h
        · have h := h_T c15 h
          refine v_bipush (v := -2) hX dX12_live_37 (by decide) ?_
          exact v_iret hX hE dX12_live_39 h
      · have h := h_E c12 h
        refine v_pick [] rfl ?_
        exact b_X12_live_25 hX hE _ h
set_option maxRecDepth 100000 in
set_option maxHeartbeats 4000000 in
theorem b_X12_noPlaces_57 {X : h_X} (hX : h_ok X cX12_noPlaces 4 RX12 5 118) {Q : Int32 → h_S → Prop} (hE : h_end X (some .int) (h_QI (x_Z X) Q)) {y0 : Int32} (s : h_S) (h : w_X12_noPlaces_57 Q y0 s) : h_V X 4 57 [] [pI y0] s 0 0 := by
  unfold w_X12_noPlaces_57 at h
  exact v_iret hX hE dX12_noPlaces_57 h
set_option maxRecDepth 100000 in
set_option maxHeartbeats 4000000 in
theorem m_X12_noPlaces {Z : h_Z} {o0 : Nat} {x1 : Int32} {x2 : Int32} {x3 : Int32} {s : h_S} {Q : Int32 → h_S → Prop} (h : w_X12_noPlaces o0 x1 x2 x3 s Q) : h_M Z yX12_noPlaces cX12_noPlaces 4 (some .int) 5 118 [pR (some o0), pI x1, pI x2, pI x3] s 0 0 (h_QI Z Q) := by
  refine h_M.of (by decide) (Nat.le_of_ble_eq_true rfl) (fun X hZ hX hE hI => ?_)
  subst hZ
  unfold w_X12_noPlaces at h
  show h_V X 4 0 [(0, pR (some o0)), (1, pI x1), (2, pI x2), (3, pI x3)] [] s 0 0
  refine v_aload_n hX dX12_noPlaces_0 0 rfl rfl ?_
  refine v_iload_n hX dX12_noPlaces_1 1 rfl rfl ?_
  obtain ⟨k1, h⟩ := h
  refine v_callVi0 hX dX12_noPlaces_2 c_RX12_379 cV_X12_noWriting (ci := 13) (T := TX12) (N := 115) rfl (by exact k1) [pI _] rfl rfl (Nat.le_of_ble_eq_true rfl) (by decide) (by decide)  (m_X12_noWriting h) (fun p3 s2 h => ?_)
  refine v_if_eq (tgt := 10) hX dX12_noPlaces_5 (by decide) (fun c4 => ?_) (fun c4 => ?_)
  · have h := h_T c4 h
    refine v_aload_n hX dX12_noPlaces_10 0 rfl rfl ?_
    refine v_iload_n hX dX12_noPlaces_11 1 rfl rfl ?_
    obtain ⟨k5, h⟩ := h
    refine v_callVv0 hX dX12_noPlaces_12 c_RX12_398 cV_X12_open (ci := 13) (T := TX12) (N := 115) rfl (by exact k5) [pI _] rfl rfl (Nat.le_of_ble_eq_true rfl) (by decide) (by decide)  (m_X12_open h) (fun s6 h => ?_)
    refine v_iload_n hX dX12_noPlaces_15 2 rfl rfl ?_
    refine v_i2l hX dX12_noPlaces_16 ?_
    refine v_lconst (v := 0) hX dX12_noPlaces_17 (by decide) ?_
    refine v_aload_n hX dX12_noPlaces_18 0 rfl rfl ?_
    obtain ⟨k8, h⟩ := h
    refine v_getI hX dX12_noPlaces_19 f_RX12_342 rfl k8 ?_
    refine v_i2l hX dX12_noPlaces_22 ?_
    refine v_lconst (v := 1) hX dX12_noPlaces_23 (by decide) ?_
    refine v_lsub hX dX12_noPlaces_24 ?_
    refine v_callSi0 hX dX12_noPlaces_25 c_RX12_298 cS_X12_in [pL _, pL _, pL _] rfl rfl (Nat.le_of_ble_eq_true rfl) (by decide) (by decide)  (m_X12_in h) (fun p10 s9 h => ?_)
    refine v_if_ne (tgt := 35) hX dX12_noPlaces_28 (by decide) (fun c11 => ?_) (fun c11 => ?_)
    · have h := h_E c11 h
      refine v_iload_n hX dX12_noPlaces_35 3 rfl rfl ?_
      refine v_i2l hX dX12_noPlaces_36 ?_
      refine v_lconst (v := 1) hX dX12_noPlaces_37 (by decide) ?_
      refine v_aload_n hX dX12_noPlaces_38 0 rfl rfl ?_
      obtain ⟨k12, h⟩ := h
      refine v_getI hX dX12_noPlaces_39 f_RX12_342 rfl k12 ?_
      refine v_iload_n hX dX12_noPlaces_42 2 rfl rfl ?_
      refine v_isub hX dX12_noPlaces_43 ?_
      refine v_i2l hX dX12_noPlaces_44 ?_
      refine v_callSi0 hX dX12_noPlaces_45 c_RX12_298 cS_X12_in [pL _, pL _, pL _] rfl rfl (Nat.le_of_ble_eq_true rfl) (by decide) (by decide)  (m_X12_in h) (fun p14 s13 h => ?_)
      refine v_if_eq (tgt := 55) hX dX12_noPlaces_48 (by decide) (fun c15 => ?_) (fun c15 => ?_)
      · have h := h_T c15 h
        refine v_bipush (v := -2) hX dX12_noPlaces_55 (by decide) ?_
        refine v_pick [] rfl ?_
        exact b_X12_noPlaces_57 hX hE _ h
      · have h := h_E c15 h
        refine v_iconst (v := 0) hX dX12_noPlaces_51 (by decide) ?_
        refine v_goto (tgt := 57) hX dX12_noPlaces_52 (by decide) ?_
        refine v_pick [] rfl ?_
        exact b_X12_noPlaces_57 hX hE _ h
    · have h := h_T c11 h
      refine v_iconst (v := -1) hX dX12_noPlaces_31 (by decide) ?_
      refine v_goto (tgt := 57) hX dX12_noPlaces_32 (by decide) ?_
      refine v_pick [] rfl ?_
      exact b_X12_noPlaces_57 hX hE _ h
  · have h := h_E c4 h
    refine v_iconst (v := -1) hX dX12_noPlaces_8 (by decide) ?_
    exact v_iret hX hE dX12_noPlaces_9 h
set_option maxRecDepth 100000 in
set_option maxHeartbeats 4000000 in
theorem b_X12_cut_45 {X : h_X} (hX : h_ok X cX12_cut 5 RX12 6 141) {Q : Int32 → h_S → Prop} (hE : h_end X (some .int) (h_QI (x_Z X) Q)) {y0 : Int32} (s : h_S) (h : w_X12_cut_45 Q y0 s) : h_V X 5 45 [] [pI y0] s 0 0 := by
  unfold w_X12_cut_45 at h
  exact v_iret hX hE dX12_cut_45 h
set_option maxRecDepth 100000 in
set_option maxHeartbeats 4000000 in
theorem m_X12_cut {Z : h_Z} {o0 : Nat} {x1 : Int32} {x2 : Int32} {x3 : Int32} {s : h_S} {Q : Int32 → h_S → Prop} (h : w_X12_cut o0 x1 x2 x3 s Q) : h_M Z yX12_cut cX12_cut 5 (some .int) 6 141 [pR (some o0), pI x1, pI x2, pI x3] s 0 0 (h_QI Z Q) := by
  refine h_M.of (by decide) (Nat.le_of_ble_eq_true rfl) (fun X hZ hX hE hI => ?_)
  subst hZ
  unfold w_X12_cut at h
  show h_V X 5 0 [(0, pR (some o0)), (1, pI x1), (2, pI x2), (3, pI x3)] [] s 0 0
  refine v_aload_n hX dX12_cut_0 0 rfl rfl ?_
  refine v_iload_n hX dX12_cut_1 1 rfl rfl ?_
  refine v_iload_n hX dX12_cut_2 2 rfl rfl ?_
  refine v_iload_n hX dX12_cut_3 3 rfl rfl ?_
  obtain ⟨k1, h⟩ := h
  refine v_callVi0 hX dX12_cut_4 c_RX12_442 cV_X12_noPlaces (ci := 13) (T := TX12) (N := 115) rfl (by exact k1) [pI _, pI _, pI _] rfl rfl (Nat.le_of_ble_eq_true rfl) (by decide) (by decide)  (m_X12_noPlaces h) (fun p3 s2 h => ?_)
  refine v_istore (lv' := [(4, _), (0, _), (1, _), (2, _), (3, _)]) hX dX12_cut_7 (by decide) rfl ?_
  refine v_iload hX dX12_cut_9 0 rfl ?_
  refine v_if_ge (tgt := 17) hX dX12_cut_11 (by decide) (fun c4 => ?_) (fun c4 => ?_)
  · have h := h_T c4 h
    refine v_aload_n hX dX12_cut_17 1 rfl rfl ?_
    refine v_iload_n hX dX12_cut_18 3 rfl rfl ?_
    refine v_iload_n hX dX12_cut_19 4 rfl rfl ?_
    obtain ⟨k5, h⟩ := h
    refine v_callVv0 hX dX12_cut_20 c_RX12_446 cV_X12_takeOut (ci := 13) (T := TX12) (N := 115) rfl (by exact k5) [pI _, pI _] rfl rfl (Nat.le_of_ble_eq_true rfl) (by decide) (by decide)  (m_X12_takeOut h) (fun s6 h => ?_)
    refine v_aload_n hX dX12_cut_23 1 rfl rfl ?_
    refine v_iload_n hX dX12_cut_24 2 rfl rfl ?_
    obtain ⟨k8, h⟩ := h
    refine v_callVi0 hX dX12_cut_25 c_RX12_373 cV_X12_store (ci := 13) (T := TX12) (N := 115) rfl (by exact k8) [pI _] rfl rfl (Nat.le_of_ble_eq_true rfl) (by decide) (by decide)  (m_X12_store h) (fun p10 s9 h => ?_)
    refine v_if_eq (tgt := 43) hX dX12_cut_28 (by decide) (fun c11 => ?_) (fun c11 => ?_)
    · have h := h_T c11 h
      refine v_bipush (v := -4) hX dX12_cut_43 (by decide) ?_
      refine v_pick [] rfl ?_
      exact b_X12_cut_45 hX hE _ h
    · have h := h_E c11 h
      refine v_aload_n hX dX12_cut_31 1 rfl rfl ?_
      refine v_aload_n hX dX12_cut_32 1 rfl rfl ?_
      refine v_iload_n hX dX12_cut_33 2 rfl rfl ?_
      obtain ⟨k12, h⟩ := h
      refine v_callVi0 hX dX12_cut_34 c_RX12_418 cV_X12_shownThen (ci := 13) (T := TX12) (N := 115) rfl (by exact k12) [pI _] rfl rfl (Nat.le_of_ble_eq_true rfl) (by decide) (by decide)  (m_X12_shownThen h) (fun p14 s13 h => ?_)
      obtain ⟨k15, h⟩ := h
      refine v_callVi0 hX dX12_cut_37 c_RX12_302 cV_X12_acted (ci := 13) (T := TX12) (N := 115) rfl (by exact k15) [pI _] rfl rfl (Nat.le_of_ble_eq_true rfl) (by decide) (by decide)  (m_X12_acted h) (fun p17 s16 h => ?_)
      refine v_goto (tgt := 45) hX dX12_cut_40 (by decide) ?_
      refine v_pick [] rfl ?_
      exact b_X12_cut_45 hX hE _ h
  · have h := h_E c4 h
    refine v_iload hX dX12_cut_14 0 rfl ?_
    exact v_iret hX hE dX12_cut_16 h
set_option maxRecDepth 100000 in
set_option maxHeartbeats 4000000 in
theorem b_X12_layRow_28 {X : h_X} (hX : h_ok X cX12_layRow 3 RX12 3 75) {Q : h_S → Prop} (hE : h_end X none (h_QV (x_Z X) Q)) : ∀ (n : Nat) (o0 : Nat) (x1 : Int32) (x2 : Int32) (s : h_S), w_X12_layRow_28 Q n o0 x1 x2 s → h_V X 3 28 [(0, pR (some o0)), (1, pI x1), (2, pI x2)] [] s 0 0 := by
  intro n
  induction n with
  | zero => intro _ _ _ s h; exact h.elim
  | succ n hK28 =>
    intro o0 x1 x2 s h
    have h : w_X12_layRow_28b Q (w_X12_layRow_28 Q n) o0 x1 x2 s := h
    unfold w_X12_layRow_28b at h
    refine v_iload_n hX dX12_layRow_28 2 rfl rfl ?_
    refine v_aload_n hX dX12_layRow_29 0 rfl rfl ?_
    obtain ⟨k1, h⟩ := h
    refine v_getI hX dX12_layRow_30 f_RX12_345 rfl k1 ?_
    refine v_icmp_ge (tgt := 127) hX dX12_layRow_33 (by decide) (fun c2 => ?_) (fun c2 => ?_)
    · have h := h_T c2 h
      refine v_aload_n hX dX12_layRow_127 0 rfl rfl ?_
      refine v_aload_n hX dX12_layRow_128 0 rfl rfl ?_
      refine v_getI hX dX12_layRow_129 f_RX12_364 rfl k1 ?_
      refine v_iload_n hX dX12_layRow_132 1 rfl rfl ?_
      refine v_aload_n hX dX12_layRow_133 0 rfl rfl ?_
      refine v_getI hX dX12_layRow_134 f_RX12_288 rfl k1 ?_
      refine v_callVv0 hX dX12_layRow_137 c_RX12_327 cV_X12_layLog (ci := 13) (T := TX12) (N := 115) rfl (by exact k1) [pI _, pI _, pI _] rfl rfl (Nat.le_of_ble_eq_true rfl) (by decide) (by decide)  (m_X12_layLog h) (fun s3 h => ?_)
      refine v_aload_n hX dX12_layRow_140 0 rfl rfl ?_
      obtain ⟨k5, h⟩ := h
      refine v_callVv0 hX dX12_layRow_141 c_RX12_358 cV_X12_bound (ci := 13) (T := TX12) (N := 115) rfl (by exact k5) [] rfl rfl (Nat.le_of_ble_eq_true rfl) (by decide) (by decide)  (m_X12_bound h) (fun s6 h => ?_)
      exact v_vret hX hE dX12_layRow_144 h
    · have h := h_E c2 h
      refine v_aload_n hX dX12_layRow_36 0 rfl rfl ?_
      refine v_getR hX dX12_layRow_37 f_RX12_40 rfl k1 ?_
      refine v_aload_n hX dX12_layRow_40 0 rfl rfl ?_
      refine v_getI hX dX12_layRow_41 f_RX12_367 rfl k1 ?_
      refine v_iload_n hX dX12_layRow_44 2 rfl rfl ?_
      refine v_iadd hX dX12_layRow_45 ?_
      refine v_aload_n hX dX12_layRow_46 0 rfl rfl ?_
      refine v_getR hX dX12_layRow_47 f_RX12_103 rfl k1 ?_
      refine v_iload_n hX dX12_layRow_50 2 rfl rfl ?_
      obtain ⟨a8, e_a8, h⟩ := h
      refine v_nn1 e_a8 ?_
      obtain ⟨k9, h⟩ := h
      obtain ⟨i10, h⟩ := h
      refine v_iald hX dX12_layRow_51 k9 i10 ?_
      obtain ⟨a11, e_a11, h⟩ := h
      refine v_nn2 e_a11 ?_
      obtain ⟨k12, h⟩ := h
      obtain ⟨i13, h⟩ := h
      refine v_iast hX dX12_layRow_52 k12 i13 ?_
      refine v_aload_n hX dX12_layRow_53 0 rfl rfl ?_
      refine v_getR hX dX12_layRow_54 f_RX12_43 rfl k1 ?_
      refine v_aload_n hX dX12_layRow_57 0 rfl rfl ?_
      refine v_getI hX dX12_layRow_58 f_RX12_367 rfl k1 ?_
      refine v_iload_n hX dX12_layRow_61 2 rfl rfl ?_
      refine v_iadd hX dX12_layRow_62 ?_
      refine v_aload_n hX dX12_layRow_63 0 rfl rfl ?_
      refine v_getR hX dX12_layRow_64 f_RX12_106 rfl k1 ?_
      refine v_iload_n hX dX12_layRow_67 2 rfl rfl ?_
      obtain ⟨a15, e_a15, h⟩ := h
      refine v_nn1 e_a15 ?_
      obtain ⟨k16, h⟩ := h
      obtain ⟨i17, h⟩ := h
      refine v_iald hX dX12_layRow_68 k16 i17 ?_
      obtain ⟨a18, e_a18, h⟩ := h
      refine v_nn2 e_a18 ?_
      obtain ⟨k19, h⟩ := h
      obtain ⟨i20, h⟩ := h
      refine v_iast hX dX12_layRow_69 k19 i20 ?_
      refine v_aload_n hX dX12_layRow_70 0 rfl rfl ?_
      refine v_getR hX dX12_layRow_71 f_RX12_46 rfl k1 ?_
      refine v_aload_n hX dX12_layRow_74 0 rfl rfl ?_
      refine v_getI hX dX12_layRow_75 f_RX12_367 rfl k1 ?_
      refine v_iload_n hX dX12_layRow_78 2 rfl rfl ?_
      refine v_iadd hX dX12_layRow_79 ?_
      refine v_aload_n hX dX12_layRow_80 0 rfl rfl ?_
      refine v_getR hX dX12_layRow_81 f_RX12_109 rfl k1 ?_
      refine v_iload_n hX dX12_layRow_84 2 rfl rfl ?_
      obtain ⟨a22, e_a22, h⟩ := h
      refine v_nn1 e_a22 ?_
      obtain ⟨k23, h⟩ := h
      obtain ⟨i24, h⟩ := h
      refine v_iald hX dX12_layRow_85 k23 i24 ?_
      obtain ⟨a25, e_a25, h⟩ := h
      refine v_nn2 e_a25 ?_
      obtain ⟨k26, h⟩ := h
      obtain ⟨i27, h⟩ := h
      refine v_iast hX dX12_layRow_86 k26 i27 ?_
      refine v_aload_n hX dX12_layRow_87 0 rfl rfl ?_
      refine v_getR hX dX12_layRow_88 f_RX12_49 rfl k1 ?_
      refine v_aload_n hX dX12_layRow_91 0 rfl rfl ?_
      refine v_getI hX dX12_layRow_92 f_RX12_367 rfl k1 ?_
      refine v_iload_n hX dX12_layRow_95 2 rfl rfl ?_
      refine v_iadd hX dX12_layRow_96 ?_
      refine v_aload_n hX dX12_layRow_97 0 rfl rfl ?_
      refine v_getR hX dX12_layRow_98 f_RX12_112 rfl k1 ?_
      refine v_iload_n hX dX12_layRow_101 2 rfl rfl ?_
      obtain ⟨a29, e_a29, h⟩ := h
      refine v_nn1 e_a29 ?_
      obtain ⟨k30, h⟩ := h
      obtain ⟨i31, h⟩ := h
      refine v_iald hX dX12_layRow_102 k30 i31 ?_
      obtain ⟨a32, e_a32, h⟩ := h
      refine v_nn2 e_a32 ?_
      obtain ⟨k33, h⟩ := h
      obtain ⟨i34, h⟩ := h
      refine v_iast hX dX12_layRow_103 k33 i34 ?_
      refine v_aload_n hX dX12_layRow_104 0 rfl rfl ?_
      refine v_getR hX dX12_layRow_105 f_RX12_52 rfl k1 ?_
      refine v_aload_n hX dX12_layRow_108 0 rfl rfl ?_
      refine v_getI hX dX12_layRow_109 f_RX12_367 rfl k1 ?_
      refine v_iload_n hX dX12_layRow_112 2 rfl rfl ?_
      refine v_iadd hX dX12_layRow_113 ?_
      refine v_aload_n hX dX12_layRow_114 0 rfl rfl ?_
      refine v_getR hX dX12_layRow_115 f_RX12_115 rfl k1 ?_
      refine v_iload_n hX dX12_layRow_118 2 rfl rfl ?_
      obtain ⟨a36, e_a36, h⟩ := h
      refine v_nn1 e_a36 ?_
      obtain ⟨k37, h⟩ := h
      obtain ⟨i38, h⟩ := h
      refine v_iald hX dX12_layRow_119 k37 i38 ?_
      obtain ⟨a39, e_a39, h⟩ := h
      refine v_nn2 e_a39 ?_
      obtain ⟨k40, h⟩ := h
      obtain ⟨i41, h⟩ := h
      refine v_iast hX dX12_layRow_120 k40 i41 ?_
      refine v_iinc (c := 1) (lv' := [(2, _), (0, _), (1, _)]) hX dX12_layRow_121 2 rfl (by decide) (by decide) rfl ?_
      refine v_goto (tgt := 28) hX dX12_layRow_124 (by decide) ?_
      refine v_pick [1, 2, 0] rfl ?_
      exact hK28 _ _ _ _ h
set_option maxRecDepth 100000 in
set_option maxHeartbeats 4000000 in
theorem m_X12_layRow {Z : h_Z} {o0 : Nat} {x1 : Int32} {s : h_S} {Q : h_S → Prop} (h : w_X12_layRow o0 x1 s Q) : h_M Z yX12_layRow cX12_layRow 3 none 3 75 [pR (some o0), pI x1] s 0 0 (h_QV Z Q) := by
  refine h_M.of (by decide) (Nat.le_of_ble_eq_true rfl) (fun X hZ hX hE hI => ?_)
  subst hZ
  unfold w_X12_layRow at h
  show h_V X 3 0 [(0, pR (some o0)), (1, pI x1)] [] s 0 0
  refine v_aload_n hX dX12_layRow_0 0 rfl rfl ?_
  obtain ⟨k1, h⟩ := h
  refine v_getR hX dX12_layRow_1 f_RX12_34 rfl k1 ?_
  refine v_aload_n hX dX12_layRow_4 0 rfl rfl ?_
  refine v_getI hX dX12_layRow_5 f_RX12_364 rfl k1 ?_
  refine v_aload_n hX dX12_layRow_8 0 rfl rfl ?_
  refine v_getI hX dX12_layRow_9 f_RX12_367 rfl k1 ?_
  obtain ⟨a2, e_a2, h⟩ := h
  refine v_nn2 e_a2 ?_
  obtain ⟨k3, h⟩ := h
  obtain ⟨i4, h⟩ := h
  refine v_iast hX dX12_layRow_12 k3 i4 ?_
  refine v_aload_n hX dX12_layRow_13 0 rfl rfl ?_
  refine v_getR hX dX12_layRow_14 f_RX12_37 rfl k1 ?_
  refine v_aload_n hX dX12_layRow_17 0 rfl rfl ?_
  refine v_getI hX dX12_layRow_18 f_RX12_364 rfl k1 ?_
  refine v_aload_n hX dX12_layRow_21 0 rfl rfl ?_
  refine v_getI hX dX12_layRow_22 f_RX12_345 rfl k1 ?_
  obtain ⟨a6, e_a6, h⟩ := h
  refine v_nn2 e_a6 ?_
  obtain ⟨k7, h⟩ := h
  obtain ⟨i8, h⟩ := h
  refine v_iast hX dX12_layRow_25 k7 i8 ?_
  refine v_iconst (v := 0) hX dX12_layRow_26 (by decide) ?_
  refine v_istore_n (lv' := [(2, _), (0, _), (1, _)]) hX dX12_layRow_27 rfl (by decide) rfl ?_
  refine v_pick [1, 2, 0] rfl ?_
  obtain ⟨n, h⟩ := h
  exact b_X12_layRow_28 hX hE n _ _ _ _ h
set_option maxRecDepth 100000 in
set_option maxHeartbeats 4000000 in
theorem b_X12_move_30 {X : h_X} (hX : h_ok X cX12_move 8 RX12 6 141) {Q : Int32 → h_S → Prop} (hE : h_end X (some .int) (h_QI (x_Z X) Q)) (s : h_S) (h : w_X12_move_30 Q s) : h_V X 8 30 [] [] s 0 0 := by
  unfold w_X12_move_30 at h
  refine v_iconst (v := -1) hX dX12_move_30 (by decide) ?_
  exact v_iret hX hE dX12_move_31 h
set_option maxRecDepth 100000 in
set_option maxHeartbeats 4000000 in
theorem b_X12_move_186 {X : h_X} (hX : h_ok X cX12_move 8 RX12 6 141) {Q : Int32 → h_S → Prop} (hE : h_end X (some .int) (h_QI (x_Z X) Q)) {y0 : Int32} (s : h_S) (h : w_X12_move_186 Q y0 s) : h_V X 8 186 [] [pI y0] s 0 0 := by
  unfold w_X12_move_186 at h
  exact v_iret hX hE dX12_move_186 h
set_option maxRecDepth 100000 in
set_option maxHeartbeats 4000000 in
theorem b_X12_move_102 {X : h_X} (hX : h_ok X cX12_move 8 RX12 6 141) {Q : Int32 → h_S → Prop} (hE : h_end X (some .int) (h_QI (x_Z X) Q)) : ∀ (n : Nat) (o0 : Nat) (x1 : Int32) (x6 : Int32) (x7 : Int32) (s : h_S), w_X12_move_102 Q n o0 x1 x6 x7 s → h_V X 8 102 [(0, pR (some o0)), (1, pI x1), (6, pI x6), (7, pI x7)] [] s 0 0 := by
  intro n
  induction n with
  | zero => intro _ _ _ _ s h; exact h.elim
  | succ n hK102 =>
    intro o0 x1 x6 x7 s h
    have h : w_X12_move_102b Q (w_X12_move_102 Q n) o0 x1 x6 x7 s := h
    unfold w_X12_move_102b at h
    refine v_iload hX dX12_move_102 3 rfl ?_
    refine v_aload_n hX dX12_move_104 0 rfl rfl ?_
    obtain ⟨k1, h⟩ := h
    refine v_getI hX dX12_move_105 f_RX12_376 rfl k1 ?_
    refine v_icmp_ge (tgt := 161) hX dX12_move_108 (by decide) (fun c2 => ?_) (fun c2 => ?_)
    · have h := h_T c2 h
      refine v_aload_n hX dX12_move_161 0 rfl rfl ?_
      refine v_getI hX dX12_move_162 f_RX12_345 rfl k1 ?_
      refine v_istore (lv' := [(7, _), (0, _), (1, _), (6, _)]) hX dX12_move_165 (by decide) rfl ?_
      refine v_aload_n hX dX12_move_167 1 rfl rfl ?_
      refine v_iload_n hX dX12_move_168 2 rfl rfl ?_
      refine v_callVi0 hX dX12_move_169 c_RX12_373 cV_X12_store (ci := 13) (T := TX12) (N := 115) rfl (by exact k1) [pI _] rfl rfl (Nat.le_of_ble_eq_true rfl) (by decide) (by decide)  (m_X12_store h) (fun p4 s3 h => ?_)
      refine v_if_eq (tgt := 184) hX dX12_move_172 (by decide) (fun c5 => ?_) (fun c5 => ?_)
      · have h := h_T c5 h
        refine v_bipush (v := -4) hX dX12_move_184 (by decide) ?_
        refine v_pick [] rfl ?_
        exact b_X12_move_186 hX hE _ h
      · have h := h_E c5 h
        refine v_aload_n hX dX12_move_175 1 rfl rfl ?_
        refine v_iload hX dX12_move_176 0 rfl ?_
        obtain ⟨k6, h⟩ := h
        refine v_callVi0 hX dX12_move_178 c_RX12_302 cV_X12_acted (ci := 13) (T := TX12) (N := 115) rfl (by exact k6) [pI _] rfl rfl (Nat.le_of_ble_eq_true rfl) (by decide) (by decide)  (m_X12_acted h) (fun p8 s7 h => ?_)
        refine v_goto (tgt := 186) hX dX12_move_181 (by decide) ?_
        refine v_pick [] rfl ?_
        exact b_X12_move_186 hX hE _ h
    · have h := h_E c2 h
      refine v_aload_n hX dX12_move_111 0 rfl rfl ?_
      refine v_iload hX dX12_move_112 2 rfl ?_
      refine v_iload hX dX12_move_114 3 rfl ?_
      refine v_iadd hX dX12_move_116 ?_
      refine v_aload_n hX dX12_move_117 0 rfl rfl ?_
      refine v_getR hX dX12_move_118 f_RX12_124 rfl k1 ?_
      refine v_iload hX dX12_move_121 3 rfl ?_
      obtain ⟨a9, e_a9, h⟩ := h
      refine v_nn1 e_a9 ?_
      obtain ⟨k10, h⟩ := h
      obtain ⟨i11, h⟩ := h
      refine v_iald hX dX12_move_123 k10 i11 ?_
      refine v_aload_n hX dX12_move_124 0 rfl rfl ?_
      refine v_getR hX dX12_move_125 f_RX12_127 rfl k1 ?_
      refine v_iload hX dX12_move_128 3 rfl ?_
      obtain ⟨a12, e_a12, h⟩ := h
      refine v_nn1 e_a12 ?_
      obtain ⟨k13, h⟩ := h
      obtain ⟨i14, h⟩ := h
      refine v_iald hX dX12_move_130 k13 i14 ?_
      refine v_aload_n hX dX12_move_131 0 rfl rfl ?_
      refine v_getR hX dX12_move_132 f_RX12_130 rfl k1 ?_
      refine v_iload hX dX12_move_135 3 rfl ?_
      obtain ⟨a15, e_a15, h⟩ := h
      refine v_nn1 e_a15 ?_
      obtain ⟨k16, h⟩ := h
      obtain ⟨i17, h⟩ := h
      refine v_iald hX dX12_move_137 k16 i17 ?_
      refine v_aload_n hX dX12_move_138 0 rfl rfl ?_
      refine v_getR hX dX12_move_139 f_RX12_133 rfl k1 ?_
      refine v_iload hX dX12_move_142 3 rfl ?_
      obtain ⟨a18, e_a18, h⟩ := h
      refine v_nn1 e_a18 ?_
      obtain ⟨k19, h⟩ := h
      obtain ⟨i20, h⟩ := h
      refine v_iald hX dX12_move_144 k19 i20 ?_
      refine v_aload_n hX dX12_move_145 0 rfl rfl ?_
      refine v_getR hX dX12_move_146 f_RX12_136 rfl k1 ?_
      refine v_iload hX dX12_move_149 3 rfl ?_
      obtain ⟨a21, e_a21, h⟩ := h
      refine v_nn1 e_a21 ?_
      obtain ⟨k22, h⟩ := h
      obtain ⟨i23, h⟩ := h
      refine v_iald hX dX12_move_151 k22 i23 ?_
      refine v_callVv0 hX dX12_move_152 c_RX12_348 cV_X12_setPiece (ci := 13) (T := TX12) (N := 115) rfl (by exact k1) [pI _, pI _, pI _, pI _, pI _, pI _] rfl rfl (Nat.le_of_ble_eq_true rfl) (by decide) (by decide)  (m_X12_setPiece h) (fun s24 h => ?_)
      refine v_iinc (c := 1) (lv' := [(7, _), (0, _), (1, _), (6, _)]) hX dX12_move_155 3 rfl (by decide) (by decide) rfl ?_
      refine v_goto (tgt := 102) hX dX12_move_158 (by decide) ?_
      refine v_pick [1, 2, 3, 0] rfl ?_
      exact hK102 _ _ _ _ _ h
set_option maxRecDepth 100000 in
set_option maxHeartbeats 4000000 in
theorem b_X12_move_84 {X : h_X} (hX : h_ok X cX12_move 8 RX12 6 141) {Q : Int32 → h_S → Prop} (hE : h_end X (some .int) (h_QI (x_Z X) Q)) {o0 : Nat} {x1 : Int32} {y0 : Int32} {u1 : Nat} (s : h_S) (h : w_X12_move_84 Q o0 x1 y0 u1 s) : h_V X 8 84 [(0, pR (some o0)), (1, pI x1)] [pI y0, pR (some u1)] s 0 0 := by
  unfold w_X12_move_84 at h
  obtain ⟨k1, h⟩ := h
  refine v_callVi0 hX dX12_move_84 c_RX12_370 cV_X12_openAt (ci := 13) (T := TX12) (N := 115) rfl (by exact k1) [pI _] rfl rfl (Nat.le_of_ble_eq_true rfl) (by decide) (by decide)  (m_X12_openAt h) (fun p3 s2 h => ?_)
  refine v_istore (lv' := [(6, _), (0, _), (1, _)]) hX dX12_move_87 (by decide) rfl ?_
  refine v_aload_n hX dX12_move_89 1 rfl rfl ?_
  refine v_iload hX dX12_move_90 0 rfl ?_
  refine v_aload_n hX dX12_move_92 1 rfl rfl ?_
  obtain ⟨k4, h⟩ := h
  refine v_getI hX dX12_move_93 f_RX12_376 rfl k4 ?_
  refine v_callVv0 hX dX12_move_96 c_RX12_361 cV_X12_widen (ci := 13) (T := TX12) (N := 115) rfl (by exact k4) [pI _, pI _] rfl rfl (Nat.le_of_ble_eq_true rfl) (by decide) (by decide)  (m_X12_widen h) (fun s5 h => ?_)
  refine v_iconst (v := 0) hX dX12_move_99 (by decide) ?_
  refine v_istore (lv' := [(7, _), (6, _), (0, _), (1, _)]) hX dX12_move_100 (by decide) rfl ?_
  refine v_pick [2, 3, 1, 0] rfl ?_
  obtain ⟨n, h⟩ := h
  exact b_X12_move_102 hX hE n _ _ _ _ _ h
set_option maxRecDepth 100000 in
set_option maxHeartbeats 4000000 in
theorem b_X12_move_57 {X : h_X} (hX : h_ok X cX12_move 8 RX12 6 141) {Q : Int32 → h_S → Prop} (hE : h_end X (some .int) (h_QI (x_Z X) Q)) {o0 : Nat} {x1 : Int32} {x2 : Int32} {x3 : Int32} {x4 : Int32} (s : h_S) (h : w_X12_move_57 Q o0 x1 x2 x3 x4 s) : h_V X 8 57 [(0, pR (some o0)), (1, pI x1), (2, pI x2), (3, pI x3), (4, pI x4)] [] s 0 0 := by
  unfold w_X12_move_57 at h
  refine v_aload_n hX dX12_move_57 0 rfl rfl ?_
  refine v_iload_n hX dX12_move_58 2 rfl rfl ?_
  refine v_iload_n hX dX12_move_59 3 rfl rfl ?_
  obtain ⟨k1, h⟩ := h
  refine v_callVv0 hX dX12_move_60 c_RX12_446 cV_X12_takeOut (ci := 13) (T := TX12) (N := 115) rfl (by exact k1) [pI _, pI _] rfl rfl (Nat.le_of_ble_eq_true rfl) (by decide) (by decide)  (m_X12_takeOut h) (fun s2 h => ?_)
  refine v_aload_n hX dX12_move_63 0 rfl rfl ?_
  refine v_iload_n hX dX12_move_64 1 rfl rfl ?_
  obtain ⟨k4, h⟩ := h
  refine v_callVv0 hX dX12_move_65 c_RX12_449 cV_X12_layRow (ci := 13) (T := TX12) (N := 115) rfl (by exact k4) [pI _] rfl rfl (Nat.le_of_ble_eq_true rfl) (by decide) (by decide)  (m_X12_layRow h) (fun s5 h => ?_)
  refine v_aload_n hX dX12_move_68 0 rfl rfl ?_
  refine v_iload hX dX12_move_69 4 rfl ?_
  refine v_iload_n hX dX12_move_71 2 rfl rfl ?_
  refine v_icmp_le (tgt := 82) hX dX12_move_72 (by decide) (fun c7 => ?_) (fun c7 => ?_)
  · have h := h_T c7 h
    refine v_iload hX dX12_move_82 4 rfl ?_
    refine v_pick [0, 1] rfl ?_
    exact b_X12_move_84 hX hE _ h
  · have h := h_E c7 h
    refine v_iload hX dX12_move_75 4 rfl ?_
    refine v_iload_n hX dX12_move_77 3 rfl rfl ?_
    refine v_isub hX dX12_move_78 ?_
    refine v_goto (tgt := 84) hX dX12_move_79 (by decide) ?_
    refine v_pick [0, 1] rfl ?_
    exact b_X12_move_84 hX hE _ h
set_option maxRecDepth 100000 in
set_option maxHeartbeats 4000000 in
theorem m_X12_move {Z : h_Z} {o0 : Nat} {x1 : Int32} {x2 : Int32} {x3 : Int32} {x4 : Int32} {s : h_S} {Q : Int32 → h_S → Prop} (h : w_X12_move o0 x1 x2 x3 x4 s Q) : h_M Z yX12_move cX12_move 8 (some .int) 6 141 [pR (some o0), pI x1, pI x2, pI x3, pI x4] s 0 0 (h_QI Z Q) := by
  refine h_M.of (by decide) (Nat.le_of_ble_eq_true rfl) (fun X hZ hX hE hI => ?_)
  subst hZ
  unfold w_X12_move at h
  show h_V X 8 0 [(0, pR (some o0)), (1, pI x1), (2, pI x2), (3, pI x3), (4, pI x4)] [] s 0 0
  refine v_aload_n hX dX12_move_0 0 rfl rfl ?_
  refine v_iload_n hX dX12_move_1 1 rfl rfl ?_
  refine v_iload_n hX dX12_move_2 2 rfl rfl ?_
  refine v_iload_n hX dX12_move_3 3 rfl rfl ?_
  obtain ⟨k1, h⟩ := h
  refine v_callVi0 hX dX12_move_4 c_RX12_442 cV_X12_noPlaces (ci := 13) (T := TX12) (N := 115) rfl (by exact k1) [pI _, pI _, pI _] rfl rfl (Nat.le_of_ble_eq_true rfl) (by decide) (by decide)  (m_X12_noPlaces h) (fun p3 s2 h => ?_)
  refine v_istore (lv' := [(5, _), (0, _), (1, _), (2, _), (3, _), (4, _)]) hX dX12_move_7 (by decide) rfl ?_
  refine v_iload hX dX12_move_9 0 rfl ?_
  refine v_iconst (v := -1) hX dX12_move_11 (by decide) ?_
  refine v_icmp_eq (tgt := 30) hX dX12_move_12 (by decide) (fun c4 => ?_) (fun c4 => ?_)
  · have h := h_T c4 h
    refine v_pick [] rfl ?_
    exact b_X12_move_30 hX hE _ h
  · have h := h_E c4 h
    refine v_iload hX dX12_move_15 5 rfl ?_
    refine v_i2l hX dX12_move_17 ?_
    refine v_lconst (v := 0) hX dX12_move_18 (by decide) ?_
    refine v_aload_n hX dX12_move_19 1 rfl rfl ?_
    obtain ⟨k5, h⟩ := h
    refine v_getI hX dX12_move_20 f_RX12_342 rfl k5 ?_
    refine v_i2l hX dX12_move_23 ?_
    refine v_callSi0 hX dX12_move_24 c_RX12_298 cS_X12_in [pL _, pL _, pL _] rfl rfl (Nat.le_of_ble_eq_true rfl) (by decide) (by decide)  (m_X12_in h) (fun p7 s6 h => ?_)
    refine v_if_ne (tgt := 32) hX dX12_move_27 (by decide) (fun c8 => ?_) (fun c8 => ?_)
    · have h := h_E c8 h
      refine v_iload hX dX12_move_32 0 rfl ?_
      refine v_if_ge (tgt := 40) hX dX12_move_34 (by decide) (fun c9 => ?_) (fun c9 => ?_)
      · have h := h_T c9 h
        refine v_iload hX dX12_move_40 5 rfl ?_
        refine v_iload_n hX dX12_move_42 3 rfl rfl ?_
        refine v_icmp_le (tgt := 57) hX dX12_move_43 (by decide) (fun c10 => ?_) (fun c10 => ?_)
        · have h := h_T c10 h
          refine v_pick [1, 2, 3, 4, 5] rfl ?_
          exact b_X12_move_57 hX hE _ h
        · have h := h_E c10 h
          refine v_iload hX dX12_move_46 5 rfl ?_
          refine v_iload_n hX dX12_move_48 3 rfl rfl ?_
          refine v_iload_n hX dX12_move_49 4 rfl rfl ?_
          refine v_iadd hX dX12_move_50 ?_
          refine v_icmp_ge (tgt := 57) hX dX12_move_51 (by decide) (fun c11 => ?_) (fun c11 => ?_)
          · have h := h_T c11 h
            refine v_pick [1, 2, 3, 4, 5] rfl ?_
            exact b_X12_move_57 hX hE _ h
          · have h := h_E c11 h
            refine v_bipush (v := -3) hX dX12_move_54 (by decide) ?_
            exact v_iret hX hE dX12_move_56 h
      · have h := h_E c9 h
        refine v_iload hX dX12_move_37 0 rfl ?_
        exact v_iret hX hE dX12_move_39 h
    · have h := h_T c8 h
      refine v_pick [] rfl ?_
      exact b_X12_move_30 hX hE _ h
set_option maxRecDepth 100000 in
set_option maxHeartbeats 4000000 in
theorem b_X12_again_16 {X : h_X} (hX : h_ok X cX12_again 3 RX12 2 51) {Q : Int32 → h_S → Prop} (hE : h_end X (some .int) (h_QI (x_Z X) Q)) (s : h_S) (h : w_X12_again_16 Q s) : h_V X 3 16 [] [] s 0 0 := by
  unfold w_X12_again_16 at h
  refine v_iconst (v := -1) hX dX12_again_16 (by decide) ?_
  exact v_iret hX hE dX12_again_17 h
set_option maxRecDepth 100000 in
set_option maxHeartbeats 4000000 in
theorem m_X12_again {Z : h_Z} {o0 : Nat} {x1 : Int32} {x2 : Int32} {s : h_S} {Q : Int32 → h_S → Prop} (h : w_X12_again o0 x1 x2 s Q) : h_M Z yX12_again cX12_again 3 (some .int) 2 51 [pR (some o0), pI x1, pI x2] s 0 0 (h_QI Z Q) := by
  refine h_M.of (by decide) (Nat.le_of_ble_eq_true rfl) (fun X hZ hX hE hI => ?_)
  subst hZ
  unfold w_X12_again at h
  show h_V X 3 0 [(0, pR (some o0)), (1, pI x1), (2, pI x2)] [] s 0 0
  refine v_aload_n hX dX12_again_0 0 rfl rfl ?_
  refine v_iload_n hX dX12_again_1 1 rfl rfl ?_
  obtain ⟨k1, h⟩ := h
  refine v_callVi0 hX dX12_again_2 c_RX12_379 cV_X12_noWriting (ci := 13) (T := TX12) (N := 115) rfl (by exact k1) [pI _] rfl rfl (Nat.le_of_ble_eq_true rfl) (by decide) (by decide)  (m_X12_noWriting h) (fun p3 s2 h => ?_)
  refine v_if_ne (tgt := 16) hX dX12_again_5 (by decide) (fun c4 => ?_) (fun c4 => ?_)
  · have h := h_E c4 h
    refine v_pick [] rfl ?_
    exact b_X12_again_16 hX hE _ h
  · have h := h_T c4 h
    refine v_aload_n hX dX12_again_8 0 rfl rfl ?_
    refine v_iload_n hX dX12_again_9 2 rfl rfl ?_
    obtain ⟨k5, h⟩ := h
    refine v_callVi0 hX dX12_again_10 c_RX12_425 cV_X12_noMoment (ci := 13) (T := TX12) (N := 115) rfl (by exact k5) [pI _] rfl rfl (Nat.le_of_ble_eq_true rfl) (by decide) (by decide)  (m_X12_noMoment h) (fun p7 s6 h => ?_)
    refine v_if_eq (tgt := 18) hX dX12_again_13 (by decide) (fun c8 => ?_) (fun c8 => ?_)
    · have h := h_T c8 h
      refine v_aload_n hX dX12_again_18 0 rfl rfl ?_
      refine v_iload_n hX dX12_again_19 1 rfl rfl ?_
      refine v_iload_n hX dX12_again_20 2 rfl rfl ?_
      obtain ⟨k9, h⟩ := h
      refine v_callVv0 hX dX12_again_21 c_RX12_355 cV_X12_load (ci := 13) (T := TX12) (N := 115) rfl (by exact k9) [pI _, pI _] rfl rfl (Nat.le_of_ble_eq_true rfl) (by decide) (by decide)  (m_X12_load h) (fun s10 h => ?_)
      refine v_aload_n hX dX12_again_24 0 rfl rfl ?_
      refine v_iload_n hX dX12_again_25 1 rfl rfl ?_
      obtain ⟨k12, h⟩ := h
      refine v_callVi0 hX dX12_again_26 c_RX12_373 cV_X12_store (ci := 13) (T := TX12) (N := 115) rfl (by exact k12) [pI _] rfl rfl (Nat.le_of_ble_eq_true rfl) (by decide) (by decide)  (m_X12_store h) (fun p14 s13 h => ?_)
      refine v_pop hX dX12_again_29 rfl ?_
      refine v_aload_n hX dX12_again_30 0 rfl rfl ?_
      refine v_aload_n hX dX12_again_31 0 rfl rfl ?_
      obtain ⟨k15, h⟩ := h
      refine v_getI hX dX12_again_32 f_RX12_345 rfl k15 ?_
      refine v_callVi0 hX dX12_again_35 c_RX12_302 cV_X12_acted (ci := 13) (T := TX12) (N := 115) rfl (by exact k15) [pI _] rfl rfl (Nat.le_of_ble_eq_true rfl) (by decide) (by decide)  (m_X12_acted h) (fun p17 s16 h => ?_)
      exact v_iret hX hE dX12_again_38 h
    · have h := h_E c8 h
      refine v_pick [] rfl ?_
      exact b_X12_again_16 hX hE _ h
set_option maxRecDepth 100000 in
set_option maxHeartbeats 4000000 in
theorem b_X12_length_16 {X : h_X} (hX : h_ok X cX12_length 3 RX12 4 97) {Q : Int32 → h_S → Prop} (hE : h_end X (some .int) (h_QI (x_Z X) Q)) (s : h_S) (h : w_X12_length_16 Q s) : h_V X 3 16 [] [] s 0 0 := by
  unfold w_X12_length_16 at h
  refine v_iconst (v := -1) hX dX12_length_16 (by decide) ?_
  exact v_iret hX hE dX12_length_17 h
set_option maxRecDepth 100000 in
set_option maxHeartbeats 4000000 in
theorem m_X12_length {Z : h_Z} {o0 : Nat} {x1 : Int32} {x2 : Int32} {s : h_S} {Q : Int32 → h_S → Prop} (h : w_X12_length o0 x1 x2 s Q) : h_M Z yX12_length cX12_length 3 (some .int) 4 97 [pR (some o0), pI x1, pI x2] s 0 0 (h_QI Z Q) := by
  refine h_M.of (by decide) (Nat.le_of_ble_eq_true rfl) (fun X hZ hX hE hI => ?_)
  subst hZ
  unfold w_X12_length at h
  show h_V X 3 0 [(0, pR (some o0)), (1, pI x1), (2, pI x2)] [] s 0 0
  refine v_aload_n hX dX12_length_0 0 rfl rfl ?_
  refine v_iload_n hX dX12_length_1 1 rfl rfl ?_
  obtain ⟨k1, h⟩ := h
  refine v_callVi0 hX dX12_length_2 c_RX12_379 cV_X12_noWriting (ci := 13) (T := TX12) (N := 115) rfl (by exact k1) [pI _] rfl rfl (Nat.le_of_ble_eq_true rfl) (by decide) (by decide)  (m_X12_noWriting h) (fun p3 s2 h => ?_)
  refine v_if_ne (tgt := 16) hX dX12_length_5 (by decide) (fun c4 => ?_) (fun c4 => ?_)
  · have h := h_E c4 h
    refine v_pick [] rfl ?_
    exact b_X12_length_16 hX hE _ h
  · have h := h_T c4 h
    refine v_aload_n hX dX12_length_8 0 rfl rfl ?_
    refine v_iload_n hX dX12_length_9 2 rfl rfl ?_
    obtain ⟨k5, h⟩ := h
    refine v_callVi0 hX dX12_length_10 c_RX12_425 cV_X12_noMoment (ci := 13) (T := TX12) (N := 115) rfl (by exact k5) [pI _] rfl rfl (Nat.le_of_ble_eq_true rfl) (by decide) (by decide)  (m_X12_noMoment h) (fun p7 s6 h => ?_)
    refine v_if_eq (tgt := 18) hX dX12_length_13 (by decide) (fun c8 => ?_) (fun c8 => ?_)
    · have h := h_T c8 h
      refine v_aload_n hX dX12_length_18 0 rfl rfl ?_
      refine v_iload_n hX dX12_length_19 1 rfl rfl ?_
      refine v_iload_n hX dX12_length_20 2 rfl rfl ?_
      obtain ⟨k9, h⟩ := h
      refine v_callVv0 hX dX12_length_21 c_RX12_352 cV_X12_lay (ci := 13) (T := TX12) (N := 115) rfl (by exact k9) [pI _, pI _] rfl rfl (Nat.le_of_ble_eq_true rfl) (by decide) (by decide)  (m_X12_lay h) (fun s10 h => ?_)
      refine v_aload_n hX dX12_length_24 0 rfl rfl ?_
      obtain ⟨k12, h⟩ := h
      refine v_getI hX dX12_length_25 f_RX12_342 rfl k12 ?_
      exact v_iret hX hE dX12_length_28 h
    · have h := h_E c8 h
      refine v_pick [] rfl ?_
      exact b_X12_length_16 hX hE _ h
set_option maxRecDepth 100000 in
set_option maxHeartbeats 4000000 in
theorem b_X12_shown_16 {X : h_X} (hX : h_ok X cX12_shown 4 RX12 4 97) {Q : Int32 → h_S → Prop} (hE : h_end X (some .int) (h_QI (x_Z X) Q)) (s : h_S) (h : w_X12_shown_16 Q s) : h_V X 4 16 [] [] s 0 0 := by
  unfold w_X12_shown_16 at h
  refine v_iconst (v := -1) hX dX12_shown_16 (by decide) ?_
  exact v_iret hX hE dX12_shown_17 h
set_option maxRecDepth 100000 in
set_option maxHeartbeats 4000000 in
theorem b_X12_shown_50 {X : h_X} (hX : h_ok X cX12_shown 4 RX12 4 97) {Q : Int32 → h_S → Prop} (hE : h_end X (some .int) (h_QI (x_Z X) Q)) {y0 : Int32} (s : h_S) (h : w_X12_shown_50 Q y0 s) : h_V X 4 50 [] [pI y0] s 0 0 := by
  unfold w_X12_shown_50 at h
  exact v_iret hX hE dX12_shown_50 h
set_option maxRecDepth 100000 in
set_option maxHeartbeats 4000000 in
theorem m_X12_shown {Z : h_Z} {o0 : Nat} {x1 : Int32} {x2 : Int32} {x3 : Int32} {s : h_S} {Q : Int32 → h_S → Prop} (h : w_X12_shown o0 x1 x2 x3 s Q) : h_M Z yX12_shown cX12_shown 4 (some .int) 4 97 [pR (some o0), pI x1, pI x2, pI x3] s 0 0 (h_QI Z Q) := by
  refine h_M.of (by decide) (Nat.le_of_ble_eq_true rfl) (fun X hZ hX hE hI => ?_)
  subst hZ
  unfold w_X12_shown at h
  show h_V X 4 0 [(0, pR (some o0)), (1, pI x1), (2, pI x2), (3, pI x3)] [] s 0 0
  refine v_aload_n hX dX12_shown_0 0 rfl rfl ?_
  refine v_iload_n hX dX12_shown_1 1 rfl rfl ?_
  obtain ⟨k1, h⟩ := h
  refine v_callVi0 hX dX12_shown_2 c_RX12_379 cV_X12_noWriting (ci := 13) (T := TX12) (N := 115) rfl (by exact k1) [pI _] rfl rfl (Nat.le_of_ble_eq_true rfl) (by decide) (by decide)  (m_X12_noWriting h) (fun p3 s2 h => ?_)
  refine v_if_ne (tgt := 16) hX dX12_shown_5 (by decide) (fun c4 => ?_) (fun c4 => ?_)
  · have h := h_E c4 h
    refine v_pick [] rfl ?_
    exact b_X12_shown_16 hX hE _ h
  · have h := h_T c4 h
    refine v_aload_n hX dX12_shown_8 0 rfl rfl ?_
    refine v_iload_n hX dX12_shown_9 2 rfl rfl ?_
    obtain ⟨k5, h⟩ := h
    refine v_callVi0 hX dX12_shown_10 c_RX12_425 cV_X12_noMoment (ci := 13) (T := TX12) (N := 115) rfl (by exact k5) [pI _] rfl rfl (Nat.le_of_ble_eq_true rfl) (by decide) (by decide)  (m_X12_noMoment h) (fun p7 s6 h => ?_)
    refine v_if_eq (tgt := 18) hX dX12_shown_13 (by decide) (fun c8 => ?_) (fun c8 => ?_)
    · have h := h_T c8 h
      refine v_aload_n hX dX12_shown_18 0 rfl rfl ?_
      refine v_iload_n hX dX12_shown_19 1 rfl rfl ?_
      refine v_iload_n hX dX12_shown_20 2 rfl rfl ?_
      obtain ⟨k9, h⟩ := h
      refine v_callVv0 hX dX12_shown_21 c_RX12_352 cV_X12_lay (ci := 13) (T := TX12) (N := 115) rfl (by exact k9) [pI _, pI _] rfl rfl (Nat.le_of_ble_eq_true rfl) (by decide) (by decide)  (m_X12_lay h) (fun s10 h => ?_)
      refine v_iload_n hX dX12_shown_24 3 rfl rfl ?_
      refine v_i2l hX dX12_shown_25 ?_
      refine v_lconst (v := 0) hX dX12_shown_26 (by decide) ?_
      refine v_aload_n hX dX12_shown_27 0 rfl rfl ?_
      obtain ⟨k12, h⟩ := h
      refine v_getI hX dX12_shown_28 f_RX12_342 rfl k12 ?_
      refine v_i2l hX dX12_shown_31 ?_
      refine v_lconst (v := 1) hX dX12_shown_32 (by decide) ?_
      refine v_lsub hX dX12_shown_33 ?_
      refine v_callSi0 hX dX12_shown_34 c_RX12_298 cS_X12_in [pL _, pL _, pL _] rfl rfl (Nat.le_of_ble_eq_true rfl) (by decide) (by decide)  (m_X12_in h) (fun p14 s13 h => ?_)
      refine v_if_eq (tgt := 49) hX dX12_shown_37 (by decide) (fun c15 => ?_) (fun c15 => ?_)
      · have h := h_T c15 h
        refine v_iconst (v := -1) hX dX12_shown_49 (by decide) ?_
        refine v_pick [] rfl ?_
        exact b_X12_shown_50 hX hE _ h
      · have h := h_E c15 h
        refine v_aload_n hX dX12_shown_40 0 rfl rfl ?_
        obtain ⟨k16, h⟩ := h
        refine v_getR hX dX12_shown_41 f_RX12_91 rfl k16 ?_
        refine v_iload_n hX dX12_shown_44 3 rfl rfl ?_
        obtain ⟨a17, e_a17, h⟩ := h
        refine v_nn1 e_a17 ?_
        obtain ⟨k18, h⟩ := h
        obtain ⟨i19, h⟩ := h
        refine v_iald hX dX12_shown_45 k18 i19 ?_
        refine v_goto (tgt := 50) hX dX12_shown_46 (by decide) ?_
        refine v_pick [] rfl ?_
        exact b_X12_shown_50 hX hE _ h
    · have h := h_E c8 h
      refine v_pick [] rfl ?_
      exact b_X12_shown_16 hX hE _ h
set_option maxRecDepth 100000 in
set_option maxHeartbeats 4000000 in
theorem m_X12_pieces {Z : h_Z} {o0 : Nat} {x1 : Int32} {s : h_S} {Q : Int32 → h_S → Prop} (h : w_X12_pieces o0 x1 s Q) : h_M Z yX12_pieces cX12_pieces 2 (some .int) 2 51 [pR (some o0), pI x1] s 0 0 (h_QI Z Q) := by
  refine h_M.of (by decide) (Nat.le_of_ble_eq_true rfl) (fun X hZ hX hE hI => ?_)
  subst hZ
  unfold w_X12_pieces at h
  show h_V X 2 0 [(0, pR (some o0)), (1, pI x1)] [] s 0 0
  refine v_aload_n hX dX12_pieces_0 0 rfl rfl ?_
  refine v_iload_n hX dX12_pieces_1 1 rfl rfl ?_
  obtain ⟨k1, h⟩ := h
  refine v_callVi0 hX dX12_pieces_2 c_RX12_379 cV_X12_noWriting (ci := 13) (T := TX12) (N := 115) rfl (by exact k1) [pI _] rfl rfl (Nat.le_of_ble_eq_true rfl) (by decide) (by decide)  (m_X12_noWriting h) (fun p3 s2 h => ?_)
  refine v_if_eq (tgt := 10) hX dX12_pieces_5 (by decide) (fun c4 => ?_) (fun c4 => ?_)
  · have h := h_T c4 h
    refine v_aload_n hX dX12_pieces_10 0 rfl rfl ?_
    refine v_iload_n hX dX12_pieces_11 1 rfl rfl ?_
    refine v_aload_n hX dX12_pieces_12 0 rfl rfl ?_
    obtain ⟨k5, h⟩ := h
    refine v_getI hX dX12_pieces_13 f_RX12_288 rfl k5 ?_
    refine v_callVv0 hX dX12_pieces_16 c_RX12_355 cV_X12_load (ci := 13) (T := TX12) (N := 115) rfl (by exact k5) [pI _, pI _] rfl rfl (Nat.le_of_ble_eq_true rfl) (by decide) (by decide)  (m_X12_load h) (fun s6 h => ?_)
    refine v_aload_n hX dX12_pieces_19 0 rfl rfl ?_
    obtain ⟨k8, h⟩ := h
    refine v_getI hX dX12_pieces_20 f_RX12_345 rfl k8 ?_
    exact v_iret hX hE dX12_pieces_23 h
  · have h := h_E c4 h
    refine v_iconst (v := -1) hX dX12_pieces_8 (by decide) ?_
    exact v_iret hX hE dX12_pieces_9 h
set_option maxRecDepth 100000 in
set_option maxHeartbeats 4000000 in
theorem m_X12_piece {Z : h_Z} {o0 : Nat} {x1 : Int32} {x2 : Int32} {x3 : Int32} {s : h_S} {Q : Int32 → h_S → Prop} (h : w_X12_piece o0 x1 x2 x3 s Q) : h_M Z yX12_piece cX12_piece 4 (some .int) 2 51 [pR (some o0), pI x1, pI x2, pI x3] s 0 0 (h_QI Z Q) := by
  refine h_M.of (by decide) (Nat.le_of_ble_eq_true rfl) (fun X hZ hX hE hI => ?_)
  subst hZ
  unfold w_X12_piece at h
  show h_V X 4 0 [(0, pR (some o0)), (1, pI x1), (2, pI x2), (3, pI x3)] [] s 0 0
  refine v_aload_n hX dX12_piece_0 0 rfl rfl ?_
  refine v_iload_n hX dX12_piece_1 1 rfl rfl ?_
  obtain ⟨k1, h⟩ := h
  refine v_callVi0 hX dX12_piece_2 c_RX12_379 cV_X12_noWriting (ci := 13) (T := TX12) (N := 115) rfl (by exact k1) [pI _] rfl rfl (Nat.le_of_ble_eq_true rfl) (by decide) (by decide)  (m_X12_noWriting h) (fun p3 s2 h => ?_)
  refine v_if_eq (tgt := 10) hX dX12_piece_5 (by decide) (fun c4 => ?_) (fun c4 => ?_)
  · have h := h_T c4 h
    refine v_aload_n hX dX12_piece_10 0 rfl rfl ?_
    refine v_iload_n hX dX12_piece_11 1 rfl rfl ?_
    refine v_aload_n hX dX12_piece_12 0 rfl rfl ?_
    obtain ⟨k5, h⟩ := h
    refine v_getI hX dX12_piece_13 f_RX12_288 rfl k5 ?_
    refine v_callVv0 hX dX12_piece_16 c_RX12_355 cV_X12_load (ci := 13) (T := TX12) (N := 115) rfl (by exact k5) [pI _, pI _] rfl rfl (Nat.le_of_ble_eq_true rfl) (by decide) (by decide)  (m_X12_load h) (fun s6 h => ?_)
    refine v_iload_n hX dX12_piece_19 2 rfl rfl ?_
    refine v_i2l hX dX12_piece_20 ?_
    refine v_lconst (v := 0) hX dX12_piece_21 (by decide) ?_
    refine v_aload_n hX dX12_piece_22 0 rfl rfl ?_
    obtain ⟨k8, h⟩ := h
    refine v_getI hX dX12_piece_23 f_RX12_345 rfl k8 ?_
    refine v_i2l hX dX12_piece_26 ?_
    refine v_lconst (v := 1) hX dX12_piece_27 (by decide) ?_
    refine v_lsub hX dX12_piece_28 ?_
    refine v_callSi0 hX dX12_piece_29 c_RX12_298 cS_X12_in [pL _, pL _, pL _] rfl rfl (Nat.le_of_ble_eq_true rfl) (by decide) (by decide)  (m_X12_in h) (fun p10 s9 h => ?_)
    refine v_if_ne (tgt := 37) hX dX12_piece_32 (by decide) (fun c11 => ?_) (fun c11 => ?_)
    · have h := h_E c11 h
      refine v_iload_n hX dX12_piece_37 3 rfl rfl ?_
      refine v_gen (fun q37 e_q37 => ?_)
      rw [← e_q37] at h
      by_cases c12 : q37 = (0 : Int32)
      · have h := h_T c12 h
        refine v_tabIn (tgt := 72) hX dX12_piece_38 (by rw [c12]; decide) (by rw [c12]; decide) (by rw [c12]; rfl) (by decide) ?_
        refine v_aload_n hX dX12_piece_72 0 rfl rfl ?_
        obtain ⟨k13, h⟩ := h
        refine v_getR hX dX12_piece_73 f_RX12_103 rfl k13 ?_
        refine v_iload_n hX dX12_piece_76 2 rfl rfl ?_
        obtain ⟨a14, e_a14, h⟩ := h
        refine v_nn1 e_a14 ?_
        obtain ⟨k15, h⟩ := h
        obtain ⟨i16, h⟩ := h
        refine v_iald hX dX12_piece_77 k15 i16 ?_
        exact v_iret hX hE dX12_piece_78 h
      · have h := h_E c12 h
        by_cases c17 : q37 = (1 : Int32)
        · have h := h_T c17 h
          refine v_tabIn (tgt := 79) hX dX12_piece_38 (by rw [c17]; decide) (by rw [c17]; decide) (by rw [c17]; rfl) (by decide) ?_
          refine v_aload_n hX dX12_piece_79 0 rfl rfl ?_
          obtain ⟨k18, h⟩ := h
          refine v_getR hX dX12_piece_80 f_RX12_106 rfl k18 ?_
          refine v_iload_n hX dX12_piece_83 2 rfl rfl ?_
          obtain ⟨a19, e_a19, h⟩ := h
          refine v_nn1 e_a19 ?_
          obtain ⟨k20, h⟩ := h
          obtain ⟨i21, h⟩ := h
          refine v_iald hX dX12_piece_84 k20 i21 ?_
          exact v_iret hX hE dX12_piece_85 h
        · have h := h_E c17 h
          by_cases c22 : q37 = (2 : Int32)
          · have h := h_T c22 h
            refine v_tabIn (tgt := 86) hX dX12_piece_38 (by rw [c22]; decide) (by rw [c22]; decide) (by rw [c22]; rfl) (by decide) ?_
            refine v_aload_n hX dX12_piece_86 0 rfl rfl ?_
            obtain ⟨k23, h⟩ := h
            refine v_getR hX dX12_piece_87 f_RX12_109 rfl k23 ?_
            refine v_iload_n hX dX12_piece_90 2 rfl rfl ?_
            obtain ⟨a24, e_a24, h⟩ := h
            refine v_nn1 e_a24 ?_
            obtain ⟨k25, h⟩ := h
            obtain ⟨i26, h⟩ := h
            refine v_iald hX dX12_piece_91 k25 i26 ?_
            exact v_iret hX hE dX12_piece_92 h
          · have h := h_E c22 h
            by_cases c27 : q37 = (3 : Int32)
            · have h := h_T c27 h
              refine v_tabIn (tgt := 93) hX dX12_piece_38 (by rw [c27]; decide) (by rw [c27]; decide) (by rw [c27]; rfl) (by decide) ?_
              refine v_aload_n hX dX12_piece_93 0 rfl rfl ?_
              obtain ⟨k28, h⟩ := h
              refine v_getR hX dX12_piece_94 f_RX12_112 rfl k28 ?_
              refine v_iload_n hX dX12_piece_97 2 rfl rfl ?_
              obtain ⟨a29, e_a29, h⟩ := h
              refine v_nn1 e_a29 ?_
              obtain ⟨k30, h⟩ := h
              obtain ⟨i31, h⟩ := h
              refine v_iald hX dX12_piece_98 k30 i31 ?_
              exact v_iret hX hE dX12_piece_99 h
            · have h := h_E c27 h
              by_cases c32 : q37 = (4 : Int32)
              · have h := h_T c32 h
                refine v_tabIn (tgt := 100) hX dX12_piece_38 (by rw [c32]; decide) (by rw [c32]; decide) (by rw [c32]; rfl) (by decide) ?_
                refine v_aload_n hX dX12_piece_100 0 rfl rfl ?_
                obtain ⟨k33, h⟩ := h
                refine v_getR hX dX12_piece_101 f_RX12_115 rfl k33 ?_
                refine v_iload_n hX dX12_piece_104 2 rfl rfl ?_
                obtain ⟨a34, e_a34, h⟩ := h
                refine v_nn1 e_a34 ?_
                obtain ⟨k35, h⟩ := h
                obtain ⟨i36, h⟩ := h
                refine v_iald hX dX12_piece_105 k35 i36 ?_
                exact v_iret hX hE dX12_piece_106 h
              · have h := h_E c32 h
                refine v_tabOut (tgt := 107) hX dX12_piece_38 (by have := h_ti c12 (n := 0) rfl; have := h_ti c17 (n := 1) rfl; have := h_ti c22 (n := 2) rfl; have := h_ti c27 (n := 3) rfl; have := h_ti c32 (n := 4) rfl; omega) (by decide) ?_
                refine v_bipush (v := -2) hX dX12_piece_107 (by decide) ?_
                exact v_iret hX hE dX12_piece_109 h
    · have h := h_T c11 h
      refine v_iconst (v := -1) hX dX12_piece_35 (by decide) ?_
      exact v_iret hX hE dX12_piece_36 h
  · have h := h_E c4 h
    refine v_iconst (v := -1) hX dX12_piece_8 (by decide) ?_
    exact v_iret hX hE dX12_piece_9 h
set_option maxRecDepth 100000 in
set_option maxHeartbeats 4000000 in
theorem m_X12_word {Z : h_Z} {o0 : Nat} {x1 : Int32} {x2 : Int32} {s : h_S} {Q : Int32 → h_S → Prop} (h : w_X12_word o0 x1 x2 s Q) : h_M Z yX12_word cX12_word 3 (some .int) 2 46 [pR (some o0), pI x1, pI x2] s 0 0 (h_QI Z Q) := by
  refine h_M.of (by decide) (Nat.le_of_ble_eq_true rfl) (fun X hZ hX hE hI => ?_)
  subst hZ
  unfold w_X12_word at h
  show h_V X 3 0 [(0, pR (some o0)), (1, pI x1), (2, pI x2)] [] s 0 0
  refine v_aload_n hX dX12_word_0 0 rfl rfl ?_
  refine v_iload_n hX dX12_word_1 1 rfl rfl ?_
  obtain ⟨k1, h⟩ := h
  refine v_callVi0 hX dX12_word_2 c_RX12_452 cV_X12_noWord (ci := 13) (T := TX12) (N := 115) rfl (by exact k1) [pI _] rfl rfl (Nat.le_of_ble_eq_true rfl) (by decide) (by decide)  (m_X12_noWord h) (fun p3 s2 h => ?_)
  refine v_if_eq (tgt := 10) hX dX12_word_5 (by decide) (fun c4 => ?_) (fun c4 => ?_)
  · have h := h_T c4 h
    refine v_iload_n hX dX12_word_10 2 rfl rfl ?_
    refine v_gen (fun q30 e_q30 => ?_)
    rw [← e_q30] at h
    by_cases c5 : q30 = (0 : Int32)
    · have h := h_T c5 h
      refine v_tabIn (tgt := 44) hX dX12_word_11 (by rw [c5]; decide) (by rw [c5]; decide) (by rw [c5]; rfl) (by decide) ?_
      refine v_aload_n hX dX12_word_44 0 rfl rfl ?_
      obtain ⟨k6, h⟩ := h
      refine v_getR hX dX12_word_45 f_RX12_55 rfl k6 ?_
      refine v_iload_n hX dX12_word_48 1 rfl rfl ?_
      obtain ⟨a7, e_a7, h⟩ := h
      refine v_nn1 e_a7 ?_
      obtain ⟨k8, h⟩ := h
      obtain ⟨i9, h⟩ := h
      refine v_iald hX dX12_word_49 k8 i9 ?_
      exact v_iret hX hE dX12_word_50 h
    · have h := h_E c5 h
      by_cases c10 : q30 = (1 : Int32)
      · have h := h_T c10 h
        refine v_tabIn (tgt := 51) hX dX12_word_11 (by rw [c10]; decide) (by rw [c10]; decide) (by rw [c10]; rfl) (by decide) ?_
        refine v_aload_n hX dX12_word_51 0 rfl rfl ?_
        obtain ⟨k11, h⟩ := h
        refine v_getR hX dX12_word_52 f_RX12_58 rfl k11 ?_
        refine v_iload_n hX dX12_word_55 1 rfl rfl ?_
        obtain ⟨a12, e_a12, h⟩ := h
        refine v_nn1 e_a12 ?_
        obtain ⟨k13, h⟩ := h
        obtain ⟨i14, h⟩ := h
        refine v_iald hX dX12_word_56 k13 i14 ?_
        exact v_iret hX hE dX12_word_57 h
      · have h := h_E c10 h
        by_cases c15 : q30 = (2 : Int32)
        · have h := h_T c15 h
          refine v_tabIn (tgt := 58) hX dX12_word_11 (by rw [c15]; decide) (by rw [c15]; decide) (by rw [c15]; rfl) (by decide) ?_
          refine v_aload_n hX dX12_word_58 0 rfl rfl ?_
          obtain ⟨k16, h⟩ := h
          refine v_getR hX dX12_word_59 f_RX12_61 rfl k16 ?_
          refine v_iload_n hX dX12_word_62 1 rfl rfl ?_
          obtain ⟨a17, e_a17, h⟩ := h
          refine v_nn1 e_a17 ?_
          obtain ⟨k18, h⟩ := h
          obtain ⟨i19, h⟩ := h
          refine v_iald hX dX12_word_63 k18 i19 ?_
          exact v_iret hX hE dX12_word_64 h
        · have h := h_E c15 h
          by_cases c20 : q30 = (3 : Int32)
          · have h := h_T c20 h
            refine v_tabIn (tgt := 65) hX dX12_word_11 (by rw [c20]; decide) (by rw [c20]; decide) (by rw [c20]; rfl) (by decide) ?_
            refine v_aload_n hX dX12_word_65 0 rfl rfl ?_
            obtain ⟨k21, h⟩ := h
            refine v_getR hX dX12_word_66 f_RX12_64 rfl k21 ?_
            refine v_iload_n hX dX12_word_69 1 rfl rfl ?_
            obtain ⟨a22, e_a22, h⟩ := h
            refine v_nn1 e_a22 ?_
            obtain ⟨k23, h⟩ := h
            obtain ⟨i24, h⟩ := h
            refine v_iald hX dX12_word_70 k23 i24 ?_
            exact v_iret hX hE dX12_word_71 h
          · have h := h_E c20 h
            by_cases c25 : q30 = (4 : Int32)
            · have h := h_T c25 h
              refine v_tabIn (tgt := 72) hX dX12_word_11 (by rw [c25]; decide) (by rw [c25]; decide) (by rw [c25]; rfl) (by decide) ?_
              refine v_aload_n hX dX12_word_72 0 rfl rfl ?_
              obtain ⟨k26, h⟩ := h
              refine v_getR hX dX12_word_73 f_RX12_67 rfl k26 ?_
              refine v_iload_n hX dX12_word_76 1 rfl rfl ?_
              obtain ⟨a27, e_a27, h⟩ := h
              refine v_nn1 e_a27 ?_
              obtain ⟨k28, h⟩ := h
              obtain ⟨i29, h⟩ := h
              refine v_iald hX dX12_word_77 k28 i29 ?_
              exact v_iret hX hE dX12_word_78 h
            · have h := h_E c25 h
              refine v_tabOut (tgt := 79) hX dX12_word_11 (by have := h_ti c5 (n := 0) rfl; have := h_ti c10 (n := 1) rfl; have := h_ti c15 (n := 2) rfl; have := h_ti c20 (n := 3) rfl; have := h_ti c25 (n := 4) rfl; omega) (by decide) ?_
              refine v_bipush (v := -2) hX dX12_word_79 (by decide) ?_
              exact v_iret hX hE dX12_word_81 h
  · have h := h_E c4 h
    refine v_iconst (v := -1) hX dX12_word_8 (by decide) ?_
    exact v_iret hX hE dX12_word_9 h
set_option maxRecDepth 100000 in
set_option maxHeartbeats 4000000 in
theorem b_X12_noVersion_21 {X : h_X} (hX : h_ok X cX12_noVersion 2 RX12 1 25) {Q : Int32 → h_S → Prop} (hE : h_end X (some .boolean) (h_QI (x_Z X) Q)) {y0 : Int32} (s : h_S) (h : w_X12_noVersion_21 Q y0 s) : h_V X 2 21 [] [pI y0] s 0 0 := by
  unfold w_X12_noVersion_21 at h
  exact v_zret hX hE dX12_noVersion_21 h.1 h.2
set_option maxRecDepth 100000 in
set_option maxHeartbeats 4000000 in
theorem m_X12_noVersion {Z : h_Z} {o0 : Nat} {x1 : Int32} {s : h_S} {Q : Int32 → h_S → Prop} (h : w_X12_noVersion o0 x1 s Q) : h_M Z yX12_noVersion cX12_noVersion 2 (some .boolean) 1 25 [pR (some o0), pI x1] s 0 0 (h_QI Z Q) := by
  refine h_M.of (by decide) (Nat.le_of_ble_eq_true rfl) (fun X hZ hX hE hI => ?_)
  subst hZ
  unfold w_X12_noVersion at h
  show h_V X 2 0 [(0, pR (some o0)), (1, pI x1)] [] s 0 0
  refine v_iload_n hX dX12_noVersion_0 1 rfl rfl ?_
  refine v_i2l hX dX12_noVersion_1 ?_
  refine v_lconst (v := 0) hX dX12_noVersion_2 (by decide) ?_
  refine v_aload_n hX dX12_noVersion_3 0 rfl rfl ?_
  obtain ⟨k1, h⟩ := h
  refine v_getI hX dX12_noVersion_4 f_RX12_455 rfl k1 ?_
  refine v_i2l hX dX12_noVersion_7 ?_
  refine v_lconst (v := 1) hX dX12_noVersion_8 (by decide) ?_
  refine v_lsub hX dX12_noVersion_9 ?_
  refine v_callSi0 hX dX12_noVersion_10 c_RX12_298 cS_X12_in [pL _, pL _, pL _] rfl rfl (Nat.le_of_ble_eq_true rfl) (by decide) (by decide)  (m_X12_in h) (fun p3 s2 h => ?_)
  refine v_if_ne (tgt := 20) hX dX12_noVersion_13 (by decide) (fun c4 => ?_) (fun c4 => ?_)
  · have h := h_E c4 h
    refine v_iconst (v := 0) hX dX12_noVersion_20 (by decide) ?_
    refine v_pick [] rfl ?_
    exact b_X12_noVersion_21 hX hE _ h
  · have h := h_T c4 h
    refine v_iconst (v := 1) hX dX12_noVersion_16 (by decide) ?_
    refine v_goto (tgt := 21) hX dX12_noVersion_17 (by decide) ?_
    refine v_pick [] rfl ?_
    exact b_X12_noVersion_21 hX hE _ h
set_option maxRecDepth 100000 in
set_option maxHeartbeats 4000000 in
theorem m_X12_layVersion {Z : h_Z} {o0 : Nat} {x1 : Int32} {s : h_S} {Q : h_S → Prop} (h : w_X12_layVersion o0 x1 s Q) : h_M Z yX12_layVersion cX12_layVersion 2 none 4 97 [pR (some o0), pI x1] s 0 0 (h_QV Z Q) := by
  refine h_M.of (by decide) (Nat.le_of_ble_eq_true rfl) (fun X hZ hX hE hI => ?_)
  subst hZ
  unfold w_X12_layVersion at h
  show h_V X 2 0 [(0, pR (some o0)), (1, pI x1)] [] s 0 0
  refine v_aload_n hX dX12_layVersion_0 0 rfl rfl ?_
  refine v_aload_n hX dX12_layVersion_1 0 rfl rfl ?_
  obtain ⟨k1, h⟩ := h
  refine v_getR hX dX12_layVersion_2 f_RX12_142 rfl k1 ?_
  refine v_iload_n hX dX12_layVersion_5 1 rfl rfl ?_
  obtain ⟨a2, e_a2, h⟩ := h
  refine v_nn1 e_a2 ?_
  obtain ⟨k3, h⟩ := h
  obtain ⟨i4, h⟩ := h
  refine v_iald hX dX12_layVersion_6 k3 i4 ?_
  refine v_aload_n hX dX12_layVersion_7 0 rfl rfl ?_
  refine v_getR hX dX12_layVersion_8 f_RX12_145 rfl k1 ?_
  refine v_iload_n hX dX12_layVersion_11 1 rfl rfl ?_
  obtain ⟨a5, e_a5, h⟩ := h
  refine v_nn1 e_a5 ?_
  obtain ⟨k6, h⟩ := h
  obtain ⟨i7, h⟩ := h
  refine v_iald hX dX12_layVersion_12 k6 i7 ?_
  refine v_callVv0 hX dX12_layVersion_13 c_RX12_352 cV_X12_lay (ci := 13) (T := TX12) (N := 115) rfl (by exact k1) [pI _, pI _] rfl rfl (Nat.le_of_ble_eq_true rfl) (by decide) (by decide)  (m_X12_lay h) (fun s8 h => ?_)
  exact v_vret hX hE dX12_layVersion_16 h
set_option maxRecDepth 100000 in
set_option maxHeartbeats 4000000 in
theorem m_X12_version {Z : h_Z} {o0 : Nat} {x1 : Int32} {s : h_S} {Q : Int32 → h_S → Prop} (h : w_X12_version o0 x1 s Q) : h_M Z yX12_version cX12_version 2 (some .int) 2 46 [pR (some o0), pI x1] s 0 0 (h_QI Z Q) := by
  refine h_M.of (by decide) (Nat.le_of_ble_eq_true rfl) (fun X hZ hX hE hI => ?_)
  subst hZ
  unfold w_X12_version at h
  show h_V X 2 0 [(0, pR (some o0)), (1, pI x1)] [] s 0 0
  refine v_aload_n hX dX12_version_0 0 rfl rfl ?_
  refine v_iload_n hX dX12_version_1 1 rfl rfl ?_
  obtain ⟨k1, h⟩ := h
  refine v_callVi0 hX dX12_version_2 c_RX12_379 cV_X12_noWriting (ci := 13) (T := TX12) (N := 115) rfl (by exact k1) [pI _] rfl rfl (Nat.le_of_ble_eq_true rfl) (by decide) (by decide)  (m_X12_noWriting h) (fun p3 s2 h => ?_)
  refine v_if_eq (tgt := 10) hX dX12_version_5 (by decide) (fun c4 => ?_) (fun c4 => ?_)
  · have h := h_T c4 h
    refine v_aload_n hX dX12_version_10 0 rfl rfl ?_
    obtain ⟨k5, h⟩ := h
    refine v_getI hX dX12_version_11 f_RX12_455 rfl k5 ?_
    refine v_bipush (v := 16) hX dX12_version_14 (by decide) ?_
    refine v_icmp_ne (tgt := 22) hX dX12_version_16 (by decide) (fun c6 => ?_) (fun c6 => ?_)
    · have h := h_E c6 h
      refine v_aload_n hX dX12_version_22 0 rfl rfl ?_
      refine v_getR hX dX12_version_23 f_RX12_142 rfl k5 ?_
      refine v_aload_n hX dX12_version_26 0 rfl rfl ?_
      refine v_getI hX dX12_version_27 f_RX12_455 rfl k5 ?_
      refine v_iload_n hX dX12_version_30 1 rfl rfl ?_
      obtain ⟨a7, e_a7, h⟩ := h
      refine v_nn2 e_a7 ?_
      obtain ⟨k8, h⟩ := h
      obtain ⟨i9, h⟩ := h
      refine v_iast hX dX12_version_31 k8 i9 ?_
      refine v_aload_n hX dX12_version_32 0 rfl rfl ?_
      refine v_getR hX dX12_version_33 f_RX12_145 rfl k5 ?_
      refine v_aload_n hX dX12_version_36 0 rfl rfl ?_
      refine v_getI hX dX12_version_37 f_RX12_455 rfl k5 ?_
      refine v_aload_n hX dX12_version_40 0 rfl rfl ?_
      refine v_getI hX dX12_version_41 f_RX12_288 rfl k5 ?_
      refine v_iconst (v := 1) hX dX12_version_44 (by decide) ?_
      refine v_iadd hX dX12_version_45 ?_
      obtain ⟨a11, e_a11, h⟩ := h
      refine v_nn2 e_a11 ?_
      obtain ⟨k12, h⟩ := h
      obtain ⟨i13, h⟩ := h
      refine v_iast hX dX12_version_46 k12 i13 ?_
      refine v_aload_n hX dX12_version_47 0 rfl rfl ?_
      refine v_getR hX dX12_version_48 f_RX12_148 rfl k5 ?_
      refine v_aload_n hX dX12_version_51 0 rfl rfl ?_
      refine v_getI hX dX12_version_52 f_RX12_455 rfl k5 ?_
      refine v_bipush (v := -9) hX dX12_version_55 (by decide) ?_
      obtain ⟨a15, e_a15, h⟩ := h
      refine v_nn2 e_a15 ?_
      obtain ⟨k16, h⟩ := h
      obtain ⟨i17, h⟩ := h
      refine v_iast hX dX12_version_57 k16 i17 ?_
      refine v_aload_n hX dX12_version_58 0 rfl rfl ?_
      refine v_getR hX dX12_version_59 f_RX12_151 rfl k5 ?_
      refine v_aload_n hX dX12_version_62 0 rfl rfl ?_
      refine v_getI hX dX12_version_63 f_RX12_455 rfl k5 ?_
      refine v_bipush (v := -9) hX dX12_version_66 (by decide) ?_
      obtain ⟨a19, e_a19, h⟩ := h
      refine v_nn2 e_a19 ?_
      obtain ⟨k20, h⟩ := h
      obtain ⟨i21, h⟩ := h
      refine v_iast hX dX12_version_68 k20 i21 ?_
      refine v_aload_n hX dX12_version_69 0 rfl rfl ?_
      refine v_dup hX dX12_version_70 rfl ?_
      refine v_getI hX dX12_version_71 f_RX12_455 rfl k5 ?_
      refine v_iconst (v := 1) hX dX12_version_74 (by decide) ?_
      refine v_iadd hX dX12_version_75 ?_
      refine v_putI hX dX12_version_76 f_RX12_455 k5 ?_
      refine v_aload_n hX dX12_version_79 0 rfl rfl ?_
      refine v_aload_n hX dX12_version_80 0 rfl rfl ?_
      refine v_getI hX dX12_version_81 f_RX12_455 rfl k5 ?_
      refine v_iconst (v := 1) hX dX12_version_84 (by decide) ?_
      refine v_isub hX dX12_version_85 ?_
      refine v_callVi0 hX dX12_version_86 c_RX12_302 cV_X12_acted (ci := 13) (T := TX12) (N := 115) rfl (by exact k5) [pI _] rfl rfl (Nat.le_of_ble_eq_true rfl) (by decide) (by decide)  (m_X12_acted h) (fun p25 s24 h => ?_)
      exact v_iret hX hE dX12_version_89 h
    · have h := h_T c6 h
      refine v_bipush (v := -4) hX dX12_version_19 (by decide) ?_
      exact v_iret hX hE dX12_version_21 h
  · have h := h_E c4 h
    refine v_iconst (v := -1) hX dX12_version_8 (by decide) ?_
    exact v_iret hX hE dX12_version_9 h
set_option maxRecDepth 100000 in
set_option maxHeartbeats 4000000 in
theorem m_X12_give {Z : h_Z} {o0 : Nat} {x1 : Int32} {s : h_S} {Q : Int32 → h_S → Prop} (h : w_X12_give o0 x1 s Q) : h_M Z yX12_give cX12_give 2 (some .int) 5 118 [pR (some o0), pI x1] s 0 0 (h_QI Z Q) := by
  refine h_M.of (by decide) (Nat.le_of_ble_eq_true rfl) (fun X hZ hX hE hI => ?_)
  subst hZ
  unfold w_X12_give at h
  show h_V X 2 0 [(0, pR (some o0)), (1, pI x1)] [] s 0 0
  refine v_aload_n hX dX12_give_0 0 rfl rfl ?_
  refine v_iload_n hX dX12_give_1 1 rfl rfl ?_
  obtain ⟨k1, h⟩ := h
  refine v_callVi0 hX dX12_give_2 c_RX12_458 cV_X12_noVersion (ci := 13) (T := TX12) (N := 115) rfl (by exact k1) [pI _] rfl rfl (Nat.le_of_ble_eq_true rfl) (by decide) (by decide)  (m_X12_noVersion h) (fun p3 s2 h => ?_)
  refine v_if_eq (tgt := 10) hX dX12_give_5 (by decide) (fun c4 => ?_) (fun c4 => ?_)
  · have h := h_T c4 h
    refine v_aload_n hX dX12_give_10 0 rfl rfl ?_
    obtain ⟨k5, h⟩ := h
    refine v_getR hX dX12_give_11 f_RX12_148 rfl k5 ?_
    refine v_iload_n hX dX12_give_14 1 rfl rfl ?_
    obtain ⟨a6, e_a6, h⟩ := h
    refine v_nn1 e_a6 ?_
    obtain ⟨k7, h⟩ := h
    obtain ⟨i8, h⟩ := h
    refine v_iald hX dX12_give_15 k7 i8 ?_
    refine v_if_lt (tgt := 22) hX dX12_give_16 (by decide) (fun c9 => ?_) (fun c9 => ?_)
    · have h := h_T c9 h
      refine v_aload_n hX dX12_give_22 0 rfl rfl ?_
      refine v_getR hX dX12_give_23 f_RX12_148 rfl k5 ?_
      refine v_iload_n hX dX12_give_26 1 rfl rfl ?_
      refine v_aload_n hX dX12_give_27 0 rfl rfl ?_
      refine v_getI hX dX12_give_28 f_RX12_288 rfl k5 ?_
      refine v_iconst (v := 1) hX dX12_give_31 (by decide) ?_
      refine v_iadd hX dX12_give_32 ?_
      obtain ⟨a10, e_a10, h⟩ := h
      refine v_nn2 e_a10 ?_
      obtain ⟨k11, h⟩ := h
      obtain ⟨i12, h⟩ := h
      refine v_iast hX dX12_give_33 k11 i12 ?_
      refine v_aload_n hX dX12_give_34 0 rfl rfl ?_
      refine v_iload_n hX dX12_give_35 1 rfl rfl ?_
      refine v_callVv0 hX dX12_give_36 c_RX12_461 cV_X12_layVersion (ci := 13) (T := TX12) (N := 115) rfl (by exact k5) [pI _] rfl rfl (Nat.le_of_ble_eq_true rfl) (by decide) (by decide)  (m_X12_layVersion h) (fun s14 h => ?_)
      refine v_aload_n hX dX12_give_39 0 rfl rfl ?_
      refine v_aload_n hX dX12_give_40 0 rfl rfl ?_
      obtain ⟨k16, h⟩ := h
      refine v_getI hX dX12_give_41 f_RX12_342 rfl k16 ?_
      refine v_callVi0 hX dX12_give_44 c_RX12_302 cV_X12_acted (ci := 13) (T := TX12) (N := 115) rfl (by exact k16) [pI _] rfl rfl (Nat.le_of_ble_eq_true rfl) (by decide) (by decide)  (m_X12_acted h) (fun p18 s17 h => ?_)
      exact v_iret hX hE dX12_give_47 h
    · have h := h_E c9 h
      refine v_bipush (v := -3) hX dX12_give_19 (by decide) ?_
      exact v_iret hX hE dX12_give_21 h
  · have h := h_E c4 h
    refine v_iconst (v := -1) hX dX12_give_8 (by decide) ?_
    exact v_iret hX hE dX12_give_9 h
set_option maxRecDepth 100000 in
set_option maxHeartbeats 4000000 in
theorem b_X12_back_28 {X : h_X} (hX : h_ok X cX12_back 2 RX12 5 118) {Q : Int32 → h_S → Prop} (hE : h_end X (some .int) (h_QI (x_Z X) Q)) (s : h_S) (h : w_X12_back_28 Q s) : h_V X 2 28 [] [] s 0 0 := by
  unfold w_X12_back_28 at h
  refine v_bipush (v := -3) hX dX12_back_28 (by decide) ?_
  exact v_iret hX hE dX12_back_30 h
set_option maxRecDepth 100000 in
set_option maxHeartbeats 4000000 in
theorem m_X12_back {Z : h_Z} {o0 : Nat} {x1 : Int32} {s : h_S} {Q : Int32 → h_S → Prop} (h : w_X12_back o0 x1 s Q) : h_M Z yX12_back cX12_back 2 (some .int) 5 118 [pR (some o0), pI x1] s 0 0 (h_QI Z Q) := by
  refine h_M.of (by decide) (Nat.le_of_ble_eq_true rfl) (fun X hZ hX hE hI => ?_)
  subst hZ
  unfold w_X12_back at h
  show h_V X 2 0 [(0, pR (some o0)), (1, pI x1)] [] s 0 0
  refine v_aload_n hX dX12_back_0 0 rfl rfl ?_
  refine v_iload_n hX dX12_back_1 1 rfl rfl ?_
  obtain ⟨k1, h⟩ := h
  refine v_callVi0 hX dX12_back_2 c_RX12_458 cV_X12_noVersion (ci := 13) (T := TX12) (N := 115) rfl (by exact k1) [pI _] rfl rfl (Nat.le_of_ble_eq_true rfl) (by decide) (by decide)  (m_X12_noVersion h) (fun p3 s2 h => ?_)
  refine v_if_eq (tgt := 10) hX dX12_back_5 (by decide) (fun c4 => ?_) (fun c4 => ?_)
  · have h := h_T c4 h
    refine v_aload_n hX dX12_back_10 0 rfl rfl ?_
    obtain ⟨k5, h⟩ := h
    refine v_getR hX dX12_back_11 f_RX12_148 rfl k5 ?_
    refine v_iload_n hX dX12_back_14 1 rfl rfl ?_
    obtain ⟨a6, e_a6, h⟩ := h
    refine v_nn1 e_a6 ?_
    obtain ⟨k7, h⟩ := h
    obtain ⟨i8, h⟩ := h
    refine v_iald hX dX12_back_15 k7 i8 ?_
    refine v_if_lt (tgt := 28) hX dX12_back_16 (by decide) (fun c9 => ?_) (fun c9 => ?_)
    · have h := h_T c9 h
      refine v_pick [] rfl ?_
      exact b_X12_back_28 hX hE _ h
    · have h := h_E c9 h
      refine v_aload_n hX dX12_back_19 0 rfl rfl ?_
      refine v_getR hX dX12_back_20 f_RX12_151 rfl k5 ?_
      refine v_iload_n hX dX12_back_23 1 rfl rfl ?_
      obtain ⟨a10, e_a10, h⟩ := h
      refine v_nn1 e_a10 ?_
      obtain ⟨k11, h⟩ := h
      obtain ⟨i12, h⟩ := h
      refine v_iald hX dX12_back_24 k11 i12 ?_
      refine v_if_lt (tgt := 31) hX dX12_back_25 (by decide) (fun c13 => ?_) (fun c13 => ?_)
      · have h := h_T c13 h
        refine v_aload_n hX dX12_back_31 0 rfl rfl ?_
        refine v_getR hX dX12_back_32 f_RX12_151 rfl k5 ?_
        refine v_iload_n hX dX12_back_35 1 rfl rfl ?_
        refine v_aload_n hX dX12_back_36 0 rfl rfl ?_
        refine v_getI hX dX12_back_37 f_RX12_288 rfl k5 ?_
        refine v_iconst (v := 1) hX dX12_back_40 (by decide) ?_
        refine v_iadd hX dX12_back_41 ?_
        obtain ⟨a14, e_a14, h⟩ := h
        refine v_nn2 e_a14 ?_
        obtain ⟨k15, h⟩ := h
        obtain ⟨i16, h⟩ := h
        refine v_iast hX dX12_back_42 k15 i16 ?_
        refine v_aload_n hX dX12_back_43 0 rfl rfl ?_
        refine v_iload_n hX dX12_back_44 1 rfl rfl ?_
        refine v_callVv0 hX dX12_back_45 c_RX12_461 cV_X12_layVersion (ci := 13) (T := TX12) (N := 115) rfl (by exact k5) [pI _] rfl rfl (Nat.le_of_ble_eq_true rfl) (by decide) (by decide)  (m_X12_layVersion h) (fun s18 h => ?_)
        refine v_aload_n hX dX12_back_48 0 rfl rfl ?_
        refine v_aload_n hX dX12_back_49 0 rfl rfl ?_
        obtain ⟨k20, h⟩ := h
        refine v_getI hX dX12_back_50 f_RX12_342 rfl k20 ?_
        refine v_callVi0 hX dX12_back_53 c_RX12_302 cV_X12_acted (ci := 13) (T := TX12) (N := 115) rfl (by exact k20) [pI _] rfl rfl (Nat.le_of_ble_eq_true rfl) (by decide) (by decide)  (m_X12_acted h) (fun p22 s21 h => ?_)
        exact v_iret hX hE dX12_back_56 h
      · have h := h_E c13 h
        refine v_pick [] rfl ?_
        exact b_X12_back_28 hX hE _ h
  · have h := h_E c4 h
    refine v_iconst (v := -1) hX dX12_back_8 (by decide) ?_
    exact v_iret hX hE dX12_back_9 h
set_option maxRecDepth 100000 in
set_option maxHeartbeats 4000000 in
theorem b_X12_about_47 {X : h_X} (hX : h_ok X cX12_about 5 RX12 5 118) {Q : Int32 → h_S → Prop} (hE : h_end X (some .int) (h_QI (x_Z X) Q)) {K20 : Nat → Int32 → Int32 → Int32 → Int32 → h_S → Prop} (hK20 : ∀ (o0 : Nat) (x1 : Int32) (x2 : Int32) (x3 : Int32) (x4 : Int32) (s : h_S), K20 o0 x1 x2 x3 x4 s → h_V X 5 20 [(0, pR (some o0)), (1, pI x1), (2, pI x2), (3, pI x3), (4, pI x4)] [] s 0 0) {o0 : Nat} {x1 : Int32} {x2 : Int32} {x4 : Int32} {y0 : Int32} {y1 : Int32} (s : h_S) (h : w_X12_about_47 Q K20 o0 x1 x2 x4 y0 y1 s) : h_V X 5 47 [(0, pR (some o0)), (1, pI x1), (2, pI x2), (4, pI x4)] [pI y0, pI y1] s 0 0 := by
  unfold w_X12_about_47 at h
  refine v_iadd hX dX12_about_47 ?_
  refine v_istore_n (lv' := [(3, _), (0, _), (1, _), (2, _), (4, _)]) hX dX12_about_48 rfl (by decide) rfl ?_
  refine v_iinc (c := 1) (lv' := [(4, _), (3, _), (0, _), (1, _), (2, _)]) hX dX12_about_49 4 rfl (by decide) (by decide) rfl ?_
  refine v_goto (tgt := 20) hX dX12_about_52 (by decide) ?_
  refine v_pick [2, 3, 4, 1, 0] rfl ?_
  exact hK20 _ _ _ _ _ _ h
set_option maxRecDepth 100000 in
set_option maxHeartbeats 4000000 in
theorem b_X12_about_119 {X : h_X} (hX : h_ok X cX12_about 5 RX12 5 118) {Q : Int32 → h_S → Prop} (hE : h_end X (some .int) (h_QI (x_Z X) Q)) {y0 : Int32} (s : h_S) (h : w_X12_about_119 Q y0 s) : h_V X 5 119 [] [pI y0] s 0 0 := by
  unfold w_X12_about_119 at h
  exact v_iret hX hE dX12_about_119 h
set_option maxRecDepth 100000 in
set_option maxHeartbeats 4000000 in
theorem b_X12_about_20 {X : h_X} (hX : h_ok X cX12_about 5 RX12 5 118) {Q : Int32 → h_S → Prop} (hE : h_end X (some .int) (h_QI (x_Z X) Q)) : ∀ (n : Nat) (o0 : Nat) (x1 : Int32) (x2 : Int32) (x3 : Int32) (x4 : Int32) (s : h_S), w_X12_about_20 Q n o0 x1 x2 x3 x4 s → h_V X 5 20 [(0, pR (some o0)), (1, pI x1), (2, pI x2), (3, pI x3), (4, pI x4)] [] s 0 0 := by
  intro n
  induction n with
  | zero => intro _ _ _ _ _ s h; exact h.elim
  | succ n hK20 =>
    intro o0 x1 x2 x3 x4 s h
    have h : w_X12_about_20b Q (w_X12_about_20 Q n) o0 x1 x2 x3 x4 s := h
    unfold w_X12_about_20b at h
    refine v_iload hX dX12_about_20 4 rfl ?_
    refine v_aload_n hX dX12_about_22 0 rfl rfl ?_
    obtain ⟨k1, h⟩ := h
    refine v_getI hX dX12_about_23 f_RX12_342 rfl k1 ?_
    refine v_icmp_ge (tgt := 55) hX dX12_about_26 (by decide) (fun c2 => ?_) (fun c2 => ?_)
    · have h := h_T c2 h
      refine v_iload_n hX dX12_about_55 2 rfl rfl ?_
      refine v_gen (fun q22 e_q22 => ?_)
      rw [← e_q22] at h
      by_cases c3 : q22 = (0 : Int32)
      · have h := h_T c3 h
        refine v_tabIn (tgt := 92) hX dX12_about_56 (by rw [c3]; decide) (by rw [c3]; decide) (by rw [c3]; rfl) (by decide) ?_
        refine v_aload_n hX dX12_about_92 0 rfl rfl ?_
        refine v_getR hX dX12_about_93 f_RX12_151 rfl k1 ?_
        refine v_iload_n hX dX12_about_96 1 rfl rfl ?_
        obtain ⟨a4, e_a4, h⟩ := h
        refine v_nn1 e_a4 ?_
        obtain ⟨k5, h⟩ := h
        obtain ⟨i6, h⟩ := h
        refine v_iald hX dX12_about_97 k5 i6 ?_
        refine v_if_lt (tgt := 105) hX dX12_about_98 (by decide) (fun c7 => ?_) (fun c7 => ?_)
        · have h := h_T c7 h
          refine v_aload_n hX dX12_about_105 0 rfl rfl ?_
          refine v_getR hX dX12_about_106 f_RX12_148 rfl k1 ?_
          refine v_iload_n hX dX12_about_109 1 rfl rfl ?_
          obtain ⟨a8, e_a8, h⟩ := h
          refine v_nn1 e_a8 ?_
          obtain ⟨k9, h⟩ := h
          obtain ⟨i10, h⟩ := h
          refine v_iald hX dX12_about_110 k9 i10 ?_
          refine v_if_lt (tgt := 118) hX dX12_about_111 (by decide) (fun c11 => ?_) (fun c11 => ?_)
          · have h := h_T c11 h
            refine v_iconst (v := 0) hX dX12_about_118 (by decide) ?_
            refine v_pick [] rfl ?_
            exact b_X12_about_119 hX hE _ h
          · have h := h_E c11 h
            refine v_iconst (v := 1) hX dX12_about_114 (by decide) ?_
            refine v_goto (tgt := 119) hX dX12_about_115 (by decide) ?_
            refine v_pick [] rfl ?_
            exact b_X12_about_119 hX hE _ h
        · have h := h_E c7 h
          refine v_iconst (v := 2) hX dX12_about_101 (by decide) ?_
          refine v_goto (tgt := 119) hX dX12_about_102 (by decide) ?_
          refine v_pick [] rfl ?_
          exact b_X12_about_119 hX hE _ h
      · have h := h_E c3 h
        by_cases c12 : q22 = (1 : Int32)
        · have h := h_T c12 h
          refine v_tabIn (tgt := 120) hX dX12_about_56 (by rw [c12]; decide) (by rw [c12]; decide) (by rw [c12]; rfl) (by decide) ?_
          refine v_aload_n hX dX12_about_120 0 rfl rfl ?_
          refine v_getR hX dX12_about_121 f_RX12_142 rfl k1 ?_
          refine v_iload_n hX dX12_about_124 1 rfl rfl ?_
          obtain ⟨a13, e_a13, h⟩ := h
          refine v_nn1 e_a13 ?_
          obtain ⟨k14, h⟩ := h
          obtain ⟨i15, h⟩ := h
          refine v_iald hX dX12_about_125 k14 i15 ?_
          exact v_iret hX hE dX12_about_126 h
        · have h := h_E c12 h
          by_cases c16 : q22 = (2 : Int32)
          · have h := h_T c16 h
            refine v_tabIn (tgt := 127) hX dX12_about_56 (by rw [c16]; decide) (by rw [c16]; decide) (by rw [c16]; rfl) (by decide) ?_
            refine v_aload_n hX dX12_about_127 0 rfl rfl ?_
            refine v_getR hX dX12_about_128 f_RX12_145 rfl k1 ?_
            refine v_iload_n hX dX12_about_131 1 rfl rfl ?_
            obtain ⟨a17, e_a17, h⟩ := h
            refine v_nn1 e_a17 ?_
            obtain ⟨k18, h⟩ := h
            obtain ⟨i19, h⟩ := h
            refine v_iald hX dX12_about_132 k18 i19 ?_
            exact v_iret hX hE dX12_about_133 h
          · have h := h_E c16 h
            by_cases c20 : q22 = (3 : Int32)
            · have h := h_T c20 h
              refine v_tabIn (tgt := 134) hX dX12_about_56 (by rw [c20]; decide) (by rw [c20]; decide) (by rw [c20]; rfl) (by decide) ?_
              refine v_aload_n hX dX12_about_134 0 rfl rfl ?_
              refine v_getI hX dX12_about_135 f_RX12_342 rfl k1 ?_
              exact v_iret hX hE dX12_about_138 h
            · have h := h_E c20 h
              by_cases c21 : q22 = (4 : Int32)
              · have h := h_T c21 h
                refine v_tabIn (tgt := 139) hX dX12_about_56 (by rw [c21]; decide) (by rw [c21]; decide) (by rw [c21]; rfl) (by decide) ?_
                refine v_iload_n hX dX12_about_139 3 rfl rfl ?_
                exact v_iret hX hE dX12_about_140 h
              · have h := h_E c21 h
                refine v_tabOut (tgt := 141) hX dX12_about_56 (by have := h_ti c3 (n := 0) rfl; have := h_ti c12 (n := 1) rfl; have := h_ti c16 (n := 2) rfl; have := h_ti c20 (n := 3) rfl; have := h_ti c21 (n := 4) rfl; omega) (by decide) ?_
                refine v_bipush (v := -2) hX dX12_about_141 (by decide) ?_
                exact v_iret hX hE dX12_about_143 h
    · have h := h_E c2 h
      refine v_iload_n hX dX12_about_29 3 rfl rfl ?_
      refine v_aload_n hX dX12_about_30 0 rfl rfl ?_
      refine v_getR hX dX12_about_31 f_RX12_91 rfl k1 ?_
      refine v_iload hX dX12_about_34 4 rfl ?_
      obtain ⟨a23, e_a23, h⟩ := h
      refine v_nn1 e_a23 ?_
      obtain ⟨k24, h⟩ := h
      obtain ⟨i25, h⟩ := h
      refine v_iald hX dX12_about_36 k24 i25 ?_
      refine v_bipush (v := -7) hX dX12_about_37 (by decide) ?_
      refine v_icmp_ne (tgt := 46) hX dX12_about_39 (by decide) (fun c26 => ?_) (fun c26 => ?_)
      · have h := h_E c26 h
        refine v_iconst (v := 0) hX dX12_about_46 (by decide) ?_
        refine v_pick [0, 1, 2, 4] rfl ?_
        exact b_X12_about_47 hX hE hK20 _ h
      · have h := h_T c26 h
        refine v_iconst (v := 1) hX dX12_about_42 (by decide) ?_
        refine v_goto (tgt := 47) hX dX12_about_43 (by decide) ?_
        refine v_pick [0, 1, 2, 4] rfl ?_
        exact b_X12_about_47 hX hE hK20 _ h
set_option maxRecDepth 100000 in
set_option maxHeartbeats 4000000 in
theorem m_X12_about {Z : h_Z} {o0 : Nat} {x1 : Int32} {x2 : Int32} {s : h_S} {Q : Int32 → h_S → Prop} (h : w_X12_about o0 x1 x2 s Q) : h_M Z yX12_about cX12_about 5 (some .int) 5 118 [pR (some o0), pI x1, pI x2] s 0 0 (h_QI Z Q) := by
  refine h_M.of (by decide) (Nat.le_of_ble_eq_true rfl) (fun X hZ hX hE hI => ?_)
  subst hZ
  unfold w_X12_about at h
  show h_V X 5 0 [(0, pR (some o0)), (1, pI x1), (2, pI x2)] [] s 0 0
  refine v_aload_n hX dX12_about_0 0 rfl rfl ?_
  refine v_iload_n hX dX12_about_1 1 rfl rfl ?_
  obtain ⟨k1, h⟩ := h
  refine v_callVi0 hX dX12_about_2 c_RX12_458 cV_X12_noVersion (ci := 13) (T := TX12) (N := 115) rfl (by exact k1) [pI _] rfl rfl (Nat.le_of_ble_eq_true rfl) (by decide) (by decide)  (m_X12_noVersion h) (fun p3 s2 h => ?_)
  refine v_if_eq (tgt := 10) hX dX12_about_5 (by decide) (fun c4 => ?_) (fun c4 => ?_)
  · have h := h_T c4 h
    refine v_aload_n hX dX12_about_10 0 rfl rfl ?_
    refine v_iload_n hX dX12_about_11 1 rfl rfl ?_
    obtain ⟨k5, h⟩ := h
    refine v_callVv0 hX dX12_about_12 c_RX12_461 cV_X12_layVersion (ci := 13) (T := TX12) (N := 115) rfl (by exact k5) [pI _] rfl rfl (Nat.le_of_ble_eq_true rfl) (by decide) (by decide)  (m_X12_layVersion h) (fun s6 h => ?_)
    refine v_iconst (v := 0) hX dX12_about_15 (by decide) ?_
    refine v_istore_n (lv' := [(3, _), (0, _), (1, _), (2, _)]) hX dX12_about_16 rfl (by decide) rfl ?_
    refine v_iconst (v := 0) hX dX12_about_17 (by decide) ?_
    refine v_istore (lv' := [(4, _), (3, _), (0, _), (1, _), (2, _)]) hX dX12_about_18 (by decide) rfl ?_
    refine v_pick [2, 3, 4, 1, 0] rfl ?_
    obtain ⟨n, h⟩ := h
    exact b_X12_about_20 hX hE n _ _ _ _ _ _ h
  · have h := h_E c4 h
    refine v_iconst (v := -1) hX dX12_about_8 (by decide) ?_
    exact v_iret hX hE dX12_about_9 h
set_option maxRecDepth 100000 in
set_option maxHeartbeats 4000000 in
theorem b_X12_at_41 {X : h_X} (hX : h_ok X cX12_at 3 RX12 5 118) {Q : Int32 → h_S → Prop} (hE : h_end X (some .int) (h_QI (x_Z X) Q)) {y0 : Int32} (s : h_S) (h : w_X12_at_41 Q y0 s) : h_V X 3 41 [] [pI y0] s 0 0 := by
  unfold w_X12_at_41 at h
  exact v_iret hX hE dX12_at_41 h
set_option maxRecDepth 100000 in
set_option maxHeartbeats 4000000 in
theorem m_X12_at {Z : h_Z} {o0 : Nat} {x1 : Int32} {x2 : Int32} {s : h_S} {Q : Int32 → h_S → Prop} (h : w_X12_at o0 x1 x2 s Q) : h_M Z yX12_at cX12_at 3 (some .int) 5 118 [pR (some o0), pI x1, pI x2] s 0 0 (h_QI Z Q) := by
  refine h_M.of (by decide) (Nat.le_of_ble_eq_true rfl) (fun X hZ hX hE hI => ?_)
  subst hZ
  unfold w_X12_at at h
  show h_V X 3 0 [(0, pR (some o0)), (1, pI x1), (2, pI x2)] [] s 0 0
  refine v_aload_n hX dX12_at_0 0 rfl rfl ?_
  refine v_iload_n hX dX12_at_1 1 rfl rfl ?_
  obtain ⟨k1, h⟩ := h
  refine v_callVi0 hX dX12_at_2 c_RX12_458 cV_X12_noVersion (ci := 13) (T := TX12) (N := 115) rfl (by exact k1) [pI _] rfl rfl (Nat.le_of_ble_eq_true rfl) (by decide) (by decide)  (m_X12_noVersion h) (fun p3 s2 h => ?_)
  refine v_if_eq (tgt := 10) hX dX12_at_5 (by decide) (fun c4 => ?_) (fun c4 => ?_)
  · have h := h_T c4 h
    refine v_aload_n hX dX12_at_10 0 rfl rfl ?_
    refine v_iload_n hX dX12_at_11 1 rfl rfl ?_
    obtain ⟨k5, h⟩ := h
    refine v_callVv0 hX dX12_at_12 c_RX12_461 cV_X12_layVersion (ci := 13) (T := TX12) (N := 115) rfl (by exact k5) [pI _] rfl rfl (Nat.le_of_ble_eq_true rfl) (by decide) (by decide)  (m_X12_layVersion h) (fun s6 h => ?_)
    refine v_iload_n hX dX12_at_15 2 rfl rfl ?_
    refine v_i2l hX dX12_at_16 ?_
    refine v_lconst (v := 0) hX dX12_at_17 (by decide) ?_
    refine v_aload_n hX dX12_at_18 0 rfl rfl ?_
    obtain ⟨k8, h⟩ := h
    refine v_getI hX dX12_at_19 f_RX12_342 rfl k8 ?_
    refine v_i2l hX dX12_at_22 ?_
    refine v_lconst (v := 1) hX dX12_at_23 (by decide) ?_
    refine v_lsub hX dX12_at_24 ?_
    refine v_callSi0 hX dX12_at_25 c_RX12_298 cS_X12_in [pL _, pL _, pL _] rfl rfl (Nat.le_of_ble_eq_true rfl) (by decide) (by decide)  (m_X12_in h) (fun p10 s9 h => ?_)
    refine v_if_eq (tgt := 40) hX dX12_at_28 (by decide) (fun c11 => ?_) (fun c11 => ?_)
    · have h := h_T c11 h
      refine v_iconst (v := -1) hX dX12_at_40 (by decide) ?_
      refine v_pick [] rfl ?_
      exact b_X12_at_41 hX hE _ h
    · have h := h_E c11 h
      refine v_aload_n hX dX12_at_31 0 rfl rfl ?_
      obtain ⟨k12, h⟩ := h
      refine v_getR hX dX12_at_32 f_RX12_91 rfl k12 ?_
      refine v_iload_n hX dX12_at_35 2 rfl rfl ?_
      obtain ⟨a13, e_a13, h⟩ := h
      refine v_nn1 e_a13 ?_
      obtain ⟨k14, h⟩ := h
      obtain ⟨i15, h⟩ := h
      refine v_iald hX dX12_at_36 k14 i15 ?_
      refine v_goto (tgt := 41) hX dX12_at_37 (by decide) ?_
      refine v_pick [] rfl ?_
      exact b_X12_at_41 hX hE _ h
  · have h := h_E c4 h
    refine v_iconst (v := -1) hX dX12_at_8 (by decide) ?_
    exact v_iret hX hE dX12_at_9 h
set_option maxRecDepth 100000 in
set_option maxHeartbeats 4000000 in
theorem b_X12_takeOne_60 {X : h_X} (hX : h_ok X cX12_takeOne 4 RX12 5 118) {Q : h_S → Prop} (hE : h_end X none (h_QV (x_Z X) Q)) {K12 : Nat → Int32 → Int32 → h_S → Prop} (hK12 : ∀ (o0 : Nat) (x2 : Int32) (x3 : Int32) (s : h_S), K12 o0 x2 x3 s → h_V X 4 12 [(0, pR (some o0)), (2, pI x2), (3, pI x3)] [] s 0 0) {o0 : Nat} {x2 : Int32} {x3 : Int32} (s : h_S) (h : w_X12_takeOne_60 Q K12 o0 x2 x3 s) : h_V X 4 60 [(0, pR (some o0)), (2, pI x2), (3, pI x3)] [] s 0 0 := by
  unfold w_X12_takeOne_60 at h
  refine v_iinc (c := 1) (lv' := [(3, _), (0, _), (2, _)]) hX dX12_takeOne_60 2 rfl (by decide) (by decide) rfl ?_
  refine v_goto (tgt := 12) hX dX12_takeOne_63 (by decide) ?_
  refine v_pick [1, 2, 0] rfl ?_
  exact hK12 _ _ _ _ h
set_option maxRecDepth 100000 in
set_option maxHeartbeats 4000000 in
theorem b_X12_takeOne_35 {X : h_X} (hX : h_ok X cX12_takeOne 4 RX12 5 118) {Q : h_S → Prop} (hE : h_end X none (h_QV (x_Z X) Q)) {K12 : Nat → Int32 → Int32 → h_S → Prop} (hK12 : ∀ (o0 : Nat) (x2 : Int32) (x3 : Int32) (s : h_S), K12 o0 x2 x3 s → h_V X 4 12 [(0, pR (some o0)), (2, pI x2), (3, pI x3)] [] s 0 0) {o0 : Nat} {x2 : Int32} {x3 : Int32} (s : h_S) (h : w_X12_takeOne_35 Q K12 o0 x2 x3 s) : h_V X 4 35 [(0, pR (some o0)), (2, pI x2), (3, pI x3)] [] s 0 0 := by
  unfold w_X12_takeOne_35 at h
  refine v_aload_n hX dX12_takeOne_35 0 rfl rfl ?_
  obtain ⟨k1, h⟩ := h
  refine v_getR hX dX12_takeOne_36 f_RX12_154 rfl k1 ?_
  refine v_aload_n hX dX12_takeOne_39 0 rfl rfl ?_
  refine v_getI hX dX12_takeOne_40 f_RX12_464 rfl k1 ?_
  refine v_aload_n hX dX12_takeOne_43 0 rfl rfl ?_
  refine v_getR hX dX12_takeOne_44 f_RX12_91 rfl k1 ?_
  refine v_iload_n hX dX12_takeOne_47 2 rfl rfl ?_
  obtain ⟨a2, e_a2, h⟩ := h
  refine v_nn1 e_a2 ?_
  obtain ⟨k3, h⟩ := h
  obtain ⟨i4, h⟩ := h
  refine v_iald hX dX12_takeOne_48 k3 i4 ?_
  obtain ⟨a5, e_a5, h⟩ := h
  refine v_nn2 e_a5 ?_
  obtain ⟨k6, h⟩ := h
  obtain ⟨i7, h⟩ := h
  refine v_iast hX dX12_takeOne_49 k6 i7 ?_
  refine v_aload_n hX dX12_takeOne_50 0 rfl rfl ?_
  refine v_dup hX dX12_takeOne_51 rfl ?_
  refine v_getI hX dX12_takeOne_52 f_RX12_464 rfl k1 ?_
  refine v_iconst (v := 1) hX dX12_takeOne_55 (by decide) ?_
  refine v_iadd hX dX12_takeOne_56 ?_
  refine v_putI hX dX12_takeOne_57 f_RX12_464 k1 ?_
  refine v_pick [0, 1, 2] rfl ?_
  exact b_X12_takeOne_60 hX hE hK12 _ h
set_option maxRecDepth 100000 in
set_option maxHeartbeats 4000000 in
theorem b_X12_takeOne_12 {X : h_X} (hX : h_ok X cX12_takeOne 4 RX12 5 118) {Q : h_S → Prop} (hE : h_end X none (h_QV (x_Z X) Q)) : ∀ (n : Nat) (o0 : Nat) (x2 : Int32) (x3 : Int32) (s : h_S), w_X12_takeOne_12 Q n o0 x2 x3 s → h_V X 4 12 [(0, pR (some o0)), (2, pI x2), (3, pI x3)] [] s 0 0 := by
  intro n
  induction n with
  | zero => intro _ _ _ s h; exact h.elim
  | succ n hK12 =>
    intro o0 x2 x3 s h
    have h : w_X12_takeOne_12b Q (w_X12_takeOne_12 Q n) o0 x2 x3 s := h
    unfold w_X12_takeOne_12b at h
    refine v_iload_n hX dX12_takeOne_12 2 rfl rfl ?_
    refine v_aload_n hX dX12_takeOne_13 0 rfl rfl ?_
    obtain ⟨k1, h⟩ := h
    refine v_getI hX dX12_takeOne_14 f_RX12_342 rfl k1 ?_
    refine v_icmp_ge (tgt := 66) hX dX12_takeOne_17 (by decide) (fun c2 => ?_) (fun c2 => ?_)
    · have h := h_T c2 h
      exact v_vret hX hE dX12_takeOne_66 h
    · have h := h_E c2 h
      refine v_iload_n hX dX12_takeOne_20 1 rfl rfl ?_
      refine v_if_ne (tgt := 35) hX dX12_takeOne_21 (by decide) (fun c3 => ?_) (fun c3 => ?_)
      · have h := h_E c3 h
        refine v_pick [0, 1, 2] rfl ?_
        exact b_X12_takeOne_35 hX hE hK12 _ h
      · have h := h_T c3 h
        refine v_aload_n hX dX12_takeOne_24 0 rfl rfl ?_
        refine v_getR hX dX12_takeOne_25 f_RX12_91 rfl k1 ?_
        refine v_iload_n hX dX12_takeOne_28 2 rfl rfl ?_
        obtain ⟨a4, e_a4, h⟩ := h
        refine v_nn1 e_a4 ?_
        obtain ⟨k5, h⟩ := h
        obtain ⟨i6, h⟩ := h
        refine v_iald hX dX12_takeOne_29 k5 i6 ?_
        refine v_bipush (v := -7) hX dX12_takeOne_30 (by decide) ?_
        refine v_icmp_eq (tgt := 60) hX dX12_takeOne_32 (by decide) (fun c7 => ?_) (fun c7 => ?_)
        · have h := h_T c7 h
          refine v_pick [0, 1, 2] rfl ?_
          exact b_X12_takeOne_60 hX hE hK12 _ h
        · have h := h_E c7 h
          refine v_pick [0, 1, 2] rfl ?_
          exact b_X12_takeOne_35 hX hE hK12 _ h
set_option maxRecDepth 100000 in
set_option maxHeartbeats 4000000 in
theorem m_X12_takeOne {Z : h_Z} {o0 : Nat} {x1 : Int32} {x2 : Int32} {s : h_S} {Q : h_S → Prop} (h : w_X12_takeOne o0 x1 x2 s Q) : h_M Z yX12_takeOne cX12_takeOne 4 none 5 118 [pR (some o0), pI x1, pI x2] s 0 0 (h_QV Z Q) := by
  refine h_M.of (by decide) (Nat.le_of_ble_eq_true rfl) (fun X hZ hX hE hI => ?_)
  subst hZ
  unfold w_X12_takeOne at h
  show h_V X 4 0 [(0, pR (some o0)), (1, pI x1), (2, pI x2)] [] s 0 0
  refine v_aload_n hX dX12_takeOne_0 0 rfl rfl ?_
  refine v_iload_n hX dX12_takeOne_1 1 rfl rfl ?_
  obtain ⟨k1, h⟩ := h
  refine v_callVv0 hX dX12_takeOne_2 c_RX12_461 cV_X12_layVersion (ci := 13) (T := TX12) (N := 115) rfl (by exact k1) [pI _] rfl rfl (Nat.le_of_ble_eq_true rfl) (by decide) (by decide)  (m_X12_layVersion h) (fun s2 h => ?_)
  refine v_aload_n hX dX12_takeOne_5 0 rfl rfl ?_
  refine v_iconst (v := 0) hX dX12_takeOne_6 (by decide) ?_
  obtain ⟨k4, h⟩ := h
  refine v_putI hX dX12_takeOne_7 f_RX12_464 k4 ?_
  refine v_iconst (v := 0) hX dX12_takeOne_10 (by decide) ?_
  refine v_istore_n (lv' := [(3, _), (0, _), (1, _), (2, _)]) hX dX12_takeOne_11 rfl (by decide) rfl ?_
  refine v_pick [1, 3, 0] rfl ?_
  obtain ⟨n, h⟩ := h
  exact b_X12_takeOne_12 hX hE n _ _ _ _ h
set_option maxRecDepth 100000 in
set_option maxHeartbeats 4000000 in
theorem b_X12_takeTwo_60 {X : h_X} (hX : h_ok X cX12_takeTwo 4 RX12 5 118) {Q : h_S → Prop} (hE : h_end X none (h_QV (x_Z X) Q)) {K12 : Nat → Int32 → Int32 → h_S → Prop} (hK12 : ∀ (o0 : Nat) (x2 : Int32) (x3 : Int32) (s : h_S), K12 o0 x2 x3 s → h_V X 4 12 [(0, pR (some o0)), (2, pI x2), (3, pI x3)] [] s 0 0) {o0 : Nat} {x2 : Int32} {x3 : Int32} (s : h_S) (h : w_X12_takeTwo_60 Q K12 o0 x2 x3 s) : h_V X 4 60 [(0, pR (some o0)), (2, pI x2), (3, pI x3)] [] s 0 0 := by
  unfold w_X12_takeTwo_60 at h
  refine v_iinc (c := 1) (lv' := [(3, _), (0, _), (2, _)]) hX dX12_takeTwo_60 2 rfl (by decide) (by decide) rfl ?_
  refine v_goto (tgt := 12) hX dX12_takeTwo_63 (by decide) ?_
  refine v_pick [1, 2, 0] rfl ?_
  exact hK12 _ _ _ _ h
set_option maxRecDepth 100000 in
set_option maxHeartbeats 4000000 in
theorem b_X12_takeTwo_35 {X : h_X} (hX : h_ok X cX12_takeTwo 4 RX12 5 118) {Q : h_S → Prop} (hE : h_end X none (h_QV (x_Z X) Q)) {K12 : Nat → Int32 → Int32 → h_S → Prop} (hK12 : ∀ (o0 : Nat) (x2 : Int32) (x3 : Int32) (s : h_S), K12 o0 x2 x3 s → h_V X 4 12 [(0, pR (some o0)), (2, pI x2), (3, pI x3)] [] s 0 0) {o0 : Nat} {x2 : Int32} {x3 : Int32} (s : h_S) (h : w_X12_takeTwo_35 Q K12 o0 x2 x3 s) : h_V X 4 35 [(0, pR (some o0)), (2, pI x2), (3, pI x3)] [] s 0 0 := by
  unfold w_X12_takeTwo_35 at h
  refine v_aload_n hX dX12_takeTwo_35 0 rfl rfl ?_
  obtain ⟨k1, h⟩ := h
  refine v_getR hX dX12_takeTwo_36 f_RX12_157 rfl k1 ?_
  refine v_aload_n hX dX12_takeTwo_39 0 rfl rfl ?_
  refine v_getI hX dX12_takeTwo_40 f_RX12_467 rfl k1 ?_
  refine v_aload_n hX dX12_takeTwo_43 0 rfl rfl ?_
  refine v_getR hX dX12_takeTwo_44 f_RX12_91 rfl k1 ?_
  refine v_iload_n hX dX12_takeTwo_47 2 rfl rfl ?_
  obtain ⟨a2, e_a2, h⟩ := h
  refine v_nn1 e_a2 ?_
  obtain ⟨k3, h⟩ := h
  obtain ⟨i4, h⟩ := h
  refine v_iald hX dX12_takeTwo_48 k3 i4 ?_
  obtain ⟨a5, e_a5, h⟩ := h
  refine v_nn2 e_a5 ?_
  obtain ⟨k6, h⟩ := h
  obtain ⟨i7, h⟩ := h
  refine v_iast hX dX12_takeTwo_49 k6 i7 ?_
  refine v_aload_n hX dX12_takeTwo_50 0 rfl rfl ?_
  refine v_dup hX dX12_takeTwo_51 rfl ?_
  refine v_getI hX dX12_takeTwo_52 f_RX12_467 rfl k1 ?_
  refine v_iconst (v := 1) hX dX12_takeTwo_55 (by decide) ?_
  refine v_iadd hX dX12_takeTwo_56 ?_
  refine v_putI hX dX12_takeTwo_57 f_RX12_467 k1 ?_
  refine v_pick [0, 1, 2] rfl ?_
  exact b_X12_takeTwo_60 hX hE hK12 _ h
set_option maxRecDepth 100000 in
set_option maxHeartbeats 4000000 in
theorem b_X12_takeTwo_12 {X : h_X} (hX : h_ok X cX12_takeTwo 4 RX12 5 118) {Q : h_S → Prop} (hE : h_end X none (h_QV (x_Z X) Q)) : ∀ (n : Nat) (o0 : Nat) (x2 : Int32) (x3 : Int32) (s : h_S), w_X12_takeTwo_12 Q n o0 x2 x3 s → h_V X 4 12 [(0, pR (some o0)), (2, pI x2), (3, pI x3)] [] s 0 0 := by
  intro n
  induction n with
  | zero => intro _ _ _ s h; exact h.elim
  | succ n hK12 =>
    intro o0 x2 x3 s h
    have h : w_X12_takeTwo_12b Q (w_X12_takeTwo_12 Q n) o0 x2 x3 s := h
    unfold w_X12_takeTwo_12b at h
    refine v_iload_n hX dX12_takeTwo_12 2 rfl rfl ?_
    refine v_aload_n hX dX12_takeTwo_13 0 rfl rfl ?_
    obtain ⟨k1, h⟩ := h
    refine v_getI hX dX12_takeTwo_14 f_RX12_342 rfl k1 ?_
    refine v_icmp_ge (tgt := 66) hX dX12_takeTwo_17 (by decide) (fun c2 => ?_) (fun c2 => ?_)
    · have h := h_T c2 h
      exact v_vret hX hE dX12_takeTwo_66 h
    · have h := h_E c2 h
      refine v_iload_n hX dX12_takeTwo_20 1 rfl rfl ?_
      refine v_if_ne (tgt := 35) hX dX12_takeTwo_21 (by decide) (fun c3 => ?_) (fun c3 => ?_)
      · have h := h_E c3 h
        refine v_pick [0, 1, 2] rfl ?_
        exact b_X12_takeTwo_35 hX hE hK12 _ h
      · have h := h_T c3 h
        refine v_aload_n hX dX12_takeTwo_24 0 rfl rfl ?_
        refine v_getR hX dX12_takeTwo_25 f_RX12_91 rfl k1 ?_
        refine v_iload_n hX dX12_takeTwo_28 2 rfl rfl ?_
        obtain ⟨a4, e_a4, h⟩ := h
        refine v_nn1 e_a4 ?_
        obtain ⟨k5, h⟩ := h
        obtain ⟨i6, h⟩ := h
        refine v_iald hX dX12_takeTwo_29 k5 i6 ?_
        refine v_bipush (v := -7) hX dX12_takeTwo_30 (by decide) ?_
        refine v_icmp_eq (tgt := 60) hX dX12_takeTwo_32 (by decide) (fun c7 => ?_) (fun c7 => ?_)
        · have h := h_T c7 h
          refine v_pick [0, 1, 2] rfl ?_
          exact b_X12_takeTwo_60 hX hE hK12 _ h
        · have h := h_E c7 h
          refine v_pick [0, 1, 2] rfl ?_
          exact b_X12_takeTwo_35 hX hE hK12 _ h
