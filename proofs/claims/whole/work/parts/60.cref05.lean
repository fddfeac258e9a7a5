set_option maxRecDepth 100000 in
set_option maxHeartbeats 4000000 in
theorem b_X12_isOpen_83 {X : h_X} (hX : h_ok X cX12_isOpen 6 RX12 3 76) {Q : Int32 → h_S → Prop} (hE : h_end X (some .boolean) (h_QI (x_Z X) Q)) (s : h_S) (h : w_X12_isOpen_83 Q s) : h_V X 6 83 [] [] s 0 0 := by
  unfold w_X12_isOpen_83 at h
  refine v_iconst (v := 1) hX dX12_isOpen_83 (by decide) ?_
  refine v_goto (tgt := 88) hX dX12_isOpen_84 (by decide) ?_
  refine v_pick [] rfl ?_
  exact b_X12_isOpen_88 hX hE _ h
set_option maxRecDepth 100000 in
set_option maxHeartbeats 4000000 in
theorem b_X12_isOpen_87 {X : h_X} (hX : h_ok X cX12_isOpen 6 RX12 3 76) {Q : Int32 → h_S → Prop} (hE : h_end X (some .boolean) (h_QI (x_Z X) Q)) (s : h_S) (h : w_X12_isOpen_87 Q s) : h_V X 6 87 [] [] s 0 0 := by
  unfold w_X12_isOpen_87 at h
  refine v_iconst (v := 0) hX dX12_isOpen_87 (by decide) ?_
  refine v_pick [] rfl ?_
  exact b_X12_isOpen_88 hX hE _ h
set_option maxRecDepth 100000 in
set_option maxHeartbeats 4000000 in
theorem b_X12_isOpen_51 {X : h_X} (hX : h_ok X cX12_isOpen 6 RX12 3 76) {Q : Int32 → h_S → Prop} (hE : h_end X (some .boolean) (h_QI (x_Z X) Q)) {o0 : Nat} {x1 : Int32} {x3 : Int32} {x4 : Int32} {y0 : Int32} (s : h_S) (h : w_X12_isOpen_51 Q o0 x1 x3 x4 y0 s) : h_V X 6 51 [(0, pR (some o0)), (1, pI x1), (3, pI x3), (4, pI x4)] [pI y0] s 0 0 := by
  unfold w_X12_isOpen_51 at h
  refine v_istore (lv' := [(5, _), (0, _), (1, _), (3, _), (4, _)]) hX dX12_isOpen_51 (by decide) rfl ?_
  refine v_aload_n hX dX12_isOpen_53 1 rfl rfl ?_
  obtain ⟨k1, h⟩ := h
  refine v_getR hX dX12_isOpen_54 f_RX12_22 rfl k1 ?_
  refine v_iload hX dX12_isOpen_57 4 rfl ?_
  obtain ⟨a2, e_a2, h⟩ := h
  refine v_nn1 e_a2 ?_
  obtain ⟨k3, h⟩ := h
  obtain ⟨i4, h⟩ := h
  refine v_iald hX dX12_isOpen_59 k3 i4 ?_
  refine v_iload_n hX dX12_isOpen_60 2 rfl rfl ?_
  refine v_icmp_eq (tgt := 83) hX dX12_isOpen_61 (by decide) (fun c5 => ?_) (fun c5 => ?_)
  · have h := h_T c5 h
    refine v_pick [] rfl ?_
    exact b_X12_isOpen_83 hX hE _ h
  · have h := h_E c5 h
    refine v_iload hX dX12_isOpen_64 0 rfl ?_
    refine v_if_eq (tgt := 87) hX dX12_isOpen_66 (by decide) (fun c6 => ?_) (fun c6 => ?_)
    · have h := h_T c6 h
      refine v_pick [] rfl ?_
      exact b_X12_isOpen_87 hX hE _ h
    · have h := h_E c6 h
      refine v_aload_n hX dX12_isOpen_69 1 rfl rfl ?_
      refine v_iload_n hX dX12_isOpen_70 2 rfl rfl ?_
      refine v_iload hX dX12_isOpen_71 4 rfl ?_
      refine v_iconst (v := 0) hX dX12_isOpen_73 (by decide) ?_
      refine v_iload_n hX dX12_isOpen_74 3 rfl rfl ?_
      refine v_callVi hX dX12_isOpen_75 c_RX12_415 cV_X12_whyOf (ci := 13) (T := TX12) (N := 115) rfl (by exact k1) [pI _, pI _, pI _, pI _] rfl rfl (Nat.le_of_ble_eq_true rfl) (by decide) (by decide) (Nat.zero_le _) (Nat.zero_le _) (m_X12_whyOf h) (fun r8 s7 h => ?_)
      refine v_bipush (v := -9) hX dX12_isOpen_78 (by decide) ?_
      refine v_icmp_eq (tgt := 87) hX dX12_isOpen_80 (by decide) (fun c9 => ?_) (fun c9 => ?_)
      · have h := h_T c9 h
        refine v_pick [] rfl ?_
        exact b_X12_isOpen_87 hX hE _ h
      · have h := h_E c9 h
        refine v_pick [] rfl ?_
        exact b_X12_isOpen_83 hX hE _ h
set_option maxRecDepth 100000 in
set_option maxHeartbeats 4000000 in
theorem b_X12_isOpen_46 {X : h_X} (hX : h_ok X cX12_isOpen 6 RX12 3 76) {Q : Int32 → h_S → Prop} (hE : h_end X (some .boolean) (h_QI (x_Z X) Q)) {o0 : Nat} {x1 : Int32} {x3 : Int32} {x4 : Int32} (s : h_S) (h : w_X12_isOpen_46 Q o0 x1 x3 x4 s) : h_V X 6 46 [(0, pR (some o0)), (1, pI x1), (3, pI x3), (4, pI x4)] [] s 0 0 := by
  unfold w_X12_isOpen_46 at h
  refine v_iconst (v := 1) hX dX12_isOpen_46 (by decide) ?_
  refine v_goto (tgt := 51) hX dX12_isOpen_47 (by decide) ?_
  refine v_pick [0, 1, 2, 3] rfl ?_
  exact b_X12_isOpen_51 hX hE _ h
set_option maxRecDepth 100000 in
set_option maxHeartbeats 4000000 in
theorem b_X12_isOpen_50 {X : h_X} (hX : h_ok X cX12_isOpen 6 RX12 3 76) {Q : Int32 → h_S → Prop} (hE : h_end X (some .boolean) (h_QI (x_Z X) Q)) {o0 : Nat} {x1 : Int32} {x3 : Int32} {x4 : Int32} (s : h_S) (h : w_X12_isOpen_50 Q o0 x1 x3 x4 s) : h_V X 6 50 [(0, pR (some o0)), (1, pI x1), (3, pI x3), (4, pI x4)] [] s 0 0 := by
  unfold w_X12_isOpen_50 at h
  refine v_iconst (v := 0) hX dX12_isOpen_50 (by decide) ?_
  refine v_pick [0, 1, 2, 3] rfl ?_
  exact b_X12_isOpen_51 hX hE _ h
set_option maxRecDepth 100000 in
set_option maxHeartbeats 4000000 in
theorem m_X12_isOpen {Z : h_Z} {o0 : Nat} {x1 : Int32} {x2 : Int32} {x3 : Int32} {s : h_S} {Q : Int32 → h_S → Prop} (h : w_X12_isOpen o0 x1 x2 x3 s Q) : h_M Z yX12_isOpen cX12_isOpen 6 (some .boolean) 3 76 [pR (some o0), pI x1, pI x2, pI x3] s 0 0 (h_QI Z Q) := by
  refine h_M.of (by decide) (Nat.le_of_ble_eq_true rfl) (fun X hZ hX hE hI => ?_)
  subst hZ
  unfold w_X12_isOpen at h
  show h_V X 6 0 [(0, pR (some o0)), (1, pI x1), (2, pI x2), (3, pI x3)] [] s 0 0
  refine v_aload_n hX dX12_isOpen_0 0 rfl rfl ?_
  obtain ⟨k1, h⟩ := h
  refine v_getR hX dX12_isOpen_1 f_RX12_142 rfl k1 ?_
  refine v_iload_n hX dX12_isOpen_4 2 rfl rfl ?_
  obtain ⟨a2, e_a2, h⟩ := h
  refine v_nn1 e_a2 ?_
  obtain ⟨k3, h⟩ := h
  obtain ⟨i4, h⟩ := h
  refine v_iald hX dX12_isOpen_5 k3 i4 ?_
  refine v_istore (lv' := [(4, _), (0, _), (1, _), (2, _), (3, _)]) hX dX12_isOpen_6 (by decide) rfl ?_
  refine v_aload_n hX dX12_isOpen_8 1 rfl rfl ?_
  refine v_getR hX dX12_isOpen_9 f_RX12_148 rfl k1 ?_
  refine v_iload_n hX dX12_isOpen_12 3 rfl rfl ?_
  obtain ⟨a5, e_a5, h⟩ := h
  refine v_nn1 e_a5 ?_
  obtain ⟨k6, h⟩ := h
  obtain ⟨i7, h⟩ := h
  refine v_iald hX dX12_isOpen_13 k6 i7 ?_
  refine v_if_lt (tgt := 50) hX dX12_isOpen_14 (by decide) (fun c8 => ?_) (fun c8 => ?_)
  · have h := h_T c8 h
    refine v_pick [1, 2, 4, 0] rfl ?_
    exact b_X12_isOpen_50 hX hE _ h
  · have h := h_E c8 h
    refine v_aload_n hX dX12_isOpen_17 1 rfl rfl ?_
    refine v_getR hX dX12_isOpen_18 f_RX12_148 rfl k1 ?_
    refine v_iload_n hX dX12_isOpen_21 3 rfl rfl ?_
    obtain ⟨a9, e_a9, h⟩ := h
    refine v_nn1 e_a9 ?_
    obtain ⟨k10, h⟩ := h
    obtain ⟨i11, h⟩ := h
    refine v_iald hX dX12_isOpen_22 k10 i11 ?_
    refine v_iload_n hX dX12_isOpen_23 4 rfl rfl ?_
    refine v_icmp_gt (tgt := 50) hX dX12_isOpen_24 (by decide) (fun c12 => ?_) (fun c12 => ?_)
    · have h := h_T c12 h
      refine v_pick [1, 2, 4, 0] rfl ?_
      exact b_X12_isOpen_50 hX hE _ h
    · have h := h_E c12 h
      refine v_aload_n hX dX12_isOpen_27 1 rfl rfl ?_
      refine v_getR hX dX12_isOpen_28 f_RX12_151 rfl k1 ?_
      refine v_iload_n hX dX12_isOpen_31 3 rfl rfl ?_
      obtain ⟨a13, e_a13, h⟩ := h
      refine v_nn1 e_a13 ?_
      obtain ⟨k14, h⟩ := h
      obtain ⟨i15, h⟩ := h
      refine v_iald hX dX12_isOpen_32 k14 i15 ?_
      refine v_if_lt (tgt := 46) hX dX12_isOpen_33 (by decide) (fun c16 => ?_) (fun c16 => ?_)
      · have h := h_T c16 h
        refine v_pick [1, 2, 4, 0] rfl ?_
        exact b_X12_isOpen_46 hX hE _ h
      · have h := h_E c16 h
        refine v_aload_n hX dX12_isOpen_36 1 rfl rfl ?_
        refine v_getR hX dX12_isOpen_37 f_RX12_151 rfl k1 ?_
        refine v_iload_n hX dX12_isOpen_40 3 rfl rfl ?_
        obtain ⟨a17, e_a17, h⟩ := h
        refine v_nn1 e_a17 ?_
        obtain ⟨k18, h⟩ := h
        obtain ⟨i19, h⟩ := h
        refine v_iald hX dX12_isOpen_41 k18 i19 ?_
        refine v_iload_n hX dX12_isOpen_42 4 rfl rfl ?_
        refine v_icmp_le (tgt := 50) hX dX12_isOpen_43 (by decide) (fun c20 => ?_) (fun c20 => ?_)
        · have h := h_T c20 h
          refine v_pick [1, 2, 4, 0] rfl ?_
          exact b_X12_isOpen_50 hX hE _ h
        · have h := h_E c20 h
          refine v_pick [1, 2, 4, 0] rfl ?_
          exact b_X12_isOpen_46 hX hE _ h
set_option maxRecDepth 100000 in
set_option maxHeartbeats 4000000 in
theorem b_X12_isRead_29 {X : h_X} (hX : h_ok X cX12_isRead 4 RX12 3 76) {Q : Int32 → h_S → Prop} (hE : h_end X (some .boolean) (h_QI (x_Z X) Q)) {y0 : Int32} (s : h_S) (h : w_X12_isRead_29 Q y0 s) : h_V X 4 29 [] [pI y0] s 0 0 := by
  unfold w_X12_isRead_29 at h
  exact v_zret hX hE dX12_isRead_29 h.1 h.2
set_option maxRecDepth 100000 in
set_option maxHeartbeats 4000000 in
theorem b_X12_isRead_28 {X : h_X} (hX : h_ok X cX12_isRead 4 RX12 3 76) {Q : Int32 → h_S → Prop} (hE : h_end X (some .boolean) (h_QI (x_Z X) Q)) (s : h_S) (h : w_X12_isRead_28 Q s) : h_V X 4 28 [] [] s 0 0 := by
  unfold w_X12_isRead_28 at h
  refine v_iconst (v := 0) hX dX12_isRead_28 (by decide) ?_
  refine v_pick [] rfl ?_
  exact b_X12_isRead_29 hX hE _ h
set_option maxRecDepth 100000 in
set_option maxHeartbeats 4000000 in
theorem m_X12_isRead {Z : h_Z} {o0 : Nat} {x1 : Int32} {x2 : Int32} {x3 : Int32} {s : h_S} {Q : Int32 → h_S → Prop} (h : w_X12_isRead o0 x1 x2 x3 s Q) : h_M Z yX12_isRead cX12_isRead 4 (some .boolean) 3 76 [pR (some o0), pI x1, pI x2, pI x3] s 0 0 (h_QI Z Q) := by
  refine h_M.of (by decide) (Nat.le_of_ble_eq_true rfl) (fun X hZ hX hE hI => ?_)
  subst hZ
  unfold w_X12_isRead at h
  show h_V X 4 0 [(0, pR (some o0)), (1, pI x1), (2, pI x2), (3, pI x3)] [] s 0 0
  refine v_iload_n hX dX12_isRead_0 2 rfl rfl ?_
  refine v_bipush (v := -7) hX dX12_isRead_1 (by decide) ?_
  refine v_icmp_eq (tgt := 28) hX dX12_isRead_3 (by decide) (fun c1 => ?_) (fun c1 => ?_)
  · have h := h_T c1 h
    refine v_pick [] rfl ?_
    exact b_X12_isRead_28 hX hE _ h
  · have h := h_E c1 h
    refine v_aload_n hX dX12_isRead_6 0 rfl rfl ?_
    refine v_iload_n hX dX12_isRead_7 1 rfl rfl ?_
    refine v_aload_n hX dX12_isRead_8 0 rfl rfl ?_
    obtain ⟨k2, h⟩ := h
    refine v_getR hX dX12_isRead_9 f_RX12_61 rfl k2 ?_
    refine v_iload_n hX dX12_isRead_12 2 rfl rfl ?_
    obtain ⟨a3, e_a3, h⟩ := h
    refine v_nn1 e_a3 ?_
    obtain ⟨k4, h⟩ := h
    obtain ⟨i5, h⟩ := h
    refine v_iald hX dX12_isRead_13 k4 i5 ?_
    refine v_iconst (v := 0) hX dX12_isRead_14 (by decide) ?_
    refine v_iload_n hX dX12_isRead_15 3 rfl rfl ?_
    refine v_callVi hX dX12_isRead_16 c_RX12_415 cV_X12_whyOf (ci := 13) (T := TX12) (N := 115) rfl (by exact k2) [pI _, pI _, pI _, pI _] rfl rfl (Nat.le_of_ble_eq_true rfl) (by decide) (by decide) (Nat.zero_le _) (Nat.zero_le _) (m_X12_whyOf h) (fun r7 s6 h => ?_)
    refine v_bipush (v := -9) hX dX12_isRead_19 (by decide) ?_
    refine v_icmp_eq (tgt := 28) hX dX12_isRead_21 (by decide) (fun c8 => ?_) (fun c8 => ?_)
    · have h := h_T c8 h
      refine v_pick [] rfl ?_
      exact b_X12_isRead_28 hX hE _ h
    · have h := h_E c8 h
      refine v_iconst (v := 1) hX dX12_isRead_24 (by decide) ?_
      refine v_goto (tgt := 29) hX dX12_isRead_25 (by decide) ?_
      refine v_pick [] rfl ?_
      exact b_X12_isRead_29 hX hE _ h
set_option maxRecDepth 100000 in
set_option maxHeartbeats 4000000 in
theorem b_X12_view_25 {X : h_X} (hX : h_ok X cX12_view 6 RX12 5 118) {Q : Int32 → h_S → Prop} (hE : h_end X (some .int) (h_QI (x_Z X) Q)) (s : h_S) (h : w_X12_view_25 Q s) : h_V X 6 25 [] [] s 0 0 := by
  unfold w_X12_view_25 at h
  refine v_iconst (v := -1) hX dX12_view_25 (by decide) ?_
  exact v_iret hX hE dX12_view_26 h
set_option maxRecDepth 100000 in
set_option maxHeartbeats 4000000 in
theorem b_X12_view_102 {X : h_X} (hX : h_ok X cX12_view 6 RX12 5 118) {Q : Int32 → h_S → Prop} (hE : h_end X (some .int) (h_QI (x_Z X) Q)) {y0 : Int32} (s : h_S) (h : w_X12_view_102 Q y0 s) : h_V X 6 102 [] [pI y0] s 0 0 := by
  unfold w_X12_view_102 at h
  exact v_iret hX hE dX12_view_102 h
set_option maxRecDepth 100000 in
set_option maxHeartbeats 4000000 in
theorem b_X12_view_100 {X : h_X} (hX : h_ok X cX12_view 6 RX12 5 118) {Q : Int32 → h_S → Prop} (hE : h_end X (some .int) (h_QI (x_Z X) Q)) (s : h_S) (h : w_X12_view_100 Q s) : h_V X 6 100 [] [] s 0 0 := by
  unfold w_X12_view_100 at h
  refine v_bipush (v := -7) hX dX12_view_100 (by decide) ?_
  refine v_pick [] rfl ?_
  exact b_X12_view_102 hX hE _ h
set_option maxRecDepth 100000 in
set_option maxHeartbeats 4000000 in
theorem m_X12_view {Z : h_Z} {o0 : Nat} {x1 : Int32} {x2 : Int32} {x3 : Int32} {x4 : Int32} {s : h_S} {Q : Int32 → h_S → Prop} (h : w_X12_view o0 x1 x2 x3 x4 s Q) : h_M Z yX12_view cX12_view 6 (some .int) 5 118 [pR (some o0), pI x1, pI x2, pI x3, pI x4] s 0 0 (h_QI Z Q) := by
  refine h_M.of (by decide) (Nat.le_of_ble_eq_true rfl) (fun X hZ hX hE hI => ?_)
  subst hZ
  unfold w_X12_view at h
  show h_V X 6 0 [(0, pR (some o0)), (1, pI x1), (2, pI x2), (3, pI x3), (4, pI x4)] [] s 0 0
  refine v_aload_n hX dX12_view_0 0 rfl rfl ?_
  refine v_iload_n hX dX12_view_1 1 rfl rfl ?_
  obtain ⟨k1, h⟩ := h
  refine v_callVi hX dX12_view_2 c_RX12_317 cV_X12_noHand (ci := 13) (T := TX12) (N := 115) rfl (by exact k1) [pI _] rfl rfl (Nat.le_of_ble_eq_true rfl) (by decide) (by decide) (Nat.zero_le _) (Nat.zero_le _) (m_X12_noHand h) (fun r3 s2 h => ?_)
  refine v_if_ne (tgt := 25) hX dX12_view_5 (by decide) (fun c4 => ?_) (fun c4 => ?_)
  · have h := h_E c4 h
    refine v_pick [] rfl ?_
    exact b_X12_view_25 hX hE _ h
  · have h := h_T c4 h
    refine v_aload_n hX dX12_view_8 0 rfl rfl ?_
    refine v_iload_n hX dX12_view_9 2 rfl rfl ?_
    obtain ⟨k5, h⟩ := h
    refine v_callVi hX dX12_view_10 c_RX12_458 cV_X12_noVersion (ci := 13) (T := TX12) (N := 115) rfl (by exact k5) [pI _] rfl rfl (Nat.le_of_ble_eq_true rfl) (by decide) (by decide) (Nat.zero_le _) (Nat.zero_le _) (m_X12_noVersion h) (fun r7 s6 h => ?_)
    refine v_if_ne (tgt := 25) hX dX12_view_13 (by decide) (fun c8 => ?_) (fun c8 => ?_)
    · have h := h_E c8 h
      refine v_pick [] rfl ?_
      exact b_X12_view_25 hX hE _ h
    · have h := h_T c8 h
      refine v_aload_n hX dX12_view_16 0 rfl rfl ?_
      refine v_iload hX dX12_view_17 4 rfl ?_
      obtain ⟨k9, h⟩ := h
      refine v_callVi hX dX12_view_19 c_RX12_425 cV_X12_noMoment (ci := 13) (T := TX12) (N := 115) rfl (by exact k9) [pI _] rfl rfl (Nat.le_of_ble_eq_true rfl) (by decide) (by decide) (Nat.zero_le _) (Nat.zero_le _) (m_X12_noMoment h) (fun r11 s10 h => ?_)
      refine v_if_eq (tgt := 27) hX dX12_view_22 (by decide) (fun c12 => ?_) (fun c12 => ?_)
      · have h := h_T c12 h
        refine v_aload_n hX dX12_view_27 0 rfl rfl ?_
        refine v_iload_n hX dX12_view_28 2 rfl rfl ?_
        obtain ⟨k13, h⟩ := h
        refine v_callVv hX dX12_view_29 c_RX12_461 cV_X12_layVersion (ci := 13) (T := TX12) (N := 115) rfl (by exact k13) [pI _] rfl rfl (Nat.le_of_ble_eq_true rfl) (by decide) (by decide) (Nat.zero_le _) (Nat.zero_le _) (m_X12_layVersion h) (fun s14 h => ?_)
        refine v_iload_n hX dX12_view_32 3 rfl rfl ?_
        refine v_i2l hX dX12_view_33 ?_
        refine v_lconst (v := 0) hX dX12_view_34 (by decide) ?_
        refine v_aload_n hX dX12_view_35 0 rfl rfl ?_
        obtain ⟨k16, h⟩ := h
        refine v_getI hX dX12_view_36 f_RX12_342 rfl k16 ?_
        refine v_i2l hX dX12_view_39 ?_
        refine v_lconst (v := 1) hX dX12_view_40 (by decide) ?_
        refine v_lsub hX dX12_view_41 ?_
        refine v_callSi hX dX12_view_42 c_RX12_298 cS_X12_in [pL _, pL _, pL _] rfl rfl (Nat.le_of_ble_eq_true rfl) (by decide) (by decide) (Nat.zero_le _) (Nat.zero_le _) (m_X12_in h) (fun r18 s17 h => ?_)
        refine v_if_ne (tgt := 50) hX dX12_view_45 (by decide) (fun c19 => ?_) (fun c19 => ?_)
        · have h := h_E c19 h
          refine v_iload hX dX12_view_50 4 rfl ?_
          refine v_aload_n hX dX12_view_52 0 rfl rfl ?_
          obtain ⟨k20, h⟩ := h
          refine v_getR hX dX12_view_53 f_RX12_145 rfl k20 ?_
          refine v_iload_n hX dX12_view_56 2 rfl rfl ?_
          obtain ⟨a21, e_a21, h⟩ := h
          refine v_nn1 e_a21 ?_
          obtain ⟨k22, h⟩ := h
          obtain ⟨i23, h⟩ := h
          refine v_iald hX dX12_view_57 k22 i23 ?_
          refine v_icmp_ge (tgt := 64) hX dX12_view_58 (by decide) (fun c24 => ?_) (fun c24 => ?_)
          · have h := h_T c24 h
            refine v_aload_n hX dX12_view_64 0 rfl rfl ?_
            refine v_getR hX dX12_view_65 f_RX12_91 rfl k20 ?_
            refine v_iload_n hX dX12_view_68 3 rfl rfl ?_
            obtain ⟨a25, e_a25, h⟩ := h
            refine v_nn1 e_a25 ?_
            obtain ⟨k26, h⟩ := h
            obtain ⟨i27, h⟩ := h
            refine v_iald hX dX12_view_69 k26 i27 ?_
            refine v_istore (lv' := [(5, _), (0, _), (1, _), (2, _), (3, _), (4, _)]) hX dX12_view_70 (by decide) rfl ?_
            refine v_aload_n hX dX12_view_72 1 rfl rfl ?_
            refine v_iload_n hX dX12_view_73 2 rfl rfl ?_
            refine v_iload_n hX dX12_view_74 3 rfl rfl ?_
            refine v_iload hX dX12_view_75 5 rfl ?_
            refine v_callVi hX dX12_view_77 c_RX12_582 cV_X12_isOpen (ci := 13) (T := TX12) (N := 115) rfl (by exact k20) [pI _, pI _, pI _] rfl rfl (Nat.le_of_ble_eq_true rfl) (by decide) (by decide) (Nat.zero_le _) (Nat.zero_le _) (m_X12_isOpen h) (fun r29 s28 h => ?_)
            refine v_if_eq (tgt := 100) hX dX12_view_80 (by decide) (fun c30 => ?_) (fun c30 => ?_)
            · have h := h_T c30 h
              refine v_pick [] rfl ?_
              exact b_X12_view_100 hX hE _ h
            · have h := h_E c30 h
              refine v_aload_n hX dX12_view_83 1 rfl rfl ?_
              refine v_iload_n hX dX12_view_84 2 rfl rfl ?_
              refine v_iload hX dX12_view_85 0 rfl ?_
              refine v_iload hX dX12_view_87 5 rfl ?_
              obtain ⟨k31, h⟩ := h
              refine v_callVi hX dX12_view_89 c_RX12_586 cV_X12_isRead (ci := 13) (T := TX12) (N := 115) rfl (by exact k31) [pI _, pI _, pI _] rfl rfl (Nat.le_of_ble_eq_true rfl) (by decide) (by decide) (Nat.zero_le _) (Nat.zero_le _) (m_X12_isRead h) (fun r33 s32 h => ?_)
              refine v_if_eq (tgt := 100) hX dX12_view_92 (by decide) (fun c34 => ?_) (fun c34 => ?_)
              · have h := h_T c34 h
                refine v_pick [] rfl ?_
                exact b_X12_view_100 hX hE _ h
              · have h := h_E c34 h
                refine v_iload hX dX12_view_95 0 rfl ?_
                refine v_goto (tgt := 102) hX dX12_view_97 (by decide) ?_
                refine v_pick [] rfl ?_
                exact b_X12_view_102 hX hE _ h
          · have h := h_E c24 h
            refine v_bipush (v := -3) hX dX12_view_61 (by decide) ?_
            exact v_iret hX hE dX12_view_63 h
        · have h := h_T c19 h
          refine v_iconst (v := -1) hX dX12_view_48 (by decide) ?_
          exact v_iret hX hE dX12_view_49 h
      · have h := h_E c12 h
        refine v_pick [] rfl ?_
        exact b_X12_view_25 hX hE _ h
set_option maxRecDepth 100000 in
set_option maxHeartbeats 4000000 in
theorem b_X12_rule_24 {X : h_X} (hX : h_ok X cX12_rule 4 RX12 2 43) {Q : Int32 → h_S → Prop} (hE : h_end X (some .int) (h_QI (x_Z X) Q)) (s : h_S) (h : w_X12_rule_24 Q s) : h_V X 4 24 [] [] s 0 0 := by
  unfold w_X12_rule_24 at h
  refine v_bipush (v := -2) hX dX12_rule_24 (by decide) ?_
  exact v_iret hX hE dX12_rule_26 h
set_option maxRecDepth 100000 in
set_option maxHeartbeats 4000000 in
theorem m_X12_rule {Z : h_Z} {o0 : Nat} {x1 : Int32} {x2 : Int32} {s : h_S} {Q : Int32 → h_S → Prop} (h : w_X12_rule o0 x1 x2 s Q) : h_M Z yX12_rule cX12_rule 4 (some .int) 2 43 [pR (some o0), pI x1, pI x2] s 0 0 (h_QI Z Q) := by
  refine h_M.of (by decide) (Nat.le_of_ble_eq_true rfl) (fun X hZ hX hE hI => ?_)
  subst hZ
  unfold w_X12_rule at h
  show h_V X 4 0 [(0, pR (some o0)), (1, pI x1), (2, pI x2)] [] s 0 0
  refine v_iload_n hX dX12_rule_0 1 rfl rfl ?_
  refine v_i2l hX dX12_rule_1 ?_
  refine v_lconst (v := 0) hX dX12_rule_2 (by decide) ?_
  refine v_ldc2 hX dX12_rule_3 k_RX12_396 ?_
  refine v_callSi hX dX12_rule_6 c_RX12_298 cS_X12_in [pL _, pL _, pL _] rfl rfl (Nat.le_of_ble_eq_true rfl) (by decide) (by decide) (Nat.zero_le _) (Nat.zero_le _) (m_X12_in h) (fun r2 s1 h => ?_)
  refine v_if_eq (tgt := 24) hX dX12_rule_9 (by decide) (fun c3 => ?_) (fun c3 => ?_)
  · have h := h_T c3 h
    refine v_pick [] rfl ?_
    exact b_X12_rule_24 hX hE _ h
  · have h := h_E c3 h
    refine v_iload_n hX dX12_rule_12 2 rfl rfl ?_
    refine v_i2l hX dX12_rule_13 ?_
    refine v_lconst (v := 0) hX dX12_rule_14 (by decide) ?_
    refine v_ldc2 hX dX12_rule_15 k_RX12_589 ?_
    refine v_callSi hX dX12_rule_18 c_RX12_298 cS_X12_in [pL _, pL _, pL _] rfl rfl (Nat.le_of_ble_eq_true rfl) (by decide) (by decide) (Nat.zero_le _) (Nat.zero_le _) (m_X12_in h) (fun r5 s4 h => ?_)
    refine v_if_ne (tgt := 27) hX dX12_rule_21 (by decide) (fun c6 => ?_) (fun c6 => ?_)
    · have h := h_E c6 h
      refine v_bipush (v := 100) hX dX12_rule_27 (by decide) ?_
      refine v_aload_n hX dX12_rule_29 0 rfl rfl ?_
      obtain ⟨k7, h⟩ := h
      refine v_getI hX dX12_rule_30 f_RX12_270 rfl k7 ?_
      refine v_imul hX dX12_rule_33 ?_
      refine v_aload_n hX dX12_rule_34 0 rfl rfl ?_
      refine v_getI hX dX12_rule_35 f_RX12_274 rfl k7 ?_
      refine v_iadd hX dX12_rule_38 ?_
      refine v_istore_n (lv' := [(3, _), (0, _), (1, _), (2, _)]) hX dX12_rule_39 rfl (by decide) rfl ?_
      refine v_aload_n hX dX12_rule_40 1 rfl rfl ?_
      refine v_iload_n hX dX12_rule_41 2 rfl rfl ?_
      refine v_putI hX dX12_rule_42 f_RX12_270 k7 ?_
      refine v_aload_n hX dX12_rule_45 1 rfl rfl ?_
      refine v_iload_n hX dX12_rule_46 3 rfl rfl ?_
      refine v_putI hX dX12_rule_47 f_RX12_274 k7 ?_
      refine v_aload_n hX dX12_rule_50 1 rfl rfl ?_
      refine v_iload_n hX dX12_rule_51 0 rfl rfl ?_
      refine v_callVi hX dX12_rule_52 c_RX12_302 cV_X12_acted (ci := 13) (T := TX12) (N := 115) rfl (by exact k7) [pI _] rfl rfl (Nat.le_of_ble_eq_true rfl) (by decide) (by decide) (Nat.zero_le _) (Nat.zero_le _) (m_X12_acted h) (fun r12 s11 h => ?_)
      exact v_iret hX hE dX12_rule_55 h
    · have h := h_T c6 h
      refine v_pick [] rfl ?_
      exact b_X12_rule_24 hX hE _ h
set_option maxRecDepth 100000 in
set_option maxHeartbeats 4000000 in
theorem b_X12_read_16 {X : h_X} (hX : h_ok X cX12_read 11 RX12 5 118) {Q : Int32 → h_S → Prop} (hE : h_end X (some .int) (h_QI (x_Z X) Q)) (s : h_S) (h : w_X12_read_16 Q s) : h_V X 11 16 [] [] s 0 0 := by
  unfold w_X12_read_16 at h
  refine v_iconst (v := -1) hX dX12_read_16 (by decide) ?_
  exact v_iret hX hE dX12_read_17 h
set_option maxRecDepth 100000 in
set_option maxHeartbeats 4000000 in
theorem b_X12_read_190 {X : h_X} (hX : h_ok X cX12_read 11 RX12 5 118) {Q : Int32 → h_S → Prop} (hE : h_end X (some .int) (h_QI (x_Z X) Q)) {K56 : Nat → Int32 → Int32 → Int32 → Int32 → Int32 → Int32 → h_S → Prop} (hK56 : ∀ (o0 : Nat) (x1 : Int32) (x3 : Int32) (x4 : Int32) (x5 : Int32) (x6 : Int32) (x7 : Int32) (s : h_S), K56 o0 x1 x3 x4 x5 x6 x7 s → h_V X 11 56 [(0, pR (some o0)), (1, pI x1), (3, pI x3), (4, pI x4), (5, pI x5), (6, pI x6), (7, pI x7)] [] s 0 0) {o0 : Nat} {x1 : Int32} {x3 : Int32} {x4 : Int32} {x5 : Int32} {x6 : Int32} {x7 : Int32} (s : h_S) (h : w_X12_read_190 Q K56 o0 x1 x3 x4 x5 x6 x7 s) : h_V X 11 190 [(0, pR (some o0)), (1, pI x1), (3, pI x3), (4, pI x4), (5, pI x5), (6, pI x6), (7, pI x7)] [] s 0 0 := by
  unfold w_X12_read_190 at h
  refine v_iinc (c := 1) (lv' := [(7, _), (0, _), (1, _), (3, _), (4, _), (5, _), (6, _)]) hX dX12_read_190 6 rfl (by decide) (by decide) rfl ?_
  refine v_goto (tgt := 56) hX dX12_read_193 (by decide) ?_
  refine v_pick [1, 2, 3, 4, 5, 6, 0] rfl ?_
  exact hK56 _ _ _ _ _ _ _ _ h
set_option maxRecDepth 100000 in
set_option maxHeartbeats 4000000 in
theorem b_X12_read_152 {X : h_X} (hX : h_ok X cX12_read 11 RX12 5 118) {Q : Int32 → h_S → Prop} (hE : h_end X (some .int) (h_QI (x_Z X) Q)) {K56 : Nat → Int32 → Int32 → Int32 → Int32 → Int32 → Int32 → h_S → Prop} (hK56 : ∀ (o0 : Nat) (x1 : Int32) (x3 : Int32) (x4 : Int32) (x5 : Int32) (x6 : Int32) (x7 : Int32) (s : h_S), K56 o0 x1 x3 x4 x5 x6 x7 s → h_V X 11 56 [(0, pR (some o0)), (1, pI x1), (3, pI x3), (4, pI x4), (5, pI x5), (6, pI x6), (7, pI x7)] [] s 0 0) {o0 : Nat} {x1 : Int32} {x3 : Int32} {x4 : Int32} {x5 : Int32} {x6 : Int32} {x7 : Int32} {x9 : Int32} {x10 : Int32} {y0 : Int32} {y1 : Int32} {t2 : Option Nat} (s : h_S) (h : w_X12_read_152 Q K56 o0 x1 x3 x4 x5 x6 x7 x9 x10 y0 y1 t2 s) : h_V X 11 152 [(0, pR (some o0)), (1, pI x1), (3, pI x3), (4, pI x4), (5, pI x5), (6, pI x6), (7, pI x7), (9, pI x9), (10, pI x10)] [pI y0, pI y1, pR t2] s 0 0 := by
  unfold w_X12_read_152 at h
  refine v_iadd hX dX12_read_152 ?_
  refine v_dup2 hX dX12_read_153 rfl rfl ?_
  obtain ⟨a1, e_a1, h⟩ := h
  refine v_nn1 e_a1 ?_
  obtain ⟨k2, h⟩ := h
  obtain ⟨i3, h⟩ := h
  refine v_iald hX dX12_read_154 k2 i3 ?_
  refine v_iload hX dX12_read_155 8 rfl ?_
  refine v_iadd hX dX12_read_157 ?_
  obtain ⟨a4, e_a4, h⟩ := h
  refine v_nn2 e_a4 ?_
  obtain ⟨k5, h⟩ := h
  obtain ⟨i6, h⟩ := h
  refine v_iast hX dX12_read_158 k5 i6 ?_
  refine v_aload_n hX dX12_read_159 0 rfl rfl ?_
  obtain ⟨k8, h⟩ := h
  refine v_getR hX dX12_read_160 f_RX12_243 rfl k8 ?_
  refine v_bipush (v := 8) hX dX12_read_163 (by decide) ?_
  refine v_iload_n hX dX12_read_165 1 rfl rfl ?_
  refine v_imul hX dX12_read_166 ?_
  refine v_iload hX dX12_read_167 7 rfl ?_
  refine v_iadd hX dX12_read_169 ?_
  refine v_dup2 hX dX12_read_170 rfl rfl ?_
  obtain ⟨a9, e_a9, h⟩ := h
  refine v_nn1 e_a9 ?_
  obtain ⟨k10, h⟩ := h
  obtain ⟨i11, h⟩ := h
  refine v_iald hX dX12_read_171 k10 i11 ?_
  refine v_aload_n hX dX12_read_172 0 rfl rfl ?_
  refine v_getI hX dX12_read_173 f_RX12_270 rfl k8 ?_
  refine v_iload hX dX12_read_176 8 rfl ?_
  refine v_isub hX dX12_read_178 ?_
  refine v_iadd hX dX12_read_179 ?_
  obtain ⟨a12, e_a12, h⟩ := h
  refine v_nn2 e_a12 ?_
  obtain ⟨k13, h⟩ := h
  obtain ⟨i14, h⟩ := h
  refine v_iast hX dX12_read_180 k13 i14 ?_
  refine v_iload hX dX12_read_181 5 rfl ?_
  refine v_aload_n hX dX12_read_183 0 rfl rfl ?_
  refine v_getI hX dX12_read_184 f_RX12_270 rfl k8 ?_
  refine v_iadd hX dX12_read_187 ?_
  refine v_istore (lv' := [(6, _), (0, _), (1, _), (3, _), (4, _), (5, _), (7, _), (9, _), (10, _)]) hX dX12_read_188 (by decide) rfl ?_
  refine v_pick [1, 2, 3, 4, 5, 0, 6] rfl ?_
  exact b_X12_read_190 hX hE hK56 _ h
set_option maxRecDepth 100000 in
set_option maxHeartbeats 4000000 in
theorem b_X12_read_150 {X : h_X} (hX : h_ok X cX12_read 11 RX12 5 118) {Q : Int32 → h_S → Prop} (hE : h_end X (some .int) (h_QI (x_Z X) Q)) {K56 : Nat → Int32 → Int32 → Int32 → Int32 → Int32 → Int32 → h_S → Prop} (hK56 : ∀ (o0 : Nat) (x1 : Int32) (x3 : Int32) (x4 : Int32) (x5 : Int32) (x6 : Int32) (x7 : Int32) (s : h_S), K56 o0 x1 x3 x4 x5 x6 x7 s → h_V X 11 56 [(0, pR (some o0)), (1, pI x1), (3, pI x3), (4, pI x4), (5, pI x5), (6, pI x6), (7, pI x7)] [] s 0 0) {o0 : Nat} {x1 : Int32} {x3 : Int32} {x4 : Int32} {x5 : Int32} {x6 : Int32} {x7 : Int32} {x9 : Int32} {x10 : Int32} {y0 : Int32} {t1 : Option Nat} (s : h_S) (h : w_X12_read_150 Q K56 o0 x1 x3 x4 x5 x6 x7 x9 x10 y0 t1 s) : h_V X 11 150 [(0, pR (some o0)), (1, pI x1), (3, pI x3), (4, pI x4), (5, pI x5), (6, pI x6), (7, pI x7), (9, pI x9), (10, pI x10)] [pI y0, pR t1] s 0 0 := by
  unfold w_X12_read_150 at h
  refine v_iload hX dX12_read_150 7 rfl ?_
  refine v_pick [0, 1, 2, 3, 4, 5, 6, 7, 8] rfl ?_
  exact b_X12_read_152 hX hE hK56 _ h
set_option maxRecDepth 100000 in
set_option maxHeartbeats 4000000 in
theorem b_X12_read_212 {X : h_X} (hX : h_ok X cX12_read 11 RX12 5 118) {Q : Int32 → h_S → Prop} (hE : h_end X (some .int) (h_QI (x_Z X) Q)) {y0 : Int32} (s : h_S) (h : w_X12_read_212 Q y0 s) : h_V X 11 212 [] [pI y0] s 0 0 := by
  unfold w_X12_read_212 at h
  exact v_iret hX hE dX12_read_212 h
set_option maxRecDepth 100000 in
set_option maxHeartbeats 4000000 in
theorem b_X12_read_196 {X : h_X} (hX : h_ok X cX12_read 11 RX12 5 118) {Q : Int32 → h_S → Prop} (hE : h_end X (some .int) (h_QI (x_Z X) Q)) {o0 : Nat} {x5 : Int32} {x6 : Int32} (s : h_S) (h : w_X12_read_196 Q o0 x5 x6 s) : h_V X 11 196 [(0, pR (some o0)), (5, pI x5), (6, pI x6)] [] s 0 0 := by
  unfold w_X12_read_196 at h
  refine v_iload hX dX12_read_196 1 rfl ?_
  refine v_if_ne (tgt := 206) hX dX12_read_198 (by decide) (fun c1 => ?_) (fun c1 => ?_)
  · have h := h_E c1 h
    refine v_aload_n hX dX12_read_206 0 rfl rfl ?_
    refine v_iload hX dX12_read_207 2 rfl ?_
    obtain ⟨k2, h⟩ := h
    refine v_callVi hX dX12_read_209 c_RX12_302 cV_X12_acted (ci := 13) (T := TX12) (N := 115) rfl (by exact k2) [pI _] rfl rfl (Nat.le_of_ble_eq_true rfl) (by decide) (by decide) (Nat.zero_le _) (Nat.zero_le _) (m_X12_acted h) (fun r4 s3 h => ?_)
    refine v_pick [] rfl ?_
    exact b_X12_read_212 hX hE _ h
  · have h := h_T c1 h
    refine v_bipush (v := -3) hX dX12_read_201 (by decide) ?_
    refine v_goto (tgt := 212) hX dX12_read_203 (by decide) ?_
    refine v_pick [] rfl ?_
    exact b_X12_read_212 hX hE _ h
set_option maxRecDepth 100000 in
set_option maxHeartbeats 4000000 in
theorem b_X12_read_56 {X : h_X} (hX : h_ok X cX12_read 11 RX12 5 118) {Q : Int32 → h_S → Prop} (hE : h_end X (some .int) (h_QI (x_Z X) Q)) : ∀ (n : Nat) (o0 : Nat) (x1 : Int32) (x3 : Int32) (x4 : Int32) (x5 : Int32) (x6 : Int32) (x7 : Int32) (s : h_S), w_X12_read_56 Q n o0 x1 x3 x4 x5 x6 x7 s → h_V X 11 56 [(0, pR (some o0)), (1, pI x1), (3, pI x3), (4, pI x4), (5, pI x5), (6, pI x6), (7, pI x7)] [] s 0 0 := by
  intro n
  induction n with
  | zero => intro _ _ _ _ _ _ _ s h; exact h.elim
  | succ n hK56 =>
    intro o0 x1 x3 x4 x5 x6 x7 s h
    have h : w_X12_read_56b Q (w_X12_read_56 Q n) o0 x1 x3 x4 x5 x6 x7 s := h
    unfold w_X12_read_56b at h
    refine v_iload hX dX12_read_56 6 rfl ?_
    refine v_aload_n hX dX12_read_58 0 rfl rfl ?_
    obtain ⟨k1, h⟩ := h
    refine v_getI hX dX12_read_59 f_RX12_342 rfl k1 ?_
    refine v_icmp_ge (tgt := 196) hX dX12_read_62 (by decide) (fun c2 => ?_) (fun c2 => ?_)
    · have h := h_T c2 h
      refine v_pick [0, 4, 5] rfl ?_
      exact b_X12_read_196 hX hE _ h
    · have h := h_E c2 h
      refine v_iload_n hX dX12_read_65 2 rfl rfl ?_
      refine v_if_eq (tgt := 196) hX dX12_read_66 (by decide) (fun c3 => ?_) (fun c3 => ?_)
      · have h := h_T c3 h
        refine v_pick [0, 4, 5] rfl ?_
        exact b_X12_read_196 hX hE _ h
      · have h := h_E c3 h
        refine v_aload_n hX dX12_read_69 0 rfl rfl ?_
        refine v_getR hX dX12_read_70 f_RX12_91 rfl k1 ?_
        refine v_iload hX dX12_read_73 6 rfl ?_
        obtain ⟨a4, e_a4, h⟩ := h
        refine v_nn1 e_a4 ?_
        obtain ⟨k5, h⟩ := h
        obtain ⟨i6, h⟩ := h
        refine v_iald hX dX12_read_75 k5 i6 ?_
        refine v_istore (lv' := [(8, _), (0, _), (1, _), (3, _), (4, _), (5, _), (6, _), (7, _)]) hX dX12_read_76 (by decide) rfl ?_
        refine v_aload_n hX dX12_read_78 1 rfl rfl ?_
        refine v_iload_n hX dX12_read_79 2 rfl rfl ?_
        refine v_iload hX dX12_read_80 0 rfl ?_
        refine v_aload_n hX dX12_read_82 1 rfl rfl ?_
        refine v_getI hX dX12_read_83 f_RX12_288 rfl k1 ?_
        refine v_callVi hX dX12_read_86 c_RX12_586 cV_X12_isRead (ci := 13) (T := TX12) (N := 115) rfl (by exact k1) [pI _, pI _, pI _] rfl rfl (Nat.le_of_ble_eq_true rfl) (by decide) (by decide) (Nat.zero_le _) (Nat.zero_le _) (m_X12_isRead h) (fun r8 s7 h => ?_)
        refine v_if_eq (tgt := 190) hX dX12_read_89 (by decide) (fun c9 => ?_) (fun c9 => ?_)
        · have h := h_T c9 h
          refine v_pick [1, 2, 3, 4, 5, 6, 7] rfl ?_
          exact b_X12_read_190 hX hE hK56 _ h
        · have h := h_E c9 h
          refine v_iinc (c := 1) (lv' := [(5, _), (8, _), (0, _), (1, _), (3, _), (4, _), (6, _), (7, _)]) hX dX12_read_92 5 rfl (by decide) (by decide) rfl ?_
          refine v_aload_n hX dX12_read_95 2 rfl rfl ?_
          obtain ⟨k10, h⟩ := h
          refine v_getR hX dX12_read_96 f_RX12_58 rfl k10 ?_
          refine v_iload hX dX12_read_99 1 rfl ?_
          obtain ⟨a11, e_a11, h⟩ := h
          refine v_nn1 e_a11 ?_
          obtain ⟨k12, h⟩ := h
          obtain ⟨i13, h⟩ := h
          refine v_iald hX dX12_read_101 k12 i13 ?_
          refine v_istore (lv' := [(9, _), (5, _), (8, _), (0, _), (1, _), (3, _), (4, _), (6, _), (7, _)]) hX dX12_read_102 (by decide) rfl ?_
          refine v_iload hX dX12_read_104 0 rfl ?_
          refine v_iload_n hX dX12_read_106 4 rfl rfl ?_
          refine v_icmp_eq (tgt := 190) hX dX12_read_107 (by decide) (fun c15 => ?_) (fun c15 => ?_)
          · have h := h_T c15 h
            refine v_pick [3, 4, 5, 6, 1, 7, 8] rfl ?_
            exact b_X12_read_190 hX hE hK56 _ h
          · have h := h_E c15 h
            refine v_aload_n hX dX12_read_110 3 rfl rfl ?_
            refine v_getI hX dX12_read_111 f_RX12_270 rfl k10 ?_
            refine v_aload_n hX dX12_read_114 3 rfl rfl ?_
            refine v_getI hX dX12_read_115 f_RX12_274 rfl k10 ?_
            refine v_imul hX dX12_read_118 ?_
            refine v_bipush (v := 10) hX dX12_read_119 (by decide) ?_
            have z16 : ¬ (10 : Int32) = 0 := by decide
            refine v_idiv hX dX12_read_121 z16 ?_
            refine v_istore (lv' := [(10, _), (9, _), (5, _), (8, _), (0, _), (1, _), (3, _), (4, _), (6, _), (7, _)]) hX dX12_read_122 (by decide) rfl ?_
            refine v_aload_n hX dX12_read_124 4 rfl rfl ?_
            refine v_getR hX dX12_read_125 f_RX12_243 rfl k10 ?_
            refine v_bipush (v := 8) hX dX12_read_128 (by decide) ?_
            refine v_iload_n hX dX12_read_130 5 rfl rfl ?_
            refine v_imul hX dX12_read_131 ?_
            refine v_iload hX dX12_read_132 7 rfl ?_
            refine v_iload hX dX12_read_134 1 rfl ?_
            refine v_icmp_eq (tgt := 150) hX dX12_read_136 (by decide) (fun c18 => ?_) (fun c18 => ?_)
            · have h := h_T c18 h
              refine v_pick [4, 5, 6, 7, 2, 8, 9, 1, 0] rfl ?_
              exact b_X12_read_150 hX hE hK56 _ h
            · have h := h_E c18 h
              refine v_iload hX dX12_read_139 7 rfl ?_
              refine v_iload_n hX dX12_read_141 5 rfl rfl ?_
              refine v_icmp_eq (tgt := 150) hX dX12_read_142 (by decide) (fun c19 => ?_) (fun c19 => ?_)
              · have h := h_T c19 h
                refine v_pick [4, 5, 6, 7, 2, 8, 9, 1, 0] rfl ?_
                exact b_X12_read_150 hX hE hK56 _ h
              · have h := h_E c19 h
                refine v_iload hX dX12_read_145 7 rfl ?_
                refine v_goto (tgt := 152) hX dX12_read_147 (by decide) ?_
                refine v_pick [4, 5, 6, 7, 2, 8, 9, 1, 0] rfl ?_
                exact b_X12_read_152 hX hE hK56 _ h
set_option maxRecDepth 100000 in
set_option maxHeartbeats 4000000 in
theorem m_X12_read {Z : h_Z} {o0 : Nat} {x1 : Int32} {x2 : Int32} {s : h_S} {Q : Int32 → h_S → Prop} (h : w_X12_read o0 x1 x2 s Q) : h_M Z yX12_read cX12_read 11 (some .int) 5 118 [pR (some o0), pI x1, pI x2] s 0 0 (h_QI Z Q) := by
  refine h_M.of (by decide) (Nat.le_of_ble_eq_true rfl) (fun X hZ hX hE hI => ?_)
  subst hZ
  unfold w_X12_read at h
  show h_V X 11 0 [(0, pR (some o0)), (1, pI x1), (2, pI x2)] [] s 0 0
  refine v_aload_n hX dX12_read_0 0 rfl rfl ?_
  refine v_iload_n hX dX12_read_1 1 rfl rfl ?_
  obtain ⟨k1, h⟩ := h
  refine v_callVi hX dX12_read_2 c_RX12_317 cV_X12_noHand (ci := 13) (T := TX12) (N := 115) rfl (by exact k1) [pI _] rfl rfl (Nat.le_of_ble_eq_true rfl) (by decide) (by decide) (Nat.zero_le _) (Nat.zero_le _) (m_X12_noHand h) (fun r3 s2 h => ?_)
  refine v_if_ne (tgt := 16) hX dX12_read_5 (by decide) (fun c4 => ?_) (fun c4 => ?_)
  · have h := h_E c4 h
    refine v_pick [] rfl ?_
    exact b_X12_read_16 hX hE _ h
  · have h := h_T c4 h
    refine v_aload_n hX dX12_read_8 0 rfl rfl ?_
    refine v_iload_n hX dX12_read_9 2 rfl rfl ?_
    obtain ⟨k5, h⟩ := h
    refine v_callVi hX dX12_read_10 c_RX12_458 cV_X12_noVersion (ci := 13) (T := TX12) (N := 115) rfl (by exact k5) [pI _] rfl rfl (Nat.le_of_ble_eq_true rfl) (by decide) (by decide) (Nat.zero_le _) (Nat.zero_le _) (m_X12_noVersion h) (fun r7 s6 h => ?_)
    refine v_if_eq (tgt := 18) hX dX12_read_13 (by decide) (fun c8 => ?_) (fun c8 => ?_)
    · have h := h_T c8 h
      refine v_aload_n hX dX12_read_18 0 rfl rfl ?_
      refine v_iload_n hX dX12_read_19 2 rfl rfl ?_
      obtain ⟨k9, h⟩ := h
      refine v_callVv hX dX12_read_20 c_RX12_461 cV_X12_layVersion (ci := 13) (T := TX12) (N := 115) rfl (by exact k9) [pI _] rfl rfl (Nat.le_of_ble_eq_true rfl) (by decide) (by decide) (Nat.zero_le _) (Nat.zero_le _) (m_X12_layVersion h) (fun s10 h => ?_)
      refine v_aload_n hX dX12_read_23 0 rfl rfl ?_
      refine v_iload_n hX dX12_read_24 1 rfl rfl ?_
      refine v_iload_n hX dX12_read_25 2 rfl rfl ?_
      refine v_aload_n hX dX12_read_26 0 rfl rfl ?_
      obtain ⟨k12, h⟩ := h
      refine v_getI hX dX12_read_27 f_RX12_288 rfl k12 ?_
      refine v_callVi hX dX12_read_30 c_RX12_582 cV_X12_isOpen (ci := 13) (T := TX12) (N := 115) rfl (by exact k12) [pI _, pI _, pI _] rfl rfl (Nat.le_of_ble_eq_true rfl) (by decide) (by decide) (Nat.zero_le _) (Nat.zero_le _) (m_X12_isOpen h) (fun r14 s13 h => ?_)
      refine v_istore_n (lv' := [(3, _), (0, _), (1, _), (2, _)]) hX dX12_read_33 rfl (by decide) rfl ?_
      refine v_aload_n hX dX12_read_34 1 rfl rfl ?_
      obtain ⟨k15, h⟩ := h
      refine v_getR hX dX12_read_35 f_RX12_22 rfl k15 ?_
      refine v_aload_n hX dX12_read_38 1 rfl rfl ?_
      refine v_getR hX dX12_read_39 f_RX12_142 rfl k15 ?_
      refine v_iload_n hX dX12_read_42 3 rfl rfl ?_
      obtain ⟨a16, e_a16, h⟩ := h
      refine v_nn1 e_a16 ?_
      obtain ⟨k17, h⟩ := h
      obtain ⟨i18, h⟩ := h
      refine v_iald hX dX12_read_43 k17 i18 ?_
      obtain ⟨a19, e_a19, h⟩ := h
      refine v_nn1 e_a19 ?_
      obtain ⟨k20, h⟩ := h
      obtain ⟨i21, h⟩ := h
      refine v_iald hX dX12_read_44 k20 i21 ?_
      refine v_istore (lv' := [(4, _), (3, _), (0, _), (1, _), (2, _)]) hX dX12_read_45 (by decide) rfl ?_
      refine v_iconst (v := 0) hX dX12_read_47 (by decide) ?_
      refine v_istore (lv' := [(5, _), (4, _), (3, _), (0, _), (1, _), (2, _)]) hX dX12_read_48 (by decide) rfl ?_
      refine v_iconst (v := 0) hX dX12_read_50 (by decide) ?_
      refine v_istore (lv' := [(6, _), (5, _), (4, _), (3, _), (0, _), (1, _), (2, _)]) hX dX12_read_51 (by decide) rfl ?_
      refine v_iconst (v := 0) hX dX12_read_53 (by decide) ?_
      refine v_istore (lv' := [(7, _), (6, _), (5, _), (4, _), (3, _), (0, _), (1, _), (2, _)]) hX dX12_read_54 (by decide) rfl ?_
      refine v_pick [5, 6, 4, 3, 2, 1, 0] rfl ?_
      obtain ⟨n, h⟩ := h
      exact b_X12_read_56 hX hE n _ _ _ _ _ _ _ _ h
    · have h := h_E c8 h
      refine v_pick [] rfl ?_
      exact b_X12_read_16 hX hE _ h
set_option maxRecDepth 100000 in
set_option maxHeartbeats 4000000 in
theorem b_X12_owes_31 {X : h_X} (hX : h_ok X cX12_owes 3 RX12 2 46) {Q : Int32 → h_S → Prop} (hE : h_end X (some .int) (h_QI (x_Z X) Q)) {y0 : Int32} (s : h_S) (h : w_X12_owes_31 Q y0 s) : h_V X 3 31 [] [pI y0] s 0 0 := by
  unfold w_X12_owes_31 at h
  exact v_iret hX hE dX12_owes_31 h
set_option maxRecDepth 100000 in
set_option maxHeartbeats 4000000 in
theorem b_X12_owes_16 {X : h_X} (hX : h_ok X cX12_owes 3 RX12 2 46) {Q : Int32 → h_S → Prop} (hE : h_end X (some .int) (h_QI (x_Z X) Q)) (s : h_S) (h : w_X12_owes_16 Q s) : h_V X 3 16 [] [] s 0 0 := by
  unfold w_X12_owes_16 at h
  refine v_iconst (v := -1) hX dX12_owes_16 (by decide) ?_
  refine v_goto (tgt := 31) hX dX12_owes_17 (by decide) ?_
  refine v_pick [] rfl ?_
  exact b_X12_owes_31 hX hE _ h
set_option maxRecDepth 100000 in
set_option maxHeartbeats 4000000 in
theorem m_X12_owes {Z : h_Z} {o0 : Nat} {x1 : Int32} {x2 : Int32} {s : h_S} {Q : Int32 → h_S → Prop} (h : w_X12_owes o0 x1 x2 s Q) : h_M Z yX12_owes cX12_owes 3 (some .int) 2 46 [pR (some o0), pI x1, pI x2] s 0 0 (h_QI Z Q) := by
  refine h_M.of (by decide) (Nat.le_of_ble_eq_true rfl) (fun X hZ hX hE hI => ?_)
  subst hZ
  unfold w_X12_owes at h
  show h_V X 3 0 [(0, pR (some o0)), (1, pI x1), (2, pI x2)] [] s 0 0
  refine v_aload_n hX dX12_owes_0 0 rfl rfl ?_
  refine v_iload_n hX dX12_owes_1 1 rfl rfl ?_
  obtain ⟨k1, h⟩ := h
  refine v_callVi hX dX12_owes_2 c_RX12_317 cV_X12_noHand (ci := 13) (T := TX12) (N := 115) rfl (by exact k1) [pI _] rfl rfl (Nat.le_of_ble_eq_true rfl) (by decide) (by decide) (Nat.zero_le _) (Nat.zero_le _) (m_X12_noHand h) (fun r3 s2 h => ?_)
  refine v_if_ne (tgt := 16) hX dX12_owes_5 (by decide) (fun c4 => ?_) (fun c4 => ?_)
  · have h := h_E c4 h
    refine v_pick [] rfl ?_
    exact b_X12_owes_16 hX hE _ h
  · have h := h_T c4 h
    refine v_aload_n hX dX12_owes_8 0 rfl rfl ?_
    refine v_iload_n hX dX12_owes_9 2 rfl rfl ?_
    obtain ⟨k5, h⟩ := h
    refine v_callVi hX dX12_owes_10 c_RX12_317 cV_X12_noHand (ci := 13) (T := TX12) (N := 115) rfl (by exact k5) [pI _] rfl rfl (Nat.le_of_ble_eq_true rfl) (by decide) (by decide) (Nat.zero_le _) (Nat.zero_le _) (m_X12_noHand h) (fun r7 s6 h => ?_)
    refine v_if_eq (tgt := 20) hX dX12_owes_13 (by decide) (fun c8 => ?_) (fun c8 => ?_)
    · have h := h_T c8 h
      refine v_aload_n hX dX12_owes_20 0 rfl rfl ?_
      obtain ⟨k9, h⟩ := h
      refine v_getR hX dX12_owes_21 f_RX12_243 rfl k9 ?_
      refine v_bipush (v := 8) hX dX12_owes_24 (by decide) ?_
      refine v_iload_n hX dX12_owes_26 1 rfl rfl ?_
      refine v_imul hX dX12_owes_27 ?_
      refine v_iload_n hX dX12_owes_28 2 rfl rfl ?_
      refine v_iadd hX dX12_owes_29 ?_
      obtain ⟨a10, e_a10, h⟩ := h
      refine v_nn1 e_a10 ?_
      obtain ⟨k11, h⟩ := h
      obtain ⟨i12, h⟩ := h
      refine v_iald hX dX12_owes_30 k11 i12 ?_
      refine v_pick [] rfl ?_
      exact b_X12_owes_31 hX hE _ h
    · have h := h_E c8 h
      refine v_pick [] rfl ?_
      exact b_X12_owes_16 hX hE _ h
set_option maxRecDepth 100000 in
set_option maxHeartbeats 4000000 in
theorem b_X12_pay_16 {X : h_X} (hX : h_ok X cX12_pay 4 RX12 2 46) {Q : Int32 → h_S → Prop} (hE : h_end X (some .int) (h_QI (x_Z X) Q)) (s : h_S) (h : w_X12_pay_16 Q s) : h_V X 4 16 [] [] s 0 0 := by
  unfold w_X12_pay_16 at h
  refine v_iconst (v := -1) hX dX12_pay_16 (by decide) ?_
  exact v_iret hX hE dX12_pay_17 h
set_option maxRecDepth 100000 in
set_option maxHeartbeats 4000000 in
theorem m_X12_pay {Z : h_Z} {o0 : Nat} {x1 : Int32} {x2 : Int32} {x3 : Int32} {s : h_S} {Q : Int32 → h_S → Prop} (h : w_X12_pay o0 x1 x2 x3 s Q) : h_M Z yX12_pay cX12_pay 4 (some .int) 2 46 [pR (some o0), pI x1, pI x2, pI x3] s 0 0 (h_QI Z Q) := by
  refine h_M.of (by decide) (Nat.le_of_ble_eq_true rfl) (fun X hZ hX hE hI => ?_)
  subst hZ
  unfold w_X12_pay at h
  show h_V X 4 0 [(0, pR (some o0)), (1, pI x1), (2, pI x2), (3, pI x3)] [] s 0 0
  refine v_aload_n hX dX12_pay_0 0 rfl rfl ?_
  refine v_iload_n hX dX12_pay_1 1 rfl rfl ?_
  obtain ⟨k1, h⟩ := h
  refine v_callVi hX dX12_pay_2 c_RX12_317 cV_X12_noHand (ci := 13) (T := TX12) (N := 115) rfl (by exact k1) [pI _] rfl rfl (Nat.le_of_ble_eq_true rfl) (by decide) (by decide) (Nat.zero_le _) (Nat.zero_le _) (m_X12_noHand h) (fun r3 s2 h => ?_)
  refine v_if_ne (tgt := 16) hX dX12_pay_5 (by decide) (fun c4 => ?_) (fun c4 => ?_)
  · have h := h_E c4 h
    refine v_pick [] rfl ?_
    exact b_X12_pay_16 hX hE _ h
  · have h := h_T c4 h
    refine v_aload_n hX dX12_pay_8 0 rfl rfl ?_
    refine v_iload_n hX dX12_pay_9 2 rfl rfl ?_
    obtain ⟨k5, h⟩ := h
    refine v_callVi hX dX12_pay_10 c_RX12_317 cV_X12_noHand (ci := 13) (T := TX12) (N := 115) rfl (by exact k5) [pI _] rfl rfl (Nat.le_of_ble_eq_true rfl) (by decide) (by decide) (Nat.zero_le _) (Nat.zero_le _) (m_X12_noHand h) (fun r7 s6 h => ?_)
    refine v_if_eq (tgt := 18) hX dX12_pay_13 (by decide) (fun c8 => ?_) (fun c8 => ?_)
    · have h := h_T c8 h
      refine v_iload_n hX dX12_pay_18 3 rfl rfl ?_
      refine v_iconst (v := 1) hX dX12_pay_19 (by decide) ?_
      refine v_icmp_ge (tgt := 26) hX dX12_pay_20 (by decide) (fun c9 => ?_) (fun c9 => ?_)
      · have h := h_T c9 h
        refine v_aload_n hX dX12_pay_26 0 rfl rfl ?_
        obtain ⟨k10, h⟩ := h
        refine v_getR hX dX12_pay_27 f_RX12_243 rfl k10 ?_
        refine v_bipush (v := 8) hX dX12_pay_30 (by decide) ?_
        refine v_iload_n hX dX12_pay_32 1 rfl rfl ?_
        refine v_imul hX dX12_pay_33 ?_
        refine v_iload_n hX dX12_pay_34 2 rfl rfl ?_
        refine v_iadd hX dX12_pay_35 ?_
        obtain ⟨a11, e_a11, h⟩ := h
        refine v_nn1 e_a11 ?_
        obtain ⟨k12, h⟩ := h
        obtain ⟨i13, h⟩ := h
        refine v_iald hX dX12_pay_36 k12 i13 ?_
        refine v_iload_n hX dX12_pay_37 3 rfl rfl ?_
        refine v_icmp_ge (tgt := 44) hX dX12_pay_38 (by decide) (fun c14 => ?_) (fun c14 => ?_)
        · have h := h_T c14 h
          refine v_aload_n hX dX12_pay_44 0 rfl rfl ?_
          refine v_getR hX dX12_pay_45 f_RX12_243 rfl k10 ?_
          refine v_bipush (v := 8) hX dX12_pay_48 (by decide) ?_
          refine v_iload_n hX dX12_pay_50 1 rfl rfl ?_
          refine v_imul hX dX12_pay_51 ?_
          refine v_iload_n hX dX12_pay_52 2 rfl rfl ?_
          refine v_iadd hX dX12_pay_53 ?_
          refine v_dup2 hX dX12_pay_54 rfl rfl ?_
          obtain ⟨a15, e_a15, h⟩ := h
          refine v_nn1 e_a15 ?_
          obtain ⟨k16, h⟩ := h
          obtain ⟨i17, h⟩ := h
          refine v_iald hX dX12_pay_55 k16 i17 ?_
          refine v_iload_n hX dX12_pay_56 3 rfl rfl ?_
          refine v_isub hX dX12_pay_57 ?_
          obtain ⟨a18, e_a18, h⟩ := h
          refine v_nn2 e_a18 ?_
          obtain ⟨k19, h⟩ := h
          obtain ⟨i20, h⟩ := h
          refine v_iast hX dX12_pay_58 k19 i20 ?_
          refine v_aload_n hX dX12_pay_59 0 rfl rfl ?_
          refine v_aload_n hX dX12_pay_60 0 rfl rfl ?_
          refine v_getR hX dX12_pay_61 f_RX12_243 rfl k10 ?_
          refine v_bipush (v := 8) hX dX12_pay_64 (by decide) ?_
          refine v_iload_n hX dX12_pay_66 1 rfl rfl ?_
          refine v_imul hX dX12_pay_67 ?_
          refine v_iload_n hX dX12_pay_68 2 rfl rfl ?_
          refine v_iadd hX dX12_pay_69 ?_
          obtain ⟨a22, e_a22, h⟩ := h
          refine v_nn1 e_a22 ?_
          obtain ⟨k23, h⟩ := h
          obtain ⟨i24, h⟩ := h
          refine v_iald hX dX12_pay_70 k23 i24 ?_
          refine v_callVi hX dX12_pay_71 c_RX12_302 cV_X12_acted (ci := 13) (T := TX12) (N := 115) rfl (by exact k10) [pI _] rfl rfl (Nat.le_of_ble_eq_true rfl) (by decide) (by decide) (Nat.zero_le _) (Nat.zero_le _) (m_X12_acted h) (fun r26 s25 h => ?_)
          exact v_iret hX hE dX12_pay_74 h
        · have h := h_E c14 h
          refine v_bipush (v := -3) hX dX12_pay_41 (by decide) ?_
          exact v_iret hX hE dX12_pay_43 h
      · have h := h_E c9 h
        refine v_bipush (v := -2) hX dX12_pay_23 (by decide) ?_
        exact v_iret hX hE dX12_pay_25 h
    · have h := h_E c8 h
      refine v_pick [] rfl ?_
      exact b_X12_pay_16 hX hE _ h
set_option maxRecDepth 100000 in
set_option maxHeartbeats 4000000 in
theorem b_X12_noChain_52 {X : h_X} (hX : h_ok X cX12_noChain 3 RX12 5 118) {Q : Int32 → h_S → Prop} (hE : h_end X (some .int) (h_QI (x_Z X) Q)) {y0 : Int32} (s : h_S) (h : w_X12_noChain_52 Q y0 s) : h_V X 3 52 [] [pI y0] s 0 0 := by
  unfold w_X12_noChain_52 at h
  exact v_iret hX hE dX12_noChain_52 h
set_option maxRecDepth 100000 in
set_option maxHeartbeats 4000000 in
theorem m_X12_noChain {Z : h_Z} {o0 : Nat} {x1 : Int32} {x2 : Int32} {s : h_S} {Q : Int32 → h_S → Prop} (h : w_X12_noChain o0 x1 x2 s Q) : h_M Z yX12_noChain cX12_noChain 3 (some .int) 5 118 [pR (some o0), pI x1, pI x2] s 0 0 (h_QI Z Q) := by
  refine h_M.of (by decide) (Nat.le_of_ble_eq_true rfl) (fun X hZ hX hE hI => ?_)
  subst hZ
  unfold w_X12_noChain at h
  show h_V X 3 0 [(0, pR (some o0)), (1, pI x1), (2, pI x2)] [] s 0 0
  refine v_aload_n hX dX12_noChain_0 0 rfl rfl ?_
  refine v_iload_n hX dX12_noChain_1 1 rfl rfl ?_
  obtain ⟨k1, h⟩ := h
  refine v_callVi hX dX12_noChain_2 c_RX12_458 cV_X12_noVersion (ci := 13) (T := TX12) (N := 115) rfl (by exact k1) [pI _] rfl rfl (Nat.le_of_ble_eq_true rfl) (by decide) (by decide) (Nat.zero_le _) (Nat.zero_le _) (m_X12_noVersion h) (fun r3 s2 h => ?_)
  refine v_if_eq (tgt := 10) hX dX12_noChain_5 (by decide) (fun c4 => ?_) (fun c4 => ?_)
  · have h := h_T c4 h
    refine v_aload_n hX dX12_noChain_10 0 rfl rfl ?_
    refine v_iload_n hX dX12_noChain_11 1 rfl rfl ?_
    obtain ⟨k5, h⟩ := h
    refine v_callVv hX dX12_noChain_12 c_RX12_461 cV_X12_layVersion (ci := 13) (T := TX12) (N := 115) rfl (by exact k5) [pI _] rfl rfl (Nat.le_of_ble_eq_true rfl) (by decide) (by decide) (Nat.zero_le _) (Nat.zero_le _) (m_X12_layVersion h) (fun s6 h => ?_)
    refine v_iload_n hX dX12_noChain_15 2 rfl rfl ?_
    refine v_i2l hX dX12_noChain_16 ?_
    refine v_lconst (v := 0) hX dX12_noChain_17 (by decide) ?_
    refine v_aload_n hX dX12_noChain_18 0 rfl rfl ?_
    obtain ⟨k8, h⟩ := h
    refine v_getI hX dX12_noChain_19 f_RX12_342 rfl k8 ?_
    refine v_i2l hX dX12_noChain_22 ?_
    refine v_lconst (v := 1) hX dX12_noChain_23 (by decide) ?_
    refine v_lsub hX dX12_noChain_24 ?_
    refine v_callSi hX dX12_noChain_25 c_RX12_298 cS_X12_in [pL _, pL _, pL _] rfl rfl (Nat.le_of_ble_eq_true rfl) (by decide) (by decide) (Nat.zero_le _) (Nat.zero_le _) (m_X12_in h) (fun r10 s9 h => ?_)
    refine v_if_ne (tgt := 35) hX dX12_noChain_28 (by decide) (fun c11 => ?_) (fun c11 => ?_)
    · have h := h_E c11 h
      refine v_aload_n hX dX12_noChain_35 0 rfl rfl ?_
      obtain ⟨k12, h⟩ := h
      refine v_getR hX dX12_noChain_36 f_RX12_91 rfl k12 ?_
      refine v_iload_n hX dX12_noChain_39 2 rfl rfl ?_
      obtain ⟨a13, e_a13, h⟩ := h
      refine v_nn1 e_a13 ?_
      obtain ⟨k14, h⟩ := h
      obtain ⟨i15, h⟩ := h
      refine v_iald hX dX12_noChain_40 k14 i15 ?_
      refine v_bipush (v := -7) hX dX12_noChain_41 (by decide) ?_
      refine v_icmp_ne (tgt := 51) hX dX12_noChain_43 (by decide) (fun c16 => ?_) (fun c16 => ?_)
      · have h := h_E c16 h
        refine v_iconst (v := 0) hX dX12_noChain_51 (by decide) ?_
        refine v_pick [] rfl ?_
        exact b_X12_noChain_52 hX hE _ h
      · have h := h_T c16 h
        refine v_bipush (v := -3) hX dX12_noChain_46 (by decide) ?_
        refine v_goto (tgt := 52) hX dX12_noChain_48 (by decide) ?_
        refine v_pick [] rfl ?_
        exact b_X12_noChain_52 hX hE _ h
    · have h := h_T c11 h
      refine v_iconst (v := -1) hX dX12_noChain_31 (by decide) ?_
      refine v_goto (tgt := 52) hX dX12_noChain_32 (by decide) ?_
      refine v_pick [] rfl ?_
      exact b_X12_noChain_52 hX hE _ h
  · have h := h_E c4 h
    refine v_iconst (v := -1) hX dX12_noChain_8 (by decide) ?_
    exact v_iret hX hE dX12_noChain_9 h
set_option maxRecDepth 100000 in
set_option maxHeartbeats 4000000 in
theorem b_X12_chainMany_40 {X : h_X} (hX : h_ok X cX12_chainMany 3 RX12 0 0) {Q : Int32 → h_S → Prop} (hE : h_end X (some .int) (h_QI (x_Z X) Q)) {y0 : Int32} (s : h_S) (h : w_X12_chainMany_40 Q y0 s) : h_V X 3 40 [] [pI y0] s 0 0 := by
  unfold w_X12_chainMany_40 at h
  exact v_iret hX hE dX12_chainMany_40 h
set_option maxRecDepth 100000 in
set_option maxHeartbeats 4000000 in
theorem m_X12_chainMany {Z : h_Z} {o0 : Nat} {x1 : Int32} {s : h_S} {Q : Int32 → h_S → Prop} (h : w_X12_chainMany o0 x1 s Q) : h_M Z yX12_chainMany cX12_chainMany 3 (some .int) 0 0 [pR (some o0), pI x1] s 0 0 (h_QI Z Q) := by
  refine h_M.of (by decide) (Nat.le_of_ble_eq_true rfl) (fun X hZ hX hE hI => ?_)
  subst hZ
  unfold w_X12_chainMany at h
  show h_V X 3 0 [(0, pR (some o0)), (1, pI x1)] [] s 0 0
  refine v_aload_n hX dX12_chainMany_0 0 rfl rfl ?_
  obtain ⟨k1, h⟩ := h
  refine v_getR hX dX12_chainMany_1 f_RX12_97 rfl k1 ?_
  refine v_iload_n hX dX12_chainMany_4 1 rfl rfl ?_
  obtain ⟨a2, e_a2, h⟩ := h
  refine v_nn1 e_a2 ?_
  obtain ⟨k3, h⟩ := h
  obtain ⟨i4, h⟩ := h
  refine v_iald hX dX12_chainMany_5 k3 i4 ?_
  refine v_istore_n (lv' := [(2, _), (0, _), (1, _)]) hX dX12_chainMany_6 rfl (by decide) rfl ?_
  refine v_aload_n hX dX12_chainMany_7 1 rfl rfl ?_
  refine v_getR hX dX12_chainMany_8 f_RX12_100 rfl k1 ?_
  refine v_iconst (v := 5) hX dX12_chainMany_11 (by decide) ?_
  refine v_iload_n hX dX12_chainMany_12 2 rfl rfl ?_
  refine v_imul hX dX12_chainMany_13 ?_
  refine v_iload_n hX dX12_chainMany_14 0 rfl rfl ?_
  refine v_iadd hX dX12_chainMany_15 ?_
  refine v_iconst (v := 1) hX dX12_chainMany_16 (by decide) ?_
  refine v_isub hX dX12_chainMany_17 ?_
  obtain ⟨a5, e_a5, h⟩ := h
  refine v_nn1 e_a5 ?_
  obtain ⟨k6, h⟩ := h
  obtain ⟨i7, h⟩ := h
  refine v_iald hX dX12_chainMany_18 k6 i7 ?_
  refine v_aload_n hX dX12_chainMany_19 1 rfl rfl ?_
  refine v_getR hX dX12_chainMany_20 f_RX12_61 rfl k1 ?_
  refine v_aload_n hX dX12_chainMany_23 1 rfl rfl ?_
  refine v_getR hX dX12_chainMany_24 f_RX12_91 rfl k1 ?_
  refine v_iload_n hX dX12_chainMany_27 2 rfl rfl ?_
  obtain ⟨a8, e_a8, h⟩ := h
  refine v_nn1 e_a8 ?_
  obtain ⟨k9, h⟩ := h
  obtain ⟨i10, h⟩ := h
  refine v_iald hX dX12_chainMany_28 k9 i10 ?_
  obtain ⟨a11, e_a11, h⟩ := h
  refine v_nn1 e_a11 ?_
  obtain ⟨k12, h⟩ := h
  obtain ⟨i13, h⟩ := h
  refine v_iald hX dX12_chainMany_29 k12 i13 ?_
  refine v_icmp_ne (tgt := 37) hX dX12_chainMany_30 (by decide) (fun c14 => ?_) (fun c14 => ?_)
  · have h := h_E c14 h
    refine v_iload_n hX dX12_chainMany_37 0 rfl rfl ?_
    refine v_iconst (v := 1) hX dX12_chainMany_38 (by decide) ?_
    refine v_iadd hX dX12_chainMany_39 ?_
    refine v_pick [] rfl ?_
    exact b_X12_chainMany_40 hX hE _ h
  · have h := h_T c14 h
    refine v_iload_n hX dX12_chainMany_33 0 rfl rfl ?_
    refine v_goto (tgt := 40) hX dX12_chainMany_34 (by decide) ?_
    refine v_pick [] rfl ?_
    exact b_X12_chainMany_40 hX hE _ h
set_option maxRecDepth 100000 in
set_option maxHeartbeats 4000000 in
theorem b_X12_steps_20 {X : h_X} (hX : h_ok X cX12_steps 4 RX12 6 140) {Q : Int32 → h_S → Prop} (hE : h_end X (some .int) (h_QI (x_Z X) Q)) {y0 : Int32} (s : h_S) (h : w_X12_steps_20 Q y0 s) : h_V X 4 20 [] [pI y0] s 0 0 := by
  unfold w_X12_steps_20 at h
  exact v_iret hX hE dX12_steps_20 h
set_option maxRecDepth 100000 in
set_option maxHeartbeats 4000000 in
theorem m_X12_steps {Z : h_Z} {o0 : Nat} {x1 : Int32} {x2 : Int32} {s : h_S} {Q : Int32 → h_S → Prop} (h : w_X12_steps o0 x1 x2 s Q) : h_M Z yX12_steps cX12_steps 4 (some .int) 6 140 [pR (some o0), pI x1, pI x2] s 0 0 (h_QI Z Q) := by
  refine h_M.of (by decide) (Nat.le_of_ble_eq_true rfl) (fun X hZ hX hE hI => ?_)
  subst hZ
  unfold w_X12_steps at h
  show h_V X 4 0 [(0, pR (some o0)), (1, pI x1), (2, pI x2)] [] s 0 0
  refine v_aload_n hX dX12_steps_0 0 rfl rfl ?_
  refine v_iload_n hX dX12_steps_1 1 rfl rfl ?_
  refine v_iload_n hX dX12_steps_2 2 rfl rfl ?_
  obtain ⟨k1, h⟩ := h
  refine v_callVi hX dX12_steps_3 c_RX12_591 cV_X12_noChain (ci := 13) (T := TX12) (N := 115) rfl (by exact k1) [pI _, pI _] rfl rfl (Nat.le_of_ble_eq_true rfl) (by decide) (by decide) (Nat.zero_le _) (Nat.zero_le _) (m_X12_noChain h) (fun r3 s2 h => ?_)
  refine v_istore_n (lv' := [(3, _), (0, _), (1, _), (2, _)]) hX dX12_steps_6 rfl (by decide) rfl ?_
  refine v_iload_n hX dX12_steps_7 0 rfl rfl ?_
  refine v_if_ge (tgt := 15) hX dX12_steps_8 (by decide) (fun c4 => ?_) (fun c4 => ?_)
  · have h := h_T c4 h
    refine v_aload_n hX dX12_steps_15 1 rfl rfl ?_
    refine v_iload_n hX dX12_steps_16 3 rfl rfl ?_
    obtain ⟨k5, h⟩ := h
    refine v_callVi hX dX12_steps_17 c_RX12_594 cV_X12_chainMany (ci := 13) (T := TX12) (N := 115) rfl (by exact k5) [pI _] rfl rfl (Nat.le_of_ble_eq_true rfl) (by decide) (by decide) (Nat.zero_le _) (Nat.zero_le _) (m_X12_chainMany h) (fun r7 s6 h => ?_)
    refine v_pick [] rfl ?_
    exact b_X12_steps_20 hX hE _ h
  · have h := h_E c4 h
    refine v_iload_n hX dX12_steps_11 0 rfl rfl ?_
    refine v_goto (tgt := 20) hX dX12_steps_12 (by decide) ?_
    refine v_pick [] rfl ?_
    exact b_X12_steps_20 hX hE _ h
set_option maxRecDepth 100000 in
set_option maxHeartbeats 4000000 in
theorem b_X12_chain_69 {X : h_X} (hX : h_ok X cX12_chain 5 RX12 6 140) {Q : Int32 → h_S → Prop} (hE : h_end X (some .int) (h_QI (x_Z X) Q)) {y0 : Int32} (s : h_S) (h : w_X12_chain_69 Q y0 s) : h_V X 5 69 [] [pI y0] s 0 0 := by
  unfold w_X12_chain_69 at h
  exact v_iret hX hE dX12_chain_69 h
set_option maxRecDepth 100000 in
set_option maxHeartbeats 4000000 in
theorem m_X12_chain {Z : h_Z} {o0 : Nat} {x1 : Int32} {x2 : Int32} {x3 : Int32} {s : h_S} {Q : Int32 → h_S → Prop} (h : w_X12_chain o0 x1 x2 x3 s Q) : h_M Z yX12_chain cX12_chain 5 (some .int) 6 140 [pR (some o0), pI x1, pI x2, pI x3] s 0 0 (h_QI Z Q) := by
  refine h_M.of (by decide) (Nat.le_of_ble_eq_true rfl) (fun X hZ hX hE hI => ?_)
  subst hZ
  unfold w_X12_chain at h
  show h_V X 5 0 [(0, pR (some o0)), (1, pI x1), (2, pI x2), (3, pI x3)] [] s 0 0
  refine v_aload_n hX dX12_chain_0 0 rfl rfl ?_
  refine v_iload_n hX dX12_chain_1 1 rfl rfl ?_
  refine v_iload_n hX dX12_chain_2 2 rfl rfl ?_
  obtain ⟨k1, h⟩ := h
  refine v_callVi hX dX12_chain_3 c_RX12_591 cV_X12_noChain (ci := 13) (T := TX12) (N := 115) rfl (by exact k1) [pI _, pI _] rfl rfl (Nat.le_of_ble_eq_true rfl) (by decide) (by decide) (Nat.zero_le _) (Nat.zero_le _) (m_X12_noChain h) (fun r3 s2 h => ?_)
  refine v_istore (lv' := [(4, _), (0, _), (1, _), (2, _), (3, _)]) hX dX12_chain_6 (by decide) rfl ?_
  refine v_iload hX dX12_chain_8 0 rfl ?_
  refine v_if_ge (tgt := 16) hX dX12_chain_10 (by decide) (fun c4 => ?_) (fun c4 => ?_)
  · have h := h_T c4 h
    refine v_iload_n hX dX12_chain_16 4 rfl rfl ?_
    refine v_i2l hX dX12_chain_17 ?_
    refine v_lconst (v := 0) hX dX12_chain_18 (by decide) ?_
    refine v_aload_n hX dX12_chain_19 1 rfl rfl ?_
    refine v_iload_n hX dX12_chain_20 3 rfl rfl ?_
    obtain ⟨k5, h⟩ := h
    refine v_callVi hX dX12_chain_21 c_RX12_594 cV_X12_chainMany (ci := 13) (T := TX12) (N := 115) rfl (by exact k5) [pI _] rfl rfl (Nat.le_of_ble_eq_true rfl) (by decide) (by decide) (Nat.zero_le _) (Nat.zero_le _) (m_X12_chainMany h) (fun r7 s6 h => ?_)
    refine v_i2l hX dX12_chain_24 ?_
    refine v_lconst (v := 1) hX dX12_chain_25 (by decide) ?_
    refine v_lsub hX dX12_chain_26 ?_
    refine v_callSi hX dX12_chain_27 c_RX12_298 cS_X12_in [pL _, pL _, pL _] rfl rfl (Nat.le_of_ble_eq_true rfl) (by decide) (by decide) (Nat.zero_le _) (Nat.zero_le _) (m_X12_in h) (fun r9 s8 h => ?_)
    refine v_if_ne (tgt := 35) hX dX12_chain_30 (by decide) (fun c10 => ?_) (fun c10 => ?_)
    · have h := h_E c10 h
      refine v_iload_n hX dX12_chain_35 4 rfl rfl ?_
      refine v_aload_n hX dX12_chain_36 1 rfl rfl ?_
      obtain ⟨k11, h⟩ := h
      refine v_getR hX dX12_chain_37 f_RX12_97 rfl k11 ?_
      refine v_iload_n hX dX12_chain_40 3 rfl rfl ?_
      obtain ⟨a12, e_a12, h⟩ := h
      refine v_nn1 e_a12 ?_
      obtain ⟨k13, h⟩ := h
      obtain ⟨i14, h⟩ := h
      refine v_iald hX dX12_chain_41 k13 i14 ?_
      refine v_icmp_ge (tgt := 58) hX dX12_chain_42 (by decide) (fun c15 => ?_) (fun c15 => ?_)
      · have h := h_T c15 h
        refine v_aload_n hX dX12_chain_58 1 rfl rfl ?_
        refine v_getR hX dX12_chain_59 f_RX12_61 rfl k11 ?_
        refine v_aload_n hX dX12_chain_62 1 rfl rfl ?_
        refine v_getR hX dX12_chain_63 f_RX12_91 rfl k11 ?_
        refine v_iload_n hX dX12_chain_66 3 rfl rfl ?_
        obtain ⟨a16, e_a16, h⟩ := h
        refine v_nn1 e_a16 ?_
        obtain ⟨k17, h⟩ := h
        obtain ⟨i18, h⟩ := h
        refine v_iald hX dX12_chain_67 k17 i18 ?_
        obtain ⟨a19, e_a19, h⟩ := h
        refine v_nn1 e_a19 ?_
        obtain ⟨k20, h⟩ := h
        obtain ⟨i21, h⟩ := h
        refine v_iald hX dX12_chain_68 k20 i21 ?_
        refine v_pick [] rfl ?_
        exact b_X12_chain_69 hX hE _ h
      · have h := h_E c15 h
        refine v_aload_n hX dX12_chain_45 1 rfl rfl ?_
        refine v_getR hX dX12_chain_46 f_RX12_100 rfl k11 ?_
        refine v_iconst (v := 5) hX dX12_chain_49 (by decide) ?_
        refine v_iload_n hX dX12_chain_50 3 rfl rfl ?_
        refine v_imul hX dX12_chain_51 ?_
        refine v_iload_n hX dX12_chain_52 4 rfl rfl ?_
        refine v_iadd hX dX12_chain_53 ?_
        obtain ⟨a22, e_a22, h⟩ := h
        refine v_nn1 e_a22 ?_
        obtain ⟨k23, h⟩ := h
        obtain ⟨i24, h⟩ := h
        refine v_iald hX dX12_chain_54 k23 i24 ?_
        refine v_goto (tgt := 69) hX dX12_chain_55 (by decide) ?_
        refine v_pick [] rfl ?_
        exact b_X12_chain_69 hX hE _ h
    · have h := h_T c10 h
      refine v_iconst (v := -1) hX dX12_chain_33 (by decide) ?_
      exact v_iret hX hE dX12_chain_34 h
  · have h := h_E c4 h
    refine v_iload hX dX12_chain_13 0 rfl ?_
    exact v_iret hX hE dX12_chain_15 h
set_option maxRecDepth 100000 in
set_option maxHeartbeats 4000000 in
theorem b_X12_quotes_16 {X : h_X} (hX : h_ok X cX12_quotes 3 RX12 3 74) {Q : Int32 → h_S → Prop} (hE : h_end X (some .int) (h_QI (x_Z X) Q)) (s : h_S) (h : w_X12_quotes_16 Q s) : h_V X 3 16 [] [] s 0 0 := by
  unfold w_X12_quotes_16 at h
  refine v_iconst (v := -1) hX dX12_quotes_16 (by decide) ?_
  exact v_iret hX hE dX12_quotes_17 h
set_option maxRecDepth 100000 in
set_option maxHeartbeats 4000000 in
theorem m_X12_quotes {Z : h_Z} {o0 : Nat} {x1 : Int32} {x2 : Int32} {s : h_S} {Q : Int32 → h_S → Prop} (h : w_X12_quotes o0 x1 x2 s Q) : h_M Z yX12_quotes cX12_quotes 3 (some .int) 3 74 [pR (some o0), pI x1, pI x2] s 0 0 (h_QI Z Q) := by
  refine h_M.of (by decide) (Nat.le_of_ble_eq_true rfl) (fun X hZ hX hE hI => ?_)
  subst hZ
  unfold w_X12_quotes at h
  show h_V X 3 0 [(0, pR (some o0)), (1, pI x1), (2, pI x2)] [] s 0 0
  refine v_aload_n hX dX12_quotes_0 0 rfl rfl ?_
  refine v_iload_n hX dX12_quotes_1 1 rfl rfl ?_
  obtain ⟨k1, h⟩ := h
  refine v_callVi hX dX12_quotes_2 c_RX12_379 cV_X12_noWriting (ci := 13) (T := TX12) (N := 115) rfl (by exact k1) [pI _] rfl rfl (Nat.le_of_ble_eq_true rfl) (by decide) (by decide) (Nat.zero_le _) (Nat.zero_le _) (m_X12_noWriting h) (fun r3 s2 h => ?_)
  refine v_if_ne (tgt := 16) hX dX12_quotes_5 (by decide) (fun c4 => ?_) (fun c4 => ?_)
  · have h := h_E c4 h
    refine v_pick [] rfl ?_
    exact b_X12_quotes_16 hX hE _ h
  · have h := h_T c4 h
    refine v_aload_n hX dX12_quotes_8 0 rfl rfl ?_
    refine v_iload_n hX dX12_quotes_9 2 rfl rfl ?_
    obtain ⟨k5, h⟩ := h
    refine v_callVi hX dX12_quotes_10 c_RX12_379 cV_X12_noWriting (ci := 13) (T := TX12) (N := 115) rfl (by exact k5) [pI _] rfl rfl (Nat.le_of_ble_eq_true rfl) (by decide) (by decide) (Nat.zero_le _) (Nat.zero_le _) (m_X12_noWriting h) (fun r7 s6 h => ?_)
    refine v_if_eq (tgt := 18) hX dX12_quotes_13 (by decide) (fun c8 => ?_) (fun c8 => ?_)
    · have h := h_T c8 h
      refine v_aload_n hX dX12_quotes_18 0 rfl rfl ?_
      refine v_iload_n hX dX12_quotes_19 1 rfl rfl ?_
      refine v_iconst (v := 0) hX dX12_quotes_20 (by decide) ?_
      obtain ⟨k9, h⟩ := h
      refine v_callVv hX dX12_quotes_21 c_RX12_438 cV_X12_laySteps (ci := 13) (T := TX12) (N := 115) rfl (by exact k9) [pI _, pI _] rfl rfl (Nat.le_of_ble_eq_true rfl) (by decide) (by decide) (Nat.zero_le _) (Nat.zero_le _) (m_X12_laySteps h) (fun s10 h => ?_)
      refine v_aload_n hX dX12_quotes_24 0 rfl rfl ?_
      obtain ⟨k12, h⟩ := h
      refine v_getR hX dX12_quotes_25 f_RX12_139 rfl k12 ?_
      refine v_iload_n hX dX12_quotes_28 2 rfl rfl ?_
      obtain ⟨a13, e_a13, h⟩ := h
      refine v_nn1 e_a13 ?_
      obtain ⟨k14, h⟩ := h
      obtain ⟨i15, h⟩ := h
      refine v_iald hX dX12_quotes_29 k14 i15 ?_
      exact v_iret hX hE dX12_quotes_30 h
    · have h := h_E c8 h
      refine v_pick [] rfl ?_
      exact b_X12_quotes_16 hX hE _ h
set_option maxRecDepth 100000 in
set_option maxHeartbeats 4000000 in
theorem b_X12_keepHit_157 {X : h_X} (hX : h_ok X cX12_keepHit 6 RX12 0 0) {Q : h_S → Prop} (hE : h_end X none (h_QV (x_Z X) Q)) (s : h_S) (h : w_X12_keepHit_157 Q s) : h_V X 6 157 [] [] s 0 0 := by
  unfold w_X12_keepHit_157 at h
  exact v_vret hX hE dX12_keepHit_157 h
set_option maxRecDepth 100000 in
set_option maxHeartbeats 4000000 in
theorem b_X12_keepHit_72 {X : h_X} (hX : h_ok X cX12_keepHit 6 RX12 0 0) {Q : h_S → Prop} (hE : h_end X none (h_QV (x_Z X) Q)) : ∀ (n : Nat) (o0 : Nat) (x1 : Int32) (x2 : Int32) (x3 : Int32) (x4 : Int32) (x5 : Int32) (s : h_S), w_X12_keepHit_72 Q n o0 x1 x2 x3 x4 x5 s → h_V X 6 72 [(0, pR (some o0)), (1, pI x1), (2, pI x2), (3, pI x3), (4, pI x4), (5, pI x5)] [] s 0 0 := by
  intro n
  induction n with
  | zero => intro _ _ _ _ _ _ s h; exact h.elim
  | succ n hK72 =>
    intro o0 x1 x2 x3 x4 x5 s h
    have h : w_X12_keepHit_72b Q (w_X12_keepHit_72 Q n) o0 x1 x2 x3 x4 x5 s := h
    unfold w_X12_keepHit_72b at h
    refine v_iload hX dX12_keepHit_72 5 rfl ?_
    refine v_iload hX dX12_keepHit_74 4 rfl ?_
    refine v_icmp_le (tgt := 133) hX dX12_keepHit_76 (by decide) (fun c1 => ?_) (fun c1 => ?_)
    · have h := h_T c1 h
      refine v_aload_n hX dX12_keepHit_133 0 rfl rfl ?_
      obtain ⟨k2, h⟩ := h
      refine v_getR hX dX12_keepHit_134 f_RX12_246 rfl k2 ?_
      refine v_iload hX dX12_keepHit_137 4 rfl ?_
      refine v_iload_n hX dX12_keepHit_139 1 rfl rfl ?_
      obtain ⟨a3, e_a3, h⟩ := h
      refine v_nn2 e_a3 ?_
      obtain ⟨k4, h⟩ := h
      obtain ⟨i5, h⟩ := h
      refine v_iast hX dX12_keepHit_140 k4 i5 ?_
      refine v_aload_n hX dX12_keepHit_141 0 rfl rfl ?_
      refine v_getR hX dX12_keepHit_142 f_RX12_249 rfl k2 ?_
      refine v_iload hX dX12_keepHit_145 4 rfl ?_
      refine v_iload_n hX dX12_keepHit_147 2 rfl rfl ?_
      obtain ⟨a7, e_a7, h⟩ := h
      refine v_nn2 e_a7 ?_
      obtain ⟨k8, h⟩ := h
      obtain ⟨i9, h⟩ := h
      refine v_iast hX dX12_keepHit_148 k8 i9 ?_
      refine v_aload_n hX dX12_keepHit_149 0 rfl rfl ?_
      refine v_getR hX dX12_keepHit_150 f_RX12_252 rfl k2 ?_
      refine v_iload hX dX12_keepHit_153 4 rfl ?_
      refine v_iload_n hX dX12_keepHit_155 3 rfl rfl ?_
      obtain ⟨a11, e_a11, h⟩ := h
      refine v_nn2 e_a11 ?_
      obtain ⟨k12, h⟩ := h
      obtain ⟨i13, h⟩ := h
      refine v_iast hX dX12_keepHit_156 k12 i13 ?_
      refine v_pick [] rfl ?_
      exact b_X12_keepHit_157 hX hE _ h
    · have h := h_E c1 h
      refine v_aload_n hX dX12_keepHit_79 0 rfl rfl ?_
      obtain ⟨k15, h⟩ := h
      refine v_getR hX dX12_keepHit_80 f_RX12_246 rfl k15 ?_
      refine v_iload hX dX12_keepHit_83 5 rfl ?_
      refine v_aload_n hX dX12_keepHit_85 0 rfl rfl ?_
      refine v_getR hX dX12_keepHit_86 f_RX12_246 rfl k15 ?_
      refine v_iload hX dX12_keepHit_89 5 rfl ?_
      refine v_iconst (v := 1) hX dX12_keepHit_91 (by decide) ?_
      refine v_isub hX dX12_keepHit_92 ?_
      obtain ⟨a16, e_a16, h⟩ := h
      refine v_nn1 e_a16 ?_
      obtain ⟨k17, h⟩ := h
      obtain ⟨i18, h⟩ := h
      refine v_iald hX dX12_keepHit_93 k17 i18 ?_
      obtain ⟨a19, e_a19, h⟩ := h
      refine v_nn2 e_a19 ?_
      obtain ⟨k20, h⟩ := h
      obtain ⟨i21, h⟩ := h
      refine v_iast hX dX12_keepHit_94 k20 i21 ?_
      refine v_aload_n hX dX12_keepHit_95 0 rfl rfl ?_
      refine v_getR hX dX12_keepHit_96 f_RX12_249 rfl k15 ?_
      refine v_iload hX dX12_keepHit_99 5 rfl ?_
      refine v_aload_n hX dX12_keepHit_101 0 rfl rfl ?_
      refine v_getR hX dX12_keepHit_102 f_RX12_249 rfl k15 ?_
      refine v_iload hX dX12_keepHit_105 5 rfl ?_
      refine v_iconst (v := 1) hX dX12_keepHit_107 (by decide) ?_
      refine v_isub hX dX12_keepHit_108 ?_
      obtain ⟨a23, e_a23, h⟩ := h
      refine v_nn1 e_a23 ?_
      obtain ⟨k24, h⟩ := h
      obtain ⟨i25, h⟩ := h
      refine v_iald hX dX12_keepHit_109 k24 i25 ?_
      obtain ⟨a26, e_a26, h⟩ := h
      refine v_nn2 e_a26 ?_
      obtain ⟨k27, h⟩ := h
      obtain ⟨i28, h⟩ := h
      refine v_iast hX dX12_keepHit_110 k27 i28 ?_
      refine v_aload_n hX dX12_keepHit_111 0 rfl rfl ?_
      refine v_getR hX dX12_keepHit_112 f_RX12_252 rfl k15 ?_
      refine v_iload hX dX12_keepHit_115 5 rfl ?_
      refine v_aload_n hX dX12_keepHit_117 0 rfl rfl ?_
      refine v_getR hX dX12_keepHit_118 f_RX12_252 rfl k15 ?_
      refine v_iload hX dX12_keepHit_121 5 rfl ?_
      refine v_iconst (v := 1) hX dX12_keepHit_123 (by decide) ?_
      refine v_isub hX dX12_keepHit_124 ?_
      obtain ⟨a30, e_a30, h⟩ := h
      refine v_nn1 e_a30 ?_
      obtain ⟨k31, h⟩ := h
      obtain ⟨i32, h⟩ := h
      refine v_iald hX dX12_keepHit_125 k31 i32 ?_
      obtain ⟨a33, e_a33, h⟩ := h
      refine v_nn2 e_a33 ?_
      obtain ⟨k34, h⟩ := h
      obtain ⟨i35, h⟩ := h
      refine v_iast hX dX12_keepHit_126 k34 i35 ?_
      refine v_iinc (c := -1) (lv' := [(5, _), (0, _), (1, _), (2, _), (3, _), (4, _)]) hX dX12_keepHit_127 5 rfl (by decide) (by decide) rfl ?_
      refine v_goto (tgt := 72) hX dX12_keepHit_130 (by decide) ?_
      refine v_pick [1, 2, 3, 4, 5, 0] rfl ?_
      exact hK72 _ _ _ _ _ _ _ h
set_option maxRecDepth 100000 in
set_option maxHeartbeats 4000000 in
theorem b_X12_keepHit_61 {X : h_X} (hX : h_ok X cX12_keepHit 6 RX12 0 0) {Q : h_S → Prop} (hE : h_end X none (h_QV (x_Z X) Q)) {o0 : Nat} {x1 : Int32} {x2 : Int32} {x3 : Int32} {x4 : Int32} {y0 : Int32} {u1 : Nat} (s : h_S) (h : w_X12_keepHit_61 Q o0 x1 x2 x3 x4 y0 u1 s) : h_V X 6 61 [(0, pR (some o0)), (1, pI x1), (2, pI x2), (3, pI x3), (4, pI x4)] [pI y0, pR (some u1)] s 0 0 := by
  unfold w_X12_keepHit_61 at h
  obtain ⟨k1, h⟩ := h
  refine v_putI hX dX12_keepHit_61 f_RX12_597 k1 ?_
  refine v_aload_n hX dX12_keepHit_64 0 rfl rfl ?_
  obtain ⟨k3, h⟩ := h
  refine v_getI hX dX12_keepHit_65 f_RX12_597 rfl k3 ?_
  refine v_iconst (v := 1) hX dX12_keepHit_68 (by decide) ?_
  refine v_isub hX dX12_keepHit_69 ?_
  refine v_istore (lv' := [(5, _), (0, _), (1, _), (2, _), (3, _), (4, _)]) hX dX12_keepHit_70 (by decide) rfl ?_
  refine v_pick [1, 2, 3, 4, 5, 0] rfl ?_
  obtain ⟨n, h⟩ := h
  exact b_X12_keepHit_72 hX hE n _ _ _ _ _ _ _ h
set_option maxRecDepth 100000 in
set_option maxHeartbeats 4000000 in
theorem b_X12_keepHit_30 {X : h_X} (hX : h_ok X cX12_keepHit 6 RX12 0 0) {Q : h_S → Prop} (hE : h_end X none (h_QV (x_Z X) Q)) {o0 : Nat} {x1 : Int32} {x2 : Int32} {x3 : Int32} {x4 : Int32} (s : h_S) (h : w_X12_keepHit_30 Q o0 x1 x2 x3 x4 s) : h_V X 6 30 [(0, pR (some o0)), (1, pI x1), (2, pI x2), (3, pI x3), (4, pI x4)] [] s 0 0 := by
  unfold w_X12_keepHit_30 at h
  refine v_iload hX dX12_keepHit_30 4 rfl ?_
  refine v_sipush (v := 200) hX dX12_keepHit_32 (by decide) ?_
  refine v_icmp_ge (tgt := 157) hX dX12_keepHit_35 (by decide) (fun c1 => ?_) (fun c1 => ?_)
  · have h := h_T c1 h
    refine v_pick [] rfl ?_
    exact b_X12_keepHit_157 hX hE _ h
  · have h := h_E c1 h
    refine v_aload_n hX dX12_keepHit_38 0 rfl rfl ?_
    refine v_aload_n hX dX12_keepHit_39 0 rfl rfl ?_
    obtain ⟨k2, h⟩ := h
    refine v_getI hX dX12_keepHit_40 f_RX12_597 rfl k2 ?_
    refine v_sipush (v := 200) hX dX12_keepHit_43 (by decide) ?_
    refine v_icmp_ge (tgt := 58) hX dX12_keepHit_46 (by decide) (fun c3 => ?_) (fun c3 => ?_)
    · have h := h_T c3 h
      refine v_sipush (v := 200) hX dX12_keepHit_58 (by decide) ?_
      refine v_pick [0, 1, 2, 3, 4] rfl ?_
      exact b_X12_keepHit_61 hX hE _ h
    · have h := h_E c3 h
      refine v_aload_n hX dX12_keepHit_49 0 rfl rfl ?_
      refine v_getI hX dX12_keepHit_50 f_RX12_597 rfl k2 ?_
      refine v_iconst (v := 1) hX dX12_keepHit_53 (by decide) ?_
      refine v_iadd hX dX12_keepHit_54 ?_
      refine v_goto (tgt := 61) hX dX12_keepHit_55 (by decide) ?_
      refine v_pick [0, 1, 2, 3, 4] rfl ?_
      exact b_X12_keepHit_61 hX hE _ h
set_option maxRecDepth 100000 in
set_option maxHeartbeats 4000000 in
theorem b_X12_keepHit_6 {X : h_X} (hX : h_ok X cX12_keepHit 6 RX12 0 0) {Q : h_S → Prop} (hE : h_end X none (h_QV (x_Z X) Q)) : ∀ (n : Nat) (o0 : Nat) (x1 : Int32) (x2 : Int32) (x3 : Int32) (x4 : Int32) (s : h_S), w_X12_keepHit_6 Q n o0 x1 x2 x3 x4 s → h_V X 6 6 [(0, pR (some o0)), (1, pI x1), (2, pI x2), (3, pI x3), (4, pI x4)] [] s 0 0 := by
  intro n
  induction n with
  | zero => intro _ _ _ _ _ s h; exact h.elim
  | succ n hK6 =>
    intro o0 x1 x2 x3 x4 s h
    have h : w_X12_keepHit_6b Q (w_X12_keepHit_6 Q n) o0 x1 x2 x3 x4 s := h
    unfold w_X12_keepHit_6b at h
    refine v_iload hX dX12_keepHit_6 4 rfl ?_
    refine v_if_le (tgt := 30) hX dX12_keepHit_8 (by decide) (fun c1 => ?_) (fun c1 => ?_)
    · have h := h_T c1 h
      refine v_pick [0, 1, 2, 3, 4] rfl ?_
      exact b_X12_keepHit_30 hX hE _ h
    · have h := h_E c1 h
      refine v_aload_n hX dX12_keepHit_11 0 rfl rfl ?_
      obtain ⟨k2, h⟩ := h
      refine v_getR hX dX12_keepHit_12 f_RX12_252 rfl k2 ?_
      refine v_iload hX dX12_keepHit_15 4 rfl ?_
      refine v_iconst (v := 1) hX dX12_keepHit_17 (by decide) ?_
      refine v_isub hX dX12_keepHit_18 ?_
      obtain ⟨a3, e_a3, h⟩ := h
      refine v_nn1 e_a3 ?_
      obtain ⟨k4, h⟩ := h
      obtain ⟨i5, h⟩ := h
      refine v_iald hX dX12_keepHit_19 k4 i5 ?_
      refine v_iload_n hX dX12_keepHit_20 3 rfl rfl ?_
      refine v_icmp_ge (tgt := 30) hX dX12_keepHit_21 (by decide) (fun c6 => ?_) (fun c6 => ?_)
      · have h := h_T c6 h
        refine v_pick [0, 1, 2, 3, 4] rfl ?_
        exact b_X12_keepHit_30 hX hE _ h
      · have h := h_E c6 h
        refine v_iinc (c := -1) (lv' := [(4, _), (0, _), (1, _), (2, _), (3, _)]) hX dX12_keepHit_24 4 rfl (by decide) (by decide) rfl ?_
        refine v_goto (tgt := 6) hX dX12_keepHit_27 (by decide) ?_
        refine v_pick [1, 2, 3, 4, 0] rfl ?_
        exact hK6 _ _ _ _ _ _ h
set_option maxRecDepth 100000 in
set_option maxHeartbeats 4000000 in
theorem m_X12_keepHit {Z : h_Z} {o0 : Nat} {x1 : Int32} {x2 : Int32} {x3 : Int32} {s : h_S} {Q : h_S → Prop} (h : w_X12_keepHit o0 x1 x2 x3 s Q) : h_M Z yX12_keepHit cX12_keepHit 6 none 0 0 [pR (some o0), pI x1, pI x2, pI x3] s 0 0 (h_QV Z Q) := by
  refine h_M.of (by decide) (Nat.le_of_ble_eq_true rfl) (fun X hZ hX hE hI => ?_)
  subst hZ
  unfold w_X12_keepHit at h
  show h_V X 6 0 [(0, pR (some o0)), (1, pI x1), (2, pI x2), (3, pI x3)] [] s 0 0
  refine v_aload_n hX dX12_keepHit_0 0 rfl rfl ?_
  obtain ⟨k1, h⟩ := h
  refine v_getI hX dX12_keepHit_1 f_RX12_597 rfl k1 ?_
  refine v_istore (lv' := [(4, _), (0, _), (1, _), (2, _), (3, _)]) hX dX12_keepHit_4 (by decide) rfl ?_
  refine v_pick [1, 2, 3, 4, 0] rfl ?_
  obtain ⟨n, h⟩ := h
  exact b_X12_keepHit_6 hX hE n _ _ _ _ _ _ h
set_option maxRecDepth 100000 in
set_option maxHeartbeats 4000000 in
theorem b_X12_isHit_89 {X : h_X} (hX : h_ok X cX12_isHit 8 RX12 4 99) {Q : Int32 → h_S → Prop} (hE : h_end X (some .boolean) (h_QI (x_Z X) Q)) {K21 : Nat → Int32 → Int32 → Int32 → Int32 → Int32 → Int32 → h_S → Prop} (hK21 : ∀ (o0 : Nat) (x1 : Int32) (x2 : Int32) (x3 : Int32) (x4 : Int32) (x5 : Int32) (x6 : Int32) (s : h_S), K21 o0 x1 x2 x3 x4 x5 x6 s → h_V X 8 21 [(0, pR (some o0)), (1, pI x1), (2, pI x2), (3, pI x3), (4, pI x4), (5, pI x5), (6, pI x6)] [] s 0 0) {o0 : Nat} {x1 : Int32} {x2 : Int32} {x3 : Int32} {x4 : Int32} {x6 : Int32} {y0 : Int32} (s : h_S) (h : w_X12_isHit_89 Q K21 o0 x1 x2 x3 x4 x6 y0 s) : h_V X 8 89 [(0, pR (some o0)), (1, pI x1), (2, pI x2), (3, pI x3), (4, pI x4), (6, pI x6)] [pI y0] s 0 0 := by
  unfold w_X12_isHit_89 at h
  refine v_istore (lv' := [(5, _), (0, _), (1, _), (2, _), (3, _), (4, _), (6, _)]) hX dX12_isHit_89 (by decide) rfl ?_
  refine v_iinc (c := 1) (lv' := [(6, _), (5, _), (0, _), (1, _), (2, _), (3, _), (4, _)]) hX dX12_isHit_91 6 rfl (by decide) (by decide) rfl ?_
  refine v_goto (tgt := 21) hX dX12_isHit_94 (by decide) ?_
  refine v_pick [2, 3, 4, 5, 6, 1, 0] rfl ?_
  exact hK21 _ _ _ _ _ _ _ _ h
set_option maxRecDepth 100000 in
set_option maxHeartbeats 4000000 in
theorem b_X12_isHit_88 {X : h_X} (hX : h_ok X cX12_isHit 8 RX12 4 99) {Q : Int32 → h_S → Prop} (hE : h_end X (some .boolean) (h_QI (x_Z X) Q)) {K21 : Nat → Int32 → Int32 → Int32 → Int32 → Int32 → Int32 → h_S → Prop} (hK21 : ∀ (o0 : Nat) (x1 : Int32) (x2 : Int32) (x3 : Int32) (x4 : Int32) (x5 : Int32) (x6 : Int32) (s : h_S), K21 o0 x1 x2 x3 x4 x5 x6 s → h_V X 8 21 [(0, pR (some o0)), (1, pI x1), (2, pI x2), (3, pI x3), (4, pI x4), (5, pI x5), (6, pI x6)] [] s 0 0) {o0 : Nat} {x1 : Int32} {x2 : Int32} {x3 : Int32} {x4 : Int32} {x6 : Int32} (s : h_S) (h : w_X12_isHit_88 Q K21 o0 x1 x2 x3 x4 x6 s) : h_V X 8 88 [(0, pR (some o0)), (1, pI x1), (2, pI x2), (3, pI x3), (4, pI x4), (6, pI x6)] [] s 0 0 := by
  unfold w_X12_isHit_88 at h
  refine v_iconst (v := 0) hX dX12_isHit_88 (by decide) ?_
  refine v_pick [0, 1, 2, 3, 4, 5] rfl ?_
  exact b_X12_isHit_89 hX hE hK21 _ h
set_option maxRecDepth 100000 in
set_option maxHeartbeats 4000000 in
theorem b_X12_isHit_97 {X : h_X} (hX : h_ok X cX12_isHit 8 RX12 4 99) {Q : Int32 → h_S → Prop} (hE : h_end X (some .boolean) (h_QI (x_Z X) Q)) {x5 : Int32} (s : h_S) (h : w_X12_isHit_97 Q x5 s) : h_V X 8 97 [(5, pI x5)] [] s 0 0 := by
  unfold w_X12_isHit_97 at h
  refine v_iload hX dX12_isHit_97 0 rfl ?_
  exact v_zret hX hE dX12_isHit_99 h.1 h.2
set_option maxRecDepth 100000 in
set_option maxHeartbeats 4000000 in
theorem b_X12_isHit_21 {X : h_X} (hX : h_ok X cX12_isHit 8 RX12 4 99) {Q : Int32 → h_S → Prop} (hE : h_end X (some .boolean) (h_QI (x_Z X) Q)) : ∀ (n : Nat) (o0 : Nat) (x1 : Int32) (x2 : Int32) (x3 : Int32) (x4 : Int32) (x5 : Int32) (x6 : Int32) (s : h_S), w_X12_isHit_21 Q n o0 x1 x2 x3 x4 x5 x6 s → h_V X 8 21 [(0, pR (some o0)), (1, pI x1), (2, pI x2), (3, pI x3), (4, pI x4), (5, pI x5), (6, pI x6)] [] s 0 0 := by
  intro n
  induction n with
  | zero => intro _ _ _ _ _ _ _ s h; exact h.elim
  | succ n hK21 =>
    intro o0 x1 x2 x3 x4 x5 x6 s h
    have h : w_X12_isHit_21b Q (w_X12_isHit_21 Q n) o0 x1 x2 x3 x4 x5 x6 s := h
    unfold w_X12_isHit_21b at h
    refine v_iload hX dX12_isHit_21 6 rfl ?_
    refine v_iload hX dX12_isHit_23 4 rfl ?_
    refine v_icmp_ge (tgt := 97) hX dX12_isHit_25 (by decide) (fun c1 => ?_) (fun c1 => ?_)
    · have h := h_T c1 h
      refine v_pick [5] rfl ?_
      exact b_X12_isHit_97 hX hE _ h
    · have h := h_E c1 h
      refine v_iload hX dX12_isHit_28 5 rfl ?_
      refine v_if_eq (tgt := 97) hX dX12_isHit_30 (by decide) (fun c2 => ?_) (fun c2 => ?_)
      · have h := h_T c2 h
        refine v_pick [5] rfl ?_
        exact b_X12_isHit_97 hX hE _ h
      · have h := h_E c2 h
        refine v_aload_n hX dX12_isHit_33 0 rfl rfl ?_
        obtain ⟨k3, h⟩ := h
        refine v_getR hX dX12_isHit_34 f_RX12_91 rfl k3 ?_
        refine v_iload_n hX dX12_isHit_37 2 rfl rfl ?_
        refine v_iload hX dX12_isHit_38 6 rfl ?_
        refine v_iadd hX dX12_isHit_40 ?_
        obtain ⟨a4, e_a4, h⟩ := h
        refine v_nn1 e_a4 ?_
        obtain ⟨k5, h⟩ := h
        obtain ⟨i6, h⟩ := h
        refine v_iald hX dX12_isHit_41 k5 i6 ?_
        refine v_istore (lv' := [(7, _), (0, _), (1, _), (2, _), (3, _), (4, _), (5, _), (6, _)]) hX dX12_isHit_42 (by decide) rfl ?_
        refine v_iload hX dX12_isHit_44 0 rfl ?_
        refine v_bipush (v := -7) hX dX12_isHit_46 (by decide) ?_
        refine v_icmp_eq (tgt := 88) hX dX12_isHit_48 (by decide) (fun c7 => ?_) (fun c7 => ?_)
        · have h := h_T c7 h
          refine v_pick [1, 2, 3, 4, 5, 7] rfl ?_
          exact b_X12_isHit_88 hX hE hK21 _ h
        · have h := h_E c7 h
          refine v_aload_n hX dX12_isHit_51 1 rfl rfl ?_
          refine v_getR hX dX12_isHit_52 f_RX12_55 rfl k3 ?_
          refine v_iload hX dX12_isHit_55 0 rfl ?_
          obtain ⟨a8, e_a8, h⟩ := h
          refine v_nn1 e_a8 ?_
          obtain ⟨k9, h⟩ := h
          obtain ⟨i10, h⟩ := h
          refine v_iald hX dX12_isHit_57 k9 i10 ?_
          refine v_aload_n hX dX12_isHit_58 1 rfl rfl ?_
          refine v_getR hX dX12_isHit_59 f_RX12_264 rfl k3 ?_
          refine v_iload_n hX dX12_isHit_62 4 rfl rfl ?_
          refine v_iload hX dX12_isHit_63 7 rfl ?_
          refine v_iadd hX dX12_isHit_65 ?_
          obtain ⟨a11, e_a11, h⟩ := h
          refine v_nn1 e_a11 ?_
          obtain ⟨k12, h⟩ := h
          obtain ⟨i13, h⟩ := h
          refine v_iald hX dX12_isHit_66 k12 i13 ?_
          refine v_icmp_ne (tgt := 88) hX dX12_isHit_67 (by decide) (fun c14 => ?_) (fun c14 => ?_)
          · have h := h_E c14 h
            refine v_pick [1, 2, 3, 4, 5, 7] rfl ?_
            exact b_X12_isHit_88 hX hE hK21 _ h
          · have h := h_T c14 h
            refine v_aload_n hX dX12_isHit_70 1 rfl rfl ?_
            refine v_iload_n hX dX12_isHit_71 2 rfl rfl ?_
            refine v_iload hX dX12_isHit_72 0 rfl ?_
            refine v_aload_n hX dX12_isHit_74 1 rfl rfl ?_
            refine v_getI hX dX12_isHit_75 f_RX12_288 rfl k3 ?_
            refine v_callVi hX dX12_isHit_78 c_RX12_586 cV_X12_isRead (ci := 13) (T := TX12) (N := 115) rfl (by exact k3) [pI _, pI _, pI _] rfl rfl (Nat.le_of_ble_eq_true rfl) (by decide) (by decide) (Nat.zero_le _) (Nat.zero_le _) (m_X12_isRead h) (fun r16 s15 h => ?_)
            refine v_if_eq (tgt := 88) hX dX12_isHit_81 (by decide) (fun c17 => ?_) (fun c17 => ?_)
            · have h := h_T c17 h
              refine v_pick [1, 2, 3, 4, 5, 7] rfl ?_
              exact b_X12_isHit_88 hX hE hK21 _ h
            · have h := h_E c17 h
              refine v_iconst (v := 1) hX dX12_isHit_84 (by decide) ?_
              refine v_goto (tgt := 89) hX dX12_isHit_85 (by decide) ?_
              refine v_pick [1, 2, 3, 4, 5, 7] rfl ?_
              exact b_X12_isHit_89 hX hE hK21 _ h
set_option maxRecDepth 100000 in
set_option maxHeartbeats 4000000 in
theorem b_X12_isHit_16 {X : h_X} (hX : h_ok X cX12_isHit 8 RX12 4 99) {Q : Int32 → h_S → Prop} (hE : h_end X (some .boolean) (h_QI (x_Z X) Q)) {o0 : Nat} {x1 : Int32} {x2 : Int32} {x3 : Int32} {x4 : Int32} {y0 : Int32} (s : h_S) (h : w_X12_isHit_16 Q o0 x1 x2 x3 x4 y0 s) : h_V X 8 16 [(0, pR (some o0)), (1, pI x1), (2, pI x2), (3, pI x3), (4, pI x4)] [pI y0] s 0 0 := by
  unfold w_X12_isHit_16 at h
  refine v_istore (lv' := [(5, _), (0, _), (1, _), (2, _), (3, _), (4, _)]) hX dX12_isHit_16 (by decide) rfl ?_
  refine v_iconst (v := 0) hX dX12_isHit_18 (by decide) ?_
  refine v_istore (lv' := [(6, _), (5, _), (0, _), (1, _), (2, _), (3, _), (4, _)]) hX dX12_isHit_19 (by decide) rfl ?_
  refine v_pick [2, 3, 4, 5, 6, 1, 0] rfl ?_
  obtain ⟨n, h⟩ := h
  exact b_X12_isHit_21 hX hE n _ _ _ _ _ _ _ _ h
set_option maxRecDepth 100000 in
set_option maxHeartbeats 4000000 in
theorem m_X12_isHit {Z : h_Z} {o0 : Nat} {x1 : Int32} {x2 : Int32} {x3 : Int32} {x4 : Int32} {s : h_S} {Q : Int32 → h_S → Prop} (h : w_X12_isHit o0 x1 x2 x3 x4 s Q) : h_M Z yX12_isHit cX12_isHit 8 (some .boolean) 4 99 [pR (some o0), pI x1, pI x2, pI x3, pI x4] s 0 0 (h_QI Z Q) := by
  refine h_M.of (by decide) (Nat.le_of_ble_eq_true rfl) (fun X hZ hX hE hI => ?_)
  subst hZ
  unfold w_X12_isHit at h
  show h_V X 8 0 [(0, pR (some o0)), (1, pI x1), (2, pI x2), (3, pI x3), (4, pI x4)] [] s 0 0
  refine v_iload_n hX dX12_isHit_0 2 rfl rfl ?_
  refine v_iload hX dX12_isHit_1 4 rfl ?_
  refine v_iadd hX dX12_isHit_3 ?_
  refine v_aload_n hX dX12_isHit_4 0 rfl rfl ?_
  obtain ⟨k1, h⟩ := h
  refine v_getI hX dX12_isHit_5 f_RX12_342 rfl k1 ?_
  refine v_icmp_gt (tgt := 15) hX dX12_isHit_8 (by decide) (fun c2 => ?_) (fun c2 => ?_)
  · have h := h_T c2 h
    refine v_iconst (v := 0) hX dX12_isHit_15 (by decide) ?_
    refine v_pick [0, 1, 2, 3, 4] rfl ?_
    exact b_X12_isHit_16 hX hE _ h
  · have h := h_E c2 h
    refine v_iconst (v := 1) hX dX12_isHit_11 (by decide) ?_
    refine v_goto (tgt := 16) hX dX12_isHit_12 (by decide) ?_
    refine v_pick [0, 1, 2, 3, 4] rfl ?_
    exact b_X12_isHit_16 hX hE _ h
set_option maxRecDepth 100000 in
set_option maxHeartbeats 4000000 in
theorem b_X12_seek_15 {X : h_X} (hX : h_ok X cX12_seek 10 RX12 5 126) {Q : Int32 → h_S → Prop} (hE : h_end X (some .int) (h_QI (x_Z X) Q)) {o0 : Nat} (s : h_S) (h : w_X12_seek_15 Q o0 s) : h_V X 10 15 [(0, pR (some o0))] [] s 0 0 := by
  unfold w_X12_seek_15 at h
  refine v_aload_n hX dX12_seek_15 0 rfl rfl ?_
  refine v_iconst (v := -1) hX dX12_seek_16 (by decide) ?_
  obtain ⟨k1, h⟩ := h
  refine v_callVi hX dX12_seek_17 c_RX12_389 cV_X12_refused (ci := 13) (T := TX12) (N := 115) rfl (by exact k1) [pI _] rfl rfl (Nat.le_of_ble_eq_true rfl) (by decide) (by decide) (Nat.zero_le _) (Nat.zero_le _) (m_X12_refused h) (fun r3 s2 h => ?_)
  exact v_iret hX hE dX12_seek_20 h
set_option maxRecDepth 100000 in
set_option maxHeartbeats 4000000 in
theorem b_X12_seek_146 {X : h_X} (hX : h_ok X cX12_seek 10 RX12 5 126) {Q : Int32 → h_S → Prop} (hE : h_end X (some .int) (h_QI (x_Z X) Q)) {K64 : Nat → Int32 → Int32 → Int32 → Int32 → Int32 → Int32 → h_S → Prop} (hK64 : ∀ (o0 : Nat) (x1 : Int32) (x2 : Int32) (x4 : Int32) (x5 : Int32) (x7 : Int32) (x8 : Int32) (s : h_S), K64 o0 x1 x2 x4 x5 x7 x8 s → h_V X 10 64 [(0, pR (some o0)), (1, pI x1), (2, pI x2), (4, pI x4), (5, pI x5), (7, pI x7), (8, pI x8)] [] s 0 0) {K96 : Nat → Int32 → Int32 → Int32 → Int32 → Int32 → Int32 → Int32 → h_S → Prop} (hK96 : ∀ (o0 : Nat) (x1 : Int32) (x2 : Int32) (x4 : Int32) (x5 : Int32) (x7 : Int32) (x8 : Int32) (x9 : Int32) (s : h_S), K96 o0 x1 x2 x4 x5 x7 x8 x9 s → h_V X 10 96 [(0, pR (some o0)), (1, pI x1), (2, pI x2), (4, pI x4), (5, pI x5), (7, pI x7), (8, pI x8), (9, pI x9)] [] s 0 0) {o0 : Nat} {x1 : Int32} {x2 : Int32} {x4 : Int32} {x5 : Int32} {x7 : Int32} {x8 : Int32} {x9 : Int32} (s : h_S) (h : w_X12_seek_146 Q K64 K96 o0 x1 x2 x4 x5 x7 x8 x9 s) : h_V X 10 146 [(0, pR (some o0)), (1, pI x1), (2, pI x2), (4, pI x4), (5, pI x5), (7, pI x7), (8, pI x8), (9, pI x9)] [] s 0 0 := by
  unfold w_X12_seek_146 at h
  refine v_iinc (c := 1) (lv' := [(9, _), (0, _), (1, _), (2, _), (4, _), (5, _), (7, _), (8, _)]) hX dX12_seek_146 7 rfl (by decide) (by decide) rfl ?_
  refine v_goto (tgt := 96) hX dX12_seek_149 (by decide) ?_
  refine v_pick [1, 2, 3, 4, 5, 6, 7, 0] rfl ?_
  exact hK96 _ _ _ _ _ _ _ _ _ h
set_option maxRecDepth 100000 in
set_option maxHeartbeats 4000000 in
theorem b_X12_seek_152 {X : h_X} (hX : h_ok X cX12_seek 10 RX12 5 126) {Q : Int32 → h_S → Prop} (hE : h_end X (some .int) (h_QI (x_Z X) Q)) {K64 : Nat → Int32 → Int32 → Int32 → Int32 → Int32 → Int32 → h_S → Prop} (hK64 : ∀ (o0 : Nat) (x1 : Int32) (x2 : Int32) (x4 : Int32) (x5 : Int32) (x7 : Int32) (x8 : Int32) (s : h_S), K64 o0 x1 x2 x4 x5 x7 x8 s → h_V X 10 64 [(0, pR (some o0)), (1, pI x1), (2, pI x2), (4, pI x4), (5, pI x5), (7, pI x7), (8, pI x8)] [] s 0 0) {o0 : Nat} {x1 : Int32} {x2 : Int32} {x4 : Int32} {x5 : Int32} {x7 : Int32} {x8 : Int32} (s : h_S) (h : w_X12_seek_152 Q K64 o0 x1 x2 x4 x5 x7 x8 s) : h_V X 10 152 [(0, pR (some o0)), (1, pI x1), (2, pI x2), (4, pI x4), (5, pI x5), (7, pI x7), (8, pI x8)] [] s 0 0 := by
  unfold w_X12_seek_152 at h
  refine v_iinc (c := 1) (lv' := [(8, _), (0, _), (1, _), (2, _), (4, _), (5, _), (7, _)]) hX dX12_seek_152 6 rfl (by decide) (by decide) rfl ?_
  refine v_goto (tgt := 64) hX dX12_seek_155 (by decide) ?_
  refine v_pick [1, 2, 3, 4, 5, 6, 0] rfl ?_
  exact hK64 _ _ _ _ _ _ _ _ h
set_option maxRecDepth 100000 in
set_option maxHeartbeats 4000000 in
theorem b_X12_seek_96 {X : h_X} (hX : h_ok X cX12_seek 10 RX12 5 126) {Q : Int32 → h_S → Prop} (hE : h_end X (some .int) (h_QI (x_Z X) Q)) {K64 : Nat → Int32 → Int32 → Int32 → Int32 → Int32 → Int32 → h_S → Prop} (hK64 : ∀ (o0 : Nat) (x1 : Int32) (x2 : Int32) (x4 : Int32) (x5 : Int32) (x7 : Int32) (x8 : Int32) (s : h_S), K64 o0 x1 x2 x4 x5 x7 x8 s → h_V X 10 64 [(0, pR (some o0)), (1, pI x1), (2, pI x2), (4, pI x4), (5, pI x5), (7, pI x7), (8, pI x8)] [] s 0 0) : ∀ (n : Nat) (o0 : Nat) (x1 : Int32) (x2 : Int32) (x4 : Int32) (x5 : Int32) (x7 : Int32) (x8 : Int32) (x9 : Int32) (s : h_S), w_X12_seek_96 Q K64 n o0 x1 x2 x4 x5 x7 x8 x9 s → h_V X 10 96 [(0, pR (some o0)), (1, pI x1), (2, pI x2), (4, pI x4), (5, pI x5), (7, pI x7), (8, pI x8), (9, pI x9)] [] s 0 0 := by
  intro n
  induction n with
  | zero => intro _ _ _ _ _ _ _ _ s h; exact h.elim
  | succ n hK96 =>
    intro o0 x1 x2 x4 x5 x7 x8 x9 s h
    have h : w_X12_seek_96b Q K64 (w_X12_seek_96 Q K64 n) o0 x1 x2 x4 x5 x7 x8 x9 s := h
    unfold w_X12_seek_96b at h
    refine v_iload hX dX12_seek_96 7 rfl ?_
    refine v_aload_n hX dX12_seek_98 0 rfl rfl ?_
    obtain ⟨k1, h⟩ := h
    refine v_getI hX dX12_seek_99 f_RX12_342 rfl k1 ?_
    refine v_icmp_ge (tgt := 152) hX dX12_seek_102 (by decide) (fun c2 => ?_) (fun c2 => ?_)
    · have h := h_T c2 h
      refine v_pick [0, 1, 2, 3, 4, 5, 6] rfl ?_
      exact b_X12_seek_152 hX hE hK64 _ h
    · have h := h_E c2 h
      refine v_aload_n hX dX12_seek_105 0 rfl rfl ?_
      refine v_iload_n hX dX12_seek_106 1 rfl rfl ?_
      refine v_iload hX dX12_seek_107 7 rfl ?_
      refine v_bipush (v := 60) hX dX12_seek_109 (by decide) ?_
      refine v_iload_n hX dX12_seek_111 2 rfl rfl ?_
      refine v_imul hX dX12_seek_112 ?_
      refine v_iload hX dX12_seek_113 3 rfl ?_
      refine v_iadd hX dX12_seek_115 ?_
      refine v_iload hX dX12_seek_116 4 rfl ?_
      refine v_callVi hX dX12_seek_118 c_RX12_600 cV_X12_isHit (ci := 13) (T := TX12) (N := 115) rfl (by exact k1) [pI _, pI _, pI _, pI _] rfl rfl (Nat.le_of_ble_eq_true rfl) (by decide) (by decide) (Nat.zero_le _) (Nat.zero_le _) (m_X12_isHit h) (fun r4 s3 h => ?_)
      refine v_if_eq (tgt := 146) hX dX12_seek_121 (by decide) (fun c5 => ?_) (fun c5 => ?_)
      · have h := h_T c5 h
        refine v_pick [0, 1, 2, 3, 4, 5, 6, 7] rfl ?_
        exact b_X12_seek_146 hX hE hK64 hK96 _ h
      · have h := h_E c5 h
        refine v_aload_n hX dX12_seek_124 0 rfl rfl ?_
        refine v_iload hX dX12_seek_125 6 rfl ?_
        refine v_iload hX dX12_seek_127 7 rfl ?_
        refine v_aload_n hX dX12_seek_129 0 rfl rfl ?_
        refine v_aload_n hX dX12_seek_130 0 rfl rfl ?_
        obtain ⟨k6, h⟩ := h
        refine v_getR hX dX12_seek_131 f_RX12_91 rfl k6 ?_
        refine v_iload hX dX12_seek_134 7 rfl ?_
        obtain ⟨a7, e_a7, h⟩ := h
        refine v_nn1 e_a7 ?_
        obtain ⟨k8, h⟩ := h
        obtain ⟨i9, h⟩ := h
        refine v_iald hX dX12_seek_136 k8 i9 ?_
        refine v_callVi hX dX12_seek_137 c_RX12_603 cV_X12_linksOf (ci := 13) (T := TX12) (N := 115) rfl (by exact k6) [pI _] rfl rfl (Nat.le_of_ble_eq_true rfl) (by decide) (by decide) (Nat.zero_le _) (Nat.zero_le _) (m_X12_linksOf h) (fun r11 s10 h => ?_)
        obtain ⟨k12, h⟩ := h
        refine v_callVv hX dX12_seek_140 c_RX12_606 cV_X12_keepHit (ci := 13) (T := TX12) (N := 115) rfl (by exact k12) [pI _, pI _, pI _] rfl rfl (Nat.le_of_ble_eq_true rfl) (by decide) (by decide) (Nat.zero_le _) (Nat.zero_le _) (m_X12_keepHit h) (fun s13 h => ?_)
        refine v_iinc (c := 1) (lv' := [(7, _), (0, _), (1, _), (2, _), (4, _), (5, _), (8, _), (9, _)]) hX dX12_seek_143 5 rfl (by decide) (by decide) rfl ?_
        refine v_pick [1, 2, 3, 4, 5, 0, 6, 7] rfl ?_
        exact b_X12_seek_146 hX hE hK64 hK96 _ h
set_option maxRecDepth 100000 in
set_option maxHeartbeats 4000000 in
theorem b_X12_seek_64 {X : h_X} (hX : h_ok X cX12_seek 10 RX12 5 126) {Q : Int32 → h_S → Prop} (hE : h_end X (some .int) (h_QI (x_Z X) Q)) : ∀ (n : Nat) (o0 : Nat) (x1 : Int32) (x2 : Int32) (x4 : Int32) (x5 : Int32) (x7 : Int32) (x8 : Int32) (s : h_S), w_X12_seek_64 Q n o0 x1 x2 x4 x5 x7 x8 s → h_V X 10 64 [(0, pR (some o0)), (1, pI x1), (2, pI x2), (4, pI x4), (5, pI x5), (7, pI x7), (8, pI x8)] [] s 0 0 := by
  intro n
  induction n with
  | zero => intro _ _ _ _ _ _ _ s h; exact h.elim
  | succ n hK64 =>
    intro o0 x1 x2 x4 x5 x7 x8 s h
    have h : w_X12_seek_64b Q (w_X12_seek_64 Q n) o0 x1 x2 x4 x5 x7 x8 s := h
    unfold w_X12_seek_64b at h
    refine v_iload hX dX12_seek_64 6 rfl ?_
    refine v_aload_n hX dX12_seek_66 0 rfl rfl ?_
    obtain ⟨k1, h⟩ := h
    refine v_getI hX dX12_seek_67 f_RX12_455 rfl k1 ?_
    refine v_icmp_ge (tgt := 158) hX dX12_seek_70 (by decide) (fun c2 => ?_) (fun c2 => ?_)
    · have h := h_T c2 h
      refine v_aload_n hX dX12_seek_158 0 rfl rfl ?_
      refine v_iload hX dX12_seek_159 5 rfl ?_
      refine v_callVi hX dX12_seek_161 c_RX12_389 cV_X12_refused (ci := 13) (T := TX12) (N := 115) rfl (by exact k1) [pI _] rfl rfl (Nat.le_of_ble_eq_true rfl) (by decide) (by decide) (Nat.zero_le _) (Nat.zero_le _) (m_X12_refused h) (fun r4 s3 h => ?_)
      exact v_iret hX hE dX12_seek_164 h
    · have h := h_E c2 h
      refine v_aload_n hX dX12_seek_73 0 rfl rfl ?_
      refine v_iload_n hX dX12_seek_74 1 rfl rfl ?_
      refine v_iload hX dX12_seek_75 6 rfl ?_
      refine v_aload_n hX dX12_seek_77 0 rfl rfl ?_
      refine v_getI hX dX12_seek_78 f_RX12_288 rfl k1 ?_
      refine v_callVi hX dX12_seek_81 c_RX12_582 cV_X12_isOpen (ci := 13) (T := TX12) (N := 115) rfl (by exact k1) [pI _, pI _, pI _] rfl rfl (Nat.le_of_ble_eq_true rfl) (by decide) (by decide) (Nat.zero_le _) (Nat.zero_le _) (m_X12_isOpen h) (fun r6 s5 h => ?_)
      refine v_if_eq (tgt := 152) hX dX12_seek_84 (by decide) (fun c7 => ?_) (fun c7 => ?_)
      · have h := h_T c7 h
        refine v_pick [0, 1, 2, 3, 4, 5, 6] rfl ?_
        exact b_X12_seek_152 hX hE hK64 _ h
      · have h := h_E c7 h
        refine v_aload_n hX dX12_seek_87 0 rfl rfl ?_
        refine v_iload hX dX12_seek_88 6 rfl ?_
        obtain ⟨k8, h⟩ := h
        refine v_callVv hX dX12_seek_90 c_RX12_461 cV_X12_layVersion (ci := 13) (T := TX12) (N := 115) rfl (by exact k8) [pI _] rfl rfl (Nat.le_of_ble_eq_true rfl) (by decide) (by decide) (Nat.zero_le _) (Nat.zero_le _) (m_X12_layVersion h) (fun s9 h => ?_)
        refine v_iconst (v := 0) hX dX12_seek_93 (by decide) ?_
        refine v_istore (lv' := [(9, _), (0, _), (1, _), (2, _), (4, _), (5, _), (7, _), (8, _)]) hX dX12_seek_94 (by decide) rfl ?_
        refine v_pick [1, 2, 3, 4, 5, 6, 7, 0] rfl ?_
        obtain ⟨n, h⟩ := h
        exact b_X12_seek_96 hX hE hK64 n _ _ _ _ _ _ _ _ _ h
set_option maxRecDepth 100000 in
set_option maxHeartbeats 4000000 in
theorem m_X12_seek {Z : h_Z} {o0 : Nat} {x1 : Int32} {x2 : Int32} {x3 : Int32} {x4 : Int32} {x5 : Int32} {s : h_S} {Q : Int32 → h_S → Prop} (h : w_X12_seek o0 x1 x2 x3 x4 x5 s Q) : h_M Z yX12_seek cX12_seek 10 (some .int) 5 126 [pR (some o0), pI x1, pI x2, pI x3, pI x4, pI x5] s 0 0 (h_QI Z Q) := by
  refine h_M.of (by decide) (Nat.le_of_ble_eq_true rfl) (fun X hZ hX hE hI => ?_)
  subst hZ
  unfold w_X12_seek at h
  show h_V X 10 0 [(0, pR (some o0)), (1, pI x1), (2, pI x2), (3, pI x3), (4, pI x4), (5, pI x5)] [] s 0 0
  refine v_aload_n hX dX12_seek_0 0 rfl rfl ?_
  refine v_iload_n hX dX12_seek_1 1 rfl rfl ?_
  obtain ⟨k1, h⟩ := h
  refine v_callVi hX dX12_seek_2 c_RX12_317 cV_X12_noHand (ci := 13) (T := TX12) (N := 115) rfl (by exact k1) [pI _] rfl rfl (Nat.le_of_ble_eq_true rfl) (by decide) (by decide) (Nat.zero_le _) (Nat.zero_le _) (m_X12_noHand h) (fun r3 s2 h => ?_)
  refine v_if_ne (tgt := 15) hX dX12_seek_5 (by decide) (fun c4 => ?_) (fun c4 => ?_)
  · have h := h_E c4 h
    refine v_pick [0] rfl ?_
    exact b_X12_seek_15 hX hE _ h
  · have h := h_T c4 h
    refine v_iload_n hX dX12_seek_8 2 rfl rfl ?_
    refine v_callSi hX dX12_seek_9 c_RX12_382 cS_X12_noSheet [pI _] rfl rfl (Nat.le_of_ble_eq_true rfl) (by decide) (by decide) (Nat.zero_le _) (Nat.zero_le _) (m_X12_noSheet h) (fun r6 s5 h => ?_)
    refine v_if_eq (tgt := 21) hX dX12_seek_12 (by decide) (fun c7 => ?_) (fun c7 => ?_)
    · have h := h_T c7 h
      refine v_aload_n hX dX12_seek_21 0 rfl rfl ?_
      refine v_iload_n hX dX12_seek_22 2 rfl rfl ?_
      refine v_iload_n hX dX12_seek_23 3 rfl rfl ?_
      refine v_iload hX dX12_seek_24 4 rfl ?_
      refine v_iload hX dX12_seek_26 5 rfl ?_
      obtain ⟨k8, h⟩ := h
      refine v_callVi hX dX12_seek_28 c_RX12_392 cV_X12_barred (ci := 13) (T := TX12) (N := 115) rfl (by exact k8) [pI _, pI _, pI _, pI _] rfl rfl (Nat.le_of_ble_eq_true rfl) (by decide) (by decide) (Nat.zero_le _) (Nat.zero_le _) (m_X12_barred h) (fun r10 s9 h => ?_)
      refine v_istore (lv' := [(6, _), (0, _), (1, _), (2, _), (3, _), (4, _), (5, _)]) hX dX12_seek_31 (by decide) rfl ?_
      refine v_iload hX dX12_seek_33 0 rfl ?_
      refine v_if_ge (tgt := 41) hX dX12_seek_35 (by decide) (fun c11 => ?_) (fun c11 => ?_)
      · have h := h_T c11 h
        refine v_iload hX dX12_seek_41 6 rfl ?_
        refine v_if_ne (tgt := 53) hX dX12_seek_43 (by decide) (fun c12 => ?_) (fun c12 => ?_)
        · have h := h_E c12 h
          refine v_aload_n hX dX12_seek_53 1 rfl rfl ?_
          refine v_iconst (v := 0) hX dX12_seek_54 (by decide) ?_
          obtain ⟨k13, h⟩ := h
          refine v_putI hX dX12_seek_55 f_RX12_597 k13 ?_
          refine v_iconst (v := 0) hX dX12_seek_58 (by decide) ?_
          refine v_istore (lv' := [(7, _), (6, _), (0, _), (1, _), (2, _), (3, _), (4, _), (5, _)]) hX dX12_seek_59 (by decide) rfl ?_
          refine v_iconst (v := 0) hX dX12_seek_61 (by decide) ?_
          refine v_istore (lv' := [(8, _), (7, _), (6, _), (0, _), (1, _), (2, _), (3, _), (4, _), (5, _)]) hX dX12_seek_62 (by decide) rfl ?_
          refine v_pick [3, 4, 5, 7, 8, 1, 0] rfl ?_
          obtain ⟨n, h⟩ := h
          exact b_X12_seek_64 hX hE n _ _ _ _ _ _ _ _ h
        · have h := h_T c12 h
          refine v_aload_n hX dX12_seek_46 1 rfl rfl ?_
          refine v_bipush (v := -2) hX dX12_seek_47 (by decide) ?_
          obtain ⟨k15, h⟩ := h
          refine v_callVi hX dX12_seek_49 c_RX12_389 cV_X12_refused (ci := 13) (T := TX12) (N := 115) rfl (by exact k15) [pI _] rfl rfl (Nat.le_of_ble_eq_true rfl) (by decide) (by decide) (Nat.zero_le _) (Nat.zero_le _) (m_X12_refused h) (fun r17 s16 h => ?_)
          exact v_iret hX hE dX12_seek_52 h
      · have h := h_E c11 h
        refine v_iload hX dX12_seek_38 0 rfl ?_
        exact v_iret hX hE dX12_seek_40 h
    · have h := h_E c7 h
      refine v_pick [0] rfl ?_
      exact b_X12_seek_15 hX hE _ h
set_option maxRecDepth 100000 in
set_option maxHeartbeats 4000000 in
theorem m_X12_hit {Z : h_Z} {o0 : Nat} {x1 : Int32} {x2 : Int32} {s : h_S} {Q : Int32 → h_S → Prop} (h : w_X12_hit o0 x1 x2 s Q) : h_M Z yX12_hit cX12_hit 3 (some .int) 1 25 [pR (some o0), pI x1, pI x2] s 0 0 (h_QI Z Q) := by
  refine h_M.of (by decide) (Nat.le_of_ble_eq_true rfl) (fun X hZ hX hE hI => ?_)
  subst hZ
  unfold w_X12_hit at h
  show h_V X 3 0 [(0, pR (some o0)), (1, pI x1), (2, pI x2)] [] s 0 0
  refine v_iload_n hX dX12_hit_0 1 rfl rfl ?_
  refine v_i2l hX dX12_hit_1 ?_
  refine v_lconst (v := 0) hX dX12_hit_2 (by decide) ?_
  refine v_aload_n hX dX12_hit_3 0 rfl rfl ?_
  obtain ⟨k1, h⟩ := h
  refine v_getI hX dX12_hit_4 f_RX12_597 rfl k1 ?_
  refine v_i2l hX dX12_hit_7 ?_
  refine v_lconst (v := 1) hX dX12_hit_8 (by decide) ?_
  refine v_lsub hX dX12_hit_9 ?_
  refine v_callSi hX dX12_hit_10 c_RX12_298 cS_X12_in [pL _, pL _, pL _] rfl rfl (Nat.le_of_ble_eq_true rfl) (by decide) (by decide) (Nat.zero_le _) (Nat.zero_le _) (m_X12_in h) (fun r3 s2 h => ?_)
  refine v_if_ne (tgt := 18) hX dX12_hit_13 (by decide) (fun c4 => ?_) (fun c4 => ?_)
  · have h := h_E c4 h
    refine v_iload_n hX dX12_hit_18 2 rfl rfl ?_
    refine v_gen (fun q20 e_q20 => ?_)
    rw [← e_q20] at h
    by_cases c5 : q20 = (0 : Int32)
    · have h := h_T c5 h
      refine v_tabIn (tgt := 44) hX dX12_hit_19 (by rw [c5]; decide) (by rw [c5]; decide) (by rw [c5]; rfl) (by decide) ?_
      refine v_aload_n hX dX12_hit_44 0 rfl rfl ?_
      obtain ⟨k6, h⟩ := h
      refine v_getR hX dX12_hit_45 f_RX12_246 rfl k6 ?_
      refine v_iload_n hX dX12_hit_48 1 rfl rfl ?_
      obtain ⟨a7, e_a7, h⟩ := h
      refine v_nn1 e_a7 ?_
      obtain ⟨k8, h⟩ := h
      obtain ⟨i9, h⟩ := h
      refine v_iald hX dX12_hit_49 k8 i9 ?_
      exact v_iret hX hE dX12_hit_50 h
    · have h := h_E c5 h
      by_cases c10 : q20 = (1 : Int32)
      · have h := h_T c10 h
        refine v_tabIn (tgt := 51) hX dX12_hit_19 (by rw [c10]; decide) (by rw [c10]; decide) (by rw [c10]; rfl) (by decide) ?_
        refine v_aload_n hX dX12_hit_51 0 rfl rfl ?_
        obtain ⟨k11, h⟩ := h
        refine v_getR hX dX12_hit_52 f_RX12_249 rfl k11 ?_
        refine v_iload_n hX dX12_hit_55 1 rfl rfl ?_
        obtain ⟨a12, e_a12, h⟩ := h
        refine v_nn1 e_a12 ?_
        obtain ⟨k13, h⟩ := h
        obtain ⟨i14, h⟩ := h
        refine v_iald hX dX12_hit_56 k13 i14 ?_
        exact v_iret hX hE dX12_hit_57 h
      · have h := h_E c10 h
        by_cases c15 : q20 = (2 : Int32)
        · have h := h_T c15 h
          refine v_tabIn (tgt := 58) hX dX12_hit_19 (by rw [c15]; decide) (by rw [c15]; decide) (by rw [c15]; rfl) (by decide) ?_
          refine v_aload_n hX dX12_hit_58 0 rfl rfl ?_
          obtain ⟨k16, h⟩ := h
          refine v_getR hX dX12_hit_59 f_RX12_252 rfl k16 ?_
          refine v_iload_n hX dX12_hit_62 1 rfl rfl ?_
          obtain ⟨a17, e_a17, h⟩ := h
          refine v_nn1 e_a17 ?_
          obtain ⟨k18, h⟩ := h
          obtain ⟨i19, h⟩ := h
          refine v_iald hX dX12_hit_63 k18 i19 ?_
          exact v_iret hX hE dX12_hit_64 h
        · have h := h_E c15 h
          refine v_tabOut (tgt := 65) hX dX12_hit_19 (by have := h_ti c5 (n := 0) rfl; have := h_ti c10 (n := 1) rfl; have := h_ti c15 (n := 2) rfl; omega) (by decide) ?_
          refine v_bipush (v := -2) hX dX12_hit_65 (by decide) ?_
          exact v_iret hX hE dX12_hit_67 h
  · have h := h_T c4 h
    refine v_iconst (v := -1) hX dX12_hit_16 (by decide) ?_
    exact v_iret hX hE dX12_hit_17 h
set_option maxRecDepth 100000 in
set_option maxHeartbeats 4000000 in
theorem b_X12_layTree_64 {X : h_X} (hX : h_ok X cX12_layTree 3 RX12 1 22) {Q : h_S → Prop} (hE : h_end X none (h_QV (x_Z X) Q)) {K2 : Nat → Int32 → Int32 → h_S → Prop} (hK2 : ∀ (o0 : Nat) (x1 : Int32) (x2 : Int32) (s : h_S), K2 o0 x1 x2 s → h_V X 3 2 [(0, pR (some o0)), (1, pI x1), (2, pI x2)] [] s 0 0) {o0 : Nat} {x1 : Int32} {x2 : Int32} {y0 : Int32} {y1 : Int32} {t2 : Option Nat} (s : h_S) (h : w_X12_layTree_64 Q K2 o0 x1 x2 y0 y1 t2 s) : h_V X 3 64 [(0, pR (some o0)), (1, pI x1), (2, pI x2)] [pI y0, pI y1, pR t2] s 0 0 := by
  unfold w_X12_layTree_64 at h
  obtain ⟨a1, e_a1, h⟩ := h
  refine v_nn2 e_a1 ?_
  obtain ⟨k2, h⟩ := h
  obtain ⟨i3, h⟩ := h
  refine v_iast hX dX12_layTree_64 k2 i3 ?_
  refine v_iinc (c := 1) (lv' := [(2, _), (0, _), (1, _)]) hX dX12_layTree_65 2 rfl (by decide) (by decide) rfl ?_
  refine v_goto (tgt := 2) hX dX12_layTree_68 (by decide) ?_
  refine v_pick [1, 2, 0] rfl ?_
  exact hK2 _ _ _ _ h
set_option maxRecDepth 100000 in
set_option maxHeartbeats 4000000 in
theorem b_X12_layTree_63 {X : h_X} (hX : h_ok X cX12_layTree 3 RX12 1 22) {Q : h_S → Prop} (hE : h_end X none (h_QV (x_Z X) Q)) {K2 : Nat → Int32 → Int32 → h_S → Prop} (hK2 : ∀ (o0 : Nat) (x1 : Int32) (x2 : Int32) (s : h_S), K2 o0 x1 x2 s → h_V X 3 2 [(0, pR (some o0)), (1, pI x1), (2, pI x2)] [] s 0 0) {o0 : Nat} {x1 : Int32} {x2 : Int32} {y0 : Int32} {t1 : Option Nat} (s : h_S) (h : w_X12_layTree_63 Q K2 o0 x1 x2 y0 t1 s) : h_V X 3 63 [(0, pR (some o0)), (1, pI x1), (2, pI x2)] [pI y0, pR t1] s 0 0 := by
  unfold w_X12_layTree_63 at h
  refine v_iconst (v := 0) hX dX12_layTree_63 (by decide) ?_
  refine v_pick [0, 1, 2] rfl ?_
  exact b_X12_layTree_64 hX hE hK2 _ h
set_option maxRecDepth 100000 in
set_option maxHeartbeats 4000000 in
theorem b_X12_layTree_75 {X : h_X} (hX : h_ok X cX12_layTree 3 RX12 1 22) {Q : h_S → Prop} (hE : h_end X none (h_QV (x_Z X) Q)) : ∀ (n : Nat) (o0 : Nat) (x2 : Int32) (s : h_S), w_X12_layTree_75 Q n o0 x2 s → h_V X 3 75 [(0, pR (some o0)), (2, pI x2)] [] s 0 0 := by
  intro n
  induction n with
  | zero => intro _ _ s h; exact h.elim
  | succ n hK75 =>
    intro o0 x2 s h
    have h : w_X12_layTree_75b Q (w_X12_layTree_75 Q n) o0 x2 s := h
    unfold w_X12_layTree_75b at h
    refine v_iload_n hX dX12_layTree_75 1 rfl rfl ?_
    refine v_if_le (tgt := 112) hX dX12_layTree_76 (by decide) (fun c1 => ?_) (fun c1 => ?_)
    · have h := h_T c1 h
      exact v_vret hX hE dX12_layTree_112 h
    · have h := h_E c1 h
      refine v_aload_n hX dX12_layTree_79 0 rfl rfl ?_
      obtain ⟨k2, h⟩ := h
      refine v_getR hX dX12_layTree_80 f_RX12_255 rfl k2 ?_
      refine v_iload_n hX dX12_layTree_83 1 rfl rfl ?_
      refine v_aload_n hX dX12_layTree_84 0 rfl rfl ?_
      refine v_getR hX dX12_layTree_85 f_RX12_255 rfl k2 ?_
      refine v_iconst (v := 2) hX dX12_layTree_88 (by decide) ?_
      refine v_iload_n hX dX12_layTree_89 1 rfl rfl ?_
      refine v_imul hX dX12_layTree_90 ?_
      obtain ⟨a3, e_a3, h⟩ := h
      refine v_nn1 e_a3 ?_
      obtain ⟨k4, h⟩ := h
      obtain ⟨i5, h⟩ := h
      refine v_iald hX dX12_layTree_91 k4 i5 ?_
      refine v_aload_n hX dX12_layTree_92 0 rfl rfl ?_
      refine v_getR hX dX12_layTree_93 f_RX12_255 rfl k2 ?_
      refine v_iconst (v := 2) hX dX12_layTree_96 (by decide) ?_
      refine v_iload_n hX dX12_layTree_97 1 rfl rfl ?_
      refine v_imul hX dX12_layTree_98 ?_
      refine v_iconst (v := 1) hX dX12_layTree_99 (by decide) ?_
      refine v_iadd hX dX12_layTree_100 ?_
      obtain ⟨a6, e_a6, h⟩ := h
      refine v_nn1 e_a6 ?_
      obtain ⟨k7, h⟩ := h
      obtain ⟨i8, h⟩ := h
      refine v_iald hX dX12_layTree_101 k7 i8 ?_
      refine v_callSi hX dX12_layTree_102 c_RX12_291 cS_X12_mix [pI _, pI _] rfl rfl (Nat.le_of_ble_eq_true rfl) (by decide) (by decide) (Nat.zero_le _) (Nat.zero_le _) (m_X12_mix h) (fun r10 s9 h => ?_)
      obtain ⟨a11, e_a11, h⟩ := h
      refine v_nn2 e_a11 ?_
      obtain ⟨k12, h⟩ := h
      obtain ⟨i13, h⟩ := h
      refine v_iast hX dX12_layTree_105 k12 i13 ?_
      refine v_iinc (c := -1) (lv' := [(2, _), (0, _)]) hX dX12_layTree_106 1 rfl (by decide) (by decide) rfl ?_
      refine v_goto (tgt := 75) hX dX12_layTree_109 (by decide) ?_
      refine v_pick [1, 0] rfl ?_
      exact hK75 _ _ _ h
