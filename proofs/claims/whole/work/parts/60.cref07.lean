set_option maxRecDepth 100000 in
set_option maxHeartbeats 4000000 in
theorem m_X12_traced {Z : h_Z} {o0 : Nat} {x1 : Int32} {s : h_S} {Q : h_S → Prop} (h : w_X12_traced o0 x1 s Q) : h_M Z yX12_traced cX12_traced 2 none 0 0 [pR (some o0), pI x1] s 0 0 (h_QV Z Q) := by
  refine h_M.of (by decide) (Nat.le_of_ble_eq_true rfl) (fun X hZ hX hE hI => ?_)
  subst hZ
  unfold w_X12_traced at h
  show h_V X 2 0 [(0, pR (some o0)), (1, pI x1)] [] s 0 0
  refine v_aload_n hX dX12_traced_0 0 rfl rfl ?_
  refine v_bipush (v := 31) hX dX12_traced_1 (by decide) ?_
  refine v_aload_n hX dX12_traced_3 0 rfl rfl ?_
  obtain ⟨k1, h⟩ := h
  refine v_getI hX dX12_traced_4 f_RX12_624 rfl k1 ?_
  refine v_imul hX dX12_traced_7 ?_
  refine v_iload_n hX dX12_traced_8 1 rfl rfl ?_
  refine v_iadd hX dX12_traced_9 ?_
  refine v_putI hX dX12_traced_10 f_RX12_624 k1 ?_
  exact v_vret hX hE dX12_traced_13 h
set_option maxRecDepth 100000 in
set_option maxHeartbeats 4000000 in
theorem b_X12_tell_149 {X : h_X} (hX : h_ok X cX12_tell 4 RX12 2 46) {Q : Int32 → h_S → Prop} (hE : h_end X (some .int) (h_QI (x_Z X) Q)) {y0 : Int32} (s : h_S) (h : w_X12_tell_149 Q y0 s) : h_V X 4 149 [] [pI y0] s 0 0 := by
  unfold w_X12_tell_149 at h
  exact v_iret hX hE dX12_tell_149 h
set_option maxRecDepth 100000 in
set_option maxHeartbeats 4000000 in
theorem b_X12_tell_82 {X : h_X} (hX : h_ok X cX12_tell 4 RX12 2 46) {Q : Int32 → h_S → Prop} (hE : h_end X (some .int) (h_QI (x_Z X) Q)) {o0 : Nat} {x1 : Int32} {x2 : Int32} (s : h_S) (h : w_X12_tell_82 Q o0 x1 x2 s) : h_V X 4 82 [(0, pR (some o0)), (1, pI x1), (2, pI x2)] [] s 0 0 := by
  unfold w_X12_tell_82 at h
  refine v_aload_n hX dX12_tell_82 0 rfl rfl ?_
  obtain ⟨k1, h⟩ := h
  refine v_getR hX dX12_tell_83 f_RX12_207 rfl k1 ?_
  refine v_iload_n hX dX12_tell_86 1 rfl rfl ?_
  obtain ⟨a2, e_a2, h⟩ := h
  refine v_nn1 e_a2 ?_
  obtain ⟨k3, h⟩ := h
  obtain ⟨i4, h⟩ := h
  refine v_iald hX dX12_tell_87 k3 i4 ?_
  refine v_istore_n (lv' := [(3, _), (0, _), (1, _), (2, _)]) hX dX12_tell_88 rfl (by decide) rfl ?_
  refine v_iload_n hX dX12_tell_89 3 rfl rfl ?_
  refine v_if_ne (tgt := 97) hX dX12_tell_90 (by decide) (fun c5 => ?_) (fun c5 => ?_)
  · have h := h_E c5 h
    refine v_iload_n hX dX12_tell_97 3 rfl rfl ?_
    refine v_iconst (v := 1) hX dX12_tell_98 (by decide) ?_
    refine v_icmp_ne (tgt := 113) hX dX12_tell_99 (by decide) (fun c6 => ?_) (fun c6 => ?_)
    · have h := h_E c6 h
      refine v_iload_n hX dX12_tell_113 3 rfl rfl ?_
      refine v_iconst (v := 2) hX dX12_tell_114 (by decide) ?_
      refine v_icmp_ne (tgt := 131) hX dX12_tell_115 (by decide) (fun c7 => ?_) (fun c7 => ?_)
      · have h := h_E c7 h
        refine v_iload_n hX dX12_tell_131 3 rfl rfl ?_
        refine v_iconst (v := 3) hX dX12_tell_132 (by decide) ?_
        refine v_icmp_ne (tgt := 143) hX dX12_tell_133 (by decide) (fun c8 => ?_) (fun c8 => ?_)
        · have h := h_E c8 h
          refine v_iconst (v := 2) hX dX12_tell_143 (by decide) ?_
          refine v_iload_n hX dX12_tell_144 0 rfl rfl ?_
          refine v_imul hX dX12_tell_145 ?_
          refine v_bipush (v := 100) hX dX12_tell_146 (by decide) ?_
          refine v_iadd hX dX12_tell_148 ?_
          refine v_pick [] rfl ?_
          exact b_X12_tell_149 hX hE _ h
        · have h := h_T c8 h
          refine v_iload_n hX dX12_tell_136 0 rfl rfl ?_
          refine v_bipush (v := 100) hX dX12_tell_137 (by decide) ?_
          refine v_iadd hX dX12_tell_139 ?_
          refine v_goto (tgt := 149) hX dX12_tell_140 (by decide) ?_
          refine v_pick [] rfl ?_
          exact b_X12_tell_149 hX hE _ h
      · have h := h_T c7 h
        refine v_iconst (v := 2) hX dX12_tell_118 (by decide) ?_
        refine v_iload_n hX dX12_tell_119 0 rfl rfl ?_
        refine v_imul hX dX12_tell_120 ?_
        refine v_aload_n hX dX12_tell_121 1 rfl rfl ?_
        refine v_getR hX dX12_tell_122 f_RX12_213 rfl k1 ?_
        refine v_iload_n hX dX12_tell_125 2 rfl rfl ?_
        obtain ⟨a9, e_a9, h⟩ := h
        refine v_nn1 e_a9 ?_
        obtain ⟨k10, h⟩ := h
        obtain ⟨i11, h⟩ := h
        refine v_iald hX dX12_tell_126 k10 i11 ?_
        refine v_iadd hX dX12_tell_127 ?_
        refine v_goto (tgt := 149) hX dX12_tell_128 (by decide) ?_
        refine v_pick [] rfl ?_
        exact b_X12_tell_149 hX hE _ h
    · have h := h_T c6 h
      refine v_iload_n hX dX12_tell_102 0 rfl rfl ?_
      refine v_aload_n hX dX12_tell_103 1 rfl rfl ?_
      refine v_getR hX dX12_tell_104 f_RX12_213 rfl k1 ?_
      refine v_iload_n hX dX12_tell_107 2 rfl rfl ?_
      obtain ⟨a12, e_a12, h⟩ := h
      refine v_nn1 e_a12 ?_
      obtain ⟨k13, h⟩ := h
      obtain ⟨i14, h⟩ := h
      refine v_iald hX dX12_tell_108 k13 i14 ?_
      refine v_iadd hX dX12_tell_109 ?_
      refine v_goto (tgt := 149) hX dX12_tell_110 (by decide) ?_
      refine v_pick [] rfl ?_
      exact b_X12_tell_149 hX hE _ h
  · have h := h_T c5 h
    refine v_iload_n hX dX12_tell_93 0 rfl rfl ?_
    refine v_goto (tgt := 149) hX dX12_tell_94 (by decide) ?_
    refine v_pick [] rfl ?_
    exact b_X12_tell_149 hX hE _ h
set_option maxRecDepth 100000 in
set_option maxHeartbeats 4000000 in
theorem b_X12_tell_77 {X : h_X} (hX : h_ok X cX12_tell 4 RX12 2 46) {Q : Int32 → h_S → Prop} (hE : h_end X (some .int) (h_QI (x_Z X) Q)) {o0 : Nat} {x1 : Int32} {x2 : Int32} (s : h_S) (h : w_X12_tell_77 Q o0 x1 x2 s) : h_V X 4 77 [(0, pR (some o0)), (1, pI x1), (2, pI x2)] [] s 0 0 := by
  unfold w_X12_tell_77 at h
  refine v_aload_n hX dX12_tell_77 0 rfl rfl ?_
  refine v_iconst (v := 1) hX dX12_tell_78 (by decide) ?_
  obtain ⟨k1, h⟩ := h
  refine v_callVv0 hX dX12_tell_79 c_RX12_627 cV_X12_traced (ci := 13) (T := TX12) (N := 115) rfl (by exact k1) [pI _] rfl rfl (Nat.le_of_ble_eq_true rfl) (by decide) (by decide)  (m_X12_traced h) (fun s2 h => ?_)
  refine v_pick [0, 1, 2] rfl ?_
  exact b_X12_tell_82 hX hE _ h
set_option maxRecDepth 100000 in
set_option maxHeartbeats 4000000 in
theorem b_X12_tell_62 {X : h_X} (hX : h_ok X cX12_tell 4 RX12 2 46) {Q : Int32 → h_S → Prop} (hE : h_end X (some .int) (h_QI (x_Z X) Q)) {o0 : Nat} {x1 : Int32} {x2 : Int32} (s : h_S) (h : w_X12_tell_62 Q o0 x1 x2 s) : h_V X 4 62 [(0, pR (some o0)), (1, pI x1), (2, pI x2)] [] s 0 0 := by
  unfold w_X12_tell_62 at h
  refine v_aload_n hX dX12_tell_62 0 rfl rfl ?_
  refine v_iconst (v := 1) hX dX12_tell_63 (by decide) ?_
  obtain ⟨k1, h⟩ := h
  refine v_callVv0 hX dX12_tell_64 c_RX12_627 cV_X12_traced (ci := 13) (T := TX12) (N := 115) rfl (by exact k1) [pI _] rfl rfl (Nat.le_of_ble_eq_true rfl) (by decide) (by decide)  (m_X12_traced h) (fun s2 h => ?_)
  refine v_iload_n hX dX12_tell_67 2 rfl rfl ?_
  refine v_iconst (v := 2) hX dX12_tell_68 (by decide) ?_
  refine v_icmp_eq (tgt := 77) hX dX12_tell_69 (by decide) (fun c4 => ?_) (fun c4 => ?_)
  · have h := h_T c4 h
    refine v_pick [0, 1, 2] rfl ?_
    exact b_X12_tell_77 hX hE _ h
  · have h := h_E c4 h
    refine v_iload_n hX dX12_tell_72 2 rfl rfl ?_
    refine v_iconst (v := 4) hX dX12_tell_73 (by decide) ?_
    refine v_icmp_ne (tgt := 82) hX dX12_tell_74 (by decide) (fun c5 => ?_) (fun c5 => ?_)
    · have h := h_E c5 h
      refine v_pick [0, 1, 2] rfl ?_
      exact b_X12_tell_82 hX hE _ h
    · have h := h_T c5 h
      refine v_pick [0, 1, 2] rfl ?_
      exact b_X12_tell_77 hX hE _ h
set_option maxRecDepth 100000 in
set_option maxHeartbeats 4000000 in
theorem b_X12_tell_52 {X : h_X} (hX : h_ok X cX12_tell 4 RX12 2 46) {Q : Int32 → h_S → Prop} (hE : h_end X (some .int) (h_QI (x_Z X) Q)) {o0 : Nat} {x1 : Int32} {x2 : Int32} (s : h_S) (h : w_X12_tell_52 Q o0 x1 x2 s) : h_V X 4 52 [(0, pR (some o0)), (1, pI x1), (2, pI x2)] [] s 0 0 := by
  unfold w_X12_tell_52 at h
  refine v_iload_n hX dX12_tell_52 2 rfl rfl ?_
  refine v_iconst (v := 2) hX dX12_tell_53 (by decide) ?_
  refine v_icmp_le (tgt := 62) hX dX12_tell_54 (by decide) (fun c1 => ?_) (fun c1 => ?_)
  · have h := h_T c1 h
    refine v_pick [0, 1, 2] rfl ?_
    exact b_X12_tell_62 hX hE _ h
  · have h := h_E c1 h
    refine v_aload_n hX dX12_tell_57 0 rfl rfl ?_
    refine v_iconst (v := 4) hX dX12_tell_58 (by decide) ?_
    obtain ⟨k2, h⟩ := h
    refine v_callVv0 hX dX12_tell_59 c_RX12_627 cV_X12_traced (ci := 13) (T := TX12) (N := 115) rfl (by exact k2) [pI _] rfl rfl (Nat.le_of_ble_eq_true rfl) (by decide) (by decide)  (m_X12_traced h) (fun s3 h => ?_)
    refine v_pick [0, 1, 2] rfl ?_
    exact b_X12_tell_62 hX hE _ h
set_option maxRecDepth 100000 in
set_option maxHeartbeats 4000000 in
theorem b_X12_tell_42 {X : h_X} (hX : h_ok X cX12_tell 4 RX12 2 46) {Q : Int32 → h_S → Prop} (hE : h_end X (some .int) (h_QI (x_Z X) Q)) {o0 : Nat} {x1 : Int32} {x2 : Int32} (s : h_S) (h : w_X12_tell_42 Q o0 x1 x2 s) : h_V X 4 42 [(0, pR (some o0)), (1, pI x1), (2, pI x2)] [] s 0 0 := by
  unfold w_X12_tell_42 at h
  refine v_iload_n hX dX12_tell_42 2 rfl rfl ?_
  refine v_iconst (v := 4) hX dX12_tell_43 (by decide) ?_
  refine v_icmp_ne (tgt := 52) hX dX12_tell_44 (by decide) (fun c1 => ?_) (fun c1 => ?_)
  · have h := h_E c1 h
    refine v_pick [0, 1, 2] rfl ?_
    exact b_X12_tell_52 hX hE _ h
  · have h := h_T c1 h
    refine v_aload_n hX dX12_tell_47 0 rfl rfl ?_
    refine v_iconst (v := 5) hX dX12_tell_48 (by decide) ?_
    obtain ⟨k2, h⟩ := h
    refine v_callVv0 hX dX12_tell_49 c_RX12_627 cV_X12_traced (ci := 13) (T := TX12) (N := 115) rfl (by exact k2) [pI _] rfl rfl (Nat.le_of_ble_eq_true rfl) (by decide) (by decide)  (m_X12_traced h) (fun s3 h => ?_)
    refine v_pick [0, 1, 2] rfl ?_
    exact b_X12_tell_52 hX hE _ h
set_option maxRecDepth 100000 in
set_option maxHeartbeats 4000000 in
theorem b_X12_tell_37 {X : h_X} (hX : h_ok X cX12_tell 4 RX12 2 46) {Q : Int32 → h_S → Prop} (hE : h_end X (some .int) (h_QI (x_Z X) Q)) {o0 : Nat} {x1 : Int32} {x2 : Int32} (s : h_S) (h : w_X12_tell_37 Q o0 x1 x2 s) : h_V X 4 37 [(0, pR (some o0)), (1, pI x1), (2, pI x2)] [] s 0 0 := by
  unfold w_X12_tell_37 at h
  refine v_aload_n hX dX12_tell_37 0 rfl rfl ?_
  refine v_iconst (v := 2) hX dX12_tell_38 (by decide) ?_
  obtain ⟨k1, h⟩ := h
  refine v_callVv0 hX dX12_tell_39 c_RX12_627 cV_X12_traced (ci := 13) (T := TX12) (N := 115) rfl (by exact k1) [pI _] rfl rfl (Nat.le_of_ble_eq_true rfl) (by decide) (by decide)  (m_X12_traced h) (fun s2 h => ?_)
  refine v_pick [0, 1, 2] rfl ?_
  exact b_X12_tell_42 hX hE _ h
set_option maxRecDepth 100000 in
set_option maxHeartbeats 4000000 in
theorem b_X12_tell_27 {X : h_X} (hX : h_ok X cX12_tell 4 RX12 2 46) {Q : Int32 → h_S → Prop} (hE : h_end X (some .int) (h_QI (x_Z X) Q)) {o0 : Nat} {x1 : Int32} {x2 : Int32} (s : h_S) (h : w_X12_tell_27 Q o0 x1 x2 s) : h_V X 4 27 [(0, pR (some o0)), (1, pI x1), (2, pI x2)] [] s 0 0 := by
  unfold w_X12_tell_27 at h
  refine v_iload_n hX dX12_tell_27 2 rfl rfl ?_
  refine v_iconst (v := 1) hX dX12_tell_28 (by decide) ?_
  refine v_icmp_eq (tgt := 37) hX dX12_tell_29 (by decide) (fun c1 => ?_) (fun c1 => ?_)
  · have h := h_T c1 h
    refine v_pick [0, 1, 2] rfl ?_
    exact b_X12_tell_37 hX hE _ h
  · have h := h_E c1 h
    refine v_iload_n hX dX12_tell_32 2 rfl rfl ?_
    refine v_iconst (v := 2) hX dX12_tell_33 (by decide) ?_
    refine v_icmp_ne (tgt := 42) hX dX12_tell_34 (by decide) (fun c2 => ?_) (fun c2 => ?_)
    · have h := h_E c2 h
      refine v_pick [0, 1, 2] rfl ?_
      exact b_X12_tell_42 hX hE _ h
    · have h := h_T c2 h
      refine v_pick [0, 1, 2] rfl ?_
      exact b_X12_tell_37 hX hE _ h
set_option maxRecDepth 100000 in
set_option maxHeartbeats 4000000 in
theorem m_X12_tell {Z : h_Z} {o0 : Nat} {x1 : Int32} {s : h_S} {Q : Int32 → h_S → Prop} (h : w_X12_tell o0 x1 s Q) : h_M Z yX12_tell cX12_tell 4 (some .int) 2 46 [pR (some o0), pI x1] s 0 0 (h_QI Z Q) := by
  refine h_M.of (by decide) (Nat.le_of_ble_eq_true rfl) (fun X hZ hX hE hI => ?_)
  subst hZ
  unfold w_X12_tell at h
  show h_V X 4 0 [(0, pR (some o0)), (1, pI x1)] [] s 0 0
  refine v_aload_n hX dX12_tell_0 0 rfl rfl ?_
  refine v_iload_n hX dX12_tell_1 1 rfl rfl ?_
  obtain ⟨k1, h⟩ := h
  refine v_callVi0 hX dX12_tell_2 c_RX12_521 cV_X12_noLink (ci := 13) (T := TX12) (N := 115) rfl (by exact k1) [pI _] rfl rfl (Nat.le_of_ble_eq_true rfl) (by decide) (by decide)  (m_X12_noLink h) (fun p3 s2 h => ?_)
  refine v_if_eq (tgt := 10) hX dX12_tell_5 (by decide) (fun c4 => ?_) (fun c4 => ?_)
  · have h := h_T c4 h
    refine v_aload_n hX dX12_tell_10 0 rfl rfl ?_
    obtain ⟨k5, h⟩ := h
    refine v_getR hX dX12_tell_11 f_RX12_201 rfl k5 ?_
    refine v_iload_n hX dX12_tell_14 1 rfl rfl ?_
    obtain ⟨a6, e_a6, h⟩ := h
    refine v_nn1 e_a6 ?_
    obtain ⟨k7, h⟩ := h
    obtain ⟨i8, h⟩ := h
    refine v_iald hX dX12_tell_15 k7 i8 ?_
    refine v_istore_n (lv' := [(2, _), (0, _), (1, _)]) hX dX12_tell_16 rfl (by decide) rfl ?_
    refine v_iload_n hX dX12_tell_17 0 rfl rfl ?_
    refine v_iconst (v := 2) hX dX12_tell_18 (by decide) ?_
    refine v_icmp_ne (tgt := 27) hX dX12_tell_19 (by decide) (fun c9 => ?_) (fun c9 => ?_)
    · have h := h_E c9 h
      refine v_pick [1, 2, 0] rfl ?_
      exact b_X12_tell_27 hX hE _ h
    · have h := h_T c9 h
      refine v_aload_n hX dX12_tell_22 1 rfl rfl ?_
      refine v_iconst (v := 3) hX dX12_tell_23 (by decide) ?_
      refine v_callVv0 hX dX12_tell_24 c_RX12_627 cV_X12_traced (ci := 13) (T := TX12) (N := 115) rfl (by exact k5) [pI _] rfl rfl (Nat.le_of_ble_eq_true rfl) (by decide) (by decide)  (m_X12_traced h) (fun s10 h => ?_)
      refine v_pick [1, 2, 0] rfl ?_
      exact b_X12_tell_27 hX hE _ h
  · have h := h_E c4 h
    refine v_iconst (v := -1) hX dX12_tell_8 (by decide) ?_
    exact v_iret hX hE dX12_tell_9 h
set_option maxRecDepth 100000 in
set_option maxHeartbeats 4000000 in
theorem b_X12_name_47 {X : h_X} (hX : h_ok X cX12_name 2 RX12 2 46) {Q : Int32 → h_S → Prop} (hE : h_end X (some .int) (h_QI (x_Z X) Q)) {y0 : Int32} (s : h_S) (h : w_X12_name_47 Q y0 s) : h_V X 2 47 [] [pI y0] s 0 0 := by
  unfold w_X12_name_47 at h
  exact v_iret hX hE dX12_name_47 h
set_option maxRecDepth 100000 in
set_option maxHeartbeats 4000000 in
theorem b_X12_name_28 {X : h_X} (hX : h_ok X cX12_name 2 RX12 2 46) {Q : Int32 → h_S → Prop} (hE : h_end X (some .int) (h_QI (x_Z X) Q)) {o0 : Nat} {x1 : Int32} {y0 : Int32} {u1 : Nat} (s : h_S) (h : w_X12_name_28 Q o0 x1 y0 u1 s) : h_V X 2 28 [(0, pR (some o0)), (1, pI x1)] [pI y0, pR (some u1)] s 0 0 := by
  unfold w_X12_name_28 at h
  obtain ⟨k1, h⟩ := h
  refine v_callVv0 hX dX12_name_28 c_RX12_627 cV_X12_traced (ci := 13) (T := TX12) (N := 115) rfl (by exact k1) [pI _] rfl rfl (Nat.le_of_ble_eq_true rfl) (by decide) (by decide)  (m_X12_traced h) (fun s2 h => ?_)
  refine v_aload_n hX dX12_name_31 0 rfl rfl ?_
  obtain ⟨k4, h⟩ := h
  refine v_getR hX dX12_name_32 f_RX12_201 rfl k4 ?_
  refine v_iload_n hX dX12_name_35 1 rfl rfl ?_
  obtain ⟨a5, e_a5, h⟩ := h
  refine v_nn1 e_a5 ?_
  obtain ⟨k6, h⟩ := h
  obtain ⟨i7, h⟩ := h
  refine v_iald hX dX12_name_36 k6 i7 ?_
  refine v_iconst (v := 4) hX dX12_name_37 (by decide) ?_
  refine v_icmp_ne (tgt := 46) hX dX12_name_38 (by decide) (fun c8 => ?_) (fun c8 => ?_)
  · have h := h_E c8 h
    refine v_iload_n hX dX12_name_46 1 rfl rfl ?_
    refine v_pick [] rfl ?_
    exact b_X12_name_47 hX hE _ h
  · have h := h_T c8 h
    refine v_bipush (v := 40) hX dX12_name_41 (by decide) ?_
    refine v_goto (tgt := 47) hX dX12_name_43 (by decide) ?_
    refine v_pick [] rfl ?_
    exact b_X12_name_47 hX hE _ h
set_option maxRecDepth 100000 in
set_option maxHeartbeats 4000000 in
theorem m_X12_name {Z : h_Z} {o0 : Nat} {x1 : Int32} {s : h_S} {Q : Int32 → h_S → Prop} (h : w_X12_name o0 x1 s Q) : h_M Z yX12_name cX12_name 2 (some .int) 2 46 [pR (some o0), pI x1] s 0 0 (h_QI Z Q) := by
  refine h_M.of (by decide) (Nat.le_of_ble_eq_true rfl) (fun X hZ hX hE hI => ?_)
  subst hZ
  unfold w_X12_name at h
  show h_V X 2 0 [(0, pR (some o0)), (1, pI x1)] [] s 0 0
  refine v_aload_n hX dX12_name_0 0 rfl rfl ?_
  refine v_iload_n hX dX12_name_1 1 rfl rfl ?_
  obtain ⟨k1, h⟩ := h
  refine v_callVi0 hX dX12_name_2 c_RX12_521 cV_X12_noLink (ci := 13) (T := TX12) (N := 115) rfl (by exact k1) [pI _] rfl rfl (Nat.le_of_ble_eq_true rfl) (by decide) (by decide)  (m_X12_noLink h) (fun p3 s2 h => ?_)
  refine v_if_eq (tgt := 10) hX dX12_name_5 (by decide) (fun c4 => ?_) (fun c4 => ?_)
  · have h := h_T c4 h
    refine v_aload_n hX dX12_name_10 0 rfl rfl ?_
    refine v_aload_n hX dX12_name_11 0 rfl rfl ?_
    obtain ⟨k5, h⟩ := h
    refine v_getR hX dX12_name_12 f_RX12_201 rfl k5 ?_
    refine v_iload_n hX dX12_name_15 1 rfl rfl ?_
    obtain ⟨a6, e_a6, h⟩ := h
    refine v_nn1 e_a6 ?_
    obtain ⟨k7, h⟩ := h
    obtain ⟨i8, h⟩ := h
    refine v_iald hX dX12_name_16 k7 i8 ?_
    refine v_iconst (v := 4) hX dX12_name_17 (by decide) ?_
    refine v_icmp_ne (tgt := 26) hX dX12_name_18 (by decide) (fun c9 => ?_) (fun c9 => ?_)
    · have h := h_E c9 h
      refine v_bipush (v := 6) hX dX12_name_26 (by decide) ?_
      refine v_pick [0, 1] rfl ?_
      exact b_X12_name_28 hX hE _ h
    · have h := h_T c9 h
      refine v_bipush (v := 7) hX dX12_name_21 (by decide) ?_
      refine v_goto (tgt := 28) hX dX12_name_23 (by decide) ?_
      refine v_pick [0, 1] rfl ?_
      exact b_X12_name_28 hX hE _ h
  · have h := h_E c4 h
    refine v_iconst (v := -1) hX dX12_name_8 (by decide) ?_
    exact v_iret hX hE dX12_name_9 h
set_option maxRecDepth 100000 in
set_option maxHeartbeats 4000000 in
theorem b_X12_as_94 {X : h_X} (hX : h_ok X cX12_as 5 RX12 2 46) {Q : Int32 → h_S → Prop} (hE : h_end X (some .int) (h_QI (x_Z X) Q)) {y0 : Int32} (s : h_S) (h : w_X12_as_94 Q y0 s) : h_V X 5 94 [] [pI y0] s 0 0 := by
  unfold w_X12_as_94 at h
  exact v_iret hX hE dX12_as_94 h
set_option maxRecDepth 100000 in
set_option maxHeartbeats 4000000 in
theorem b_X12_as_74 {X : h_X} (hX : h_ok X cX12_as 5 RX12 2 46) {Q : Int32 → h_S → Prop} (hE : h_end X (some .int) (h_QI (x_Z X) Q)) {o0 : Nat} {y0 : Int32} (s : h_S) (h : w_X12_as_74 Q o0 y0 s) : h_V X 5 74 [(0, pR (some o0))] [pI y0] s 0 0 := by
  unfold w_X12_as_74 at h
  refine v_istore (lv' := [(4, _), (0, _)]) hX dX12_as_74 (by decide) rfl ?_
  refine v_iload hX dX12_as_76 0 rfl ?_
  refine v_if_eq (tgt := 89) hX dX12_as_78 (by decide) (fun c1 => ?_) (fun c1 => ?_)
  · have h := h_T c1 h
    refine v_aload_n hX dX12_as_89 1 rfl rfl ?_
    refine v_iconst (v := 2) hX dX12_as_90 (by decide) ?_
    obtain ⟨k2, h⟩ := h
    refine v_callVi0 hX dX12_as_91 c_RX12_408 cV_X12_failed (ci := 13) (T := TX12) (N := 115) rfl (by exact k2) [pI _] rfl rfl (Nat.le_of_ble_eq_true rfl) (by decide) (by decide)  (m_X12_failed h) (fun p4 s3 h => ?_)
    refine v_pick [] rfl ?_
    exact b_X12_as_94 hX hE _ h
  · have h := h_E c1 h
    refine v_aload_n hX dX12_as_81 1 rfl rfl ?_
    refine v_iconst (v := 1) hX dX12_as_82 (by decide) ?_
    obtain ⟨k5, h⟩ := h
    refine v_callVi0 hX dX12_as_83 c_RX12_389 cV_X12_refused (ci := 13) (T := TX12) (N := 115) rfl (by exact k5) [pI _] rfl rfl (Nat.le_of_ble_eq_true rfl) (by decide) (by decide)  (m_X12_refused h) (fun p7 s6 h => ?_)
    refine v_goto (tgt := 94) hX dX12_as_86 (by decide) ?_
    refine v_pick [] rfl ?_
    exact b_X12_as_94 hX hE _ h
set_option maxRecDepth 100000 in
set_option maxHeartbeats 4000000 in
theorem b_X12_as_69 {X : h_X} (hX : h_ok X cX12_as 5 RX12 2 46) {Q : Int32 → h_S → Prop} (hE : h_end X (some .int) (h_QI (x_Z X) Q)) {o0 : Nat} (s : h_S) (h : w_X12_as_69 Q o0 s) : h_V X 5 69 [(0, pR (some o0))] [] s 0 0 := by
  unfold w_X12_as_69 at h
  refine v_iconst (v := 1) hX dX12_as_69 (by decide) ?_
  refine v_goto (tgt := 74) hX dX12_as_70 (by decide) ?_
  refine v_pick [0] rfl ?_
  exact b_X12_as_74 hX hE _ h
set_option maxRecDepth 100000 in
set_option maxHeartbeats 4000000 in
theorem b_X12_as_73 {X : h_X} (hX : h_ok X cX12_as 5 RX12 2 46) {Q : Int32 → h_S → Prop} (hE : h_end X (some .int) (h_QI (x_Z X) Q)) {o0 : Nat} (s : h_S) (h : w_X12_as_73 Q o0 s) : h_V X 5 73 [(0, pR (some o0))] [] s 0 0 := by
  unfold w_X12_as_73 at h
  refine v_iconst (v := 0) hX dX12_as_73 (by decide) ?_
  refine v_pick [0] rfl ?_
  exact b_X12_as_74 hX hE _ h
set_option maxRecDepth 100000 in
set_option maxHeartbeats 4000000 in
theorem b_X12_as_59 {X : h_X} (hX : h_ok X cX12_as 5 RX12 2 46) {Q : Int32 → h_S → Prop} (hE : h_end X (some .int) (h_QI (x_Z X) Q)) {o0 : Nat} {x2 : Int32} {x3 : Int32} (s : h_S) (h : w_X12_as_59 Q o0 x2 x3 s) : h_V X 5 59 [(0, pR (some o0)), (2, pI x2), (3, pI x3)] [] s 0 0 := by
  unfold w_X12_as_59 at h
  refine v_iload_n hX dX12_as_59 1 rfl rfl ?_
  refine v_iconst (v := 3) hX dX12_as_60 (by decide) ?_
  refine v_icmp_ne (tgt := 73) hX dX12_as_61 (by decide) (fun c1 => ?_) (fun c1 => ?_)
  · have h := h_E c1 h
    refine v_pick [0] rfl ?_
    exact b_X12_as_73 hX hE _ h
  · have h := h_T c1 h
    refine v_iload_n hX dX12_as_64 2 rfl rfl ?_
    refine v_iconst (v := 4) hX dX12_as_65 (by decide) ?_
    refine v_icmp_ne (tgt := 73) hX dX12_as_66 (by decide) (fun c2 => ?_) (fun c2 => ?_)
    · have h := h_E c2 h
      refine v_pick [0] rfl ?_
      exact b_X12_as_73 hX hE _ h
    · have h := h_T c2 h
      refine v_pick [0] rfl ?_
      exact b_X12_as_69 hX hE _ h
set_option maxRecDepth 100000 in
set_option maxHeartbeats 4000000 in
theorem m_X12_as {Z : h_Z} {o0 : Nat} {x1 : Int32} {x2 : Int32} {s : h_S} {Q : Int32 → h_S → Prop} (h : w_X12_as o0 x1 x2 s Q) : h_M Z yX12_as cX12_as 5 (some .int) 2 46 [pR (some o0), pI x1, pI x2] s 0 0 (h_QI Z Q) := by
  refine h_M.of (by decide) (Nat.le_of_ble_eq_true rfl) (fun X hZ hX hE hI => ?_)
  subst hZ
  unfold w_X12_as at h
  show h_V X 5 0 [(0, pR (some o0)), (1, pI x1), (2, pI x2)] [] s 0 0
  refine v_aload_n hX dX12_as_0 0 rfl rfl ?_
  refine v_iload_n hX dX12_as_1 1 rfl rfl ?_
  obtain ⟨k1, h⟩ := h
  refine v_callVi0 hX dX12_as_2 c_RX12_521 cV_X12_noLink (ci := 13) (T := TX12) (N := 115) rfl (by exact k1) [pI _] rfl rfl (Nat.le_of_ble_eq_true rfl) (by decide) (by decide)  (m_X12_noLink h) (fun p3 s2 h => ?_)
  refine v_if_eq (tgt := 14) hX dX12_as_5 (by decide) (fun c4 => ?_) (fun c4 => ?_)
  · have h := h_T c4 h
    refine v_iload_n hX dX12_as_14 2 rfl rfl ?_
    refine v_i2l hX dX12_as_15 ?_
    refine v_lconst (v := 0) hX dX12_as_16 (by decide) ?_
    refine v_ldc2 hX dX12_as_17 k_RX12_516 ?_
    refine v_callSi0 hX dX12_as_20 c_RX12_298 cS_X12_in [pL _, pL _, pL _] rfl rfl (Nat.le_of_ble_eq_true rfl) (by decide) (by decide)  (m_X12_in h) (fun p6 s5 h => ?_)
    refine v_if_ne (tgt := 33) hX dX12_as_23 (by decide) (fun c7 => ?_) (fun c7 => ?_)
    · have h := h_E c7 h
      refine v_aload_n hX dX12_as_33 0 rfl rfl ?_
      obtain ⟨k8, h⟩ := h
      refine v_getR hX dX12_as_34 f_RX12_201 rfl k8 ?_
      refine v_iload_n hX dX12_as_37 1 rfl rfl ?_
      obtain ⟨a9, e_a9, h⟩ := h
      refine v_nn1 e_a9 ?_
      obtain ⟨k10, h⟩ := h
      obtain ⟨i11, h⟩ := h
      refine v_iald hX dX12_as_38 k10 i11 ?_
      refine v_istore_n (lv' := [(3, _), (0, _), (1, _), (2, _)]) hX dX12_as_39 rfl (by decide) rfl ?_
      refine v_iload_n hX dX12_as_40 3 rfl rfl ?_
      refine v_if_eq (tgt := 69) hX dX12_as_41 (by decide) (fun c12 => ?_) (fun c12 => ?_)
      · have h := h_T c12 h
        refine v_pick [1] rfl ?_
        exact b_X12_as_69 hX hE _ h
      · have h := h_E c12 h
        refine v_iload_n hX dX12_as_44 3 rfl rfl ?_
        refine v_iload_n hX dX12_as_45 0 rfl rfl ?_
        refine v_icmp_eq (tgt := 69) hX dX12_as_46 (by decide) (fun c13 => ?_) (fun c13 => ?_)
        · have h := h_T c13 h
          refine v_pick [1] rfl ?_
          exact b_X12_as_69 hX hE _ h
        · have h := h_E c13 h
          refine v_iload_n hX dX12_as_49 3 rfl rfl ?_
          refine v_iconst (v := 1) hX dX12_as_50 (by decide) ?_
          refine v_icmp_ne (tgt := 59) hX dX12_as_51 (by decide) (fun c14 => ?_) (fun c14 => ?_)
          · have h := h_E c14 h
            refine v_pick [1, 3, 0] rfl ?_
            exact b_X12_as_59 hX hE _ h
          · have h := h_T c14 h
            refine v_iload_n hX dX12_as_54 0 rfl rfl ?_
            refine v_iconst (v := 2) hX dX12_as_55 (by decide) ?_
            refine v_icmp_eq (tgt := 69) hX dX12_as_56 (by decide) (fun c15 => ?_) (fun c15 => ?_)
            · have h := h_T c15 h
              refine v_pick [1] rfl ?_
              exact b_X12_as_69 hX hE _ h
            · have h := h_E c15 h
              refine v_pick [1, 3, 0] rfl ?_
              exact b_X12_as_59 hX hE _ h
    · have h := h_T c7 h
      refine v_aload_n hX dX12_as_26 0 rfl rfl ?_
      refine v_bipush (v := -2) hX dX12_as_27 (by decide) ?_
      obtain ⟨k16, h⟩ := h
      refine v_callVi0 hX dX12_as_29 c_RX12_389 cV_X12_refused (ci := 13) (T := TX12) (N := 115) rfl (by exact k16) [pI _] rfl rfl (Nat.le_of_ble_eq_true rfl) (by decide) (by decide)  (m_X12_refused h) (fun p18 s17 h => ?_)
      exact v_iret hX hE dX12_as_32 h
  · have h := h_E c4 h
    refine v_aload_n hX dX12_as_8 0 rfl rfl ?_
    refine v_iconst (v := -1) hX dX12_as_9 (by decide) ?_
    obtain ⟨k19, h⟩ := h
    refine v_callVi0 hX dX12_as_10 c_RX12_389 cV_X12_refused (ci := 13) (T := TX12) (N := 115) rfl (by exact k19) [pI _] rfl rfl (Nat.le_of_ble_eq_true rfl) (by decide) (by decide)  (m_X12_refused h) (fun p21 s20 h => ?_)
    exact v_iret hX hE dX12_as_13 h
set_option maxRecDepth 100000 in
set_option maxHeartbeats 4000000 in
theorem m_X12_trace {Z : h_Z} {o0 : Nat} {s : h_S} {Q : Int32 → h_S → Prop} (h : w_X12_trace o0 s Q) : h_M Z yX12_trace cX12_trace 1 (some .int) 0 0 [pR (some o0)] s 0 0 (h_QI Z Q) := by
  refine h_M.of (by decide) (Nat.le_of_ble_eq_true rfl) (fun X hZ hX hE hI => ?_)
  subst hZ
  unfold w_X12_trace at h
  show h_V X 1 0 [(0, pR (some o0))] [] s 0 0
  refine v_aload_n hX dX12_trace_0 0 rfl rfl ?_
  obtain ⟨k1, h⟩ := h
  refine v_getI hX dX12_trace_1 f_RX12_624 rfl k1 ?_
  exact v_iret hX hE dX12_trace_4 h
set_option maxRecDepth 100000 in
set_option maxHeartbeats 4000000 in
theorem m_X12_fault {Z : h_Z} {o0 : Nat} {s : h_S} {Q : Int32 → h_S → Prop} (h : w_X12_fault o0 s Q) : h_M Z yX12_fault cX12_fault 1 (some .int) 0 0 [pR (some o0)] s 0 0 (h_QI Z Q) := by
  refine h_M.of (by decide) (Nat.le_of_ble_eq_true rfl) (fun X hZ hX hE hI => ?_)
  subst hZ
  unfold w_X12_fault at h
  show h_V X 1 0 [(0, pR (some o0))] [] s 0 0
  refine v_aload_n hX dX12_fault_0 0 rfl rfl ?_
  obtain ⟨k1, h⟩ := h
  refine v_getI hX dX12_fault_1 f_RX12_281 rfl k1 ?_
  exact v_iret hX hE dX12_fault_4 h
set_option maxRecDepth 100000 in
set_option maxHeartbeats 4000000 in
theorem m_X12_many {Z : h_Z} {o0 : Nat} {x1 : Int32} {s : h_S} {Q : Int32 → h_S → Prop} (h : w_X12_many o0 x1 s Q) : h_M Z yX12_many cX12_many 2 (some .int) 0 0 [pR (some o0), pI x1] s 0 0 (h_QI Z Q) := by
  refine h_M.of (by decide) (Nat.le_of_ble_eq_true rfl) (fun X hZ hX hE hI => ?_)
  subst hZ
  unfold w_X12_many at h
  show h_V X 2 0 [(0, pR (some o0)), (1, pI x1)] [] s 0 0
  refine v_iload_n hX dX12_many_0 1 rfl rfl ?_
  refine v_gen (fun q19 e_q19 => ?_)
  rw [← e_q19] at h
  by_cases c1 : q19 = (0 : Int32)
  · have h := h_T c1 h
    refine v_tabIn (tgt := 52) hX dX12_many_1 (by rw [c1]; decide) (by rw [c1]; decide) (by rw [c1]; rfl) (by decide) ?_
    refine v_aload_n hX dX12_many_52 0 rfl rfl ?_
    obtain ⟨k2, h⟩ := h
    refine v_getI hX dX12_many_53 f_RX12_288 rfl k2 ?_
    exact v_iret hX hE dX12_many_56 h
  · have h := h_E c1 h
    by_cases c3 : q19 = (1 : Int32)
    · have h := h_T c3 h
      refine v_tabIn (tgt := 57) hX dX12_many_1 (by rw [c3]; decide) (by rw [c3]; decide) (by rw [c3]; rfl) (by decide) ?_
      refine v_aload_n hX dX12_many_57 0 rfl rfl ?_
      obtain ⟨k4, h⟩ := h
      refine v_getI hX dX12_many_58 f_RX12_295 rfl k4 ?_
      exact v_iret hX hE dX12_many_61 h
    · have h := h_E c3 h
      by_cases c5 : q19 = (2 : Int32)
      · have h := h_T c5 h
        refine v_tabIn (tgt := 62) hX dX12_many_1 (by rw [c5]; decide) (by rw [c5]; decide) (by rw [c5]; rfl) (by decide) ?_
        refine v_aload_n hX dX12_many_62 0 rfl rfl ?_
        obtain ⟨k6, h⟩ := h
        refine v_getI hX dX12_many_63 f_RX12_314 rfl k6 ?_
        exact v_iret hX hE dX12_many_66 h
      · have h := h_E c5 h
        by_cases c7 : q19 = (3 : Int32)
        · have h := h_T c7 h
          refine v_tabIn (tgt := 67) hX dX12_many_1 (by rw [c7]; decide) (by rw [c7]; decide) (by rw [c7]; rfl) (by decide) ?_
          refine v_aload_n hX dX12_many_67 0 rfl rfl ?_
          obtain ⟨k8, h⟩ := h
          refine v_getI hX dX12_many_68 f_RX12_321 rfl k8 ?_
          exact v_iret hX hE dX12_many_71 h
        · have h := h_E c7 h
          by_cases c9 : q19 = (4 : Int32)
          · have h := h_T c9 h
            refine v_tabIn (tgt := 72) hX dX12_many_1 (by rw [c9]; decide) (by rw [c9]; decide) (by rw [c9]; rfl) (by decide) ?_
            refine v_aload_n hX dX12_many_72 0 rfl rfl ?_
            obtain ⟨k10, h⟩ := h
            refine v_getI hX dX12_many_73 f_RX12_455 rfl k10 ?_
            exact v_iret hX hE dX12_many_76 h
          · have h := h_E c9 h
            by_cases c11 : q19 = (5 : Int32)
            · have h := h_T c11 h
              refine v_tabIn (tgt := 77) hX dX12_many_1 (by rw [c11]; decide) (by rw [c11]; decide) (by rw [c11]; rfl) (by decide) ?_
              refine v_aload_n hX dX12_many_77 0 rfl rfl ?_
              obtain ⟨k12, h⟩ := h
              refine v_getI hX dX12_many_78 f_RX12_513 rfl k12 ?_
              exact v_iret hX hE dX12_many_81 h
            · have h := h_E c11 h
              by_cases c13 : q19 = (6 : Int32)
              · have h := h_T c13 h
                refine v_tabIn (tgt := 82) hX dX12_many_1 (by rw [c13]; decide) (by rw [c13]; decide) (by rw [c13]; rfl) (by decide) ?_
                refine v_aload_n hX dX12_many_82 0 rfl rfl ?_
                obtain ⟨k14, h⟩ := h
                refine v_getI hX dX12_many_83 f_RX12_537 rfl k14 ?_
                exact v_iret hX hE dX12_many_86 h
              · have h := h_E c13 h
                by_cases c15 : q19 = (7 : Int32)
                · have h := h_T c15 h
                  refine v_tabIn (tgt := 87) hX dX12_many_1 (by rw [c15]; decide) (by rw [c15]; decide) (by rw [c15]; rfl) (by decide) ?_
                  refine v_aload_n hX dX12_many_87 0 rfl rfl ?_
                  obtain ⟨k16, h⟩ := h
                  refine v_getI hX dX12_many_88 f_RX12_486 rfl k16 ?_
                  exact v_iret hX hE dX12_many_91 h
                · have h := h_E c15 h
                  by_cases c17 : q19 = (8 : Int32)
                  · have h := h_T c17 h
                    refine v_tabIn (tgt := 92) hX dX12_many_1 (by rw [c17]; decide) (by rw [c17]; decide) (by rw [c17]; rfl) (by decide) ?_
                    refine v_aload_n hX dX12_many_92 0 rfl rfl ?_
                    obtain ⟨k18, h⟩ := h
                    refine v_getI hX dX12_many_93 f_RX12_597 rfl k18 ?_
                    exact v_iret hX hE dX12_many_96 h
                  · have h := h_E c17 h
                    refine v_tabOut (tgt := 97) hX dX12_many_1 (by have := h_ti c1 (n := 0) rfl; have := h_ti c3 (n := 1) rfl; have := h_ti c5 (n := 2) rfl; have := h_ti c7 (n := 3) rfl; have := h_ti c9 (n := 4) rfl; have := h_ti c11 (n := 5) rfl; have := h_ti c13 (n := 6) rfl; have := h_ti c15 (n := 7) rfl; have := h_ti c17 (n := 8) rfl; omega) (by decide) ?_
                    refine v_bipush (v := -2) hX dX12_many_97 (by decide) ?_
                    exact v_iret hX hE dX12_many_99 h
