set_option maxRecDepth 100000 in
set_option maxHeartbeats 4000000 in
theorem b_X11_linksWith_36 {X : h_X} (hX : h_ok X cX11_linksWith 4 RX11 3 64) {Q : Int32 → h_S → Prop} (hE : h_end X (some .int) (h_QI (x_Z X) Q)) {K4 : Nat → Int32 → Int32 → Int32 → h_S → Prop} (hK4 : ∀ (o0 : Nat) (x1 : Int32) (x2 : Int32) (x3 : Int32) (s : h_S), K4 o0 x1 x2 x3 s → h_V X 4 4 [(0, pR (some o0)), (1, pI x1), (2, pI x2), (3, pI x3)] [] s 0 0) {o0 : Nat} {x1 : Int32} {x2 : Int32} {x3 : Int32} (s : h_S) (h : w_X11_linksWith_36 Q K4 o0 x1 x2 x3 s) : h_V X 4 36 [(0, pR (some o0)), (1, pI x1), (2, pI x2), (3, pI x3)] [] s 0 0 := by
  unfold w_X11_linksWith_36 at h
  refine v_iinc (c := 1) (lv' := [(3, _), (0, _), (1, _), (2, _)]) hX dX11_linksWith_36 3 rfl (by decide) (by decide) rfl ?_
  refine v_goto (tgt := 4) hX dX11_linksWith_39 (by decide) ?_
  refine v_pick [1, 2, 3, 0] rfl ?_
  exact hK4 _ _ _ _ _ h
set_option maxRecDepth 100000 in
set_option maxHeartbeats 4000000 in
theorem b_X11_linksWith_4 {X : h_X} (hX : h_ok X cX11_linksWith 4 RX11 3 64) {Q : Int32 → h_S → Prop} (hE : h_end X (some .int) (h_QI (x_Z X) Q)) : ∀ (n : Nat) (o0 : Nat) (x1 : Int32) (x2 : Int32) (x3 : Int32) (s : h_S), w_X11_linksWith_4 Q n o0 x1 x2 x3 s → h_V X 4 4 [(0, pR (some o0)), (1, pI x1), (2, pI x2), (3, pI x3)] [] s 0 0 := by
  intro n
  induction n with
  | zero => intro _ _ _ _ s h; exact h.elim
  | succ n hK4 =>
    intro o0 x1 x2 x3 s h
    have h : w_X11_linksWith_4b Q (w_X11_linksWith_4 Q n) o0 x1 x2 x3 s := h
    unfold w_X11_linksWith_4b at h
    refine v_iload_n hX dX11_linksWith_4 3 rfl rfl ?_
    refine v_aload_n hX dX11_linksWith_5 0 rfl rfl ?_
    obtain ⟨k1, h⟩ := h
    refine v_getR hX dX11_linksWith_6 f_RX11_35 rfl k1 ?_
    obtain ⟨a2, e_a2, h⟩ := h
    refine v_nn0 e_a2 ?_
    obtain ⟨k3, h⟩ := h
    refine v_callVi0 hX dX11_linksWith_9 c_RX11_244 cV_Jx4a65c_size_8abf5 (ci := 0) (T := TJx4a65c) (N := 3) rfl (by exact k3) [] rfl rfl (Nat.le_of_ble_eq_true rfl) (by decide) (by decide)  (m_Jx4a65c_size_8abf5 h) (fun p5 s4 h => ?_)
    refine v_icmp_ge (tgt := 42) hX dX11_linksWith_12 (by decide) (fun c6 => ?_) (fun c6 => ?_)
    · have h := h_T c6 h
      refine v_iload_n hX dX11_linksWith_42 2 rfl rfl ?_
      exact v_iret hX hE dX11_linksWith_43 h
    · have h := h_E c6 h
      refine v_aload_n hX dX11_linksWith_15 0 rfl rfl ?_
      obtain ⟨k7, h⟩ := h
      refine v_getR hX dX11_linksWith_16 f_RX11_35 rfl k7 ?_
      refine v_iload_n hX dX11_linksWith_19 3 rfl rfl ?_
      obtain ⟨a8, e_a8, h⟩ := h
      refine v_nn1 e_a8 ?_
      obtain ⟨k9, h⟩ := h
      refine v_callVr0 hX dX11_linksWith_20 c_RX11_312 cV_Jx4a65c_get_915e3 (ci := 0) (T := TJx4a65c) (N := 3) rfl (by exact k9) [pI _] rfl rfl (Nat.le_of_ble_eq_true rfl) (by decide) (by decide)  (m_Jx4a65c_get_915e3 h) (fun p11 s10 h => ?_)
      obtain ⟨b12, h⟩ := h
      refine v_cast (ci := 2) hX dX11_linksWith_23 kl_RX11_345 rfl b12 ?_
      refine v_iload_n hX dX11_linksWith_26 1 rfl rfl ?_
      obtain ⟨a13, e_a13, h⟩ := h
      refine v_nn1 e_a13 ?_
      obtain ⟨k14, h⟩ := h
      refine v_callVi0 hX dX11_linksWith_27 c_RX11_466 cV_X1_holds (ci := 2) (T := TX1) (N := 4) rfl (by exact k14) [pI _] rfl rfl (Nat.le_of_ble_eq_true rfl) (by decide) (by decide)  (m_X1_holds h) (fun p16 s15 h => ?_)
      refine v_if_eq (tgt := 36) hX dX11_linksWith_30 (by decide) (fun c17 => ?_) (fun c17 => ?_)
      · have h := h_T c17 h
        refine v_pick [0, 1, 2, 3] rfl ?_
        exact b_X11_linksWith_36 hX hE hK4 _ h
      · have h := h_E c17 h
        refine v_iinc (c := 1) (lv' := [(2, _), (0, _), (1, _), (3, _)]) hX dX11_linksWith_33 2 rfl (by decide) (by decide) rfl ?_
        refine v_pick [1, 2, 0, 3] rfl ?_
        exact b_X11_linksWith_36 hX hE hK4 _ h
set_option maxRecDepth 100000 in
set_option maxHeartbeats 4000000 in
theorem m_X11_linksWith {Z : h_Z} {o0 : Nat} {x1 : Int32} {s : h_S} {Q : Int32 → h_S → Prop} (h : w_X11_linksWith o0 x1 s Q) : h_M Z yX11_linksWith cX11_linksWith 4 (some .int) 3 64 [pR (some o0), pI x1] s 0 0 (h_QI Z Q) := by
  refine h_M.of (by decide) (Nat.le_of_ble_eq_true rfl) (fun X hZ hX hE hI => ?_)
  subst hZ
  unfold w_X11_linksWith at h
  show h_V X 4 0 [(0, pR (some o0)), (1, pI x1)] [] s 0 0
  refine v_iconst (v := 0) hX dX11_linksWith_0 (by decide) ?_
  refine v_istore_n (lv' := [(2, _), (0, _), (1, _)]) hX dX11_linksWith_1 rfl (by decide) rfl ?_
  refine v_iconst (v := 0) hX dX11_linksWith_2 (by decide) ?_
  refine v_istore_n (lv' := [(3, _), (2, _), (0, _), (1, _)]) hX dX11_linksWith_3 rfl (by decide) rfl ?_
  refine v_pick [2, 3, 1, 0] rfl ?_
  obtain ⟨n, h⟩ := h
  exact b_X11_linksWith_4 hX hE n _ _ _ _ _ h
set_option maxRecDepth 100000 in
set_option maxHeartbeats 4000000 in
theorem m_X11_linksOfHit {Z : h_Z} {x0 : Int32} {s : h_S} {Q : Int32 → h_S → Prop} (h : w_X11_linksOfHit x0 s Q) : h_M Z yX11_linksOfHit cX11_linksOfHit 1 (some .int) 1 60 [pI x0] s 0 0 (h_QI Z Q) := by
  refine h_M.of (by decide) (Nat.le_of_ble_eq_true rfl) (fun X hZ hX hE hI => ?_)
  subst hZ
  unfold w_X11_linksOfHit at h
  show h_V X 1 0 [(0, pI x0)] [] s 0 0
  refine v_iload_n hX dX11_linksOfHit_0 0 rfl rfl ?_
  refine v_sipush (v := 4800) hX dX11_linksOfHit_1 (by decide) ?_
  have z1 : ¬ (4800 : Int32) = 0 := by decide
  refine v_idiv hX dX11_linksOfHit_4 z1 ?_
  refine v_bipush (v := 24) hX dX11_linksOfHit_5 (by decide) ?_
  refine v_min hX dX11_linksOfHit_7 mm_min_RX11_472 (by decide) (Nat.le_of_ble_eq_true rfl) ?_
  exact v_iret hX hE dX11_linksOfHit_10 h
set_option maxRecDepth 100000 in
set_option maxHeartbeats 4000000 in
theorem b_X11_keepHits_113 {X : h_X} (hX : h_ok X cX11_keepHits 6 RX11 2 80) {Q : h_S → Prop} (hE : h_end X none (h_QV (x_Z X) Q)) {K69 : Nat → Int32 → Nat → Int32 → h_S → Nat → Nat → Prop} (hK69 : ∀ (o0 : Nat) (x1 : Int32) (o2 : Nat) (x4 : Int32) (s : h_S) (bc bs : Nat), K69 o0 x1 o2 x4 s bc bs → h_V X 6 69 [(0, pR (some o0)), (1, pI x1), (2, pR (some o2)), (4, pI x4)] [] s bc bs) {o0 : Nat} {x1 : Int32} {o2 : Nat} {x4 : Int32} {x5 : Int32} (s : h_S) {bc bs : Nat} (h : w_X11_keepHits_113 Q K69 o0 x1 o2 x4 x5 s bc bs) : h_V X 6 113 [(0, pR (some o0)), (1, pI x1), (2, pR (some o2)), (4, pI x4), (5, pI x5)] [] s bc bs := by
  unfold w_X11_keepHits_113 at h
  refine v_aload_n hX dX11_keepHits_113 2 rfl rfl ?_
  refine v_iload hX dX11_keepHits_114 4 rfl ?_
  refine v_dup2 hX dX11_keepHits_116 rfl rfl ?_
  obtain ⟨k1, h⟩ := h
  obtain ⟨i2, h⟩ := h
  refine v_iald hX dX11_keepHits_117 k1 i2 ?_
  refine v_iconst (v := 1) hX dX11_keepHits_118 (by decide) ?_
  refine v_iadd hX dX11_keepHits_119 ?_
  obtain ⟨i3, h⟩ := h
  refine v_iast hX dX11_keepHits_120 k1 i3 ?_
  refine v_iinc (c := 1) (lv' := [(4, _), (0, _), (1, _), (2, _), (5, _)]) hX dX11_keepHits_121 3 rfl (by decide) (by decide) rfl ?_
  refine v_goto (tgt := 69) hX dX11_keepHits_124 (by decide) ?_
  refine v_pick [1, 2, 3, 0] rfl ?_
  exact hK69 _ _ _ _ _ _ _ h
set_option maxRecDepth 100000 in
set_option maxHeartbeats 4000000 in
theorem b_X11_keepHits_69 {X : h_X} (hX : h_ok X cX11_keepHits 6 RX11 2 80) {Q : h_S → Prop} (hE : h_end X none (h_QV (x_Z X) Q)) : ∀ (n : Nat) (o0 : Nat) (x1 : Int32) (o2 : Nat) (x4 : Int32) (s : h_S) (bc bs : Nat), w_X11_keepHits_69 Q n o0 x1 o2 x4 s bc bs → h_V X 6 69 [(0, pR (some o0)), (1, pI x1), (2, pR (some o2)), (4, pI x4)] [] s bc bs := by
  intro n
  induction n with
  | zero => intro _ _ _ _ s bc bs h; exact h.elim
  | succ n hK69 =>
    intro o0 x1 o2 x4 s bc bs h
    have h : w_X11_keepHits_69b Q (w_X11_keepHits_69 Q n) o0 x1 o2 x4 s bc bs := h
    unfold w_X11_keepHits_69b at h
    refine v_iload hX dX11_keepHits_69 3 rfl ?_
    refine v_iload_n hX dX11_keepHits_71 1 rfl rfl ?_
    refine v_icmp_ge (tgt := 127) hX dX11_keepHits_72 (by decide) (fun c1 => ?_) (fun c1 => ?_)
    · have h := h_T c1 h
      refine v_aload_n hX dX11_keepHits_127 0 rfl rfl ?_
      refine v_iload_n hX dX11_keepHits_128 1 rfl rfl ?_
      refine v_sipush (v := 200) hX dX11_keepHits_129 (by decide) ?_
      refine v_min hX dX11_keepHits_132 mm_min_RX11_472 (by decide) (Nat.le_of_ble_eq_true rfl) ?_
      obtain ⟨k2, h⟩ := h
      refine v_putI hX dX11_keepHits_135 f_RX11_477 k2 ?_
      exact v_vret hX hE dX11_keepHits_138 h
    · have h := h_E c1 h
      refine v_aload_n hX dX11_keepHits_75 0 rfl rfl ?_
      obtain ⟨k4, h⟩ := h
      refine v_getR hX dX11_keepHits_76 f_RX11_61 rfl k4 ?_
      refine v_iload hX dX11_keepHits_79 3 rfl ?_
      obtain ⟨a5, e_a5, h⟩ := h
      refine v_nn1 e_a5 ?_
      obtain ⟨k6, h⟩ := h
      obtain ⟨i7, h⟩ := h
      refine v_iald hX dX11_keepHits_81 k6 i7 ?_
      refine v_callSi0 hX dX11_keepHits_82 c_RX11_469 cS_X11_linksOfHit [pI _] rfl rfl (Nat.le_of_ble_eq_true rfl) (by decide) (by decide)  (m_X11_linksOfHit h) (fun p9 s8 h => ?_)
      refine v_istore (lv' := [(5, _), (0, _), (1, _), (2, _), (4, _)]) hX dX11_keepHits_85 (by decide) rfl ?_
      refine v_aload_n hX dX11_keepHits_87 3 rfl rfl ?_
      refine v_iload hX dX11_keepHits_88 0 rfl ?_
      obtain ⟨k10, h⟩ := h
      obtain ⟨i11, h⟩ := h
      refine v_iald hX dX11_keepHits_90 k10 i11 ?_
      refine v_sipush (v := 200) hX dX11_keepHits_91 (by decide) ?_
      refine v_icmp_ge (tgt := 113) hX dX11_keepHits_94 (by decide) (fun c12 => ?_) (fun c12 => ?_)
      · have h := h_T c12 h
        refine v_pick [1, 2, 3, 4, 0] rfl ?_
        exact b_X11_keepHits_113 hX hE hK69 _ h
      · have h := h_E c12 h
        refine v_aload_n hX dX11_keepHits_97 1 rfl rfl ?_
        obtain ⟨k13, h⟩ := h
        refine v_getR hX dX11_keepHits_98 f_RX11_64 rfl k13 ?_
        refine v_aload_n hX dX11_keepHits_101 3 rfl rfl ?_
        refine v_iload hX dX11_keepHits_102 0 rfl ?_
        obtain ⟨i14, h⟩ := h
        refine v_iald hX dX11_keepHits_104 k10 i14 ?_
        refine v_aload_n hX dX11_keepHits_105 1 rfl rfl ?_
        refine v_getR hX dX11_keepHits_106 f_RX11_61 rfl k13 ?_
        refine v_iload hX dX11_keepHits_109 4 rfl ?_
        obtain ⟨a15, e_a15, h⟩ := h
        refine v_nn1 e_a15 ?_
        obtain ⟨k16, h⟩ := h
        obtain ⟨i17, h⟩ := h
        refine v_iald hX dX11_keepHits_111 k16 i17 ?_
        obtain ⟨a18, e_a18, h⟩ := h
        refine v_nn2 e_a18 ?_
        obtain ⟨k19, h⟩ := h
        obtain ⟨i20, h⟩ := h
        refine v_iast hX dX11_keepHits_112 k19 i20 ?_
        refine v_pick [1, 2, 3, 4, 0] rfl ?_
        exact b_X11_keepHits_113 hX hE hK69 _ h
set_option maxRecDepth 100000 in
set_option maxHeartbeats 4000000 in
theorem b_X11_keepHits_39 {X : h_X} (hX : h_ok X cX11_keepHits 6 RX11 2 80) {Q : h_S → Prop} (hE : h_end X none (h_QV (x_Z X) Q)) : ∀ (n : Nat) (o0 : Nat) (x1 : Int32) (o2 : Nat) (x3 : Int32) (x4 : Int32) (s : h_S) (bc bs : Nat), w_X11_keepHits_39 Q n o0 x1 o2 x3 x4 s bc bs → h_V X 6 39 [(0, pR (some o0)), (1, pI x1), (2, pR (some o2)), (3, pI x3), (4, pI x4)] [] s bc bs := by
  intro n
  induction n with
  | zero => intro _ _ _ _ _ s bc bs h; exact h.elim
  | succ n hK39 =>
    intro o0 x1 o2 x3 x4 s bc bs h
    have h : w_X11_keepHits_39b Q (w_X11_keepHits_39 Q n) o0 x1 o2 x3 x4 s bc bs := h
    unfold w_X11_keepHits_39b at h
    refine v_iload hX dX11_keepHits_39 4 rfl ?_
    refine v_if_lt (tgt := 66) hX dX11_keepHits_41 (by decide) (fun c1 => ?_) (fun c1 => ?_)
    · have h := h_T c1 h
      refine v_iconst (v := 0) hX dX11_keepHits_66 (by decide) ?_
      refine v_istore (lv' := [(4, _), (0, _), (1, _), (2, _), (3, _)]) hX dX11_keepHits_67 (by decide) rfl ?_
      refine v_pick [1, 2, 3, 0] rfl ?_
      obtain ⟨n, h⟩ := h
      exact b_X11_keepHits_69 hX hE n _ _ _ _ _ _ _ h
    · have h := h_E c1 h
      refine v_aload_n hX dX11_keepHits_44 2 rfl rfl ?_
      refine v_iload hX dX11_keepHits_45 4 rfl ?_
      obtain ⟨k2, h⟩ := h
      obtain ⟨i3, h⟩ := h
      refine v_iald hX dX11_keepHits_47 k2 i3 ?_
      refine v_istore (lv' := [(5, _), (0, _), (1, _), (2, _), (3, _), (4, _)]) hX dX11_keepHits_48 (by decide) rfl ?_
      refine v_aload_n hX dX11_keepHits_50 3 rfl rfl ?_
      refine v_iload hX dX11_keepHits_51 5 rfl ?_
      refine v_iload_n hX dX11_keepHits_53 4 rfl rfl ?_
      obtain ⟨i4, h⟩ := h
      refine v_iast hX dX11_keepHits_54 k2 i4 ?_
      refine v_iload_n hX dX11_keepHits_55 4 rfl rfl ?_
      refine v_iload hX dX11_keepHits_56 0 rfl ?_
      refine v_iadd hX dX11_keepHits_58 ?_
      refine v_istore_n (lv' := [(3, _), (5, _), (0, _), (1, _), (2, _), (4, _)]) hX dX11_keepHits_59 rfl (by decide) rfl ?_
      refine v_iinc (c := -1) (lv' := [(4, _), (3, _), (5, _), (0, _), (1, _), (2, _)]) hX dX11_keepHits_60 5 rfl (by decide) (by decide) rfl ?_
      refine v_goto (tgt := 39) hX dX11_keepHits_63 (by decide) ?_
      refine v_pick [3, 4, 5, 1, 0] rfl ?_
      exact hK39 _ _ _ _ _ _ _ _ h
set_option maxRecDepth 100000 in
set_option maxHeartbeats 4000000 in
theorem b_X11_keepHits_7 {X : h_X} (hX : h_ok X cX11_keepHits 6 RX11 2 80) {Q : h_S → Prop} (hE : h_end X none (h_QV (x_Z X) Q)) : ∀ (n : Nat) (o0 : Nat) (x1 : Int32) (o2 : Nat) (x3 : Int32) (s : h_S) (bc bs : Nat), w_X11_keepHits_7 Q n o0 x1 o2 x3 s bc bs → h_V X 6 7 [(0, pR (some o0)), (1, pI x1), (2, pR (some o2)), (3, pI x3)] [] s bc bs := by
  intro n
  induction n with
  | zero => intro _ _ _ _ s bc bs h; exact h.elim
  | succ n hK7 =>
    intro o0 x1 o2 x3 s bc bs h
    have h : w_X11_keepHits_7b Q (w_X11_keepHits_7 Q n) o0 x1 o2 x3 s bc bs := h
    unfold w_X11_keepHits_7b at h
    refine v_iload_n hX dX11_keepHits_7 3 rfl rfl ?_
    refine v_iload_n hX dX11_keepHits_8 1 rfl rfl ?_
    refine v_icmp_ge (tgt := 33) hX dX11_keepHits_9 (by decide) (fun c1 => ?_) (fun c1 => ?_)
    · have h := h_T c1 h
      refine v_iconst (v := 0) hX dX11_keepHits_33 (by decide) ?_
      refine v_istore_n (lv' := [(3, _), (0, _), (1, _), (2, _)]) hX dX11_keepHits_34 rfl (by decide) rfl ?_
      refine v_bipush (v := 24) hX dX11_keepHits_35 (by decide) ?_
      refine v_istore (lv' := [(4, _), (3, _), (0, _), (1, _), (2, _)]) hX dX11_keepHits_37 (by decide) rfl ?_
      refine v_pick [2, 3, 4, 1, 0] rfl ?_
      obtain ⟨n, h⟩ := h
      exact b_X11_keepHits_39 hX hE n _ _ _ _ _ _ _ _ h
    · have h := h_E c1 h
      refine v_aload_n hX dX11_keepHits_12 2 rfl rfl ?_
      refine v_aload_n hX dX11_keepHits_13 0 rfl rfl ?_
      obtain ⟨k2, h⟩ := h
      refine v_getR hX dX11_keepHits_14 f_RX11_61 rfl k2 ?_
      refine v_iload_n hX dX11_keepHits_17 3 rfl rfl ?_
      obtain ⟨a3, e_a3, h⟩ := h
      refine v_nn1 e_a3 ?_
      obtain ⟨k4, h⟩ := h
      obtain ⟨i5, h⟩ := h
      refine v_iald hX dX11_keepHits_18 k4 i5 ?_
      refine v_callSi0 hX dX11_keepHits_19 c_RX11_469 cS_X11_linksOfHit [pI _] rfl rfl (Nat.le_of_ble_eq_true rfl) (by decide) (by decide)  (m_X11_linksOfHit h) (fun p7 s6 h => ?_)
      refine v_dup2 hX dX11_keepHits_22 rfl rfl ?_
      obtain ⟨k8, h⟩ := h
      obtain ⟨i9, h⟩ := h
      refine v_iald hX dX11_keepHits_23 k8 i9 ?_
      refine v_iconst (v := 1) hX dX11_keepHits_24 (by decide) ?_
      refine v_iadd hX dX11_keepHits_25 ?_
      obtain ⟨i10, h⟩ := h
      refine v_iast hX dX11_keepHits_26 k8 i10 ?_
      refine v_iinc (c := 1) (lv' := [(3, _), (0, _), (1, _), (2, _)]) hX dX11_keepHits_27 3 rfl (by decide) (by decide) rfl ?_
      refine v_goto (tgt := 7) hX dX11_keepHits_30 (by decide) ?_
      refine v_pick [1, 2, 3, 0] rfl ?_
      exact hK7 _ _ _ _ _ _ _ h
set_option maxRecDepth 100000 in
set_option maxHeartbeats 4000000 in
theorem m_X11_keepHits {Z : h_Z} {o0 : Nat} {x1 : Int32} {s : h_S} {mc ms : Nat} {Q : h_S → Prop} (h : w_X11_keepHits o0 x1 s mc ms Q) : h_M Z yX11_keepHits cX11_keepHits 6 none 2 80 [pR (some o0), pI x1] s mc ms (h_QV Z Q) := by
  refine h_M.of (by decide) (Nat.le_of_ble_eq_true rfl) (fun X hZ hX hE hI => ?_)
  subst hZ
  unfold w_X11_keepHits at h
  show h_V X 6 0 [(0, pR (some o0)), (1, pI x1)] [] s mc ms
  refine v_bipush (v := 26) hX dX11_keepHits_0 (by decide) ?_
  obtain ⟨b3, b4, h⟩ := h
  refine v_newI (N := 26) hX dX11_keepHits_2 ac_int (by decide) (by decide) (by decide) b3 b4 (fun q1 k2 => ?_)
  have h := h q1 k2
  refine v_astore_n (lv' := [(2, _), (0, _), (1, _)]) hX dX11_keepHits_4 rfl (by decide) rfl ?_
  refine v_iconst (v := 0) hX dX11_keepHits_5 (by decide) ?_
  refine v_istore_n (lv' := [(3, _), (2, _), (0, _), (1, _)]) hX dX11_keepHits_6 rfl (by decide) rfl ?_
  refine v_pick [2, 3, 1, 0] rfl ?_
  obtain ⟨n, h⟩ := h
  exact b_X11_keepHits_7 hX hE n _ _ _ _ _ _ _ h
set_option maxRecDepth 100000 in
set_option maxHeartbeats 4000000 in
theorem b_X11_seek_21 {X : h_X} (hX : h_ok X cX11_seek 12 RX11 7 166) {Q : Int32 → h_S → Prop} (hE : h_end X (some .int) (h_QI (x_Z X) Q)) (s : h_S) {bc bs : Nat} (h : w_X11_seek_21 Q s bc bs) : h_V X 12 21 [] [] s bc bs := by
  unfold w_X11_seek_21 at h
  refine v_iconst (v := -1) hX dX11_seek_21 (by decide) ?_
  exact v_iret hX hE dX11_seek_22 h
set_option maxRecDepth 100000 in
set_option maxHeartbeats 4000000 in
theorem b_X11_seek_181 {X : h_X} (hX : h_ok X cX11_seek 12 RX11 7 166) {Q : Int32 → h_S → Prop} (hE : h_end X (some .int) (h_QI (x_Z X) Q)) {K57 : Nat → Int32 → Int32 → Int32 → Int32 → Int32 → Int32 → h_S → Nat → Nat → Prop} (hK57 : ∀ (o0 : Nat) (x1 : Int32) (x2 : Int32) (x4 : Int32) (x5 : Int32) (x7 : Int32) (x8 : Int32) (s : h_S) (bc bs : Nat), K57 o0 x1 x2 x4 x5 x7 x8 s bc bs → h_V X 12 57 [(0, pR (some o0)), (1, pI x1), (2, pI x2), (4, pI x4), (5, pI x5), (7, pI x7), (8, pI x8)] [] s bc bs) {K99 : Nat → Int32 → Int32 → Int32 → Int32 → Int32 → Int32 → Option Nat → Int32 → Int32 → h_S → Nat → Nat → Prop} (hK99 : ∀ (o0 : Nat) (x1 : Int32) (x2 : Int32) (x4 : Int32) (x5 : Int32) (x7 : Int32) (x8 : Int32) (r9 : Option Nat) (x10 : Int32) (x11 : Int32) (s : h_S) (bc bs : Nat), K99 o0 x1 x2 x4 x5 x7 x8 r9 x10 x11 s bc bs → h_V X 12 99 [(0, pR (some o0)), (1, pI x1), (2, pI x2), (4, pI x4), (5, pI x5), (7, pI x7), (8, pI x8), (9, pR r9), (10, pI x10), (11, pI x11)] [] s bc bs) {o0 : Nat} {x1 : Int32} {x2 : Int32} {x4 : Int32} {x5 : Int32} {x7 : Int32} {x8 : Int32} {r9 : Option Nat} {x10 : Int32} {x11 : Int32} (s : h_S) {bc bs : Nat} (h : w_X11_seek_181 Q K57 K99 o0 x1 x2 x4 x5 x7 x8 r9 x10 x11 s bc bs) : h_V X 12 181 [(0, pR (some o0)), (1, pI x1), (2, pI x2), (4, pI x4), (5, pI x5), (7, pI x7), (8, pI x8), (9, pR r9), (10, pI x10), (11, pI x11)] [] s bc bs := by
  unfold w_X11_seek_181 at h
  refine v_iinc (c := 1) (lv' := [(11, _), (0, _), (1, _), (2, _), (4, _), (5, _), (7, _), (8, _), (9, _), (10, _)]) hX dX11_seek_181 9 rfl (by decide) (by decide) rfl ?_
  refine v_goto (tgt := 99) hX dX11_seek_184 (by decide) ?_
  refine v_pick [1, 2, 3, 4, 5, 6, 7, 8, 9, 0] rfl ?_
  exact hK99 _ _ _ _ _ _ _ _ _ _ _ _ _ h
set_option maxRecDepth 100000 in
set_option maxHeartbeats 4000000 in
theorem b_X11_seek_99 {X : h_X} (hX : h_ok X cX11_seek 12 RX11 7 166) {Q : Int32 → h_S → Prop} (hE : h_end X (some .int) (h_QI (x_Z X) Q)) {K57 : Nat → Int32 → Int32 → Int32 → Int32 → Int32 → Int32 → h_S → Nat → Nat → Prop} (hK57 : ∀ (o0 : Nat) (x1 : Int32) (x2 : Int32) (x4 : Int32) (x5 : Int32) (x7 : Int32) (x8 : Int32) (s : h_S) (bc bs : Nat), K57 o0 x1 x2 x4 x5 x7 x8 s bc bs → h_V X 12 57 [(0, pR (some o0)), (1, pI x1), (2, pI x2), (4, pI x4), (5, pI x5), (7, pI x7), (8, pI x8)] [] s bc bs) : ∀ (n : Nat) (o0 : Nat) (x1 : Int32) (x2 : Int32) (x4 : Int32) (x5 : Int32) (x7 : Int32) (x8 : Int32) (r9 : Option Nat) (x10 : Int32) (x11 : Int32) (s : h_S) (bc bs : Nat), w_X11_seek_99 Q K57 n o0 x1 x2 x4 x5 x7 x8 r9 x10 x11 s bc bs → h_V X 12 99 [(0, pR (some o0)), (1, pI x1), (2, pI x2), (4, pI x4), (5, pI x5), (7, pI x7), (8, pI x8), (9, pR r9), (10, pI x10), (11, pI x11)] [] s bc bs := by
  intro n
  induction n with
  | zero => intro _ _ _ _ _ _ _ _ _ _ s bc bs h; exact h.elim
  | succ n hK99 =>
    intro o0 x1 x2 x4 x5 x7 x8 r9 x10 x11 s bc bs h
    have h : w_X11_seek_99b Q K57 (w_X11_seek_99 Q K57 n) o0 x1 x2 x4 x5 x7 x8 r9 x10 x11 s bc bs := h
    unfold w_X11_seek_99b at h
    refine v_iload hX dX11_seek_99 9 rfl ?_
    refine v_aload hX dX11_seek_101 7 rfl ?_
    obtain ⟨a1, e_a1, h⟩ := h
    refine v_nn0 e_a1 ?_
    obtain ⟨k2, h⟩ := h
    refine v_getR hX dX11_seek_103 f_RX11_270 rfl k2 ?_
    obtain ⟨a3, e_a3, h⟩ := h
    refine v_nn0 e_a3 ?_
    obtain ⟨k4, h⟩ := h
    refine v_alenK hX dX11_seek_106 (k := 1) rfl (by decide) (by decide) k4 ?_
    refine v_iload hX dX11_seek_107 4 rfl ?_
    refine v_isub hX dX11_seek_109 ?_
    refine v_icmp_gt (tgt := 187) hX dX11_seek_110 (by decide) (fun c5 => ?_) (fun c5 => ?_)
    · have h := h_T c5 h
      refine v_iinc (c := 1) (lv' := [(8, _), (0, _), (1, _), (2, _), (4, _), (5, _), (7, _), (9, _), (10, _), (11, _)]) hX dX11_seek_187 6 rfl (by decide) (by decide) rfl ?_
      refine v_goto (tgt := 57) hX dX11_seek_190 (by decide) ?_
      refine v_pick [1, 2, 3, 4, 5, 6, 0] rfl ?_
      exact hK57 _ _ _ _ _ _ _ _ _ _ h
    · have h := h_E c5 h
      refine v_iload hX dX11_seek_113 5 rfl ?_
      refine v_aload_n hX dX11_seek_115 0 rfl rfl ?_
      obtain ⟨k6, h⟩ := h
      refine v_getR hX dX11_seek_116 f_RX11_61 rfl k6 ?_
      obtain ⟨a7, e_a7, h⟩ := h
      refine v_nn0 e_a7 ?_
      obtain ⟨k8, h⟩ := h
      refine v_alenK hX dX11_seek_119 (k := 1) rfl (by decide) (by decide) k8 ?_
      refine v_icmp_ge (tgt := 181) hX dX11_seek_120 (by decide) (fun c9 => ?_) (fun c9 => ?_)
      · have h := h_T c9 h
        refine v_pick [0, 1, 2, 3, 4, 5, 6, 7, 8, 9] rfl ?_
        exact b_X11_seek_181 hX hE hK57 hK99 _ h
      · have h := h_E c9 h
        refine v_aload_n hX dX11_seek_123 0 rfl rfl ?_
        refine v_aload hX dX11_seek_124 7 rfl ?_
        refine v_iload hX dX11_seek_126 9 rfl ?_
        refine v_iload hX dX11_seek_128 8 rfl ?_
        refine v_aload_n hX dX11_seek_130 0 rfl rfl ?_
        refine v_getR hX dX11_seek_131 f_RX11_43 rfl k6 ?_
        refine v_iload_n hX dX11_seek_134 2 rfl rfl ?_
        obtain ⟨a10, e_a10, h⟩ := h
        refine v_nn1 e_a10 ?_
        obtain ⟨k11, h⟩ := h
        obtain ⟨i12, h⟩ := h
        refine v_aald (k := 5) hX dX11_seek_135 rfl rfl (by decide) (by decide) k11 i12 ?_
        refine v_iload hX dX11_seek_136 3 rfl ?_
        refine v_iload hX dX11_seek_138 4 rfl ?_
        refine v_callVi0 hX dX11_seek_140 c_RX11_449 cV_X11_standsAt (ci := 12) (T := TX11) (N := 19) rfl (by exact k6) [pR _, pI _, pI _, pR _, pI _, pI _] rfl rfl (Nat.le_of_ble_eq_true rfl) (by decide) (by decide)  (m_X11_standsAt h) (fun p14 s13 h => ?_)
        refine v_if_eq (tgt := 181) hX dX11_seek_143 (by decide) (fun c15 => ?_) (fun c15 => ?_)
        · have h := h_T c15 h
          refine v_pick [0, 1, 2, 3, 4, 5, 6, 7, 8, 9] rfl ?_
          exact b_X11_seek_181 hX hE hK57 hK99 _ h
        · have h := h_E c15 h
          refine v_aload_n hX dX11_seek_146 0 rfl rfl ?_
          obtain ⟨k16, h⟩ := h
          refine v_getR hX dX11_seek_147 f_RX11_61 rfl k16 ?_
          refine v_iload hX dX11_seek_150 5 rfl ?_
          refine v_aload_n hX dX11_seek_152 0 rfl rfl ?_
          refine v_aload hX dX11_seek_153 7 rfl ?_
          obtain ⟨a17, e_a17, h⟩ := h
          refine v_nn0 e_a17 ?_
          obtain ⟨k18, h⟩ := h
          refine v_getR hX dX11_seek_155 f_RX11_270 rfl k18 ?_
          refine v_iload hX dX11_seek_158 9 rfl ?_
          obtain ⟨a19, e_a19, h⟩ := h
          refine v_nn1 e_a19 ?_
          obtain ⟨k20, h⟩ := h
          obtain ⟨i21, h⟩ := h
          refine v_iald hX dX11_seek_160 k20 i21 ?_
          refine v_callVi0 hX dX11_seek_161 c_RX11_453 cV_X11_linksWith (ci := 12) (T := TX11) (N := 19) rfl (by exact k16) [pI _] rfl rfl (Nat.le_of_ble_eq_true rfl) (by decide) (by decide)  (m_X11_linksWith h) (fun p23 s22 h => ?_)
          refine v_bipush (v := 16) hX dX11_seek_164 (by decide) ?_
          refine v_imul hX dX11_seek_166 ?_
          refine v_iload hX dX11_seek_167 6 rfl ?_
          refine v_iadd hX dX11_seek_169 ?_
          refine v_sipush (v := 300) hX dX11_seek_170 (by decide) ?_
          refine v_imul hX dX11_seek_173 ?_
          refine v_iload hX dX11_seek_174 9 rfl ?_
          refine v_iadd hX dX11_seek_176 ?_
          obtain ⟨a24, e_a24, h⟩ := h
          refine v_nn2 e_a24 ?_
          obtain ⟨k25, h⟩ := h
          obtain ⟨i26, h⟩ := h
          refine v_iast hX dX11_seek_177 k25 i26 ?_
          refine v_iinc (c := 1) (lv' := [(7, _), (0, _), (1, _), (2, _), (4, _), (5, _), (8, _), (9, _), (10, _), (11, _)]) hX dX11_seek_178 5 rfl (by decide) (by decide) rfl ?_
          refine v_pick [1, 2, 3, 4, 5, 0, 6, 7, 8, 9] rfl ?_
          exact b_X11_seek_181 hX hE hK57 hK99 _ h
set_option maxRecDepth 100000 in
set_option maxHeartbeats 4000000 in
theorem b_X11_seek_57 {X : h_X} (hX : h_ok X cX11_seek 12 RX11 7 166) {Q : Int32 → h_S → Prop} (hE : h_end X (some .int) (h_QI (x_Z X) Q)) : ∀ (n : Nat) (o0 : Nat) (x1 : Int32) (x2 : Int32) (x4 : Int32) (x5 : Int32) (x7 : Int32) (x8 : Int32) (s : h_S) (bc bs : Nat), w_X11_seek_57 Q n o0 x1 x2 x4 x5 x7 x8 s bc bs → h_V X 12 57 [(0, pR (some o0)), (1, pI x1), (2, pI x2), (4, pI x4), (5, pI x5), (7, pI x7), (8, pI x8)] [] s bc bs := by
  intro n
  induction n with
  | zero => intro _ _ _ _ _ _ _ s bc bs h; exact h.elim
  | succ n hK57 =>
    intro o0 x1 x2 x4 x5 x7 x8 s bc bs h
    have h : w_X11_seek_57b Q (w_X11_seek_57 Q n) o0 x1 x2 x4 x5 x7 x8 s bc bs := h
    unfold w_X11_seek_57b at h
    refine v_iload hX dX11_seek_57 6 rfl ?_
    refine v_aload_n hX dX11_seek_59 0 rfl rfl ?_
    obtain ⟨k1, h⟩ := h
    refine v_getR hX dX11_seek_60 f_RX11_28 rfl k1 ?_
    obtain ⟨a2, e_a2, h⟩ := h
    refine v_nn0 e_a2 ?_
    obtain ⟨k3, h⟩ := h
    refine v_callVi0 hX dX11_seek_63 c_RX11_244 cV_Jx4a65c_size_8abf5 (ci := 0) (T := TJx4a65c) (N := 3) rfl (by exact k3) [] rfl rfl (Nat.le_of_ble_eq_true rfl) (by decide) (by decide)  (m_Jx4a65c_size_8abf5 h) (fun p5 s4 h => ?_)
    refine v_icmp_ge (tgt := 193) hX dX11_seek_66 (by decide) (fun c6 => ?_) (fun c6 => ?_)
    · have h := h_T c6 h
      refine v_aload_n hX dX11_seek_193 0 rfl rfl ?_
      refine v_iload hX dX11_seek_194 5 rfl ?_
      obtain ⟨k7, h⟩ := h
      obtain ⟨mc10, ms11, b12, b13, h⟩ := h
      refine v_callVv hX dX11_seek_196 c_RX11_456 cV_X11_keepHits (ci := 12) (T := TX11) (N := 19) rfl (by exact k7) [pI _] rfl rfl (Nat.le_of_ble_eq_true rfl) (by decide) (by decide) b12 b13 (m_X11_keepHits h) (fun s8 h => ?_)
      refine v_iload hX dX11_seek_199 5 rfl ?_
      exact v_iret hX hE dX11_seek_201 h
    · have h := h_E c6 h
      refine v_aload_n hX dX11_seek_69 0 rfl rfl ?_
      obtain ⟨k14, h⟩ := h
      refine v_getR hX dX11_seek_70 f_RX11_28 rfl k14 ?_
      refine v_iload hX dX11_seek_73 6 rfl ?_
      obtain ⟨a15, e_a15, h⟩ := h
      refine v_nn1 e_a15 ?_
      obtain ⟨k16, h⟩ := h
      refine v_callVr0 hX dX11_seek_75 c_RX11_312 cV_Jx4a65c_get_915e3 (ci := 0) (T := TJx4a65c) (N := 3) rfl (by exact k16) [pI _] rfl rfl (Nat.le_of_ble_eq_true rfl) (by decide) (by decide)  (m_Jx4a65c_get_915e3 h) (fun p18 s17 h => ?_)
      obtain ⟨b19, h⟩ := h
      refine v_cast (ci := 9) hX dX11_seek_78 kl_RX11_246 rfl b19 ?_
      refine v_astore (lv' := [(9, _), (0, _), (1, _), (2, _), (4, _), (5, _), (7, _), (8, _)]) hX dX11_seek_81 (by decide) rfl ?_
      refine v_aload_n hX dX11_seek_83 1 rfl rfl ?_
      refine v_iload_n hX dX11_seek_84 2 rfl rfl ?_
      refine v_aload hX dX11_seek_85 0 rfl ?_
      refine v_aload_n hX dX11_seek_87 1 rfl rfl ?_
      obtain ⟨k20, h⟩ := h
      refine v_getI hX dX11_seek_88 f_RX11_82 rfl k20 ?_
      refine v_callVi0 hX dX11_seek_91 c_RX11_427 cV_X11_openHomes (ci := 12) (T := TX11) (N := 19) rfl (by exact k20) [pI _, pR _, pI _] rfl rfl (Nat.le_of_ble_eq_true rfl) (by decide) (by decide)  (m_X11_openHomes h) (fun p22 s21 h => ?_)
      refine v_istore (lv' := [(10, _), (9, _), (0, _), (1, _), (2, _), (4, _), (5, _), (7, _), (8, _)]) hX dX11_seek_94 (by decide) rfl ?_
      refine v_iconst (v := 0) hX dX11_seek_96 (by decide) ?_
      refine v_istore (lv' := [(11, _), (10, _), (9, _), (0, _), (1, _), (2, _), (4, _), (5, _), (7, _), (8, _)]) hX dX11_seek_97 (by decide) rfl ?_
      refine v_pick [3, 4, 5, 6, 7, 8, 9, 2, 1, 0] rfl ?_
      obtain ⟨n, h⟩ := h
      exact b_X11_seek_99 hX hE hK57 n _ _ _ _ _ _ _ _ _ _ _ _ _ h
set_option maxRecDepth 100000 in
set_option maxHeartbeats 4000000 in
theorem m_X11_seek {Z : h_Z} {o0 : Nat} {x1 : Int32} {x2 : Int32} {x3 : Int32} {x4 : Int32} {x5 : Int32} {s : h_S} {mc ms : Nat} {Q : Int32 → h_S → Prop} (h : w_X11_seek o0 x1 x2 x3 x4 x5 s mc ms Q) : h_M Z yX11_seek cX11_seek 12 (some .int) 7 166 [pR (some o0), pI x1, pI x2, pI x3, pI x4, pI x5] s mc ms (h_QI Z Q) := by
  refine h_M.of (by decide) (Nat.le_of_ble_eq_true rfl) (fun X hZ hX hE hI => ?_)
  subst hZ
  unfold w_X11_seek at h
  show h_V X 12 0 [(0, pR (some o0)), (1, pI x1), (2, pI x2), (3, pI x3), (4, pI x4), (5, pI x5)] [] s mc ms
  refine v_aload_n hX dX11_seek_0 0 rfl rfl ?_
  refine v_iconst (v := 0) hX dX11_seek_1 (by decide) ?_
  obtain ⟨k1, h⟩ := h
  refine v_putI hX dX11_seek_2 f_RX11_100 k1 ?_
  refine v_aload_n hX dX11_seek_5 0 rfl rfl ?_
  refine v_iload_n hX dX11_seek_6 1 rfl rfl ?_
  refine v_callVi0 hX dX11_seek_7 c_RX11_89 cV_X11_isHand (ci := 12) (T := TX11) (N := 19) rfl (by exact k1) [pI _] rfl rfl (Nat.le_of_ble_eq_true rfl) (by decide) (by decide)  (m_X11_isHand h) (fun p4 s3 h => ?_)
  refine v_if_eq (tgt := 21) hX dX11_seek_10 (by decide) (fun c5 => ?_) (fun c5 => ?_)
  · have h := h_T c5 h
    refine v_pick [] rfl ?_
    exact b_X11_seek_21 hX hE _ h
  · have h := h_E c5 h
    refine v_iload_n hX dX11_seek_13 2 rfl rfl ?_
    refine v_iconst (v := 4) hX dX11_seek_14 (by decide) ?_
    refine v_callSi0 hX dX11_seek_15 c_RX11_78 cS_X11_within [pI _, pI _] rfl rfl (Nat.le_of_ble_eq_true rfl) (by decide) (by decide)  (m_X11_within h) (fun p7 s6 h => ?_)
    refine v_if_ne (tgt := 23) hX dX11_seek_18 (by decide) (fun c8 => ?_) (fun c8 => ?_)
    · have h := h_E c8 h
      refine v_aload_n hX dX11_seek_23 0 rfl rfl ?_
      refine v_iload_n hX dX11_seek_24 2 rfl rfl ?_
      refine v_iload_n hX dX11_seek_25 3 rfl rfl ?_
      refine v_iload hX dX11_seek_26 4 rfl ?_
      refine v_iload hX dX11_seek_28 5 rfl ?_
      obtain ⟨k9, h⟩ := h
      refine v_callVi0 hX dX11_seek_30 c_RX11_106 cV_X11_refusedCells (ci := 12) (T := TX11) (N := 19) rfl (by exact k9) [pI _, pI _, pI _, pI _] rfl rfl (Nat.le_of_ble_eq_true rfl) (by decide) (by decide)  (m_X11_refusedCells h) (fun p11 s10 h => ?_)
      refine v_istore (lv' := [(6, _), (0, _), (1, _), (2, _), (3, _), (4, _), (5, _)]) hX dX11_seek_33 (by decide) rfl ?_
      refine v_iload hX dX11_seek_35 0 rfl ?_
      refine v_if_eq (tgt := 43) hX dX11_seek_37 (by decide) (fun c12 => ?_) (fun c12 => ?_)
      · have h := h_T c12 h
        refine v_iload hX dX11_seek_43 6 rfl ?_
        refine v_if_ne (tgt := 51) hX dX11_seek_45 (by decide) (fun c13 => ?_) (fun c13 => ?_)
        · have h := h_E c13 h
          refine v_iconst (v := 0) hX dX11_seek_51 (by decide) ?_
          refine v_istore (lv' := [(7, _), (6, _), (0, _), (1, _), (2, _), (3, _), (4, _), (5, _)]) hX dX11_seek_52 (by decide) rfl ?_
          refine v_iconst (v := 0) hX dX11_seek_54 (by decide) ?_
          refine v_istore (lv' := [(8, _), (7, _), (6, _), (0, _), (1, _), (2, _), (3, _), (4, _), (5, _)]) hX dX11_seek_55 (by decide) rfl ?_
          refine v_pick [3, 4, 5, 7, 8, 1, 0] rfl ?_
          obtain ⟨n, h⟩ := h
          exact b_X11_seek_57 hX hE n _ _ _ _ _ _ _ _ _ _ h
        · have h := h_T c13 h
          refine v_bipush (v := -2) hX dX11_seek_48 (by decide) ?_
          exact v_iret hX hE dX11_seek_50 h
      · have h := h_E c12 h
        refine v_iload hX dX11_seek_40 0 rfl ?_
        exact v_iret hX hE dX11_seek_42 h
    · have h := h_T c8 h
      refine v_pick [] rfl ?_
      exact b_X11_seek_21 hX hE _ h
set_option maxRecDepth 100000 in
set_option maxHeartbeats 4000000 in
theorem m_X11_hit {Z : h_Z} {o0 : Nat} {x1 : Int32} {x2 : Int32} {s : h_S} {Q : Int32 → h_S → Prop} (h : w_X11_hit o0 x1 x2 s Q) : h_M Z yX11_hit cX11_hit 3 (some .int) 2 80 [pR (some o0), pI x1, pI x2] s 0 0 (h_QI Z Q) := by
  refine h_M.of (by decide) (Nat.le_of_ble_eq_true rfl) (fun X hZ hX hE hI => ?_)
  subst hZ
  unfold w_X11_hit at h
  show h_V X 3 0 [(0, pR (some o0)), (1, pI x1), (2, pI x2)] [] s 0 0
  refine v_iload_n hX dX11_hit_0 1 rfl rfl ?_
  refine v_aload_n hX dX11_hit_1 0 rfl rfl ?_
  obtain ⟨k1, h⟩ := h
  refine v_getI hX dX11_hit_2 f_RX11_477 rfl k1 ?_
  refine v_callSi0 hX dX11_hit_5 c_RX11_78 cS_X11_within [pI _, pI _] rfl rfl (Nat.le_of_ble_eq_true rfl) (by decide) (by decide)  (m_X11_within h) (fun p3 s2 h => ?_)
  refine v_if_ne (tgt := 13) hX dX11_hit_8 (by decide) (fun c4 => ?_) (fun c4 => ?_)
  · have h := h_E c4 h
    refine v_iload_n hX dX11_hit_13 2 rfl rfl ?_
    refine v_gen (fun q25 e_q25 => ?_)
    rw [← e_q25] at h
    by_cases c5 : q25 = (0 : Int32)
    · have h := h_T c5 h
      refine v_tabIn (tgt := 40) hX dX11_hit_14 (by rw [c5]; decide) (by rw [c5]; decide) (by rw [c5]; rfl) (by decide) ?_
      refine v_aload_n hX dX11_hit_40 0 rfl rfl ?_
      obtain ⟨k6, h⟩ := h
      refine v_getR hX dX11_hit_41 f_RX11_64 rfl k6 ?_
      refine v_iload_n hX dX11_hit_44 1 rfl rfl ?_
      obtain ⟨a7, e_a7, h⟩ := h
      refine v_nn1 e_a7 ?_
      obtain ⟨k8, h⟩ := h
      obtain ⟨i9, h⟩ := h
      refine v_iald hX dX11_hit_45 k8 i9 ?_
      refine v_sipush (v := 300) hX dX11_hit_46 (by decide) ?_
      have z10 : ¬ (300 : Int32) = 0 := by decide
      refine v_idiv hX dX11_hit_49 z10 ?_
      refine v_bipush (v := 16) hX dX11_hit_50 (by decide) ?_
      have z11 : ¬ (16 : Int32) = 0 := by decide
      refine v_irem hX dX11_hit_52 z11 ?_
      exact v_iret hX hE dX11_hit_53 h
    · have h := h_E c5 h
      by_cases c12 : q25 = (1 : Int32)
      · have h := h_T c12 h
        refine v_tabIn (tgt := 54) hX dX11_hit_14 (by rw [c12]; decide) (by rw [c12]; decide) (by rw [c12]; rfl) (by decide) ?_
        refine v_aload_n hX dX11_hit_54 0 rfl rfl ?_
        obtain ⟨k13, h⟩ := h
        refine v_getR hX dX11_hit_55 f_RX11_64 rfl k13 ?_
        refine v_iload_n hX dX11_hit_58 1 rfl rfl ?_
        obtain ⟨a14, e_a14, h⟩ := h
        refine v_nn1 e_a14 ?_
        obtain ⟨k15, h⟩ := h
        obtain ⟨i16, h⟩ := h
        refine v_iald hX dX11_hit_59 k15 i16 ?_
        refine v_sipush (v := 300) hX dX11_hit_60 (by decide) ?_
        have z17 : ¬ (300 : Int32) = 0 := by decide
        refine v_irem hX dX11_hit_63 z17 ?_
        exact v_iret hX hE dX11_hit_64 h
      · have h := h_E c12 h
        by_cases c18 : q25 = (2 : Int32)
        · have h := h_T c18 h
          refine v_tabIn (tgt := 65) hX dX11_hit_14 (by rw [c18]; decide) (by rw [c18]; decide) (by rw [c18]; rfl) (by decide) ?_
          refine v_aload_n hX dX11_hit_65 0 rfl rfl ?_
          obtain ⟨k19, h⟩ := h
          refine v_getR hX dX11_hit_66 f_RX11_64 rfl k19 ?_
          refine v_iload_n hX dX11_hit_69 1 rfl rfl ?_
          obtain ⟨a20, e_a20, h⟩ := h
          refine v_nn1 e_a20 ?_
          obtain ⟨k21, h⟩ := h
          obtain ⟨i22, h⟩ := h
          refine v_iald hX dX11_hit_70 k21 i22 ?_
          refine v_callSi0 hX dX11_hit_71 c_RX11_469 cS_X11_linksOfHit [pI _] rfl rfl (Nat.le_of_ble_eq_true rfl) (by decide) (by decide)  (m_X11_linksOfHit h) (fun p24 s23 h => ?_)
          exact v_iret hX hE dX11_hit_74 h
        · have h := h_E c18 h
          refine v_tabOut (tgt := 75) hX dX11_hit_14 (by have := h_ti c5 (n := 0) rfl; have := h_ti c12 (n := 1) rfl; have := h_ti c18 (n := 2) rfl; omega) (by decide) ?_
          refine v_bipush (v := -2) hX dX11_hit_75 (by decide) ?_
          exact v_iret hX hE dX11_hit_77 h
  · have h := h_T c4 h
    refine v_iconst (v := -1) hX dX11_hit_11 (by decide) ?_
    exact v_iret hX hE dX11_hit_12 h
set_option maxRecDepth 100000 in
set_option maxHeartbeats 4000000 in
theorem b_X11_growTree_73 {X : h_X} (hX : h_ok X cX11_growTree 5 RX11 4 85) {Q : h_S → Prop} (hE : h_end X none (h_QV (x_Z X) Q)) {K2 : Nat → Int32 → Int32 → h_S → Prop} (hK2 : ∀ (o0 : Nat) (x1 : Int32) (x2 : Int32) (s : h_S), K2 o0 x1 x2 s → h_V X 5 2 [(0, pR (some o0)), (1, pI x1), (2, pI x2)] [] s 0 0) {o0 : Nat} {x1 : Int32} {x2 : Int32} {y0 : Int32} {y1 : Int32} {t2 : Option Nat} (s : h_S) (h : w_X11_growTree_73 Q K2 o0 x1 x2 y0 y1 t2 s) : h_V X 5 73 [(0, pR (some o0)), (1, pI x1), (2, pI x2)] [pI y0, pI y1, pR t2] s 0 0 := by
  unfold w_X11_growTree_73 at h
  obtain ⟨a1, e_a1, h⟩ := h
  refine v_nn2 e_a1 ?_
  obtain ⟨k2, h⟩ := h
  obtain ⟨i3, h⟩ := h
  refine v_iast hX dX11_growTree_73 k2 i3 ?_
  refine v_iinc (c := 1) (lv' := [(2, _), (0, _), (1, _)]) hX dX11_growTree_74 2 rfl (by decide) (by decide) rfl ?_
  refine v_goto (tgt := 2) hX dX11_growTree_77 (by decide) ?_
  refine v_pick [1, 2, 0] rfl ?_
  exact hK2 _ _ _ _ h
set_option maxRecDepth 100000 in
set_option maxHeartbeats 4000000 in
theorem b_X11_growTree_35 {X : h_X} (hX : h_ok X cX11_growTree 5 RX11 4 85) {Q : h_S → Prop} (hE : h_end X none (h_QV (x_Z X) Q)) {K2 : Nat → Int32 → Int32 → h_S → Prop} (hK2 : ∀ (o0 : Nat) (x1 : Int32) (x2 : Int32) (s : h_S), K2 o0 x1 x2 s → h_V X 5 2 [(0, pR (some o0)), (1, pI x1), (2, pI x2)] [] s 0 0) {o0 : Nat} {x1 : Int32} {x2 : Int32} {r3 : Option Nat} {y0 : Int32} (s : h_S) (h : w_X11_growTree_35 Q K2 o0 x1 x2 r3 y0 s) : h_V X 5 35 [(0, pR (some o0)), (1, pI x1), (2, pI x2), (3, pR r3)] [pI y0] s 0 0 := by
  unfold w_X11_growTree_35 at h
  refine v_istore (lv' := [(4, _), (0, _), (1, _), (2, _), (3, _)]) hX dX11_growTree_35 (by decide) rfl ?_
  refine v_aload_n hX dX11_growTree_37 1 rfl rfl ?_
  obtain ⟨k1, h⟩ := h
  refine v_getR hX dX11_growTree_38 f_RX11_67 rfl k1 ?_
  refine v_sipush (v := 512) hX dX11_growTree_41 (by decide) ?_
  refine v_iload_n hX dX11_growTree_44 3 rfl rfl ?_
  refine v_iadd hX dX11_growTree_45 ?_
  refine v_iload hX dX11_growTree_46 0 rfl ?_
  refine v_if_eq (tgt := 72) hX dX11_growTree_48 (by decide) (fun c2 => ?_) (fun c2 => ?_)
  · have h := h_T c2 h
    refine v_iconst (v := 0) hX dX11_growTree_72 (by decide) ?_
    refine v_pick [1, 2, 3] rfl ?_
    exact b_X11_growTree_73 hX hE hK2 _ h
  · have h := h_E c2 h
    refine v_aload_n hX dX11_growTree_51 4 rfl rfl ?_
    obtain ⟨a3, e_a3, h⟩ := h
    refine v_nn0 e_a3 ?_
    obtain ⟨k4, h⟩ := h
    refine v_getI hX dX11_growTree_52 f_RX11_234 rfl k4 ?_
    refine v_aload_n hX dX11_growTree_55 4 rfl rfl ?_
    obtain ⟨a5, e_a5, h⟩ := h
    refine v_nn0 e_a5 ?_
    obtain ⟨k6, h⟩ := h
    refine v_getI hX dX11_growTree_56 f_RX11_229 rfl k6 ?_
    refine v_callSi0 hX dX11_growTree_59 c_RX11_486 cS_X11_mix [pI _, pI _] rfl rfl (Nat.le_of_ble_eq_true rfl) (by decide) (by decide)  (m_X11_mix h) (fun p8 s7 h => ?_)
    refine v_aload_n hX dX11_growTree_62 4 rfl rfl ?_
    obtain ⟨a9, e_a9, h⟩ := h
    refine v_nn0 e_a9 ?_
    obtain ⟨k10, h⟩ := h
    refine v_getI hX dX11_growTree_63 f_RX11_240 rfl k10 ?_
    refine v_callSi0 hX dX11_growTree_66 c_RX11_486 cS_X11_mix [pI _, pI _] rfl rfl (Nat.le_of_ble_eq_true rfl) (by decide) (by decide)  (m_X11_mix h) (fun p12 s11 h => ?_)
    refine v_goto (tgt := 73) hX dX11_growTree_69 (by decide) ?_
    refine v_pick [1, 2, 3] rfl ?_
    exact b_X11_growTree_73 hX hE hK2 _ h
set_option maxRecDepth 100000 in
set_option maxHeartbeats 4000000 in
theorem b_X11_growTree_34 {X : h_X} (hX : h_ok X cX11_growTree 5 RX11 4 85) {Q : h_S → Prop} (hE : h_end X none (h_QV (x_Z X) Q)) {K2 : Nat → Int32 → Int32 → h_S → Prop} (hK2 : ∀ (o0 : Nat) (x1 : Int32) (x2 : Int32) (s : h_S), K2 o0 x1 x2 s → h_V X 5 2 [(0, pR (some o0)), (1, pI x1), (2, pI x2)] [] s 0 0) {o0 : Nat} {x1 : Int32} {x2 : Int32} {r3 : Option Nat} (s : h_S) (h : w_X11_growTree_34 Q K2 o0 x1 x2 r3 s) : h_V X 5 34 [(0, pR (some o0)), (1, pI x1), (2, pI x2), (3, pR r3)] [] s 0 0 := by
  unfold w_X11_growTree_34 at h
  refine v_iconst (v := 0) hX dX11_growTree_34 (by decide) ?_
  refine v_pick [0, 1, 2, 3] rfl ?_
  exact b_X11_growTree_35 hX hE hK2 _ h
set_option maxRecDepth 100000 in
set_option maxHeartbeats 4000000 in
theorem b_X11_growTree_84 {X : h_X} (hX : h_ok X cX11_growTree 5 RX11 4 85) {Q : h_S → Prop} (hE : h_end X none (h_QV (x_Z X) Q)) : ∀ (n : Nat) (o0 : Nat) (x2 : Int32) (s : h_S), w_X11_growTree_84 Q n o0 x2 s → h_V X 5 84 [(0, pR (some o0)), (2, pI x2)] [] s 0 0 := by
  intro n
  induction n with
  | zero => intro _ _ s h; exact h.elim
  | succ n hK84 =>
    intro o0 x2 s h
    have h : w_X11_growTree_84b Q (w_X11_growTree_84 Q n) o0 x2 s := h
    unfold w_X11_growTree_84b at h
    refine v_iload_n hX dX11_growTree_84 1 rfl rfl ?_
    refine v_if_le (tgt := 121) hX dX11_growTree_85 (by decide) (fun c1 => ?_) (fun c1 => ?_)
    · have h := h_T c1 h
      exact v_vret hX hE dX11_growTree_121 h
    · have h := h_E c1 h
      refine v_aload_n hX dX11_growTree_88 0 rfl rfl ?_
      obtain ⟨k2, h⟩ := h
      refine v_getR hX dX11_growTree_89 f_RX11_67 rfl k2 ?_
      refine v_iload_n hX dX11_growTree_92 1 rfl rfl ?_
      refine v_aload_n hX dX11_growTree_93 0 rfl rfl ?_
      refine v_getR hX dX11_growTree_94 f_RX11_67 rfl k2 ?_
      refine v_iconst (v := 2) hX dX11_growTree_97 (by decide) ?_
      refine v_iload_n hX dX11_growTree_98 1 rfl rfl ?_
      refine v_imul hX dX11_growTree_99 ?_
      obtain ⟨a3, e_a3, h⟩ := h
      refine v_nn1 e_a3 ?_
      obtain ⟨k4, h⟩ := h
      obtain ⟨i5, h⟩ := h
      refine v_iald hX dX11_growTree_100 k4 i5 ?_
      refine v_aload_n hX dX11_growTree_101 0 rfl rfl ?_
      refine v_getR hX dX11_growTree_102 f_RX11_67 rfl k2 ?_
      refine v_iconst (v := 2) hX dX11_growTree_105 (by decide) ?_
      refine v_iload_n hX dX11_growTree_106 1 rfl rfl ?_
      refine v_imul hX dX11_growTree_107 ?_
      refine v_iconst (v := 1) hX dX11_growTree_108 (by decide) ?_
      refine v_iadd hX dX11_growTree_109 ?_
      obtain ⟨a6, e_a6, h⟩ := h
      refine v_nn1 e_a6 ?_
      obtain ⟨k7, h⟩ := h
      obtain ⟨i8, h⟩ := h
      refine v_iald hX dX11_growTree_110 k7 i8 ?_
      refine v_callSi0 hX dX11_growTree_111 c_RX11_486 cS_X11_mix [pI _, pI _] rfl rfl (Nat.le_of_ble_eq_true rfl) (by decide) (by decide)  (m_X11_mix h) (fun p10 s9 h => ?_)
      obtain ⟨a11, e_a11, h⟩ := h
      refine v_nn2 e_a11 ?_
      obtain ⟨k12, h⟩ := h
      obtain ⟨i13, h⟩ := h
      refine v_iast hX dX11_growTree_114 k12 i13 ?_
      refine v_iinc (c := -1) (lv' := [(2, _), (0, _)]) hX dX11_growTree_115 1 rfl (by decide) (by decide) rfl ?_
      refine v_goto (tgt := 84) hX dX11_growTree_118 (by decide) ?_
      refine v_pick [1, 0] rfl ?_
      exact hK84 _ _ _ h
set_option maxRecDepth 100000 in
set_option maxHeartbeats 4000000 in
theorem b_X11_growTree_2 {X : h_X} (hX : h_ok X cX11_growTree 5 RX11 4 85) {Q : h_S → Prop} (hE : h_end X none (h_QV (x_Z X) Q)) : ∀ (n : Nat) (o0 : Nat) (x1 : Int32) (x2 : Int32) (s : h_S), w_X11_growTree_2 Q n o0 x1 x2 s → h_V X 5 2 [(0, pR (some o0)), (1, pI x1), (2, pI x2)] [] s 0 0 := by
  intro n
  induction n with
  | zero => intro _ _ _ s h; exact h.elim
  | succ n hK2 =>
    intro o0 x1 x2 s h
    have h : w_X11_growTree_2b Q (w_X11_growTree_2 Q n) o0 x1 x2 s := h
    unfold w_X11_growTree_2b at h
    refine v_iload_n hX dX11_growTree_2 2 rfl rfl ?_
    refine v_sipush (v := 512) hX dX11_growTree_3 (by decide) ?_
    refine v_icmp_ge (tgt := 80) hX dX11_growTree_6 (by decide) (fun c1 => ?_) (fun c1 => ?_)
    · have h := h_T c1 h
      refine v_sipush (v := 511) hX dX11_growTree_80 (by decide) ?_
      refine v_istore_n (lv' := [(2, _), (0, _), (1, _)]) hX dX11_growTree_83 rfl (by decide) rfl ?_
      refine v_pick [1, 0] rfl ?_
      obtain ⟨n, h⟩ := h
      exact b_X11_growTree_84 hX hE n _ _ _ h
    · have h := h_E c1 h
      refine v_aload_n hX dX11_growTree_9 0 rfl rfl ?_
      obtain ⟨k2, h⟩ := h
      refine v_getR hX dX11_growTree_10 f_RX11_21 rfl k2 ?_
      refine v_iload_n hX dX11_growTree_13 2 rfl rfl ?_
      obtain ⟨a3, e_a3, h⟩ := h
      refine v_nn1 e_a3 ?_
      obtain ⟨k4, h⟩ := h
      refine v_callVr0 hX dX11_growTree_14 c_RX11_225 cV_X7_wordAt (ci := 8) (T := TX7) (N := 13) rfl (by exact k4) [pI _] rfl rfl (Nat.le_of_ble_eq_true rfl) (by decide) (by decide)  (m_X7_wordAt h) (fun p6 s5 h => ?_)
      refine v_astore_n (lv' := [(3, _), (0, _), (1, _), (2, _)]) hX dX11_growTree_17 rfl (by decide) rfl ?_
      refine v_aload_n hX dX11_growTree_18 0 rfl rfl ?_
      refine v_ifnull (tgt := 34) hX dX11_growTree_19 (by decide) (fun c7 => ?_) (fun c7 => ?_)
      · have h := h_T c7 h
        refine v_pick [1, 2, 3, 0] rfl ?_
        exact b_X11_growTree_34 hX hE hK2 _ h
      · have h := h_E c7 h
        refine v_aload_n hX dX11_growTree_22 0 rfl rfl ?_
        obtain ⟨a8, e_a8, h⟩ := h
        refine v_nn0 e_a8 ?_
        obtain ⟨k9, h⟩ := h
        refine v_getI hX dX11_growTree_23 f_RX11_240 rfl k9 ?_
        refine v_iload_n hX dX11_growTree_26 2 rfl rfl ?_
        refine v_icmp_gt (tgt := 34) hX dX11_growTree_27 (by decide) (fun c10 => ?_) (fun c10 => ?_)
        · have h := h_T c10 h
          refine v_pick [1, 2, 3, 0] rfl ?_
          exact b_X11_growTree_34 hX hE hK2 _ h
        · have h := h_E c10 h
          refine v_iconst (v := 1) hX dX11_growTree_30 (by decide) ?_
          refine v_goto (tgt := 35) hX dX11_growTree_31 (by decide) ?_
          refine v_pick [1, 2, 3, 0] rfl ?_
          exact b_X11_growTree_35 hX hE hK2 _ h
set_option maxRecDepth 100000 in
set_option maxHeartbeats 4000000 in
theorem m_X11_growTree {Z : h_Z} {o0 : Nat} {x1 : Int32} {s : h_S} {Q : h_S → Prop} (h : w_X11_growTree o0 x1 s Q) : h_M Z yX11_growTree cX11_growTree 5 none 4 85 [pR (some o0), pI x1] s 0 0 (h_QV Z Q) := by
  refine h_M.of (by decide) (Nat.le_of_ble_eq_true rfl) (fun X hZ hX hE hI => ?_)
  subst hZ
  unfold w_X11_growTree at h
  show h_V X 5 0 [(0, pR (some o0)), (1, pI x1)] [] s 0 0
  refine v_iconst (v := 0) hX dX11_growTree_0 (by decide) ?_
  refine v_istore_n (lv' := [(2, _), (0, _), (1, _)]) hX dX11_growTree_1 rfl (by decide) rfl ?_
  refine v_pick [1, 2, 0] rfl ?_
  obtain ⟨n, h⟩ := h
  exact b_X11_growTree_2 hX hE n _ _ _ _ h
set_option maxRecDepth 100000 in
set_option maxHeartbeats 4000000 in
theorem m_X11_seal {Z : h_Z} {o0 : Nat} {x1 : Int32} {s : h_S} {Q : Int32 → h_S → Prop} (h : w_X11_seal o0 x1 s Q) : h_M Z yX11_seal cX11_seal 2 (some .int) 5 109 [pR (some o0), pI x1] s 0 0 (h_QI Z Q) := by
  refine h_M.of (by decide) (Nat.le_of_ble_eq_true rfl) (fun X hZ hX hE hI => ?_)
  subst hZ
  unfold w_X11_seal at h
  show h_V X 2 0 [(0, pR (some o0)), (1, pI x1)] [] s 0 0
  refine v_aload_n hX dX11_seal_0 0 rfl rfl ?_
  refine v_iload_n hX dX11_seal_1 1 rfl rfl ?_
  obtain ⟨k1, h⟩ := h
  refine v_callVi0 hX dX11_seal_2 c_RX11_153 cV_X11_isMoment (ci := 12) (T := TX11) (N := 19) rfl (by exact k1) [pI _] rfl rfl (Nat.le_of_ble_eq_true rfl) (by decide) (by decide)  (m_X11_isMoment h) (fun p3 s2 h => ?_)
  refine v_if_ne (tgt := 10) hX dX11_seal_5 (by decide) (fun c4 => ?_) (fun c4 => ?_)
  · have h := h_E c4 h
    refine v_aload_n hX dX11_seal_10 0 rfl rfl ?_
    refine v_iload_n hX dX11_seal_11 1 rfl rfl ?_
    obtain ⟨k5, h⟩ := h
    refine v_callVv0 hX dX11_seal_12 c_RX11_480 cV_X11_growTree (ci := 12) (T := TX11) (N := 19) rfl (by exact k5) [pI _] rfl rfl (Nat.le_of_ble_eq_true rfl) (by decide) (by decide)  (m_X11_growTree h) (fun s6 h => ?_)
    refine v_aload_n hX dX11_seal_15 0 rfl rfl ?_
    obtain ⟨k8, h⟩ := h
    refine v_getR hX dX11_seal_16 f_RX11_67 rfl k8 ?_
    refine v_iconst (v := 1) hX dX11_seal_19 (by decide) ?_
    obtain ⟨a9, e_a9, h⟩ := h
    refine v_nn1 e_a9 ?_
    obtain ⟨k10, h⟩ := h
    obtain ⟨i11, h⟩ := h
    refine v_iald hX dX11_seal_20 k10 i11 ?_
    exact v_iret hX hE dX11_seal_21 h
  · have h := h_T c4 h
    refine v_iconst (v := 0) hX dX11_seal_8 (by decide) ?_
    exact v_iret hX hE dX11_seal_9 h
set_option maxRecDepth 100000 in
set_option maxHeartbeats 4000000 in
theorem b_X11_sideInTree_32 {X : h_X} (hX : h_ok X cX11_sideInTree 4 RX11 1 21) {Q : Int32 → h_S → Prop} (hE : h_end X (some .int) (h_QI (x_Z X) Q)) {y0 : Int32} (s : h_S) (h : w_X11_sideInTree_32 Q y0 s) : h_V X 4 32 [] [pI y0] s 0 0 := by
  unfold w_X11_sideInTree_32 at h
  exact v_iret hX hE dX11_sideInTree_32 h
set_option maxRecDepth 100000 in
set_option maxHeartbeats 4000000 in
theorem m_X11_sideInTree {Z : h_Z} {o0 : Nat} {x1 : Int32} {x2 : Int32} {s : h_S} {Q : Int32 → h_S → Prop} (h : w_X11_sideInTree o0 x1 x2 s Q) : h_M Z yX11_sideInTree cX11_sideInTree 4 (some .int) 1 21 [pR (some o0), pI x1, pI x2] s 0 0 (h_QI Z Q) := by
  refine h_M.of (by decide) (Nat.le_of_ble_eq_true rfl) (fun X hZ hX hE hI => ?_)
  subst hZ
  unfold w_X11_sideInTree at h
  show h_V X 4 0 [(0, pR (some o0)), (1, pI x1), (2, pI x2)] [] s 0 0
  refine v_sipush (v := 512) hX dX11_sideInTree_0 (by decide) ?_
  refine v_iload_n hX dX11_sideInTree_3 1 rfl rfl ?_
  refine v_iadd hX dX11_sideInTree_4 ?_
  refine v_iload_n hX dX11_sideInTree_5 2 rfl rfl ?_
  refine v_ishr hX dX11_sideInTree_6 ?_
  refine v_iconst (v := 1) hX dX11_sideInTree_7 (by decide) ?_
  refine v_ixor hX dX11_sideInTree_8 ?_
  refine v_istore_n (lv' := [(3, _), (0, _), (1, _), (2, _)]) hX dX11_sideInTree_9 rfl (by decide) rfl ?_
  refine v_iload_n hX dX11_sideInTree_10 0 rfl rfl ?_
  refine v_aload_n hX dX11_sideInTree_11 1 rfl rfl ?_
  obtain ⟨k2, h⟩ := h
  refine v_getR hX dX11_sideInTree_12 f_RX11_67 rfl k2 ?_
  obtain ⟨a3, e_a3, h⟩ := h
  refine v_nn0 e_a3 ?_
  obtain ⟨k4, h⟩ := h
  refine v_alenK hX dX11_sideInTree_15 (k := 1) rfl (by decide) (by decide) k4 ?_
  refine v_callSi0 hX dX11_sideInTree_16 c_RX11_78 cS_X11_within [pI _, pI _] rfl rfl (Nat.le_of_ble_eq_true rfl) (by decide) (by decide)  (m_X11_within h) (fun p6 s5 h => ?_)
  refine v_if_eq (tgt := 31) hX dX11_sideInTree_19 (by decide) (fun c7 => ?_) (fun c7 => ?_)
  · have h := h_T c7 h
    refine v_iconst (v := 0) hX dX11_sideInTree_31 (by decide) ?_
    refine v_pick [] rfl ?_
    exact b_X11_sideInTree_32 hX hE _ h
  · have h := h_E c7 h
    refine v_aload_n hX dX11_sideInTree_22 1 rfl rfl ?_
    obtain ⟨k8, h⟩ := h
    refine v_getR hX dX11_sideInTree_23 f_RX11_67 rfl k8 ?_
    refine v_iload_n hX dX11_sideInTree_26 0 rfl rfl ?_
    obtain ⟨a9, e_a9, h⟩ := h
    refine v_nn1 e_a9 ?_
    obtain ⟨k10, h⟩ := h
    obtain ⟨i11, h⟩ := h
    refine v_iald hX dX11_sideInTree_27 k10 i11 ?_
    refine v_goto (tgt := 32) hX dX11_sideInTree_28 (by decide) ?_
    refine v_pick [] rfl ?_
    exact b_X11_sideInTree_32 hX hE _ h
set_option maxRecDepth 100000 in
set_option maxHeartbeats 4000000 in
theorem b_X11_side_31 {X : h_X} (hX : h_ok X cX11_side 4 RX11 5 109) {Q : Int32 → h_S → Prop} (hE : h_end X (some .int) (h_QI (x_Z X) Q)) (s : h_S) (h : w_X11_side_31 Q s) : h_V X 4 31 [] [] s 0 0 := by
  unfold w_X11_side_31 at h
  refine v_iconst (v := 0) hX dX11_side_31 (by decide) ?_
  exact v_iret hX hE dX11_side_32 h
set_option maxRecDepth 100000 in
set_option maxHeartbeats 4000000 in
theorem m_X11_side {Z : h_Z} {o0 : Nat} {x1 : Int32} {x2 : Int32} {x3 : Int32} {s : h_S} {Q : Int32 → h_S → Prop} (h : w_X11_side o0 x1 x2 x3 s Q) : h_M Z yX11_side cX11_side 4 (some .int) 5 109 [pR (some o0), pI x1, pI x2, pI x3] s 0 0 (h_QI Z Q) := by
  refine h_M.of (by decide) (Nat.le_of_ble_eq_true rfl) (fun X hZ hX hE hI => ?_)
  subst hZ
  unfold w_X11_side at h
  show h_V X 4 0 [(0, pR (some o0)), (1, pI x1), (2, pI x2), (3, pI x3)] [] s 0 0
  refine v_iload_n hX dX11_side_0 1 rfl rfl ?_
  refine v_aload_n hX dX11_side_1 0 rfl rfl ?_
  obtain ⟨k1, h⟩ := h
  refine v_getR hX dX11_side_2 f_RX11_21 rfl k1 ?_
  obtain ⟨a2, e_a2, h⟩ := h
  refine v_nn0 e_a2 ?_
  obtain ⟨k3, h⟩ := h
  refine v_callVi0 hX dX11_side_5 c_RX11_113 cV_X7_wordCount (ci := 8) (T := TX7) (N := 13) rfl (by exact k3) [] rfl rfl (Nat.le_of_ble_eq_true rfl) (by decide) (by decide)  (m_X7_wordCount h) (fun p5 s4 h => ?_)
  refine v_callSi0 hX dX11_side_8 c_RX11_78 cS_X11_within [pI _, pI _] rfl rfl (Nat.le_of_ble_eq_true rfl) (by decide) (by decide)  (m_X11_within h) (fun p7 s6 h => ?_)
  refine v_if_eq (tgt := 31) hX dX11_side_11 (by decide) (fun c8 => ?_) (fun c8 => ?_)
  · have h := h_T c8 h
    refine v_pick [] rfl ?_
    exact b_X11_side_31 hX hE _ h
  · have h := h_E c8 h
    refine v_aload_n hX dX11_side_14 0 rfl rfl ?_
    refine v_iload_n hX dX11_side_15 2 rfl rfl ?_
    obtain ⟨k9, h⟩ := h
    refine v_callVi0 hX dX11_side_16 c_RX11_153 cV_X11_isMoment (ci := 12) (T := TX11) (N := 19) rfl (by exact k9) [pI _] rfl rfl (Nat.le_of_ble_eq_true rfl) (by decide) (by decide)  (m_X11_isMoment h) (fun p11 s10 h => ?_)
    refine v_if_eq (tgt := 31) hX dX11_side_19 (by decide) (fun c12 => ?_) (fun c12 => ?_)
    · have h := h_T c12 h
      refine v_pick [] rfl ?_
      exact b_X11_side_31 hX hE _ h
    · have h := h_E c12 h
      refine v_iload_n hX dX11_side_22 3 rfl rfl ?_
      refine v_bipush (v := 9) hX dX11_side_23 (by decide) ?_
      refine v_callSi0 hX dX11_side_25 c_RX11_78 cS_X11_within [pI _, pI _] rfl rfl (Nat.le_of_ble_eq_true rfl) (by decide) (by decide)  (m_X11_within h) (fun p14 s13 h => ?_)
      refine v_if_ne (tgt := 33) hX dX11_side_28 (by decide) (fun c15 => ?_) (fun c15 => ?_)
      · have h := h_E c15 h
        refine v_aload_n hX dX11_side_33 0 rfl rfl ?_
        refine v_iload_n hX dX11_side_34 2 rfl rfl ?_
        obtain ⟨k16, h⟩ := h
        refine v_callVv0 hX dX11_side_35 c_RX11_480 cV_X11_growTree (ci := 12) (T := TX11) (N := 19) rfl (by exact k16) [pI _] rfl rfl (Nat.le_of_ble_eq_true rfl) (by decide) (by decide)  (m_X11_growTree h) (fun s17 h => ?_)
        refine v_aload_n hX dX11_side_38 0 rfl rfl ?_
        refine v_iload_n hX dX11_side_39 1 rfl rfl ?_
        refine v_iload_n hX dX11_side_40 3 rfl rfl ?_
        obtain ⟨k19, h⟩ := h
        refine v_callVi0 hX dX11_side_41 c_RX11_483 cV_X11_sideInTree (ci := 12) (T := TX11) (N := 19) rfl (by exact k19) [pI _, pI _] rfl rfl (Nat.le_of_ble_eq_true rfl) (by decide) (by decide)  (m_X11_sideInTree h) (fun p21 s20 h => ?_)
        exact v_iret hX hE dX11_side_44 h
      · have h := h_T c15 h
        refine v_pick [] rfl ?_
        exact b_X11_side_31 hX hE _ h
set_option maxRecDepth 100000 in
set_option maxHeartbeats 4000000 in
theorem b_X11_prove_33 {X : h_X} (hX : h_ok X cX11_prove 13 RX11 5 109) {Q : Int32 → h_S → Prop} (hE : h_end X (some .int) (h_QI (x_Z X) Q)) (s : h_S) (h : w_X11_prove_33 Q s) : h_V X 13 33 [] [] s 0 0 := by
  unfold w_X11_prove_33 at h
  refine v_iconst (v := -1) hX dX11_prove_33 (by decide) ?_
  exact v_iret hX hE dX11_prove_34 h
set_option maxRecDepth 100000 in
set_option maxHeartbeats 4000000 in
theorem b_X11_prove_146 {X : h_X} (hX : h_ok X cX11_prove 13 RX11 5 109) {Q : Int32 → h_S → Prop} (hE : h_end X (some .int) (h_QI (x_Z X) Q)) {K78 : Nat → Int32 → Int32 → Int32 → Int32 → Int32 → h_S → Prop} (hK78 : ∀ (o0 : Nat) (x1 : Int32) (x6 : Int32) (x8 : Int32) (x10 : Int32) (x11 : Int32) (s : h_S), K78 o0 x1 x6 x8 x10 x11 s → h_V X 13 78 [(0, pR (some o0)), (1, pI x1), (6, pI x6), (8, pI x8), (10, pI x10), (11, pI x11)] [] s 0 0) {o0 : Nat} {x1 : Int32} {x6 : Int32} {x8 : Int32} {x11 : Int32} {y0 : Int32} (s : h_S) (h : w_X11_prove_146 Q K78 o0 x1 x6 x8 x11 y0 s) : h_V X 13 146 [(0, pR (some o0)), (1, pI x1), (6, pI x6), (8, pI x8), (11, pI x11)] [pI y0] s 0 0 := by
  unfold w_X11_prove_146 at h
  refine v_istore (lv' := [(10, _), (0, _), (1, _), (6, _), (8, _), (11, _)]) hX dX11_prove_146 (by decide) rfl ?_
  refine v_iinc (c := 1) (lv' := [(11, _), (10, _), (0, _), (1, _), (6, _), (8, _)]) hX dX11_prove_148 5 rfl (by decide) (by decide) rfl ?_
  refine v_goto (tgt := 78) hX dX11_prove_151 (by decide) ?_
  refine v_pick [2, 3, 4, 5, 1, 0] rfl ?_
  exact hK78 _ _ _ _ _ _ _ h
set_option maxRecDepth 100000 in
set_option maxHeartbeats 4000000 in
theorem b_X11_prove_170 {X : h_X} (hX : h_ok X cX11_prove 13 RX11 5 109) {Q : Int32 → h_S → Prop} (hE : h_end X (some .int) (h_QI (x_Z X) Q)) {y0 : Int32} (s : h_S) (h : w_X11_prove_170 Q y0 s) : h_V X 13 170 [] [pI y0] s 0 0 := by
  unfold w_X11_prove_170 at h
  exact v_iret hX hE dX11_prove_170 h
set_option maxRecDepth 100000 in
set_option maxHeartbeats 4000000 in
theorem b_X11_prove_78 {X : h_X} (hX : h_ok X cX11_prove 13 RX11 5 109) {Q : Int32 → h_S → Prop} (hE : h_end X (some .int) (h_QI (x_Z X) Q)) : ∀ (n : Nat) (o0 : Nat) (x1 : Int32) (x6 : Int32) (x8 : Int32) (x10 : Int32) (x11 : Int32) (s : h_S), w_X11_prove_78 Q n o0 x1 x6 x8 x10 x11 s → h_V X 13 78 [(0, pR (some o0)), (1, pI x1), (6, pI x6), (8, pI x8), (10, pI x10), (11, pI x11)] [] s 0 0 := by
  intro n
  induction n with
  | zero => intro _ _ _ _ _ _ s h; exact h.elim
  | succ n hK78 =>
    intro o0 x1 x6 x8 x10 x11 s h
    have h : w_X11_prove_78b Q (w_X11_prove_78 Q n) o0 x1 x6 x8 x10 x11 s := h
    unfold w_X11_prove_78b at h
    refine v_iload hX dX11_prove_78 5 rfl ?_
    refine v_bipush (v := 9) hX dX11_prove_80 (by decide) ?_
    refine v_icmp_ge (tgt := 154) hX dX11_prove_82 (by decide) (fun c1 => ?_) (fun c1 => ?_)
    · have h := h_T c1 h
      refine v_iload hX dX11_prove_154 4 rfl ?_
      refine v_aload_n hX dX11_prove_156 0 rfl rfl ?_
      obtain ⟨k2, h⟩ := h
      refine v_getR hX dX11_prove_157 f_RX11_67 rfl k2 ?_
      refine v_iconst (v := 1) hX dX11_prove_160 (by decide) ?_
      obtain ⟨a3, e_a3, h⟩ := h
      refine v_nn1 e_a3 ?_
      obtain ⟨k4, h⟩ := h
      obtain ⟨i5, h⟩ := h
      refine v_iald hX dX11_prove_161 k4 i5 ?_
      refine v_icmp_ne (tgt := 169) hX dX11_prove_162 (by decide) (fun c6 => ?_) (fun c6 => ?_)
      · have h := h_E c6 h
        refine v_iconst (v := 0) hX dX11_prove_169 (by decide) ?_
        refine v_pick [] rfl ?_
        exact b_X11_prove_170 hX hE _ h
      · have h := h_T c6 h
        refine v_iconst (v := 1) hX dX11_prove_165 (by decide) ?_
        refine v_goto (tgt := 170) hX dX11_prove_166 (by decide) ?_
        refine v_pick [] rfl ?_
        exact b_X11_prove_170 hX hE _ h
    · have h := h_E c1 h
      refine v_aload_n hX dX11_prove_85 0 rfl rfl ?_
      refine v_iload_n hX dX11_prove_86 1 rfl rfl ?_
      refine v_iload hX dX11_prove_87 5 rfl ?_
      obtain ⟨k7, h⟩ := h
      refine v_callVi0 hX dX11_prove_89 c_RX11_483 cV_X11_sideInTree (ci := 12) (T := TX11) (N := 19) rfl (by exact k7) [pI _, pI _] rfl rfl (Nat.le_of_ble_eq_true rfl) (by decide) (by decide)  (m_X11_sideInTree h) (fun p9 s8 h => ?_)
      refine v_istore (lv' := [(12, _), (0, _), (1, _), (6, _), (8, _), (10, _), (11, _)]) hX dX11_prove_92 (by decide) rfl ?_
      refine v_aload_n hX dX11_prove_94 1 rfl rfl ?_
      obtain ⟨k10, h⟩ := h
      refine v_getR hX dX11_prove_95 f_RX11_43 rfl k10 ?_
      refine v_iload hX dX11_prove_98 3 rfl ?_
      obtain ⟨a11, e_a11, h⟩ := h
      refine v_nn1 e_a11 ?_
      obtain ⟨k12, h⟩ := h
      obtain ⟨i13, h⟩ := h
      refine v_aald (k := 5) hX dX11_prove_100 rfl rfl (by decide) (by decide) k12 i13 ?_
      refine v_iload hX dX11_prove_101 4 rfl ?_
      refine v_iload hX dX11_prove_103 6 rfl ?_
      refine v_iadd hX dX11_prove_105 ?_
      obtain ⟨a14, e_a14, h⟩ := h
      refine v_nn1 e_a14 ?_
      obtain ⟨k15, h⟩ := h
      refine v_callVi0 hX dX11_prove_106 c_RX11_126 cV_X5_cellAt (ci := 6) (T := TX5) (N := 3) rfl (by exact k15) [pI _] rfl rfl (Nat.le_of_ble_eq_true rfl) (by decide) (by decide)  (m_X5_cellAt h) (fun p17 s16 h => ?_)
      refine v_iload hX dX11_prove_109 0 rfl ?_
      refine v_icmp_eq (tgt := 120) hX dX11_prove_111 (by decide) (fun c18 => ?_) (fun c18 => ?_)
      · have h := h_T c18 h
        refine v_iload_n hX dX11_prove_120 2 rfl rfl ?_
        refine v_iload hX dX11_prove_121 6 rfl ?_
        refine v_ishr hX dX11_prove_123 ?_
        refine v_iconst (v := 1) hX dX11_prove_124 (by decide) ?_
        refine v_iand hX dX11_prove_125 ?_
        refine v_if_ne (tgt := 139) hX dX11_prove_126 (by decide) (fun c19 => ?_) (fun c19 => ?_)
        · have h := h_E c19 h
          refine v_iload hX dX11_prove_139 0 rfl ?_
          refine v_iload hX dX11_prove_141 5 rfl ?_
          refine v_callSi0 hX dX11_prove_143 c_RX11_486 cS_X11_mix [pI _, pI _] rfl rfl (Nat.le_of_ble_eq_true rfl) (by decide) (by decide)  (m_X11_mix h) (fun p21 s20 h => ?_)
          refine v_pick [1, 2, 3, 4, 6] rfl ?_
          exact b_X11_prove_146 hX hE hK78 _ h
        · have h := h_T c19 h
          refine v_iload hX dX11_prove_129 5 rfl ?_
          refine v_iload hX dX11_prove_131 0 rfl ?_
          refine v_callSi0 hX dX11_prove_133 c_RX11_486 cS_X11_mix [pI _, pI _] rfl rfl (Nat.le_of_ble_eq_true rfl) (by decide) (by decide)  (m_X11_mix h) (fun p23 s22 h => ?_)
          refine v_goto (tgt := 146) hX dX11_prove_136 (by decide) ?_
          refine v_pick [1, 2, 3, 4, 6] rfl ?_
          exact b_X11_prove_146 hX hE hK78 _ h
      · have h := h_E c18 h
        refine v_bipush (v := -100) hX dX11_prove_114 (by decide) ?_
        refine v_iload hX dX11_prove_116 6 rfl ?_
        refine v_isub hX dX11_prove_118 ?_
        exact v_iret hX hE dX11_prove_119 h
set_option maxRecDepth 100000 in
set_option maxHeartbeats 4000000 in
theorem m_X11_prove {Z : h_Z} {o0 : Nat} {x1 : Int32} {x2 : Int32} {x3 : Int32} {x4 : Int32} {x5 : Int32} {x6 : Int32} {x7 : Int32} {x8 : Int32} {s : h_S} {Q : Int32 → h_S → Prop} (h : w_X11_prove o0 x1 x2 x3 x4 x5 x6 x7 x8 s Q) : h_M Z yX11_prove cX11_prove 13 (some .int) 5 109 [pR (some o0), pI x1, pI x2, pI x3, pI x4, pI x5, pI x6, pI x7, pI x8] s 0 0 (h_QI Z Q) := by
  refine h_M.of (by decide) (Nat.le_of_ble_eq_true rfl) (fun X hZ hX hE hI => ?_)
  subst hZ
  unfold w_X11_prove at h
  show h_V X 13 0 [(0, pR (some o0)), (1, pI x1), (2, pI x2), (3, pI x3), (4, pI x4), (5, pI x5), (6, pI x6), (7, pI x7), (8, pI x8)] [] s 0 0
  refine v_aload_n hX dX11_prove_0 0 rfl rfl ?_
  refine v_iconst (v := 0) hX dX11_prove_1 (by decide) ?_
  obtain ⟨k1, h⟩ := h
  refine v_putI hX dX11_prove_2 f_RX11_100 k1 ?_
  refine v_iload_n hX dX11_prove_5 1 rfl rfl ?_
  refine v_sipush (v := 500) hX dX11_prove_6 (by decide) ?_
  refine v_callSi0 hX dX11_prove_9 c_RX11_78 cS_X11_within [pI _, pI _] rfl rfl (Nat.le_of_ble_eq_true rfl) (by decide) (by decide)  (m_X11_within h) (fun p4 s3 h => ?_)
  refine v_if_eq (tgt := 33) hX dX11_prove_12 (by decide) (fun c5 => ?_) (fun c5 => ?_)
  · have h := h_T c5 h
    refine v_pick [] rfl ?_
    exact b_X11_prove_33 hX hE _ h
  · have h := h_E c5 h
    refine v_aload_n hX dX11_prove_15 0 rfl rfl ?_
    refine v_iload hX dX11_prove_16 5 rfl ?_
    obtain ⟨k6, h⟩ := h
    refine v_callVi0 hX dX11_prove_18 c_RX11_153 cV_X11_isMoment (ci := 12) (T := TX11) (N := 19) rfl (by exact k6) [pI _] rfl rfl (Nat.le_of_ble_eq_true rfl) (by decide) (by decide)  (m_X11_isMoment h) (fun p8 s7 h => ?_)
    refine v_if_eq (tgt := 33) hX dX11_prove_21 (by decide) (fun c9 => ?_) (fun c9 => ?_)
    · have h := h_T c9 h
      refine v_pick [] rfl ?_
      exact b_X11_prove_33 hX hE _ h
    · have h := h_E c9 h
      refine v_iload hX dX11_prove_24 6 rfl ?_
      refine v_iconst (v := 4) hX dX11_prove_26 (by decide) ?_
      refine v_callSi0 hX dX11_prove_27 c_RX11_78 cS_X11_within [pI _, pI _] rfl rfl (Nat.le_of_ble_eq_true rfl) (by decide) (by decide)  (m_X11_within h) (fun p11 s10 h => ?_)
      refine v_if_ne (tgt := 35) hX dX11_prove_30 (by decide) (fun c12 => ?_) (fun c12 => ?_)
      · have h := h_E c12 h
        refine v_aload_n hX dX11_prove_35 0 rfl rfl ?_
        refine v_iload hX dX11_prove_36 6 rfl ?_
        refine v_iload hX dX11_prove_38 7 rfl ?_
        refine v_iload hX dX11_prove_40 8 rfl ?_
        refine v_bipush (v := 9) hX dX11_prove_42 (by decide) ?_
        obtain ⟨k13, h⟩ := h
        refine v_callVi0 hX dX11_prove_44 c_RX11_106 cV_X11_refusedCells (ci := 12) (T := TX11) (N := 19) rfl (by exact k13) [pI _, pI _, pI _, pI _] rfl rfl (Nat.le_of_ble_eq_true rfl) (by decide) (by decide)  (m_X11_refusedCells h) (fun p15 s14 h => ?_)
        refine v_istore (lv' := [(9, _), (0, _), (1, _), (2, _), (3, _), (4, _), (5, _), (6, _), (7, _), (8, _)]) hX dX11_prove_47 (by decide) rfl ?_
        refine v_iload hX dX11_prove_49 0 rfl ?_
        refine v_if_eq (tgt := 57) hX dX11_prove_51 (by decide) (fun c16 => ?_) (fun c16 => ?_)
        · have h := h_T c16 h
          refine v_aload_n hX dX11_prove_57 1 rfl rfl ?_
          refine v_iload hX dX11_prove_58 6 rfl ?_
          obtain ⟨k17, h⟩ := h
          refine v_callVv0 hX dX11_prove_60 c_RX11_480 cV_X11_growTree (ci := 12) (T := TX11) (N := 19) rfl (by exact k17) [pI _] rfl rfl (Nat.le_of_ble_eq_true rfl) (by decide) (by decide)  (m_X11_growTree h) (fun s18 h => ?_)
          refine v_iload_n hX dX11_prove_63 3 rfl rfl ?_
          refine v_iload_n hX dX11_prove_64 4 rfl rfl ?_
          refine v_callSi0 hX dX11_prove_65 c_RX11_486 cS_X11_mix [pI _, pI _] rfl rfl (Nat.le_of_ble_eq_true rfl) (by decide) (by decide)  (m_X11_mix h) (fun p21 s20 h => ?_)
          refine v_iload hX dX11_prove_68 5 rfl ?_
          refine v_callSi0 hX dX11_prove_70 c_RX11_486 cS_X11_mix [pI _, pI _] rfl rfl (Nat.le_of_ble_eq_true rfl) (by decide) (by decide)  (m_X11_mix h) (fun p23 s22 h => ?_)
          refine v_istore (lv' := [(10, _), (9, _), (0, _), (1, _), (2, _), (3, _), (4, _), (5, _), (6, _), (7, _), (8, _)]) hX dX11_prove_73 (by decide) rfl ?_
          refine v_iconst (v := 0) hX dX11_prove_75 (by decide) ?_
          refine v_istore (lv' := [(11, _), (10, _), (9, _), (0, _), (1, _), (2, _), (3, _), (4, _), (5, _), (6, _), (7, _), (8, _)]) hX dX11_prove_76 (by decide) rfl ?_
          refine v_pick [3, 4, 9, 11, 1, 0] rfl ?_
          obtain ⟨n, h⟩ := h
          exact b_X11_prove_78 hX hE n _ _ _ _ _ _ _ h
        · have h := h_E c16 h
          refine v_iload hX dX11_prove_54 0 rfl ?_
          exact v_iret hX hE dX11_prove_56 h
      · have h := h_T c12 h
        refine v_pick [] rfl ?_
        exact b_X11_prove_33 hX hE _ h
set_option maxRecDepth 100000 in
set_option maxHeartbeats 4000000 in
theorem b_X11_stamp_18 {X : h_X} (hX : h_ok X cX11_stamp 2 RX11 1 21) {Q : Int32 → h_S → Prop} (hE : h_end X (some .int) (h_QI (x_Z X) Q)) {y0 : Int32} (s : h_S) (h : w_X11_stamp_18 Q y0 s) : h_V X 2 18 [] [pI y0] s 0 0 := by
  unfold w_X11_stamp_18 at h
  exact v_iret hX hE dX11_stamp_18 h
set_option maxRecDepth 100000 in
set_option maxHeartbeats 4000000 in
theorem m_X11_stamp {Z : h_Z} {o0 : Nat} {x1 : Int32} {s : h_S} {Q : Int32 → h_S → Prop} (h : w_X11_stamp o0 x1 s Q) : h_M Z yX11_stamp cX11_stamp 2 (some .int) 1 21 [pR (some o0), pI x1] s 0 0 (h_QI Z Q) := by
  refine h_M.of (by decide) (Nat.le_of_ble_eq_true rfl) (fun X hZ hX hE hI => ?_)
  subst hZ
  unfold w_X11_stamp at h
  show h_V X 2 0 [(0, pR (some o0)), (1, pI x1)] [] s 0 0
  refine v_aload_n hX dX11_stamp_0 0 rfl rfl ?_
  refine v_iload_n hX dX11_stamp_1 1 rfl rfl ?_
  obtain ⟨k1, h⟩ := h
  refine v_callVi0 hX dX11_stamp_2 c_RX11_153 cV_X11_isMoment (ci := 12) (T := TX11) (N := 19) rfl (by exact k1) [pI _] rfl rfl (Nat.le_of_ble_eq_true rfl) (by decide) (by decide)  (m_X11_isMoment h) (fun p3 s2 h => ?_)
  refine v_if_eq (tgt := 17) hX dX11_stamp_5 (by decide) (fun c4 => ?_) (fun c4 => ?_)
  · have h := h_T c4 h
    refine v_iconst (v := 0) hX dX11_stamp_17 (by decide) ?_
    refine v_pick [] rfl ?_
    exact b_X11_stamp_18 hX hE _ h
  · have h := h_E c4 h
    refine v_aload_n hX dX11_stamp_8 0 rfl rfl ?_
    obtain ⟨k5, h⟩ := h
    refine v_getR hX dX11_stamp_9 f_RX11_11 rfl k5 ?_
    refine v_iload_n hX dX11_stamp_12 1 rfl rfl ?_
    obtain ⟨a6, e_a6, h⟩ := h
    refine v_nn1 e_a6 ?_
    obtain ⟨k7, h⟩ := h
    obtain ⟨i8, h⟩ := h
    refine v_iald hX dX11_stamp_13 k7 i8 ?_
    refine v_goto (tgt := 18) hX dX11_stamp_14 (by decide) ?_
    refine v_pick [] rfl ?_
    exact b_X11_stamp_18 hX hE _ h
set_option maxRecDepth 100000 in
set_option maxHeartbeats 4000000 in
theorem b_X11_sheet_29 {X : h_X} (hX : h_ok X cX11_sheet 4 RX11 2 45) {Q : Int32 → h_S → Prop} (hE : h_end X (some .int) (h_QI (x_Z X) Q)) (s : h_S) (h : w_X11_sheet_29 Q s) : h_V X 4 29 [] [] s 0 0 := by
  unfold w_X11_sheet_29 at h
  refine v_bipush (v := -2) hX dX11_sheet_29 (by decide) ?_
  exact v_iret hX hE dX11_sheet_31 h
set_option maxRecDepth 100000 in
set_option maxHeartbeats 4000000 in
theorem m_X11_sheet {Z : h_Z} {o0 : Nat} {x1 : Int32} {x2 : Int32} {x3 : Int32} {s : h_S} {Q : Int32 → h_S → Prop} (h : w_X11_sheet o0 x1 x2 x3 s Q) : h_M Z yX11_sheet cX11_sheet 4 (some .int) 2 45 [pR (some o0), pI x1, pI x2, pI x3] s 0 0 (h_QI Z Q) := by
  refine h_M.of (by decide) (Nat.le_of_ble_eq_true rfl) (fun X hZ hX hE hI => ?_)
  subst hZ
  unfold w_X11_sheet at h
  show h_V X 4 0 [(0, pR (some o0)), (1, pI x1), (2, pI x2), (3, pI x3)] [] s 0 0
  refine v_aload_n hX dX11_sheet_0 0 rfl rfl ?_
  refine v_iconst (v := 0) hX dX11_sheet_1 (by decide) ?_
  obtain ⟨k1, h⟩ := h
  refine v_putI hX dX11_sheet_2 f_RX11_100 k1 ?_
  refine v_iload_n hX dX11_sheet_5 1 rfl rfl ?_
  refine v_iconst (v := 4) hX dX11_sheet_6 (by decide) ?_
  refine v_callSi0 hX dX11_sheet_7 c_RX11_78 cS_X11_within [pI _, pI _] rfl rfl (Nat.le_of_ble_eq_true rfl) (by decide) (by decide)  (m_X11_within h) (fun p4 s3 h => ?_)
  refine v_if_ne (tgt := 15) hX dX11_sheet_10 (by decide) (fun c5 => ?_) (fun c5 => ?_)
  · have h := h_E c5 h
    refine v_iload_n hX dX11_sheet_15 2 rfl rfl ?_
    refine v_iconst (v := 3) hX dX11_sheet_16 (by decide) ?_
    refine v_callSi0 hX dX11_sheet_17 c_RX11_78 cS_X11_within [pI _, pI _] rfl rfl (Nat.le_of_ble_eq_true rfl) (by decide) (by decide)  (m_X11_within h) (fun p7 s6 h => ?_)
    refine v_if_eq (tgt := 29) hX dX11_sheet_20 (by decide) (fun c8 => ?_) (fun c8 => ?_)
    · have h := h_T c8 h
      refine v_pick [] rfl ?_
      exact b_X11_sheet_29 hX hE _ h
    · have h := h_E c8 h
      refine v_iload_n hX dX11_sheet_23 3 rfl rfl ?_
      refine v_bipush (v := 60) hX dX11_sheet_24 (by decide) ?_
      refine v_icmp_le (tgt := 32) hX dX11_sheet_26 (by decide) (fun c9 => ?_) (fun c9 => ?_)
      · have h := h_T c9 h
        refine v_iload_n hX dX11_sheet_32 3 rfl rfl ?_
        refine v_if_ge (tgt := 42) hX dX11_sheet_33 (by decide) (fun c10 => ?_) (fun c10 => ?_)
        · have h := h_T c10 h
          refine v_aload_n hX dX11_sheet_42 0 rfl rfl ?_
          obtain ⟨k11, h⟩ := h
          refine v_getR hX dX11_sheet_43 f_RX11_43 rfl k11 ?_
          refine v_iload_n hX dX11_sheet_46 1 rfl rfl ?_
          obtain ⟨a12, e_a12, h⟩ := h
          refine v_nn1 e_a12 ?_
          obtain ⟨k13, h⟩ := h
          obtain ⟨i14, h⟩ := h
          refine v_aald (k := 5) hX dX11_sheet_47 rfl rfl (by decide) (by decide) k13 i14 ?_
          refine v_iload_n hX dX11_sheet_48 2 rfl rfl ?_
          refine v_iload_n hX dX11_sheet_49 3 rfl rfl ?_
          obtain ⟨a15, e_a15, h⟩ := h
          refine v_nn2 e_a15 ?_
          obtain ⟨k16, h⟩ := h
          refine v_callVv0 hX dX11_sheet_50 c_RX11_491 cV_X5_renew (ci := 6) (T := TX5) (N := 3) rfl (by exact k16) [pI _, pI _] rfl rfl (Nat.le_of_ble_eq_true rfl) (by decide) (by decide)  (m_X5_renew h) (fun s17 h => ?_)
          refine v_iconst (v := 1) hX dX11_sheet_53 (by decide) ?_
          exact v_iret hX hE dX11_sheet_54 h
        · have h := h_E c10 h
          refine v_aload_n hX dX11_sheet_36 0 rfl rfl ?_
          refine v_iconst (v := 4) hX dX11_sheet_37 (by decide) ?_
          obtain ⟨k19, h⟩ := h
          refine v_callVi0 hX dX11_sheet_38 c_RX11_349 cV_X11_failed (ci := 12) (T := TX11) (N := 19) rfl (by exact k19) [pI _] rfl rfl (Nat.le_of_ble_eq_true rfl) (by decide) (by decide)  (m_X11_failed h) (fun p21 s20 h => ?_)
          exact v_iret hX hE dX11_sheet_41 h
      · have h := h_E c9 h
        refine v_pick [] rfl ?_
        exact b_X11_sheet_29 hX hE _ h
  · have h := h_T c5 h
    refine v_iconst (v := -1) hX dX11_sheet_13 (by decide) ?_
    exact v_iret hX hE dX11_sheet_14 h
set_option maxRecDepth 100000 in
set_option maxHeartbeats 4000000 in
theorem b_X11_lose_27 {X : h_X} (hX : h_ok X cX11_lose 3 RX11 1 21) {Q : Int32 → h_S → Prop} (hE : h_end X (some .int) (h_QI (x_Z X) Q)) {o0 : Nat} {x1 : Int32} {y0 : Int32} (s : h_S) (h : w_X11_lose_27 Q o0 x1 y0 s) : h_V X 3 27 [(0, pR (some o0)), (1, pI x1)] [pI y0] s 0 0 := by
  unfold w_X11_lose_27 at h
  refine v_istore_n (lv' := [(2, _), (0, _), (1, _)]) hX dX11_lose_27 rfl (by decide) rfl ?_
  refine v_aload_n hX dX11_lose_28 1 rfl rfl ?_
  obtain ⟨k1, h⟩ := h
  refine v_getR hX dX11_lose_29 f_RX11_43 rfl k1 ?_
  refine v_iload_n hX dX11_lose_32 2 rfl rfl ?_
  obtain ⟨a2, e_a2, h⟩ := h
  refine v_nn1 e_a2 ?_
  obtain ⟨k3, h⟩ := h
  obtain ⟨i4, h⟩ := h
  refine v_aald (k := 5) hX dX11_lose_33 rfl rfl (by decide) (by decide) k3 i4 ?_
  refine v_iconst (v := -1) hX dX11_lose_34 (by decide) ?_
  obtain ⟨a5, e_a5, h⟩ := h
  refine v_nn1 e_a5 ?_
  obtain ⟨k6, h⟩ := h
  refine v_putI hX dX11_lose_35 f_RX11_497 k6 ?_
  refine v_iload_n hX dX11_lose_38 0 rfl rfl ?_
  exact v_iret hX hE dX11_lose_39 h
set_option maxRecDepth 100000 in
set_option maxHeartbeats 4000000 in
theorem m_X11_lose {Z : h_Z} {o0 : Nat} {x1 : Int32} {s : h_S} {Q : Int32 → h_S → Prop} (h : w_X11_lose o0 x1 s Q) : h_M Z yX11_lose cX11_lose 3 (some .int) 1 21 [pR (some o0), pI x1] s 0 0 (h_QI Z Q) := by
  refine h_M.of (by decide) (Nat.le_of_ble_eq_true rfl) (fun X hZ hX hE hI => ?_)
  subst hZ
  unfold w_X11_lose at h
  show h_V X 3 0 [(0, pR (some o0)), (1, pI x1)] [] s 0 0
  refine v_iload_n hX dX11_lose_0 1 rfl rfl ?_
  refine v_iconst (v := 4) hX dX11_lose_1 (by decide) ?_
  refine v_callSi0 hX dX11_lose_2 c_RX11_78 cS_X11_within [pI _, pI _] rfl rfl (Nat.le_of_ble_eq_true rfl) (by decide) (by decide)  (m_X11_within h) (fun p2 s1 h => ?_)
  refine v_if_ne (tgt := 10) hX dX11_lose_5 (by decide) (fun c3 => ?_) (fun c3 => ?_)
  · have h := h_E c3 h
    refine v_aload_n hX dX11_lose_10 0 rfl rfl ?_
    obtain ⟨k4, h⟩ := h
    refine v_getR hX dX11_lose_11 f_RX11_43 rfl k4 ?_
    refine v_iload_n hX dX11_lose_14 1 rfl rfl ?_
    obtain ⟨a5, e_a5, h⟩ := h
    refine v_nn1 e_a5 ?_
    obtain ⟨k6, h⟩ := h
    obtain ⟨i7, h⟩ := h
    refine v_aald (k := 5) hX dX11_lose_15 rfl rfl (by decide) (by decide) k6 i7 ?_
    obtain ⟨a8, e_a8, h⟩ := h
    refine v_nn0 e_a8 ?_
    obtain ⟨k9, h⟩ := h
    refine v_callVi0 hX dX11_lose_16 c_RX11_494 cV_X5_isNothing (ci := 6) (T := TX5) (N := 3) rfl (by exact k9) [] rfl rfl (Nat.le_of_ble_eq_true rfl) (by decide) (by decide)  (m_X5_isNothing h) (fun p11 s10 h => ?_)
    refine v_if_eq (tgt := 26) hX dX11_lose_19 (by decide) (fun c12 => ?_) (fun c12 => ?_)
    · have h := h_T c12 h
      refine v_iconst (v := 1) hX dX11_lose_26 (by decide) ?_
      refine v_pick [0, 1] rfl ?_
      exact b_X11_lose_27 hX hE _ h
    · have h := h_E c12 h
      refine v_iconst (v := 0) hX dX11_lose_22 (by decide) ?_
      refine v_goto (tgt := 27) hX dX11_lose_23 (by decide) ?_
      refine v_pick [0, 1] rfl ?_
      exact b_X11_lose_27 hX hE _ h
  · have h := h_T c3 h
    refine v_iconst (v := -1) hX dX11_lose_8 (by decide) ?_
    exact v_iret hX hE dX11_lose_9 h
set_option maxRecDepth 100000 in
set_option maxHeartbeats 4000000 in
theorem m_X11_set {Z : h_Z} {o0 : Nat} {x1 : Int32} {x2 : Int32} {x3 : Int32} {s : h_S} {Q : Int32 → h_S → Prop} (h : w_X11_set o0 x1 x2 x3 s Q) : h_M Z yX11_set cX11_set 5 (some .int) 2 45 [pR (some o0), pI x1, pI x2, pI x3] s 0 0 (h_QI Z Q) := by
  refine h_M.of (by decide) (Nat.le_of_ble_eq_true rfl) (fun X hZ hX hE hI => ?_)
  subst hZ
  unfold w_X11_set at h
  show h_V X 5 0 [(0, pR (some o0)), (1, pI x1), (2, pI x2), (3, pI x3)] [] s 0 0
  refine v_aload_n hX dX11_set_0 0 rfl rfl ?_
  refine v_iconst (v := 0) hX dX11_set_1 (by decide) ?_
  obtain ⟨k1, h⟩ := h
  refine v_putI hX dX11_set_2 f_RX11_100 k1 ?_
  refine v_iload_n hX dX11_set_5 1 rfl rfl ?_
  refine v_iconst (v := 4) hX dX11_set_6 (by decide) ?_
  refine v_callSi0 hX dX11_set_7 c_RX11_78 cS_X11_within [pI _, pI _] rfl rfl (Nat.le_of_ble_eq_true rfl) (by decide) (by decide)  (m_X11_within h) (fun p4 s3 h => ?_)
  refine v_if_ne (tgt := 15) hX dX11_set_10 (by decide) (fun c5 => ?_) (fun c5 => ?_)
  · have h := h_E c5 h
    refine v_aload_n hX dX11_set_15 0 rfl rfl ?_
    obtain ⟨k6, h⟩ := h
    refine v_getR hX dX11_set_16 f_RX11_43 rfl k6 ?_
    refine v_iload_n hX dX11_set_19 1 rfl rfl ?_
    obtain ⟨a7, e_a7, h⟩ := h
    refine v_nn1 e_a7 ?_
    obtain ⟨k8, h⟩ := h
    obtain ⟨i9, h⟩ := h
    refine v_aald (k := 5) hX dX11_set_20 rfl rfl (by decide) (by decide) k8 i9 ?_
    refine v_aload_n hX dX11_set_21 0 rfl rfl ?_
    refine v_getR hX dX11_set_22 f_RX11_43 rfl k6 ?_
    refine v_iload_n hX dX11_set_25 1 rfl rfl ?_
    obtain ⟨a10, e_a10, h⟩ := h
    refine v_nn1 e_a10 ?_
    obtain ⟨k11, h⟩ := h
    obtain ⟨i12, h⟩ := h
    refine v_aald (k := 5) hX dX11_set_26 rfl rfl (by decide) (by decide) k11 i12 ?_
    obtain ⟨a13, e_a13, h⟩ := h
    refine v_nn0 e_a13 ?_
    obtain ⟨k14, h⟩ := h
    refine v_getI hX dX11_set_27 f_RX11_498 rfl k14 ?_
    refine v_iload_n hX dX11_set_30 2 rfl rfl ?_
    refine v_iconst (v := 1) hX dX11_set_31 (by decide) ?_
    obtain ⟨a15, e_a15, h⟩ := h
    refine v_nn3 e_a15 ?_
    obtain ⟨k16, h⟩ := h
    refine v_callVi0 hX dX11_set_32 c_RX11_501 cV_X5_faultOf (ci := 6) (T := TX5) (N := 3) rfl (by exact k16) [pI _, pI _, pI _] rfl rfl (Nat.le_of_ble_eq_true rfl) (by decide) (by decide)  (m_X5_faultOf h) (fun p18 s17 h => ?_)
    refine v_istore (lv' := [(4, _), (0, _), (1, _), (2, _), (3, _)]) hX dX11_set_35 (by decide) rfl ?_
    refine v_iload hX dX11_set_37 0 rfl ?_
    refine v_if_eq (tgt := 49) hX dX11_set_39 (by decide) (fun c19 => ?_) (fun c19 => ?_)
    · have h := h_T c19 h
      refine v_aload_n hX dX11_set_49 1 rfl rfl ?_
      obtain ⟨k20, h⟩ := h
      refine v_getR hX dX11_set_50 f_RX11_43 rfl k20 ?_
      refine v_iload_n hX dX11_set_53 2 rfl rfl ?_
      obtain ⟨a21, e_a21, h⟩ := h
      refine v_nn1 e_a21 ?_
      obtain ⟨k22, h⟩ := h
      obtain ⟨i23, h⟩ := h
      refine v_aald (k := 5) hX dX11_set_54 rfl rfl (by decide) (by decide) k22 i23 ?_
      refine v_iload_n hX dX11_set_55 3 rfl rfl ?_
      refine v_iload_n hX dX11_set_56 4 rfl rfl ?_
      obtain ⟨a24, e_a24, h⟩ := h
      refine v_nn2 e_a24 ?_
      obtain ⟨k25, h⟩ := h
      refine v_callVv0 hX dX11_set_57 c_RX11_504 cV_X5_write (ci := 6) (T := TX5) (N := 3) rfl (by exact k25) [pI _, pI _] rfl rfl (Nat.le_of_ble_eq_true rfl) (by decide) (by decide)  (m_X5_write h) (fun s26 h => ?_)
      refine v_iconst (v := 1) hX dX11_set_60 (by decide) ?_
      exact v_iret hX hE dX11_set_61 h
    · have h := h_E c19 h
      refine v_aload_n hX dX11_set_42 1 rfl rfl ?_
      refine v_iload hX dX11_set_43 0 rfl ?_
      obtain ⟨k28, h⟩ := h
      refine v_callVi0 hX dX11_set_45 c_RX11_349 cV_X11_failed (ci := 12) (T := TX11) (N := 19) rfl (by exact k28) [pI _] rfl rfl (Nat.le_of_ble_eq_true rfl) (by decide) (by decide)  (m_X11_failed h) (fun p30 s29 h => ?_)
      exact v_iret hX hE dX11_set_48 h
  · have h := h_T c5 h
    refine v_iconst (v := -1) hX dX11_set_13 (by decide) ?_
    exact v_iret hX hE dX11_set_14 h
set_option maxRecDepth 100000 in
set_option maxHeartbeats 4000000 in
theorem b_X11_cell_24 {X : h_X} (hX : h_ok X cX11_cell 4 RX11 3 70) {Q : Int64 → h_S → Prop} (hE : h_end X (some .long) (h_QL (x_Z X) Q)) (s : h_S) (h : w_X11_cell_24 Q s) : h_V X 4 24 [] [] s 0 0 := by
  unfold w_X11_cell_24 at h
  refine v_ldc2 hX dX11_cell_24 k_RX11_507 ?_
  exact v_lret hX hE dX11_cell_27 h
set_option maxRecDepth 100000 in
set_option maxHeartbeats 4000000 in
theorem m_X11_cell {Z : h_Z} {o0 : Nat} {x1 : Int32} {x2 : Int32} {x3 : Int32} {s : h_S} {Q : Int64 → h_S → Prop} (h : w_X11_cell o0 x1 x2 x3 s Q) : h_M Z yX11_cell cX11_cell 4 (some .long) 3 70 [pR (some o0), pI x1, pI x2, pI x3] s 0 0 (h_QL Z Q) := by
  refine h_M.of (by decide) (Nat.le_of_ble_eq_true rfl) (fun X hZ hX hE hI => ?_)
  subst hZ
  unfold w_X11_cell at h
  show h_V X 4 0 [(0, pR (some o0)), (1, pI x1), (2, pI x2), (3, pI x3)] [] s 0 0
  refine v_aload_n hX dX11_cell_0 0 rfl rfl ?_
  refine v_iconst (v := 0) hX dX11_cell_1 (by decide) ?_
  obtain ⟨k1, h⟩ := h
  refine v_putI hX dX11_cell_2 f_RX11_100 k1 ?_
  refine v_iload_n hX dX11_cell_5 1 rfl rfl ?_
  refine v_iconst (v := 4) hX dX11_cell_6 (by decide) ?_
  refine v_callSi0 hX dX11_cell_7 c_RX11_78 cS_X11_within [pI _, pI _] rfl rfl (Nat.le_of_ble_eq_true rfl) (by decide) (by decide)  (m_X11_within h) (fun p4 s3 h => ?_)
  refine v_if_eq (tgt := 24) hX dX11_cell_10 (by decide) (fun c5 => ?_) (fun c5 => ?_)
  · have h := h_T c5 h
    refine v_pick [] rfl ?_
    exact b_X11_cell_24 hX hE _ h
  · have h := h_E c5 h
    refine v_aload_n hX dX11_cell_13 0 rfl rfl ?_
    refine v_iload_n hX dX11_cell_14 1 rfl rfl ?_
    refine v_iload_n hX dX11_cell_15 3 rfl rfl ?_
    refine v_iload_n hX dX11_cell_16 2 rfl rfl ?_
    refine v_iconst (v := 1) hX dX11_cell_17 (by decide) ?_
    obtain ⟨k6, h⟩ := h
    refine v_callVi0 hX dX11_cell_18 c_RX11_106 cV_X11_refusedCells (ci := 12) (T := TX11) (N := 19) rfl (by exact k6) [pI _, pI _, pI _, pI _] rfl rfl (Nat.le_of_ble_eq_true rfl) (by decide) (by decide)  (m_X11_refusedCells h) (fun p8 s7 h => ?_)
    refine v_if_eq (tgt := 28) hX dX11_cell_21 (by decide) (fun c9 => ?_) (fun c9 => ?_)
    · have h := h_T c9 h
      refine v_aload_n hX dX11_cell_28 0 rfl rfl ?_
      obtain ⟨k10, h⟩ := h
      refine v_getR hX dX11_cell_29 f_RX11_43 rfl k10 ?_
      refine v_iload_n hX dX11_cell_32 1 rfl rfl ?_
      obtain ⟨a11, e_a11, h⟩ := h
      refine v_nn1 e_a11 ?_
      obtain ⟨k12, h⟩ := h
      obtain ⟨i13, h⟩ := h
      refine v_aald (k := 5) hX dX11_cell_33 rfl rfl (by decide) (by decide) k12 i13 ?_
      refine v_iload_n hX dX11_cell_34 2 rfl rfl ?_
      obtain ⟨a14, e_a14, h⟩ := h
      refine v_nn1 e_a14 ?_
      obtain ⟨k15, h⟩ := h
      refine v_callVi0 hX dX11_cell_35 c_RX11_126 cV_X5_cellAt (ci := 6) (T := TX5) (N := 3) rfl (by exact k15) [pI _] rfl rfl (Nat.le_of_ble_eq_true rfl) (by decide) (by decide)  (m_X5_cellAt h) (fun p17 s16 h => ?_)
      refine v_i2l hX dX11_cell_38 ?_
      exact v_lret hX hE dX11_cell_39 h
    · have h := h_E c9 h
      refine v_pick [] rfl ?_
      exact b_X11_cell_24 hX hE _ h
set_option maxRecDepth 100000 in
set_option maxHeartbeats 4000000 in
theorem b_X11_copy_21 {X : h_X} (hX : h_ok X cX11_copy 8 RX11 1 60) {Q : Int32 → h_S → Prop} (hE : h_end X (some .int) (h_QI (x_Z X) Q)) (s : h_S) (h : w_X11_copy_21 Q s) : h_V X 8 21 [] [] s 0 0 := by
  unfold w_X11_copy_21 at h
  refine v_iconst (v := -1) hX dX11_copy_21 (by decide) ?_
  exact v_iret hX hE dX11_copy_22 h
set_option maxRecDepth 100000 in
set_option maxHeartbeats 4000000 in
theorem b_X11_copy_55 {X : h_X} (hX : h_ok X cX11_copy 8 RX11 1 60) {Q : Int32 → h_S → Prop} (hE : h_end X (some .int) (h_QI (x_Z X) Q)) {o0 : Nat} (s : h_S) (h : w_X11_copy_55 Q o0 s) : h_V X 8 55 [(0, pR (some o0))] [] s 0 0 := by
  unfold w_X11_copy_55 at h
  refine v_aload_n hX dX11_copy_55 0 rfl rfl ?_
  refine v_iconst (v := 1) hX dX11_copy_56 (by decide) ?_
  obtain ⟨k1, h⟩ := h
  refine v_callVi0 hX dX11_copy_57 c_RX11_349 cV_X11_failed (ci := 12) (T := TX11) (N := 19) rfl (by exact k1) [pI _] rfl rfl (Nat.le_of_ble_eq_true rfl) (by decide) (by decide)  (m_X11_failed h) (fun p3 s2 h => ?_)
  exact v_iret hX hE dX11_copy_60 h
set_option maxRecDepth 100000 in
set_option maxHeartbeats 4000000 in
theorem b_X11_copy_103 {X : h_X} (hX : h_ok X cX11_copy 8 RX11 1 60) {Q : Int32 → h_S → Prop} (hE : h_end X (some .int) (h_QI (x_Z X) Q)) {o0 : Nat} (s : h_S) (h : w_X11_copy_103 Q o0 s) : h_V X 8 103 [(0, pR (some o0))] [] s 0 0 := by
  unfold w_X11_copy_103 at h
  refine v_aload_n hX dX11_copy_103 0 rfl rfl ?_
  refine v_iconst (v := 3) hX dX11_copy_104 (by decide) ?_
  obtain ⟨k1, h⟩ := h
  refine v_callVi0 hX dX11_copy_105 c_RX11_349 cV_X11_failed (ci := 12) (T := TX11) (N := 19) rfl (by exact k1) [pI _] rfl rfl (Nat.le_of_ble_eq_true rfl) (by decide) (by decide)  (m_X11_failed h) (fun p3 s2 h => ?_)
  exact v_iret hX hE dX11_copy_108 h
set_option maxRecDepth 100000 in
set_option maxHeartbeats 4000000 in
theorem m_X11_copy {Z : h_Z} {o0 : Nat} {x1 : Int32} {x2 : Int32} {x3 : Int32} {x4 : Int32} {x5 : Int32} {s : h_S} {Q : Int32 → h_S → Prop} (h : w_X11_copy o0 x1 x2 x3 x4 x5 s Q) : h_M Z yX11_copy cX11_copy 8 (some .int) 1 60 [pR (some o0), pI x1, pI x2, pI x3, pI x4, pI x5] s 0 0 (h_QI Z Q) := by
  refine h_M.of (by decide) (Nat.le_of_ble_eq_true rfl) (fun X hZ hX hE hI => ?_)
  subst hZ
  unfold w_X11_copy at h
  show h_V X 8 0 [(0, pR (some o0)), (1, pI x1), (2, pI x2), (3, pI x3), (4, pI x4), (5, pI x5)] [] s 0 0
  refine v_aload_n hX dX11_copy_0 0 rfl rfl ?_
  refine v_iconst (v := 0) hX dX11_copy_1 (by decide) ?_
  obtain ⟨k1, h⟩ := h
  refine v_putI hX dX11_copy_2 f_RX11_100 k1 ?_
  refine v_iload_n hX dX11_copy_5 1 rfl rfl ?_
  refine v_iconst (v := 4) hX dX11_copy_6 (by decide) ?_
  refine v_callSi0 hX dX11_copy_7 c_RX11_78 cS_X11_within [pI _, pI _] rfl rfl (Nat.le_of_ble_eq_true rfl) (by decide) (by decide)  (m_X11_within h) (fun p4 s3 h => ?_)
  refine v_if_eq (tgt := 21) hX dX11_copy_10 (by decide) (fun c5 => ?_) (fun c5 => ?_)
  · have h := h_T c5 h
    refine v_pick [] rfl ?_
    exact b_X11_copy_21 hX hE _ h
  · have h := h_E c5 h
    refine v_iload_n hX dX11_copy_13 3 rfl rfl ?_
    refine v_iconst (v := 4) hX dX11_copy_14 (by decide) ?_
    refine v_callSi0 hX dX11_copy_15 c_RX11_78 cS_X11_within [pI _, pI _] rfl rfl (Nat.le_of_ble_eq_true rfl) (by decide) (by decide)  (m_X11_within h) (fun p7 s6 h => ?_)
    refine v_if_ne (tgt := 23) hX dX11_copy_18 (by decide) (fun c8 => ?_) (fun c8 => ?_)
    · have h := h_E c8 h
      refine v_aload_n hX dX11_copy_23 0 rfl rfl ?_
      obtain ⟨k9, h⟩ := h
      refine v_getR hX dX11_copy_24 f_RX11_43 rfl k9 ?_
      refine v_iload_n hX dX11_copy_27 1 rfl rfl ?_
      obtain ⟨a10, e_a10, h⟩ := h
      refine v_nn1 e_a10 ?_
      obtain ⟨k11, h⟩ := h
      obtain ⟨i12, h⟩ := h
      refine v_aald (k := 5) hX dX11_copy_28 rfl rfl (by decide) (by decide) k11 i12 ?_
      refine v_astore (lv' := [(6, _), (0, _), (1, _), (2, _), (3, _), (4, _), (5, _)]) hX dX11_copy_29 (by decide) rfl ?_
      refine v_aload_n hX dX11_copy_31 1 rfl rfl ?_
      refine v_getR hX dX11_copy_32 f_RX11_43 rfl k9 ?_
      refine v_iload_n hX dX11_copy_35 4 rfl rfl ?_
      obtain ⟨a13, e_a13, h⟩ := h
      refine v_nn1 e_a13 ?_
      obtain ⟨k14, h⟩ := h
      obtain ⟨i15, h⟩ := h
      refine v_aald (k := 5) hX dX11_copy_36 rfl rfl (by decide) (by decide) k14 i15 ?_
      refine v_astore (lv' := [(7, _), (6, _), (0, _), (1, _), (2, _), (3, _), (4, _), (5, _)]) hX dX11_copy_37 (by decide) rfl ?_
      refine v_aload hX dX11_copy_39 1 rfl ?_
      obtain ⟨a16, e_a16, h⟩ := h
      refine v_nn0 e_a16 ?_
      obtain ⟨k17, h⟩ := h
      refine v_callVi0 hX dX11_copy_41 c_RX11_494 cV_X5_isNothing (ci := 6) (T := TX5) (N := 3) rfl (by exact k17) [] rfl rfl (Nat.le_of_ble_eq_true rfl) (by decide) (by decide)  (m_X5_isNothing h) (fun p19 s18 h => ?_)
      refine v_if_ne (tgt := 55) hX dX11_copy_44 (by decide) (fun c20 => ?_) (fun c20 => ?_)
      · have h := h_E c20 h
        refine v_pick [2] rfl ?_
        exact b_X11_copy_55 hX hE _ h
      · have h := h_T c20 h
        refine v_aload hX dX11_copy_47 0 rfl ?_
        obtain ⟨a21, e_a21, h⟩ := h
        refine v_nn0 e_a21 ?_
        obtain ⟨k22, h⟩ := h
        refine v_callVi0 hX dX11_copy_49 c_RX11_494 cV_X5_isNothing (ci := 6) (T := TX5) (N := 3) rfl (by exact k22) [] rfl rfl (Nat.le_of_ble_eq_true rfl) (by decide) (by decide)  (m_X5_isNothing h) (fun p24 s23 h => ?_)
        refine v_if_eq (tgt := 61) hX dX11_copy_52 (by decide) (fun c25 => ?_) (fun c25 => ?_)
        · have h := h_T c25 h
          refine v_aload hX dX11_copy_61 1 rfl ?_
          obtain ⟨a26, e_a26, h⟩ := h
          refine v_nn0 e_a26 ?_
          obtain ⟨k27, h⟩ := h
          refine v_getI hX dX11_copy_63 f_RX11_498 rfl k27 ?_
          refine v_aload hX dX11_copy_66 0 rfl ?_
          obtain ⟨a28, e_a28, h⟩ := h
          refine v_nn0 e_a28 ?_
          obtain ⟨k29, h⟩ := h
          refine v_getI hX dX11_copy_68 f_RX11_498 rfl k29 ?_
          refine v_icmp_eq (tgt := 80) hX dX11_copy_71 (by decide) (fun c30 => ?_) (fun c30 => ?_)
          · have h := h_T c30 h
            refine v_aload hX dX11_copy_80 1 rfl ?_
            refine v_iload_n hX dX11_copy_82 4 rfl rfl ?_
            refine v_iload hX dX11_copy_83 7 rfl ?_
            obtain ⟨a31, e_a31, h⟩ := h
            refine v_nn2 e_a31 ?_
            obtain ⟨k32, h⟩ := h
            refine v_callVi0 hX dX11_copy_85 c_RX11_509 cV_X5_hasCells (ci := 6) (T := TX5) (N := 3) rfl (by exact k32) [pI _, pI _] rfl rfl (Nat.le_of_ble_eq_true rfl) (by decide) (by decide)  (m_X5_hasCells h) (fun p34 s33 h => ?_)
            refine v_if_eq (tgt := 103) hX dX11_copy_88 (by decide) (fun c35 => ?_) (fun c35 => ?_)
            · have h := h_T c35 h
              refine v_pick [2] rfl ?_
              exact b_X11_copy_103 hX hE _ h
            · have h := h_E c35 h
              refine v_aload hX dX11_copy_91 0 rfl ?_
              refine v_iload hX dX11_copy_93 6 rfl ?_
              refine v_iload hX dX11_copy_95 7 rfl ?_
              obtain ⟨a36, e_a36, h⟩ := h
              refine v_nn2 e_a36 ?_
              obtain ⟨k37, h⟩ := h
              refine v_callVi0 hX dX11_copy_97 c_RX11_509 cV_X5_hasCells (ci := 6) (T := TX5) (N := 3) rfl (by exact k37) [pI _, pI _] rfl rfl (Nat.le_of_ble_eq_true rfl) (by decide) (by decide)  (m_X5_hasCells h) (fun p39 s38 h => ?_)
              refine v_if_ne (tgt := 109) hX dX11_copy_100 (by decide) (fun c40 => ?_) (fun c40 => ?_)
              · have h := h_E c40 h
                refine v_aload hX dX11_copy_109 1 rfl ?_
                obtain ⟨a41, e_a41, h⟩ := h
                refine v_nn0 e_a41 ?_
                obtain ⟨k42, h⟩ := h
                refine v_getR hX dX11_copy_111 f_RX11_512 rfl k42 ?_
                refine v_iload_n hX dX11_copy_114 4 rfl rfl ?_
                refine v_aload hX dX11_copy_115 0 rfl ?_
                obtain ⟨a43, e_a43, h⟩ := h
                refine v_nn0 e_a43 ?_
                obtain ⟨k44, h⟩ := h
                refine v_getR hX dX11_copy_117 f_RX11_512 rfl k44 ?_
                refine v_iload hX dX11_copy_120 6 rfl ?_
                refine v_iload hX dX11_copy_122 7 rfl ?_
                obtain ⟨a45, e_a45, h⟩ := h
                refine v_nn2 e_a45 ?_
                obtain ⟨k46, h⟩ := h
                obtain ⟨a47, e_a47, h⟩ := h
                refine v_nn4 e_a47 ?_
                obtain ⟨k48, h⟩ := h
                obtain ⟨i49, i50, i51, i52, i53, h⟩ := h
                refine v_copy hX dX11_copy_124 sy_RX11_515 sy_nat sy_stat sy_ini (by decide) (Nat.le_of_ble_eq_true rfl) k48 k46 i49 i50 i51 i52 i53 ?_
                refine v_iload hX dX11_copy_127 7 rfl ?_
                exact v_iret hX hE dX11_copy_129 h
              · have h := h_T c40 h
                refine v_pick [2] rfl ?_
                exact b_X11_copy_103 hX hE _ h
          · have h := h_E c30 h
            refine v_aload_n hX dX11_copy_74 2 rfl rfl ?_
            refine v_iconst (v := 2) hX dX11_copy_75 (by decide) ?_
            obtain ⟨k55, h⟩ := h
            refine v_callVi0 hX dX11_copy_76 c_RX11_349 cV_X11_failed (ci := 12) (T := TX11) (N := 19) rfl (by exact k55) [pI _] rfl rfl (Nat.le_of_ble_eq_true rfl) (by decide) (by decide)  (m_X11_failed h) (fun p57 s56 h => ?_)
            exact v_iret hX hE dX11_copy_79 h
        · have h := h_E c25 h
          refine v_pick [2] rfl ?_
          exact b_X11_copy_55 hX hE _ h
    · have h := h_T c8 h
      refine v_pick [] rfl ?_
      exact b_X11_copy_21 hX hE _ h
set_option maxRecDepth 100000 in
set_option maxHeartbeats 4000000 in
theorem m_X11_noteBody {Z : h_Z} {o0 : Nat} {x1 : Int32} {s : h_S} {Q : h_S → Prop} (h : w_X11_noteBody o0 x1 s Q) : h_M Z yX11_noteBody cX11_noteBody 2 none 0 0 [pR (some o0), pI x1] s 0 0 (h_QV Z Q) := by
  refine h_M.of (by decide) (Nat.le_of_ble_eq_true rfl) (fun X hZ hX hE hI => ?_)
  subst hZ
  unfold w_X11_noteBody at h
  show h_V X 2 0 [(0, pR (some o0)), (1, pI x1)] [] s 0 0
  refine v_aload_n hX dX11_noteBody_0 0 rfl rfl ?_
  refine v_bipush (v := 31) hX dX11_noteBody_1 (by decide) ?_
  refine v_aload_n hX dX11_noteBody_3 0 rfl rfl ?_
  obtain ⟨k1, h⟩ := h
  refine v_getI hX dX11_noteBody_4 f_RX11_539 rfl k1 ?_
  refine v_imul hX dX11_noteBody_7 ?_
  refine v_iload_n hX dX11_noteBody_8 1 rfl rfl ?_
  refine v_iadd hX dX11_noteBody_9 ?_
  refine v_putI hX dX11_noteBody_10 f_RX11_539 k1 ?_
  exact v_vret hX hE dX11_noteBody_13 h
set_option maxRecDepth 100000 in
set_option maxHeartbeats 4000000 in
theorem m_X11_tellLink {Z : h_Z} {o0 : Nat} {r1 : Option Nat} {s : h_S} {Q : Int32 → h_S → Prop} (h : w_X11_tellLink o0 r1 s Q) : h_M Z yX11_tellLink cX11_tellLink 2 (some .int) 1 21 [pR (some o0), pR r1] s 0 0 (h_QI Z Q) := by
  refine h_M.of (by decide) (Nat.le_of_ble_eq_true rfl) (fun X hZ hX hE hI => ?_)
  subst hZ
  unfold w_X11_tellLink at h
  show h_V X 2 0 [(0, pR (some o0)), (1, pR r1)] [] s 0 0
  refine v_aload_n hX dX11_tellLink_0 0 rfl rfl ?_
  refine v_iconst (v := 1) hX dX11_tellLink_1 (by decide) ?_
  obtain ⟨k1, h⟩ := h
  refine v_callVv0 hX dX11_tellLink_2 c_RX11_536 cV_X11_noteBody (ci := 12) (T := TX11) (N := 19) rfl (by exact k1) [pI _] rfl rfl (Nat.le_of_ble_eq_true rfl) (by decide) (by decide)  (m_X11_noteBody h) (fun s2 h => ?_)
  refine v_aload_n hX dX11_tellLink_5 1 rfl rfl ?_
  obtain ⟨a4, e_a4, h⟩ := h
  refine v_nn0 e_a4 ?_
  obtain ⟨k5, h⟩ := h
  refine v_getR hX dX11_tellLink_6 f_RX11_355 rfl k5 ?_
  refine v_iconst (v := 0) hX dX11_tellLink_9 (by decide) ?_
  obtain ⟨a6, e_a6, h⟩ := h
  refine v_nn1 e_a6 ?_
  obtain ⟨k7, h⟩ := h
  obtain ⟨i8, h⟩ := h
  refine v_iald hX dX11_tellLink_10 k7 i8 ?_
  exact v_iret hX hE dX11_tellLink_11 h
set_option maxRecDepth 100000 in
set_option maxHeartbeats 4000000 in
theorem m_X11_tellNote {Z : h_Z} {o0 : Nat} {r1 : Option Nat} {s : h_S} {Q : Int32 → h_S → Prop} (h : w_X11_tellNote o0 r1 s Q) : h_M Z yX11_tellNote cX11_tellNote 2 (some .int) 2 42 [pR (some o0), pR r1] s 0 0 (h_QI Z Q) := by
  refine h_M.of (by decide) (Nat.le_of_ble_eq_true rfl) (fun X hZ hX hE hI => ?_)
  subst hZ
  unfold w_X11_tellNote at h
  show h_V X 2 0 [(0, pR (some o0)), (1, pR r1)] [] s 0 0
  refine v_aload_n hX dX11_tellNote_0 0 rfl rfl ?_
  refine v_iconst (v := 2) hX dX11_tellNote_1 (by decide) ?_
  obtain ⟨k1, h⟩ := h
  refine v_callVv0 hX dX11_tellNote_2 c_RX11_536 cV_X11_noteBody (ci := 12) (T := TX11) (N := 19) rfl (by exact k1) [pI _] rfl rfl (Nat.le_of_ble_eq_true rfl) (by decide) (by decide)  (m_X11_noteBody h) (fun s2 h => ?_)
  refine v_aload_n hX dX11_tellNote_5 0 rfl rfl ?_
  refine v_aload_n hX dX11_tellNote_6 1 rfl rfl ?_
  obtain ⟨k4, h⟩ := h
  refine v_callVi0 hX dX11_tellNote_7 c_RX11_533 cV_X11_tellLink (ci := 12) (T := TX11) (N := 19) rfl (by exact k4) [pR _] rfl rfl (Nat.le_of_ble_eq_true rfl) (by decide) (by decide)  (m_X11_tellLink h) (fun p6 s5 h => ?_)
  refine v_aload_n hX dX11_tellNote_10 1 rfl rfl ?_
  obtain ⟨a7, e_a7, h⟩ := h
  refine v_nn0 e_a7 ?_
  obtain ⟨k8, h⟩ := h
  refine v_getR hX dX11_tellNote_11 f_RX11_355 rfl k8 ?_
  refine v_iconst (v := 1) hX dX11_tellNote_14 (by decide) ?_
  obtain ⟨a9, e_a9, h⟩ := h
  refine v_nn1 e_a9 ?_
  obtain ⟨k10, h⟩ := h
  obtain ⟨i11, h⟩ := h
  refine v_iald hX dX11_tellNote_15 k10 i11 ?_
  refine v_iadd hX dX11_tellNote_16 ?_
  exact v_iret hX hE dX11_tellNote_17 h
set_option maxRecDepth 100000 in
set_option maxHeartbeats 4000000 in
theorem m_X11_tellReply {Z : h_Z} {o0 : Nat} {r1 : Option Nat} {s : h_S} {Q : Int32 → h_S → Prop} (h : w_X11_tellReply o0 r1 s Q) : h_M Z yX11_tellReply cX11_tellReply 2 (some .int) 3 63 [pR (some o0), pR r1] s 0 0 (h_QI Z Q) := by
  refine h_M.of (by decide) (Nat.le_of_ble_eq_true rfl) (fun X hZ hX hE hI => ?_)
  subst hZ
  unfold w_X11_tellReply at h
  show h_V X 2 0 [(0, pR (some o0)), (1, pR r1)] [] s 0 0
  refine v_aload_n hX dX11_tellReply_0 0 rfl rfl ?_
  refine v_iconst (v := 3) hX dX11_tellReply_1 (by decide) ?_
  obtain ⟨k1, h⟩ := h
  refine v_callVv0 hX dX11_tellReply_2 c_RX11_536 cV_X11_noteBody (ci := 12) (T := TX11) (N := 19) rfl (by exact k1) [pI _] rfl rfl (Nat.le_of_ble_eq_true rfl) (by decide) (by decide)  (m_X11_noteBody h) (fun s2 h => ?_)
  refine v_aload_n hX dX11_tellReply_5 0 rfl rfl ?_
  refine v_aload_n hX dX11_tellReply_6 1 rfl rfl ?_
  obtain ⟨k4, h⟩ := h
  refine v_callVi0 hX dX11_tellReply_7 c_RX11_521 cV_X11_tellNote (ci := 12) (T := TX11) (N := 19) rfl (by exact k4) [pR _] rfl rfl (Nat.le_of_ble_eq_true rfl) (by decide) (by decide)  (m_X11_tellNote h) (fun p6 s5 h => ?_)
  refine v_aload_n hX dX11_tellReply_10 0 rfl rfl ?_
  refine v_aload_n hX dX11_tellReply_11 1 rfl rfl ?_
  obtain ⟨k7, h⟩ := h
  refine v_callVi0 hX dX11_tellReply_12 c_RX11_533 cV_X11_tellLink (ci := 12) (T := TX11) (N := 19) rfl (by exact k7) [pR _] rfl rfl (Nat.le_of_ble_eq_true rfl) (by decide) (by decide)  (m_X11_tellLink h) (fun p9 s8 h => ?_)
  refine v_iadd hX dX11_tellReply_15 ?_
  exact v_iret hX hE dX11_tellReply_16 h
set_option maxRecDepth 100000 in
set_option maxHeartbeats 4000000 in
theorem m_X11_tellSame {Z : h_Z} {o0 : Nat} {r1 : Option Nat} {s : h_S} {Q : Int32 → h_S → Prop} (h : w_X11_tellSame o0 r1 s Q) : h_M Z yX11_tellSame cX11_tellSame 2 (some .int) 2 42 [pR (some o0), pR r1] s 0 0 (h_QI Z Q) := by
  refine h_M.of (by decide) (Nat.le_of_ble_eq_true rfl) (fun X hZ hX hE hI => ?_)
  subst hZ
  unfold w_X11_tellSame at h
  show h_V X 2 0 [(0, pR (some o0)), (1, pR r1)] [] s 0 0
  refine v_aload_n hX dX11_tellSame_0 0 rfl rfl ?_
  refine v_iconst (v := 4) hX dX11_tellSame_1 (by decide) ?_
  obtain ⟨k1, h⟩ := h
  refine v_callVv0 hX dX11_tellSame_2 c_RX11_536 cV_X11_noteBody (ci := 12) (T := TX11) (N := 19) rfl (by exact k1) [pI _] rfl rfl (Nat.le_of_ble_eq_true rfl) (by decide) (by decide)  (m_X11_noteBody h) (fun s2 h => ?_)
  refine v_aload_n hX dX11_tellSame_5 0 rfl rfl ?_
  refine v_aload_n hX dX11_tellSame_6 1 rfl rfl ?_
  obtain ⟨k4, h⟩ := h
  refine v_callVi0 hX dX11_tellSame_7 c_RX11_533 cV_X11_tellLink (ci := 12) (T := TX11) (N := 19) rfl (by exact k4) [pR _] rfl rfl (Nat.le_of_ble_eq_true rfl) (by decide) (by decide)  (m_X11_tellLink h) (fun p6 s5 h => ?_)
  refine v_bipush (v := 100) hX dX11_tellSame_10 (by decide) ?_
  refine v_iadd hX dX11_tellSame_12 ?_
  exact v_iret hX hE dX11_tellSame_13 h
set_option maxRecDepth 100000 in
set_option maxHeartbeats 4000000 in
theorem m_X11_tellCorrect {Z : h_Z} {o0 : Nat} {r1 : Option Nat} {s : h_S} {Q : Int32 → h_S → Prop} (h : w_X11_tellCorrect o0 r1 s Q) : h_M Z yX11_tellCorrect cX11_tellCorrect 2 (some .int) 3 63 [pR (some o0), pR r1] s 0 0 (h_QI Z Q) := by
  refine h_M.of (by decide) (Nat.le_of_ble_eq_true rfl) (fun X hZ hX hE hI => ?_)
  subst hZ
  unfold w_X11_tellCorrect at h
  show h_V X 2 0 [(0, pR (some o0)), (1, pR r1)] [] s 0 0
  refine v_aload_n hX dX11_tellCorrect_0 0 rfl rfl ?_
  refine v_iconst (v := 5) hX dX11_tellCorrect_1 (by decide) ?_
  obtain ⟨k1, h⟩ := h
  refine v_callVv0 hX dX11_tellCorrect_2 c_RX11_536 cV_X11_noteBody (ci := 12) (T := TX11) (N := 19) rfl (by exact k1) [pI _] rfl rfl (Nat.le_of_ble_eq_true rfl) (by decide) (by decide)  (m_X11_noteBody h) (fun s2 h => ?_)
  refine v_aload_n hX dX11_tellCorrect_5 0 rfl rfl ?_
  refine v_aload_n hX dX11_tellCorrect_6 1 rfl rfl ?_
  obtain ⟨k4, h⟩ := h
  refine v_callVi0 hX dX11_tellCorrect_7 c_RX11_527 cV_X11_tellSame (ci := 12) (T := TX11) (N := 19) rfl (by exact k4) [pR _] rfl rfl (Nat.le_of_ble_eq_true rfl) (by decide) (by decide)  (m_X11_tellSame h) (fun p6 s5 h => ?_)
  refine v_aload_n hX dX11_tellCorrect_10 0 rfl rfl ?_
  refine v_aload_n hX dX11_tellCorrect_11 1 rfl rfl ?_
  obtain ⟨k7, h⟩ := h
  refine v_callVi0 hX dX11_tellCorrect_12 c_RX11_533 cV_X11_tellLink (ci := 12) (T := TX11) (N := 19) rfl (by exact k7) [pR _] rfl rfl (Nat.le_of_ble_eq_true rfl) (by decide) (by decide)  (m_X11_tellLink h) (fun p9 s8 h => ?_)
  refine v_iadd hX dX11_tellCorrect_15 ?_
  exact v_iret hX hE dX11_tellCorrect_16 h
set_option maxRecDepth 100000 in
set_option maxHeartbeats 4000000 in
theorem m_X11_tell {Z : h_Z} {o0 : Nat} {x1 : Int32} {s : h_S} {Q : Int32 → h_S → Prop} (h : w_X11_tell o0 x1 s Q) : h_M Z yX11_tell cX11_tell 3 (some .int) 4 85 [pR (some o0), pI x1] s 0 0 (h_QI Z Q) := by
  refine h_M.of (by decide) (Nat.le_of_ble_eq_true rfl) (fun X hZ hX hE hI => ?_)
  subst hZ
  unfold w_X11_tell at h
  show h_V X 3 0 [(0, pR (some o0)), (1, pI x1)] [] s 0 0
  refine v_aload_n hX dX11_tell_0 0 rfl rfl ?_
  refine v_iload_n hX dX11_tell_1 1 rfl rfl ?_
  obtain ⟨k1, h⟩ := h
  refine v_callVr0 hX dX11_tell_2 c_RX11_340 cV_X11_linkAt (ci := 12) (T := TX11) (N := 19) rfl (by exact k1) [pI _] rfl rfl (Nat.le_of_ble_eq_true rfl) (by decide) (by decide)  (m_X11_linkAt h) (fun p3 s2 h => ?_)
  refine v_astore_n (lv' := [(2, _), (0, _), (1, _)]) hX dX11_tell_5 rfl (by decide) rfl ?_
  refine v_aload_n hX dX11_tell_6 0 rfl rfl ?_
  refine v_ifnonnull (tgt := 12) hX dX11_tell_7 (by decide) (fun c4 => ?_) (fun c4 => ?_)
  · have h := h_E c4 h
    refine v_aload_n hX dX11_tell_12 0 rfl rfl ?_
    obtain ⟨a5, e_a5, h⟩ := h
    refine v_nn0 e_a5 ?_
    obtain ⟨k6, h⟩ := h
    refine v_getI hX dX11_tell_13 f_RX11_368 rfl k6 ?_
    refine v_gen (fun q26 e_q26 => ?_)
    rw [← e_q26] at h
    by_cases c7 : q26 = (1 : Int32)
    · have h := h_T c7 h
      refine v_tabIn (tgt := 48) hX dX11_tell_16 (by rw [c7]; decide) (by rw [c7]; decide) (by rw [c7]; rfl) (by decide) ?_
      refine v_aload_n hX dX11_tell_48 1 rfl rfl ?_
      refine v_aload_n hX dX11_tell_49 0 rfl rfl ?_
      obtain ⟨k8, h⟩ := h
      refine v_callVi0 hX dX11_tell_50 c_RX11_521 cV_X11_tellNote (ci := 12) (T := TX11) (N := 19) rfl (by exact k8) [pR _] rfl rfl (Nat.le_of_ble_eq_true rfl) (by decide) (by decide)  (m_X11_tellNote h) (fun p10 s9 h => ?_)
      exact v_iret hX hE dX11_tell_53 h
    · have h := h_E c7 h
      by_cases c11 : q26 = (2 : Int32)
      · have h := h_T c11 h
        refine v_tabIn (tgt := 54) hX dX11_tell_16 (by rw [c11]; decide) (by rw [c11]; decide) (by rw [c11]; rfl) (by decide) ?_
        refine v_aload_n hX dX11_tell_54 1 rfl rfl ?_
        refine v_aload_n hX dX11_tell_55 0 rfl rfl ?_
        obtain ⟨k12, h⟩ := h
        refine v_callVi0 hX dX11_tell_56 c_RX11_524 cV_X11_tellReply (ci := 12) (T := TX11) (N := 19) rfl (by exact k12) [pR _] rfl rfl (Nat.le_of_ble_eq_true rfl) (by decide) (by decide)  (m_X11_tellReply h) (fun p14 s13 h => ?_)
        exact v_iret hX hE dX11_tell_59 h
      · have h := h_E c11 h
        by_cases c15 : q26 = (3 : Int32)
        · have h := h_T c15 h
          refine v_tabIn (tgt := 60) hX dX11_tell_16 (by rw [c15]; decide) (by rw [c15]; decide) (by rw [c15]; rfl) (by decide) ?_
          refine v_aload_n hX dX11_tell_60 1 rfl rfl ?_
          refine v_aload_n hX dX11_tell_61 0 rfl rfl ?_
          obtain ⟨k16, h⟩ := h
          refine v_callVi0 hX dX11_tell_62 c_RX11_527 cV_X11_tellSame (ci := 12) (T := TX11) (N := 19) rfl (by exact k16) [pR _] rfl rfl (Nat.le_of_ble_eq_true rfl) (by decide) (by decide)  (m_X11_tellSame h) (fun p18 s17 h => ?_)
          exact v_iret hX hE dX11_tell_65 h
        · have h := h_E c15 h
          by_cases c19 : q26 = (4 : Int32)
          · have h := h_T c19 h
            refine v_tabIn (tgt := 66) hX dX11_tell_16 (by rw [c19]; decide) (by rw [c19]; decide) (by rw [c19]; rfl) (by decide) ?_
            refine v_aload_n hX dX11_tell_66 1 rfl rfl ?_
            refine v_aload_n hX dX11_tell_67 0 rfl rfl ?_
            obtain ⟨k20, h⟩ := h
            refine v_callVi0 hX dX11_tell_68 c_RX11_530 cV_X11_tellCorrect (ci := 12) (T := TX11) (N := 19) rfl (by exact k20) [pR _] rfl rfl (Nat.le_of_ble_eq_true rfl) (by decide) (by decide)  (m_X11_tellCorrect h) (fun p22 s21 h => ?_)
            exact v_iret hX hE dX11_tell_71 h
          · have h := h_E c19 h
            refine v_tabOut (tgt := 72) hX dX11_tell_16 (by have := h_ti c7 (n := 1) rfl; have := h_ti c11 (n := 2) rfl; have := h_ti c15 (n := 3) rfl; have := h_ti c19 (n := 4) rfl; omega) (by decide) ?_
            refine v_aload_n hX dX11_tell_72 1 rfl rfl ?_
            refine v_aload_n hX dX11_tell_73 0 rfl rfl ?_
            obtain ⟨k23, h⟩ := h
            refine v_callVi0 hX dX11_tell_74 c_RX11_533 cV_X11_tellLink (ci := 12) (T := TX11) (N := 19) rfl (by exact k23) [pR _] rfl rfl (Nat.le_of_ble_eq_true rfl) (by decide) (by decide)  (m_X11_tellLink h) (fun p25 s24 h => ?_)
            exact v_iret hX hE dX11_tell_77 h
  · have h := h_T c4 h
    refine v_iconst (v := -1) hX dX11_tell_10 (by decide) ?_
    exact v_iret hX hE dX11_tell_11 h
set_option maxRecDepth 100000 in
set_option maxHeartbeats 4000000 in
theorem m_X11_name {Z : h_Z} {o0 : Nat} {x1 : Int32} {s : h_S} {Q : Int32 → h_S → Prop} (h : w_X11_name o0 x1 s Q) : h_M Z yX11_name cX11_name 3 (some .int) 4 85 [pR (some o0), pI x1] s 0 0 (h_QI Z Q) := by
  refine h_M.of (by decide) (Nat.le_of_ble_eq_true rfl) (fun X hZ hX hE hI => ?_)
  subst hZ
  unfold w_X11_name at h
  show h_V X 3 0 [(0, pR (some o0)), (1, pI x1)] [] s 0 0
  refine v_aload_n hX dX11_name_0 0 rfl rfl ?_
  refine v_iload_n hX dX11_name_1 1 rfl rfl ?_
  obtain ⟨k1, h⟩ := h
  refine v_callVr0 hX dX11_name_2 c_RX11_340 cV_X11_linkAt (ci := 12) (T := TX11) (N := 19) rfl (by exact k1) [pI _] rfl rfl (Nat.le_of_ble_eq_true rfl) (by decide) (by decide)  (m_X11_linkAt h) (fun p3 s2 h => ?_)
  refine v_astore_n (lv' := [(2, _), (0, _), (1, _)]) hX dX11_name_5 rfl (by decide) rfl ?_
  refine v_aload_n hX dX11_name_6 0 rfl rfl ?_
  refine v_ifnonnull (tgt := 12) hX dX11_name_7 (by decide) (fun c4 => ?_) (fun c4 => ?_)
  · have h := h_E c4 h
    refine v_aload_n hX dX11_name_12 0 rfl rfl ?_
    obtain ⟨a5, e_a5, h⟩ := h
    refine v_nn0 e_a5 ?_
    obtain ⟨k6, h⟩ := h
    refine v_getI hX dX11_name_13 f_RX11_368 rfl k6 ?_
    refine v_iconst (v := 4) hX dX11_name_16 (by decide) ?_
    refine v_icmp_ne (tgt := 29) hX dX11_name_17 (by decide) (fun c7 => ?_) (fun c7 => ?_)
    · have h := h_E c7 h
      refine v_aload_n hX dX11_name_29 1 rfl rfl ?_
      refine v_bipush (v := 6) hX dX11_name_30 (by decide) ?_
      obtain ⟨k8, h⟩ := h
      refine v_callVv0 hX dX11_name_32 c_RX11_536 cV_X11_noteBody (ci := 12) (T := TX11) (N := 19) rfl (by exact k8) [pI _] rfl rfl (Nat.le_of_ble_eq_true rfl) (by decide) (by decide)  (m_X11_noteBody h) (fun s9 h => ?_)
      refine v_iload_n hX dX11_name_35 2 rfl rfl ?_
      exact v_iret hX hE dX11_name_36 h
    · have h := h_T c7 h
      refine v_aload_n hX dX11_name_20 1 rfl rfl ?_
      refine v_bipush (v := 7) hX dX11_name_21 (by decide) ?_
      obtain ⟨k11, h⟩ := h
      refine v_callVv0 hX dX11_name_23 c_RX11_536 cV_X11_noteBody (ci := 12) (T := TX11) (N := 19) rfl (by exact k11) [pI _] rfl rfl (Nat.le_of_ble_eq_true rfl) (by decide) (by decide)  (m_X11_noteBody h) (fun s12 h => ?_)
      refine v_bipush (v := 40) hX dX11_name_26 (by decide) ?_
      exact v_iret hX hE dX11_name_28 h
  · have h := h_T c4 h
    refine v_iconst (v := -1) hX dX11_name_10 (by decide) ?_
    exact v_iret hX hE dX11_name_11 h
set_option maxRecDepth 100000 in
set_option maxHeartbeats 4000000 in
theorem b_X11_as_45 {X : h_X} (hX : h_ok X cX11_as 4 RX11 4 85) {Q : Int32 → h_S → Prop} (hE : h_end X (some .int) (h_QI (x_Z X) Q)) {y0 : Int32} (s : h_S) (h : w_X11_as_45 Q y0 s) : h_V X 4 45 [] [pI y0] s 0 0 := by
  unfold w_X11_as_45 at h
  exact v_iret hX hE dX11_as_45 h
set_option maxRecDepth 100000 in
set_option maxHeartbeats 4000000 in
theorem m_X11_as {Z : h_Z} {o0 : Nat} {x1 : Int32} {x2 : Int32} {s : h_S} {Q : Int32 → h_S → Prop} (h : w_X11_as o0 x1 x2 s Q) : h_M Z yX11_as cX11_as 4 (some .int) 4 85 [pR (some o0), pI x1, pI x2] s 0 0 (h_QI Z Q) := by
  refine h_M.of (by decide) (Nat.le_of_ble_eq_true rfl) (fun X hZ hX hE hI => ?_)
  subst hZ
  unfold w_X11_as at h
  show h_V X 4 0 [(0, pR (some o0)), (1, pI x1), (2, pI x2)] [] s 0 0
  refine v_aload_n hX dX11_as_0 0 rfl rfl ?_
  refine v_iconst (v := 0) hX dX11_as_1 (by decide) ?_
  obtain ⟨k1, h⟩ := h
  refine v_putI hX dX11_as_2 f_RX11_100 k1 ?_
  refine v_aload_n hX dX11_as_5 0 rfl rfl ?_
  refine v_iload_n hX dX11_as_6 1 rfl rfl ?_
  refine v_callVr0 hX dX11_as_7 c_RX11_340 cV_X11_linkAt (ci := 12) (T := TX11) (N := 19) rfl (by exact k1) [pI _] rfl rfl (Nat.le_of_ble_eq_true rfl) (by decide) (by decide)  (m_X11_linkAt h) (fun p4 s3 h => ?_)
  refine v_astore_n (lv' := [(3, _), (0, _), (1, _), (2, _)]) hX dX11_as_10 rfl (by decide) rfl ?_
  refine v_aload_n hX dX11_as_11 0 rfl rfl ?_
  refine v_ifnonnull (tgt := 17) hX dX11_as_12 (by decide) (fun c5 => ?_) (fun c5 => ?_)
  · have h := h_E c5 h
    refine v_iload_n hX dX11_as_17 3 rfl rfl ?_
    refine v_iconst (v := 5) hX dX11_as_18 (by decide) ?_
    refine v_callSi0 hX dX11_as_19 c_RX11_78 cS_X11_within [pI _, pI _] rfl rfl (Nat.le_of_ble_eq_true rfl) (by decide) (by decide)  (m_X11_within h) (fun p7 s6 h => ?_)
    refine v_if_ne (tgt := 28) hX dX11_as_22 (by decide) (fun c8 => ?_) (fun c8 => ?_)
    · have h := h_E c8 h
      refine v_aload_n hX dX11_as_28 0 rfl rfl ?_
      refine v_iload_n hX dX11_as_29 3 rfl rfl ?_
      obtain ⟨a9, e_a9, h⟩ := h
      refine v_nn1 e_a9 ?_
      obtain ⟨k10, h⟩ := h
      refine v_callVi0 hX dX11_as_30 c_RX11_344 cV_X1_isA (ci := 2) (T := TX1) (N := 4) rfl (by exact k10) [pI _] rfl rfl (Nat.le_of_ble_eq_true rfl) (by decide) (by decide)  (m_X1_isA h) (fun p12 s11 h => ?_)
      refine v_if_eq (tgt := 40) hX dX11_as_33 (by decide) (fun c13 => ?_) (fun c13 => ?_)
      · have h := h_T c13 h
        refine v_aload_n hX dX11_as_40 1 rfl rfl ?_
        refine v_iconst (v := 2) hX dX11_as_41 (by decide) ?_
        obtain ⟨k14, h⟩ := h
        refine v_callVi0 hX dX11_as_42 c_RX11_349 cV_X11_failed (ci := 12) (T := TX11) (N := 19) rfl (by exact k14) [pI _] rfl rfl (Nat.le_of_ble_eq_true rfl) (by decide) (by decide)  (m_X11_failed h) (fun p16 s15 h => ?_)
        refine v_pick [] rfl ?_
        exact b_X11_as_45 hX hE _ h
      · have h := h_E c13 h
        refine v_iconst (v := 1) hX dX11_as_36 (by decide) ?_
        refine v_goto (tgt := 45) hX dX11_as_37 (by decide) ?_
        refine v_pick [] rfl ?_
        exact b_X11_as_45 hX hE _ h
    · have h := h_T c8 h
      refine v_bipush (v := -2) hX dX11_as_25 (by decide) ?_
      exact v_iret hX hE dX11_as_27 h
  · have h := h_T c5 h
    refine v_iconst (v := -1) hX dX11_as_15 (by decide) ?_
    exact v_iret hX hE dX11_as_16 h
set_option maxRecDepth 100000 in
set_option maxHeartbeats 4000000 in
theorem m_X11_trace {Z : h_Z} {o0 : Nat} {s : h_S} {Q : Int32 → h_S → Prop} (h : w_X11_trace o0 s Q) : h_M Z yX11_trace cX11_trace 1 (some .int) 0 0 [pR (some o0)] s 0 0 (h_QI Z Q) := by
  refine h_M.of (by decide) (Nat.le_of_ble_eq_true rfl) (fun X hZ hX hE hI => ?_)
  subst hZ
  unfold w_X11_trace at h
  show h_V X 1 0 [(0, pR (some o0))] [] s 0 0
  refine v_aload_n hX dX11_trace_0 0 rfl rfl ?_
  obtain ⟨k1, h⟩ := h
  refine v_getI hX dX11_trace_1 f_RX11_539 rfl k1 ?_
  exact v_iret hX hE dX11_trace_4 h
set_option maxRecDepth 100000 in
set_option maxHeartbeats 4000000 in
theorem m_X11_fault {Z : h_Z} {o0 : Nat} {s : h_S} {Q : Int32 → h_S → Prop} (h : w_X11_fault o0 s Q) : h_M Z yX11_fault cX11_fault 1 (some .int) 0 0 [pR (some o0)] s 0 0 (h_QI Z Q) := by
  refine h_M.of (by decide) (Nat.le_of_ble_eq_true rfl) (fun X hZ hX hE hI => ?_)
  subst hZ
  unfold w_X11_fault at h
  show h_V X 1 0 [(0, pR (some o0))] [] s 0 0
  refine v_aload_n hX dX11_fault_0 0 rfl rfl ?_
  obtain ⟨k1, h⟩ := h
  refine v_getI hX dX11_fault_1 f_RX11_100 rfl k1 ?_
  exact v_iret hX hE dX11_fault_4 h
set_option maxRecDepth 100000 in
set_option maxHeartbeats 4000000 in
theorem m_X11_many {Z : h_Z} {o0 : Nat} {x1 : Int32} {s : h_S} {Q : Int32 → h_S → Prop} (h : w_X11_many o0 x1 s Q) : h_M Z yX11_many cX11_many 2 (some .int) 2 40 [pR (some o0), pI x1] s 0 0 (h_QI Z Q) := by
  refine h_M.of (by decide) (Nat.le_of_ble_eq_true rfl) (fun X hZ hX hE hI => ?_)
  subst hZ
  unfold w_X11_many at h
  show h_V X 2 0 [(0, pR (some o0)), (1, pI x1)] [] s 0 0
  refine v_iload_n hX dX11_many_0 1 rfl rfl ?_
  refine v_gen (fun q41 e_q41 => ?_)
  rw [← e_q41] at h
  by_cases c1 : q41 = (0 : Int32)
  · have h := h_T c1 h
    refine v_tabIn (tgt := 52) hX dX11_many_1 (by rw [c1]; decide) (by rw [c1]; decide) (by rw [c1]; rfl) (by decide) ?_
    refine v_aload_n hX dX11_many_52 0 rfl rfl ?_
    obtain ⟨k2, h⟩ := h
    refine v_getI hX dX11_many_53 f_RX11_82 rfl k2 ?_
    exact v_iret hX hE dX11_many_56 h
  · have h := h_E c1 h
    by_cases c3 : q41 = (1 : Int32)
    · have h := h_T c3 h
      refine v_tabIn (tgt := 57) hX dX11_many_1 (by rw [c3]; decide) (by rw [c3]; decide) (by rw [c3]; rfl) (by decide) ?_
      refine v_aload_n hX dX11_many_57 0 rfl rfl ?_
      obtain ⟨k4, h⟩ := h
      refine v_getI hX dX11_many_58 f_RX11_71 rfl k4 ?_
      exact v_iret hX hE dX11_many_61 h
    · have h := h_E c3 h
      by_cases c5 : q41 = (2 : Int32)
      · have h := h_T c5 h
        refine v_tabIn (tgt := 62) hX dX11_many_1 (by rw [c5]; decide) (by rw [c5]; decide) (by rw [c5]; rfl) (by decide) ?_
        refine v_aload_n hX dX11_many_62 0 rfl rfl ?_
        obtain ⟨k6, h⟩ := h
        refine v_getR hX dX11_many_63 f_RX11_21 rfl k6 ?_
        obtain ⟨a7, e_a7, h⟩ := h
        refine v_nn0 e_a7 ?_
        obtain ⟨k8, h⟩ := h
        refine v_getI hX dX11_many_66 f_RX11_542 rfl k8 ?_
        exact v_iret hX hE dX11_many_69 h
      · have h := h_E c5 h
        by_cases c9 : q41 = (3 : Int32)
        · have h := h_T c9 h
          refine v_tabIn (tgt := 70) hX dX11_many_1 (by rw [c9]; decide) (by rw [c9]; decide) (by rw [c9]; rfl) (by decide) ?_
          refine v_aload_n hX dX11_many_70 0 rfl rfl ?_
          obtain ⟨k10, h⟩ := h
          refine v_getR hX dX11_many_71 f_RX11_21 rfl k10 ?_
          obtain ⟨a11, e_a11, h⟩ := h
          refine v_nn0 e_a11 ?_
          obtain ⟨k12, h⟩ := h
          refine v_callVi0 hX dX11_many_74 c_RX11_113 cV_X7_wordCount (ci := 8) (T := TX7) (N := 13) rfl (by exact k12) [] rfl rfl (Nat.le_of_ble_eq_true rfl) (by decide) (by decide)  (m_X7_wordCount h) (fun p14 s13 h => ?_)
          exact v_iret hX hE dX11_many_77 h
        · have h := h_E c9 h
          by_cases c15 : q41 = (4 : Int32)
          · have h := h_T c15 h
            refine v_tabIn (tgt := 78) hX dX11_many_1 (by rw [c15]; decide) (by rw [c15]; decide) (by rw [c15]; rfl) (by decide) ?_
            refine v_aload_n hX dX11_many_78 0 rfl rfl ?_
            obtain ⟨k16, h⟩ := h
            refine v_getR hX dX11_many_79 f_RX11_28 rfl k16 ?_
            obtain ⟨a17, e_a17, h⟩ := h
            refine v_nn0 e_a17 ?_
            obtain ⟨k18, h⟩ := h
            refine v_callVi0 hX dX11_many_82 c_RX11_244 cV_Jx4a65c_size_8abf5 (ci := 0) (T := TJx4a65c) (N := 3) rfl (by exact k18) [] rfl rfl (Nat.le_of_ble_eq_true rfl) (by decide) (by decide)  (m_Jx4a65c_size_8abf5 h) (fun p20 s19 h => ?_)
            exact v_iret hX hE dX11_many_85 h
          · have h := h_E c15 h
            by_cases c21 : q41 = (5 : Int32)
            · have h := h_T c21 h
              refine v_tabIn (tgt := 86) hX dX11_many_1 (by rw [c21]; decide) (by rw [c21]; decide) (by rw [c21]; rfl) (by decide) ?_
              refine v_aload_n hX dX11_many_86 0 rfl rfl ?_
              obtain ⟨k22, h⟩ := h
              refine v_getR hX dX11_many_87 f_RX11_35 rfl k22 ?_
              obtain ⟨a23, e_a23, h⟩ := h
              refine v_nn0 e_a23 ?_
              obtain ⟨k24, h⟩ := h
              refine v_callVi0 hX dX11_many_90 c_RX11_244 cV_Jx4a65c_size_8abf5 (ci := 0) (T := TJx4a65c) (N := 3) rfl (by exact k24) [] rfl rfl (Nat.le_of_ble_eq_true rfl) (by decide) (by decide)  (m_Jx4a65c_size_8abf5 h) (fun p26 s25 h => ?_)
              exact v_iret hX hE dX11_many_93 h
            · have h := h_E c21 h
              by_cases c27 : q41 = (6 : Int32)
              · have h := h_T c27 h
                refine v_tabIn (tgt := 94) hX dX11_many_1 (by rw [c27]; decide) (by rw [c27]; decide) (by rw [c27]; rfl) (by decide) ?_
                refine v_aload_n hX dX11_many_94 0 rfl rfl ?_
                obtain ⟨k28, h⟩ := h
                refine v_getR hX dX11_many_95 f_RX11_38 rfl k28 ?_
                obtain ⟨a29, e_a29, h⟩ := h
                refine v_nn0 e_a29 ?_
                obtain ⟨k30, h⟩ := h
                refine v_callVi0 hX dX11_many_98 c_RX11_244 cV_Jx4a65c_size_8abf5 (ci := 0) (T := TJx4a65c) (N := 3) rfl (by exact k30) [] rfl rfl (Nat.le_of_ble_eq_true rfl) (by decide) (by decide)  (m_Jx4a65c_size_8abf5 h) (fun p32 s31 h => ?_)
                exact v_iret hX hE dX11_many_101 h
              · have h := h_E c27 h
                by_cases c33 : q41 = (7 : Int32)
                · have h := h_T c33 h
                  refine v_tabIn (tgt := 102) hX dX11_many_1 (by rw [c33]; decide) (by rw [c33]; decide) (by rw [c33]; rfl) (by decide) ?_
                  refine v_aload_n hX dX11_many_102 0 rfl rfl ?_
                  obtain ⟨k34, h⟩ := h
                  refine v_getR hX dX11_many_103 f_RX11_32 rfl k34 ?_
                  obtain ⟨a35, e_a35, h⟩ := h
                  refine v_nn0 e_a35 ?_
                  obtain ⟨k36, h⟩ := h
                  refine v_callVi0 hX dX11_many_106 c_RX11_244 cV_Jx4a65c_size_8abf5 (ci := 0) (T := TJx4a65c) (N := 3) rfl (by exact k36) [] rfl rfl (Nat.le_of_ble_eq_true rfl) (by decide) (by decide)  (m_Jx4a65c_size_8abf5 h) (fun p38 s37 h => ?_)
                  exact v_iret hX hE dX11_many_109 h
                · have h := h_E c33 h
                  by_cases c39 : q41 = (8 : Int32)
                  · have h := h_T c39 h
                    refine v_tabIn (tgt := 110) hX dX11_many_1 (by rw [c39]; decide) (by rw [c39]; decide) (by rw [c39]; rfl) (by decide) ?_
                    refine v_aload_n hX dX11_many_110 0 rfl rfl ?_
                    obtain ⟨k40, h⟩ := h
                    refine v_getI hX dX11_many_111 f_RX11_477 rfl k40 ?_
                    exact v_iret hX hE dX11_many_114 h
                  · have h := h_E c39 h
                    refine v_tabOut (tgt := 115) hX dX11_many_1 (by have := h_ti c1 (n := 0) rfl; have := h_ti c3 (n := 1) rfl; have := h_ti c5 (n := 2) rfl; have := h_ti c9 (n := 3) rfl; have := h_ti c15 (n := 4) rfl; have := h_ti c21 (n := 5) rfl; have := h_ti c27 (n := 6) rfl; have := h_ti c33 (n := 7) rfl; have := h_ti c39 (n := 8) rfl; omega) (by decide) ?_
                    refine v_bipush (v := -2) hX dX11_many_115 (by decide) ?_
                    exact v_iret hX hE dX11_many_117 h
