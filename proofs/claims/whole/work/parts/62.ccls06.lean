set_option maxRecDepth 100000 in
set_option maxHeartbeats 4000000 in
theorem b_X11_link_32 {X : h_X} (hX : h_ok X cX11_link 6 RX11 9 237) {Q : Int32 → h_S → Prop} (hE : h_end X (some .int) (h_QI (x_Z X) Q)) {o0 : Nat} {x1 : Int32} {x2 : Int32} {x3 : Int32} {x4 : Int32} {x5 : Int32} (s : h_S) {bc bs : Nat} (h : w_X11_link_32 (x_G X) Q o0 x1 x2 x3 x4 x5 s bc bs) : h_V X 6 32 [(0, pR (some o0)), (1, pI x1), (2, pI x2), (3, pI x3), (4, pI x4), (5, pI x5)] [] s bc bs := by
  unfold w_X11_link_32 at h
  refine v_aload_n hX dX11_link_32 0 rfl rfl ?_
  obtain ⟨k1, h⟩ := h
  refine v_getR hX dX11_link_33 f_RX11_21 rfl k1 ?_
  refine v_iload_n hX dX11_link_36 2 rfl rfl ?_
  refine v_iload_n hX dX11_link_37 3 rfl rfl ?_
  obtain ⟨a2, e_a2, h⟩ := h
  refine v_nn2 e_a2 ?_
  obtain ⟨k3, h⟩ := h
  refine v_callVi0 hX dX11_link_38 c_RX11_133 cV_X7_areWords (ci := 8) (T := TX7) (N := 13) rfl (by exact k3) [pI _, pI _] rfl rfl (Nat.le_of_ble_eq_true rfl) (by decide) (by decide)  (m_X7_areWords h) (fun p5 s4 h => ?_)
  refine v_if_ne (tgt := 46) hX dX11_link_41 (by decide) (fun c6 => ?_) (fun c6 => ?_)
  · have h := h_E c6 h
    refine v_iload_n hX dX11_link_46 1 rfl rfl ?_
    refine v_iconst (v := 2) hX dX11_link_47 (by decide) ?_
    refine v_icmp_ne (tgt := 62) hX dX11_link_48 (by decide) (fun c7 => ?_) (fun c7 => ?_)
    · have h := h_E c7 h
      refine v_aload_n hX dX11_link_62 0 rfl rfl ?_
      refine v_iload_n hX dX11_link_63 1 rfl rfl ?_
      refine v_iload_n hX dX11_link_64 2 rfl rfl ?_
      refine v_iload_n hX dX11_link_65 3 rfl rfl ?_
      refine v_iload hX dX11_link_66 4 rfl ?_
      refine v_iload hX dX11_link_68 5 rfl ?_
      obtain ⟨k8, h⟩ := h
      obtain ⟨mc11, ms12, b13, b14, h⟩ := h
      refine v_callVi hX dX11_link_70 c_RX11_336 cV_X11_linkOfWords (ci := 12) (T := TX11) (N := 19) rfl (by exact k8) [pI _, pI _, pI _, pI _, pI _] rfl rfl (Nat.le_of_ble_eq_true rfl) (by decide) (by decide) b13 b14 (m_X11_linkOfWords h) (fun p10 s9 h => ?_)
      refine v_pick [] rfl ?_
      exact b_X11_link_73 hX hE _ h
    · have h := h_T c7 h
      refine v_aload_n hX dX11_link_51 0 rfl rfl ?_
      refine v_iload_n hX dX11_link_52 2 rfl rfl ?_
      refine v_iload_n hX dX11_link_53 3 rfl rfl ?_
      refine v_iload hX dX11_link_54 4 rfl ?_
      obtain ⟨k15, h⟩ := h
      obtain ⟨mc18, ms19, b20, b21, h⟩ := h
      refine v_callVi hX dX11_link_56 c_RX11_333 cV_X11_reply (ci := 12) (T := TX11) (N := 19) rfl (by exact k15) [pI _, pI _, pI _] rfl rfl (Nat.le_of_ble_eq_true rfl) (by decide) (by decide) b20 b21 (m_X11_reply h) (fun p17 s16 h => ?_)
      refine v_goto (tgt := 73) hX dX11_link_59 (by decide) ?_
      refine v_pick [] rfl ?_
      exact b_X11_link_73 hX hE _ h
  · have h := h_T c6 h
    refine v_iconst (v := -1) hX dX11_link_44 (by decide) ?_
    exact v_iret hX hE dX11_link_45 h
set_option maxRecDepth 100000 in
set_option maxHeartbeats 4000000 in
theorem m_X11_link {Z : h_Z} {o0 : Nat} {x1 : Int32} {x2 : Int32} {x3 : Int32} {x4 : Int32} {x5 : Int32} {s : h_S} {mc ms : Nat} {Q : Int32 → h_S → Prop} (h : w_X11_link Z.2.2.2.2 o0 x1 x2 x3 x4 x5 s mc ms Q) : h_M Z yX11_link cX11_link 6 (some .int) 9 237 [pR (some o0), pI x1, pI x2, pI x3, pI x4, pI x5] s mc ms (h_QI Z Q) := by
  refine h_M.of (by decide) (Nat.le_of_ble_eq_true rfl) (fun X hZ hX hE hI => ?_)
  subst hZ
  unfold w_X11_link at h
  show h_V X 6 0 [(0, pR (some o0)), (1, pI x1), (2, pI x2), (3, pI x3), (4, pI x4), (5, pI x5)] [] s mc ms
  refine v_aload_n hX dX11_link_0 0 rfl rfl ?_
  refine v_iconst (v := 0) hX dX11_link_1 (by decide) ?_
  obtain ⟨k1, h⟩ := h
  refine v_putI hX dX11_link_2 f_RX11_100 k1 ?_
  refine v_iload_n hX dX11_link_5 1 rfl rfl ?_
  refine v_iconst (v := 5) hX dX11_link_6 (by decide) ?_
  refine v_callSi0 hX dX11_link_7 c_RX11_78 cS_X11_within [pI _, pI _] rfl rfl (Nat.le_of_ble_eq_true rfl) (by decide) (by decide)  (m_X11_within h) (fun p4 s3 h => ?_)
  refine v_if_eq (tgt := 29) hX dX11_link_10 (by decide) (fun c5 => ?_) (fun c5 => ?_)
  · have h := h_T c5 h
    refine v_pick [] rfl ?_
    exact b_X11_link_29 hX hE _ h
  · have h := h_E c5 h
    refine v_iload_n hX dX11_link_13 3 rfl rfl ?_
    refine v_iconst (v := 1) hX dX11_link_14 (by decide) ?_
    refine v_icmp_lt (tgt := 29) hX dX11_link_15 (by decide) (fun c6 => ?_) (fun c6 => ?_)
    · have h := h_T c6 h
      refine v_pick [] rfl ?_
      exact b_X11_link_29 hX hE _ h
    · have h := h_E c6 h
      refine v_iload_n hX dX11_link_18 1 rfl rfl ?_
      refine v_iconst (v := 2) hX dX11_link_19 (by decide) ?_
      refine v_icmp_eq (tgt := 32) hX dX11_link_20 (by decide) (fun c7 => ?_) (fun c7 => ?_)
      · have h := h_T c7 h
        refine v_pick [0, 1, 2, 3, 4, 5] rfl ?_
        exact b_X11_link_32 hX hE _ h
      · have h := h_E c7 h
        refine v_iload hX dX11_link_23 5 rfl ?_
        refine v_iconst (v := 1) hX dX11_link_25 (by decide) ?_
        refine v_icmp_ge (tgt := 32) hX dX11_link_26 (by decide) (fun c8 => ?_) (fun c8 => ?_)
        · have h := h_T c8 h
          refine v_pick [0, 1, 2, 3, 4, 5] rfl ?_
          exact b_X11_link_32 hX hE _ h
        · have h := h_E c8 h
          refine v_pick [] rfl ?_
          exact b_X11_link_29 hX hE _ h
set_option maxRecDepth 100000 in
set_option maxHeartbeats 4000000 in
theorem m_X11_ofLink {Z : h_Z} {o0 : Nat} {x1 : Int32} {x2 : Int32} {s : h_S} {Q : Int32 → h_S → Prop} (h : w_X11_ofLink o0 x1 x2 s Q) : h_M Z yX11_ofLink cX11_ofLink 4 (some .int) 4 85 [pR (some o0), pI x1, pI x2] s 0 0 (h_QI Z Q) := by
  refine h_M.of (by decide) (Nat.le_of_ble_eq_true rfl) (fun X hZ hX hE hI => ?_)
  subst hZ
  unfold w_X11_ofLink at h
  show h_V X 4 0 [(0, pR (some o0)), (1, pI x1), (2, pI x2)] [] s 0 0
  refine v_aload_n hX dX11_ofLink_0 0 rfl rfl ?_
  refine v_iload_n hX dX11_ofLink_1 1 rfl rfl ?_
  obtain ⟨k1, h⟩ := h
  refine v_callVr0 hX dX11_ofLink_2 c_RX11_340 cV_X11_linkAt (ci := 12) (T := TX11) (N := 19) rfl (by exact k1) [pI _] rfl rfl (Nat.le_of_ble_eq_true rfl) (by decide) (by decide)  (m_X11_linkAt h) (fun p3 s2 h => ?_)
  refine v_astore_n (lv' := [(3, _), (0, _), (1, _), (2, _)]) hX dX11_ofLink_5 rfl (by decide) rfl ?_
  refine v_aload_n hX dX11_ofLink_6 0 rfl rfl ?_
  refine v_ifnonnull (tgt := 12) hX dX11_ofLink_7 (by decide) (fun c4 => ?_) (fun c4 => ?_)
  · have h := h_E c4 h
    refine v_iload_n hX dX11_ofLink_12 3 rfl rfl ?_
    refine v_gen (fun q35 e_q35 => ?_)
    rw [← e_q35] at h
    by_cases c5 : q35 = (0 : Int32)
    · have h := h_T c5 h
      refine v_tabIn (tgt := 52) hX dX11_ofLink_13 (by rw [c5]; decide) (by rw [c5]; decide) (by rw [c5]; rfl) (by decide) ?_
      refine v_aload_n hX dX11_ofLink_52 0 rfl rfl ?_
      obtain ⟨a6, e_a6, h⟩ := h
      refine v_nn0 e_a6 ?_
      obtain ⟨k7, h⟩ := h
      refine v_getI hX dX11_ofLink_53 f_RX11_368 rfl k7 ?_
      exact v_iret hX hE dX11_ofLink_56 h
    · have h := h_E c5 h
      by_cases c8 : q35 = (1 : Int32)
      · have h := h_T c8 h
        refine v_tabIn (tgt := 57) hX dX11_ofLink_13 (by rw [c8]; decide) (by rw [c8]; decide) (by rw [c8]; rfl) (by decide) ?_
        refine v_aload_n hX dX11_ofLink_57 0 rfl rfl ?_
        obtain ⟨a9, e_a9, h⟩ := h
        refine v_nn0 e_a9 ?_
        obtain ⟨k10, h⟩ := h
        refine v_getR hX dX11_ofLink_58 f_RX11_352 rfl k10 ?_
        refine v_iconst (v := 0) hX dX11_ofLink_61 (by decide) ?_
        obtain ⟨a11, e_a11, h⟩ := h
        refine v_nn1 e_a11 ?_
        obtain ⟨k12, h⟩ := h
        obtain ⟨i13, h⟩ := h
        refine v_iald hX dX11_ofLink_62 k12 i13 ?_
        exact v_iret hX hE dX11_ofLink_63 h
      · have h := h_E c8 h
        by_cases c14 : q35 = (2 : Int32)
        · have h := h_T c14 h
          refine v_tabIn (tgt := 64) hX dX11_ofLink_13 (by rw [c14]; decide) (by rw [c14]; decide) (by rw [c14]; rfl) (by decide) ?_
          refine v_aload_n hX dX11_ofLink_64 0 rfl rfl ?_
          obtain ⟨a15, e_a15, h⟩ := h
          refine v_nn0 e_a15 ?_
          obtain ⟨k16, h⟩ := h
          refine v_getR hX dX11_ofLink_65 f_RX11_355 rfl k16 ?_
          refine v_iconst (v := 0) hX dX11_ofLink_68 (by decide) ?_
          obtain ⟨a17, e_a17, h⟩ := h
          refine v_nn1 e_a17 ?_
          obtain ⟨k18, h⟩ := h
          obtain ⟨i19, h⟩ := h
          refine v_iald hX dX11_ofLink_69 k18 i19 ?_
          exact v_iret hX hE dX11_ofLink_70 h
        · have h := h_E c14 h
          by_cases c20 : q35 = (3 : Int32)
          · have h := h_T c20 h
            refine v_tabIn (tgt := 71) hX dX11_ofLink_13 (by rw [c20]; decide) (by rw [c20]; decide) (by rw [c20]; rfl) (by decide) ?_
            refine v_aload_n hX dX11_ofLink_71 0 rfl rfl ?_
            obtain ⟨a21, e_a21, h⟩ := h
            refine v_nn0 e_a21 ?_
            obtain ⟨k22, h⟩ := h
            refine v_getR hX dX11_ofLink_72 f_RX11_352 rfl k22 ?_
            refine v_iconst (v := 1) hX dX11_ofLink_75 (by decide) ?_
            obtain ⟨a23, e_a23, h⟩ := h
            refine v_nn1 e_a23 ?_
            obtain ⟨k24, h⟩ := h
            obtain ⟨i25, h⟩ := h
            refine v_iald hX dX11_ofLink_76 k24 i25 ?_
            exact v_iret hX hE dX11_ofLink_77 h
          · have h := h_E c20 h
            by_cases c26 : q35 = (4 : Int32)
            · have h := h_T c26 h
              refine v_tabIn (tgt := 78) hX dX11_ofLink_13 (by rw [c26]; decide) (by rw [c26]; decide) (by rw [c26]; rfl) (by decide) ?_
              refine v_aload_n hX dX11_ofLink_78 0 rfl rfl ?_
              obtain ⟨a27, e_a27, h⟩ := h
              refine v_nn0 e_a27 ?_
              obtain ⟨k28, h⟩ := h
              refine v_getR hX dX11_ofLink_79 f_RX11_355 rfl k28 ?_
              refine v_iconst (v := 1) hX dX11_ofLink_82 (by decide) ?_
              obtain ⟨a29, e_a29, h⟩ := h
              refine v_nn1 e_a29 ?_
              obtain ⟨k30, h⟩ := h
              obtain ⟨i31, h⟩ := h
              refine v_iald hX dX11_ofLink_83 k30 i31 ?_
              exact v_iret hX hE dX11_ofLink_84 h
            · have h := h_E c26 h
              by_cases c32 : q35 = (5 : Int32)
              · have h := h_T c32 h
                refine v_tabIn (tgt := 85) hX dX11_ofLink_13 (by rw [c32]; decide) (by rw [c32]; decide) (by rw [c32]; rfl) (by decide) ?_
                refine v_aload_n hX dX11_ofLink_85 0 rfl rfl ?_
                obtain ⟨a33, e_a33, h⟩ := h
                refine v_nn0 e_a33 ?_
                obtain ⟨k34, h⟩ := h
                refine v_getI hX dX11_ofLink_86 f_RX11_369 rfl k34 ?_
                exact v_iret hX hE dX11_ofLink_89 h
              · have h := h_E c32 h
                refine v_tabOut (tgt := 90) hX dX11_ofLink_13 (by have := h_ti c5 (n := 0) rfl; have := h_ti c8 (n := 1) rfl; have := h_ti c14 (n := 2) rfl; have := h_ti c20 (n := 3) rfl; have := h_ti c26 (n := 4) rfl; have := h_ti c32 (n := 5) rfl; omega) (by decide) ?_
                refine v_bipush (v := -2) hX dX11_ofLink_90 (by decide) ?_
                exact v_iret hX hE dX11_ofLink_92 h
  · have h := h_T c4 h
    refine v_iconst (v := -1) hX dX11_ofLink_10 (by decide) ?_
    exact v_iret hX hE dX11_ofLink_11 h
set_option maxRecDepth 100000 in
set_option maxHeartbeats 4000000 in
theorem b_X11_ends_24 {X : h_X} (hX : h_ok X cX11_ends 9 RX11 4 107) {Q : Int32 → h_S → Prop} (hE : h_end X (some .int) (h_QI (x_Z X) Q)) (s : h_S) (h : w_X11_ends_24 Q s) : h_V X 9 24 [] [] s 0 0 := by
  unfold w_X11_ends_24 at h
  refine v_iconst (v := -1) hX dX11_ends_24 (by decide) ?_
  exact v_iret hX hE dX11_ends_25 h
set_option maxRecDepth 100000 in
set_option maxHeartbeats 4000000 in
theorem b_X11_ends_96 {X : h_X} (hX : h_ok X cX11_ends 9 RX11 4 107) {Q : Int32 → h_S → Prop} (hE : h_end X (some .int) (h_QI (x_Z X) Q)) {x6 : Int32} (s : h_S) (h : w_X11_ends_96 Q x6 s) : h_V X 9 96 [(6, pI x6)] [] s 0 0 := by
  unfold w_X11_ends_96 at h
  refine v_iload hX dX11_ends_96 0 rfl ?_
  exact v_iret hX hE dX11_ends_98 h
set_option maxRecDepth 100000 in
set_option maxHeartbeats 4000000 in
theorem b_X11_ends_57 {X : h_X} (hX : h_ok X cX11_ends 9 RX11 4 107) {Q : Int32 → h_S → Prop} (hE : h_end X (some .int) (h_QI (x_Z X) Q)) : ∀ (n : Nat) (x2 : Int32) (r4 : Option Nat) (r5 : Option Nat) (x6 : Int32) (x7 : Int32) (x8 : Int32) (s : h_S), w_X11_ends_57 Q n x2 r4 r5 x6 x7 x8 s → h_V X 9 57 [(2, pI x2), (4, pR r4), (5, pR r5), (6, pI x6), (7, pI x7), (8, pI x8)] [] s 0 0 := by
  intro n
  induction n with
  | zero => intro _ _ _ _ _ _ s h; exact h.elim
  | succ n hK57 =>
    intro x2 r4 r5 x6 x7 x8 s h
    have h : w_X11_ends_57b Q (w_X11_ends_57 Q n) x2 r4 r5 x6 x7 x8 s := h
    unfold w_X11_ends_57b at h
    refine v_iload hX dX11_ends_57 5 rfl ?_
    refine v_sipush (v := 300) hX dX11_ends_59 (by decide) ?_
    refine v_icmp_ge (tgt := 96) hX dX11_ends_62 (by decide) (fun c1 => ?_) (fun c1 => ?_)
    · have h := h_T c1 h
      refine v_pick [3] rfl ?_
      exact b_X11_ends_96 hX hE _ h
    · have h := h_E c1 h
      refine v_iload hX dX11_ends_65 4 rfl ?_
      refine v_bipush (v := -9) hX dX11_ends_67 (by decide) ?_
      refine v_icmp_eq (tgt := 96) hX dX11_ends_69 (by decide) (fun c2 => ?_) (fun c2 => ?_)
      · have h := h_T c2 h
        refine v_pick [3] rfl ?_
        exact b_X11_ends_96 hX hE _ h
      · have h := h_E c2 h
        refine v_iinc (c := 1) (lv' := [(6, _), (2, _), (4, _), (5, _), (7, _), (8, _)]) hX dX11_ends_72 3 rfl (by decide) (by decide) rfl ?_
        refine v_aload hX dX11_ends_75 2 rfl ?_
        refine v_iload_n hX dX11_ends_77 1 rfl rfl ?_
        refine v_aload hX dX11_ends_78 3 rfl ?_
        obtain ⟨a3, e_a3, h⟩ := h
        refine v_nn0 e_a3 ?_
        obtain ⟨k4, h⟩ := h
        refine v_getR hX dX11_ends_80 f_RX11_270 rfl k4 ?_
        refine v_iload hX dX11_ends_83 4 rfl ?_
        obtain ⟨a5, e_a5, h⟩ := h
        refine v_nn3 e_a5 ?_
        obtain ⟨k6, h⟩ := h
        refine v_callVi0 hX dX11_ends_85 c_RX11_376 cV_X1_partBehind (ci := 2) (T := TX1) (N := 4) rfl (by exact k6) [pI _, pR _, pI _] rfl rfl (Nat.le_of_ble_eq_true rfl) (by decide) (by decide)  (m_X1_partBehind h) (fun p8 s7 h => ?_)
        refine v_istore (lv' := [(7, _), (6, _), (2, _), (4, _), (5, _), (8, _)]) hX dX11_ends_88 (by decide) rfl ?_
        refine v_iinc (c := 1) (lv' := [(8, _), (7, _), (6, _), (2, _), (4, _), (5, _)]) hX dX11_ends_90 5 rfl (by decide) (by decide) rfl ?_
        refine v_goto (tgt := 57) hX dX11_ends_93 (by decide) ?_
        refine v_pick [3, 4, 5, 2, 1, 0] rfl ?_
        exact hK57 _ _ _ _ _ _ _ h
set_option maxRecDepth 100000 in
set_option maxHeartbeats 4000000 in
theorem m_X11_ends {Z : h_Z} {o0 : Nat} {x1 : Int32} {x2 : Int32} {x3 : Int32} {s : h_S} {Q : Int32 → h_S → Prop} (h : w_X11_ends o0 x1 x2 x3 s Q) : h_M Z yX11_ends cX11_ends 9 (some .int) 4 107 [pR (some o0), pI x1, pI x2, pI x3] s 0 0 (h_QI Z Q) := by
  refine h_M.of (by decide) (Nat.le_of_ble_eq_true rfl) (fun X hZ hX hE hI => ?_)
  subst hZ
  unfold w_X11_ends at h
  show h_V X 9 0 [(0, pR (some o0)), (1, pI x1), (2, pI x2), (3, pI x3)] [] s 0 0
  refine v_aload_n hX dX11_ends_0 0 rfl rfl ?_
  refine v_iload_n hX dX11_ends_1 1 rfl rfl ?_
  obtain ⟨k1, h⟩ := h
  refine v_callVr0 hX dX11_ends_2 c_RX11_340 cV_X11_linkAt (ci := 12) (T := TX11) (N := 19) rfl (by exact k1) [pI _] rfl rfl (Nat.le_of_ble_eq_true rfl) (by decide) (by decide)  (m_X11_linkAt h) (fun p3 s2 h => ?_)
  refine v_astore (lv' := [(4, _), (0, _), (1, _), (2, _), (3, _)]) hX dX11_ends_5 (by decide) rfl ?_
  refine v_aload_n hX dX11_ends_7 1 rfl rfl ?_
  refine v_iload_n hX dX11_ends_8 4 rfl rfl ?_
  obtain ⟨k4, h⟩ := h
  refine v_callVr0 hX dX11_ends_9 c_RX11_261 cV_X11_versionAt (ci := 12) (T := TX11) (N := 19) rfl (by exact k4) [pI _] rfl rfl (Nat.le_of_ble_eq_true rfl) (by decide) (by decide)  (m_X11_versionAt h) (fun p6 s5 h => ?_)
  refine v_astore (lv' := [(5, _), (4, _), (0, _), (1, _), (2, _), (3, _)]) hX dX11_ends_12 (by decide) rfl ?_
  refine v_aload hX dX11_ends_14 1 rfl ?_
  refine v_ifnull (tgt := 24) hX dX11_ends_16 (by decide) (fun c7 => ?_) (fun c7 => ?_)
  · have h := h_T c7 h
    refine v_pick [] rfl ?_
    exact b_X11_ends_24 hX hE _ h
  · have h := h_E c7 h
    refine v_aload hX dX11_ends_19 0 rfl ?_
    refine v_ifnonnull (tgt := 26) hX dX11_ends_21 (by decide) (fun c8 => ?_) (fun c8 => ?_)
    · have h := h_E c8 h
      refine v_iload_n hX dX11_ends_26 4 rfl rfl ?_
      refine v_iconst (v := 2) hX dX11_ends_27 (by decide) ?_
      refine v_callSi0 hX dX11_ends_28 c_RX11_78 cS_X11_within [pI _, pI _] rfl rfl (Nat.le_of_ble_eq_true rfl) (by decide) (by decide)  (m_X11_within h) (fun p10 s9 h => ?_)
      refine v_if_ne (tgt := 37) hX dX11_ends_31 (by decide) (fun c11 => ?_) (fun c11 => ?_)
      · have h := h_E c11 h
        refine v_iconst (v := 0) hX dX11_ends_37 (by decide) ?_
        refine v_istore (lv' := [(6, _), (5, _), (4, _), (0, _), (1, _), (2, _), (3, _)]) hX dX11_ends_38 (by decide) rfl ?_
        refine v_aload hX dX11_ends_40 2 rfl ?_
        refine v_iload_n hX dX11_ends_42 5 rfl rfl ?_
        refine v_aload hX dX11_ends_43 1 rfl ?_
        obtain ⟨a12, e_a12, h⟩ := h
        refine v_nn0 e_a12 ?_
        obtain ⟨k13, h⟩ := h
        refine v_getR hX dX11_ends_45 f_RX11_270 rfl k13 ?_
        refine v_iconst (v := 0) hX dX11_ends_48 (by decide) ?_
        obtain ⟨a14, e_a14, h⟩ := h
        refine v_nn3 e_a14 ?_
        obtain ⟨k15, h⟩ := h
        refine v_callVi0 hX dX11_ends_49 c_RX11_372 cV_X1_partFrom (ci := 2) (T := TX1) (N := 4) rfl (by exact k15) [pI _, pR _, pI _] rfl rfl (Nat.le_of_ble_eq_true rfl) (by decide) (by decide)  (m_X1_partFrom h) (fun p17 s16 h => ?_)
        refine v_istore (lv' := [(7, _), (6, _), (5, _), (4, _), (0, _), (1, _), (2, _), (3, _)]) hX dX11_ends_52 (by decide) rfl ?_
        refine v_iconst (v := 0) hX dX11_ends_54 (by decide) ?_
        refine v_istore (lv' := [(8, _), (7, _), (6, _), (5, _), (4, _), (0, _), (1, _), (2, _), (3, _)]) hX dX11_ends_55 (by decide) rfl ?_
        refine v_pick [7, 4, 3, 2, 1, 0] rfl ?_
        obtain ⟨n, h⟩ := h
        exact b_X11_ends_57 hX hE n _ _ _ _ _ _ _ h
      · have h := h_T c11 h
        refine v_bipush (v := -2) hX dX11_ends_34 (by decide) ?_
        exact v_iret hX hE dX11_ends_36 h
    · have h := h_T c8 h
      refine v_pick [] rfl ?_
      exact b_X11_ends_24 hX hE _ h
set_option maxRecDepth 100000 in
set_option maxHeartbeats 4000000 in
theorem b_X11_part_29 {X : h_X} (hX : h_ok X cX11_part 10 RX11 4 107) {Q : Int32 → h_S → Prop} (hE : h_end X (some .int) (h_QI (x_Z X) Q)) (s : h_S) (h : w_X11_part_29 Q s) : h_V X 10 29 [] [] s 0 0 := by
  unfold w_X11_part_29 at h
  refine v_iconst (v := -1) hX dX11_part_29 (by decide) ?_
  exact v_iret hX hE dX11_part_30 h
set_option maxRecDepth 100000 in
set_option maxHeartbeats 4000000 in
theorem b_X11_part_48 {X : h_X} (hX : h_ok X cX11_part 10 RX11 4 107) {Q : Int32 → h_S → Prop} (hE : h_end X (some .int) (h_QI (x_Z X) Q)) (s : h_S) (h : w_X11_part_48 Q s) : h_V X 10 48 [] [] s 0 0 := by
  unfold w_X11_part_48 at h
  refine v_bipush (v := -2) hX dX11_part_48 (by decide) ?_
  exact v_iret hX hE dX11_part_50 h
set_option maxRecDepth 100000 in
set_option maxHeartbeats 4000000 in
theorem b_X11_part_126 {X : h_X} (hX : h_ok X cX11_part 10 RX11 4 107) {Q : Int32 → h_S → Prop} (hE : h_end X (some .int) (h_QI (x_Z X) Q)) (s : h_S) (h : w_X11_part_126 Q s) : h_V X 10 126 [] [] s 0 0 := by
  unfold w_X11_part_126 at h
  refine v_iconst (v := -1) hX dX11_part_126 (by decide) ?_
  exact v_iret hX hE dX11_part_127 h
set_option maxRecDepth 100000 in
set_option maxHeartbeats 4000000 in
theorem b_X11_part_111 {X : h_X} (hX : h_ok X cX11_part 10 RX11 4 107) {Q : Int32 → h_S → Prop} (hE : h_end X (some .int) (h_QI (x_Z X) Q)) {x2 : Int32} {x4 : Int32} {x5 : Int32} {r6 : Option Nat} {r7 : Option Nat} {x8 : Int32} (s : h_S) (h : w_X11_part_111 Q x2 x4 x5 r6 r7 x8 s) : h_V X 10 111 [(2, pI x2), (4, pI x4), (5, pI x5), (6, pR r6), (7, pR r7), (8, pI x8)] [] s 0 0 := by
  unfold w_X11_part_111 at h
  refine v_iload hX dX11_part_111 5 rfl ?_
  refine v_bipush (v := -9) hX dX11_part_113 (by decide) ?_
  refine v_icmp_eq (tgt := 126) hX dX11_part_115 (by decide) (fun c1 => ?_) (fun c1 => ?_)
  · have h := h_T c1 h
    refine v_pick [] rfl ?_
    exact b_X11_part_126 hX hE _ h
  · have h := h_E c1 h
    refine v_iload hX dX11_part_118 1 rfl ?_
    refine v_sipush (v := 300) hX dX11_part_120 (by decide) ?_
    refine v_icmp_lt (tgt := 128) hX dX11_part_123 (by decide) (fun c2 => ?_) (fun c2 => ?_)
    · have h := h_T c2 h
      refine v_iload hX dX11_part_128 2 rfl ?_
      refine v_gen (fun q16 e_q16 => ?_)
      rw [← e_q16] at h
      by_cases c3 : q16 = (0 : Int32)
      · have h := h_T c3 h
        refine v_lookup (off := 26) (tgt := 156) hX dX11_part_130 (by decide) (by rw [c3]; decide) (by decide) ?_
        refine v_iload hX dX11_part_156 5 rfl ?_
        exact v_iret hX hE dX11_part_158 h
      · have h := h_E c3 h
        by_cases c4 : q16 = (1 : Int32)
        · have h := h_T c4 h
          refine v_lookup (off := 29) (tgt := 159) hX dX11_part_130 (by decide) (by rw [c4]; decide) (by decide) ?_
          refine v_aload hX dX11_part_159 4 rfl ?_
          obtain ⟨a5, e_a5, h⟩ := h
          refine v_nn0 e_a5 ?_
          obtain ⟨k6, h⟩ := h
          refine v_getR hX dX11_part_161 f_RX11_270 rfl k6 ?_
          refine v_iload hX dX11_part_164 5 rfl ?_
          obtain ⟨a7, e_a7, h⟩ := h
          refine v_nn1 e_a7 ?_
          obtain ⟨k8, h⟩ := h
          obtain ⟨i9, h⟩ := h
          refine v_iald hX dX11_part_166 k8 i9 ?_
          exact v_iret hX hE dX11_part_167 h
        · have h := h_E c4 h
          refine v_lookup (off := 38) (tgt := 168) hX dX11_part_130 (by decide) (by have n_c3 := Ne.symm (h_ti c3 (n := 0) rfl); have n_c4 := Ne.symm (h_ti c4 (n := 1) rfl); simp [Op.lookupswitch.offset, n_c3, n_c4]) (by decide) ?_
          refine v_aload hX dX11_part_168 3 rfl ?_
          refine v_iload_n hX dX11_part_170 0 rfl rfl ?_
          refine v_aload hX dX11_part_171 4 rfl ?_
          obtain ⟨a10, e_a10, h⟩ := h
          refine v_nn0 e_a10 ?_
          obtain ⟨k11, h⟩ := h
          refine v_getR hX dX11_part_173 f_RX11_270 rfl k11 ?_
          refine v_iload hX dX11_part_176 5 rfl ?_
          obtain ⟨a12, e_a12, h⟩ := h
          refine v_nn3 e_a12 ?_
          obtain ⟨k13, h⟩ := h
          refine v_callVi0 hX dX11_part_178 c_RX11_379 cV_X1_partSize (ci := 2) (T := TX1) (N := 4) rfl (by exact k13) [pI _, pR _, pI _] rfl rfl (Nat.le_of_ble_eq_true rfl) (by decide) (by decide)  (m_X1_partSize h) (fun p15 s14 h => ?_)
          exact v_iret hX hE dX11_part_181 h
    · have h := h_E c2 h
      refine v_pick [] rfl ?_
      exact b_X11_part_126 hX hE _ h
set_option maxRecDepth 100000 in
set_option maxHeartbeats 4000000 in
theorem b_X11_part_68 {X : h_X} (hX : h_ok X cX11_part 10 RX11 4 107) {Q : Int32 → h_S → Prop} (hE : h_end X (some .int) (h_QI (x_Z X) Q)) : ∀ (n : Nat) (x2 : Int32) (x4 : Int32) (x5 : Int32) (r6 : Option Nat) (r7 : Option Nat) (x8 : Int32) (x9 : Int32) (s : h_S), w_X11_part_68 Q n x2 x4 x5 r6 r7 x8 x9 s → h_V X 10 68 [(2, pI x2), (4, pI x4), (5, pI x5), (6, pR r6), (7, pR r7), (8, pI x8), (9, pI x9)] [] s 0 0 := by
  intro n
  induction n with
  | zero => intro _ _ _ _ _ _ _ s h; exact h.elim
  | succ n hK68 =>
    intro x2 x4 x5 r6 r7 x8 x9 s h
    have h : w_X11_part_68b Q (w_X11_part_68 Q n) x2 x4 x5 r6 r7 x8 x9 s := h
    unfold w_X11_part_68b at h
    refine v_iload hX dX11_part_68 6 rfl ?_
    refine v_sipush (v := 300) hX dX11_part_70 (by decide) ?_
    refine v_icmp_ge (tgt := 111) hX dX11_part_73 (by decide) (fun c1 => ?_) (fun c1 => ?_)
    · have h := h_T c1 h
      refine v_pick [0, 1, 2, 3, 4, 5] rfl ?_
      exact b_X11_part_111 hX hE _ h
    · have h := h_E c1 h
      refine v_iload hX dX11_part_76 6 rfl ?_
      refine v_iload hX dX11_part_78 1 rfl ?_
      refine v_icmp_ge (tgt := 111) hX dX11_part_80 (by decide) (fun c2 => ?_) (fun c2 => ?_)
      · have h := h_T c2 h
        refine v_pick [0, 1, 2, 3, 4, 5] rfl ?_
        exact b_X11_part_111 hX hE _ h
      · have h := h_E c2 h
        refine v_iload hX dX11_part_83 5 rfl ?_
        refine v_bipush (v := -9) hX dX11_part_85 (by decide) ?_
        refine v_icmp_eq (tgt := 111) hX dX11_part_87 (by decide) (fun c3 => ?_) (fun c3 => ?_)
        · have h := h_T c3 h
          refine v_pick [0, 1, 2, 3, 4, 5] rfl ?_
          exact b_X11_part_111 hX hE _ h
        · have h := h_E c3 h
          refine v_aload hX dX11_part_90 3 rfl ?_
          refine v_iload_n hX dX11_part_92 0 rfl rfl ?_
          refine v_aload hX dX11_part_93 4 rfl ?_
          obtain ⟨a4, e_a4, h⟩ := h
          refine v_nn0 e_a4 ?_
          obtain ⟨k5, h⟩ := h
          refine v_getR hX dX11_part_95 f_RX11_270 rfl k5 ?_
          refine v_iload hX dX11_part_98 5 rfl ?_
          obtain ⟨a6, e_a6, h⟩ := h
          refine v_nn3 e_a6 ?_
          obtain ⟨k7, h⟩ := h
          refine v_callVi0 hX dX11_part_100 c_RX11_376 cV_X1_partBehind (ci := 2) (T := TX1) (N := 4) rfl (by exact k7) [pI _, pR _, pI _] rfl rfl (Nat.le_of_ble_eq_true rfl) (by decide) (by decide)  (m_X1_partBehind h) (fun p9 s8 h => ?_)
          refine v_istore (lv' := [(8, _), (2, _), (4, _), (5, _), (6, _), (7, _), (9, _)]) hX dX11_part_103 (by decide) rfl ?_
          refine v_iinc (c := 1) (lv' := [(9, _), (8, _), (2, _), (4, _), (5, _), (6, _), (7, _)]) hX dX11_part_105 6 rfl (by decide) (by decide) rfl ?_
          refine v_goto (tgt := 68) hX dX11_part_108 (by decide) ?_
          refine v_pick [2, 3, 4, 5, 6, 1, 0] rfl ?_
          exact hK68 _ _ _ _ _ _ _ _ h
set_option maxRecDepth 100000 in
set_option maxHeartbeats 4000000 in
theorem m_X11_part {Z : h_Z} {o0 : Nat} {x1 : Int32} {x2 : Int32} {x3 : Int32} {x4 : Int32} {x5 : Int32} {s : h_S} {Q : Int32 → h_S → Prop} (h : w_X11_part o0 x1 x2 x3 x4 x5 s Q) : h_M Z yX11_part cX11_part 10 (some .int) 4 107 [pR (some o0), pI x1, pI x2, pI x3, pI x4, pI x5] s 0 0 (h_QI Z Q) := by
  refine h_M.of (by decide) (Nat.le_of_ble_eq_true rfl) (fun X hZ hX hE hI => ?_)
  subst hZ
  unfold w_X11_part at h
  show h_V X 10 0 [(0, pR (some o0)), (1, pI x1), (2, pI x2), (3, pI x3), (4, pI x4), (5, pI x5)] [] s 0 0
  refine v_aload_n hX dX11_part_0 0 rfl rfl ?_
  refine v_iload_n hX dX11_part_1 1 rfl rfl ?_
  obtain ⟨k1, h⟩ := h
  refine v_callVr0 hX dX11_part_2 c_RX11_340 cV_X11_linkAt (ci := 12) (T := TX11) (N := 19) rfl (by exact k1) [pI _] rfl rfl (Nat.le_of_ble_eq_true rfl) (by decide) (by decide)  (m_X11_linkAt h) (fun p3 s2 h => ?_)
  refine v_astore (lv' := [(6, _), (0, _), (1, _), (2, _), (3, _), (4, _), (5, _)]) hX dX11_part_5 (by decide) rfl ?_
  refine v_aload_n hX dX11_part_7 1 rfl rfl ?_
  refine v_iload_n hX dX11_part_8 4 rfl rfl ?_
  obtain ⟨k4, h⟩ := h
  refine v_callVr0 hX dX11_part_9 c_RX11_261 cV_X11_versionAt (ci := 12) (T := TX11) (N := 19) rfl (by exact k4) [pI _] rfl rfl (Nat.le_of_ble_eq_true rfl) (by decide) (by decide)  (m_X11_versionAt h) (fun p6 s5 h => ?_)
  refine v_astore (lv' := [(7, _), (6, _), (0, _), (1, _), (2, _), (3, _), (4, _), (5, _)]) hX dX11_part_12 (by decide) rfl ?_
  refine v_aload hX dX11_part_14 1 rfl ?_
  refine v_ifnull (tgt := 29) hX dX11_part_16 (by decide) (fun c7 => ?_) (fun c7 => ?_)
  · have h := h_T c7 h
    refine v_pick [] rfl ?_
    exact b_X11_part_29 hX hE _ h
  · have h := h_E c7 h
    refine v_aload hX dX11_part_19 0 rfl ?_
    refine v_ifnull (tgt := 29) hX dX11_part_21 (by decide) (fun c8 => ?_) (fun c8 => ?_)
    · have h := h_T c8 h
      refine v_pick [] rfl ?_
      exact b_X11_part_29 hX hE _ h
    · have h := h_E c8 h
      refine v_iload hX dX11_part_24 6 rfl ?_
      refine v_if_ge (tgt := 31) hX dX11_part_26 (by decide) (fun c9 => ?_) (fun c9 => ?_)
      · have h := h_T c9 h
        refine v_iload_n hX dX11_part_31 4 rfl rfl ?_
        refine v_iconst (v := 2) hX dX11_part_32 (by decide) ?_
        refine v_callSi0 hX dX11_part_33 c_RX11_78 cS_X11_within [pI _, pI _] rfl rfl (Nat.le_of_ble_eq_true rfl) (by decide) (by decide)  (m_X11_within h) (fun p11 s10 h => ?_)
        refine v_if_eq (tgt := 48) hX dX11_part_36 (by decide) (fun c12 => ?_) (fun c12 => ?_)
        · have h := h_T c12 h
          refine v_pick [] rfl ?_
          exact b_X11_part_48 hX hE _ h
        · have h := h_E c12 h
          refine v_iload hX dX11_part_39 7 rfl ?_
          refine v_iconst (v := 3) hX dX11_part_41 (by decide) ?_
          refine v_callSi0 hX dX11_part_42 c_RX11_78 cS_X11_within [pI _, pI _] rfl rfl (Nat.le_of_ble_eq_true rfl) (by decide) (by decide)  (m_X11_within h) (fun p14 s13 h => ?_)
          refine v_if_ne (tgt := 51) hX dX11_part_45 (by decide) (fun c15 => ?_) (fun c15 => ?_)
          · have h := h_E c15 h
            refine v_aload hX dX11_part_51 1 rfl ?_
            refine v_iload_n hX dX11_part_53 4 rfl rfl ?_
            refine v_aload hX dX11_part_54 0 rfl ?_
            obtain ⟨a16, e_a16, h⟩ := h
            refine v_nn0 e_a16 ?_
            obtain ⟨k17, h⟩ := h
            refine v_getR hX dX11_part_56 f_RX11_270 rfl k17 ?_
            refine v_iconst (v := 0) hX dX11_part_59 (by decide) ?_
            obtain ⟨a18, e_a18, h⟩ := h
            refine v_nn3 e_a18 ?_
            obtain ⟨k19, h⟩ := h
            refine v_callVi0 hX dX11_part_60 c_RX11_372 cV_X1_partFrom (ci := 2) (T := TX1) (N := 4) rfl (by exact k19) [pI _, pR _, pI _] rfl rfl (Nat.le_of_ble_eq_true rfl) (by decide) (by decide)  (m_X1_partFrom h) (fun p21 s20 h => ?_)
            refine v_istore (lv' := [(8, _), (7, _), (6, _), (0, _), (1, _), (2, _), (3, _), (4, _), (5, _)]) hX dX11_part_63 (by decide) rfl ?_
            refine v_iconst (v := 0) hX dX11_part_65 (by decide) ?_
            refine v_istore (lv' := [(9, _), (8, _), (7, _), (6, _), (0, _), (1, _), (2, _), (3, _), (4, _), (5, _)]) hX dX11_part_66 (by decide) rfl ?_
            refine v_pick [6, 8, 9, 3, 2, 1, 0] rfl ?_
            obtain ⟨n, h⟩ := h
            exact b_X11_part_68 hX hE n _ _ _ _ _ _ _ _ h
          · have h := h_T c15 h
            refine v_pick [] rfl ?_
            exact b_X11_part_48 hX hE _ h
      · have h := h_E c9 h
        refine v_pick [] rfl ?_
        exact b_X11_part_29 hX hE _ h
set_option maxRecDepth 100000 in
set_option maxHeartbeats 4000000 in
theorem m_X11_keepRight {Z : h_Z} {o0 : Nat} {r1 : Option Nat} {s : h_S} {mc ms : Nat} {Q : Int32 → h_S → Prop} (h : w_X11_keepRight Z.2.2.2.2 o0 r1 s mc ms Q) : h_M Z yX11_keepRight cX11_keepRight 2 (some .int) 7 191 [pR (some o0), pR r1] s mc ms (h_QI Z Q) := by
  refine h_M.of (by decide) (Nat.le_of_ble_eq_true rfl) (fun X hZ hX hE hI => ?_)
  subst hZ
  unfold w_X11_keepRight at h
  show h_V X 2 0 [(0, pR (some o0)), (1, pR r1)] [] s mc ms
  refine v_aload_n hX dX11_keepRight_0 0 rfl rfl ?_
  obtain ⟨k1, h⟩ := h
  refine v_getR hX dX11_keepRight_1 f_RX11_38 rfl k1 ?_
  obtain ⟨a2, e_a2, h⟩ := h
  refine v_nn0 e_a2 ?_
  obtain ⟨k3, h⟩ := h
  refine v_callVi0 hX dX11_keepRight_4 c_RX11_244 cV_Jx4a65c_size_8abf5 (ci := 0) (T := TJx4a65c) (N := 3) rfl (by exact k3) [] rfl rfl (Nat.le_of_ble_eq_true rfl) (by decide) (by decide)  (m_Jx4a65c_size_8abf5 h) (fun p5 s4 h => ?_)
  refine v_bipush (v := 20) hX dX11_keepRight_7 (by decide) ?_
  refine v_icmp_lt (tgt := 15) hX dX11_keepRight_9 (by decide) (fun c6 => ?_) (fun c6 => ?_)
  · have h := h_T c6 h
    refine v_aload_n hX dX11_keepRight_15 0 rfl rfl ?_
    obtain ⟨k7, h⟩ := h
    refine v_getR hX dX11_keepRight_16 f_RX11_38 rfl k7 ?_
    refine v_aload_n hX dX11_keepRight_19 1 rfl rfl ?_
    obtain ⟨a8, e_a8, h⟩ := h
    refine v_nn1 e_a8 ?_
    obtain ⟨k9, h⟩ := h
    obtain ⟨mc12, ms13, b14, b15, h⟩ := h
    refine v_callVi hX dX11_keepRight_20 c_RX11_257 cV_Jx4a65c_add_9ea2d (ci := 0) (T := TJx4a65c) (N := 3) rfl (by exact k9) [pR _] rfl rfl (Nat.le_of_ble_eq_true rfl) (by decide) (by decide) b14 b15 (m_Jx4a65c_add_9ea2d h) (fun p11 s10 h => ?_)
    refine v_pop hX dX11_keepRight_23 rfl ?_
    refine v_aload_n hX dX11_keepRight_24 0 rfl rfl ?_
    refine v_aload_n hX dX11_keepRight_25 0 rfl rfl ?_
    obtain ⟨k16, h⟩ := h
    refine v_getR hX dX11_keepRight_26 f_RX11_38 rfl k16 ?_
    obtain ⟨a17, e_a17, h⟩ := h
    refine v_nn0 e_a17 ?_
    obtain ⟨k18, h⟩ := h
    refine v_callVi0 hX dX11_keepRight_29 c_RX11_244 cV_Jx4a65c_size_8abf5 (ci := 0) (T := TJx4a65c) (N := 3) rfl (by exact k18) [] rfl rfl (Nat.le_of_ble_eq_true rfl) (by decide) (by decide)  (m_Jx4a65c_size_8abf5 h) (fun p20 s19 h => ?_)
    refine v_iconst (v := 1) hX dX11_keepRight_32 (by decide) ?_
    refine v_isub hX dX11_keepRight_33 ?_
    obtain ⟨k21, h⟩ := h
    refine v_callVi0 hX dX11_keepRight_34 c_RX11_74 cV_X11_acted (ci := 12) (T := TX11) (N := 19) rfl (by exact k21) [pI _] rfl rfl (Nat.le_of_ble_eq_true rfl) (by decide) (by decide)  (m_X11_acted h) (fun p23 s22 h => ?_)
    exact v_iret hX hE dX11_keepRight_37 h
  · have h := h_E c6 h
    refine v_bipush (v := -4) hX dX11_keepRight_12 (by decide) ?_
    exact v_iret hX hE dX11_keepRight_14 h
set_option maxRecDepth 100000 in
set_option maxHeartbeats 4000000 in
theorem b_X11_right_21 {X : h_X} (hX : h_ok X cX11_right 9 RX11 8 212) {Q : Int32 → h_S → Prop} (hE : h_end X (some .int) (h_QI (x_Z X) Q)) (s : h_S) {bc bs : Nat} (h : w_X11_right_21 (x_G X) Q s bc bs) : h_V X 9 21 [] [] s bc bs := by
  unfold w_X11_right_21 at h
  refine v_iconst (v := -1) hX dX11_right_21 (by decide) ?_
  exact v_iret hX hE dX11_right_22 h
set_option maxRecDepth 100000 in
set_option maxHeartbeats 4000000 in
theorem m_X11_right {Z : h_Z} {o0 : Nat} {x1 : Int32} {x2 : Int32} {x3 : Int32} {x4 : Int32} {x5 : Int32} {s : h_S} {mc ms : Nat} {Q : Int32 → h_S → Prop} (h : w_X11_right Z.2.2.2.2 o0 x1 x2 x3 x4 x5 s mc ms Q) : h_M Z yX11_right cX11_right 9 (some .int) 8 212 [pR (some o0), pI x1, pI x2, pI x3, pI x4, pI x5] s mc ms (h_QI Z Q) := by
  refine h_M.of (by decide) (Nat.le_of_ble_eq_true rfl) (fun X hZ hX hE hI => ?_)
  subst hZ
  unfold w_X11_right at h
  show h_V X 9 0 [(0, pR (some o0)), (1, pI x1), (2, pI x2), (3, pI x3), (4, pI x4), (5, pI x5)] [] s mc ms
  refine v_aload_n hX dX11_right_0 0 rfl rfl ?_
  refine v_iconst (v := 0) hX dX11_right_1 (by decide) ?_
  obtain ⟨k1, h⟩ := h
  refine v_putI hX dX11_right_2 f_RX11_100 k1 ?_
  refine v_aload_n hX dX11_right_5 0 rfl rfl ?_
  refine v_iload_n hX dX11_right_6 1 rfl rfl ?_
  refine v_callVi0 hX dX11_right_7 c_RX11_150 cV_X11_isWriting (ci := 12) (T := TX11) (N := 19) rfl (by exact k1) [pI _] rfl rfl (Nat.le_of_ble_eq_true rfl) (by decide) (by decide)  (m_X11_isWriting h) (fun p4 s3 h => ?_)
  refine v_if_eq (tgt := 21) hX dX11_right_10 (by decide) (fun c5 => ?_) (fun c5 => ?_)
  · have h := h_T c5 h
    refine v_pick [] rfl ?_
    exact b_X11_right_21 hX hE _ h
  · have h := h_E c5 h
    refine v_iload_n hX dX11_right_13 2 rfl rfl ?_
    refine v_iconst (v := 4) hX dX11_right_14 (by decide) ?_
    refine v_callSi0 hX dX11_right_15 c_RX11_78 cS_X11_within [pI _, pI _] rfl rfl (Nat.le_of_ble_eq_true rfl) (by decide) (by decide)  (m_X11_within h) (fun p7 s6 h => ?_)
    refine v_if_ne (tgt := 23) hX dX11_right_18 (by decide) (fun c8 => ?_) (fun c8 => ?_)
    · have h := h_E c8 h
      refine v_aload_n hX dX11_right_23 0 rfl rfl ?_
      refine v_iload_n hX dX11_right_24 2 rfl rfl ?_
      refine v_iload_n hX dX11_right_25 3 rfl rfl ?_
      refine v_iload hX dX11_right_26 4 rfl ?_
      refine v_iload hX dX11_right_28 5 rfl ?_
      obtain ⟨k9, h⟩ := h
      refine v_callVi0 hX dX11_right_30 c_RX11_106 cV_X11_refusedCells (ci := 12) (T := TX11) (N := 19) rfl (by exact k9) [pI _, pI _, pI _, pI _] rfl rfl (Nat.le_of_ble_eq_true rfl) (by decide) (by decide)  (m_X11_refusedCells h) (fun p11 s10 h => ?_)
      refine v_istore (lv' := [(6, _), (0, _), (1, _), (2, _), (3, _), (4, _), (5, _)]) hX dX11_right_33 (by decide) rfl ?_
      refine v_iload hX dX11_right_35 0 rfl ?_
      refine v_if_eq (tgt := 43) hX dX11_right_37 (by decide) (fun c12 => ?_) (fun c12 => ?_)
      · have h := h_T c12 h
        obtain ⟨b15, b16, h⟩ := h
        refine v_new hX dX11_right_43 n_RX11_382 b15 b16 (fun q13 k14 => ?_)
        have h := h q13 k14
        refine v_dup hX dX11_right_46 rfl ?_
        refine v_iload_n hX dX11_right_47 2 rfl rfl ?_
        refine v_aload_n hX dX11_right_48 1 rfl rfl ?_
        obtain ⟨k20, h⟩ := h
        refine v_getI hX dX11_right_49 f_RX11_82 rfl k20 ?_
        refine v_iconst (v := 1) hX dX11_right_52 (by decide) ?_
        refine v_iadd hX dX11_right_53 ?_
        refine v_callIv0 hX dX11_right_54 c_RX11_384 cI_X3_init [pI _, pI _] rfl rfl (Nat.le_of_ble_eq_true rfl) (by decide) (by decide)  (m_X3_init h) (fun s21 h => ?_)
        refine v_astore (lv' := [(7, _), (6, _), (0, _), (1, _), (2, _), (3, _), (4, _), (5, _)]) hX dX11_right_57 (by decide) rfl ?_
        refine v_aload hX dX11_right_59 0 rfl ?_
        refine v_aload_n hX dX11_right_61 2 rfl rfl ?_
        obtain ⟨k23, h⟩ := h
        refine v_getR hX dX11_right_62 f_RX11_43 rfl k23 ?_
        refine v_iload_n hX dX11_right_65 4 rfl rfl ?_
        obtain ⟨a24, e_a24, h⟩ := h
        refine v_nn1 e_a24 ?_
        obtain ⟨k25, h⟩ := h
        obtain ⟨i26, h⟩ := h
        refine v_aald (k := 5) hX dX11_right_66 rfl rfl (by decide) (by decide) k25 i26 ?_
        refine v_iload hX dX11_right_67 6 rfl ?_
        refine v_iload hX dX11_right_69 7 rfl ?_
        obtain ⟨k27, h⟩ := h
        refine v_callVi0 hX dX11_right_71 c_RX11_386 cV_X3_readText (ci := 4) (T := TX3) (N := 10) rfl (by exact k27) [pR _, pI _, pI _] rfl rfl (Nat.le_of_ble_eq_true rfl) (by decide) (by decide)  (m_X3_readText h) (fun p29 s28 h => ?_)
        refine v_istore (lv' := [(8, _), (7, _), (6, _), (0, _), (1, _), (2, _), (3, _), (4, _), (5, _)]) hX dX11_right_74 (by decide) rfl ?_
        refine v_iload hX dX11_right_76 0 rfl ?_
        refine v_bipush (v := -9) hX dX11_right_78 (by decide) ?_
        refine v_icmp_eq (tgt := 89) hX dX11_right_80 (by decide) (fun c30 => ?_) (fun c30 => ?_)
        · have h := h_T c30 h
          refine v_aload_n hX dX11_right_89 3 rfl rfl ?_
          refine v_aload hX dX11_right_90 1 rfl ?_
          obtain ⟨k31, h⟩ := h
          obtain ⟨mc34, ms35, b36, b37, h⟩ := h
          refine v_callVi hX dX11_right_92 c_RX11_390 cV_X11_keepRight (ci := 12) (T := TX11) (N := 19) rfl (by exact k31) [pR _] rfl rfl (Nat.le_of_ble_eq_true rfl) (by decide) (by decide) b36 b37 (m_X11_keepRight h) (fun p33 s32 h => ?_)
          exact v_iret hX hE dX11_right_95 h
        · have h := h_E c30 h
          refine v_bipush (v := -100) hX dX11_right_83 (by decide) ?_
          refine v_iload hX dX11_right_85 0 rfl ?_
          refine v_isub hX dX11_right_87 ?_
          exact v_iret hX hE dX11_right_88 h
      · have h := h_E c12 h
        refine v_iload hX dX11_right_40 0 rfl ?_
        exact v_iret hX hE dX11_right_42 h
    · have h := h_T c8 h
      refine v_pick [] rfl ?_
      exact b_X11_right_21 hX hE _ h
set_option maxRecDepth 100000 in
set_option maxHeartbeats 4000000 in
theorem b_X11_lend_30 {X : h_X} (hX : h_ok X cX11_lend 6 RX11 8 212) {Q : Int32 → h_S → Prop} (hE : h_end X (some .int) (h_QI (x_Z X) Q)) (s : h_S) {bc bs : Nat} (h : w_X11_lend_30 (x_G X) Q s bc bs) : h_V X 6 30 [] [] s bc bs := by
  unfold w_X11_lend_30 at h
  refine v_iconst (v := -1) hX dX11_lend_30 (by decide) ?_
  exact v_iret hX hE dX11_lend_31 h
set_option maxRecDepth 100000 in
set_option maxHeartbeats 4000000 in
theorem m_X11_lend {Z : h_Z} {o0 : Nat} {x1 : Int32} {x2 : Int32} {x3 : Int32} {s : h_S} {mc ms : Nat} {Q : Int32 → h_S → Prop} (h : w_X11_lend Z.2.2.2.2 o0 x1 x2 x3 s mc ms Q) : h_M Z yX11_lend cX11_lend 6 (some .int) 8 212 [pR (some o0), pI x1, pI x2, pI x3] s mc ms (h_QI Z Q) := by
  refine h_M.of (by decide) (Nat.le_of_ble_eq_true rfl) (fun X hZ hX hE hI => ?_)
  subst hZ
  unfold w_X11_lend at h
  show h_V X 6 0 [(0, pR (some o0)), (1, pI x1), (2, pI x2), (3, pI x3)] [] s mc ms
  refine v_iload_n hX dX11_lend_0 1 rfl rfl ?_
  refine v_aload_n hX dX11_lend_1 0 rfl rfl ?_
  obtain ⟨k1, h⟩ := h
  refine v_getR hX dX11_lend_2 f_RX11_38 rfl k1 ?_
  obtain ⟨a2, e_a2, h⟩ := h
  refine v_nn0 e_a2 ?_
  obtain ⟨k3, h⟩ := h
  refine v_callVi0 hX dX11_lend_5 c_RX11_244 cV_Jx4a65c_size_8abf5 (ci := 0) (T := TJx4a65c) (N := 3) rfl (by exact k3) [] rfl rfl (Nat.le_of_ble_eq_true rfl) (by decide) (by decide)  (m_Jx4a65c_size_8abf5 h) (fun p5 s4 h => ?_)
  refine v_callSi0 hX dX11_lend_8 c_RX11_78 cS_X11_within [pI _, pI _] rfl rfl (Nat.le_of_ble_eq_true rfl) (by decide) (by decide)  (m_X11_within h) (fun p7 s6 h => ?_)
  refine v_if_eq (tgt := 30) hX dX11_lend_11 (by decide) (fun c8 => ?_) (fun c8 => ?_)
  · have h := h_T c8 h
    refine v_pick [] rfl ?_
    exact b_X11_lend_30 hX hE _ h
  · have h := h_E c8 h
    refine v_aload_n hX dX11_lend_14 0 rfl rfl ?_
    refine v_iload_n hX dX11_lend_15 2 rfl rfl ?_
    obtain ⟨k9, h⟩ := h
    refine v_callVi0 hX dX11_lend_16 c_RX11_89 cV_X11_isHand (ci := 12) (T := TX11) (N := 19) rfl (by exact k9) [pI _] rfl rfl (Nat.le_of_ble_eq_true rfl) (by decide) (by decide)  (m_X11_isHand h) (fun p11 s10 h => ?_)
    refine v_if_eq (tgt := 30) hX dX11_lend_19 (by decide) (fun c12 => ?_) (fun c12 => ?_)
    · have h := h_T c12 h
      refine v_pick [] rfl ?_
      exact b_X11_lend_30 hX hE _ h
    · have h := h_E c12 h
      refine v_aload_n hX dX11_lend_22 0 rfl rfl ?_
      refine v_iload_n hX dX11_lend_23 3 rfl rfl ?_
      obtain ⟨k13, h⟩ := h
      refine v_callVi0 hX dX11_lend_24 c_RX11_89 cV_X11_isHand (ci := 12) (T := TX11) (N := 19) rfl (by exact k13) [pI _] rfl rfl (Nat.le_of_ble_eq_true rfl) (by decide) (by decide)  (m_X11_isHand h) (fun p15 s14 h => ?_)
      refine v_if_ne (tgt := 32) hX dX11_lend_27 (by decide) (fun c16 => ?_) (fun c16 => ?_)
      · have h := h_E c16 h
        refine v_iload_n hX dX11_lend_32 2 rfl rfl ?_
        refine v_iload_n hX dX11_lend_33 3 rfl rfl ?_
        refine v_icmp_ne (tgt := 40) hX dX11_lend_34 (by decide) (fun c17 => ?_) (fun c17 => ?_)
        · have h := h_E c17 h
          refine v_aload_n hX dX11_lend_40 0 rfl rfl ?_
          obtain ⟨k18, h⟩ := h
          refine v_getR hX dX11_lend_41 f_RX11_38 rfl k18 ?_
          refine v_iload_n hX dX11_lend_44 1 rfl rfl ?_
          obtain ⟨a19, e_a19, h⟩ := h
          refine v_nn1 e_a19 ?_
          obtain ⟨k20, h⟩ := h
          refine v_callVr0 hX dX11_lend_45 c_RX11_312 cV_Jx4a65c_get_915e3 (ci := 0) (T := TJx4a65c) (N := 3) rfl (by exact k20) [pI _] rfl rfl (Nat.le_of_ble_eq_true rfl) (by decide) (by decide)  (m_Jx4a65c_get_915e3 h) (fun p22 s21 h => ?_)
          obtain ⟨b23, h⟩ := h
          refine v_cast (ci := 4) hX dX11_lend_48 kl_RX11_382 rfl b23 ?_
          refine v_astore (lv' := [(4, _), (0, _), (1, _), (2, _), (3, _)]) hX dX11_lend_51 (by decide) rfl ?_
          refine v_aload_n hX dX11_lend_53 1 rfl rfl ?_
          refine v_aload hX dX11_lend_54 0 rfl ?_
          refine v_iload_n hX dX11_lend_56 3 rfl rfl ?_
          refine v_iconst (v := 2) hX dX11_lend_57 (by decide) ?_
          refine v_aload_n hX dX11_lend_58 1 rfl rfl ?_
          obtain ⟨k24, h⟩ := h
          refine v_getI hX dX11_lend_59 f_RX11_82 rfl k24 ?_
          refine v_callVi0 hX dX11_lend_62 c_RX11_394 cV_X11_allows (ci := 12) (T := TX11) (N := 19) rfl (by exact k24) [pR _, pI _, pI _, pI _] rfl rfl (Nat.le_of_ble_eq_true rfl) (by decide) (by decide)  (m_X11_allows h) (fun p26 s25 h => ?_)
          refine v_if_ne (tgt := 71) hX dX11_lend_65 (by decide) (fun c27 => ?_) (fun c27 => ?_)
          · have h := h_E c27 h
            obtain ⟨b30, b31, h⟩ := h
            refine v_new hX dX11_lend_71 n_RX11_382 b30 b31 (fun q28 k29 => ?_)
            have h := h q28 k29
            refine v_dup hX dX11_lend_74 rfl ?_
            refine v_aload hX dX11_lend_75 0 rfl ?_
            obtain ⟨a35, e_a35, h⟩ := h
            refine v_nn0 e_a35 ?_
            obtain ⟨k36, h⟩ := h
            refine v_getI hX dX11_lend_77 f_RX11_398 rfl k36 ?_
            refine v_aload_n hX dX11_lend_80 1 rfl rfl ?_
            obtain ⟨k37, h⟩ := h
            refine v_getI hX dX11_lend_81 f_RX11_82 rfl k37 ?_
            refine v_iconst (v := 1) hX dX11_lend_84 (by decide) ?_
            refine v_iadd hX dX11_lend_85 ?_
            refine v_callIv0 hX dX11_lend_86 c_RX11_384 cI_X3_init [pI _, pI _] rfl rfl (Nat.le_of_ble_eq_true rfl) (by decide) (by decide)  (m_X3_init h) (fun s38 h => ?_)
            refine v_astore (lv' := [(5, _), (4, _), (0, _), (1, _), (2, _), (3, _)]) hX dX11_lend_89 (by decide) rfl ?_
            refine v_aload hX dX11_lend_91 0 rfl ?_
            refine v_aload hX dX11_lend_93 1 rfl ?_
            refine v_iload_n hX dX11_lend_95 3 rfl rfl ?_
            refine v_iload_n hX dX11_lend_96 5 rfl rfl ?_
            obtain ⟨k40, h⟩ := h
            refine v_callVv0 hX dX11_lend_97 c_RX11_399 cV_X3_hangOn (ci := 4) (T := TX3) (N := 10) rfl (by exact k40) [pR _, pI _, pI _] rfl rfl (Nat.le_of_ble_eq_true rfl) (by decide) (by decide)  (m_X3_hangOn h) (fun s41 h => ?_)
            refine v_aload_n hX dX11_lend_100 2 rfl rfl ?_
            refine v_aload hX dX11_lend_101 0 rfl ?_
            obtain ⟨k43, h⟩ := h
            obtain ⟨mc46, ms47, b48, b49, h⟩ := h
            refine v_callVi hX dX11_lend_103 c_RX11_390 cV_X11_keepRight (ci := 12) (T := TX11) (N := 19) rfl (by exact k43) [pR _] rfl rfl (Nat.le_of_ble_eq_true rfl) (by decide) (by decide) b48 b49 (m_X11_keepRight h) (fun p45 s44 h => ?_)
            exact v_iret hX hE dX11_lend_106 h
          · have h := h_T c27 h
            refine v_bipush (v := -3) hX dX11_lend_68 (by decide) ?_
            exact v_iret hX hE dX11_lend_70 h
        · have h := h_T c17 h
          refine v_bipush (v := -2) hX dX11_lend_37 (by decide) ?_
          exact v_iret hX hE dX11_lend_39 h
      · have h := h_T c16 h
        refine v_pick [] rfl ?_
        exact b_X11_lend_30 hX hE _ h
set_option maxRecDepth 100000 in
set_option maxHeartbeats 4000000 in
theorem b_X11_take_100 {X : h_X} (hX : h_ok X cX11_take 5 RX11 3 64) {Q : Int32 → h_S → Prop} (hE : h_end X (some .int) (h_QI (x_Z X) Q)) {K40 : Nat → Int32 → Int32 → Int32 → h_S → Prop} (hK40 : ∀ (o0 : Nat) (x1 : Int32) (x2 : Int32) (x3 : Int32) (s : h_S), K40 o0 x1 x2 x3 s → h_V X 5 40 [(0, pR (some o0)), (1, pI x1), (2, pI x2), (3, pI x3)] [] s 0 0) {o0 : Nat} {x1 : Int32} {x2 : Int32} {x3 : Int32} (s : h_S) (h : w_X11_take_100 Q K40 o0 x1 x2 x3 s) : h_V X 5 100 [(0, pR (some o0)), (1, pI x1), (2, pI x2), (3, pI x3)] [] s 0 0 := by
  unfold w_X11_take_100 at h
  refine v_iinc (c := 1) (lv' := [(3, _), (0, _), (1, _), (2, _)]) hX dX11_take_100 3 rfl (by decide) (by decide) rfl ?_
  refine v_goto (tgt := 40) hX dX11_take_103 (by decide) ?_
  refine v_pick [1, 2, 3, 0] rfl ?_
  exact hK40 _ _ _ _ _ h
set_option maxRecDepth 100000 in
set_option maxHeartbeats 4000000 in
theorem b_X11_take_78 {X : h_X} (hX : h_ok X cX11_take 5 RX11 3 64) {Q : Int32 → h_S → Prop} (hE : h_end X (some .int) (h_QI (x_Z X) Q)) {K40 : Nat → Int32 → Int32 → Int32 → h_S → Prop} (hK40 : ∀ (o0 : Nat) (x1 : Int32) (x2 : Int32) (x3 : Int32) (s : h_S), K40 o0 x1 x2 x3 s → h_V X 5 40 [(0, pR (some o0)), (1, pI x1), (2, pI x2), (3, pI x3)] [] s 0 0) {o0 : Nat} {x1 : Int32} {x2 : Int32} {x3 : Int32} {r4 : Option Nat} (s : h_S) (h : w_X11_take_78 Q K40 o0 x1 x2 x3 r4 s) : h_V X 5 78 [(0, pR (some o0)), (1, pI x1), (2, pI x2), (3, pI x3), (4, pR r4)] [] s 0 0 := by
  unfold w_X11_take_78 at h
  refine v_aload hX dX11_take_78 4 rfl ?_
  obtain ⟨a1, e_a1, h⟩ := h
  refine v_nn0 e_a1 ?_
  obtain ⟨k2, h⟩ := h
  refine v_callVi0 hX dX11_take_80 c_RX11_403 cV_X3_isThere (ci := 4) (T := TX3) (N := 10) rfl (by exact k2) [] rfl rfl (Nat.le_of_ble_eq_true rfl) (by decide) (by decide)  (m_X3_isThere h) (fun p4 s3 h => ?_)
  refine v_if_eq (tgt := 100) hX dX11_take_83 (by decide) (fun c5 => ?_) (fun c5 => ?_)
  · have h := h_T c5 h
    refine v_pick [0, 1, 2, 3] rfl ?_
    exact b_X11_take_100 hX hE hK40 _ h
  · have h := h_E c5 h
    refine v_aload hX dX11_take_86 4 rfl ?_
    refine v_aload_n hX dX11_take_88 0 rfl rfl ?_
    obtain ⟨k6, h⟩ := h
    refine v_getI hX dX11_take_89 f_RX11_82 rfl k6 ?_
    refine v_iconst (v := 1) hX dX11_take_92 (by decide) ?_
    refine v_iadd hX dX11_take_93 ?_
    obtain ⟨a7, e_a7, h⟩ := h
    refine v_nn1 e_a7 ?_
    obtain ⟨k8, h⟩ := h
    refine v_putI hX dX11_take_94 f_RX11_409 k8 ?_
    refine v_iinc (c := 1) (lv' := [(2, _), (0, _), (1, _), (3, _), (4, _)]) hX dX11_take_97 2 rfl (by decide) (by decide) rfl ?_
    refine v_pick [1, 2, 0, 3] rfl ?_
    exact b_X11_take_100 hX hE hK40 _ h
set_option maxRecDepth 100000 in
set_option maxHeartbeats 4000000 in
theorem b_X11_take_40 {X : h_X} (hX : h_ok X cX11_take 5 RX11 3 64) {Q : Int32 → h_S → Prop} (hE : h_end X (some .int) (h_QI (x_Z X) Q)) : ∀ (n : Nat) (o0 : Nat) (x1 : Int32) (x2 : Int32) (x3 : Int32) (s : h_S), w_X11_take_40 Q n o0 x1 x2 x3 s → h_V X 5 40 [(0, pR (some o0)), (1, pI x1), (2, pI x2), (3, pI x3)] [] s 0 0 := by
  intro n
  induction n with
  | zero => intro _ _ _ _ s h; exact h.elim
  | succ n hK40 =>
    intro o0 x1 x2 x3 s h
    have h : w_X11_take_40b Q (w_X11_take_40 Q n) o0 x1 x2 x3 s := h
    unfold w_X11_take_40b at h
    refine v_iload_n hX dX11_take_40 3 rfl rfl ?_
    refine v_aload_n hX dX11_take_41 0 rfl rfl ?_
    obtain ⟨k1, h⟩ := h
    refine v_getR hX dX11_take_42 f_RX11_38 rfl k1 ?_
    obtain ⟨a2, e_a2, h⟩ := h
    refine v_nn0 e_a2 ?_
    obtain ⟨k3, h⟩ := h
    refine v_callVi0 hX dX11_take_45 c_RX11_244 cV_Jx4a65c_size_8abf5 (ci := 0) (T := TJx4a65c) (N := 3) rfl (by exact k3) [] rfl rfl (Nat.le_of_ble_eq_true rfl) (by decide) (by decide)  (m_Jx4a65c_size_8abf5 h) (fun p5 s4 h => ?_)
    refine v_icmp_ge (tgt := 106) hX dX11_take_48 (by decide) (fun c6 => ?_) (fun c6 => ?_)
    · have h := h_T c6 h
      refine v_aload_n hX dX11_take_106 0 rfl rfl ?_
      refine v_iload_n hX dX11_take_107 2 rfl rfl ?_
      obtain ⟨k7, h⟩ := h
      refine v_callVi0 hX dX11_take_108 c_RX11_74 cV_X11_acted (ci := 12) (T := TX11) (N := 19) rfl (by exact k7) [pI _] rfl rfl (Nat.le_of_ble_eq_true rfl) (by decide) (by decide)  (m_X11_acted h) (fun p9 s8 h => ?_)
      exact v_iret hX hE dX11_take_111 h
    · have h := h_E c6 h
      refine v_aload_n hX dX11_take_51 0 rfl rfl ?_
      obtain ⟨k10, h⟩ := h
      refine v_getR hX dX11_take_52 f_RX11_38 rfl k10 ?_
      refine v_iload_n hX dX11_take_55 3 rfl rfl ?_
      obtain ⟨a11, e_a11, h⟩ := h
      refine v_nn1 e_a11 ?_
      obtain ⟨k12, h⟩ := h
      refine v_callVr0 hX dX11_take_56 c_RX11_312 cV_Jx4a65c_get_915e3 (ci := 0) (T := TJx4a65c) (N := 3) rfl (by exact k12) [pI _] rfl rfl (Nat.le_of_ble_eq_true rfl) (by decide) (by decide)  (m_Jx4a65c_get_915e3 h) (fun p14 s13 h => ?_)
      obtain ⟨b15, h⟩ := h
      refine v_cast (ci := 4) hX dX11_take_59 kl_RX11_382 rfl b15 ?_
      refine v_astore (lv' := [(4, _), (0, _), (1, _), (2, _), (3, _)]) hX dX11_take_62 (by decide) rfl ?_
      refine v_iload_n hX dX11_take_64 4 rfl rfl ?_
      refine v_iload_n hX dX11_take_65 2 rfl rfl ?_
      refine v_icmp_eq (tgt := 78) hX dX11_take_66 (by decide) (fun c16 => ?_) (fun c16 => ?_)
      · have h := h_T c16 h
        refine v_pick [1, 2, 3, 4, 0] rfl ?_
        exact b_X11_take_78 hX hE hK40 _ h
      · have h := h_E c16 h
        refine v_aload hX dX11_take_69 0 rfl ?_
        obtain ⟨a17, e_a17, h⟩ := h
        refine v_nn0 e_a17 ?_
        obtain ⟨k18, h⟩ := h
        refine v_getI hX dX11_take_71 f_RX11_406 rfl k18 ?_
        refine v_iload_n hX dX11_take_74 2 rfl rfl ?_
        refine v_icmp_ne (tgt := 100) hX dX11_take_75 (by decide) (fun c19 => ?_) (fun c19 => ?_)
        · have h := h_E c19 h
          refine v_pick [1, 2, 3, 4] rfl ?_
          exact b_X11_take_100 hX hE hK40 _ h
        · have h := h_T c19 h
          refine v_pick [1, 2, 3, 4, 0] rfl ?_
          exact b_X11_take_78 hX hE hK40 _ h
set_option maxRecDepth 100000 in
set_option maxHeartbeats 4000000 in
theorem m_X11_take {Z : h_Z} {o0 : Nat} {x1 : Int32} {s : h_S} {Q : Int32 → h_S → Prop} (h : w_X11_take o0 x1 s Q) : h_M Z yX11_take cX11_take 5 (some .int) 3 64 [pR (some o0), pI x1] s 0 0 (h_QI Z Q) := by
  refine h_M.of (by decide) (Nat.le_of_ble_eq_true rfl) (fun X hZ hX hE hI => ?_)
  subst hZ
  unfold w_X11_take at h
  show h_V X 5 0 [(0, pR (some o0)), (1, pI x1)] [] s 0 0
  refine v_iload_n hX dX11_take_0 1 rfl rfl ?_
  refine v_aload_n hX dX11_take_1 0 rfl rfl ?_
  obtain ⟨k1, h⟩ := h
  refine v_getR hX dX11_take_2 f_RX11_38 rfl k1 ?_
  obtain ⟨a2, e_a2, h⟩ := h
  refine v_nn0 e_a2 ?_
  obtain ⟨k3, h⟩ := h
  refine v_callVi0 hX dX11_take_5 c_RX11_244 cV_Jx4a65c_size_8abf5 (ci := 0) (T := TJx4a65c) (N := 3) rfl (by exact k3) [] rfl rfl (Nat.le_of_ble_eq_true rfl) (by decide) (by decide)  (m_Jx4a65c_size_8abf5 h) (fun p5 s4 h => ?_)
  refine v_callSi0 hX dX11_take_8 c_RX11_78 cS_X11_within [pI _, pI _] rfl rfl (Nat.le_of_ble_eq_true rfl) (by decide) (by decide)  (m_X11_within h) (fun p7 s6 h => ?_)
  refine v_if_ne (tgt := 16) hX dX11_take_11 (by decide) (fun c8 => ?_) (fun c8 => ?_)
  · have h := h_E c8 h
    refine v_aload_n hX dX11_take_16 0 rfl rfl ?_
    obtain ⟨k9, h⟩ := h
    refine v_getR hX dX11_take_17 f_RX11_38 rfl k9 ?_
    refine v_iload_n hX dX11_take_20 1 rfl rfl ?_
    obtain ⟨a10, e_a10, h⟩ := h
    refine v_nn1 e_a10 ?_
    obtain ⟨k11, h⟩ := h
    refine v_callVr0 hX dX11_take_21 c_RX11_312 cV_Jx4a65c_get_915e3 (ci := 0) (T := TJx4a65c) (N := 3) rfl (by exact k11) [pI _] rfl rfl (Nat.le_of_ble_eq_true rfl) (by decide) (by decide)  (m_Jx4a65c_get_915e3 h) (fun p13 s12 h => ?_)
    obtain ⟨b14, h⟩ := h
    refine v_cast (ci := 4) hX dX11_take_24 kl_RX11_382 rfl b14 ?_
    obtain ⟨a15, e_a15, h⟩ := h
    refine v_nn0 e_a15 ?_
    obtain ⟨k16, h⟩ := h
    refine v_callVi0 hX dX11_take_27 c_RX11_403 cV_X3_isThere (ci := 4) (T := TX3) (N := 10) rfl (by exact k16) [] rfl rfl (Nat.le_of_ble_eq_true rfl) (by decide) (by decide)  (m_X3_isThere h) (fun p18 s17 h => ?_)
    refine v_if_ne (tgt := 36) hX dX11_take_30 (by decide) (fun c19 => ?_) (fun c19 => ?_)
    · have h := h_E c19 h
      refine v_iconst (v := 0) hX dX11_take_36 (by decide) ?_
      refine v_istore_n (lv' := [(2, _), (0, _), (1, _)]) hX dX11_take_37 rfl (by decide) rfl ?_
      refine v_iconst (v := 0) hX dX11_take_38 (by decide) ?_
      refine v_istore_n (lv' := [(3, _), (2, _), (0, _), (1, _)]) hX dX11_take_39 rfl (by decide) rfl ?_
      refine v_pick [2, 3, 1, 0] rfl ?_
      obtain ⟨n, h⟩ := h
      exact b_X11_take_40 hX hE n _ _ _ _ _ h
    · have h := h_T c19 h
      refine v_bipush (v := -3) hX dX11_take_33 (by decide) ?_
      exact v_iret hX hE dX11_take_35 h
  · have h := h_T c8 h
    refine v_iconst (v := -1) hX dX11_take_14 (by decide) ?_
    exact v_iret hX hE dX11_take_15 h
set_option maxRecDepth 100000 in
set_option maxHeartbeats 4000000 in
theorem b_X11_ofRight_114 {X : h_X} (hX : h_ok X cX11_ofRight 4 RX11 3 64) {Q : Int32 → h_S → Prop} (hE : h_end X (some .int) (h_QI (x_Z X) Q)) {y0 : Int32} (s : h_S) (h : w_X11_ofRight_114 Q y0 s) : h_V X 4 114 [] [pI y0] s 0 0 := by
  unfold w_X11_ofRight_114 at h
  exact v_iret hX hE dX11_ofRight_114 h
set_option maxRecDepth 100000 in
set_option maxHeartbeats 4000000 in
theorem m_X11_ofRight {Z : h_Z} {o0 : Nat} {x1 : Int32} {x2 : Int32} {s : h_S} {Q : Int32 → h_S → Prop} (h : w_X11_ofRight o0 x1 x2 s Q) : h_M Z yX11_ofRight cX11_ofRight 4 (some .int) 3 64 [pR (some o0), pI x1, pI x2] s 0 0 (h_QI Z Q) := by
  refine h_M.of (by decide) (Nat.le_of_ble_eq_true rfl) (fun X hZ hX hE hI => ?_)
  subst hZ
  unfold w_X11_ofRight at h
  show h_V X 4 0 [(0, pR (some o0)), (1, pI x1), (2, pI x2)] [] s 0 0
  refine v_iload_n hX dX11_ofRight_0 1 rfl rfl ?_
  refine v_aload_n hX dX11_ofRight_1 0 rfl rfl ?_
  obtain ⟨k1, h⟩ := h
  refine v_getR hX dX11_ofRight_2 f_RX11_38 rfl k1 ?_
  obtain ⟨a2, e_a2, h⟩ := h
  refine v_nn0 e_a2 ?_
  obtain ⟨k3, h⟩ := h
  refine v_callVi0 hX dX11_ofRight_5 c_RX11_244 cV_Jx4a65c_size_8abf5 (ci := 0) (T := TJx4a65c) (N := 3) rfl (by exact k3) [] rfl rfl (Nat.le_of_ble_eq_true rfl) (by decide) (by decide)  (m_Jx4a65c_size_8abf5 h) (fun p5 s4 h => ?_)
  refine v_callSi0 hX dX11_ofRight_8 c_RX11_78 cS_X11_within [pI _, pI _] rfl rfl (Nat.le_of_ble_eq_true rfl) (by decide) (by decide)  (m_X11_within h) (fun p7 s6 h => ?_)
  refine v_if_ne (tgt := 16) hX dX11_ofRight_11 (by decide) (fun c8 => ?_) (fun c8 => ?_)
  · have h := h_E c8 h
    refine v_aload_n hX dX11_ofRight_16 0 rfl rfl ?_
    obtain ⟨k9, h⟩ := h
    refine v_getR hX dX11_ofRight_17 f_RX11_38 rfl k9 ?_
    refine v_iload_n hX dX11_ofRight_20 1 rfl rfl ?_
    obtain ⟨a10, e_a10, h⟩ := h
    refine v_nn1 e_a10 ?_
    obtain ⟨k11, h⟩ := h
    refine v_callVr0 hX dX11_ofRight_21 c_RX11_312 cV_Jx4a65c_get_915e3 (ci := 0) (T := TJx4a65c) (N := 3) rfl (by exact k11) [pI _] rfl rfl (Nat.le_of_ble_eq_true rfl) (by decide) (by decide)  (m_Jx4a65c_get_915e3 h) (fun p13 s12 h => ?_)
    obtain ⟨b14, h⟩ := h
    refine v_cast (ci := 4) hX dX11_ofRight_24 kl_RX11_382 rfl b14 ?_
    refine v_astore_n (lv' := [(3, _), (0, _), (1, _), (2, _)]) hX dX11_ofRight_27 rfl (by decide) rfl ?_
    refine v_iload_n hX dX11_ofRight_28 3 rfl rfl ?_
    refine v_gen (fun q39 e_q39 => ?_)
    rw [← e_q39] at h
    by_cases c15 : q39 = (0 : Int32)
    · have h := h_T c15 h
      refine v_tabIn (tgt := 72) hX dX11_ofRight_29 (by rw [c15]; decide) (by rw [c15]; decide) (by rw [c15]; rfl) (by decide) ?_
      refine v_aload_n hX dX11_ofRight_72 0 rfl rfl ?_
      obtain ⟨a16, e_a16, h⟩ := h
      refine v_nn0 e_a16 ?_
      obtain ⟨k17, h⟩ := h
      refine v_getI hX dX11_ofRight_73 f_RX11_398 rfl k17 ?_
      exact v_iret hX hE dX11_ofRight_76 h
    · have h := h_E c15 h
      by_cases c18 : q39 = (1 : Int32)
      · have h := h_T c18 h
        refine v_tabIn (tgt := 77) hX dX11_ofRight_29 (by rw [c18]; decide) (by rw [c18]; decide) (by rw [c18]; rfl) (by decide) ?_
        refine v_aload_n hX dX11_ofRight_77 0 rfl rfl ?_
        obtain ⟨a19, e_a19, h⟩ := h
        refine v_nn0 e_a19 ?_
        obtain ⟨k20, h⟩ := h
        refine v_getI hX dX11_ofRight_78 f_RX11_412 rfl k20 ?_
        exact v_iret hX hE dX11_ofRight_81 h
      · have h := h_E c18 h
        by_cases c21 : q39 = (2 : Int32)
        · have h := h_T c21 h
          refine v_tabIn (tgt := 82) hX dX11_ofRight_29 (by rw [c21]; decide) (by rw [c21]; decide) (by rw [c21]; rfl) (by decide) ?_
          refine v_aload_n hX dX11_ofRight_82 0 rfl rfl ?_
          obtain ⟨a22, e_a22, h⟩ := h
          refine v_nn0 e_a22 ?_
          obtain ⟨k23, h⟩ := h
          refine v_getI hX dX11_ofRight_83 f_RX11_415 rfl k23 ?_
          exact v_iret hX hE dX11_ofRight_86 h
        · have h := h_E c21 h
          by_cases c24 : q39 = (3 : Int32)
          · have h := h_T c24 h
            refine v_tabIn (tgt := 87) hX dX11_ofRight_29 (by rw [c24]; decide) (by rw [c24]; decide) (by rw [c24]; rfl) (by decide) ?_
            refine v_aload_n hX dX11_ofRight_87 0 rfl rfl ?_
            obtain ⟨a25, e_a25, h⟩ := h
            refine v_nn0 e_a25 ?_
            obtain ⟨k26, h⟩ := h
            refine v_getI hX dX11_ofRight_88 f_RX11_418 rfl k26 ?_
            exact v_iret hX hE dX11_ofRight_91 h
          · have h := h_E c24 h
            by_cases c27 : q39 = (4 : Int32)
            · have h := h_T c27 h
              refine v_tabIn (tgt := 92) hX dX11_ofRight_29 (by rw [c27]; decide) (by rw [c27]; decide) (by rw [c27]; rfl) (by decide) ?_
              refine v_aload_n hX dX11_ofRight_92 0 rfl rfl ?_
              obtain ⟨a28, e_a28, h⟩ := h
              refine v_nn0 e_a28 ?_
              obtain ⟨k29, h⟩ := h
              refine v_getI hX dX11_ofRight_93 f_RX11_421 rfl k29 ?_
              exact v_iret hX hE dX11_ofRight_96 h
            · have h := h_E c27 h
              by_cases c30 : q39 = (5 : Int32)
              · have h := h_T c30 h
                refine v_tabIn (tgt := 97) hX dX11_ofRight_29 (by rw [c30]; decide) (by rw [c30]; decide) (by rw [c30]; rfl) (by decide) ?_
                refine v_aload_n hX dX11_ofRight_97 0 rfl rfl ?_
                obtain ⟨a31, e_a31, h⟩ := h
                refine v_nn0 e_a31 ?_
                obtain ⟨k32, h⟩ := h
                refine v_getI hX dX11_ofRight_98 f_RX11_406 rfl k32 ?_
                exact v_iret hX hE dX11_ofRight_101 h
              · have h := h_E c30 h
                by_cases c33 : q39 = (6 : Int32)
                · have h := h_T c33 h
                  refine v_tabIn (tgt := 102) hX dX11_ofRight_29 (by rw [c33]; decide) (by rw [c33]; decide) (by rw [c33]; rfl) (by decide) ?_
                  refine v_aload_n hX dX11_ofRight_102 0 rfl rfl ?_
                  obtain ⟨a34, e_a34, h⟩ := h
                  refine v_nn0 e_a34 ?_
                  obtain ⟨k35, h⟩ := h
                  refine v_callVi0 hX dX11_ofRight_103 c_RX11_403 cV_X3_isThere (ci := 4) (T := TX3) (N := 10) rfl (by exact k35) [] rfl rfl (Nat.le_of_ble_eq_true rfl) (by decide) (by decide)  (m_X3_isThere h) (fun p37 s36 h => ?_)
                  refine v_if_eq (tgt := 113) hX dX11_ofRight_106 (by decide) (fun c38 => ?_) (fun c38 => ?_)
                  · have h := h_T c38 h
                    refine v_iconst (v := 0) hX dX11_ofRight_113 (by decide) ?_
                    refine v_pick [] rfl ?_
                    exact b_X11_ofRight_114 hX hE _ h
                  · have h := h_E c38 h
                    refine v_iconst (v := 1) hX dX11_ofRight_109 (by decide) ?_
                    refine v_goto (tgt := 114) hX dX11_ofRight_110 (by decide) ?_
                    refine v_pick [] rfl ?_
                    exact b_X11_ofRight_114 hX hE _ h
                · have h := h_E c33 h
                  refine v_tabOut (tgt := 115) hX dX11_ofRight_29 (by have := h_ti c15 (n := 0) rfl; have := h_ti c18 (n := 1) rfl; have := h_ti c21 (n := 2) rfl; have := h_ti c24 (n := 3) rfl; have := h_ti c27 (n := 4) rfl; have := h_ti c30 (n := 5) rfl; have := h_ti c33 (n := 6) rfl; omega) (by decide) ?_
                  refine v_bipush (v := -2) hX dX11_ofRight_115 (by decide) ?_
                  exact v_iret hX hE dX11_ofRight_117 h
  · have h := h_T c8 h
    refine v_iconst (v := -1) hX dX11_ofRight_14 (by decide) ?_
    exact v_iret hX hE dX11_ofRight_15 h
set_option maxRecDepth 100000 in
set_option maxHeartbeats 4000000 in
theorem b_X11_may_25 {X : h_X} (hX : h_ok X cX11_may 5 RX11 5 117) {Q : Int32 → h_S → Prop} (hE : h_end X (some .int) (h_QI (x_Z X) Q)) (s : h_S) (h : w_X11_may_25 Q s) : h_V X 5 25 [] [] s 0 0 := by
  unfold w_X11_may_25 at h
  refine v_iconst (v := -1) hX dX11_may_25 (by decide) ?_
  exact v_iret hX hE dX11_may_26 h
set_option maxRecDepth 100000 in
set_option maxHeartbeats 4000000 in
theorem b_X11_may_55 {X : h_X} (hX : h_ok X cX11_may 5 RX11 5 117) {Q : Int32 → h_S → Prop} (hE : h_end X (some .int) (h_QI (x_Z X) Q)) {y0 : Int32} (s : h_S) (h : w_X11_may_55 Q y0 s) : h_V X 5 55 [] [pI y0] s 0 0 := by
  unfold w_X11_may_55 at h
  exact v_iret hX hE dX11_may_55 h
set_option maxRecDepth 100000 in
set_option maxHeartbeats 4000000 in
theorem m_X11_may {Z : h_Z} {o0 : Nat} {x1 : Int32} {x2 : Int32} {x3 : Int32} {x4 : Int32} {s : h_S} {Q : Int32 → h_S → Prop} (h : w_X11_may o0 x1 x2 x3 x4 s Q) : h_M Z yX11_may cX11_may 5 (some .int) 5 117 [pR (some o0), pI x1, pI x2, pI x3, pI x4] s 0 0 (h_QI Z Q) := by
  refine h_M.of (by decide) (Nat.le_of_ble_eq_true rfl) (fun X hZ hX hE hI => ?_)
  subst hZ
  unfold w_X11_may at h
  show h_V X 5 0 [(0, pR (some o0)), (1, pI x1), (2, pI x2), (3, pI x3), (4, pI x4)] [] s 0 0
  refine v_aload_n hX dX11_may_0 0 rfl rfl ?_
  refine v_iload_n hX dX11_may_1 1 rfl rfl ?_
  obtain ⟨k1, h⟩ := h
  refine v_callVi0 hX dX11_may_2 c_RX11_89 cV_X11_isHand (ci := 12) (T := TX11) (N := 19) rfl (by exact k1) [pI _] rfl rfl (Nat.le_of_ble_eq_true rfl) (by decide) (by decide)  (m_X11_isHand h) (fun p3 s2 h => ?_)
  refine v_if_eq (tgt := 25) hX dX11_may_5 (by decide) (fun c4 => ?_) (fun c4 => ?_)
  · have h := h_T c4 h
    refine v_pick [] rfl ?_
    exact b_X11_may_25 hX hE _ h
  · have h := h_E c4 h
    refine v_aload_n hX dX11_may_8 0 rfl rfl ?_
    refine v_iload_n hX dX11_may_9 2 rfl rfl ?_
    obtain ⟨k5, h⟩ := h
    refine v_callVi0 hX dX11_may_10 c_RX11_150 cV_X11_isWriting (ci := 12) (T := TX11) (N := 19) rfl (by exact k5) [pI _] rfl rfl (Nat.le_of_ble_eq_true rfl) (by decide) (by decide)  (m_X11_isWriting h) (fun p7 s6 h => ?_)
    refine v_if_eq (tgt := 25) hX dX11_may_13 (by decide) (fun c8 => ?_) (fun c8 => ?_)
    · have h := h_T c8 h
      refine v_pick [] rfl ?_
      exact b_X11_may_25 hX hE _ h
    · have h := h_E c8 h
      refine v_aload_n hX dX11_may_16 0 rfl rfl ?_
      refine v_iload hX dX11_may_17 4 rfl ?_
      obtain ⟨k9, h⟩ := h
      refine v_callVi0 hX dX11_may_19 c_RX11_153 cV_X11_isMoment (ci := 12) (T := TX11) (N := 19) rfl (by exact k9) [pI _] rfl rfl (Nat.le_of_ble_eq_true rfl) (by decide) (by decide)  (m_X11_isMoment h) (fun p11 s10 h => ?_)
      refine v_if_ne (tgt := 27) hX dX11_may_22 (by decide) (fun c12 => ?_) (fun c12 => ?_)
      · have h := h_E c12 h
        refine v_iload_n hX dX11_may_27 3 rfl rfl ?_
        refine v_iconst (v := 3) hX dX11_may_28 (by decide) ?_
        refine v_callSi0 hX dX11_may_29 c_RX11_78 cS_X11_within [pI _, pI _] rfl rfl (Nat.le_of_ble_eq_true rfl) (by decide) (by decide)  (m_X11_within h) (fun p14 s13 h => ?_)
        refine v_if_ne (tgt := 38) hX dX11_may_32 (by decide) (fun c15 => ?_) (fun c15 => ?_)
        · have h := h_E c15 h
          refine v_aload_n hX dX11_may_38 0 rfl rfl ?_
          refine v_iload_n hX dX11_may_39 1 rfl rfl ?_
          refine v_iload_n hX dX11_may_40 2 rfl rfl ?_
          refine v_iload_n hX dX11_may_41 3 rfl rfl ?_
          refine v_iload hX dX11_may_42 4 rfl ?_
          obtain ⟨k16, h⟩ := h
          refine v_callVi0 hX dX11_may_44 c_RX11_159 cV_X11_mayUse (ci := 12) (T := TX11) (N := 19) rfl (by exact k16) [pI _, pI _, pI _, pI _] rfl rfl (Nat.le_of_ble_eq_true rfl) (by decide) (by decide)  (m_X11_mayUse h) (fun p18 s17 h => ?_)
          refine v_if_eq (tgt := 54) hX dX11_may_47 (by decide) (fun c19 => ?_) (fun c19 => ?_)
          · have h := h_T c19 h
            refine v_iconst (v := 0) hX dX11_may_54 (by decide) ?_
            refine v_pick [] rfl ?_
            exact b_X11_may_55 hX hE _ h
          · have h := h_E c19 h
            refine v_iconst (v := 1) hX dX11_may_50 (by decide) ?_
            refine v_goto (tgt := 55) hX dX11_may_51 (by decide) ?_
            refine v_pick [] rfl ?_
            exact b_X11_may_55 hX hE _ h
        · have h := h_T c15 h
          refine v_bipush (v := -2) hX dX11_may_35 (by decide) ?_
          exact v_iret hX hE dX11_may_37 h
      · have h := h_T c12 h
        refine v_pick [] rfl ?_
        exact b_X11_may_25 hX hE _ h
set_option maxRecDepth 100000 in
set_option maxHeartbeats 4000000 in
theorem b_X11_why_25 {X : h_X} (hX : h_ok X cX11_why 5 RX11 4 93) {Q : Int32 → h_S → Prop} (hE : h_end X (some .int) (h_QI (x_Z X) Q)) (s : h_S) (h : w_X11_why_25 Q s) : h_V X 5 25 [] [] s 0 0 := by
  unfold w_X11_why_25 at h
  refine v_iconst (v := -1) hX dX11_why_25 (by decide) ?_
  exact v_iret hX hE dX11_why_26 h
set_option maxRecDepth 100000 in
set_option maxHeartbeats 4000000 in
theorem m_X11_why {Z : h_Z} {o0 : Nat} {x1 : Int32} {x2 : Int32} {x3 : Int32} {x4 : Int32} {s : h_S} {Q : Int32 → h_S → Prop} (h : w_X11_why o0 x1 x2 x3 x4 s Q) : h_M Z yX11_why cX11_why 5 (some .int) 4 93 [pR (some o0), pI x1, pI x2, pI x3, pI x4] s 0 0 (h_QI Z Q) := by
  refine h_M.of (by decide) (Nat.le_of_ble_eq_true rfl) (fun X hZ hX hE hI => ?_)
  subst hZ
  unfold w_X11_why at h
  show h_V X 5 0 [(0, pR (some o0)), (1, pI x1), (2, pI x2), (3, pI x3), (4, pI x4)] [] s 0 0
  refine v_aload_n hX dX11_why_0 0 rfl rfl ?_
  refine v_iload_n hX dX11_why_1 1 rfl rfl ?_
  obtain ⟨k1, h⟩ := h
  refine v_callVi0 hX dX11_why_2 c_RX11_89 cV_X11_isHand (ci := 12) (T := TX11) (N := 19) rfl (by exact k1) [pI _] rfl rfl (Nat.le_of_ble_eq_true rfl) (by decide) (by decide)  (m_X11_isHand h) (fun p3 s2 h => ?_)
  refine v_if_eq (tgt := 25) hX dX11_why_5 (by decide) (fun c4 => ?_) (fun c4 => ?_)
  · have h := h_T c4 h
    refine v_pick [] rfl ?_
    exact b_X11_why_25 hX hE _ h
  · have h := h_E c4 h
    refine v_aload_n hX dX11_why_8 0 rfl rfl ?_
    refine v_iload_n hX dX11_why_9 2 rfl rfl ?_
    obtain ⟨k5, h⟩ := h
    refine v_callVi0 hX dX11_why_10 c_RX11_150 cV_X11_isWriting (ci := 12) (T := TX11) (N := 19) rfl (by exact k5) [pI _] rfl rfl (Nat.le_of_ble_eq_true rfl) (by decide) (by decide)  (m_X11_isWriting h) (fun p7 s6 h => ?_)
    refine v_if_eq (tgt := 25) hX dX11_why_13 (by decide) (fun c8 => ?_) (fun c8 => ?_)
    · have h := h_T c8 h
      refine v_pick [] rfl ?_
      exact b_X11_why_25 hX hE _ h
    · have h := h_E c8 h
      refine v_aload_n hX dX11_why_16 0 rfl rfl ?_
      refine v_iload hX dX11_why_17 4 rfl ?_
      obtain ⟨k9, h⟩ := h
      refine v_callVi0 hX dX11_why_19 c_RX11_153 cV_X11_isMoment (ci := 12) (T := TX11) (N := 19) rfl (by exact k9) [pI _] rfl rfl (Nat.le_of_ble_eq_true rfl) (by decide) (by decide)  (m_X11_isMoment h) (fun p11 s10 h => ?_)
      refine v_if_ne (tgt := 27) hX dX11_why_22 (by decide) (fun c12 => ?_) (fun c12 => ?_)
      · have h := h_E c12 h
        refine v_iload_n hX dX11_why_27 3 rfl rfl ?_
        refine v_iconst (v := 3) hX dX11_why_28 (by decide) ?_
        refine v_callSi0 hX dX11_why_29 c_RX11_78 cS_X11_within [pI _, pI _] rfl rfl (Nat.le_of_ble_eq_true rfl) (by decide) (by decide)  (m_X11_within h) (fun p14 s13 h => ?_)
        refine v_if_ne (tgt := 38) hX dX11_why_32 (by decide) (fun c15 => ?_) (fun c15 => ?_)
        · have h := h_E c15 h
          refine v_aload_n hX dX11_why_38 0 rfl rfl ?_
          refine v_iload_n hX dX11_why_39 1 rfl rfl ?_
          refine v_iload_n hX dX11_why_40 2 rfl rfl ?_
          refine v_iload_n hX dX11_why_41 3 rfl rfl ?_
          refine v_iload hX dX11_why_42 4 rfl ?_
          obtain ⟨k16, h⟩ := h
          refine v_callVi0 hX dX11_why_44 c_RX11_424 cV_X11_reason (ci := 12) (T := TX11) (N := 19) rfl (by exact k16) [pI _, pI _, pI _, pI _] rfl rfl (Nat.le_of_ble_eq_true rfl) (by decide) (by decide)  (m_X11_reason h) (fun p18 s17 h => ?_)
          exact v_iret hX hE dX11_why_47 h
        · have h := h_T c15 h
          refine v_bipush (v := -2) hX dX11_why_35 (by decide) ?_
          exact v_iret hX hE dX11_why_37 h
      · have h := h_T c12 h
        refine v_pick [] rfl ?_
        exact b_X11_why_25 hX hE _ h
set_option maxRecDepth 100000 in
set_option maxHeartbeats 4000000 in
theorem b_X11_openHomes_49 {X : h_X} (hX : h_ok X cX11_openHomes 5 RX11 6 142) {Q : Int32 → h_S → Prop} (hE : h_end X (some .int) (h_QI (x_Z X) Q)) {o0 : Nat} {x1 : Int32} {x3 : Int32} (s : h_S) (h : w_X11_openHomes_49 Q o0 x1 x3 s) : h_V X 5 49 [(0, pR (some o0)), (1, pI x1), (3, pI x3)] [] s 0 0 := by
  unfold w_X11_openHomes_49 at h
  refine v_aload_n hX dX11_openHomes_49 0 rfl rfl ?_
  refine v_iload_n hX dX11_openHomes_50 1 rfl rfl ?_
  refine v_iconst (v := 0) hX dX11_openHomes_51 (by decide) ?_
  refine v_iload_n hX dX11_openHomes_52 2 rfl rfl ?_
  obtain ⟨k1, h⟩ := h
  refine v_callVi0 hX dX11_openHomes_53 c_RX11_142 cV_X11_usable (ci := 12) (T := TX11) (N := 19) rfl (by exact k1) [pI _, pI _, pI _] rfl rfl (Nat.le_of_ble_eq_true rfl) (by decide) (by decide)  (m_X11_usable h) (fun p3 s2 h => ?_)
  exact v_iret hX hE dX11_openHomes_56 h
set_option maxRecDepth 100000 in
set_option maxHeartbeats 4000000 in
theorem b_X11_openHomes_57 {X : h_X} (hX : h_ok X cX11_openHomes 5 RX11 6 142) {Q : Int32 → h_S → Prop} (hE : h_end X (some .int) (h_QI (x_Z X) Q)) (s : h_S) (h : w_X11_openHomes_57 Q s) : h_V X 5 57 [] [] s 0 0 := by
  unfold w_X11_openHomes_57 at h
  refine v_iconst (v := 0) hX dX11_openHomes_57 (by decide) ?_
  exact v_iret hX hE dX11_openHomes_58 h
set_option maxRecDepth 100000 in
set_option maxHeartbeats 4000000 in
theorem b_X11_openHomes_20 {X : h_X} (hX : h_ok X cX11_openHomes 5 RX11 6 142) {Q : Int32 → h_S → Prop} (hE : h_end X (some .int) (h_QI (x_Z X) Q)) {o0 : Nat} {x1 : Int32} {r2 : Option Nat} {x3 : Int32} {y0 : Int32} (s : h_S) (h : w_X11_openHomes_20 Q o0 x1 r2 x3 y0 s) : h_V X 5 20 [(0, pR (some o0)), (1, pI x1), (2, pR r2), (3, pI x3)] [pI y0] s 0 0 := by
  unfold w_X11_openHomes_20 at h
  refine v_istore (lv' := [(4, _), (0, _), (1, _), (2, _), (3, _)]) hX dX11_openHomes_20 (by decide) rfl ?_
  refine v_iload hX dX11_openHomes_22 0 rfl ?_
  refine v_if_ne (tgt := 49) hX dX11_openHomes_24 (by decide) (fun c1 => ?_) (fun c1 => ?_)
  · have h := h_E c1 h
    refine v_pick [1, 2, 4] rfl ?_
    exact b_X11_openHomes_49 hX hE _ h
  · have h := h_T c1 h
    refine v_aload_n hX dX11_openHomes_27 3 rfl rfl ?_
    refine v_iload_n hX dX11_openHomes_28 4 rfl rfl ?_
    obtain ⟨a2, e_a2, h⟩ := h
    refine v_nn1 e_a2 ?_
    obtain ⟨k3, h⟩ := h
    refine v_callVi0 hX dX11_openHomes_29 c_RX11_549 cV_X8_isGivenAt (ci := 9) (T := TX8) (N := 5) rfl (by exact k3) [pI _] rfl rfl (Nat.le_of_ble_eq_true rfl) (by decide) (by decide)  (m_X8_isGivenAt h) (fun p5 s4 h => ?_)
    refine v_if_eq (tgt := 57) hX dX11_openHomes_32 (by decide) (fun c6 => ?_) (fun c6 => ?_)
    · have h := h_T c6 h
      refine v_pick [] rfl ?_
      exact b_X11_openHomes_57 hX hE _ h
    · have h := h_E c6 h
      refine v_aload_n hX dX11_openHomes_35 1 rfl rfl ?_
      refine v_iload_n hX dX11_openHomes_36 2 rfl rfl ?_
      refine v_aload_n hX dX11_openHomes_37 3 rfl rfl ?_
      obtain ⟨a7, e_a7, h⟩ := h
      refine v_nn0 e_a7 ?_
      obtain ⟨k8, h⟩ := h
      refine v_getI hX dX11_openHomes_38 f_RX11_274 rfl k8 ?_
      refine v_iconst (v := 0) hX dX11_openHomes_41 (by decide) ?_
      refine v_iload_n hX dX11_openHomes_42 4 rfl rfl ?_
      obtain ⟨k9, h⟩ := h
      refine v_callVi0 hX dX11_openHomes_43 c_RX11_159 cV_X11_mayUse (ci := 12) (T := TX11) (N := 19) rfl (by exact k9) [pI _, pI _, pI _, pI _] rfl rfl (Nat.le_of_ble_eq_true rfl) (by decide) (by decide)  (m_X11_mayUse h) (fun p11 s10 h => ?_)
      refine v_if_eq (tgt := 57) hX dX11_openHomes_46 (by decide) (fun c12 => ?_) (fun c12 => ?_)
      · have h := h_T c12 h
        refine v_pick [] rfl ?_
        exact b_X11_openHomes_57 hX hE _ h
      · have h := h_E c12 h
        refine v_pick [1, 2, 4] rfl ?_
        exact b_X11_openHomes_49 hX hE _ h
set_option maxRecDepth 100000 in
set_option maxHeartbeats 4000000 in
theorem m_X11_openHomes {Z : h_Z} {o0 : Nat} {x1 : Int32} {r2 : Option Nat} {x3 : Int32} {s : h_S} {Q : Int32 → h_S → Prop} (h : w_X11_openHomes o0 x1 r2 x3 s Q) : h_M Z yX11_openHomes cX11_openHomes 5 (some .int) 6 142 [pR (some o0), pI x1, pR r2, pI x3] s 0 0 (h_QI Z Q) := by
  refine h_M.of (by decide) (Nat.le_of_ble_eq_true rfl) (fun X hZ hX hE hI => ?_)
  subst hZ
  unfold w_X11_openHomes at h
  show h_V X 5 0 [(0, pR (some o0)), (1, pI x1), (2, pR r2), (3, pI x3)] [] s 0 0
  refine v_aload_n hX dX11_openHomes_0 0 rfl rfl ?_
  obtain ⟨k1, h⟩ := h
  refine v_getR hX dX11_openHomes_1 f_RX11_21 rfl k1 ?_
  refine v_aload_n hX dX11_openHomes_4 2 rfl rfl ?_
  obtain ⟨a2, e_a2, h⟩ := h
  refine v_nn0 e_a2 ?_
  obtain ⟨k3, h⟩ := h
  refine v_getI hX dX11_openHomes_5 f_RX11_274 rfl k3 ?_
  obtain ⟨a4, e_a4, h⟩ := h
  refine v_nn1 e_a4 ?_
  obtain ⟨k5, h⟩ := h
  refine v_callVi0 hX dX11_openHomes_8 c_RX11_139 cV_X7_ownerOf (ci := 8) (T := TX7) (N := 13) rfl (by exact k5) [pI _] rfl rfl (Nat.le_of_ble_eq_true rfl) (by decide) (by decide)  (m_X7_ownerOf h) (fun p7 s6 h => ?_)
  refine v_iload_n hX dX11_openHomes_11 1 rfl rfl ?_
  refine v_icmp_ne (tgt := 19) hX dX11_openHomes_12 (by decide) (fun c8 => ?_) (fun c8 => ?_)
  · have h := h_E c8 h
    refine v_iconst (v := 0) hX dX11_openHomes_19 (by decide) ?_
    refine v_pick [0, 1, 2, 3] rfl ?_
    exact b_X11_openHomes_20 hX hE _ h
  · have h := h_T c8 h
    refine v_iconst (v := 1) hX dX11_openHomes_15 (by decide) ?_
    refine v_goto (tgt := 20) hX dX11_openHomes_16 (by decide) ?_
    refine v_pick [0, 1, 2, 3] rfl ?_
    exact b_X11_openHomes_20 hX hE _ h
set_option maxRecDepth 100000 in
set_option maxHeartbeats 4000000 in
theorem b_X11_view_42 {X : h_X} (hX : h_ok X cX11_view 8 RX11 7 166) {Q : Int32 → h_S → Prop} (hE : h_end X (some .int) (h_QI (x_Z X) Q)) (s : h_S) (h : w_X11_view_42 Q s) : h_V X 8 42 [] [] s 0 0 := by
  unfold w_X11_view_42 at h
  refine v_iconst (v := -1) hX dX11_view_42 (by decide) ?_
  exact v_iret hX hE dX11_view_43 h
set_option maxRecDepth 100000 in
set_option maxHeartbeats 4000000 in
theorem b_X11_view_98 {X : h_X} (hX : h_ok X cX11_view 8 RX11 7 166) {Q : Int32 → h_S → Prop} (hE : h_end X (some .int) (h_QI (x_Z X) Q)) {y0 : Int32} (s : h_S) (h : w_X11_view_98 Q y0 s) : h_V X 8 98 [] [pI y0] s 0 0 := by
  unfold w_X11_view_98 at h
  exact v_iret hX hE dX11_view_98 h
set_option maxRecDepth 100000 in
set_option maxHeartbeats 4000000 in
theorem m_X11_view {Z : h_Z} {o0 : Nat} {x1 : Int32} {x2 : Int32} {x3 : Int32} {x4 : Int32} {s : h_S} {Q : Int32 → h_S → Prop} (h : w_X11_view o0 x1 x2 x3 x4 s Q) : h_M Z yX11_view cX11_view 8 (some .int) 7 166 [pR (some o0), pI x1, pI x2, pI x3, pI x4] s 0 0 (h_QI Z Q) := by
  refine h_M.of (by decide) (Nat.le_of_ble_eq_true rfl) (fun X hZ hX hE hI => ?_)
  subst hZ
  unfold w_X11_view at h
  show h_V X 8 0 [(0, pR (some o0)), (1, pI x1), (2, pI x2), (3, pI x3), (4, pI x4)] [] s 0 0
  refine v_aload_n hX dX11_view_0 0 rfl rfl ?_
  refine v_iload_n hX dX11_view_1 2 rfl rfl ?_
  obtain ⟨k1, h⟩ := h
  refine v_callVr0 hX dX11_view_2 c_RX11_261 cV_X11_versionAt (ci := 12) (T := TX11) (N := 19) rfl (by exact k1) [pI _] rfl rfl (Nat.le_of_ble_eq_true rfl) (by decide) (by decide)  (m_X11_versionAt h) (fun p3 s2 h => ?_)
  refine v_astore (lv' := [(5, _), (0, _), (1, _), (2, _), (3, _), (4, _)]) hX dX11_view_5 (by decide) rfl ?_
  refine v_aload_n hX dX11_view_7 1 rfl rfl ?_
  refine v_iload_n hX dX11_view_8 2 rfl rfl ?_
  obtain ⟨k4, h⟩ := h
  refine v_callVi0 hX dX11_view_9 c_RX11_89 cV_X11_isHand (ci := 12) (T := TX11) (N := 19) rfl (by exact k4) [pI _] rfl rfl (Nat.le_of_ble_eq_true rfl) (by decide) (by decide)  (m_X11_isHand h) (fun p6 s5 h => ?_)
  refine v_if_eq (tgt := 42) hX dX11_view_12 (by decide) (fun c7 => ?_) (fun c7 => ?_)
  · have h := h_T c7 h
    refine v_pick [] rfl ?_
    exact b_X11_view_42 hX hE _ h
  · have h := h_E c7 h
    refine v_aload hX dX11_view_15 0 rfl ?_
    refine v_ifnull (tgt := 42) hX dX11_view_17 (by decide) (fun c8 => ?_) (fun c8 => ?_)
    · have h := h_T c8 h
      refine v_pick [] rfl ?_
      exact b_X11_view_42 hX hE _ h
    · have h := h_E c8 h
      refine v_iload_n hX dX11_view_20 4 rfl rfl ?_
      refine v_aload hX dX11_view_21 0 rfl ?_
      obtain ⟨a9, e_a9, h⟩ := h
      refine v_nn0 e_a9 ?_
      obtain ⟨k10, h⟩ := h
      refine v_getR hX dX11_view_23 f_RX11_270 rfl k10 ?_
      obtain ⟨a11, e_a11, h⟩ := h
      refine v_nn0 e_a11 ?_
      obtain ⟨k12, h⟩ := h
      refine v_alenK hX dX11_view_26 (k := 1) rfl (by decide) (by decide) k12 ?_
      refine v_callSi0 hX dX11_view_27 c_RX11_78 cS_X11_within [pI _, pI _] rfl rfl (Nat.le_of_ble_eq_true rfl) (by decide) (by decide)  (m_X11_within h) (fun p14 s13 h => ?_)
      refine v_if_eq (tgt := 42) hX dX11_view_30 (by decide) (fun c15 => ?_) (fun c15 => ?_)
      · have h := h_T c15 h
        refine v_pick [] rfl ?_
        exact b_X11_view_42 hX hE _ h
      · have h := h_E c15 h
        refine v_aload_n hX dX11_view_33 1 rfl rfl ?_
        refine v_iload hX dX11_view_34 5 rfl ?_
        obtain ⟨k16, h⟩ := h
        refine v_callVi0 hX dX11_view_36 c_RX11_153 cV_X11_isMoment (ci := 12) (T := TX11) (N := 19) rfl (by exact k16) [pI _] rfl rfl (Nat.le_of_ble_eq_true rfl) (by decide) (by decide)  (m_X11_isMoment h) (fun p18 s17 h => ?_)
        refine v_if_ne (tgt := 44) hX dX11_view_39 (by decide) (fun c19 => ?_) (fun c19 => ?_)
        · have h := h_E c19 h
          refine v_iload hX dX11_view_44 5 rfl ?_
          refine v_aload hX dX11_view_46 0 rfl ?_
          obtain ⟨a20, e_a20, h⟩ := h
          refine v_nn0 e_a20 ?_
          obtain ⟨k21, h⟩ := h
          refine v_getI hX dX11_view_48 f_RX11_277 rfl k21 ?_
          refine v_icmp_ge (tgt := 57) hX dX11_view_51 (by decide) (fun c22 => ?_) (fun c22 => ?_)
          · have h := h_T c22 h
            refine v_aload_n hX dX11_view_57 1 rfl rfl ?_
            refine v_iload_n hX dX11_view_58 2 rfl rfl ?_
            refine v_aload hX dX11_view_59 0 rfl ?_
            refine v_iload hX dX11_view_61 5 rfl ?_
            obtain ⟨k23, h⟩ := h
            refine v_callVi0 hX dX11_view_63 c_RX11_427 cV_X11_openHomes (ci := 12) (T := TX11) (N := 19) rfl (by exact k23) [pI _, pR _, pI _] rfl rfl (Nat.le_of_ble_eq_true rfl) (by decide) (by decide)  (m_X11_openHomes h) (fun p25 s24 h => ?_)
            refine v_istore (lv' := [(6, _), (5, _), (0, _), (1, _), (2, _), (3, _), (4, _)]) hX dX11_view_66 (by decide) rfl ?_
            refine v_aload hX dX11_view_68 1 rfl ?_
            obtain ⟨a26, e_a26, h⟩ := h
            refine v_nn0 e_a26 ?_
            obtain ⟨k27, h⟩ := h
            refine v_getR hX dX11_view_70 f_RX11_270 rfl k27 ?_
            refine v_iload_n hX dX11_view_73 5 rfl rfl ?_
            obtain ⟨a28, e_a28, h⟩ := h
            refine v_nn1 e_a28 ?_
            obtain ⟨k29, h⟩ := h
            obtain ⟨i30, h⟩ := h
            refine v_iald hX dX11_view_74 k29 i30 ?_
            refine v_istore (lv' := [(7, _), (6, _), (5, _), (0, _), (1, _), (2, _), (3, _), (4, _)]) hX dX11_view_75 (by decide) rfl ?_
            refine v_aload_n hX dX11_view_77 3 rfl rfl ?_
            obtain ⟨k31, h⟩ := h
            refine v_getR hX dX11_view_78 f_RX11_21 rfl k31 ?_
            refine v_iload hX dX11_view_81 0 rfl ?_
            refine v_iload hX dX11_view_83 1 rfl ?_
            obtain ⟨a32, e_a32, h⟩ := h
            refine v_nn2 e_a32 ?_
            obtain ⟨k33, h⟩ := h
            refine v_callVi0 hX dX11_view_85 c_RX11_431 cV_X7_isIn (ci := 8) (T := TX7) (N := 13) rfl (by exact k33) [pI _, pI _] rfl rfl (Nat.le_of_ble_eq_true rfl) (by decide) (by decide)  (m_X7_isIn h) (fun p35 s34 h => ?_)
            refine v_if_eq (tgt := 96) hX dX11_view_88 (by decide) (fun c36 => ?_) (fun c36 => ?_)
            · have h := h_T c36 h
              refine v_bipush (v := -7) hX dX11_view_96 (by decide) ?_
              refine v_pick [] rfl ?_
              exact b_X11_view_98 hX hE _ h
            · have h := h_E c36 h
              refine v_iload hX dX11_view_91 0 rfl ?_
              refine v_goto (tgt := 98) hX dX11_view_93 (by decide) ?_
              refine v_pick [] rfl ?_
              exact b_X11_view_98 hX hE _ h
          · have h := h_E c22 h
            refine v_bipush (v := -3) hX dX11_view_54 (by decide) ?_
            exact v_iret hX hE dX11_view_56 h
        · have h := h_T c19 h
          refine v_pick [] rfl ?_
          exact b_X11_view_42 hX hE _ h
set_option maxRecDepth 100000 in
set_option maxHeartbeats 4000000 in
theorem b_X11_rule_18 {X : h_X} (hX : h_ok X cX11_rule 4 RX11 2 43) {Q : Int32 → h_S → Prop} (hE : h_end X (some .int) (h_QI (x_Z X) Q)) (s : h_S) (h : w_X11_rule_18 Q s) : h_V X 4 18 [] [] s 0 0 := by
  unfold w_X11_rule_18 at h
  refine v_bipush (v := -2) hX dX11_rule_18 (by decide) ?_
  exact v_iret hX hE dX11_rule_20 h
set_option maxRecDepth 100000 in
set_option maxHeartbeats 4000000 in
theorem m_X11_rule {Z : h_Z} {o0 : Nat} {x1 : Int32} {x2 : Int32} {s : h_S} {Q : Int32 → h_S → Prop} (h : w_X11_rule o0 x1 x2 s Q) : h_M Z yX11_rule cX11_rule 4 (some .int) 2 43 [pR (some o0), pI x1, pI x2] s 0 0 (h_QI Z Q) := by
  refine h_M.of (by decide) (Nat.le_of_ble_eq_true rfl) (fun X hZ hX hE hI => ?_)
  subst hZ
  unfold w_X11_rule at h
  show h_V X 4 0 [(0, pR (some o0)), (1, pI x1), (2, pI x2)] [] s 0 0
  refine v_iload_n hX dX11_rule_0 1 rfl rfl ?_
  refine v_bipush (v := 100) hX dX11_rule_1 (by decide) ?_
  refine v_callSi0 hX dX11_rule_3 c_RX11_78 cS_X11_within [pI _, pI _] rfl rfl (Nat.le_of_ble_eq_true rfl) (by decide) (by decide)  (m_X11_within h) (fun p2 s1 h => ?_)
  refine v_if_eq (tgt := 18) hX dX11_rule_6 (by decide) (fun c3 => ?_) (fun c3 => ?_)
  · have h := h_T c3 h
    refine v_pick [] rfl ?_
    exact b_X11_rule_18 hX hE _ h
  · have h := h_E c3 h
    refine v_iload_n hX dX11_rule_9 2 rfl rfl ?_
    refine v_bipush (v := 11) hX dX11_rule_10 (by decide) ?_
    refine v_callSi0 hX dX11_rule_12 c_RX11_78 cS_X11_within [pI _, pI _] rfl rfl (Nat.le_of_ble_eq_true rfl) (by decide) (by decide)  (m_X11_within h) (fun p5 s4 h => ?_)
    refine v_if_ne (tgt := 21) hX dX11_rule_15 (by decide) (fun c6 => ?_) (fun c6 => ?_)
    · have h := h_E c6 h
      refine v_aload_n hX dX11_rule_21 0 rfl rfl ?_
      obtain ⟨k7, h⟩ := h
      refine v_getI hX dX11_rule_22 f_RX11_57 rfl k7 ?_
      refine v_istore_n (lv' := [(3, _), (0, _), (1, _), (2, _)]) hX dX11_rule_25 rfl (by decide) rfl ?_
      refine v_aload_n hX dX11_rule_26 1 rfl rfl ?_
      refine v_bipush (v := 100) hX dX11_rule_27 (by decide) ?_
      refine v_iload_n hX dX11_rule_29 2 rfl rfl ?_
      refine v_imul hX dX11_rule_30 ?_
      refine v_iload_n hX dX11_rule_31 3 rfl rfl ?_
      refine v_iadd hX dX11_rule_32 ?_
      refine v_putI hX dX11_rule_33 f_RX11_57 k7 ?_
      refine v_aload_n hX dX11_rule_36 1 rfl rfl ?_
      refine v_iload_n hX dX11_rule_37 0 rfl rfl ?_
      refine v_callVi0 hX dX11_rule_38 c_RX11_74 cV_X11_acted (ci := 12) (T := TX11) (N := 19) rfl (by exact k7) [pI _] rfl rfl (Nat.le_of_ble_eq_true rfl) (by decide) (by decide)  (m_X11_acted h) (fun p10 s9 h => ?_)
      exact v_iret hX hE dX11_rule_41 h
    · have h := h_T c6 h
      refine v_pick [] rfl ?_
      exact b_X11_rule_18 hX hE _ h
set_option maxRecDepth 100000 in
set_option maxHeartbeats 4000000 in
theorem b_X11_owe_21 {X : h_X} (hX : h_ok X cX11_owe 6 RX11 2 42) {Q : Int32 → h_S → Prop} (hE : h_end X (some .int) (h_QI (x_Z X) Q)) (s : h_S) (h : w_X11_owe_21 Q s) : h_V X 6 21 [] [] s 0 0 := by
  unfold w_X11_owe_21 at h
  refine v_iconst (v := 0) hX dX11_owe_21 (by decide) ?_
  exact v_iret hX hE dX11_owe_22 h
set_option maxRecDepth 100000 in
set_option maxHeartbeats 4000000 in
theorem b_X11_owe_59 {X : h_X} (hX : h_ok X cX11_owe 6 RX11 2 42) {Q : Int32 → h_S → Prop} (hE : h_end X (some .int) (h_QI (x_Z X) Q)) {o0 : Nat} {x1 : Int32} {x2 : Int32} {x3 : Int32} {x4 : Int32} {y0 : Int32} (s : h_S) (h : w_X11_owe_59 Q o0 x1 x2 x3 x4 y0 s) : h_V X 6 59 [(0, pR (some o0)), (1, pI x1), (2, pI x2), (3, pI x3), (4, pI x4)] [pI y0] s 0 0 := by
  unfold w_X11_owe_59 at h
  refine v_istore (lv' := [(5, _), (0, _), (1, _), (2, _), (3, _), (4, _)]) hX dX11_owe_59 (by decide) rfl ?_
  refine v_aload_n hX dX11_owe_61 1 rfl rfl ?_
  obtain ⟨k1, h⟩ := h
  refine v_getR hX dX11_owe_62 f_RX11_54 rfl k1 ?_
  refine v_iload_n hX dX11_owe_65 2 rfl rfl ?_
  refine v_bipush (v := 8) hX dX11_owe_66 (by decide) ?_
  refine v_imul hX dX11_owe_68 ?_
  refine v_iload_n hX dX11_owe_69 3 rfl rfl ?_
  refine v_iadd hX dX11_owe_70 ?_
  refine v_dup2 hX dX11_owe_71 rfl rfl ?_
  obtain ⟨a2, e_a2, h⟩ := h
  refine v_nn1 e_a2 ?_
  obtain ⟨k3, h⟩ := h
  obtain ⟨i4, h⟩ := h
  refine v_iald hX dX11_owe_72 k3 i4 ?_
  refine v_iload hX dX11_owe_73 0 rfl ?_
  refine v_iadd hX dX11_owe_75 ?_
  obtain ⟨a5, e_a5, h⟩ := h
  refine v_nn2 e_a5 ?_
  obtain ⟨k6, h⟩ := h
  obtain ⟨i7, h⟩ := h
  refine v_iast hX dX11_owe_76 k6 i7 ?_
  refine v_aload_n hX dX11_owe_77 1 rfl rfl ?_
  refine v_getR hX dX11_owe_78 f_RX11_54 rfl k1 ?_
  refine v_iload_n hX dX11_owe_81 2 rfl rfl ?_
  refine v_bipush (v := 8) hX dX11_owe_82 (by decide) ?_
  refine v_imul hX dX11_owe_84 ?_
  refine v_iload_n hX dX11_owe_85 4 rfl rfl ?_
  refine v_iadd hX dX11_owe_86 ?_
  refine v_dup2 hX dX11_owe_87 rfl rfl ?_
  obtain ⟨a9, e_a9, h⟩ := h
  refine v_nn1 e_a9 ?_
  obtain ⟨k10, h⟩ := h
  obtain ⟨i11, h⟩ := h
  refine v_iald hX dX11_owe_88 k10 i11 ?_
  refine v_iload hX dX11_owe_89 5 rfl ?_
  refine v_iload hX dX11_owe_91 0 rfl ?_
  refine v_isub hX dX11_owe_93 ?_
  refine v_iadd hX dX11_owe_94 ?_
  obtain ⟨a12, e_a12, h⟩ := h
  refine v_nn2 e_a12 ?_
  obtain ⟨k13, h⟩ := h
  obtain ⟨i14, h⟩ := h
  refine v_iast hX dX11_owe_95 k13 i14 ?_
  refine v_iload hX dX11_owe_96 5 rfl ?_
  exact v_iret hX hE dX11_owe_98 h
set_option maxRecDepth 100000 in
set_option maxHeartbeats 4000000 in
theorem b_X11_owe_42 {X : h_X} (hX : h_ok X cX11_owe 6 RX11 2 42) {Q : Int32 → h_S → Prop} (hE : h_end X (some .int) (h_QI (x_Z X) Q)) {o0 : Nat} {x1 : Int32} {x2 : Int32} {x3 : Int32} {x4 : Int32} (s : h_S) (h : w_X11_owe_42 Q o0 x1 x2 x3 x4 s) : h_V X 6 42 [(0, pR (some o0)), (1, pI x1), (2, pI x2), (3, pI x3), (4, pI x4)] [] s 0 0 := by
  unfold w_X11_owe_42 at h
  refine v_iconst (v := 0) hX dX11_owe_42 (by decide) ?_
  refine v_goto (tgt := 59) hX dX11_owe_43 (by decide) ?_
  refine v_pick [0, 1, 2, 3, 4] rfl ?_
  exact b_X11_owe_59 hX hE _ h
set_option maxRecDepth 100000 in
set_option maxHeartbeats 4000000 in
theorem m_X11_owe {Z : h_Z} {o0 : Nat} {x1 : Int32} {x2 : Int32} {x3 : Int32} {s : h_S} {Q : Int32 → h_S → Prop} (h : w_X11_owe o0 x1 x2 x3 s Q) : h_M Z yX11_owe cX11_owe 6 (some .int) 2 42 [pR (some o0), pI x1, pI x2, pI x3] s 0 0 (h_QI Z Q) := by
  refine h_M.of (by decide) (Nat.le_of_ble_eq_true rfl) (fun X hZ hX hE hI => ?_)
  subst hZ
  unfold w_X11_owe at h
  show h_V X 6 0 [(0, pR (some o0)), (1, pI x1), (2, pI x2), (3, pI x3)] [] s 0 0
  refine v_iload_n hX dX11_owe_0 3 rfl rfl ?_
  refine v_iload_n hX dX11_owe_1 1 rfl rfl ?_
  refine v_icmp_eq (tgt := 21) hX dX11_owe_2 (by decide) (fun c1 => ?_) (fun c1 => ?_)
  · have h := h_T c1 h
    refine v_pick [] rfl ?_
    exact b_X11_owe_21 hX hE _ h
  · have h := h_E c1 h
    refine v_aload_n hX dX11_owe_5 0 rfl rfl ?_
    refine v_iload_n hX dX11_owe_6 3 rfl rfl ?_
    obtain ⟨k2, h⟩ := h
    refine v_callVi0 hX dX11_owe_7 c_RX11_89 cV_X11_isHand (ci := 12) (T := TX11) (N := 19) rfl (by exact k2) [pI _] rfl rfl (Nat.le_of_ble_eq_true rfl) (by decide) (by decide)  (m_X11_isHand h) (fun p4 s3 h => ?_)
    refine v_if_eq (tgt := 21) hX dX11_owe_10 (by decide) (fun c5 => ?_) (fun c5 => ?_)
    · have h := h_T c5 h
      refine v_pick [] rfl ?_
      exact b_X11_owe_21 hX hE _ h
    · have h := h_E c5 h
      refine v_aload_n hX dX11_owe_13 0 rfl rfl ?_
      refine v_iload_n hX dX11_owe_14 2 rfl rfl ?_
      obtain ⟨k6, h⟩ := h
      refine v_callVi0 hX dX11_owe_15 c_RX11_89 cV_X11_isHand (ci := 12) (T := TX11) (N := 19) rfl (by exact k6) [pI _] rfl rfl (Nat.le_of_ble_eq_true rfl) (by decide) (by decide)  (m_X11_isHand h) (fun p8 s7 h => ?_)
      refine v_if_ne (tgt := 23) hX dX11_owe_18 (by decide) (fun c9 => ?_) (fun c9 => ?_)
      · have h := h_E c9 h
        refine v_aload_n hX dX11_owe_23 0 rfl rfl ?_
        obtain ⟨k10, h⟩ := h
        refine v_getI hX dX11_owe_24 f_RX11_57 rfl k10 ?_
        refine v_bipush (v := 100) hX dX11_owe_27 (by decide) ?_
        have z11 : ¬ (100 : Int32) = 0 := by decide
        refine v_idiv hX dX11_owe_29 z11 ?_
        refine v_istore (lv' := [(4, _), (0, _), (1, _), (2, _), (3, _)]) hX dX11_owe_30 (by decide) rfl ?_
        refine v_iload_n hX dX11_owe_32 3 rfl rfl ?_
        refine v_iload_n hX dX11_owe_33 4 rfl rfl ?_
        refine v_icmp_eq (tgt := 42) hX dX11_owe_34 (by decide) (fun c13 => ?_) (fun c13 => ?_)
        · have h := h_T c13 h
          refine v_pick [1, 2, 3, 4, 0] rfl ?_
          exact b_X11_owe_42 hX hE _ h
        · have h := h_E c13 h
          refine v_iload_n hX dX11_owe_37 3 rfl rfl ?_
          refine v_iload_n hX dX11_owe_38 2 rfl rfl ?_
          refine v_icmp_ne (tgt := 46) hX dX11_owe_39 (by decide) (fun c14 => ?_) (fun c14 => ?_)
          · have h := h_E c14 h
            refine v_iload hX dX11_owe_46 0 rfl ?_
            refine v_aload_n hX dX11_owe_48 1 rfl rfl ?_
            refine v_getI hX dX11_owe_49 f_RX11_57 rfl k10 ?_
            refine v_bipush (v := 100) hX dX11_owe_52 (by decide) ?_
            have z15 : ¬ (100 : Int32) = 0 := by decide
            refine v_irem hX dX11_owe_54 z15 ?_
            refine v_imul hX dX11_owe_55 ?_
            refine v_bipush (v := 10) hX dX11_owe_56 (by decide) ?_
            have z16 : ¬ (10 : Int32) = 0 := by decide
            refine v_idiv hX dX11_owe_58 z16 ?_
            refine v_pick [1, 2, 3, 4, 0] rfl ?_
            exact b_X11_owe_59 hX hE _ h
          · have h := h_T c14 h
            refine v_pick [1, 2, 3, 4, 0] rfl ?_
            exact b_X11_owe_42 hX hE _ h
      · have h := h_T c9 h
        refine v_pick [] rfl ?_
        exact b_X11_owe_21 hX hE _ h
set_option maxRecDepth 100000 in
set_option maxHeartbeats 4000000 in
theorem b_X11_read_18 {X : h_X} (hX : h_ok X cX11_read 11 RX11 7 166) {Q : Int32 → h_S → Prop} (hE : h_end X (some .int) (h_QI (x_Z X) Q)) (s : h_S) (h : w_X11_read_18 Q s) : h_V X 11 18 [] [] s 0 0 := by
  unfold w_X11_read_18 at h
  refine v_iconst (v := -1) hX dX11_read_18 (by decide) ?_
  exact v_iret hX hE dX11_read_19 h
set_option maxRecDepth 100000 in
set_option maxHeartbeats 4000000 in
theorem b_X11_read_113 {X : h_X} (hX : h_ok X cX11_read 11 RX11 7 166) {Q : Int32 → h_S → Prop} (hE : h_end X (some .int) (h_QI (x_Z X) Q)) {K52 : Nat → Int32 → Option Nat → Int32 → Int32 → Int32 → Option Nat → Int32 → Int32 → h_S → Prop} (hK52 : ∀ (o0 : Nat) (x1 : Int32) (r3 : Option Nat) (x4 : Int32) (x5 : Int32) (x6 : Int32) (r7 : Option Nat) (x8 : Int32) (x9 : Int32) (s : h_S), K52 o0 x1 r3 x4 x5 x6 r7 x8 x9 s → h_V X 11 52 [(0, pR (some o0)), (1, pI x1), (3, pR r3), (4, pI x4), (5, pI x5), (6, pI x6), (7, pR r7), (8, pI x8), (9, pI x9)] [] s 0 0) {o0 : Nat} {x1 : Int32} {r3 : Option Nat} {x4 : Int32} {x5 : Int32} {x6 : Int32} {r7 : Option Nat} {x8 : Int32} {x9 : Int32} (s : h_S) (h : w_X11_read_113 Q K52 o0 x1 r3 x4 x5 x6 r7 x8 x9 s) : h_V X 11 113 [(0, pR (some o0)), (1, pI x1), (3, pR r3), (4, pI x4), (5, pI x5), (6, pI x6), (7, pR r7), (8, pI x8), (9, pI x9)] [] s 0 0 := by
  unfold w_X11_read_113 at h
  refine v_iinc (c := 1) (lv' := [(9, _), (0, _), (1, _), (3, _), (4, _), (5, _), (6, _), (7, _), (8, _)]) hX dX11_read_113 8 rfl (by decide) (by decide) rfl ?_
  refine v_goto (tgt := 52) hX dX11_read_116 (by decide) ?_
  refine v_pick [1, 2, 3, 4, 5, 6, 7, 8, 0] rfl ?_
  exact hK52 _ _ _ _ _ _ _ _ _ _ h
set_option maxRecDepth 100000 in
set_option maxHeartbeats 4000000 in
theorem b_X11_read_135 {X : h_X} (hX : h_ok X cX11_read 11 RX11 7 166) {Q : Int32 → h_S → Prop} (hE : h_end X (some .int) (h_QI (x_Z X) Q)) {y0 : Int32} (s : h_S) (h : w_X11_read_135 Q y0 s) : h_V X 11 135 [] [pI y0] s 0 0 := by
  unfold w_X11_read_135 at h
  exact v_iret hX hE dX11_read_135 h
set_option maxRecDepth 100000 in
set_option maxHeartbeats 4000000 in
theorem b_X11_read_52 {X : h_X} (hX : h_ok X cX11_read 11 RX11 7 166) {Q : Int32 → h_S → Prop} (hE : h_end X (some .int) (h_QI (x_Z X) Q)) : ∀ (n : Nat) (o0 : Nat) (x1 : Int32) (r3 : Option Nat) (x4 : Int32) (x5 : Int32) (x6 : Int32) (r7 : Option Nat) (x8 : Int32) (x9 : Int32) (s : h_S), w_X11_read_52 Q n o0 x1 r3 x4 x5 x6 r7 x8 x9 s → h_V X 11 52 [(0, pR (some o0)), (1, pI x1), (3, pR r3), (4, pI x4), (5, pI x5), (6, pI x6), (7, pR r7), (8, pI x8), (9, pI x9)] [] s 0 0 := by
  intro n
  induction n with
  | zero => intro _ _ _ _ _ _ _ _ _ s h; exact h.elim
  | succ n hK52 =>
    intro o0 x1 r3 x4 x5 x6 r7 x8 x9 s h
    have h : w_X11_read_52b Q (w_X11_read_52 Q n) o0 x1 r3 x4 x5 x6 r7 x8 x9 s := h
    unfold w_X11_read_52b at h
    refine v_iload hX dX11_read_52 8 rfl ?_
    refine v_iload hX dX11_read_54 7 rfl ?_
    refine v_icmp_ge (tgt := 119) hX dX11_read_56 (by decide) (fun c1 => ?_) (fun c1 => ?_)
    · have h := h_T c1 h
      refine v_iload hX dX11_read_119 4 rfl ?_
      refine v_if_eq (tgt := 133) hX dX11_read_121 (by decide) (fun c2 => ?_) (fun c2 => ?_)
      · have h := h_T c2 h
        refine v_bipush (v := -3) hX dX11_read_133 (by decide) ?_
        refine v_pick [] rfl ?_
        exact b_X11_read_135 hX hE _ h
      · have h := h_E c2 h
        refine v_aload_n hX dX11_read_124 0 rfl rfl ?_
        refine v_iload hX dX11_read_125 5 rfl ?_
        obtain ⟨k3, h⟩ := h
        refine v_callVi0 hX dX11_read_127 c_RX11_74 cV_X11_acted (ci := 12) (T := TX11) (N := 19) rfl (by exact k3) [pI _] rfl rfl (Nat.le_of_ble_eq_true rfl) (by decide) (by decide)  (m_X11_acted h) (fun p5 s4 h => ?_)
        refine v_goto (tgt := 135) hX dX11_read_130 (by decide) ?_
        refine v_pick [] rfl ?_
        exact b_X11_read_135 hX hE _ h
    · have h := h_E c1 h
      refine v_aload hX dX11_read_59 6 rfl ?_
      refine v_iload hX dX11_read_61 8 rfl ?_
      obtain ⟨a6, e_a6, h⟩ := h
      refine v_nn1 e_a6 ?_
      obtain ⟨k7, h⟩ := h
      obtain ⟨i8, h⟩ := h
      refine v_iald hX dX11_read_63 k7 i8 ?_
      refine v_istore (lv' := [(10, _), (0, _), (1, _), (3, _), (4, _), (5, _), (6, _), (7, _), (8, _), (9, _)]) hX dX11_read_64 (by decide) rfl ?_
      refine v_aload_n hX dX11_read_66 1 rfl rfl ?_
      obtain ⟨k9, h⟩ := h
      refine v_getR hX dX11_read_67 f_RX11_21 rfl k9 ?_
      refine v_iload hX dX11_read_70 0 rfl ?_
      refine v_iload hX dX11_read_72 4 rfl ?_
      obtain ⟨a10, e_a10, h⟩ := h
      refine v_nn2 e_a10 ?_
      obtain ⟨k11, h⟩ := h
      refine v_callVi0 hX dX11_read_74 c_RX11_431 cV_X7_isIn (ci := 8) (T := TX7) (N := 13) rfl (by exact k11) [pI _, pI _] rfl rfl (Nat.le_of_ble_eq_true rfl) (by decide) (by decide)  (m_X7_isIn h) (fun p13 s12 h => ?_)
      refine v_if_eq (tgt := 113) hX dX11_read_77 (by decide) (fun c14 => ?_) (fun c14 => ?_)
      · have h := h_T c14 h
        refine v_pick [1, 2, 3, 4, 5, 6, 7, 8, 9] rfl ?_
        exact b_X11_read_113 hX hE hK52 _ h
      · have h := h_E c14 h
        refine v_iconst (v := 1) hX dX11_read_80 (by decide) ?_
        refine v_istore (lv' := [(5, _), (10, _), (0, _), (1, _), (3, _), (4, _), (6, _), (7, _), (8, _), (9, _)]) hX dX11_read_81 (by decide) rfl ?_
        refine v_iload hX dX11_read_83 6 rfl ?_
        refine v_aload_n hX dX11_read_85 2 rfl rfl ?_
        refine v_iload_n hX dX11_read_86 3 rfl rfl ?_
        refine v_aload_n hX dX11_read_87 2 rfl rfl ?_
        obtain ⟨k15, h⟩ := h
        refine v_getR hX dX11_read_88 f_RX11_21 rfl k15 ?_
        refine v_aload_n hX dX11_read_91 4 rfl rfl ?_
        obtain ⟨a16, e_a16, h⟩ := h
        refine v_nn0 e_a16 ?_
        obtain ⟨k17, h⟩ := h
        refine v_getI hX dX11_read_92 f_RX11_274 rfl k17 ?_
        obtain ⟨a18, e_a18, h⟩ := h
        refine v_nn1 e_a18 ?_
        obtain ⟨k19, h⟩ := h
        refine v_callVi0 hX dX11_read_95 c_RX11_139 cV_X7_ownerOf (ci := 8) (T := TX7) (N := 13) rfl (by exact k19) [pI _] rfl rfl (Nat.le_of_ble_eq_true rfl) (by decide) (by decide)  (m_X7_ownerOf h) (fun p21 s20 h => ?_)
        refine v_aload_n hX dX11_read_98 2 rfl rfl ?_
        obtain ⟨k22, h⟩ := h
        refine v_getR hX dX11_read_99 f_RX11_21 rfl k22 ?_
        refine v_iload hX dX11_read_102 1 rfl ?_
        obtain ⟨a23, e_a23, h⟩ := h
        refine v_nn1 e_a23 ?_
        obtain ⟨k24, h⟩ := h
        refine v_callVi0 hX dX11_read_104 c_RX11_434 cV_X7_handOf (ci := 8) (T := TX7) (N := 13) rfl (by exact k24) [pI _] rfl rfl (Nat.le_of_ble_eq_true rfl) (by decide) (by decide)  (m_X7_handOf h) (fun p26 s25 h => ?_)
        obtain ⟨k27, h⟩ := h
        refine v_callVi0 hX dX11_read_107 c_RX11_437 cV_X11_owe (ci := 12) (T := TX11) (N := 19) rfl (by exact k27) [pI _, pI _, pI _] rfl rfl (Nat.le_of_ble_eq_true rfl) (by decide) (by decide)  (m_X11_owe h) (fun p29 s28 h => ?_)
        refine v_iadd hX dX11_read_110 ?_
        refine v_istore (lv' := [(6, _), (5, _), (10, _), (0, _), (1, _), (3, _), (4, _), (7, _), (8, _), (9, _)]) hX dX11_read_111 (by decide) rfl ?_
        refine v_pick [3, 4, 5, 6, 1, 0, 7, 8, 9] rfl ?_
        exact b_X11_read_113 hX hE hK52 _ h
set_option maxRecDepth 100000 in
set_option maxHeartbeats 4000000 in
theorem m_X11_read {Z : h_Z} {o0 : Nat} {x1 : Int32} {x2 : Int32} {s : h_S} {Q : Int32 → h_S → Prop} (h : w_X11_read o0 x1 x2 s Q) : h_M Z yX11_read cX11_read 11 (some .int) 7 166 [pR (some o0), pI x1, pI x2] s 0 0 (h_QI Z Q) := by
  refine h_M.of (by decide) (Nat.le_of_ble_eq_true rfl) (fun X hZ hX hE hI => ?_)
  subst hZ
  unfold w_X11_read at h
  show h_V X 11 0 [(0, pR (some o0)), (1, pI x1), (2, pI x2)] [] s 0 0
  refine v_aload_n hX dX11_read_0 0 rfl rfl ?_
  refine v_iload_n hX dX11_read_1 2 rfl rfl ?_
  obtain ⟨k1, h⟩ := h
  refine v_callVr0 hX dX11_read_2 c_RX11_261 cV_X11_versionAt (ci := 12) (T := TX11) (N := 19) rfl (by exact k1) [pI _] rfl rfl (Nat.le_of_ble_eq_true rfl) (by decide) (by decide)  (m_X11_versionAt h) (fun p3 s2 h => ?_)
  refine v_astore_n (lv' := [(3, _), (0, _), (1, _), (2, _)]) hX dX11_read_5 rfl (by decide) rfl ?_
  refine v_aload_n hX dX11_read_6 1 rfl rfl ?_
  refine v_iload_n hX dX11_read_7 2 rfl rfl ?_
  obtain ⟨k4, h⟩ := h
  refine v_callVi0 hX dX11_read_8 c_RX11_89 cV_X11_isHand (ci := 12) (T := TX11) (N := 19) rfl (by exact k4) [pI _] rfl rfl (Nat.le_of_ble_eq_true rfl) (by decide) (by decide)  (m_X11_isHand h) (fun p6 s5 h => ?_)
  refine v_if_eq (tgt := 18) hX dX11_read_11 (by decide) (fun c7 => ?_) (fun c7 => ?_)
  · have h := h_T c7 h
    refine v_pick [] rfl ?_
    exact b_X11_read_18 hX hE _ h
  · have h := h_E c7 h
    refine v_aload_n hX dX11_read_14 0 rfl rfl ?_
    refine v_ifnonnull (tgt := 20) hX dX11_read_15 (by decide) (fun c8 => ?_) (fun c8 => ?_)
    · have h := h_E c8 h
      refine v_aload_n hX dX11_read_20 1 rfl rfl ?_
      refine v_iload_n hX dX11_read_21 2 rfl rfl ?_
      refine v_aload_n hX dX11_read_22 0 rfl rfl ?_
      refine v_aload_n hX dX11_read_23 1 rfl rfl ?_
      obtain ⟨k9, h⟩ := h
      refine v_getI hX dX11_read_24 f_RX11_82 rfl k9 ?_
      refine v_callVi0 hX dX11_read_27 c_RX11_427 cV_X11_openHomes (ci := 12) (T := TX11) (N := 19) rfl (by exact k9) [pI _, pR _, pI _] rfl rfl (Nat.le_of_ble_eq_true rfl) (by decide) (by decide)  (m_X11_openHomes h) (fun p11 s10 h => ?_)
      refine v_istore (lv' := [(4, _), (3, _), (0, _), (1, _), (2, _)]) hX dX11_read_30 (by decide) rfl ?_
      refine v_iconst (v := 0) hX dX11_read_32 (by decide) ?_
      refine v_istore (lv' := [(5, _), (4, _), (3, _), (0, _), (1, _), (2, _)]) hX dX11_read_33 (by decide) rfl ?_
      refine v_iconst (v := 0) hX dX11_read_35 (by decide) ?_
      refine v_istore (lv' := [(6, _), (5, _), (4, _), (3, _), (0, _), (1, _), (2, _)]) hX dX11_read_36 (by decide) rfl ?_
      refine v_aload_n hX dX11_read_38 3 rfl rfl ?_
      obtain ⟨a12, e_a12, h⟩ := h
      refine v_nn0 e_a12 ?_
      obtain ⟨k13, h⟩ := h
      refine v_getR hX dX11_read_39 f_RX11_270 rfl k13 ?_
      refine v_astore (lv' := [(7, _), (6, _), (5, _), (4, _), (3, _), (0, _), (1, _), (2, _)]) hX dX11_read_42 (by decide) rfl ?_
      refine v_aload hX dX11_read_44 0 rfl ?_
      obtain ⟨a14, e_a14, h⟩ := h
      refine v_nn0 e_a14 ?_
      obtain ⟨k15, h⟩ := h
      refine v_alenK hX dX11_read_46 (k := 1) rfl (by decide) (by decide) k15 ?_
      refine v_istore (lv' := [(8, _), (7, _), (6, _), (5, _), (4, _), (3, _), (0, _), (1, _), (2, _)]) hX dX11_read_47 (by decide) rfl ?_
      refine v_iconst (v := 0) hX dX11_read_49 (by decide) ?_
      refine v_istore (lv' := [(9, _), (8, _), (7, _), (6, _), (5, _), (4, _), (3, _), (0, _), (1, _), (2, _)]) hX dX11_read_50 (by decide) rfl ?_
      refine v_pick [7, 8, 6, 5, 4, 3, 2, 1, 0] rfl ?_
      obtain ⟨n, h⟩ := h
      exact b_X11_read_52 hX hE n _ _ _ _ _ _ _ _ _ _ h
    · have h := h_T c8 h
      refine v_pick [] rfl ?_
      exact b_X11_read_18 hX hE _ h
set_option maxRecDepth 100000 in
set_option maxHeartbeats 4000000 in
theorem b_X11_owes_16 {X : h_X} (hX : h_ok X cX11_owes 3 RX11 2 42) {Q : Int32 → h_S → Prop} (hE : h_end X (some .int) (h_QI (x_Z X) Q)) (s : h_S) (h : w_X11_owes_16 Q s) : h_V X 3 16 [] [] s 0 0 := by
  unfold w_X11_owes_16 at h
  refine v_iconst (v := -1) hX dX11_owes_16 (by decide) ?_
  exact v_iret hX hE dX11_owes_17 h
set_option maxRecDepth 100000 in
set_option maxHeartbeats 4000000 in
theorem m_X11_owes {Z : h_Z} {o0 : Nat} {x1 : Int32} {x2 : Int32} {s : h_S} {Q : Int32 → h_S → Prop} (h : w_X11_owes o0 x1 x2 s Q) : h_M Z yX11_owes cX11_owes 3 (some .int) 2 42 [pR (some o0), pI x1, pI x2] s 0 0 (h_QI Z Q) := by
  refine h_M.of (by decide) (Nat.le_of_ble_eq_true rfl) (fun X hZ hX hE hI => ?_)
  subst hZ
  unfold w_X11_owes at h
  show h_V X 3 0 [(0, pR (some o0)), (1, pI x1), (2, pI x2)] [] s 0 0
  refine v_aload_n hX dX11_owes_0 0 rfl rfl ?_
  refine v_iload_n hX dX11_owes_1 1 rfl rfl ?_
  obtain ⟨k1, h⟩ := h
  refine v_callVi0 hX dX11_owes_2 c_RX11_89 cV_X11_isHand (ci := 12) (T := TX11) (N := 19) rfl (by exact k1) [pI _] rfl rfl (Nat.le_of_ble_eq_true rfl) (by decide) (by decide)  (m_X11_isHand h) (fun p3 s2 h => ?_)
  refine v_if_eq (tgt := 16) hX dX11_owes_5 (by decide) (fun c4 => ?_) (fun c4 => ?_)
  · have h := h_T c4 h
    refine v_pick [] rfl ?_
    exact b_X11_owes_16 hX hE _ h
  · have h := h_E c4 h
    refine v_aload_n hX dX11_owes_8 0 rfl rfl ?_
    refine v_iload_n hX dX11_owes_9 2 rfl rfl ?_
    obtain ⟨k5, h⟩ := h
    refine v_callVi0 hX dX11_owes_10 c_RX11_89 cV_X11_isHand (ci := 12) (T := TX11) (N := 19) rfl (by exact k5) [pI _] rfl rfl (Nat.le_of_ble_eq_true rfl) (by decide) (by decide)  (m_X11_isHand h) (fun p7 s6 h => ?_)
    refine v_if_ne (tgt := 18) hX dX11_owes_13 (by decide) (fun c8 => ?_) (fun c8 => ?_)
    · have h := h_E c8 h
      refine v_aload_n hX dX11_owes_18 0 rfl rfl ?_
      obtain ⟨k9, h⟩ := h
      refine v_getR hX dX11_owes_19 f_RX11_54 rfl k9 ?_
      refine v_iload_n hX dX11_owes_22 1 rfl rfl ?_
      refine v_bipush (v := 8) hX dX11_owes_23 (by decide) ?_
      refine v_imul hX dX11_owes_25 ?_
      refine v_iload_n hX dX11_owes_26 2 rfl rfl ?_
      refine v_iadd hX dX11_owes_27 ?_
      obtain ⟨a10, e_a10, h⟩ := h
      refine v_nn1 e_a10 ?_
      obtain ⟨k11, h⟩ := h
      obtain ⟨i12, h⟩ := h
      refine v_iald hX dX11_owes_28 k11 i12 ?_
      exact v_iret hX hE dX11_owes_29 h
    · have h := h_T c8 h
      refine v_pick [] rfl ?_
      exact b_X11_owes_16 hX hE _ h
set_option maxRecDepth 100000 in
set_option maxHeartbeats 4000000 in
theorem b_X11_pay_16 {X : h_X} (hX : h_ok X cX11_pay 5 RX11 2 43) {Q : Int32 → h_S → Prop} (hE : h_end X (some .int) (h_QI (x_Z X) Q)) (s : h_S) (h : w_X11_pay_16 Q s) : h_V X 5 16 [] [] s 0 0 := by
  unfold w_X11_pay_16 at h
  refine v_iconst (v := -1) hX dX11_pay_16 (by decide) ?_
  exact v_iret hX hE dX11_pay_17 h
set_option maxRecDepth 100000 in
set_option maxHeartbeats 4000000 in
theorem m_X11_pay {Z : h_Z} {o0 : Nat} {x1 : Int32} {x2 : Int32} {x3 : Int32} {s : h_S} {Q : Int32 → h_S → Prop} (h : w_X11_pay o0 x1 x2 x3 s Q) : h_M Z yX11_pay cX11_pay 5 (some .int) 2 43 [pR (some o0), pI x1, pI x2, pI x3] s 0 0 (h_QI Z Q) := by
  refine h_M.of (by decide) (Nat.le_of_ble_eq_true rfl) (fun X hZ hX hE hI => ?_)
  subst hZ
  unfold w_X11_pay at h
  show h_V X 5 0 [(0, pR (some o0)), (1, pI x1), (2, pI x2), (3, pI x3)] [] s 0 0
  refine v_aload_n hX dX11_pay_0 0 rfl rfl ?_
  refine v_iload_n hX dX11_pay_1 1 rfl rfl ?_
  obtain ⟨k1, h⟩ := h
  refine v_callVi0 hX dX11_pay_2 c_RX11_89 cV_X11_isHand (ci := 12) (T := TX11) (N := 19) rfl (by exact k1) [pI _] rfl rfl (Nat.le_of_ble_eq_true rfl) (by decide) (by decide)  (m_X11_isHand h) (fun p3 s2 h => ?_)
  refine v_if_eq (tgt := 16) hX dX11_pay_5 (by decide) (fun c4 => ?_) (fun c4 => ?_)
  · have h := h_T c4 h
    refine v_pick [] rfl ?_
    exact b_X11_pay_16 hX hE _ h
  · have h := h_E c4 h
    refine v_aload_n hX dX11_pay_8 0 rfl rfl ?_
    refine v_iload_n hX dX11_pay_9 2 rfl rfl ?_
    obtain ⟨k5, h⟩ := h
    refine v_callVi0 hX dX11_pay_10 c_RX11_89 cV_X11_isHand (ci := 12) (T := TX11) (N := 19) rfl (by exact k5) [pI _] rfl rfl (Nat.le_of_ble_eq_true rfl) (by decide) (by decide)  (m_X11_isHand h) (fun p7 s6 h => ?_)
    refine v_if_ne (tgt := 18) hX dX11_pay_13 (by decide) (fun c8 => ?_) (fun c8 => ?_)
    · have h := h_E c8 h
      refine v_iload_n hX dX11_pay_18 3 rfl rfl ?_
      refine v_iconst (v := 1) hX dX11_pay_19 (by decide) ?_
      refine v_icmp_ge (tgt := 26) hX dX11_pay_20 (by decide) (fun c9 => ?_) (fun c9 => ?_)
      · have h := h_T c9 h
        refine v_iload_n hX dX11_pay_26 1 rfl rfl ?_
        refine v_bipush (v := 8) hX dX11_pay_27 (by decide) ?_
        refine v_imul hX dX11_pay_29 ?_
        refine v_iload_n hX dX11_pay_30 2 rfl rfl ?_
        refine v_iadd hX dX11_pay_31 ?_
        refine v_istore (lv' := [(4, _), (0, _), (1, _), (2, _), (3, _)]) hX dX11_pay_32 (by decide) rfl ?_
        refine v_aload_n hX dX11_pay_34 1 rfl rfl ?_
        obtain ⟨k10, h⟩ := h
        refine v_getR hX dX11_pay_35 f_RX11_54 rfl k10 ?_
        refine v_iload hX dX11_pay_38 0 rfl ?_
        obtain ⟨a11, e_a11, h⟩ := h
        refine v_nn1 e_a11 ?_
        obtain ⟨k12, h⟩ := h
        obtain ⟨i13, h⟩ := h
        refine v_iald hX dX11_pay_40 k12 i13 ?_
        refine v_iload_n hX dX11_pay_41 4 rfl rfl ?_
        refine v_icmp_ge (tgt := 48) hX dX11_pay_42 (by decide) (fun c14 => ?_) (fun c14 => ?_)
        · have h := h_T c14 h
          refine v_aload_n hX dX11_pay_48 1 rfl rfl ?_
          refine v_getR hX dX11_pay_49 f_RX11_54 rfl k10 ?_
          refine v_iload hX dX11_pay_52 0 rfl ?_
          refine v_dup2 hX dX11_pay_54 rfl rfl ?_
          obtain ⟨a15, e_a15, h⟩ := h
          refine v_nn1 e_a15 ?_
          obtain ⟨k16, h⟩ := h
          obtain ⟨i17, h⟩ := h
          refine v_iald hX dX11_pay_55 k16 i17 ?_
          refine v_iload_n hX dX11_pay_56 4 rfl rfl ?_
          refine v_isub hX dX11_pay_57 ?_
          obtain ⟨a18, e_a18, h⟩ := h
          refine v_nn2 e_a18 ?_
          obtain ⟨k19, h⟩ := h
          obtain ⟨i20, h⟩ := h
          refine v_iast hX dX11_pay_58 k19 i20 ?_
          refine v_aload_n hX dX11_pay_59 1 rfl rfl ?_
          refine v_aload_n hX dX11_pay_60 1 rfl rfl ?_
          refine v_getR hX dX11_pay_61 f_RX11_54 rfl k10 ?_
          refine v_iload hX dX11_pay_64 0 rfl ?_
          obtain ⟨a22, e_a22, h⟩ := h
          refine v_nn1 e_a22 ?_
          obtain ⟨k23, h⟩ := h
          obtain ⟨i24, h⟩ := h
          refine v_iald hX dX11_pay_66 k23 i24 ?_
          refine v_callVi0 hX dX11_pay_67 c_RX11_74 cV_X11_acted (ci := 12) (T := TX11) (N := 19) rfl (by exact k10) [pI _] rfl rfl (Nat.le_of_ble_eq_true rfl) (by decide) (by decide)  (m_X11_acted h) (fun p26 s25 h => ?_)
          exact v_iret hX hE dX11_pay_70 h
        · have h := h_E c14 h
          refine v_bipush (v := -3) hX dX11_pay_45 (by decide) ?_
          exact v_iret hX hE dX11_pay_47 h
      · have h := h_E c9 h
        refine v_bipush (v := -2) hX dX11_pay_23 (by decide) ?_
        exact v_iret hX hE dX11_pay_25 h
    · have h := h_T c8 h
      refine v_pick [] rfl ?_
      exact b_X11_pay_16 hX hE _ h
set_option maxRecDepth 100000 in
set_option maxHeartbeats 4000000 in
theorem b_X11_steps_22 {X : h_X} (hX : h_ok X cX11_steps 4 RX11 17 515) {Q : Int32 → h_S → Prop} (hE : h_end X (some .int) (h_QI (x_Z X) Q)) (s : h_S) {bc bs : Nat} (h : w_X11_steps_22 Q s bc bs) : h_V X 4 22 [] [] s bc bs := by
  unfold w_X11_steps_22 at h
  refine v_iconst (v := -1) hX dX11_steps_22 (by decide) ?_
  exact v_iret hX hE dX11_steps_23 h
set_option maxRecDepth 100000 in
set_option maxHeartbeats 4000000 in
theorem m_X11_steps {Z : h_Z} {o0 : Nat} {x1 : Int32} {x2 : Int32} {s : h_S} {mc ms : Nat} {Q : Int32 → h_S → Prop} (h : w_X11_steps o0 x1 x2 s mc ms Q) : h_M Z yX11_steps cX11_steps 4 (some .int) 17 515 [pR (some o0), pI x1, pI x2] s mc ms (h_QI Z Q) := by
  refine h_M.of (by decide) (Nat.le_of_ble_eq_true rfl) (fun X hZ hX hE hI => ?_)
  subst hZ
  unfold w_X11_steps at h
  show h_V X 4 0 [(0, pR (some o0)), (1, pI x1), (2, pI x2)] [] s mc ms
  refine v_aload_n hX dX11_steps_0 0 rfl rfl ?_
  refine v_iload_n hX dX11_steps_1 1 rfl rfl ?_
  obtain ⟨k1, h⟩ := h
  refine v_callVr0 hX dX11_steps_2 c_RX11_261 cV_X11_versionAt (ci := 12) (T := TX11) (N := 19) rfl (by exact k1) [pI _] rfl rfl (Nat.le_of_ble_eq_true rfl) (by decide) (by decide)  (m_X11_versionAt h) (fun p3 s2 h => ?_)
  refine v_astore_n (lv' := [(3, _), (0, _), (1, _), (2, _)]) hX dX11_steps_5 rfl (by decide) rfl ?_
  refine v_aload_n hX dX11_steps_6 0 rfl rfl ?_
  refine v_ifnull (tgt := 22) hX dX11_steps_7 (by decide) (fun c4 => ?_) (fun c4 => ?_)
  · have h := h_T c4 h
    refine v_pick [] rfl ?_
    exact b_X11_steps_22 hX hE _ h
  · have h := h_E c4 h
    refine v_iload_n hX dX11_steps_10 3 rfl rfl ?_
    refine v_aload_n hX dX11_steps_11 0 rfl rfl ?_
    obtain ⟨a5, e_a5, h⟩ := h
    refine v_nn0 e_a5 ?_
    obtain ⟨k6, h⟩ := h
    refine v_getR hX dX11_steps_12 f_RX11_270 rfl k6 ?_
    obtain ⟨a7, e_a7, h⟩ := h
    refine v_nn0 e_a7 ?_
    obtain ⟨k8, h⟩ := h
    refine v_alenK hX dX11_steps_15 (k := 1) rfl (by decide) (by decide) k8 ?_
    refine v_callSi0 hX dX11_steps_16 c_RX11_78 cS_X11_within [pI _, pI _] rfl rfl (Nat.le_of_ble_eq_true rfl) (by decide) (by decide)  (m_X11_within h) (fun p10 s9 h => ?_)
    refine v_if_ne (tgt := 24) hX dX11_steps_19 (by decide) (fun c11 => ?_) (fun c11 => ?_)
    · have h := h_E c11 h
      refine v_aload_n hX dX11_steps_24 0 rfl rfl ?_
      obtain ⟨a12, e_a12, h⟩ := h
      refine v_nn0 e_a12 ?_
      obtain ⟨k13, h⟩ := h
      refine v_getR hX dX11_steps_25 f_RX11_270 rfl k13 ?_
      refine v_iload_n hX dX11_steps_28 3 rfl rfl ?_
      obtain ⟨a14, e_a14, h⟩ := h
      refine v_nn1 e_a14 ?_
      obtain ⟨k15, h⟩ := h
      obtain ⟨i16, h⟩ := h
      refine v_iald hX dX11_steps_29 k15 i16 ?_
      refine v_bipush (v := -7) hX dX11_steps_30 (by decide) ?_
      refine v_icmp_ne (tgt := 38) hX dX11_steps_32 (by decide) (fun c17 => ?_) (fun c17 => ?_)
      · have h := h_E c17 h
        refine v_aload_n hX dX11_steps_38 1 rfl rfl ?_
        obtain ⟨k18, h⟩ := h
        refine v_getR hX dX11_steps_39 f_RX11_21 rfl k18 ?_
        refine v_aload_n hX dX11_steps_42 0 rfl rfl ?_
        obtain ⟨a19, e_a19, h⟩ := h
        refine v_nn0 e_a19 ?_
        obtain ⟨k20, h⟩ := h
        refine v_getI hX dX11_steps_43 f_RX11_274 rfl k20 ?_
        refine v_aload_n hX dX11_steps_46 0 rfl rfl ?_
        obtain ⟨a21, e_a21, h⟩ := h
        refine v_nn0 e_a21 ?_
        obtain ⟨k22, h⟩ := h
        refine v_getI hX dX11_steps_47 f_RX11_277 rfl k22 ?_
        refine v_iload_n hX dX11_steps_50 3 rfl rfl ?_
        obtain ⟨a23, e_a23, h⟩ := h
        refine v_nn3 e_a23 ?_
        obtain ⟨k24, h⟩ := h
        obtain ⟨mc27, ms28, b29, b30, h⟩ := h
        refine v_callVi hX dX11_steps_51 c_RX11_440 cV_X7_follow (ci := 8) (T := TX7) (N := 13) rfl (by exact k24) [pI _, pI _, pI _] rfl rfl (Nat.le_of_ble_eq_true rfl) (by decide) (by decide) b29 b30 (m_X7_follow h) (fun p26 s25 h => ?_)
        exact v_iret hX hE dX11_steps_54 h
      · have h := h_T c17 h
        refine v_bipush (v := -3) hX dX11_steps_35 (by decide) ?_
        exact v_iret hX hE dX11_steps_37 h
    · have h := h_T c11 h
      refine v_pick [] rfl ?_
      exact b_X11_steps_22 hX hE _ h
set_option maxRecDepth 100000 in
set_option maxHeartbeats 4000000 in
theorem b_X11_chain_38 {X : h_X} (hX : h_ok X cX11_chain 5 RX11 18 538) {Q : Int32 → h_S → Prop} (hE : h_end X (some .int) (h_QI (x_Z X) Q)) {y0 : Int32} (s : h_S) {bc bs : Nat} (h : w_X11_chain_38 Q y0 s bc bs) : h_V X 5 38 [] [pI y0] s bc bs := by
  unfold w_X11_chain_38 at h
  exact v_iret hX hE dX11_chain_38 h
set_option maxRecDepth 100000 in
set_option maxHeartbeats 4000000 in
theorem m_X11_chain {Z : h_Z} {o0 : Nat} {x1 : Int32} {x2 : Int32} {x3 : Int32} {s : h_S} {mc ms : Nat} {Q : Int32 → h_S → Prop} (h : w_X11_chain o0 x1 x2 x3 s mc ms Q) : h_M Z yX11_chain cX11_chain 5 (some .int) 18 538 [pR (some o0), pI x1, pI x2, pI x3] s mc ms (h_QI Z Q) := by
  refine h_M.of (by decide) (Nat.le_of_ble_eq_true rfl) (fun X hZ hX hE hI => ?_)
  subst hZ
  unfold w_X11_chain at h
  show h_V X 5 0 [(0, pR (some o0)), (1, pI x1), (2, pI x2), (3, pI x3)] [] s mc ms
  refine v_aload_n hX dX11_chain_0 0 rfl rfl ?_
  refine v_iload_n hX dX11_chain_1 1 rfl rfl ?_
  refine v_iload_n hX dX11_chain_2 2 rfl rfl ?_
  obtain ⟨k1, h⟩ := h
  obtain ⟨mc4, ms5, b6, b7, h⟩ := h
  refine v_callVi hX dX11_chain_3 c_RX11_443 cV_X11_steps (ci := 12) (T := TX11) (N := 19) rfl (by exact k1) [pI _, pI _] rfl rfl (Nat.le_of_ble_eq_true rfl) (by decide) (by decide) b6 b7 (m_X11_steps h) (fun p3 s2 h => ?_)
  refine v_istore (lv' := [(4, _), (0, _), (1, _), (2, _), (3, _)]) hX dX11_chain_6 (by decide) rfl ?_
  refine v_iload hX dX11_chain_8 0 rfl ?_
  refine v_if_ge (tgt := 16) hX dX11_chain_10 (by decide) (fun c8 => ?_) (fun c8 => ?_)
  · have h := h_T c8 h
    refine v_iload_n hX dX11_chain_16 4 rfl rfl ?_
    refine v_iload hX dX11_chain_17 0 rfl ?_
    refine v_callSi0 hX dX11_chain_19 c_RX11_78 cS_X11_within [pI _, pI _] rfl rfl (Nat.le_of_ble_eq_true rfl) (by decide) (by decide)  (m_X11_within h) (fun p10 s9 h => ?_)
    refine v_if_eq (tgt := 37) hX dX11_chain_22 (by decide) (fun c11 => ?_) (fun c11 => ?_)
    · have h := h_T c11 h
      refine v_iconst (v := -1) hX dX11_chain_37 (by decide) ?_
      refine v_pick [] rfl ?_
      exact b_X11_chain_38 hX hE _ h
    · have h := h_E c11 h
      refine v_aload_n hX dX11_chain_25 1 rfl rfl ?_
      obtain ⟨k12, h⟩ := h
      refine v_getR hX dX11_chain_26 f_RX11_21 rfl k12 ?_
      obtain ⟨a13, e_a13, h⟩ := h
      refine v_nn0 e_a13 ?_
      obtain ⟨k14, h⟩ := h
      refine v_getR hX dX11_chain_29 f_RX11_446 rfl k14 ?_
      refine v_iload_n hX dX11_chain_32 4 rfl rfl ?_
      obtain ⟨a15, e_a15, h⟩ := h
      refine v_nn1 e_a15 ?_
      obtain ⟨k16, h⟩ := h
      obtain ⟨i17, h⟩ := h
      refine v_iald hX dX11_chain_33 k16 i17 ?_
      refine v_goto (tgt := 38) hX dX11_chain_34 (by decide) ?_
      refine v_pick [] rfl ?_
      exact b_X11_chain_38 hX hE _ h
  · have h := h_E c8 h
    refine v_iload hX dX11_chain_13 0 rfl ?_
    exact v_iret hX hE dX11_chain_15 h
set_option maxRecDepth 100000 in
set_option maxHeartbeats 4000000 in
theorem b_X11_quotes_16 {X : h_X} (hX : h_ok X cX11_quotes 3 RX11 7 162) {Q : Int32 → h_S → Prop} (hE : h_end X (some .int) (h_QI (x_Z X) Q)) (s : h_S) (h : w_X11_quotes_16 Q s) : h_V X 3 16 [] [] s 0 0 := by
  unfold w_X11_quotes_16 at h
  refine v_iconst (v := -1) hX dX11_quotes_16 (by decide) ?_
  exact v_iret hX hE dX11_quotes_17 h
set_option maxRecDepth 100000 in
set_option maxHeartbeats 4000000 in
theorem m_X11_quotes {Z : h_Z} {o0 : Nat} {x1 : Int32} {x2 : Int32} {s : h_S} {Q : Int32 → h_S → Prop} (h : w_X11_quotes o0 x1 x2 s Q) : h_M Z yX11_quotes cX11_quotes 3 (some .int) 7 162 [pR (some o0), pI x1, pI x2] s 0 0 (h_QI Z Q) := by
  refine h_M.of (by decide) (Nat.le_of_ble_eq_true rfl) (fun X hZ hX hE hI => ?_)
  subst hZ
  unfold w_X11_quotes at h
  show h_V X 3 0 [(0, pR (some o0)), (1, pI x1), (2, pI x2)] [] s 0 0
  refine v_aload_n hX dX11_quotes_0 0 rfl rfl ?_
  refine v_iload_n hX dX11_quotes_1 1 rfl rfl ?_
  obtain ⟨k1, h⟩ := h
  refine v_callVi0 hX dX11_quotes_2 c_RX11_150 cV_X11_isWriting (ci := 12) (T := TX11) (N := 19) rfl (by exact k1) [pI _] rfl rfl (Nat.le_of_ble_eq_true rfl) (by decide) (by decide)  (m_X11_isWriting h) (fun p3 s2 h => ?_)
  refine v_if_eq (tgt := 16) hX dX11_quotes_5 (by decide) (fun c4 => ?_) (fun c4 => ?_)
  · have h := h_T c4 h
    refine v_pick [] rfl ?_
    exact b_X11_quotes_16 hX hE _ h
  · have h := h_E c4 h
    refine v_aload_n hX dX11_quotes_8 0 rfl rfl ?_
    refine v_iload_n hX dX11_quotes_9 2 rfl rfl ?_
    obtain ⟨k5, h⟩ := h
    refine v_callVi0 hX dX11_quotes_10 c_RX11_150 cV_X11_isWriting (ci := 12) (T := TX11) (N := 19) rfl (by exact k5) [pI _] rfl rfl (Nat.le_of_ble_eq_true rfl) (by decide) (by decide)  (m_X11_isWriting h) (fun p7 s6 h => ?_)
    refine v_if_ne (tgt := 18) hX dX11_quotes_13 (by decide) (fun c8 => ?_) (fun c8 => ?_)
    · have h := h_E c8 h
      refine v_aload_n hX dX11_quotes_18 0 rfl rfl ?_
      obtain ⟨k9, h⟩ := h
      refine v_getR hX dX11_quotes_19 f_RX11_21 rfl k9 ?_
      refine v_iload_n hX dX11_quotes_22 1 rfl rfl ?_
      refine v_iload_n hX dX11_quotes_23 2 rfl rfl ?_
      refine v_iconst (v := 0) hX dX11_quotes_24 (by decide) ?_
      obtain ⟨a10, e_a10, h⟩ := h
      refine v_nn3 e_a10 ?_
      obtain ⟨k11, h⟩ := h
      refine v_callVi0 hX dX11_quotes_25 c_RX11_163 cV_X7_stepsBetween (ci := 8) (T := TX7) (N := 13) rfl (by exact k11) [pI _, pI _, pI _] rfl rfl (Nat.le_of_ble_eq_true rfl) (by decide) (by decide)  (m_X7_stepsBetween h) (fun p13 s12 h => ?_)
      exact v_iret hX hE dX11_quotes_28 h
    · have h := h_T c8 h
      refine v_pick [] rfl ?_
      exact b_X11_quotes_16 hX hE _ h
set_option maxRecDepth 100000 in
set_option maxHeartbeats 4000000 in
theorem b_X11_standsAt_55 {X : h_X} (hX : h_ok X cX11_standsAt 9 RX11 5 108) {Q : Int32 → h_S → Prop} (hE : h_end X (some .boolean) (h_QI (x_Z X) Q)) (s : h_S) (h : w_X11_standsAt_55 Q s) : h_V X 9 55 [] [] s 0 0 := by
  unfold w_X11_standsAt_55 at h
  refine v_iconst (v := 0) hX dX11_standsAt_55 (by decide) ?_
  exact v_zret hX hE dX11_standsAt_56 (Or.inl rfl) h
set_option maxRecDepth 100000 in
set_option maxHeartbeats 4000000 in
theorem b_X11_standsAt_3 {X : h_X} (hX : h_ok X cX11_standsAt 9 RX11 5 108) {Q : Int32 → h_S → Prop} (hE : h_end X (some .boolean) (h_QI (x_Z X) Q)) : ∀ (n : Nat) (o0 : Nat) (r1 : Option Nat) (x2 : Int32) (x3 : Int32) (r4 : Option Nat) (x5 : Int32) (x6 : Int32) (x7 : Int32) (s : h_S), w_X11_standsAt_3 Q n o0 r1 x2 x3 r4 x5 x6 x7 s → h_V X 9 3 [(0, pR (some o0)), (1, pR r1), (2, pI x2), (3, pI x3), (4, pR r4), (5, pI x5), (6, pI x6), (7, pI x7)] [] s 0 0 := by
  intro n
  induction n with
  | zero => intro _ _ _ _ _ _ _ _ s h; exact h.elim
  | succ n hK3 =>
    intro o0 r1 x2 x3 r4 x5 x6 x7 s h
    have h : w_X11_standsAt_3b Q (w_X11_standsAt_3 Q n) o0 r1 x2 x3 r4 x5 x6 x7 s := h
    unfold w_X11_standsAt_3b at h
    refine v_iload hX dX11_standsAt_3 7 rfl ?_
    refine v_iload hX dX11_standsAt_5 6 rfl ?_
    refine v_icmp_ge (tgt := 63) hX dX11_standsAt_7 (by decide) (fun c1 => ?_) (fun c1 => ?_)
    · have h := h_T c1 h
      refine v_iconst (v := 1) hX dX11_standsAt_63 (by decide) ?_
      exact v_zret hX hE dX11_standsAt_64 (Or.inr rfl) h
    · have h := h_E c1 h
      refine v_aload_n hX dX11_standsAt_10 1 rfl rfl ?_
      refine v_iload_n hX dX11_standsAt_11 2 rfl rfl ?_
      refine v_iload hX dX11_standsAt_12 7 rfl ?_
      refine v_iadd hX dX11_standsAt_14 ?_
      obtain ⟨a2, e_a2, h⟩ := h
      refine v_nn1 e_a2 ?_
      obtain ⟨k3, h⟩ := h
      refine v_callVi0 hX dX11_standsAt_15 c_RX11_460 cV_X8_placeAt (ci := 9) (T := TX8) (N := 5) rfl (by exact k3) [pI _] rfl rfl (Nat.le_of_ble_eq_true rfl) (by decide) (by decide)  (m_X8_placeAt h) (fun p5 s4 h => ?_)
      refine v_istore (lv' := [(8, _), (0, _), (1, _), (2, _), (3, _), (4, _), (5, _), (6, _), (7, _)]) hX dX11_standsAt_18 (by decide) rfl ?_
      refine v_aload_n hX dX11_standsAt_20 1 rfl rfl ?_
      obtain ⟨k6, h⟩ := h
      refine v_getR hX dX11_standsAt_21 f_RX11_21 rfl k6 ?_
      refine v_iload hX dX11_standsAt_24 0 rfl ?_
      refine v_iload_n hX dX11_standsAt_26 4 rfl rfl ?_
      obtain ⟨a7, e_a7, h⟩ := h
      refine v_nn2 e_a7 ?_
      obtain ⟨k8, h⟩ := h
      refine v_callVi0 hX dX11_standsAt_27 c_RX11_431 cV_X7_isIn (ci := 8) (T := TX7) (N := 13) rfl (by exact k8) [pI _, pI _] rfl rfl (Nat.le_of_ble_eq_true rfl) (by decide) (by decide)  (m_X7_isIn h) (fun p10 s9 h => ?_)
      refine v_if_eq (tgt := 55) hX dX11_standsAt_30 (by decide) (fun c11 => ?_) (fun c11 => ?_)
      · have h := h_T c11 h
        refine v_pick [] rfl ?_
        exact b_X11_standsAt_55 hX hE _ h
      · have h := h_E c11 h
        refine v_aload_n hX dX11_standsAt_33 1 rfl rfl ?_
        obtain ⟨k12, h⟩ := h
        refine v_getR hX dX11_standsAt_34 f_RX11_21 rfl k12 ?_
        refine v_iload hX dX11_standsAt_37 0 rfl ?_
        obtain ⟨a13, e_a13, h⟩ := h
        refine v_nn1 e_a13 ?_
        obtain ⟨k14, h⟩ := h
        refine v_callVi0 hX dX11_standsAt_39 c_RX11_463 cV_X7_codeOf (ci := 8) (T := TX7) (N := 13) rfl (by exact k14) [pI _] rfl rfl (Nat.le_of_ble_eq_true rfl) (by decide) (by decide)  (m_X7_codeOf h) (fun p16 s15 h => ?_)
        refine v_aload hX dX11_standsAt_42 5 rfl ?_
        refine v_iload hX dX11_standsAt_44 6 rfl ?_
        refine v_iload hX dX11_standsAt_46 8 rfl ?_
        refine v_iadd hX dX11_standsAt_48 ?_
        obtain ⟨a17, e_a17, h⟩ := h
        refine v_nn1 e_a17 ?_
        obtain ⟨k18, h⟩ := h
        refine v_callVi0 hX dX11_standsAt_49 c_RX11_126 cV_X5_cellAt (ci := 6) (T := TX5) (N := 3) rfl (by exact k18) [pI _] rfl rfl (Nat.le_of_ble_eq_true rfl) (by decide) (by decide)  (m_X5_cellAt h) (fun p20 s19 h => ?_)
        refine v_icmp_eq (tgt := 57) hX dX11_standsAt_52 (by decide) (fun c21 => ?_) (fun c21 => ?_)
        · have h := h_T c21 h
          refine v_iinc (c := 1) (lv' := [(7, _), (8, _), (0, _), (1, _), (2, _), (3, _), (4, _), (5, _), (6, _)]) hX dX11_standsAt_57 8 rfl (by decide) (by decide) rfl ?_
          refine v_goto (tgt := 3) hX dX11_standsAt_60 (by decide) ?_
          refine v_pick [2, 3, 4, 5, 6, 7, 8, 0] rfl ?_
          exact hK3 _ _ _ _ _ _ _ _ _ h
        · have h := h_E c21 h
          refine v_pick [] rfl ?_
          exact b_X11_standsAt_55 hX hE _ h
set_option maxRecDepth 100000 in
set_option maxHeartbeats 4000000 in
theorem m_X11_standsAt {Z : h_Z} {o0 : Nat} {r1 : Option Nat} {x2 : Int32} {x3 : Int32} {r4 : Option Nat} {x5 : Int32} {x6 : Int32} {s : h_S} {Q : Int32 → h_S → Prop} (h : w_X11_standsAt o0 r1 x2 x3 r4 x5 x6 s Q) : h_M Z yX11_standsAt cX11_standsAt 9 (some .boolean) 5 108 [pR (some o0), pR r1, pI x2, pI x3, pR r4, pI x5, pI x6] s 0 0 (h_QI Z Q) := by
  refine h_M.of (by decide) (Nat.le_of_ble_eq_true rfl) (fun X hZ hX hE hI => ?_)
  subst hZ
  unfold w_X11_standsAt at h
  show h_V X 9 0 [(0, pR (some o0)), (1, pR r1), (2, pI x2), (3, pI x3), (4, pR r4), (5, pI x5), (6, pI x6)] [] s 0 0
  refine v_iconst (v := 0) hX dX11_standsAt_0 (by decide) ?_
  refine v_istore (lv' := [(7, _), (0, _), (1, _), (2, _), (3, _), (4, _), (5, _), (6, _)]) hX dX11_standsAt_1 (by decide) rfl ?_
  refine v_pick [1, 2, 3, 4, 5, 6, 7, 0] rfl ?_
  obtain ⟨n, h⟩ := h
  exact b_X11_standsAt_3 hX hE n _ _ _ _ _ _ _ _ _ h
