set_option maxRecDepth 100000 in
set_option maxHeartbeats 4000000 in
theorem b_X7_follow_101 {X : h_X} (hX : h_ok X cX7_follow 12 RX7 16 484) {Q : Int32 → h_S → Prop} (hE : h_end X (some .int) (h_QI (x_Z X) Q)) {K12 : Nat → Int32 → Int32 → Int32 → Int32 → h_S → Nat → Nat → Prop} (hK12 : ∀ (o0 : Nat) (x4 : Int32) (x5 : Int32) (x6 : Int32) (x7 : Int32) (s : h_S) (bc bs : Nat), K12 o0 x4 x5 x6 x7 s bc bs → h_V X 12 12 [(0, pR (some o0)), (4, pI x4), (5, pI x5), (6, pI x6), (7, pI x7)] [] s bc bs) {o0 : Nat} {x4 : Int32} {x5 : Int32} {x6 : Int32} {x7 : Int32} {r9 : Option Nat} (s : h_S) {bc bs : Nat} (h : w_X7_follow_101 Q K12 o0 x4 x5 x6 x7 r9 s bc bs) : h_V X 12 101 [(0, pR (some o0)), (4, pI x4), (5, pI x5), (6, pI x6), (7, pI x7), (9, pR r9)] [] s bc bs := by
  unfold w_X7_follow_101 at h
  refine v_aload hX dX7_follow_101 5 rfl ?_
  refine v_ifnonnull (tgt := 108) hX dX7_follow_103 (by decide) (fun c1 => ?_) (fun c1 => ?_)
  · have h := h_E c1 h
    refine v_aload hX dX7_follow_108 5 rfl ?_
    obtain ⟨a2, e_a2, h⟩ := h
    refine v_nn0 e_a2 ?_
    obtain ⟨k3, h⟩ := h
    refine v_callVi0 hX dX7_follow_110 c_RX7_154 cV_X2_hasWords (ci := 3) (T := TX2) (N := 5) rfl (by exact k3) [] rfl rfl (Nat.le_of_ble_eq_true rfl) (by decide) (by decide)  (m_X2_hasWords h) (fun p5 s4 h => ?_)
    refine v_if_eq (tgt := 135) hX dX7_follow_113 (by decide) (fun c6 => ?_) (fun c6 => ?_)
    · have h := h_T c6 h
      refine v_aload hX dX7_follow_135 5 rfl ?_
      obtain ⟨a7, e_a7, h⟩ := h
      refine v_nn0 e_a7 ?_
      obtain ⟨k8, h⟩ := h
      refine v_getI hX dX7_follow_137 f_RX7_161 rfl k8 ?_
      refine v_istore (lv' := [(4, _), (0, _), (5, _), (6, _), (7, _), (9, _)]) hX dX7_follow_140 (by decide) rfl ?_
      refine v_aload hX dX7_follow_142 5 rfl ?_
      refine v_iload hX dX7_follow_144 2 rfl ?_
      obtain ⟨a9, e_a9, h⟩ := h
      refine v_nn1 e_a9 ?_
      obtain ⟨k10, h⟩ := h
      refine v_callVi0 hX dX7_follow_146 c_RX7_164 cV_X2_momentWithin (ci := 3) (T := TX2) (N := 5) rfl (by exact k10) [pI _] rfl rfl (Nat.le_of_ble_eq_true rfl) (by decide) (by decide)  (m_X2_momentWithin h) (fun p12 s11 h => ?_)
      refine v_istore (lv' := [(5, _), (4, _), (0, _), (6, _), (7, _), (9, _)]) hX dX7_follow_149 (by decide) rfl ?_
      refine v_iload hX dX7_follow_151 3 rfl ?_
      refine v_aload hX dX7_follow_153 5 rfl ?_
      obtain ⟨a13, e_a13, h⟩ := h
      refine v_nn0 e_a13 ?_
      obtain ⟨k14, h⟩ := h
      refine v_getI hX dX7_follow_155 f_RX7_158 rfl k14 ?_
      refine v_iadd hX dX7_follow_158 ?_
      refine v_istore (lv' := [(6, _), (5, _), (4, _), (0, _), (7, _), (9, _)]) hX dX7_follow_159 (by decide) rfl ?_
      refine v_iinc (c := 1) (lv' := [(7, _), (6, _), (5, _), (4, _), (0, _), (9, _)]) hX dX7_follow_161 4 rfl (by decide) (by decide) rfl ?_
      refine v_goto (tgt := 12) hX dX7_follow_164 (by decide) ?_
      refine v_pick [4, 3, 2, 1, 0] rfl ?_
      exact hK12 _ _ _ _ _ _ _ _ h
    · have h := h_E c6 h
      refine v_aload_n hX dX7_follow_116 0 rfl rfl ?_
      refine v_iload hX dX7_follow_117 4 rfl ?_
      refine v_iconst (v := 1) hX dX7_follow_119 (by decide) ?_
      refine v_iadd hX dX7_follow_120 ?_
      refine v_iload hX dX7_follow_121 1 rfl ?_
      refine v_aload hX dX7_follow_123 5 rfl ?_
      obtain ⟨a15, e_a15, h⟩ := h
      refine v_nn0 e_a15 ?_
      obtain ⟨k16, h⟩ := h
      refine v_getI hX dX7_follow_125 f_RX7_158 rfl k16 ?_
      refine v_iload hX dX7_follow_128 3 rfl ?_
      refine v_iadd hX dX7_follow_130 ?_
      obtain ⟨k17, h⟩ := h
      refine v_callVi0 hX dX7_follow_131 c_RX7_218 cV_X7_endAtHome (ci := 8) (T := TX7) (N := 13) rfl (by exact k17) [pI _, pI _, pI _] rfl rfl (Nat.le_of_ble_eq_true rfl) (by decide) (by decide)  (m_X7_endAtHome h) (fun p19 s18 h => ?_)
      exact v_iret hX hE dX7_follow_134 h
  · have h := h_T c1 h
    refine v_iconst (v := 0) hX dX7_follow_106 (by decide) ?_
    exact v_iret hX hE dX7_follow_107 h
set_option maxRecDepth 100000 in
set_option maxHeartbeats 4000000 in
theorem b_X7_follow_43 {X : h_X} (hX : h_ok X cX7_follow 12 RX7 16 484) {Q : Int32 → h_S → Prop} (hE : h_end X (some .int) (h_QI (x_Z X) Q)) {K12 : Nat → Int32 → Int32 → Int32 → Int32 → h_S → Nat → Nat → Prop} (hK12 : ∀ (o0 : Nat) (x4 : Int32) (x5 : Int32) (x6 : Int32) (x7 : Int32) (s : h_S) (bc bs : Nat), K12 o0 x4 x5 x6 x7 s bc bs → h_V X 12 12 [(0, pR (some o0)), (4, pI x4), (5, pI x5), (6, pI x6), (7, pI x7)] [] s bc bs) : ∀ (n : Nat) (o0 : Nat) (x4 : Int32) (x5 : Int32) (x6 : Int32) (x7 : Int32) (r8 : Option Nat) (r9 : Option Nat) (x10 : Int32) (s : h_S) (bc bs : Nat), w_X7_follow_43 Q K12 n o0 x4 x5 x6 x7 r8 r9 x10 s bc bs → h_V X 12 43 [(0, pR (some o0)), (4, pI x4), (5, pI x5), (6, pI x6), (7, pI x7), (8, pR r8), (9, pR r9), (10, pI x10)] [] s bc bs := by
  intro n
  induction n with
  | zero => intro _ _ _ _ _ _ _ _ s bc bs h; exact h.elim
  | succ n hK43 =>
    intro o0 x4 x5 x6 x7 r8 r9 x10 s bc bs h
    have h : w_X7_follow_43b Q K12 (w_X7_follow_43 Q K12 n) o0 x4 x5 x6 x7 r8 r9 x10 s bc bs := h
    unfold w_X7_follow_43b at h
    refine v_iload hX dX7_follow_43 7 rfl ?_
    refine v_aload hX dX7_follow_45 5 rfl ?_
    obtain ⟨a1, e_a1, h⟩ := h
    refine v_nn0 e_a1 ?_
    obtain ⟨k2, h⟩ := h
    refine v_alenK hX dX7_follow_47 (k := 3) rfl (by decide) (by decide) k2 ?_
    refine v_icmp_ge (tgt := 101) hX dX7_follow_48 (by decide) (fun c3 => ?_) (fun c3 => ?_)
    · have h := h_T c3 h
      refine v_pick [0, 1, 2, 3, 4, 6] rfl ?_
      exact b_X7_follow_101 hX hE hK12 _ h
    · have h := h_E c3 h
      refine v_aload hX dX7_follow_51 6 rfl ?_
      refine v_ifnonnull (tgt := 101) hX dX7_follow_53 (by decide) (fun c4 => ?_) (fun c4 => ?_)
      · have h := h_E c4 h
        refine v_pick [0, 1, 2, 3, 4, 6] rfl ?_
        exact b_X7_follow_101 hX hE hK12 _ h
      · have h := h_T c4 h
        refine v_aload_n hX dX7_follow_56 0 rfl rfl ?_
        refine v_aload hX dX7_follow_57 5 rfl ?_
        refine v_iload hX dX7_follow_59 7 rfl ?_
        obtain ⟨a5, e_a5, h⟩ := h
        refine v_nn1 e_a5 ?_
        obtain ⟨k6, h⟩ := h
        obtain ⟨i7, h⟩ := h
        refine v_aald (k := 3) hX dX7_follow_61 rfl rfl (by decide) (by decide) k6 i7 ?_
        refine v_iload hX dX7_follow_62 2 rfl ?_
        refine v_iload hX dX7_follow_64 4 rfl ?_
        obtain ⟨k8, h⟩ := h
        obtain ⟨mc11, ms12, b13, b14, h⟩ := h
        refine v_callVi hX dX7_follow_66 c_RX7_195 cV_X7_sizeOf (ci := 8) (T := TX7) (N := 13) rfl (by exact k8) [pR _, pI _, pI _] rfl rfl (Nat.le_of_ble_eq_true rfl) (by decide) (by decide) b13 b14 (m_X7_sizeOf h) (fun p10 s9 h => ?_)
        refine v_istore (lv' := [(11, _), (0, _), (4, _), (5, _), (6, _), (7, _), (8, _), (9, _), (10, _)]) hX dX7_follow_69 (by decide) rfl ?_
        refine v_iload hX dX7_follow_71 4 rfl ?_
        refine v_iload hX dX7_follow_73 0 rfl ?_
        refine v_icmp_ge (tgt := 88) hX dX7_follow_75 (by decide) (fun c15 => ?_) (fun c15 => ?_)
        · have h := h_T c15 h
          refine v_iload hX dX7_follow_88 4 rfl ?_
          refine v_iload hX dX7_follow_90 0 rfl ?_
          refine v_isub hX dX7_follow_92 ?_
          refine v_istore (lv' := [(6, _), (11, _), (0, _), (4, _), (5, _), (7, _), (8, _), (9, _), (10, _)]) hX dX7_follow_93 (by decide) rfl ?_
          refine v_pick [2, 3, 4, 0, 5, 6, 7, 8] rfl ?_
          exact b_X7_follow_95 hX hE hK12 hK43 _ h
        · have h := h_E c15 h
          refine v_aload hX dX7_follow_78 6 rfl ?_
          refine v_iload hX dX7_follow_80 8 rfl ?_
          obtain ⟨a16, e_a16, h⟩ := h
          refine v_nn1 e_a16 ?_
          obtain ⟨k17, h⟩ := h
          obtain ⟨i18, h⟩ := h
          refine v_aald (k := 3) hX dX7_follow_82 rfl rfl (by decide) (by decide) k17 i18 ?_
          refine v_astore (lv' := [(9, _), (11, _), (0, _), (4, _), (5, _), (6, _), (7, _), (8, _), (10, _)]) hX dX7_follow_83 (by decide) rfl ?_
          refine v_goto (tgt := 95) hX dX7_follow_85 (by decide) ?_
          refine v_pick [2, 3, 4, 5, 6, 7, 0, 8] rfl ?_
          exact b_X7_follow_95 hX hE hK12 hK43 _ h
set_option maxRecDepth 100000 in
set_option maxHeartbeats 4000000 in
theorem b_X7_follow_12 {X : h_X} (hX : h_ok X cX7_follow 12 RX7 16 484) {Q : Int32 → h_S → Prop} (hE : h_end X (some .int) (h_QI (x_Z X) Q)) : ∀ (n : Nat) (o0 : Nat) (x4 : Int32) (x5 : Int32) (x6 : Int32) (x7 : Int32) (s : h_S) (bc bs : Nat), w_X7_follow_12 Q n o0 x4 x5 x6 x7 s bc bs → h_V X 12 12 [(0, pR (some o0)), (4, pI x4), (5, pI x5), (6, pI x6), (7, pI x7)] [] s bc bs := by
  intro n
  induction n with
  | zero => intro _ _ _ _ _ s bc bs h; exact h.elim
  | succ n hK12 =>
    intro o0 x4 x5 x6 x7 s bc bs h
    have h : w_X7_follow_12b Q (w_X7_follow_12 Q n) o0 x4 x5 x6 x7 s bc bs := h
    unfold w_X7_follow_12b at h
    refine v_iload hX dX7_follow_12 4 rfl ?_
    refine v_iconst (v := 4) hX dX7_follow_14 (by decide) ?_
    refine v_icmp_gt (tgt := 167) hX dX7_follow_15 (by decide) (fun c1 => ?_) (fun c1 => ?_)
    · have h := h_T c1 h
      refine v_iconst (v := 0) hX dX7_follow_167 (by decide) ?_
      exact v_iret hX hE dX7_follow_168 h
    · have h := h_E c1 h
      refine v_aload_n hX dX7_follow_18 0 rfl rfl ?_
      obtain ⟨k2, h⟩ := h
      refine v_getR hX dX7_follow_19 f_RX7_54 rfl k2 ?_
      refine v_iload hX dX7_follow_22 4 rfl ?_
      refine v_iload hX dX7_follow_24 1 rfl ?_
      obtain ⟨a3, e_a3, h⟩ := h
      refine v_nn2 e_a3 ?_
      obtain ⟨k4, h⟩ := h
      obtain ⟨i5, h⟩ := h
      refine v_iast hX dX7_follow_26 k4 i5 ?_
      refine v_aload_n hX dX7_follow_27 0 rfl rfl ?_
      refine v_iload hX dX7_follow_28 1 rfl ?_
      refine v_iload hX dX7_follow_30 2 rfl ?_
      refine v_callVr0 hX dX7_follow_32 c_RX7_142 cV_X7_piecesAsOf (ci := 8) (T := TX7) (N := 13) rfl (by exact k2) [pI _, pI _] rfl rfl (Nat.le_of_ble_eq_true rfl) (by decide) (by decide)  (m_X7_piecesAsOf h) (fun p8 s7 h => ?_)
      refine v_astore (lv' := [(8, _), (0, _), (4, _), (5, _), (6, _), (7, _)]) hX dX7_follow_35 (by decide) rfl ?_
      refine v_null hX dX7_follow_37 ?_
      refine v_astore (lv' := [(9, _), (8, _), (0, _), (4, _), (5, _), (6, _), (7, _)]) hX dX7_follow_38 (by decide) rfl ?_
      refine v_iconst (v := 0) hX dX7_follow_40 (by decide) ?_
      refine v_istore (lv' := [(10, _), (9, _), (8, _), (0, _), (4, _), (5, _), (6, _), (7, _)]) hX dX7_follow_41 (by decide) rfl ?_
      refine v_pick [3, 4, 5, 6, 7, 2, 1, 0] rfl ?_
      obtain ⟨n, h⟩ := h
      exact b_X7_follow_43 hX hE hK12 n _ _ _ _ _ _ _ _ _ _ _ h
set_option maxRecDepth 100000 in
set_option maxHeartbeats 4000000 in
theorem m_X7_follow {Z : h_Z} {o0 : Nat} {x1 : Int32} {x2 : Int32} {x3 : Int32} {s : h_S} {mc ms : Nat} {Q : Int32 → h_S → Prop} (h : w_X7_follow o0 x1 x2 x3 s mc ms Q) : h_M Z yX7_follow cX7_follow 12 (some .int) 16 484 [pR (some o0), pI x1, pI x2, pI x3] s mc ms (h_QI Z Q) := by
  refine h_M.of (by decide) (Nat.le_of_ble_eq_true rfl) (fun X hZ hX hE hI => ?_)
  subst hZ
  unfold w_X7_follow at h
  show h_V X 12 0 [(0, pR (some o0)), (1, pI x1), (2, pI x2), (3, pI x3)] [] s mc ms
  refine v_iload_n hX dX7_follow_0 1 rfl rfl ?_
  refine v_istore (lv' := [(4, _), (0, _), (1, _), (2, _), (3, _)]) hX dX7_follow_1 (by decide) rfl ?_
  refine v_iload_n hX dX7_follow_3 3 rfl rfl ?_
  refine v_istore (lv' := [(5, _), (4, _), (0, _), (1, _), (2, _), (3, _)]) hX dX7_follow_4 (by decide) rfl ?_
  refine v_iload_n hX dX7_follow_6 5 rfl rfl ?_
  refine v_istore (lv' := [(6, _), (5, _), (4, _), (0, _), (1, _), (2, _), (3, _)]) hX dX7_follow_7 (by decide) rfl ?_
  refine v_iconst (v := 0) hX dX7_follow_9 (by decide) ?_
  refine v_istore (lv' := [(7, _), (6, _), (5, _), (4, _), (0, _), (1, _), (2, _), (3, _)]) hX dX7_follow_10 (by decide) rfl ?_
  refine v_pick [4, 3, 2, 1, 0] rfl ?_
  obtain ⟨n, h⟩ := h
  exact b_X7_follow_12 hX hE n _ _ _ _ _ _ _ _ h
set_option maxRecDepth 100000 in
set_option maxHeartbeats 4000000 in
theorem b_X7_livesOf_45 {X : h_X} (hX : h_ok X cX7_livesOf 5 RX7 2 42) {Q : Int32 → h_S → Prop} (hE : h_end X (some .int) (h_QI (x_Z X) Q)) {K4 : Nat → Int32 → Int32 → Int32 → h_S → Prop} (hK4 : ∀ (o0 : Nat) (x1 : Int32) (x2 : Int32) (x3 : Int32) (s : h_S), K4 o0 x1 x2 x3 s → h_V X 5 4 [(0, pR (some o0)), (1, pI x1), (2, pI x2), (3, pI x3)] [] s 0 0) {o0 : Nat} {x1 : Int32} {x2 : Int32} {x3 : Int32} (s : h_S) (h : w_X7_livesOf_45 Q K4 o0 x1 x2 x3 s) : h_V X 5 45 [(0, pR (some o0)), (1, pI x1), (2, pI x2), (3, pI x3)] [] s 0 0 := by
  unfold w_X7_livesOf_45 at h
  refine v_iinc (c := 1) (lv' := [(3, _), (0, _), (1, _), (2, _)]) hX dX7_livesOf_45 3 rfl (by decide) (by decide) rfl ?_
  refine v_goto (tgt := 4) hX dX7_livesOf_48 (by decide) ?_
  refine v_pick [1, 2, 3, 0] rfl ?_
  exact hK4 _ _ _ _ _ h
set_option maxRecDepth 100000 in
set_option maxHeartbeats 4000000 in
theorem b_X7_livesOf_4 {X : h_X} (hX : h_ok X cX7_livesOf 5 RX7 2 42) {Q : Int32 → h_S → Prop} (hE : h_end X (some .int) (h_QI (x_Z X) Q)) : ∀ (n : Nat) (o0 : Nat) (x1 : Int32) (x2 : Int32) (x3 : Int32) (s : h_S), w_X7_livesOf_4 Q n o0 x1 x2 x3 s → h_V X 5 4 [(0, pR (some o0)), (1, pI x1), (2, pI x2), (3, pI x3)] [] s 0 0 := by
  intro n
  induction n with
  | zero => intro _ _ _ _ s h; exact h.elim
  | succ n hK4 =>
    intro o0 x1 x2 x3 s h
    have h : w_X7_livesOf_4b Q (w_X7_livesOf_4 Q n) o0 x1 x2 x3 s := h
    unfold w_X7_livesOf_4b at h
    refine v_iload_n hX dX7_livesOf_4 3 rfl rfl ?_
    refine v_aload_n hX dX7_livesOf_5 0 rfl rfl ?_
    refine v_iload_n hX dX7_livesOf_6 1 rfl rfl ?_
    obtain ⟨k1, h⟩ := h
    refine v_callVi0 hX dX7_livesOf_7 c_RX7_119 cV_X7_pieceCount (ci := 8) (T := TX7) (N := 13) rfl (by exact k1) [pI _] rfl rfl (Nat.le_of_ble_eq_true rfl) (by decide) (by decide)  (m_X7_pieceCount h) (fun p3 s2 h => ?_)
    refine v_icmp_ge (tgt := 51) hX dX7_livesOf_10 (by decide) (fun c4 => ?_) (fun c4 => ?_)
    · have h := h_T c4 h
      refine v_iload_n hX dX7_livesOf_51 2 rfl rfl ?_
      exact v_iret hX hE dX7_livesOf_52 h
    · have h := h_E c4 h
      refine v_aload_n hX dX7_livesOf_13 0 rfl rfl ?_
      obtain ⟨k5, h⟩ := h
      refine v_getR hX dX7_livesOf_14 f_RX7_17 rfl k5 ?_
      refine v_iload_n hX dX7_livesOf_17 1 rfl rfl ?_
      obtain ⟨a6, e_a6, h⟩ := h
      refine v_nn1 e_a6 ?_
      obtain ⟨k7, h⟩ := h
      obtain ⟨i8, h⟩ := h
      refine v_aald (k := 4) hX dX7_livesOf_18 rfl rfl (by decide) (by decide) k7 i8 ?_
      obtain ⟨a9, e_a9, h⟩ := h
      refine v_nn0 e_a9 ?_
      obtain ⟨k10, h⟩ := h
      refine v_getR hX dX7_livesOf_19 f_RX7_112 rfl k10 ?_
      refine v_iload_n hX dX7_livesOf_22 3 rfl rfl ?_
      obtain ⟨a11, e_a11, h⟩ := h
      refine v_nn1 e_a11 ?_
      obtain ⟨k12, h⟩ := h
      obtain ⟨i13, h⟩ := h
      refine v_aald (k := 3) hX dX7_livesOf_23 rfl rfl (by decide) (by decide) k12 i13 ?_
      refine v_astore (lv' := [(4, _), (0, _), (1, _), (2, _), (3, _)]) hX dX7_livesOf_24 (by decide) rfl ?_
      refine v_aload hX dX7_livesOf_26 0 rfl ?_
      obtain ⟨a14, e_a14, h⟩ := h
      refine v_nn0 e_a14 ?_
      obtain ⟨k15, h⟩ := h
      refine v_getI hX dX7_livesOf_28 f_RX7_228 rfl k15 ?_
      refine v_iconst (v := 3) hX dX7_livesOf_31 (by decide) ?_
      refine v_icmp_ne (tgt := 45) hX dX7_livesOf_32 (by decide) (fun c16 => ?_) (fun c16 => ?_)
      · have h := h_E c16 h
        refine v_pick [1, 2, 3, 4] rfl ?_
        exact b_X7_livesOf_45 hX hE hK4 _ h
      · have h := h_T c16 h
        refine v_iload_n hX dX7_livesOf_35 3 rfl rfl ?_
        refine v_iconst (v := 1) hX dX7_livesOf_36 (by decide) ?_
        refine v_aload hX dX7_livesOf_37 0 rfl ?_
        obtain ⟨a17, e_a17, h⟩ := h
        refine v_nn0 e_a17 ?_
        obtain ⟨k18, h⟩ := h
        refine v_getI hX dX7_livesOf_39 f_RX7_161 rfl k18 ?_
        refine v_ishl hX dX7_livesOf_42 ?_
        refine v_ior hX dX7_livesOf_43 ?_
        refine v_istore_n (lv' := [(2, _), (4, _), (0, _), (1, _), (3, _)]) hX dX7_livesOf_44 rfl (by decide) rfl ?_
        refine v_pick [2, 3, 0, 4] rfl ?_
        exact b_X7_livesOf_45 hX hE hK4 _ h
set_option maxRecDepth 100000 in
set_option maxHeartbeats 4000000 in
theorem m_X7_livesOf {Z : h_Z} {o0 : Nat} {x1 : Int32} {s : h_S} {Q : Int32 → h_S → Prop} (h : w_X7_livesOf o0 x1 s Q) : h_M Z yX7_livesOf cX7_livesOf 5 (some .int) 2 42 [pR (some o0), pI x1] s 0 0 (h_QI Z Q) := by
  refine h_M.of (by decide) (Nat.le_of_ble_eq_true rfl) (fun X hZ hX hE hI => ?_)
  subst hZ
  unfold w_X7_livesOf at h
  show h_V X 5 0 [(0, pR (some o0)), (1, pI x1)] [] s 0 0
  refine v_iconst (v := 0) hX dX7_livesOf_0 (by decide) ?_
  refine v_istore_n (lv' := [(2, _), (0, _), (1, _)]) hX dX7_livesOf_1 rfl (by decide) rfl ?_
  refine v_iconst (v := 0) hX dX7_livesOf_2 (by decide) ?_
  refine v_istore_n (lv' := [(3, _), (2, _), (0, _), (1, _)]) hX dX7_livesOf_3 rfl (by decide) rfl ?_
  refine v_pick [2, 3, 1, 0] rfl ?_
  obtain ⟨n, h⟩ := h
  exact b_X7_livesOf_4 hX hE n _ _ _ _ _ h
set_option maxRecDepth 100000 in
set_option maxHeartbeats 4000000 in
theorem b_X7_quotedBy_73 {X : h_X} (hX : h_ok X cX7_quotedBy 5 RX7 5 110) {Q : Int32 → h_S → Prop} (hE : h_end X (some .int) (h_QI (x_Z X) Q)) {K4 : Nat → Int32 → Int32 → Int32 → h_S → Prop} (hK4 : ∀ (o0 : Nat) (x1 : Int32) (x2 : Int32) (x3 : Int32) (s : h_S), K4 o0 x1 x2 x3 s → h_V X 5 4 [(0, pR (some o0)), (1, pI x1), (2, pI x2), (3, pI x3)] [] s 0 0) {o0 : Nat} {x1 : Int32} {x2 : Int32} {x3 : Int32} (s : h_S) (h : w_X7_quotedBy_73 Q K4 o0 x1 x2 x3 s) : h_V X 5 73 [(0, pR (some o0)), (1, pI x1), (2, pI x2), (3, pI x3)] [] s 0 0 := by
  unfold w_X7_quotedBy_73 at h
  refine v_iinc (c := 1) (lv' := [(3, _), (0, _), (1, _), (2, _)]) hX dX7_quotedBy_73 3 rfl (by decide) (by decide) rfl ?_
  refine v_goto (tgt := 4) hX dX7_quotedBy_76 (by decide) ?_
  refine v_pick [1, 2, 3, 0] rfl ?_
  exact hK4 _ _ _ _ _ h
set_option maxRecDepth 100000 in
set_option maxHeartbeats 4000000 in
theorem b_X7_quotedBy_4 {X : h_X} (hX : h_ok X cX7_quotedBy 5 RX7 5 110) {Q : Int32 → h_S → Prop} (hE : h_end X (some .int) (h_QI (x_Z X) Q)) : ∀ (n : Nat) (o0 : Nat) (x1 : Int32) (x2 : Int32) (x3 : Int32) (s : h_S), w_X7_quotedBy_4 Q n o0 x1 x2 x3 s → h_V X 5 4 [(0, pR (some o0)), (1, pI x1), (2, pI x2), (3, pI x3)] [] s 0 0 := by
  intro n
  induction n with
  | zero => intro _ _ _ _ s h; exact h.elim
  | succ n hK4 =>
    intro o0 x1 x2 x3 s h
    have h : w_X7_quotedBy_4b Q (w_X7_quotedBy_4 Q n) o0 x1 x2 x3 s := h
    unfold w_X7_quotedBy_4b at h
    refine v_iload_n hX dX7_quotedBy_4 3 rfl rfl ?_
    refine v_aload_n hX dX7_quotedBy_5 0 rfl rfl ?_
    refine v_iload_n hX dX7_quotedBy_6 1 rfl rfl ?_
    obtain ⟨k1, h⟩ := h
    refine v_callVi0 hX dX7_quotedBy_7 c_RX7_119 cV_X7_pieceCount (ci := 8) (T := TX7) (N := 13) rfl (by exact k1) [pI _] rfl rfl (Nat.le_of_ble_eq_true rfl) (by decide) (by decide)  (m_X7_pieceCount h) (fun p3 s2 h => ?_)
    refine v_icmp_ge (tgt := 79) hX dX7_quotedBy_10 (by decide) (fun c4 => ?_) (fun c4 => ?_)
    · have h := h_T c4 h
      refine v_iload_n hX dX7_quotedBy_79 2 rfl rfl ?_
      exact v_iret hX hE dX7_quotedBy_80 h
    · have h := h_E c4 h
      refine v_aload_n hX dX7_quotedBy_13 0 rfl rfl ?_
      obtain ⟨k5, h⟩ := h
      refine v_getR hX dX7_quotedBy_14 f_RX7_17 rfl k5 ?_
      refine v_iload_n hX dX7_quotedBy_17 1 rfl rfl ?_
      obtain ⟨a6, e_a6, h⟩ := h
      refine v_nn1 e_a6 ?_
      obtain ⟨k7, h⟩ := h
      obtain ⟨i8, h⟩ := h
      refine v_aald (k := 4) hX dX7_quotedBy_18 rfl rfl (by decide) (by decide) k7 i8 ?_
      obtain ⟨a9, e_a9, h⟩ := h
      refine v_nn0 e_a9 ?_
      obtain ⟨k10, h⟩ := h
      refine v_getR hX dX7_quotedBy_19 f_RX7_112 rfl k10 ?_
      refine v_iload_n hX dX7_quotedBy_22 3 rfl rfl ?_
      obtain ⟨a11, e_a11, h⟩ := h
      refine v_nn1 e_a11 ?_
      obtain ⟨k12, h⟩ := h
      obtain ⟨i13, h⟩ := h
      refine v_aald (k := 3) hX dX7_quotedBy_23 rfl rfl (by decide) (by decide) k12 i13 ?_
      refine v_astore (lv' := [(4, _), (0, _), (1, _), (2, _), (3, _)]) hX dX7_quotedBy_24 (by decide) rfl ?_
      refine v_aload hX dX7_quotedBy_26 0 rfl ?_
      obtain ⟨a14, e_a14, h⟩ := h
      refine v_nn0 e_a14 ?_
      obtain ⟨k15, h⟩ := h
      refine v_getI hX dX7_quotedBy_28 f_RX7_228 rfl k15 ?_
      refine v_iconst (v := 1) hX dX7_quotedBy_31 (by decide) ?_
      refine v_icmp_ne (tgt := 55) hX dX7_quotedBy_32 (by decide) (fun c16 => ?_) (fun c16 => ?_)
      · have h := h_E c16 h
        refine v_aload hX dX7_quotedBy_55 0 rfl ?_
        obtain ⟨a17, e_a17, h⟩ := h
        refine v_nn0 e_a17 ?_
        obtain ⟨k18, h⟩ := h
        refine v_callVi0 hX dX7_quotedBy_57 c_RX7_154 cV_X2_hasWords (ci := 3) (T := TX2) (N := 5) rfl (by exact k18) [] rfl rfl (Nat.le_of_ble_eq_true rfl) (by decide) (by decide)  (m_X2_hasWords h) (fun p20 s19 h => ?_)
        refine v_if_ne (tgt := 73) hX dX7_quotedBy_60 (by decide) (fun c21 => ?_) (fun c21 => ?_)
        · have h := h_E c21 h
          refine v_pick [1, 2, 3, 4] rfl ?_
          exact b_X7_quotedBy_73 hX hE hK4 _ h
        · have h := h_T c21 h
          refine v_iload_n hX dX7_quotedBy_63 3 rfl rfl ?_
          refine v_iconst (v := 1) hX dX7_quotedBy_64 (by decide) ?_
          refine v_aload hX dX7_quotedBy_65 0 rfl ?_
          obtain ⟨a22, e_a22, h⟩ := h
          refine v_nn0 e_a22 ?_
          obtain ⟨k23, h⟩ := h
          refine v_getI hX dX7_quotedBy_67 f_RX7_161 rfl k23 ?_
          refine v_ishl hX dX7_quotedBy_70 ?_
          refine v_ior hX dX7_quotedBy_71 ?_
          refine v_istore_n (lv' := [(2, _), (4, _), (0, _), (1, _), (3, _)]) hX dX7_quotedBy_72 rfl (by decide) rfl ?_
          refine v_pick [2, 3, 0, 4] rfl ?_
          exact b_X7_quotedBy_73 hX hE hK4 _ h
      · have h := h_T c16 h
        refine v_iload_n hX dX7_quotedBy_35 3 rfl rfl ?_
        refine v_aload_n hX dX7_quotedBy_36 1 rfl rfl ?_
        refine v_aload hX dX7_quotedBy_37 0 rfl ?_
        obtain ⟨a25, e_a25, h⟩ := h
        refine v_nn0 e_a25 ?_
        obtain ⟨k26, h⟩ := h
        refine v_getI hX dX7_quotedBy_39 f_RX7_158 rfl k26 ?_
        refine v_aload hX dX7_quotedBy_42 0 rfl ?_
        obtain ⟨a27, e_a27, h⟩ := h
        refine v_nn0 e_a27 ?_
        obtain ⟨k28, h⟩ := h
        refine v_getI hX dX7_quotedBy_44 f_RX7_157 rfl k28 ?_
        refine v_callVi0 hX dX7_quotedBy_47 c_RX7_231 cV_X7_homesOf (ci := 8) (T := TX7) (N := 13) rfl (by exact k5) [pI _, pI _] rfl rfl (Nat.le_of_ble_eq_true rfl) (by decide) (by decide)  (m_X7_homesOf h) (fun p30 s29 h => ?_)
        refine v_ior hX dX7_quotedBy_50 ?_
        refine v_istore_n (lv' := [(2, _), (4, _), (0, _), (1, _), (3, _)]) hX dX7_quotedBy_51 rfl (by decide) rfl ?_
        refine v_goto (tgt := 73) hX dX7_quotedBy_52 (by decide) ?_
        refine v_pick [2, 3, 0, 4] rfl ?_
        exact b_X7_quotedBy_73 hX hE hK4 _ h
set_option maxRecDepth 100000 in
set_option maxHeartbeats 4000000 in
theorem m_X7_quotedBy {Z : h_Z} {o0 : Nat} {x1 : Int32} {s : h_S} {Q : Int32 → h_S → Prop} (h : w_X7_quotedBy o0 x1 s Q) : h_M Z yX7_quotedBy cX7_quotedBy 5 (some .int) 5 110 [pR (some o0), pI x1] s 0 0 (h_QI Z Q) := by
  refine h_M.of (by decide) (Nat.le_of_ble_eq_true rfl) (fun X hZ hX hE hI => ?_)
  subst hZ
  unfold w_X7_quotedBy at h
  show h_V X 5 0 [(0, pR (some o0)), (1, pI x1)] [] s 0 0
  refine v_iconst (v := 0) hX dX7_quotedBy_0 (by decide) ?_
  refine v_istore_n (lv' := [(2, _), (0, _), (1, _)]) hX dX7_quotedBy_1 rfl (by decide) rfl ?_
  refine v_iconst (v := 0) hX dX7_quotedBy_2 (by decide) ?_
  refine v_istore_n (lv' := [(3, _), (2, _), (0, _), (1, _)]) hX dX7_quotedBy_3 rfl (by decide) rfl ?_
  refine v_pick [2, 3, 1, 0] rfl ?_
  obtain ⟨n, h⟩ := h
  exact b_X7_quotedBy_4 hX hE n _ _ _ _ _ h
set_option maxRecDepth 100000 in
set_option maxHeartbeats 4000000 in
theorem b_X7_stepsBetween_82 {X : h_X} (hX : h_ok X cX7_stepsBetween 9 RX7 6 134) {Q : Int32 → h_S → Prop} (hE : h_end X (some .int) (h_QI (x_Z X) Q)) {K12 : Nat → Int32 → Int32 → Int32 → Int32 → Int32 → h_S → Prop} (hK12 : ∀ (o0 : Nat) (x2 : Int32) (x3 : Int32) (x4 : Int32) (x5 : Int32) (x6 : Int32) (s : h_S), K12 o0 x2 x3 x4 x5 x6 s → h_V X 9 12 [(0, pR (some o0)), (2, pI x2), (3, pI x3), (4, pI x4), (5, pI x5), (6, pI x6)] [] s 0 0) {K38 : Nat → Int32 → Int32 → Int32 → Int32 → Int32 → Int32 → Int32 → h_S → Prop} (hK38 : ∀ (o0 : Nat) (x2 : Int32) (x3 : Int32) (x4 : Int32) (x5 : Int32) (x6 : Int32) (x7 : Int32) (x8 : Int32) (s : h_S), K38 o0 x2 x3 x4 x5 x6 x7 x8 s → h_V X 9 38 [(0, pR (some o0)), (2, pI x2), (3, pI x3), (4, pI x4), (5, pI x5), (6, pI x6), (7, pI x7), (8, pI x8)] [] s 0 0) {o0 : Nat} {x2 : Int32} {x3 : Int32} {x4 : Int32} {x5 : Int32} {x6 : Int32} {x7 : Int32} {x8 : Int32} (s : h_S) (h : w_X7_stepsBetween_82 Q K12 K38 o0 x2 x3 x4 x5 x6 x7 x8 s) : h_V X 9 82 [(0, pR (some o0)), (2, pI x2), (3, pI x3), (4, pI x4), (5, pI x5), (6, pI x6), (7, pI x7), (8, pI x8)] [] s 0 0 := by
  unfold w_X7_stepsBetween_82 at h
  refine v_iinc (c := 1) (lv' := [(8, _), (0, _), (2, _), (3, _), (4, _), (5, _), (6, _), (7, _)]) hX dX7_stepsBetween_82 7 rfl (by decide) (by decide) rfl ?_
  refine v_goto (tgt := 38) hX dX7_stepsBetween_85 (by decide) ?_
  refine v_pick [1, 2, 3, 4, 5, 6, 7, 0] rfl ?_
  exact hK38 _ _ _ _ _ _ _ _ _ h
set_option maxRecDepth 100000 in
set_option maxHeartbeats 4000000 in
theorem b_X7_stepsBetween_79 {X : h_X} (hX : h_ok X cX7_stepsBetween 9 RX7 6 134) {Q : Int32 → h_S → Prop} (hE : h_end X (some .int) (h_QI (x_Z X) Q)) {K12 : Nat → Int32 → Int32 → Int32 → Int32 → Int32 → h_S → Prop} (hK12 : ∀ (o0 : Nat) (x2 : Int32) (x3 : Int32) (x4 : Int32) (x5 : Int32) (x6 : Int32) (s : h_S), K12 o0 x2 x3 x4 x5 x6 s → h_V X 9 12 [(0, pR (some o0)), (2, pI x2), (3, pI x3), (4, pI x4), (5, pI x5), (6, pI x6)] [] s 0 0) {K38 : Nat → Int32 → Int32 → Int32 → Int32 → Int32 → Int32 → Int32 → h_S → Prop} (hK38 : ∀ (o0 : Nat) (x2 : Int32) (x3 : Int32) (x4 : Int32) (x5 : Int32) (x6 : Int32) (x7 : Int32) (x8 : Int32) (s : h_S), K38 o0 x2 x3 x4 x5 x6 x7 x8 s → h_V X 9 38 [(0, pR (some o0)), (2, pI x2), (3, pI x3), (4, pI x4), (5, pI x5), (6, pI x6), (7, pI x7), (8, pI x8)] [] s 0 0) {o0 : Nat} {x2 : Int32} {x3 : Int32} {x4 : Int32} {x5 : Int32} {x6 : Int32} {x8 : Int32} {y0 : Int32} {y1 : Int32} (s : h_S) (h : w_X7_stepsBetween_79 Q K12 K38 o0 x2 x3 x4 x5 x6 x8 y0 y1 s) : h_V X 9 79 [(0, pR (some o0)), (2, pI x2), (3, pI x3), (4, pI x4), (5, pI x5), (6, pI x6), (8, pI x8)] [pI y0, pI y1] s 0 0 := by
  unfold w_X7_stepsBetween_79 at h
  refine v_ior hX dX7_stepsBetween_79 ?_
  refine v_istore (lv' := [(7, _), (0, _), (2, _), (3, _), (4, _), (5, _), (6, _), (8, _)]) hX dX7_stepsBetween_80 (by decide) rfl ?_
  refine v_pick [1, 2, 3, 4, 5, 6, 0, 7] rfl ?_
  exact b_X7_stepsBetween_82 hX hE hK12 hK38 _ h
set_option maxRecDepth 100000 in
set_option maxHeartbeats 4000000 in
theorem b_X7_stepsBetween_38 {X : h_X} (hX : h_ok X cX7_stepsBetween 9 RX7 6 134) {Q : Int32 → h_S → Prop} (hE : h_end X (some .int) (h_QI (x_Z X) Q)) {K12 : Nat → Int32 → Int32 → Int32 → Int32 → Int32 → h_S → Prop} (hK12 : ∀ (o0 : Nat) (x2 : Int32) (x3 : Int32) (x4 : Int32) (x5 : Int32) (x6 : Int32) (s : h_S), K12 o0 x2 x3 x4 x5 x6 s → h_V X 9 12 [(0, pR (some o0)), (2, pI x2), (3, pI x3), (4, pI x4), (5, pI x5), (6, pI x6)] [] s 0 0) : ∀ (n : Nat) (o0 : Nat) (x2 : Int32) (x3 : Int32) (x4 : Int32) (x5 : Int32) (x6 : Int32) (x7 : Int32) (x8 : Int32) (s : h_S), w_X7_stepsBetween_38 Q K12 n o0 x2 x3 x4 x5 x6 x7 x8 s → h_V X 9 38 [(0, pR (some o0)), (2, pI x2), (3, pI x3), (4, pI x4), (5, pI x5), (6, pI x6), (7, pI x7), (8, pI x8)] [] s 0 0 := by
  intro n
  induction n with
  | zero => intro _ _ _ _ _ _ _ _ s h; exact h.elim
  | succ n hK38 =>
    intro o0 x2 x3 x4 x5 x6 x7 x8 s h
    have h : w_X7_stepsBetween_38b Q K12 (w_X7_stepsBetween_38 Q K12 n) o0 x2 x3 x4 x5 x6 x7 x8 s := h
    unfold w_X7_stepsBetween_38b at h
    refine v_iload hX dX7_stepsBetween_38 7 rfl ?_
    refine v_aload_n hX dX7_stepsBetween_40 0 rfl rfl ?_
    obtain ⟨k1, h⟩ := h
    refine v_getI hX dX7_stepsBetween_41 f_RX7_57 rfl k1 ?_
    refine v_icmp_ge (tgt := 88) hX dX7_stepsBetween_44 (by decide) (fun c2 => ?_) (fun c2 => ?_)
    · have h := h_T c2 h
      refine v_iload hX dX7_stepsBetween_88 6 rfl ?_
      refine v_iload hX dX7_stepsBetween_90 3 rfl ?_
      refine v_iconst (v := -1) hX dX7_stepsBetween_92 (by decide) ?_
      refine v_ixor hX dX7_stepsBetween_93 ?_
      refine v_iand hX dX7_stepsBetween_94 ?_
      refine v_istore (lv' := [(5, _), (0, _), (2, _), (3, _), (4, _), (6, _), (7, _), (8, _)]) hX dX7_stepsBetween_95 (by decide) rfl ?_
      refine v_iload hX dX7_stepsBetween_97 4 rfl ?_
      refine v_iload hX dX7_stepsBetween_99 0 rfl ?_
      refine v_ior hX dX7_stepsBetween_101 ?_
      refine v_istore (lv' := [(4, _), (5, _), (0, _), (2, _), (3, _), (6, _), (7, _), (8, _)]) hX dX7_stepsBetween_102 (by decide) rfl ?_
      refine v_iinc (c := 1) (lv' := [(6, _), (4, _), (5, _), (0, _), (2, _), (3, _), (7, _), (8, _)]) hX dX7_stepsBetween_104 5 rfl (by decide) (by decide) rfl ?_
      refine v_goto (tgt := 12) hX dX7_stepsBetween_107 (by decide) ?_
      refine v_pick [3, 4, 5, 1, 2, 0] rfl ?_
      exact hK12 _ _ _ _ _ _ _ h
    · have h := h_E c2 h
      refine v_iload hX dX7_stepsBetween_47 4 rfl ?_
      refine v_iload hX dX7_stepsBetween_49 7 rfl ?_
      refine v_ishr hX dX7_stepsBetween_51 ?_
      refine v_iconst (v := 1) hX dX7_stepsBetween_52 (by decide) ?_
      refine v_iand hX dX7_stepsBetween_53 ?_
      refine v_iconst (v := 1) hX dX7_stepsBetween_54 (by decide) ?_
      refine v_icmp_ne (tgt := 82) hX dX7_stepsBetween_55 (by decide) (fun c4 => ?_) (fun c4 => ?_)
      · have h := h_E c4 h
        refine v_pick [0, 1, 2, 3, 4, 5, 6, 7] rfl ?_
        exact b_X7_stepsBetween_82 hX hE hK12 hK38 _ h
      · have h := h_T c4 h
        refine v_iload hX dX7_stepsBetween_58 6 rfl ?_
        refine v_iload_n hX dX7_stepsBetween_60 2 rfl rfl ?_
        refine v_if_eq (tgt := 73) hX dX7_stepsBetween_61 (by decide) (fun c5 => ?_) (fun c5 => ?_)
        · have h := h_T c5 h
          refine v_aload_n hX dX7_stepsBetween_73 0 rfl rfl ?_
          refine v_iload hX dX7_stepsBetween_74 7 rfl ?_
          refine v_callVi0 hX dX7_stepsBetween_76 c_RX7_225 cV_X7_quotedBy (ci := 8) (T := TX7) (N := 13) rfl (by exact k1) [pI _] rfl rfl (Nat.le_of_ble_eq_true rfl) (by decide) (by decide)  (m_X7_quotedBy h) (fun p7 s6 h => ?_)
          refine v_pick [0, 1, 2, 3, 4, 5, 7] rfl ?_
          exact b_X7_stepsBetween_79 hX hE hK12 hK38 _ h
        · have h := h_E c5 h
          refine v_aload_n hX dX7_stepsBetween_64 0 rfl rfl ?_
          refine v_iload hX dX7_stepsBetween_65 7 rfl ?_
          refine v_callVi0 hX dX7_stepsBetween_67 c_RX7_222 cV_X7_livesOf (ci := 8) (T := TX7) (N := 13) rfl (by exact k1) [pI _] rfl rfl (Nat.le_of_ble_eq_true rfl) (by decide) (by decide)  (m_X7_livesOf h) (fun p9 s8 h => ?_)
          refine v_goto (tgt := 79) hX dX7_stepsBetween_70 (by decide) ?_
          refine v_pick [0, 1, 2, 3, 4, 5, 7] rfl ?_
          exact b_X7_stepsBetween_79 hX hE hK12 hK38 _ h
set_option maxRecDepth 100000 in
set_option maxHeartbeats 4000000 in
theorem b_X7_stepsBetween_12 {X : h_X} (hX : h_ok X cX7_stepsBetween 9 RX7 6 134) {Q : Int32 → h_S → Prop} (hE : h_end X (some .int) (h_QI (x_Z X) Q)) : ∀ (n : Nat) (o0 : Nat) (x2 : Int32) (x3 : Int32) (x4 : Int32) (x5 : Int32) (x6 : Int32) (s : h_S), w_X7_stepsBetween_12 Q n o0 x2 x3 x4 x5 x6 s → h_V X 9 12 [(0, pR (some o0)), (2, pI x2), (3, pI x3), (4, pI x4), (5, pI x5), (6, pI x6)] [] s 0 0 := by
  intro n
  induction n with
  | zero => intro _ _ _ _ _ _ s h; exact h.elim
  | succ n hK12 =>
    intro o0 x2 x3 x4 x5 x6 s h
    have h : w_X7_stepsBetween_12b Q (w_X7_stepsBetween_12 Q n) o0 x2 x3 x4 x5 x6 s := h
    unfold w_X7_stepsBetween_12b at h
    refine v_iload hX dX7_stepsBetween_12 5 rfl ?_
    refine v_bipush (v := 12) hX dX7_stepsBetween_14 (by decide) ?_
    refine v_icmp_ge (tgt := 110) hX dX7_stepsBetween_16 (by decide) (fun c1 => ?_) (fun c1 => ?_)
    · have h := h_T c1 h
      refine v_bipush (v := -9) hX dX7_stepsBetween_110 (by decide) ?_
      exact v_iret hX hE dX7_stepsBetween_112 h
    · have h := h_E c1 h
      refine v_iload hX dX7_stepsBetween_19 4 rfl ?_
      refine v_iload_n hX dX7_stepsBetween_21 1 rfl rfl ?_
      refine v_ishr hX dX7_stepsBetween_22 ?_
      refine v_iconst (v := 1) hX dX7_stepsBetween_23 (by decide) ?_
      refine v_iand hX dX7_stepsBetween_24 ?_
      refine v_iconst (v := 1) hX dX7_stepsBetween_25 (by decide) ?_
      refine v_icmp_ne (tgt := 32) hX dX7_stepsBetween_26 (by decide) (fun c2 => ?_) (fun c2 => ?_)
      · have h := h_E c2 h
        refine v_iconst (v := 0) hX dX7_stepsBetween_32 (by decide) ?_
        refine v_istore (lv' := [(7, _), (0, _), (2, _), (3, _), (4, _), (5, _), (6, _)]) hX dX7_stepsBetween_33 (by decide) rfl ?_
        refine v_iconst (v := 0) hX dX7_stepsBetween_35 (by decide) ?_
        refine v_istore (lv' := [(8, _), (7, _), (0, _), (2, _), (3, _), (4, _), (5, _), (6, _)]) hX dX7_stepsBetween_36 (by decide) rfl ?_
        refine v_pick [2, 3, 4, 5, 6, 7, 1, 0] rfl ?_
        obtain ⟨n, h⟩ := h
        exact b_X7_stepsBetween_38 hX hE hK12 n _ _ _ _ _ _ _ _ _ h
      · have h := h_T c2 h
        refine v_iload hX dX7_stepsBetween_29 5 rfl ?_
        exact v_iret hX hE dX7_stepsBetween_31 h
set_option maxRecDepth 100000 in
set_option maxHeartbeats 4000000 in
theorem m_X7_stepsBetween {Z : h_Z} {o0 : Nat} {x1 : Int32} {x2 : Int32} {x3 : Int32} {s : h_S} {Q : Int32 → h_S → Prop} (h : w_X7_stepsBetween o0 x1 x2 x3 s Q) : h_M Z yX7_stepsBetween cX7_stepsBetween 9 (some .int) 6 134 [pR (some o0), pI x1, pI x2, pI x3] s 0 0 (h_QI Z Q) := by
  refine h_M.of (by decide) (Nat.le_of_ble_eq_true rfl) (fun X hZ hX hE hI => ?_)
  subst hZ
  unfold w_X7_stepsBetween at h
  show h_V X 9 0 [(0, pR (some o0)), (1, pI x1), (2, pI x2), (3, pI x3)] [] s 0 0
  refine v_iconst (v := 1) hX dX7_stepsBetween_0 (by decide) ?_
  refine v_iload_n hX dX7_stepsBetween_1 1 rfl rfl ?_
  refine v_ishl hX dX7_stepsBetween_2 ?_
  refine v_istore (lv' := [(4, _), (0, _), (1, _), (2, _), (3, _)]) hX dX7_stepsBetween_3 (by decide) rfl ?_
  refine v_iload hX dX7_stepsBetween_5 0 rfl ?_
  refine v_istore (lv' := [(5, _), (4, _), (0, _), (1, _), (2, _), (3, _)]) hX dX7_stepsBetween_7 (by decide) rfl ?_
  refine v_iconst (v := 0) hX dX7_stepsBetween_9 (by decide) ?_
  refine v_istore (lv' := [(6, _), (5, _), (4, _), (0, _), (1, _), (2, _), (3, _)]) hX dX7_stepsBetween_10 (by decide) rfl ?_
  refine v_pick [3, 5, 6, 2, 1, 0] rfl ?_
  obtain ⟨n, h⟩ := h
  exact b_X7_stepsBetween_12 hX hE n _ _ _ _ _ _ _ h
set_option maxRecDepth 100000 in
set_option maxHeartbeats 4000000 in
theorem m_X8_init {Z : h_Z} {o0 : Nat} {x1 : Int32} {x2 : Int32} {r3 : Option Nat} {s : h_S} {Q : h_S → Prop} (h : w_X8_init o0 x1 x2 r3 s Q) : h_M Z yX8_init cX8_init 4 none 1 20 [pR (some o0), pI x1, pI x2, pR r3] s 0 0 (h_QV Z Q) := by
  refine h_M.of (by decide) (Nat.le_of_ble_eq_true rfl) (fun X hZ hX hE hI => ?_)
  subst hZ
  have hN : (x_me X).name = "<init>" := hI.symm
  unfold w_X8_init at h
  show h_V X 4 0 [(0, pR (some o0)), (1, pI x1), (2, pI x2), (3, pR r3)] [] s 0 0
  refine v_aload_n hX dX8_init_0 0 rfl rfl ?_
  refine v_objInit hX dX8_init_1 oi_RX8_3 (Nat.le_of_ble_eq_true rfl) (by decide) ?_
  refine v_aload_n hX dX8_init_4 0 rfl rfl ?_
  refine v_ldc hX dX8_init_5 k_RX8_9 ?_
  obtain ⟨k1, h⟩ := h
  refine v_putI hX dX8_init_7 f_RX8_10 k1 ?_
  refine v_aload_n hX dX8_init_10 0 rfl rfl ?_
  refine v_ldc hX dX8_init_11 k_RX8_9 ?_
  refine v_putI hX dX8_init_13 f_RX8_16 k1 ?_
  refine v_aload_n hX dX8_init_16 0 rfl rfl ?_
  refine v_iload_n hX dX8_init_17 1 rfl rfl ?_
  refine v_putFI hX dX8_init_18 f_RX8_19 g_RX8_19 hN k1 ?_
  refine v_aload_n hX dX8_init_21 0 rfl rfl ?_
  refine v_iload_n hX dX8_init_22 2 rfl rfl ?_
  refine v_putFI hX dX8_init_23 f_RX8_22 g_RX8_22 hN k1 ?_
  refine v_aload_n hX dX8_init_26 0 rfl rfl ?_
  refine v_aload_n hX dX8_init_27 3 rfl rfl ?_
  refine v_putFR hX dX8_init_28 f_RX8_25 g_RX8_25 rfl (Or.inr ⟨_, rfl⟩) hN k1 ?_
  exact v_vret hX hE dX8_init_31 h
set_option maxRecDepth 100000 in
set_option maxHeartbeats 4000000 in
theorem b_X8_kind_25 {X : h_X} (hX : h_ok X cX8_kind 1 RX8 0 0) {Q : Int32 → h_S → Prop} (hE : h_end X (some .int) (h_QI (x_Z X) Q)) {y0 : Int32} (s : h_S) (h : w_X8_kind_25 Q y0 s) : h_V X 1 25 [] [pI y0] s 0 0 := by
  unfold w_X8_kind_25 at h
  exact v_iret hX hE dX8_kind_25 h
set_option maxRecDepth 100000 in
set_option maxHeartbeats 4000000 in
theorem m_X8_kind {Z : h_Z} {o0 : Nat} {s : h_S} {Q : Int32 → h_S → Prop} (h : w_X8_kind o0 s Q) : h_M Z yX8_kind cX8_kind 1 (some .int) 0 0 [pR (some o0)] s 0 0 (h_QI Z Q) := by
  refine h_M.of (by decide) (Nat.le_of_ble_eq_true rfl) (fun X hZ hX hE hI => ?_)
  subst hZ
  unfold w_X8_kind at h
  show h_V X 1 0 [(0, pR (some o0))] [] s 0 0
  refine v_aload_n hX dX8_kind_0 0 rfl rfl ?_
  obtain ⟨k1, h⟩ := h
  refine v_getI hX dX8_kind_1 f_RX8_10 rfl k1 ?_
  refine v_ldc hX dX8_kind_4 k_RX8_9 ?_
  refine v_icmp_ne (tgt := 11) hX dX8_kind_6 (by decide) (fun c2 => ?_) (fun c2 => ?_)
  · have h := h_E c2 h
    refine v_aload_n hX dX8_kind_11 0 rfl rfl ?_
    refine v_getI hX dX8_kind_12 f_RX8_16 rfl k1 ?_
    refine v_ldc hX dX8_kind_15 k_RX8_9 ?_
    refine v_icmp_ne (tgt := 24) hX dX8_kind_17 (by decide) (fun c3 => ?_) (fun c3 => ?_)
    · have h := h_E c3 h
      refine v_iconst (v := 2) hX dX8_kind_24 (by decide) ?_
      refine v_pick [] rfl ?_
      exact b_X8_kind_25 hX hE _ h
    · have h := h_T c3 h
      refine v_iconst (v := 1) hX dX8_kind_20 (by decide) ?_
      refine v_goto (tgt := 25) hX dX8_kind_21 (by decide) ?_
      refine v_pick [] rfl ?_
      exact b_X8_kind_25 hX hE _ h
  · have h := h_T c2 h
    refine v_iconst (v := 0) hX dX8_kind_9 (by decide) ?_
    exact v_iret hX hE dX8_kind_10 h
set_option maxRecDepth 100000 in
set_option maxHeartbeats 4000000 in
theorem b_X8_isGivenAt_21 {X : h_X} (hX : h_ok X cX8_isGivenAt 2 RX8 0 0) {Q : Int32 → h_S → Prop} (hE : h_end X (some .boolean) (h_QI (x_Z X) Q)) {y0 : Int32} (s : h_S) (h : w_X8_isGivenAt_21 Q y0 s) : h_V X 2 21 [] [pI y0] s 0 0 := by
  unfold w_X8_isGivenAt_21 at h
  exact v_zret hX hE dX8_isGivenAt_21 h.1 h.2
set_option maxRecDepth 100000 in
set_option maxHeartbeats 4000000 in
theorem b_X8_isGivenAt_20 {X : h_X} (hX : h_ok X cX8_isGivenAt 2 RX8 0 0) {Q : Int32 → h_S → Prop} (hE : h_end X (some .boolean) (h_QI (x_Z X) Q)) (s : h_S) (h : w_X8_isGivenAt_20 Q s) : h_V X 2 20 [] [] s 0 0 := by
  unfold w_X8_isGivenAt_20 at h
  refine v_iconst (v := 0) hX dX8_isGivenAt_20 (by decide) ?_
  refine v_pick [] rfl ?_
  exact b_X8_isGivenAt_21 hX hE _ h
set_option maxRecDepth 100000 in
set_option maxHeartbeats 4000000 in
theorem m_X8_isGivenAt {Z : h_Z} {o0 : Nat} {x1 : Int32} {s : h_S} {Q : Int32 → h_S → Prop} (h : w_X8_isGivenAt o0 x1 s Q) : h_M Z yX8_isGivenAt cX8_isGivenAt 2 (some .boolean) 0 0 [pR (some o0), pI x1] s 0 0 (h_QI Z Q) := by
  refine h_M.of (by decide) (Nat.le_of_ble_eq_true rfl) (fun X hZ hX hE hI => ?_)
  subst hZ
  unfold w_X8_isGivenAt at h
  show h_V X 2 0 [(0, pR (some o0)), (1, pI x1)] [] s 0 0
  refine v_aload_n hX dX8_isGivenAt_0 0 rfl rfl ?_
  obtain ⟨k1, h⟩ := h
  refine v_getI hX dX8_isGivenAt_1 f_RX8_10 rfl k1 ?_
  refine v_iload_n hX dX8_isGivenAt_4 1 rfl rfl ?_
  refine v_icmp_gt (tgt := 20) hX dX8_isGivenAt_5 (by decide) (fun c2 => ?_) (fun c2 => ?_)
  · have h := h_T c2 h
    refine v_pick [] rfl ?_
    exact b_X8_isGivenAt_20 hX hE _ h
  · have h := h_E c2 h
    refine v_aload_n hX dX8_isGivenAt_8 0 rfl rfl ?_
    refine v_getI hX dX8_isGivenAt_9 f_RX8_16 rfl k1 ?_
    refine v_iload_n hX dX8_isGivenAt_12 1 rfl rfl ?_
    refine v_icmp_le (tgt := 20) hX dX8_isGivenAt_13 (by decide) (fun c3 => ?_) (fun c3 => ?_)
    · have h := h_T c3 h
      refine v_pick [] rfl ?_
      exact b_X8_isGivenAt_20 hX hE _ h
    · have h := h_E c3 h
      refine v_iconst (v := 1) hX dX8_isGivenAt_16 (by decide) ?_
      refine v_goto (tgt := 21) hX dX8_isGivenAt_17 (by decide) ?_
      refine v_pick [] rfl ?_
      exact b_X8_isGivenAt_21 hX hE _ h
set_option maxRecDepth 100000 in
set_option maxHeartbeats 4000000 in
theorem b_X8_placeAt_23 {X : h_X} (hX : h_ok X cX8_placeAt 2 RX8 1 21) {Q : Int32 → h_S → Prop} (hE : h_end X (some .int) (h_QI (x_Z X) Q)) {y0 : Int32} (s : h_S) (h : w_X8_placeAt_23 Q y0 s) : h_V X 2 23 [] [pI y0] s 0 0 := by
  unfold w_X8_placeAt_23 at h
  exact v_iret hX hE dX8_placeAt_23 h
set_option maxRecDepth 100000 in
set_option maxHeartbeats 4000000 in
theorem m_X8_placeAt {Z : h_Z} {o0 : Nat} {x1 : Int32} {s : h_S} {Q : Int32 → h_S → Prop} (h : w_X8_placeAt o0 x1 s Q) : h_M Z yX8_placeAt cX8_placeAt 2 (some .int) 1 21 [pR (some o0), pI x1] s 0 0 (h_QI Z Q) := by
  refine h_M.of (by decide) (Nat.le_of_ble_eq_true rfl) (fun X hZ hX hE hI => ?_)
  subst hZ
  unfold w_X8_placeAt at h
  show h_V X 2 0 [(0, pR (some o0)), (1, pI x1)] [] s 0 0
  refine v_iload_n hX dX8_placeAt_0 1 rfl rfl ?_
  refine v_aload_n hX dX8_placeAt_1 0 rfl rfl ?_
  obtain ⟨k1, h⟩ := h
  refine v_getR hX dX8_placeAt_2 f_RX8_25 rfl k1 ?_
  obtain ⟨a2, e_a2, h⟩ := h
  refine v_nn0 e_a2 ?_
  obtain ⟨k3, h⟩ := h
  refine v_alenK hX dX8_placeAt_5 (k := 1) rfl (by decide) (by decide) k3 ?_
  refine v_callSi0 hX dX8_placeAt_6 c_RX8_29 cS_X11_within [pI _, pI _] rfl rfl (Nat.le_of_ble_eq_true rfl) (by decide) (by decide)  (m_X11_within h) (fun p5 s4 h => ?_)
  refine v_if_eq (tgt := 21) hX dX8_placeAt_9 (by decide) (fun c6 => ?_) (fun c6 => ?_)
  · have h := h_T c6 h
    refine v_bipush (v := -7) hX dX8_placeAt_21 (by decide) ?_
    refine v_pick [] rfl ?_
    exact b_X8_placeAt_23 hX hE _ h
  · have h := h_E c6 h
    refine v_aload_n hX dX8_placeAt_12 0 rfl rfl ?_
    obtain ⟨k7, h⟩ := h
    refine v_getR hX dX8_placeAt_13 f_RX8_25 rfl k7 ?_
    refine v_iload_n hX dX8_placeAt_16 1 rfl rfl ?_
    obtain ⟨a8, e_a8, h⟩ := h
    refine v_nn1 e_a8 ?_
    obtain ⟨k9, h⟩ := h
    obtain ⟨i10, h⟩ := h
    refine v_iald hX dX8_placeAt_17 k9 i10 ?_
    refine v_goto (tgt := 23) hX dX8_placeAt_18 (by decide) ?_
    refine v_pick [] rfl ?_
    exact b_X8_placeAt_23 hX hE _ h
set_option maxRecDepth 100000 in
set_option maxHeartbeats 4000000 in
theorem b_X8_gaps_35 {X : h_X} (hX : h_ok X cX8_gaps 6 RX8 0 0) {Q : Int32 → h_S → Prop} (hE : h_end X (some .int) (h_QI (x_Z X) Q)) {K13 : Int32 → Option Nat → Int32 → Int32 → h_S → Prop} (hK13 : ∀ (x1 : Int32) (r2 : Option Nat) (x3 : Int32) (x4 : Int32) (s : h_S), K13 x1 r2 x3 x4 s → h_V X 6 13 [(1, pI x1), (2, pR r2), (3, pI x3), (4, pI x4)] [] s 0 0) {x1 : Int32} {r2 : Option Nat} {x3 : Int32} {x4 : Int32} (s : h_S) (h : w_X8_gaps_35 Q K13 x1 r2 x3 x4 s) : h_V X 6 35 [(1, pI x1), (2, pR r2), (3, pI x3), (4, pI x4)] [] s 0 0 := by
  unfold w_X8_gaps_35 at h
  refine v_iinc (c := 1) (lv' := [(4, _), (1, _), (2, _), (3, _)]) hX dX8_gaps_35 3 rfl (by decide) (by decide) rfl ?_
  refine v_goto (tgt := 13) hX dX8_gaps_38 (by decide) ?_
  refine v_pick [1, 2, 3, 0] rfl ?_
  exact hK13 _ _ _ _ _ h
set_option maxRecDepth 100000 in
set_option maxHeartbeats 4000000 in
theorem b_X8_gaps_13 {X : h_X} (hX : h_ok X cX8_gaps 6 RX8 0 0) {Q : Int32 → h_S → Prop} (hE : h_end X (some .int) (h_QI (x_Z X) Q)) : ∀ (n : Nat) (x1 : Int32) (r2 : Option Nat) (x3 : Int32) (x4 : Int32) (s : h_S), w_X8_gaps_13 Q n x1 r2 x3 x4 s → h_V X 6 13 [(1, pI x1), (2, pR r2), (3, pI x3), (4, pI x4)] [] s 0 0 := by
  intro n
  induction n with
  | zero => intro _ _ _ _ s h; exact h.elim
  | succ n hK13 =>
    intro x1 r2 x3 x4 s h
    have h : w_X8_gaps_13b Q (w_X8_gaps_13 Q n) x1 r2 x3 x4 s := h
    unfold w_X8_gaps_13b at h
    refine v_iload hX dX8_gaps_13 3 rfl ?_
    refine v_iload_n hX dX8_gaps_15 2 rfl rfl ?_
    refine v_icmp_ge (tgt := 41) hX dX8_gaps_16 (by decide) (fun c1 => ?_) (fun c1 => ?_)
    · have h := h_T c1 h
      refine v_iload_n hX dX8_gaps_41 0 rfl rfl ?_
      exact v_iret hX hE dX8_gaps_42 h
    · have h := h_E c1 h
      refine v_aload_n hX dX8_gaps_19 1 rfl rfl ?_
      refine v_iload hX dX8_gaps_20 3 rfl ?_
      obtain ⟨a2, e_a2, h⟩ := h
      refine v_nn1 e_a2 ?_
      obtain ⟨k3, h⟩ := h
      obtain ⟨i4, h⟩ := h
      refine v_iald hX dX8_gaps_22 k3 i4 ?_
      refine v_istore (lv' := [(5, _), (1, _), (2, _), (3, _), (4, _)]) hX dX8_gaps_23 (by decide) rfl ?_
      refine v_iload hX dX8_gaps_25 0 rfl ?_
      refine v_bipush (v := -7) hX dX8_gaps_27 (by decide) ?_
      refine v_icmp_ne (tgt := 35) hX dX8_gaps_29 (by decide) (fun c5 => ?_) (fun c5 => ?_)
      · have h := h_E c5 h
        refine v_pick [1, 2, 3, 4] rfl ?_
        exact b_X8_gaps_35 hX hE hK13 _ h
      · have h := h_T c5 h
        refine v_iinc (c := 1) (lv' := [(1, _), (5, _), (2, _), (3, _), (4, _)]) hX dX8_gaps_32 1 rfl (by decide) (by decide) rfl ?_
        refine v_pick [0, 2, 3, 4] rfl ?_
        exact b_X8_gaps_35 hX hE hK13 _ h
set_option maxRecDepth 100000 in
set_option maxHeartbeats 4000000 in
theorem m_X8_gaps {Z : h_Z} {o0 : Nat} {s : h_S} {Q : Int32 → h_S → Prop} (h : w_X8_gaps o0 s Q) : h_M Z yX8_gaps cX8_gaps 6 (some .int) 0 0 [pR (some o0)] s 0 0 (h_QI Z Q) := by
  refine h_M.of (by decide) (Nat.le_of_ble_eq_true rfl) (fun X hZ hX hE hI => ?_)
  subst hZ
  unfold w_X8_gaps at h
  show h_V X 6 0 [(0, pR (some o0))] [] s 0 0
  refine v_iconst (v := 0) hX dX8_gaps_0 (by decide) ?_
  refine v_istore_n (lv' := [(1, _), (0, _)]) hX dX8_gaps_1 rfl (by decide) rfl ?_
  refine v_aload_n hX dX8_gaps_2 1 rfl rfl ?_
  obtain ⟨k1, h⟩ := h
  refine v_getR hX dX8_gaps_3 f_RX8_25 rfl k1 ?_
  refine v_astore_n (lv' := [(2, _), (1, _), (0, _)]) hX dX8_gaps_6 rfl (by decide) rfl ?_
  refine v_aload_n hX dX8_gaps_7 0 rfl rfl ?_
  obtain ⟨a2, e_a2, h⟩ := h
  refine v_nn0 e_a2 ?_
  obtain ⟨k3, h⟩ := h
  refine v_alenK hX dX8_gaps_8 (k := 1) rfl (by decide) (by decide) k3 ?_
  refine v_istore_n (lv' := [(3, _), (2, _), (1, _), (0, _)]) hX dX8_gaps_9 rfl (by decide) rfl ?_
  refine v_iconst (v := 0) hX dX8_gaps_10 (by decide) ?_
  refine v_istore (lv' := [(4, _), (3, _), (2, _), (1, _), (0, _)]) hX dX8_gaps_11 (by decide) rfl ?_
  refine v_pick [3, 2, 1, 0] rfl ?_
  obtain ⟨n, h⟩ := h
  exact b_X8_gaps_13 hX hE n _ _ _ _ _ h
set_option maxRecDepth 100000 in
set_option maxHeartbeats 4000000 in
theorem m_X9_init {Z : h_Z} {o0 : Nat} {s : h_S} {mc ms : Nat} {Q : h_S → Prop} (h : w_X9_init o0 s mc ms Q) : h_M Z yX9_init cX9_init 1 none 1 20 [pR (some o0)] s mc ms (h_QV Z Q) := by
  refine h_M.of (by decide) (Nat.le_of_ble_eq_true rfl) (fun X hZ hX hE hI => ?_)
  subst hZ
  have hN : (x_me X).name = "<init>" := hI.symm
  unfold w_X9_init at h
  show h_V X 1 0 [(0, pR (some o0))] [] s mc ms
  refine v_aload_n hX dX9_init_0 0 rfl rfl ?_
  refine v_objInit hX dX9_init_1 oi_RX9_3 (Nat.le_of_ble_eq_true rfl) (by decide) ?_
  refine v_aload_n hX dX9_init_4 0 rfl rfl ?_
  refine v_iconst (v := 2) hX dX9_init_5 (by decide) ?_
  refine v_sipush (v := 301) hX dX9_init_6 (by decide) ?_
  obtain ⟨b6, b7, h⟩ := h
  refine v_mna (N := 2) (K := 301) hX dX9_init_9 kl_RX9_9 (by decide) (by decide) (by decide) (by decide) (by decide) (by decide) b6 b7 (fun q1 j2 k3 k4 k5 => ?_)
  have h := h q1 j2 k3 k4 k5
  obtain ⟨k11, h⟩ := h
  refine v_putFR hX dX9_init_13 f_RX9_11 g_RX9_11 rfl (Or.inr ⟨_, rfl⟩) hN k11 ?_
  refine v_aload_n hX dX9_init_16 0 rfl rfl ?_
  refine v_sipush (v := 3000) hX dX9_init_17 (by decide) ?_
  obtain ⟨b15, b16, h⟩ := h
  refine v_newI (N := 3000) hX dX9_init_20 ac_int (by decide) (by decide) (by decide) b15 b16 (fun q13 k14 => ?_)
  have h := h q13 k14
  obtain ⟨k20, h⟩ := h
  refine v_putFR hX dX9_init_22 f_RX9_16 g_RX9_16 rfl (Or.inr ⟨_, rfl⟩) hN k20 ?_
  refine v_aload_n hX dX9_init_25 0 rfl rfl ?_
  refine v_sipush (v := 500) hX dX9_init_26 (by decide) ?_
  obtain ⟨b24, b25, h⟩ := h
  refine v_newI (N := 500) hX dX9_init_29 ac_int (by decide) (by decide) (by decide) b24 b25 (fun q22 k23 => ?_)
  have h := h q22 k23
  obtain ⟨k29, h⟩ := h
  refine v_putFR hX dX9_init_31 f_RX9_20 g_RX9_20 rfl (Or.inr ⟨_, rfl⟩) hN k29 ?_
  refine v_aload_n hX dX9_init_34 0 rfl rfl ?_
  refine v_sipush (v := 300) hX dX9_init_35 (by decide) ?_
  obtain ⟨b33, b34, h⟩ := h
  refine v_newI (N := 300) hX dX9_init_38 ac_int (by decide) (by decide) (by decide) b33 b34 (fun q31 k32 => ?_)
  have h := h q31 k32
  obtain ⟨k38, h⟩ := h
  refine v_putFR hX dX9_init_40 f_RX9_23 g_RX9_23 rfl (Or.inr ⟨_, rfl⟩) hN k38 ?_
  refine v_aload_n hX dX9_init_43 0 rfl rfl ?_
  refine v_iconst (v := 2) hX dX9_init_44 (by decide) ?_
  refine v_sipush (v := 300) hX dX9_init_45 (by decide) ?_
  obtain ⟨b45, b46, h⟩ := h
  refine v_mna (N := 2) (K := 300) hX dX9_init_48 kl_RX9_9 (by decide) (by decide) (by decide) (by decide) (by decide) (by decide) b45 b46 (fun q40 j41 k42 k43 k44 => ?_)
  have h := h q40 j41 k42 k43 k44
  obtain ⟨k50, h⟩ := h
  refine v_putFR hX dX9_init_52 f_RX9_26 g_RX9_26 rfl (Or.inr ⟨_, rfl⟩) hN k50 ?_
  refine v_aload_n hX dX9_init_55 0 rfl rfl ?_
  refine v_iconst (v := 2) hX dX9_init_56 (by decide) ?_
  obtain ⟨b54, b55, h⟩ := h
  refine v_newI (N := 2) hX dX9_init_57 ac_int (by decide) (by decide) (by decide) b54 b55 (fun q52 k53 => ?_)
  have h := h q52 k53
  obtain ⟨k59, h⟩ := h
  refine v_putFR hX dX9_init_59 f_RX9_29 g_RX9_29 rfl (Or.inr ⟨_, rfl⟩) hN k59 ?_
  refine v_aload_n hX dX9_init_62 0 rfl rfl ?_
  refine v_iconst (v := 2) hX dX9_init_63 (by decide) ?_
  refine v_sipush (v := 301) hX dX9_init_64 (by decide) ?_
  obtain ⟨b66, b67, h⟩ := h
  refine v_mna (N := 2) (K := 301) hX dX9_init_67 kl_RX9_9 (by decide) (by decide) (by decide) (by decide) (by decide) (by decide) b66 b67 (fun q61 j62 k63 k64 k65 => ?_)
  have h := h q61 j62 k63 k64 k65
  obtain ⟨k71, h⟩ := h
  refine v_putFR hX dX9_init_71 f_RX9_32 g_RX9_32 rfl (Or.inr ⟨_, rfl⟩) hN k71 ?_
  refine v_aload_n hX dX9_init_74 0 rfl rfl ?_
  refine v_iconst (v := 2) hX dX9_init_75 (by decide) ?_
  refine v_sipush (v := 301) hX dX9_init_76 (by decide) ?_
  obtain ⟨b78, b79, h⟩ := h
  refine v_mna (N := 2) (K := 301) hX dX9_init_79 kl_RX9_9 (by decide) (by decide) (by decide) (by decide) (by decide) (by decide) b78 b79 (fun q73 j74 k75 k76 k77 => ?_)
  have h := h q73 j74 k75 k76 k77
  obtain ⟨k83, h⟩ := h
  refine v_putFR hX dX9_init_83 f_RX9_35 g_RX9_35 rfl (Or.inr ⟨_, rfl⟩) hN k83 ?_
  refine v_aload_n hX dX9_init_86 0 rfl rfl ?_
  refine v_sipush (v := 300) hX dX9_init_87 (by decide) ?_
  obtain ⟨b87, b88, h⟩ := h
  refine v_newZ (N := 300) hX dX9_init_90 ac_boolean (by decide) (by decide) (by decide) b87 b88 (fun q85 k86 => ?_)
  have h := h q85 k86
  obtain ⟨k92, h⟩ := h
  refine v_putFR hX dX9_init_92 f_RX9_38 g_RX9_38 rfl (Or.inr ⟨_, rfl⟩) hN k92 ?_
  refine v_aload_n hX dX9_init_95 0 rfl rfl ?_
  refine v_sipush (v := 600) hX dX9_init_96 (by decide) ?_
  obtain ⟨b96, b97, h⟩ := h
  refine v_newI (N := 600) hX dX9_init_99 ac_int (by decide) (by decide) (by decide) b96 b97 (fun q94 k95 => ?_)
  have h := h q94 k95
  obtain ⟨k101, h⟩ := h
  refine v_putFR hX dX9_init_101 f_RX9_42 g_RX9_42 rfl (Or.inr ⟨_, rfl⟩) hN k101 ?_
  refine v_aload_n hX dX9_init_104 0 rfl rfl ?_
  refine v_bipush (v := 12) hX dX9_init_105 (by decide) ?_
  obtain ⟨b105, b106, h⟩ := h
  refine v_newI (N := 12) hX dX9_init_107 ac_int (by decide) (by decide) (by decide) b105 b106 (fun q103 k104 => ?_)
  have h := h q103 k104
  obtain ⟨k110, h⟩ := h
  refine v_putFR hX dX9_init_109 f_RX9_45 g_RX9_45 rfl (Or.inr ⟨_, rfl⟩) hN k110 ?_
  refine v_aload_n hX dX9_init_112 0 rfl rfl ?_
  refine v_bipush (v := 12) hX dX9_init_113 (by decide) ?_
  obtain ⟨b114, b115, h⟩ := h
  refine v_newI (N := 12) hX dX9_init_115 ac_int (by decide) (by decide) (by decide) b114 b115 (fun q112 k113 => ?_)
  have h := h q112 k113
  obtain ⟨k119, h⟩ := h
  refine v_putFR hX dX9_init_117 f_RX9_48 g_RX9_48 rfl (Or.inr ⟨_, rfl⟩) hN k119 ?_
  refine v_aload_n hX dX9_init_120 0 rfl rfl ?_
  refine v_bipush (v := 12) hX dX9_init_121 (by decide) ?_
  obtain ⟨b123, b124, h⟩ := h
  refine v_newI (N := 12) hX dX9_init_123 ac_int (by decide) (by decide) (by decide) b123 b124 (fun q121 k122 => ?_)
  have h := h q121 k122
  obtain ⟨k128, h⟩ := h
  refine v_putFR hX dX9_init_125 f_RX9_51 g_RX9_51 rfl (Or.inr ⟨_, rfl⟩) hN k128 ?_
  exact v_vret hX hE dX9_init_128 h
set_option maxRecDepth 100000 in
set_option maxHeartbeats 4000000 in
theorem b_X9_alike_16 {X : h_X} (hX : h_ok X cX9_alike 2 RX9 0 0) {Q : Int32 → h_S → Prop} (hE : h_end X (some .boolean) (h_QI (x_Z X) Q)) {y0 : Int32} (s : h_S) (h : w_X9_alike_16 Q y0 s) : h_V X 2 16 [] [pI y0] s 0 0 := by
  unfold w_X9_alike_16 at h
  exact v_zret hX hE dX9_alike_16 h.1 h.2
set_option maxRecDepth 100000 in
set_option maxHeartbeats 4000000 in
theorem b_X9_alike_15 {X : h_X} (hX : h_ok X cX9_alike 2 RX9 0 0) {Q : Int32 → h_S → Prop} (hE : h_end X (some .boolean) (h_QI (x_Z X) Q)) (s : h_S) (h : w_X9_alike_15 Q s) : h_V X 2 15 [] [] s 0 0 := by
  unfold w_X9_alike_15 at h
  refine v_iconst (v := 0) hX dX9_alike_15 (by decide) ?_
  refine v_pick [] rfl ?_
  exact b_X9_alike_16 hX hE _ h
set_option maxRecDepth 100000 in
set_option maxHeartbeats 4000000 in
theorem m_X9_alike {Z : h_Z} {x0 : Int32} {x1 : Int32} {s : h_S} {Q : Int32 → h_S → Prop} (h : w_X9_alike x0 x1 s Q) : h_M Z yX9_alike cX9_alike 2 (some .boolean) 0 0 [pI x0, pI x1] s 0 0 (h_QI Z Q) := by
  refine h_M.of (by decide) (Nat.le_of_ble_eq_true rfl) (fun X hZ hX hE hI => ?_)
  subst hZ
  unfold w_X9_alike at h
  show h_V X 2 0 [(0, pI x0), (1, pI x1)] [] s 0 0
  refine v_iload_n hX dX9_alike_0 0 rfl rfl ?_
  refine v_iload_n hX dX9_alike_1 1 rfl rfl ?_
  refine v_icmp_ne (tgt := 15) hX dX9_alike_2 (by decide) (fun c1 => ?_) (fun c1 => ?_)
  · have h := h_E c1 h
    refine v_pick [] rfl ?_
    exact b_X9_alike_15 hX hE _ h
  · have h := h_T c1 h
    refine v_iload_n hX dX9_alike_5 0 rfl rfl ?_
    refine v_bipush (v := -7) hX dX9_alike_6 (by decide) ?_
    refine v_icmp_eq (tgt := 15) hX dX9_alike_8 (by decide) (fun c2 => ?_) (fun c2 => ?_)
    · have h := h_T c2 h
      refine v_pick [] rfl ?_
      exact b_X9_alike_15 hX hE _ h
    · have h := h_E c2 h
      refine v_iconst (v := 1) hX dX9_alike_11 (by decide) ?_
      refine v_goto (tgt := 16) hX dX9_alike_12 (by decide) ?_
      refine v_pick [] rfl ?_
      exact b_X9_alike_16 hX hE _ h
set_option maxRecDepth 100000 in
set_option maxHeartbeats 4000000 in
theorem b_X9_sharedOf_184 {X : h_X} (hX : h_ok X cX9_sharedOf 11 RX9 1 23) {Q : Int32 → h_S → Prop} (hE : h_end X (some .int) (h_QI (x_Z X) Q)) {K17 : Nat → Option Nat → Option Nat → Int32 → Int32 → h_S → Prop} (hK17 : ∀ (o0 : Nat) (r1 : Option Nat) (r3 : Option Nat) (x4 : Int32) (x5 : Int32) (s : h_S), K17 o0 r1 r3 x4 x5 s → h_V X 11 17 [(0, pR (some o0)), (1, pR r1), (3, pR r3), (4, pI x4), (5, pI x5)] [] s 0 0) {K61 : Nat → Option Nat → Option Nat → Int32 → Int32 → Option Nat → Option Nat → Int32 → Int32 → h_S → Prop} (hK61 : ∀ (o0 : Nat) (r1 : Option Nat) (r3 : Option Nat) (x4 : Int32) (x5 : Int32) (r6 : Option Nat) (r7 : Option Nat) (x8 : Int32) (x9 : Int32) (s : h_S), K61 o0 r1 r3 x4 x5 r6 r7 x8 x9 s → h_V X 11 61 [(0, pR (some o0)), (1, pR r1), (3, pR r3), (4, pI x4), (5, pI x5), (6, pR r6), (7, pR r7), (8, pI x8), (9, pI x9)] [] s 0 0) {o0 : Nat} {r1 : Option Nat} {r3 : Option Nat} {x4 : Int32} {x5 : Int32} {r6 : Option Nat} {r7 : Option Nat} {x8 : Int32} {x9 : Int32} (s : h_S) (h : w_X9_sharedOf_184 Q K17 K61 o0 r1 r3 x4 x5 r6 r7 x8 x9 s) : h_V X 11 184 [(0, pR (some o0)), (1, pR r1), (3, pR r3), (4, pI x4), (5, pI x5), (6, pR r6), (7, pR r7), (8, pI x8), (9, pI x9)] [] s 0 0 := by
  unfold w_X9_sharedOf_184 at h
  refine v_iinc (c := -1) (lv' := [(9, _), (0, _), (1, _), (3, _), (4, _), (5, _), (6, _), (7, _), (8, _)]) hX dX9_sharedOf_184 8 rfl (by decide) (by decide) rfl ?_
  refine v_goto (tgt := 61) hX dX9_sharedOf_187 (by decide) ?_
  refine v_pick [1, 2, 3, 4, 5, 6, 7, 8, 0] rfl ?_
  exact hK61 _ _ _ _ _ _ _ _ _ _ h
set_option maxRecDepth 100000 in
set_option maxHeartbeats 4000000 in
theorem b_X9_sharedOf_153 {X : h_X} (hX : h_ok X cX9_sharedOf 11 RX9 1 23) {Q : Int32 → h_S → Prop} (hE : h_end X (some .int) (h_QI (x_Z X) Q)) {K17 : Nat → Option Nat → Option Nat → Int32 → Int32 → h_S → Prop} (hK17 : ∀ (o0 : Nat) (r1 : Option Nat) (r3 : Option Nat) (x4 : Int32) (x5 : Int32) (s : h_S), K17 o0 r1 r3 x4 x5 s → h_V X 11 17 [(0, pR (some o0)), (1, pR r1), (3, pR r3), (4, pI x4), (5, pI x5)] [] s 0 0) {K61 : Nat → Option Nat → Option Nat → Int32 → Int32 → Option Nat → Option Nat → Int32 → Int32 → h_S → Prop} (hK61 : ∀ (o0 : Nat) (r1 : Option Nat) (r3 : Option Nat) (x4 : Int32) (x5 : Int32) (r6 : Option Nat) (r7 : Option Nat) (x8 : Int32) (x9 : Int32) (s : h_S), K61 o0 r1 r3 x4 x5 r6 r7 x8 x9 s → h_V X 11 61 [(0, pR (some o0)), (1, pR r1), (3, pR r3), (4, pI x4), (5, pI x5), (6, pR r6), (7, pR r7), (8, pI x8), (9, pI x9)] [] s 0 0) {o0 : Nat} {r1 : Option Nat} {r3 : Option Nat} {x4 : Int32} {x5 : Int32} {r6 : Option Nat} {r7 : Option Nat} {x9 : Int32} {y0 : Int32} {y1 : Int32} (s : h_S) (h : w_X9_sharedOf_153 Q K17 K61 o0 r1 r3 x4 x5 r6 r7 x9 y0 y1 s) : h_V X 11 153 [(0, pR (some o0)), (1, pR r1), (3, pR r3), (4, pI x4), (5, pI x5), (6, pR r6), (7, pR r7), (9, pI x9)] [pI y0, pI y1] s 0 0 := by
  unfold w_X9_sharedOf_153 at h
  refine v_ior hX dX9_sharedOf_153 ?_
  refine v_istore (lv' := [(8, _), (0, _), (1, _), (3, _), (4, _), (5, _), (6, _), (7, _), (9, _)]) hX dX9_sharedOf_154 (by decide) rfl ?_
  refine v_iload hX dX9_sharedOf_156 8 rfl ?_
  refine v_bipush (v := 31) hX dX9_sharedOf_158 (by decide) ?_
  refine v_iand hX dX9_sharedOf_160 ?_
  refine v_if_ne (tgt := 184) hX dX9_sharedOf_161 (by decide) (fun c1 => ?_) (fun c1 => ?_)
  · have h := h_E c1 h
    refine v_pick [1, 2, 3, 4, 5, 6, 7, 0, 8] rfl ?_
    exact b_X9_sharedOf_184 hX hE hK17 hK61 _ h
  · have h := h_T c1 h
    refine v_aload_n hX dX9_sharedOf_164 1 rfl rfl ?_
    obtain ⟨k2, h⟩ := h
    refine v_getR hX dX9_sharedOf_165 f_RX9_16 rfl k2 ?_
    refine v_iload hX dX9_sharedOf_168 5 rfl ?_
    refine v_bipush (v := 10) hX dX9_sharedOf_170 (by decide) ?_
    refine v_imul hX dX9_sharedOf_172 ?_
    refine v_iload hX dX9_sharedOf_173 8 rfl ?_
    refine v_iconst (v := 5) hX dX9_sharedOf_175 (by decide) ?_
    refine v_ishr hX dX9_sharedOf_176 ?_
    refine v_iadd hX dX9_sharedOf_177 ?_
    refine v_iload hX dX9_sharedOf_178 0 rfl ?_
    obtain ⟨a3, e_a3, h⟩ := h
    refine v_nn2 e_a3 ?_
    obtain ⟨k4, h⟩ := h
    obtain ⟨i5, h⟩ := h
    refine v_iast hX dX9_sharedOf_180 k4 i5 ?_
    refine v_iconst (v := 0) hX dX9_sharedOf_181 (by decide) ?_
    refine v_istore (lv' := [(8, _), (0, _), (1, _), (3, _), (4, _), (5, _), (6, _), (7, _), (9, _)]) hX dX9_sharedOf_182 (by decide) rfl ?_
    refine v_pick [1, 2, 3, 4, 5, 6, 7, 0, 8] rfl ?_
    exact b_X9_sharedOf_184 hX hE hK17 hK61 _ h
set_option maxRecDepth 100000 in
set_option maxHeartbeats 4000000 in
theorem b_X9_sharedOf_138 {X : h_X} (hX : h_ok X cX9_sharedOf 11 RX9 1 23) {Q : Int32 → h_S → Prop} (hE : h_end X (some .int) (h_QI (x_Z X) Q)) {K17 : Nat → Option Nat → Option Nat → Int32 → Int32 → h_S → Prop} (hK17 : ∀ (o0 : Nat) (r1 : Option Nat) (r3 : Option Nat) (x4 : Int32) (x5 : Int32) (s : h_S), K17 o0 r1 r3 x4 x5 s → h_V X 11 17 [(0, pR (some o0)), (1, pR r1), (3, pR r3), (4, pI x4), (5, pI x5)] [] s 0 0) {K61 : Nat → Option Nat → Option Nat → Int32 → Int32 → Option Nat → Option Nat → Int32 → Int32 → h_S → Prop} (hK61 : ∀ (o0 : Nat) (r1 : Option Nat) (r3 : Option Nat) (x4 : Int32) (x5 : Int32) (r6 : Option Nat) (r7 : Option Nat) (x8 : Int32) (x9 : Int32) (s : h_S), K61 o0 r1 r3 x4 x5 r6 r7 x8 x9 s → h_V X 11 61 [(0, pR (some o0)), (1, pR r1), (3, pR r3), (4, pI x4), (5, pI x5), (6, pR r6), (7, pR r7), (8, pI x8), (9, pI x9)] [] s 0 0) {o0 : Nat} {r1 : Option Nat} {r3 : Option Nat} {x4 : Int32} {x5 : Int32} {r6 : Option Nat} {r7 : Option Nat} {x8 : Int32} {x9 : Int32} {x10 : Int32} {y0 : Int32} {y1 : Int32} {t2 : Option Nat} (s : h_S) (h : w_X9_sharedOf_138 Q K17 K61 o0 r1 r3 x4 x5 r6 r7 x8 x9 x10 y0 y1 t2 s) : h_V X 11 138 [(0, pR (some o0)), (1, pR r1), (3, pR r3), (4, pI x4), (5, pI x5), (6, pR r6), (7, pR r7), (8, pI x8), (9, pI x9), (10, pI x10)] [pI y0, pI y1, pR t2] s 0 0 := by
  unfold w_X9_sharedOf_138 at h
  obtain ⟨a1, e_a1, h⟩ := h
  refine v_nn2 e_a1 ?_
  obtain ⟨k2, h⟩ := h
  obtain ⟨i3, h⟩ := h
  refine v_iast hX dX9_sharedOf_138 k2 i3 ?_
  refine v_iload hX dX9_sharedOf_139 7 rfl ?_
  refine v_iconst (v := 1) hX dX9_sharedOf_141 (by decide) ?_
  refine v_ishl hX dX9_sharedOf_142 ?_
  refine v_iload hX dX9_sharedOf_143 9 rfl ?_
  refine v_if_eq (tgt := 152) hX dX9_sharedOf_145 (by decide) (fun c5 => ?_) (fun c5 => ?_)
  · have h := h_T c5 h
    refine v_iconst (v := 0) hX dX9_sharedOf_152 (by decide) ?_
    refine v_pick [0, 1, 2, 3, 4, 5, 6, 8] rfl ?_
    exact b_X9_sharedOf_153 hX hE hK17 hK61 _ h
  · have h := h_E c5 h
    refine v_iconst (v := 1) hX dX9_sharedOf_148 (by decide) ?_
    refine v_goto (tgt := 153) hX dX9_sharedOf_149 (by decide) ?_
    refine v_pick [0, 1, 2, 3, 4, 5, 6, 8] rfl ?_
    exact b_X9_sharedOf_153 hX hE hK17 hK61 _ h
set_option maxRecDepth 100000 in
set_option maxHeartbeats 4000000 in
theorem b_X9_sharedOf_86 {X : h_X} (hX : h_ok X cX9_sharedOf 11 RX9 1 23) {Q : Int32 → h_S → Prop} (hE : h_end X (some .int) (h_QI (x_Z X) Q)) {K17 : Nat → Option Nat → Option Nat → Int32 → Int32 → h_S → Prop} (hK17 : ∀ (o0 : Nat) (r1 : Option Nat) (r3 : Option Nat) (x4 : Int32) (x5 : Int32) (s : h_S), K17 o0 r1 r3 x4 x5 s → h_V X 11 17 [(0, pR (some o0)), (1, pR r1), (3, pR r3), (4, pI x4), (5, pI x5)] [] s 0 0) {K61 : Nat → Option Nat → Option Nat → Int32 → Int32 → Option Nat → Option Nat → Int32 → Int32 → h_S → Prop} (hK61 : ∀ (o0 : Nat) (r1 : Option Nat) (r3 : Option Nat) (x4 : Int32) (x5 : Int32) (r6 : Option Nat) (r7 : Option Nat) (x8 : Int32) (x9 : Int32) (s : h_S), K61 o0 r1 r3 x4 x5 r6 r7 x8 x9 s → h_V X 11 61 [(0, pR (some o0)), (1, pR r1), (3, pR r3), (4, pI x4), (5, pI x5), (6, pR r6), (7, pR r7), (8, pI x8), (9, pI x9)] [] s 0 0) {o0 : Nat} {r1 : Option Nat} {r3 : Option Nat} {x4 : Int32} {x5 : Int32} {r6 : Option Nat} {r7 : Option Nat} {x8 : Int32} {x9 : Int32} {y0 : Int32} (s : h_S) (h : w_X9_sharedOf_86 Q K17 K61 o0 r1 r3 x4 x5 r6 r7 x8 x9 y0 s) : h_V X 11 86 [(0, pR (some o0)), (1, pR r1), (3, pR r3), (4, pI x4), (5, pI x5), (6, pR r6), (7, pR r7), (8, pI x8), (9, pI x9)] [pI y0] s 0 0 := by
  unfold w_X9_sharedOf_86 at h
  refine v_istore (lv' := [(10, _), (0, _), (1, _), (3, _), (4, _), (5, _), (6, _), (7, _), (8, _), (9, _)]) hX dX9_sharedOf_86 (by decide) rfl ?_
  refine v_aload hX dX9_sharedOf_88 7 rfl ?_
  refine v_iload hX dX9_sharedOf_90 9 rfl ?_
  refine v_aload_n hX dX9_sharedOf_92 2 rfl rfl ?_
  refine v_iload hX dX9_sharedOf_93 5 rfl ?_
  obtain ⟨a1, e_a1, h⟩ := h
  refine v_nn1 e_a1 ?_
  obtain ⟨k2, h⟩ := h
  obtain ⟨i3, h⟩ := h
  refine v_iald hX dX9_sharedOf_95 k2 i3 ?_
  refine v_aload_n hX dX9_sharedOf_96 3 rfl rfl ?_
  refine v_iload hX dX9_sharedOf_97 9 rfl ?_
  obtain ⟨a4, e_a4, h⟩ := h
  refine v_nn1 e_a4 ?_
  obtain ⟨k5, h⟩ := h
  obtain ⟨i6, h⟩ := h
  refine v_iald hX dX9_sharedOf_99 k5 i6 ?_
  refine v_callSi0 hX dX9_sharedOf_100 c_RX9_70 cS_X9_alike [pI _, pI _] rfl rfl (Nat.le_of_ble_eq_true rfl) (by decide) (by decide)  (m_X9_alike h) (fun p8 s7 h => ?_)
  refine v_if_eq (tgt := 118) hX dX9_sharedOf_103 (by decide) (fun c9 => ?_) (fun c9 => ?_)
  · have h := h_T c9 h
    refine v_iload hX dX9_sharedOf_118 0 rfl ?_
    refine v_if_eq (tgt := 131) hX dX9_sharedOf_120 (by decide) (fun c10 => ?_) (fun c10 => ?_)
    · have h := h_T c10 h
      refine v_aload hX dX9_sharedOf_131 7 rfl ?_
      refine v_iload hX dX9_sharedOf_133 9 rfl ?_
      refine v_iconst (v := 1) hX dX9_sharedOf_135 (by decide) ?_
      refine v_iadd hX dX9_sharedOf_136 ?_
      obtain ⟨a11, e_a11, h⟩ := h
      refine v_nn1 e_a11 ?_
      obtain ⟨k12, h⟩ := h
      obtain ⟨i13, h⟩ := h
      refine v_iald hX dX9_sharedOf_137 k12 i13 ?_
      refine v_pick [1, 2, 3, 4, 5, 6, 7, 8, 9, 0] rfl ?_
      exact b_X9_sharedOf_138 hX hE hK17 hK61 _ h
    · have h := h_E c10 h
      refine v_aload hX dX9_sharedOf_123 6 rfl ?_
      refine v_iload hX dX9_sharedOf_125 9 rfl ?_
      obtain ⟨a14, e_a14, h⟩ := h
      refine v_nn1 e_a14 ?_
      obtain ⟨k15, h⟩ := h
      obtain ⟨i16, h⟩ := h
      refine v_iald hX dX9_sharedOf_127 k15 i16 ?_
      refine v_goto (tgt := 138) hX dX9_sharedOf_128 (by decide) ?_
      refine v_pick [1, 2, 3, 4, 5, 6, 7, 8, 9, 0] rfl ?_
      exact b_X9_sharedOf_138 hX hE hK17 hK61 _ h
  · have h := h_E c9 h
    refine v_aload hX dX9_sharedOf_106 6 rfl ?_
    refine v_iload hX dX9_sharedOf_108 9 rfl ?_
    refine v_iconst (v := 1) hX dX9_sharedOf_110 (by decide) ?_
    refine v_iadd hX dX9_sharedOf_111 ?_
    obtain ⟨a17, e_a17, h⟩ := h
    refine v_nn1 e_a17 ?_
    obtain ⟨k18, h⟩ := h
    obtain ⟨i19, h⟩ := h
    refine v_iald hX dX9_sharedOf_112 k18 i19 ?_
    refine v_iconst (v := 1) hX dX9_sharedOf_113 (by decide) ?_
    refine v_iadd hX dX9_sharedOf_114 ?_
    refine v_goto (tgt := 138) hX dX9_sharedOf_115 (by decide) ?_
    refine v_pick [1, 2, 3, 4, 5, 6, 7, 8, 9, 0] rfl ?_
    exact b_X9_sharedOf_138 hX hE hK17 hK61 _ h
set_option maxRecDepth 100000 in
set_option maxHeartbeats 4000000 in
theorem b_X9_sharedOf_61 {X : h_X} (hX : h_ok X cX9_sharedOf 11 RX9 1 23) {Q : Int32 → h_S → Prop} (hE : h_end X (some .int) (h_QI (x_Z X) Q)) {K17 : Nat → Option Nat → Option Nat → Int32 → Int32 → h_S → Prop} (hK17 : ∀ (o0 : Nat) (r1 : Option Nat) (r3 : Option Nat) (x4 : Int32) (x5 : Int32) (s : h_S), K17 o0 r1 r3 x4 x5 s → h_V X 11 17 [(0, pR (some o0)), (1, pR r1), (3, pR r3), (4, pI x4), (5, pI x5)] [] s 0 0) : ∀ (n : Nat) (o0 : Nat) (r1 : Option Nat) (r3 : Option Nat) (x4 : Int32) (x5 : Int32) (r6 : Option Nat) (r7 : Option Nat) (x8 : Int32) (x9 : Int32) (s : h_S), w_X9_sharedOf_61 Q K17 n o0 r1 r3 x4 x5 r6 r7 x8 x9 s → h_V X 11 61 [(0, pR (some o0)), (1, pR r1), (3, pR r3), (4, pI x4), (5, pI x5), (6, pR r6), (7, pR r7), (8, pI x8), (9, pI x9)] [] s 0 0 := by
  intro n
  induction n with
  | zero => intro _ _ _ _ _ _ _ _ _ s h; exact h.elim
  | succ n hK61 =>
    intro o0 r1 r3 x4 x5 r6 r7 x8 x9 s h
    have h : w_X9_sharedOf_61b Q K17 (w_X9_sharedOf_61 Q K17 n) o0 r1 r3 x4 x5 r6 r7 x8 x9 s := h
    unfold w_X9_sharedOf_61b at h
    refine v_iload hX dX9_sharedOf_61 8 rfl ?_
    refine v_if_lt (tgt := 190) hX dX9_sharedOf_63 (by decide) (fun c1 => ?_) (fun c1 => ?_)
    · have h := h_T c1 h
      refine v_iinc (c := -1) (lv' := [(5, _), (0, _), (1, _), (3, _), (4, _), (6, _), (7, _), (8, _), (9, _)]) hX dX9_sharedOf_190 4 rfl (by decide) (by decide) rfl ?_
      refine v_goto (tgt := 17) hX dX9_sharedOf_193 (by decide) ?_
      refine v_pick [1, 2, 3, 4, 0] rfl ?_
      exact hK17 _ _ _ _ _ _ h
    · have h := h_E c1 h
      refine v_aload hX dX9_sharedOf_66 5 rfl ?_
      refine v_iload hX dX9_sharedOf_68 8 rfl ?_
      obtain ⟨a2, e_a2, h⟩ := h
      refine v_nn1 e_a2 ?_
      obtain ⟨k3, h⟩ := h
      obtain ⟨i4, h⟩ := h
      refine v_iald hX dX9_sharedOf_70 k3 i4 ?_
      refine v_aload hX dX9_sharedOf_71 6 rfl ?_
      refine v_iload hX dX9_sharedOf_73 8 rfl ?_
      refine v_iconst (v := 1) hX dX9_sharedOf_75 (by decide) ?_
      refine v_iadd hX dX9_sharedOf_76 ?_
      obtain ⟨a5, e_a5, h⟩ := h
      refine v_nn1 e_a5 ?_
      obtain ⟨k6, h⟩ := h
      obtain ⟨i7, h⟩ := h
      refine v_iald hX dX9_sharedOf_77 k6 i7 ?_
      refine v_icmp_lt (tgt := 85) hX dX9_sharedOf_78 (by decide) (fun c8 => ?_) (fun c8 => ?_)
      · have h := h_T c8 h
        refine v_iconst (v := 0) hX dX9_sharedOf_85 (by decide) ?_
        refine v_pick [0, 1, 2, 3, 4, 5, 6, 7, 8] rfl ?_
        exact b_X9_sharedOf_86 hX hE hK17 hK61 _ h
      · have h := h_E c8 h
        refine v_iconst (v := 1) hX dX9_sharedOf_81 (by decide) ?_
        refine v_goto (tgt := 86) hX dX9_sharedOf_82 (by decide) ?_
        refine v_pick [0, 1, 2, 3, 4, 5, 6, 7, 8] rfl ?_
        exact b_X9_sharedOf_86 hX hE hK17 hK61 _ h
set_option maxRecDepth 100000 in
set_option maxHeartbeats 4000000 in
theorem b_X9_sharedOf_17 {X : h_X} (hX : h_ok X cX9_sharedOf 11 RX9 1 23) {Q : Int32 → h_S → Prop} (hE : h_end X (some .int) (h_QI (x_Z X) Q)) : ∀ (n : Nat) (o0 : Nat) (r1 : Option Nat) (r3 : Option Nat) (x4 : Int32) (x5 : Int32) (s : h_S), w_X9_sharedOf_17 Q n o0 r1 r3 x4 x5 s → h_V X 11 17 [(0, pR (some o0)), (1, pR r1), (3, pR r3), (4, pI x4), (5, pI x5)] [] s 0 0 := by
  intro n
  induction n with
  | zero => intro _ _ _ _ _ s h; exact h.elim
  | succ n hK17 =>
    intro o0 r1 r3 x4 x5 s h
    have h : w_X9_sharedOf_17b Q (w_X9_sharedOf_17 Q n) o0 r1 r3 x4 x5 s := h
    unfold w_X9_sharedOf_17b at h
    refine v_iload hX dX9_sharedOf_17 4 rfl ?_
    refine v_if_lt (tgt := 196) hX dX9_sharedOf_19 (by decide) (fun c1 => ?_) (fun c1 => ?_)
    · have h := h_T c1 h
      refine v_aload_n hX dX9_sharedOf_196 0 rfl rfl ?_
      obtain ⟨k2, h⟩ := h
      refine v_getR hX dX9_sharedOf_197 f_RX9_11 rfl k2 ?_
      refine v_iconst (v := 0) hX dX9_sharedOf_200 (by decide) ?_
      obtain ⟨a3, e_a3, h⟩ := h
      refine v_nn1 e_a3 ?_
      obtain ⟨k4, h⟩ := h
      obtain ⟨i5, h⟩ := h
      refine v_aald (k := 8) hX dX9_sharedOf_201 rfl rfl (by decide) (by decide) k4 i5 ?_
      refine v_iconst (v := 0) hX dX9_sharedOf_202 (by decide) ?_
      obtain ⟨a6, e_a6, h⟩ := h
      refine v_nn1 e_a6 ?_
      obtain ⟨k7, h⟩ := h
      obtain ⟨i8, h⟩ := h
      refine v_iald hX dX9_sharedOf_203 k7 i8 ?_
      exact v_iret hX hE dX9_sharedOf_204 h
    · have h := h_E c1 h
      refine v_aload_n hX dX9_sharedOf_22 0 rfl rfl ?_
      obtain ⟨k9, h⟩ := h
      refine v_getR hX dX9_sharedOf_23 f_RX9_11 rfl k9 ?_
      refine v_iload hX dX9_sharedOf_26 4 rfl ?_
      refine v_iconst (v := 1) hX dX9_sharedOf_28 (by decide) ?_
      refine v_iadd hX dX9_sharedOf_29 ?_
      refine v_iconst (v := 1) hX dX9_sharedOf_30 (by decide) ?_
      refine v_iand hX dX9_sharedOf_31 ?_
      obtain ⟨a10, e_a10, h⟩ := h
      refine v_nn1 e_a10 ?_
      obtain ⟨k11, h⟩ := h
      obtain ⟨i12, h⟩ := h
      refine v_aald (k := 8) hX dX9_sharedOf_32 rfl rfl (by decide) (by decide) k11 i12 ?_
      refine v_astore (lv' := [(6, _), (0, _), (1, _), (3, _), (4, _), (5, _)]) hX dX9_sharedOf_33 (by decide) rfl ?_
      refine v_aload_n hX dX9_sharedOf_35 1 rfl rfl ?_
      refine v_getR hX dX9_sharedOf_36 f_RX9_11 rfl k9 ?_
      refine v_iload hX dX9_sharedOf_39 5 rfl ?_
      refine v_iconst (v := 1) hX dX9_sharedOf_41 (by decide) ?_
      refine v_iand hX dX9_sharedOf_42 ?_
      obtain ⟨a14, e_a14, h⟩ := h
      refine v_nn1 e_a14 ?_
      obtain ⟨k15, h⟩ := h
      obtain ⟨i16, h⟩ := h
      refine v_aald (k := 8) hX dX9_sharedOf_43 rfl rfl (by decide) (by decide) k15 i16 ?_
      refine v_astore (lv' := [(7, _), (6, _), (0, _), (1, _), (3, _), (4, _), (5, _)]) hX dX9_sharedOf_44 (by decide) rfl ?_
      refine v_aload hX dX9_sharedOf_46 0 rfl ?_
      refine v_iload hX dX9_sharedOf_48 5 rfl ?_
      refine v_iconst (v := 0) hX dX9_sharedOf_50 (by decide) ?_
      obtain ⟨a18, e_a18, h⟩ := h
      refine v_nn2 e_a18 ?_
      obtain ⟨k19, h⟩ := h
      obtain ⟨i20, h⟩ := h
      refine v_iast hX dX9_sharedOf_51 k19 i20 ?_
      refine v_iconst (v := 0) hX dX9_sharedOf_52 (by decide) ?_
      refine v_istore (lv' := [(8, _), (7, _), (6, _), (0, _), (1, _), (3, _), (4, _), (5, _)]) hX dX9_sharedOf_53 (by decide) rfl ?_
      refine v_iload hX dX9_sharedOf_55 6 rfl ?_
      refine v_iconst (v := 1) hX dX9_sharedOf_57 (by decide) ?_
      refine v_isub hX dX9_sharedOf_58 ?_
      refine v_istore (lv' := [(9, _), (8, _), (7, _), (6, _), (0, _), (1, _), (3, _), (4, _), (5, _)]) hX dX9_sharedOf_59 (by decide) rfl ?_
      refine v_pick [4, 5, 6, 7, 8, 3, 2, 1, 0] rfl ?_
      obtain ⟨n, h⟩ := h
      exact b_X9_sharedOf_61 hX hE hK17 n _ _ _ _ _ _ _ _ _ _ h
set_option maxRecDepth 100000 in
set_option maxHeartbeats 4000000 in
theorem m_X9_sharedOf {Z : h_Z} {o0 : Nat} {r1 : Option Nat} {x2 : Int32} {r3 : Option Nat} {x4 : Int32} {s : h_S} {Q : Int32 → h_S → Prop} (h : w_X9_sharedOf o0 r1 x2 r3 x4 s Q) : h_M Z yX9_sharedOf cX9_sharedOf 11 (some .int) 1 23 [pR (some o0), pR r1, pI x2, pR r3, pI x4] s 0 0 (h_QI Z Q) := by
  refine h_M.of (by decide) (Nat.le_of_ble_eq_true rfl) (fun X hZ hX hE hI => ?_)
  subst hZ
  unfold w_X9_sharedOf at h
  show h_V X 11 0 [(0, pR (some o0)), (1, pR r1), (2, pI x2), (3, pR r3), (4, pI x4)] [] s 0 0
  refine v_aload_n hX dX9_sharedOf_0 0 rfl rfl ?_
  obtain ⟨k1, h⟩ := h
  refine v_getR hX dX9_sharedOf_1 f_RX9_11 rfl k1 ?_
  refine v_iload_n hX dX9_sharedOf_4 2 rfl rfl ?_
  refine v_iconst (v := 1) hX dX9_sharedOf_5 (by decide) ?_
  refine v_iand hX dX9_sharedOf_6 ?_
  obtain ⟨a2, e_a2, h⟩ := h
  refine v_nn1 e_a2 ?_
  obtain ⟨k3, h⟩ := h
  obtain ⟨i4, h⟩ := h
  refine v_aald (k := 8) hX dX9_sharedOf_7 rfl rfl (by decide) (by decide) k3 i4 ?_
  refine v_iconst (v := 0) hX dX9_sharedOf_8 (by decide) ?_
  refine v_callSv0 hX dX9_sharedOf_9 c_RX9_64 cS_J7_fill_53178 [pR _, pI _] rfl rfl (Nat.le_of_ble_eq_true rfl) (by decide) (by decide)  (m_J7_fill_53178 h) (fun s5 h => ?_)
  refine v_iload_n hX dX9_sharedOf_12 2 rfl rfl ?_
  refine v_iconst (v := 1) hX dX9_sharedOf_13 (by decide) ?_
  refine v_isub hX dX9_sharedOf_14 ?_
  refine v_istore (lv' := [(5, _), (0, _), (1, _), (2, _), (3, _), (4, _)]) hX dX9_sharedOf_15 (by decide) rfl ?_
  refine v_pick [1, 2, 4, 5, 0] rfl ?_
  obtain ⟨n, h⟩ := h
  exact b_X9_sharedOf_17 hX hE n _ _ _ _ _ _ h
set_option maxRecDepth 100000 in
set_option maxHeartbeats 4000000 in
theorem m_X9_sharedBy {Z : h_Z} {o0 : Nat} {r1 : Option Nat} {r2 : Option Nat} {s : h_S} {Q : Int32 → h_S → Prop} (h : w_X9_sharedBy o0 r1 r2 s Q) : h_M Z yX9_sharedBy cX9_sharedBy 3 (some .int) 2 60 [pR (some o0), pR r1, pR r2] s 0 0 (h_QI Z Q) := by
  refine h_M.of (by decide) (Nat.le_of_ble_eq_true rfl) (fun X hZ hX hE hI => ?_)
  subst hZ
  unfold w_X9_sharedBy at h
  show h_V X 3 0 [(0, pR (some o0)), (1, pR r1), (2, pR r2)] [] s 0 0
  refine v_aload_n hX dX9_sharedBy_0 0 rfl rfl ?_
  refine v_aload_n hX dX9_sharedBy_1 1 rfl rfl ?_
  refine v_aload_n hX dX9_sharedBy_2 1 rfl rfl ?_
  obtain ⟨a1, e_a1, h⟩ := h
  refine v_nn0 e_a1 ?_
  obtain ⟨k2, h⟩ := h
  refine v_alenK hX dX9_sharedBy_3 (k := 1) rfl (by decide) (by decide) k2 ?_
  refine v_sipush (v := 300) hX dX9_sharedBy_4 (by decide) ?_
  refine v_min hX dX9_sharedBy_7 mm_min_RX9_54 (by decide) (Nat.le_of_ble_eq_true rfl) ?_
  refine v_aload_n hX dX9_sharedBy_10 2 rfl rfl ?_
  refine v_aload_n hX dX9_sharedBy_11 2 rfl rfl ?_
  obtain ⟨a3, e_a3, h⟩ := h
  refine v_nn0 e_a3 ?_
  obtain ⟨k4, h⟩ := h
  refine v_alenK hX dX9_sharedBy_12 (k := 1) rfl (by decide) (by decide) k4 ?_
  refine v_sipush (v := 300) hX dX9_sharedBy_13 (by decide) ?_
  refine v_min hX dX9_sharedBy_16 mm_min_RX9_54 (by decide) (Nat.le_of_ble_eq_true rfl) ?_
  obtain ⟨k5, h⟩ := h
  refine v_callVi0 hX dX9_sharedBy_19 c_RX9_60 cV_X9_sharedOf (ci := 10) (T := TX9) (N := 16) rfl (by exact k5) [pR _, pI _, pR _, pI _] rfl rfl (Nat.le_of_ble_eq_true rfl) (by decide) (by decide)  (m_X9_sharedOf h) (fun p7 s6 h => ?_)
  exact v_iret hX hE dX9_sharedBy_22 h
set_option maxRecDepth 100000 in
set_option maxHeartbeats 4000000 in
theorem b_X9_isCut_29 {X : h_X} (hX : h_ok X cX9_isCut 3 RX9 0 0) {Q : Int32 → h_S → Prop} (hE : h_end X (some .boolean) (h_QI (x_Z X) Q)) {y0 : Int32} (s : h_S) (h : w_X9_isCut_29 Q y0 s) : h_V X 3 29 [] [pI y0] s 0 0 := by
  unfold w_X9_isCut_29 at h
  exact v_zret hX hE dX9_isCut_29 h.1 h.2
set_option maxRecDepth 100000 in
set_option maxHeartbeats 4000000 in
theorem m_X9_isCut {Z : h_Z} {o0 : Nat} {x1 : Int32} {x2 : Int32} {s : h_S} {Q : Int32 → h_S → Prop} (h : w_X9_isCut o0 x1 x2 s Q) : h_M Z yX9_isCut cX9_isCut 3 (some .boolean) 0 0 [pR (some o0), pI x1, pI x2] s 0 0 (h_QI Z Q) := by
  refine h_M.of (by decide) (Nat.le_of_ble_eq_true rfl) (fun X hZ hX hE hI => ?_)
  subst hZ
  unfold w_X9_isCut at h
  show h_V X 3 0 [(0, pR (some o0)), (1, pI x1), (2, pI x2)] [] s 0 0
  refine v_aload_n hX dX9_isCut_0 0 rfl rfl ?_
  obtain ⟨k1, h⟩ := h
  refine v_getR hX dX9_isCut_1 f_RX9_16 rfl k1 ?_
  refine v_iload_n hX dX9_isCut_4 1 rfl rfl ?_
  refine v_bipush (v := 10) hX dX9_isCut_5 (by decide) ?_
  refine v_imul hX dX9_isCut_7 ?_
  refine v_iload_n hX dX9_isCut_8 2 rfl rfl ?_
  refine v_iconst (v := 5) hX dX9_isCut_9 (by decide) ?_
  refine v_ishr hX dX9_isCut_10 ?_
  refine v_iadd hX dX9_isCut_11 ?_
  obtain ⟨a2, e_a2, h⟩ := h
  refine v_nn1 e_a2 ?_
  obtain ⟨k3, h⟩ := h
  obtain ⟨i4, h⟩ := h
  refine v_iald hX dX9_isCut_12 k3 i4 ?_
  refine v_iload_n hX dX9_isCut_13 2 rfl rfl ?_
  refine v_bipush (v := 31) hX dX9_isCut_14 (by decide) ?_
  refine v_iand hX dX9_isCut_16 ?_
  refine v_ishr hX dX9_isCut_17 ?_
  refine v_iconst (v := 1) hX dX9_isCut_18 (by decide) ?_
  refine v_iand hX dX9_isCut_19 ?_
  refine v_iconst (v := 1) hX dX9_isCut_20 (by decide) ?_
  refine v_icmp_ne (tgt := 28) hX dX9_isCut_21 (by decide) (fun c5 => ?_) (fun c5 => ?_)
  · have h := h_E c5 h
    refine v_iconst (v := 0) hX dX9_isCut_28 (by decide) ?_
    refine v_pick [] rfl ?_
    exact b_X9_isCut_29 hX hE _ h
  · have h := h_T c5 h
    refine v_iconst (v := 1) hX dX9_isCut_24 (by decide) ?_
    refine v_goto (tgt := 29) hX dX9_isCut_25 (by decide) ?_
    refine v_pick [] rfl ?_
    exact b_X9_isCut_29 hX hE _ h
set_option maxRecDepth 100000 in
set_option maxHeartbeats 4000000 in
theorem b_X9_commonTo_52 {X : h_X} (hX : h_ok X cX9_commonTo 8 RX9 1 23) {Q : Int32 → h_S → Prop} (hE : h_end X (some .int) (h_QI (x_Z X) Q)) {K17 : Nat → Option Nat → Option Nat → Int32 → Int32 → h_S → Prop} (hK17 : ∀ (o0 : Nat) (r2 : Option Nat) (r3 : Option Nat) (x4 : Int32) (x5 : Int32) (s : h_S), K17 o0 r2 r3 x4 x5 s → h_V X 8 17 [(0, pR (some o0)), (2, pR r2), (3, pR r3), (4, pI x4), (5, pI x5)] [] s 0 0) {o0 : Nat} {r2 : Option Nat} {r3 : Option Nat} {x4 : Int32} {x5 : Int32} (s : h_S) (h : w_X9_commonTo_52 Q K17 o0 r2 r3 x4 x5 s) : h_V X 8 52 [(0, pR (some o0)), (2, pR r2), (3, pR r3), (4, pI x4), (5, pI x5)] [] s 0 0 := by
  unfold w_X9_commonTo_52 at h
  refine v_iinc (c := 1) (lv' := [(5, _), (0, _), (2, _), (3, _), (4, _)]) hX dX9_commonTo_52 4 rfl (by decide) (by decide) rfl ?_
  refine v_goto (tgt := 17) hX dX9_commonTo_55 (by decide) ?_
  refine v_pick [1, 2, 3, 4, 0] rfl ?_
  exact hK17 _ _ _ _ _ _ h
set_option maxRecDepth 100000 in
set_option maxHeartbeats 4000000 in
theorem b_X9_commonTo_120 {X : h_X} (hX : h_ok X cX9_commonTo 8 RX9 1 23) {Q : Int32 → h_S → Prop} (hE : h_end X (some .int) (h_QI (x_Z X) Q)) {K71 : Nat → Int32 → Option Nat → Int32 → Int32 → h_S → Prop} (hK71 : ∀ (o0 : Nat) (x3 : Int32) (r4 : Option Nat) (x5 : Int32) (x6 : Int32) (s : h_S), K71 o0 x3 r4 x5 x6 s → h_V X 8 71 [(0, pR (some o0)), (3, pI x3), (4, pR r4), (5, pI x5), (6, pI x6)] [] s 0 0) {o0 : Nat} {x3 : Int32} {r4 : Option Nat} {x5 : Int32} {x6 : Int32} (s : h_S) (h : w_X9_commonTo_120 Q K71 o0 x3 r4 x5 x6 s) : h_V X 8 120 [(0, pR (some o0)), (3, pI x3), (4, pR r4), (5, pI x5), (6, pI x6)] [] s 0 0 := by
  unfold w_X9_commonTo_120 at h
  refine v_iinc (c := 1) (lv' := [(6, _), (0, _), (3, _), (4, _), (5, _)]) hX dX9_commonTo_120 4 rfl (by decide) (by decide) rfl ?_
  refine v_goto (tgt := 71) hX dX9_commonTo_123 (by decide) ?_
  refine v_pick [1, 2, 3, 4, 0] rfl ?_
  exact hK71 _ _ _ _ _ _ h
set_option maxRecDepth 100000 in
set_option maxHeartbeats 4000000 in
theorem b_X9_commonTo_71 {X : h_X} (hX : h_ok X cX9_commonTo 8 RX9 1 23) {Q : Int32 → h_S → Prop} (hE : h_end X (some .int) (h_QI (x_Z X) Q)) : ∀ (n : Nat) (o0 : Nat) (x3 : Int32) (r4 : Option Nat) (x5 : Int32) (x6 : Int32) (s : h_S), w_X9_commonTo_71 Q n o0 x3 r4 x5 x6 s → h_V X 8 71 [(0, pR (some o0)), (3, pI x3), (4, pR r4), (5, pI x5), (6, pI x6)] [] s 0 0 := by
  intro n
  induction n with
  | zero => intro _ _ _ _ _ s h; exact h.elim
  | succ n hK71 =>
    intro o0 x3 r4 x5 x6 s h
    have h : w_X9_commonTo_71b Q (w_X9_commonTo_71 Q n) o0 x3 r4 x5 x6 s := h
    unfold w_X9_commonTo_71b at h
    refine v_iload hX dX9_commonTo_71 4 rfl ?_
    refine v_iload hX dX9_commonTo_73 3 rfl ?_
    refine v_icmp_ge (tgt := 126) hX dX9_commonTo_75 (by decide) (fun c1 => ?_) (fun c1 => ?_)
    · have h := h_T c1 h
      refine v_iload_n hX dX9_commonTo_126 1 rfl rfl ?_
      exact v_iret hX hE dX9_commonTo_127 h
    · have h := h_E c1 h
      refine v_aload hX dX9_commonTo_78 2 rfl ?_
      refine v_iload hX dX9_commonTo_80 4 rfl ?_
      obtain ⟨a2, e_a2, h⟩ := h
      refine v_nn1 e_a2 ?_
      obtain ⟨k3, h⟩ := h
      obtain ⟨i4, h⟩ := h
      refine v_iald hX dX9_commonTo_82 k3 i4 ?_
      refine v_istore (lv' := [(7, _), (0, _), (3, _), (4, _), (5, _), (6, _)]) hX dX9_commonTo_83 (by decide) rfl ?_
      refine v_iload hX dX9_commonTo_85 0 rfl ?_
      refine v_sipush (v := 500) hX dX9_commonTo_87 (by decide) ?_
      refine v_callSi0 hX dX9_commonTo_90 c_RX9_74 cS_X11_within [pI _, pI _] rfl rfl (Nat.le_of_ble_eq_true rfl) (by decide) (by decide)  (m_X11_within h) (fun p6 s5 h => ?_)
      refine v_if_eq (tgt := 120) hX dX9_commonTo_93 (by decide) (fun c7 => ?_) (fun c7 => ?_)
      · have h := h_T c7 h
        refine v_pick [1, 2, 3, 4, 5] rfl ?_
        exact b_X9_commonTo_120 hX hE hK71 _ h
      · have h := h_E c7 h
        refine v_aload_n hX dX9_commonTo_96 1 rfl rfl ?_
        obtain ⟨k8, h⟩ := h
        refine v_getR hX dX9_commonTo_97 f_RX9_20 rfl k8 ?_
        refine v_iload hX dX9_commonTo_100 0 rfl ?_
        obtain ⟨a9, e_a9, h⟩ := h
        refine v_nn1 e_a9 ?_
        obtain ⟨k10, h⟩ := h
        obtain ⟨i11, h⟩ := h
        refine v_iald hX dX9_commonTo_102 k10 i11 ?_
        refine v_if_le (tgt := 120) hX dX9_commonTo_103 (by decide) (fun c12 => ?_) (fun c12 => ?_)
        · have h := h_T c12 h
          refine v_pick [1, 2, 3, 4, 5] rfl ?_
          exact b_X9_commonTo_120 hX hE hK71 _ h
        · have h := h_E c12 h
          refine v_aload_n hX dX9_commonTo_106 1 rfl rfl ?_
          refine v_getR hX dX9_commonTo_107 f_RX9_20 rfl k8 ?_
          refine v_iload hX dX9_commonTo_110 0 rfl ?_
          refine v_dup2 hX dX9_commonTo_112 rfl rfl ?_
          obtain ⟨a13, e_a13, h⟩ := h
          refine v_nn1 e_a13 ?_
          obtain ⟨k14, h⟩ := h
          obtain ⟨i15, h⟩ := h
          refine v_iald hX dX9_commonTo_113 k14 i15 ?_
          refine v_iconst (v := 1) hX dX9_commonTo_114 (by decide) ?_
          refine v_isub hX dX9_commonTo_115 ?_
          obtain ⟨a16, e_a16, h⟩ := h
          refine v_nn2 e_a16 ?_
          obtain ⟨k17, h⟩ := h
          obtain ⟨i18, h⟩ := h
          refine v_iast hX dX9_commonTo_116 k17 i18 ?_
          refine v_iinc (c := 1) (lv' := [(3, _), (7, _), (0, _), (4, _), (5, _), (6, _)]) hX dX9_commonTo_117 2 rfl (by decide) (by decide) rfl ?_
          refine v_pick [2, 0, 3, 4, 5] rfl ?_
          exact b_X9_commonTo_120 hX hE hK71 _ h
set_option maxRecDepth 100000 in
set_option maxHeartbeats 4000000 in
theorem b_X9_commonTo_17 {X : h_X} (hX : h_ok X cX9_commonTo 8 RX9 1 23) {Q : Int32 → h_S → Prop} (hE : h_end X (some .int) (h_QI (x_Z X) Q)) : ∀ (n : Nat) (o0 : Nat) (r2 : Option Nat) (r3 : Option Nat) (x4 : Int32) (x5 : Int32) (s : h_S), w_X9_commonTo_17 Q n o0 r2 r3 x4 x5 s → h_V X 8 17 [(0, pR (some o0)), (2, pR r2), (3, pR r3), (4, pI x4), (5, pI x5)] [] s 0 0 := by
  intro n
  induction n with
  | zero => intro _ _ _ _ _ s h; exact h.elim
  | succ n hK17 =>
    intro o0 r2 r3 x4 x5 s h
    have h : w_X9_commonTo_17b Q (w_X9_commonTo_17 Q n) o0 r2 r3 x4 x5 s := h
    unfold w_X9_commonTo_17b at h
    refine v_iload hX dX9_commonTo_17 4 rfl ?_
    refine v_iload hX dX9_commonTo_19 3 rfl ?_
    refine v_icmp_ge (tgt := 58) hX dX9_commonTo_21 (by decide) (fun c1 => ?_) (fun c1 => ?_)
    · have h := h_T c1 h
      refine v_iconst (v := 0) hX dX9_commonTo_58 (by decide) ?_
      refine v_istore_n (lv' := [(3, _), (0, _), (2, _), (4, _), (5, _)]) hX dX9_commonTo_59 rfl (by decide) rfl ?_
      refine v_aload_n hX dX9_commonTo_60 2 rfl rfl ?_
      refine v_astore (lv' := [(4, _), (3, _), (0, _), (2, _), (5, _)]) hX dX9_commonTo_61 (by decide) rfl ?_
      refine v_aload hX dX9_commonTo_63 0 rfl ?_
      obtain ⟨a2, e_a2, h⟩ := h
      refine v_nn0 e_a2 ?_
      obtain ⟨k3, h⟩ := h
      refine v_alenK hX dX9_commonTo_65 (k := 1) rfl (by decide) (by decide) k3 ?_
      refine v_istore (lv' := [(5, _), (4, _), (3, _), (0, _), (2, _)]) hX dX9_commonTo_66 (by decide) rfl ?_
      refine v_iconst (v := 0) hX dX9_commonTo_68 (by decide) ?_
      refine v_istore (lv' := [(6, _), (5, _), (4, _), (3, _), (0, _), (2, _)]) hX dX9_commonTo_69 (by decide) rfl ?_
      refine v_pick [4, 3, 2, 1, 0] rfl ?_
      obtain ⟨n, h⟩ := h
      exact b_X9_commonTo_71 hX hE n _ _ _ _ _ _ h
    · have h := h_E c1 h
      refine v_aload_n hX dX9_commonTo_24 2 rfl rfl ?_
      refine v_iload hX dX9_commonTo_25 4 rfl ?_
      obtain ⟨a4, e_a4, h⟩ := h
      refine v_nn1 e_a4 ?_
      obtain ⟨k5, h⟩ := h
      obtain ⟨i6, h⟩ := h
      refine v_iald hX dX9_commonTo_27 k5 i6 ?_
      refine v_istore (lv' := [(6, _), (0, _), (2, _), (3, _), (4, _), (5, _)]) hX dX9_commonTo_28 (by decide) rfl ?_
      refine v_iload hX dX9_commonTo_30 0 rfl ?_
      refine v_sipush (v := 500) hX dX9_commonTo_32 (by decide) ?_
      refine v_callSi0 hX dX9_commonTo_35 c_RX9_74 cS_X11_within [pI _, pI _] rfl rfl (Nat.le_of_ble_eq_true rfl) (by decide) (by decide)  (m_X11_within h) (fun p8 s7 h => ?_)
      refine v_if_eq (tgt := 52) hX dX9_commonTo_38 (by decide) (fun c9 => ?_) (fun c9 => ?_)
      · have h := h_T c9 h
        refine v_pick [1, 2, 3, 4, 5] rfl ?_
        exact b_X9_commonTo_52 hX hE hK17 _ h
      · have h := h_E c9 h
        refine v_aload_n hX dX9_commonTo_41 1 rfl rfl ?_
        obtain ⟨k10, h⟩ := h
        refine v_getR hX dX9_commonTo_42 f_RX9_20 rfl k10 ?_
        refine v_iload hX dX9_commonTo_45 0 rfl ?_
        refine v_dup2 hX dX9_commonTo_47 rfl rfl ?_
        obtain ⟨a11, e_a11, h⟩ := h
        refine v_nn1 e_a11 ?_
        obtain ⟨k12, h⟩ := h
        obtain ⟨i13, h⟩ := h
        refine v_iald hX dX9_commonTo_48 k12 i13 ?_
        refine v_iconst (v := 1) hX dX9_commonTo_49 (by decide) ?_
        refine v_iadd hX dX9_commonTo_50 ?_
        obtain ⟨a14, e_a14, h⟩ := h
        refine v_nn2 e_a14 ?_
        obtain ⟨k15, h⟩ := h
        obtain ⟨i16, h⟩ := h
        refine v_iast hX dX9_commonTo_51 k15 i16 ?_
        refine v_pick [1, 2, 3, 4, 5] rfl ?_
        exact b_X9_commonTo_52 hX hE hK17 _ h
set_option maxRecDepth 100000 in
set_option maxHeartbeats 4000000 in
theorem m_X9_commonTo {Z : h_Z} {o0 : Nat} {r1 : Option Nat} {r2 : Option Nat} {s : h_S} {Q : Int32 → h_S → Prop} (h : w_X9_commonTo o0 r1 r2 s Q) : h_M Z yX9_commonTo cX9_commonTo 8 (some .int) 1 23 [pR (some o0), pR r1, pR r2] s 0 0 (h_QI Z Q) := by
  refine h_M.of (by decide) (Nat.le_of_ble_eq_true rfl) (fun X hZ hX hE hI => ?_)
  subst hZ
  unfold w_X9_commonTo at h
  show h_V X 8 0 [(0, pR (some o0)), (1, pR r1), (2, pR r2)] [] s 0 0
  refine v_aload_n hX dX9_commonTo_0 0 rfl rfl ?_
  obtain ⟨k1, h⟩ := h
  refine v_getR hX dX9_commonTo_1 f_RX9_20 rfl k1 ?_
  refine v_iconst (v := 0) hX dX9_commonTo_4 (by decide) ?_
  refine v_callSv0 hX dX9_commonTo_5 c_RX9_64 cS_J7_fill_53178 [pR _, pI _] rfl rfl (Nat.le_of_ble_eq_true rfl) (by decide) (by decide)  (m_J7_fill_53178 h) (fun s2 h => ?_)
  refine v_aload_n hX dX9_commonTo_8 1 rfl rfl ?_
  refine v_astore_n (lv' := [(3, _), (0, _), (1, _), (2, _)]) hX dX9_commonTo_9 rfl (by decide) rfl ?_
  refine v_aload_n hX dX9_commonTo_10 0 rfl rfl ?_
  obtain ⟨a4, e_a4, h⟩ := h
  refine v_nn0 e_a4 ?_
  obtain ⟨k5, h⟩ := h
  refine v_alenK hX dX9_commonTo_11 (k := 1) rfl (by decide) (by decide) k5 ?_
  refine v_istore (lv' := [(4, _), (3, _), (0, _), (1, _), (2, _)]) hX dX9_commonTo_12 (by decide) rfl ?_
  refine v_iconst (v := 0) hX dX9_commonTo_14 (by decide) ?_
  refine v_istore (lv' := [(5, _), (4, _), (3, _), (0, _), (1, _), (2, _)]) hX dX9_commonTo_15 (by decide) rfl ?_
  refine v_pick [3, 5, 2, 1, 0] rfl ?_
  obtain ⟨n, h⟩ := h
  exact b_X9_commonTo_17 hX hE n _ _ _ _ _ _ h
set_option maxRecDepth 100000 in
set_option maxHeartbeats 4000000 in
theorem b_X9_withoutGaps_45 {X : h_X} (hX : h_ok X cX9_withoutGaps 7 RX9 0 0) {Q : Int32 → h_S → Prop} (hE : h_end X (some .int) (h_QI (x_Z X) Q)) {K11 : Option Nat → Int32 → Option Nat → Int32 → Int32 → h_S → Prop} (hK11 : ∀ (r1 : Option Nat) (x2 : Int32) (r3 : Option Nat) (x4 : Int32) (x5 : Int32) (s : h_S), K11 r1 x2 r3 x4 x5 s → h_V X 7 11 [(1, pR r1), (2, pI x2), (3, pR r3), (4, pI x4), (5, pI x5)] [] s 0 0) {r1 : Option Nat} {x2 : Int32} {r3 : Option Nat} {x4 : Int32} {x5 : Int32} (s : h_S) (h : w_X9_withoutGaps_45 Q K11 r1 x2 r3 x4 x5 s) : h_V X 7 45 [(1, pR r1), (2, pI x2), (3, pR r3), (4, pI x4), (5, pI x5)] [] s 0 0 := by
  unfold w_X9_withoutGaps_45 at h
  refine v_iinc (c := 1) (lv' := [(5, _), (1, _), (2, _), (3, _), (4, _)]) hX dX9_withoutGaps_45 4 rfl (by decide) (by decide) rfl ?_
  refine v_goto (tgt := 11) hX dX9_withoutGaps_48 (by decide) ?_
  refine v_pick [1, 2, 3, 4, 0] rfl ?_
  exact hK11 _ _ _ _ _ _ h
set_option maxRecDepth 100000 in
set_option maxHeartbeats 4000000 in
theorem b_X9_withoutGaps_11 {X : h_X} (hX : h_ok X cX9_withoutGaps 7 RX9 0 0) {Q : Int32 → h_S → Prop} (hE : h_end X (some .int) (h_QI (x_Z X) Q)) : ∀ (n : Nat) (r1 : Option Nat) (x2 : Int32) (r3 : Option Nat) (x4 : Int32) (x5 : Int32) (s : h_S), w_X9_withoutGaps_11 Q n r1 x2 r3 x4 x5 s → h_V X 7 11 [(1, pR r1), (2, pI x2), (3, pR r3), (4, pI x4), (5, pI x5)] [] s 0 0 := by
  intro n
  induction n with
  | zero => intro _ _ _ _ _ s h; exact h.elim
  | succ n hK11 =>
    intro r1 x2 r3 x4 x5 s h
    have h : w_X9_withoutGaps_11b Q (w_X9_withoutGaps_11 Q n) r1 x2 r3 x4 x5 s := h
    unfold w_X9_withoutGaps_11b at h
    refine v_iload hX dX9_withoutGaps_11 4 rfl ?_
    refine v_iload hX dX9_withoutGaps_13 3 rfl ?_
    refine v_icmp_ge (tgt := 51) hX dX9_withoutGaps_15 (by decide) (fun c1 => ?_) (fun c1 => ?_)
    · have h := h_T c1 h
      refine v_iload_n hX dX9_withoutGaps_51 1 rfl rfl ?_
      exact v_iret hX hE dX9_withoutGaps_52 h
    · have h := h_E c1 h
      refine v_aload_n hX dX9_withoutGaps_18 2 rfl rfl ?_
      refine v_iload hX dX9_withoutGaps_19 4 rfl ?_
      obtain ⟨a2, e_a2, h⟩ := h
      refine v_nn1 e_a2 ?_
      obtain ⟨k3, h⟩ := h
      obtain ⟨i4, h⟩ := h
      refine v_iald hX dX9_withoutGaps_21 k3 i4 ?_
      refine v_istore (lv' := [(6, _), (1, _), (2, _), (3, _), (4, _), (5, _)]) hX dX9_withoutGaps_22 (by decide) rfl ?_
      refine v_iload hX dX9_withoutGaps_24 0 rfl ?_
      refine v_bipush (v := -7) hX dX9_withoutGaps_26 (by decide) ?_
      refine v_icmp_eq (tgt := 45) hX dX9_withoutGaps_28 (by decide) (fun c5 => ?_) (fun c5 => ?_)
      · have h := h_T c5 h
        refine v_pick [1, 2, 3, 4, 5] rfl ?_
        exact b_X9_withoutGaps_45 hX hE hK11 _ h
      · have h := h_E c5 h
        refine v_iload_n hX dX9_withoutGaps_31 2 rfl rfl ?_
        refine v_aload_n hX dX9_withoutGaps_32 1 rfl rfl ?_
        obtain ⟨a6, e_a6, h⟩ := h
        refine v_nn0 e_a6 ?_
        obtain ⟨k7, h⟩ := h
        refine v_alenK hX dX9_withoutGaps_33 (k := 1) rfl (by decide) (by decide) k7 ?_
        refine v_icmp_ge (tgt := 45) hX dX9_withoutGaps_34 (by decide) (fun c8 => ?_) (fun c8 => ?_)
        · have h := h_T c8 h
          refine v_pick [1, 2, 3, 4, 5] rfl ?_
          exact b_X9_withoutGaps_45 hX hE hK11 _ h
        · have h := h_E c8 h
          refine v_aload_n hX dX9_withoutGaps_37 1 rfl rfl ?_
          refine v_iload_n hX dX9_withoutGaps_38 2 rfl rfl ?_
          refine v_iload hX dX9_withoutGaps_39 0 rfl ?_
          obtain ⟨a9, e_a9, h⟩ := h
          refine v_nn2 e_a9 ?_
          obtain ⟨k10, h⟩ := h
          obtain ⟨i11, h⟩ := h
          refine v_iast hX dX9_withoutGaps_41 k10 i11 ?_
          refine v_iinc (c := 1) (lv' := [(2, _), (6, _), (1, _), (3, _), (4, _), (5, _)]) hX dX9_withoutGaps_42 2 rfl (by decide) (by decide) rfl ?_
          refine v_pick [2, 0, 3, 4, 5] rfl ?_
          exact b_X9_withoutGaps_45 hX hE hK11 _ h
set_option maxRecDepth 100000 in
set_option maxHeartbeats 4000000 in
theorem m_X9_withoutGaps {Z : h_Z} {r0 : Option Nat} {r1 : Option Nat} {s : h_S} {Q : Int32 → h_S → Prop} (h : w_X9_withoutGaps r0 r1 s Q) : h_M Z yX9_withoutGaps cX9_withoutGaps 7 (some .int) 0 0 [pR r0, pR r1] s 0 0 (h_QI Z Q) := by
  refine h_M.of (by decide) (Nat.le_of_ble_eq_true rfl) (fun X hZ hX hE hI => ?_)
  subst hZ
  unfold w_X9_withoutGaps at h
  show h_V X 7 0 [(0, pR r0), (1, pR r1)] [] s 0 0
  refine v_iconst (v := 0) hX dX9_withoutGaps_0 (by decide) ?_
  refine v_istore_n (lv' := [(2, _), (0, _), (1, _)]) hX dX9_withoutGaps_1 rfl (by decide) rfl ?_
  refine v_aload_n hX dX9_withoutGaps_2 1 rfl rfl ?_
  refine v_astore_n (lv' := [(3, _), (2, _), (0, _), (1, _)]) hX dX9_withoutGaps_3 rfl (by decide) rfl ?_
  refine v_aload_n hX dX9_withoutGaps_4 0 rfl rfl ?_
  obtain ⟨a1, e_a1, h⟩ := h
  refine v_nn0 e_a1 ?_
  obtain ⟨k2, h⟩ := h
  refine v_alenK hX dX9_withoutGaps_5 (k := 1) rfl (by decide) (by decide) k2 ?_
  refine v_istore (lv' := [(4, _), (3, _), (2, _), (0, _), (1, _)]) hX dX9_withoutGaps_6 (by decide) rfl ?_
  refine v_iconst (v := 0) hX dX9_withoutGaps_8 (by decide) ?_
  refine v_istore (lv' := [(5, _), (4, _), (3, _), (2, _), (0, _), (1, _)]) hX dX9_withoutGaps_9 (by decide) rfl ?_
  refine v_pick [5, 3, 2, 1, 0] rfl ?_
  obtain ⟨n, h⟩ := h
  exact b_X9_withoutGaps_11 hX hE n _ _ _ _ _ _ h
set_option maxRecDepth 100000 in
set_option maxHeartbeats 4000000 in
theorem b_X9_findWay_137 {X : h_X} (hX : h_ok X cX9_findWay 6 RX9 2 53) {Q : h_S → Prop} (hE : h_end X none (h_QV (x_Z X) Q)) {K35 : Nat → Int32 → Option Nat → Int32 → Int32 → Int32 → h_S → Prop} (hK35 : ∀ (o0 : Nat) (x1 : Int32) (r2 : Option Nat) (x3 : Int32) (x4 : Int32) (x5 : Int32) (s : h_S), K35 o0 x1 r2 x3 x4 x5 s → h_V X 6 35 [(0, pR (some o0)), (1, pI x1), (2, pR r2), (3, pI x3), (4, pI x4), (5, pI x5)] [] s 0 0) {o0 : Nat} {x1 : Int32} {r2 : Option Nat} {x3 : Int32} {x4 : Int32} {x5 : Int32} (s : h_S) (h : w_X9_findWay_137 Q K35 o0 x1 r2 x3 x4 x5 s) : h_V X 6 137 [(0, pR (some o0)), (1, pI x1), (2, pR r2), (3, pI x3), (4, pI x4), (5, pI x5)] [] s 0 0 := by
  unfold w_X9_findWay_137 at h
  refine v_iinc (c := 1) (lv' := [(5, _), (0, _), (1, _), (2, _), (3, _), (4, _)]) hX dX9_findWay_137 5 rfl (by decide) (by decide) rfl ?_
  refine v_goto (tgt := 35) hX dX9_findWay_140 (by decide) ?_
  refine v_pick [1, 2, 3, 4, 5, 0] rfl ?_
  exact hK35 _ _ _ _ _ _ _ h
set_option maxRecDepth 100000 in
set_option maxHeartbeats 4000000 in
theorem b_X9_findWay_129 {X : h_X} (hX : h_ok X cX9_findWay 6 RX9 2 53) {Q : h_S → Prop} (hE : h_end X none (h_QV (x_Z X) Q)) {K35 : Nat → Int32 → Option Nat → Int32 → Int32 → Int32 → h_S → Prop} (hK35 : ∀ (o0 : Nat) (x1 : Int32) (r2 : Option Nat) (x3 : Int32) (x4 : Int32) (x5 : Int32) (s : h_S), K35 o0 x1 r2 x3 x4 x5 s → h_V X 6 35 [(0, pR (some o0)), (1, pI x1), (2, pR r2), (3, pI x3), (4, pI x4), (5, pI x5)] [] s 0 0) {o0 : Nat} {x1 : Int32} {r2 : Option Nat} {x3 : Int32} {x4 : Int32} {x5 : Int32} (s : h_S) (h : w_X9_findWay_129 Q K35 o0 x1 r2 x3 x4 x5 s) : h_V X 6 129 [(0, pR (some o0)), (1, pI x1), (2, pR r2), (3, pI x3), (4, pI x4), (5, pI x5)] [] s 0 0 := by
  unfold w_X9_findWay_129 at h
  refine v_aload_n hX dX9_findWay_129 0 rfl rfl ?_
  obtain ⟨k1, h⟩ := h
  refine v_getR hX dX9_findWay_130 f_RX9_38 rfl k1 ?_
  refine v_iload hX dX9_findWay_133 5 rfl ?_
  refine v_iconst (v := 1) hX dX9_findWay_135 (by decide) ?_
  obtain ⟨a2, e_a2, h⟩ := h
  refine v_nn2 e_a2 ?_
  obtain ⟨k3, h⟩ := h
  obtain ⟨i4, h⟩ := h
  refine v_zast hX dX9_findWay_136 k3 i4 (Or.inr rfl) ?_
  refine v_pick [0, 1, 2, 3, 4, 5] rfl ?_
  exact b_X9_findWay_137 hX hE hK35 _ h
set_option maxRecDepth 100000 in
set_option maxHeartbeats 4000000 in
theorem b_X9_findWay_92 {X : h_X} (hX : h_ok X cX9_findWay 6 RX9 2 53) {Q : h_S → Prop} (hE : h_end X none (h_QV (x_Z X) Q)) {K35 : Nat → Int32 → Option Nat → Int32 → Int32 → Int32 → h_S → Prop} (hK35 : ∀ (o0 : Nat) (x1 : Int32) (r2 : Option Nat) (x3 : Int32) (x4 : Int32) (x5 : Int32) (s : h_S), K35 o0 x1 r2 x3 x4 x5 s → h_V X 6 35 [(0, pR (some o0)), (1, pI x1), (2, pR r2), (3, pI x3), (4, pI x4), (5, pI x5)] [] s 0 0) {o0 : Nat} {x1 : Int32} {r2 : Option Nat} {x3 : Int32} {x4 : Int32} {x5 : Int32} (s : h_S) (h : w_X9_findWay_92 Q K35 o0 x1 r2 x3 x4 x5 s) : h_V X 6 92 [(0, pR (some o0)), (1, pI x1), (2, pR r2), (3, pI x3), (4, pI x4), (5, pI x5)] [] s 0 0 := by
  unfold w_X9_findWay_92 at h
  refine v_aload_n hX dX9_findWay_92 0 rfl rfl ?_
  obtain ⟨k1, h⟩ := h
  refine v_getR hX dX9_findWay_93 f_RX9_35 rfl k1 ?_
  refine v_iload_n hX dX9_findWay_96 1 rfl rfl ?_
  obtain ⟨a2, e_a2, h⟩ := h
  refine v_nn1 e_a2 ?_
  obtain ⟨k3, h⟩ := h
  obtain ⟨i4, h⟩ := h
  refine v_aald (k := 8) hX dX9_findWay_97 rfl rfl (by decide) (by decide) k3 i4 ?_
  refine v_iload hX dX9_findWay_98 5 rfl ?_
  refine v_iload hX dX9_findWay_100 4 rfl ?_
  obtain ⟨a5, e_a5, h⟩ := h
  refine v_nn2 e_a5 ?_
  obtain ⟨k6, h⟩ := h
  obtain ⟨i7, h⟩ := h
  refine v_iast hX dX9_findWay_102 k6 i7 ?_
  refine v_iload hX dX9_findWay_103 4 rfl ?_
  refine v_iload_n hX dX9_findWay_105 3 rfl rfl ?_
  refine v_icmp_ge (tgt := 129) hX dX9_findWay_106 (by decide) (fun c9 => ?_) (fun c9 => ?_)
  · have h := h_T c9 h
    refine v_pick [0, 1, 2, 3, 4, 5] rfl ?_
    exact b_X9_findWay_129 hX hE hK35 _ h
  · have h := h_E c9 h
    refine v_aload_n hX dX9_findWay_109 2 rfl rfl ?_
    refine v_iload hX dX9_findWay_110 4 rfl ?_
    obtain ⟨a10, e_a10, h⟩ := h
    refine v_nn1 e_a10 ?_
    obtain ⟨k11, h⟩ := h
    obtain ⟨i12, h⟩ := h
    refine v_iald hX dX9_findWay_112 k11 i12 ?_
    refine v_aload_n hX dX9_findWay_113 0 rfl rfl ?_
    refine v_getR hX dX9_findWay_114 f_RX9_23 rfl k1 ?_
    refine v_iload hX dX9_findWay_117 5 rfl ?_
    obtain ⟨a13, e_a13, h⟩ := h
    refine v_nn1 e_a13 ?_
    obtain ⟨k14, h⟩ := h
    obtain ⟨i15, h⟩ := h
    refine v_iald hX dX9_findWay_119 k14 i15 ?_
    refine v_icmp_ne (tgt := 129) hX dX9_findWay_120 (by decide) (fun c16 => ?_) (fun c16 => ?_)
    · have h := h_E c16 h
      refine v_pick [0, 1, 2, 3, 4, 5] rfl ?_
      exact b_X9_findWay_129 hX hE hK35 _ h
    · have h := h_T c16 h
      refine v_iinc (c := 1) (lv' := [(4, _), (0, _), (1, _), (2, _), (3, _), (5, _)]) hX dX9_findWay_123 4 rfl (by decide) (by decide) rfl ?_
      refine v_goto (tgt := 137) hX dX9_findWay_126 (by decide) ?_
      refine v_pick [1, 2, 3, 4, 0, 5] rfl ?_
      exact b_X9_findWay_137 hX hE hK35 _ h
set_option maxRecDepth 100000 in
set_option maxHeartbeats 4000000 in
theorem b_X9_findWay_55 {X : h_X} (hX : h_ok X cX9_findWay 6 RX9 2 53) {Q : h_S → Prop} (hE : h_end X none (h_QV (x_Z X) Q)) {K35 : Nat → Int32 → Option Nat → Int32 → Int32 → Int32 → h_S → Prop} (hK35 : ∀ (o0 : Nat) (x1 : Int32) (r2 : Option Nat) (x3 : Int32) (x4 : Int32) (x5 : Int32) (s : h_S), K35 o0 x1 r2 x3 x4 x5 s → h_V X 6 35 [(0, pR (some o0)), (1, pI x1), (2, pR r2), (3, pI x3), (4, pI x4), (5, pI x5)] [] s 0 0) : ∀ (n : Nat) (o0 : Nat) (x1 : Int32) (r2 : Option Nat) (x3 : Int32) (x4 : Int32) (x5 : Int32) (s : h_S), w_X9_findWay_55 Q K35 n o0 x1 r2 x3 x4 x5 s → h_V X 6 55 [(0, pR (some o0)), (1, pI x1), (2, pR r2), (3, pI x3), (4, pI x4), (5, pI x5)] [] s 0 0 := by
  intro n
  induction n with
  | zero => intro _ _ _ _ _ _ s h; exact h.elim
  | succ n hK55 =>
    intro o0 x1 r2 x3 x4 x5 s h
    have h : w_X9_findWay_55b Q K35 (w_X9_findWay_55 Q K35 n) o0 x1 r2 x3 x4 x5 s := h
    unfold w_X9_findWay_55b at h
    refine v_iload hX dX9_findWay_55 4 rfl ?_
    refine v_iload_n hX dX9_findWay_57 3 rfl rfl ?_
    refine v_icmp_ge (tgt := 92) hX dX9_findWay_58 (by decide) (fun c1 => ?_) (fun c1 => ?_)
    · have h := h_T c1 h
      refine v_pick [0, 1, 2, 3, 4, 5] rfl ?_
      exact b_X9_findWay_92 hX hE hK35 _ h
    · have h := h_E c1 h
      refine v_aload_n hX dX9_findWay_61 2 rfl rfl ?_
      refine v_iload hX dX9_findWay_62 4 rfl ?_
      obtain ⟨a2, e_a2, h⟩ := h
      refine v_nn1 e_a2 ?_
      obtain ⟨k3, h⟩ := h
      obtain ⟨i4, h⟩ := h
      refine v_iald hX dX9_findWay_64 k3 i4 ?_
      refine v_aload_n hX dX9_findWay_65 0 rfl rfl ?_
      obtain ⟨k5, h⟩ := h
      refine v_getR hX dX9_findWay_66 f_RX9_23 rfl k5 ?_
      refine v_iload hX dX9_findWay_69 5 rfl ?_
      obtain ⟨a6, e_a6, h⟩ := h
      refine v_nn1 e_a6 ?_
      obtain ⟨k7, h⟩ := h
      obtain ⟨i8, h⟩ := h
      refine v_iald hX dX9_findWay_71 k7 i8 ?_
      refine v_icmp_eq (tgt := 92) hX dX9_findWay_72 (by decide) (fun c9 => ?_) (fun c9 => ?_)
      · have h := h_T c9 h
        refine v_pick [0, 1, 2, 3, 4, 5] rfl ?_
        exact b_X9_findWay_92 hX hE hK35 _ h
      · have h := h_E c9 h
        refine v_aload_n hX dX9_findWay_75 0 rfl rfl ?_
        refine v_iload hX dX9_findWay_76 5 rfl ?_
        refine v_iload hX dX9_findWay_78 4 rfl ?_
        refine v_callVi0 hX dX9_findWay_80 c_RX9_102 cV_X9_isCut (ci := 10) (T := TX9) (N := 16) rfl (by exact k5) [pI _, pI _] rfl rfl (Nat.le_of_ble_eq_true rfl) (by decide) (by decide)  (m_X9_isCut h) (fun p11 s10 h => ?_)
        refine v_if_ne (tgt := 92) hX dX9_findWay_83 (by decide) (fun c12 => ?_) (fun c12 => ?_)
        · have h := h_E c12 h
          refine v_pick [0, 1, 2, 3, 4, 5] rfl ?_
          exact b_X9_findWay_92 hX hE hK35 _ h
        · have h := h_T c12 h
          refine v_iinc (c := 1) (lv' := [(4, _), (0, _), (1, _), (2, _), (3, _), (5, _)]) hX dX9_findWay_86 4 rfl (by decide) (by decide) rfl ?_
          refine v_goto (tgt := 55) hX dX9_findWay_89 (by decide) ?_
          refine v_pick [1, 2, 3, 4, 0, 5] rfl ?_
          exact hK55 _ _ _ _ _ _ _ h
set_option maxRecDepth 100000 in
set_option maxHeartbeats 4000000 in
theorem b_X9_findWay_35 {X : h_X} (hX : h_ok X cX9_findWay 6 RX9 2 53) {Q : h_S → Prop} (hE : h_end X none (h_QV (x_Z X) Q)) : ∀ (n : Nat) (o0 : Nat) (x1 : Int32) (r2 : Option Nat) (x3 : Int32) (x4 : Int32) (x5 : Int32) (s : h_S), w_X9_findWay_35 Q n o0 x1 r2 x3 x4 x5 s → h_V X 6 35 [(0, pR (some o0)), (1, pI x1), (2, pR r2), (3, pI x3), (4, pI x4), (5, pI x5)] [] s 0 0 := by
  intro n
  induction n with
  | zero => intro _ _ _ _ _ _ s h; exact h.elim
  | succ n hK35 =>
    intro o0 x1 r2 x3 x4 x5 s h
    have h : w_X9_findWay_35b Q (w_X9_findWay_35 Q n) o0 x1 r2 x3 x4 x5 s := h
    unfold w_X9_findWay_35b at h
    refine v_iload hX dX9_findWay_35 5 rfl ?_
    refine v_aload_n hX dX9_findWay_37 0 rfl rfl ?_
    obtain ⟨k1, h⟩ := h
    refine v_getI hX dX9_findWay_38 f_RX9_81 rfl k1 ?_
    refine v_icmp_ge (tgt := 143) hX dX9_findWay_41 (by decide) (fun c2 => ?_) (fun c2 => ?_)
    · have h := h_T c2 h
      refine v_aload_n hX dX9_findWay_143 0 rfl rfl ?_
      refine v_getR hX dX9_findWay_144 f_RX9_32 rfl k1 ?_
      refine v_iload_n hX dX9_findWay_147 1 rfl rfl ?_
      obtain ⟨a3, e_a3, h⟩ := h
      refine v_nn1 e_a3 ?_
      obtain ⟨k4, h⟩ := h
      obtain ⟨i5, h⟩ := h
      refine v_aald (k := 8) hX dX9_findWay_148 rfl rfl (by decide) (by decide) k4 i5 ?_
      refine v_aload_n hX dX9_findWay_149 0 rfl rfl ?_
      refine v_getI hX dX9_findWay_150 f_RX9_81 rfl k1 ?_
      refine v_iload hX dX9_findWay_153 4 rfl ?_
      obtain ⟨a6, e_a6, h⟩ := h
      refine v_nn2 e_a6 ?_
      obtain ⟨k7, h⟩ := h
      obtain ⟨i8, h⟩ := h
      refine v_iast hX dX9_findWay_155 k7 i8 ?_
      refine v_aload_n hX dX9_findWay_156 0 rfl rfl ?_
      refine v_getR hX dX9_findWay_157 f_RX9_35 rfl k1 ?_
      refine v_iload_n hX dX9_findWay_160 1 rfl rfl ?_
      obtain ⟨a10, e_a10, h⟩ := h
      refine v_nn1 e_a10 ?_
      obtain ⟨k11, h⟩ := h
      obtain ⟨i12, h⟩ := h
      refine v_aald (k := 8) hX dX9_findWay_161 rfl rfl (by decide) (by decide) k11 i12 ?_
      refine v_aload_n hX dX9_findWay_162 0 rfl rfl ?_
      refine v_getI hX dX9_findWay_163 f_RX9_81 rfl k1 ?_
      refine v_iload_n hX dX9_findWay_166 3 rfl rfl ?_
      obtain ⟨a13, e_a13, h⟩ := h
      refine v_nn2 e_a13 ?_
      obtain ⟨k14, h⟩ := h
      obtain ⟨i15, h⟩ := h
      refine v_iast hX dX9_findWay_167 k14 i15 ?_
      exact v_vret hX hE dX9_findWay_168 h
    · have h := h_E c2 h
      refine v_aload_n hX dX9_findWay_44 0 rfl rfl ?_
      refine v_getR hX dX9_findWay_45 f_RX9_32 rfl k1 ?_
      refine v_iload_n hX dX9_findWay_48 1 rfl rfl ?_
      obtain ⟨a17, e_a17, h⟩ := h
      refine v_nn1 e_a17 ?_
      obtain ⟨k18, h⟩ := h
      obtain ⟨i19, h⟩ := h
      refine v_aald (k := 8) hX dX9_findWay_49 rfl rfl (by decide) (by decide) k18 i19 ?_
      refine v_iload hX dX9_findWay_50 5 rfl ?_
      refine v_iload hX dX9_findWay_52 4 rfl ?_
      obtain ⟨a20, e_a20, h⟩ := h
      refine v_nn2 e_a20 ?_
      obtain ⟨k21, h⟩ := h
      obtain ⟨i22, h⟩ := h
      refine v_iast hX dX9_findWay_54 k21 i22 ?_
      refine v_pick [0, 1, 2, 3, 4, 5] rfl ?_
      obtain ⟨n, h⟩ := h
      exact b_X9_findWay_55 hX hE hK35 n _ _ _ _ _ _ _ h
set_option maxRecDepth 100000 in
set_option maxHeartbeats 4000000 in
theorem m_X9_findWay {Z : h_Z} {o0 : Nat} {x1 : Int32} {s : h_S} {Q : h_S → Prop} (h : w_X9_findWay o0 x1 s Q) : h_M Z yX9_findWay cX9_findWay 6 none 2 53 [pR (some o0), pI x1] s 0 0 (h_QV Z Q) := by
  refine h_M.of (by decide) (Nat.le_of_ble_eq_true rfl) (fun X hZ hX hE hI => ?_)
  subst hZ
  unfold w_X9_findWay at h
  show h_V X 6 0 [(0, pR (some o0)), (1, pI x1)] [] s 0 0
  refine v_aload_n hX dX9_findWay_0 0 rfl rfl ?_
  obtain ⟨k1, h⟩ := h
  refine v_getR hX dX9_findWay_1 f_RX9_26 rfl k1 ?_
  refine v_iload_n hX dX9_findWay_4 1 rfl rfl ?_
  obtain ⟨a2, e_a2, h⟩ := h
  refine v_nn1 e_a2 ?_
  obtain ⟨k3, h⟩ := h
  obtain ⟨i4, h⟩ := h
  refine v_aald (k := 8) hX dX9_findWay_5 rfl rfl (by decide) (by decide) k3 i4 ?_
  refine v_astore_n (lv' := [(2, _), (0, _), (1, _)]) hX dX9_findWay_6 rfl (by decide) rfl ?_
  refine v_aload_n hX dX9_findWay_7 1 rfl rfl ?_
  refine v_getR hX dX9_findWay_8 f_RX9_29 rfl k1 ?_
  refine v_iload_n hX dX9_findWay_11 2 rfl rfl ?_
  obtain ⟨a5, e_a5, h⟩ := h
  refine v_nn1 e_a5 ?_
  obtain ⟨k6, h⟩ := h
  obtain ⟨i7, h⟩ := h
  refine v_iald hX dX9_findWay_12 k6 i7 ?_
  refine v_istore_n (lv' := [(3, _), (2, _), (0, _), (1, _)]) hX dX9_findWay_13 rfl (by decide) rfl ?_
  refine v_aload_n hX dX9_findWay_14 2 rfl rfl ?_
  refine v_aload_n hX dX9_findWay_15 2 rfl rfl ?_
  refine v_getR hX dX9_findWay_16 f_RX9_23 rfl k1 ?_
  refine v_aload_n hX dX9_findWay_19 2 rfl rfl ?_
  refine v_getI hX dX9_findWay_20 f_RX9_81 rfl k1 ?_
  refine v_aload_n hX dX9_findWay_23 1 rfl rfl ?_
  refine v_iload_n hX dX9_findWay_24 0 rfl rfl ?_
  refine v_callVi0 hX dX9_findWay_25 c_RX9_60 cV_X9_sharedOf (ci := 10) (T := TX9) (N := 16) rfl (by exact k1) [pR _, pI _, pR _, pI _] rfl rfl (Nat.le_of_ble_eq_true rfl) (by decide) (by decide)  (m_X9_sharedOf h) (fun p9 s8 h => ?_)
  refine v_pop hX dX9_findWay_28 rfl ?_
  refine v_iconst (v := 0) hX dX9_findWay_29 (by decide) ?_
  refine v_istore (lv' := [(4, _), (3, _), (2, _), (0, _), (1, _)]) hX dX9_findWay_30 (by decide) rfl ?_
  refine v_iconst (v := 0) hX dX9_findWay_32 (by decide) ?_
  refine v_istore (lv' := [(5, _), (4, _), (3, _), (2, _), (0, _), (1, _)]) hX dX9_findWay_33 (by decide) rfl ?_
  refine v_pick [4, 5, 3, 2, 1, 0] rfl ?_
  obtain ⟨n, h⟩ := h
  exact b_X9_findWay_35 hX hE n _ _ _ _ _ _ _ h
set_option maxRecDepth 100000 in
set_option maxHeartbeats 4000000 in
theorem b_J6_compare_7cf53_19 {X : h_X} (hX : h_ok X cJ6_compare_7cf53 2 RJ6 0 0) {Q : Int32 → h_S → Prop} (hE : h_end X (some .int) (h_QI (x_Z X) Q)) {y0 : Int32} (s : h_S) (h : w_J6_compare_7cf53_19 Q y0 s) : h_V X 2 19 [] [pI y0] s 0 0 := by
  unfold w_J6_compare_7cf53_19 at h
  exact v_iret hX hE dJ6_compare_7cf53_19 h
set_option maxRecDepth 100000 in
set_option maxHeartbeats 4000000 in
theorem m_J6_compare_7cf53 {Z : h_Z} {x0 : Int32} {x1 : Int32} {s : h_S} {Q : Int32 → h_S → Prop} (h : w_J6_compare_7cf53 x0 x1 s Q) : h_M Z yJ6_compare_7cf53 cJ6_compare_7cf53 2 (some .int) 0 0 [pI x0, pI x1] s 0 0 (h_QI Z Q) := by
  refine h_M.of (by decide) (Nat.le_of_ble_eq_true rfl) (fun X hZ hX hE hI => ?_)
  subst hZ
  unfold w_J6_compare_7cf53 at h
  show h_V X 2 0 [(0, pI x0), (1, pI x1)] [] s 0 0
  refine v_iload_n hX dJ6_compare_7cf53_0 0 rfl rfl ?_
  refine v_iload_n hX dJ6_compare_7cf53_1 1 rfl rfl ?_
  refine v_icmp_ge (tgt := 9) hX dJ6_compare_7cf53_2 (by decide) (fun c1 => ?_) (fun c1 => ?_)
  · have h := h_T c1 h
    refine v_iload_n hX dJ6_compare_7cf53_9 0 rfl rfl ?_
    refine v_iload_n hX dJ6_compare_7cf53_10 1 rfl rfl ?_
    refine v_icmp_ne (tgt := 18) hX dJ6_compare_7cf53_11 (by decide) (fun c2 => ?_) (fun c2 => ?_)
    · have h := h_E c2 h
      refine v_iconst (v := 1) hX dJ6_compare_7cf53_18 (by decide) ?_
      refine v_pick [] rfl ?_
      exact b_J6_compare_7cf53_19 hX hE _ h
    · have h := h_T c2 h
      refine v_iconst (v := 0) hX dJ6_compare_7cf53_14 (by decide) ?_
      refine v_goto (tgt := 19) hX dJ6_compare_7cf53_15 (by decide) ?_
      refine v_pick [] rfl ?_
      exact b_J6_compare_7cf53_19 hX hE _ h
  · have h := h_E c1 h
    refine v_iconst (v := -1) hX dJ6_compare_7cf53_5 (by decide) ?_
    refine v_goto (tgt := 19) hX dJ6_compare_7cf53_6 (by decide) ?_
    refine v_pick [] rfl ?_
    exact b_J6_compare_7cf53_19 hX hE _ h
set_option maxRecDepth 100000 in
set_option maxHeartbeats 4000000 in
theorem b_X9_orderOfPuts_112 {X : h_X} (hX : h_ok X cX9_orderOfPuts 7 RX9 1 21) {Q : Int32 → h_S → Prop} (hE : h_end X (some .int) (h_QI (x_Z X) Q)) {x2 : Int32} {x3 : Int32} (s : h_S) (h : w_X9_orderOfPuts_112 Q x2 x3 s) : h_V X 7 112 [(2, pI x2), (3, pI x3)] [] s 0 0 := by
  unfold w_X9_orderOfPuts_112 at h
  refine v_iload_n hX dX9_orderOfPuts_112 0 rfl rfl ?_
  refine v_iload_n hX dX9_orderOfPuts_113 1 rfl rfl ?_
  refine v_callSi0 hX dX9_orderOfPuts_114 c_RX9_113 cS_J6_compare_7cf53 [pI _, pI _] rfl rfl (Nat.le_of_ble_eq_true rfl) (by decide) (by decide)  (m_J6_compare_7cf53 h) (fun p2 s1 h => ?_)
  exact v_iret hX hE dX9_orderOfPuts_117 h
set_option maxRecDepth 100000 in
set_option maxHeartbeats 4000000 in
theorem b_X9_orderOfPuts_39 {X : h_X} (hX : h_ok X cX9_orderOfPuts 7 RX9 1 21) {Q : Int32 → h_S → Prop} (hE : h_end X (some .int) (h_QI (x_Z X) Q)) : ∀ (n : Nat) (o0 : Nat) (x1 : Int32) (x2 : Int32) (x3 : Int32) (x4 : Int32) (s : h_S), w_X9_orderOfPuts_39 Q n o0 x1 x2 x3 x4 s → h_V X 7 39 [(0, pR (some o0)), (1, pI x1), (2, pI x2), (3, pI x3), (4, pI x4)] [] s 0 0 := by
  intro n
  induction n with
  | zero => intro _ _ _ _ _ s h; exact h.elim
  | succ n hK39 =>
    intro o0 x1 x2 x3 x4 s h
    have h : w_X9_orderOfPuts_39b Q (w_X9_orderOfPuts_39 Q n) o0 x1 x2 x3 x4 s := h
    unfold w_X9_orderOfPuts_39b at h
    refine v_iload hX dX9_orderOfPuts_39 4 rfl ?_
    refine v_iload_n hX dX9_orderOfPuts_41 2 rfl rfl ?_
    refine v_icmp_ge (tgt := 112) hX dX9_orderOfPuts_42 (by decide) (fun c1 => ?_) (fun c1 => ?_)
    · have h := h_T c1 h
      refine v_pick [2, 3] rfl ?_
      exact b_X9_orderOfPuts_112 hX hE _ h
    · have h := h_E c1 h
      refine v_iload hX dX9_orderOfPuts_45 4 rfl ?_
      refine v_iload_n hX dX9_orderOfPuts_47 3 rfl rfl ?_
      refine v_icmp_ge (tgt := 112) hX dX9_orderOfPuts_48 (by decide) (fun c2 => ?_) (fun c2 => ?_)
      · have h := h_T c2 h
        refine v_pick [2, 3] rfl ?_
        exact b_X9_orderOfPuts_112 hX hE _ h
      · have h := h_E c2 h
        refine v_aload_n hX dX9_orderOfPuts_51 0 rfl rfl ?_
        obtain ⟨k3, h⟩ := h
        refine v_getR hX dX9_orderOfPuts_52 f_RX9_26 rfl k3 ?_
        refine v_iconst (v := 0) hX dX9_orderOfPuts_55 (by decide) ?_
        obtain ⟨a4, e_a4, h⟩ := h
        refine v_nn1 e_a4 ?_
        obtain ⟨k5, h⟩ := h
        obtain ⟨i6, h⟩ := h
        refine v_aald (k := 8) hX dX9_orderOfPuts_56 rfl rfl (by decide) (by decide) k5 i6 ?_
        refine v_aload_n hX dX9_orderOfPuts_57 0 rfl rfl ?_
        refine v_getR hX dX9_orderOfPuts_58 f_RX9_32 rfl k3 ?_
        refine v_iconst (v := 0) hX dX9_orderOfPuts_61 (by decide) ?_
        obtain ⟨a7, e_a7, h⟩ := h
        refine v_nn1 e_a7 ?_
        obtain ⟨k8, h⟩ := h
        obtain ⟨i9, h⟩ := h
        refine v_aald (k := 8) hX dX9_orderOfPuts_62 rfl rfl (by decide) (by decide) k8 i9 ?_
        refine v_iload_n hX dX9_orderOfPuts_63 1 rfl rfl ?_
        obtain ⟨a10, e_a10, h⟩ := h
        refine v_nn1 e_a10 ?_
        obtain ⟨k11, h⟩ := h
        obtain ⟨i12, h⟩ := h
        refine v_iald hX dX9_orderOfPuts_64 k11 i12 ?_
        refine v_iload hX dX9_orderOfPuts_65 4 rfl ?_
        refine v_iadd hX dX9_orderOfPuts_67 ?_
        obtain ⟨a13, e_a13, h⟩ := h
        refine v_nn1 e_a13 ?_
        obtain ⟨k14, h⟩ := h
        obtain ⟨i15, h⟩ := h
        refine v_iald hX dX9_orderOfPuts_68 k14 i15 ?_
        refine v_istore (lv' := [(5, _), (0, _), (1, _), (2, _), (3, _), (4, _)]) hX dX9_orderOfPuts_69 (by decide) rfl ?_
        refine v_aload_n hX dX9_orderOfPuts_71 1 rfl rfl ?_
        refine v_getR hX dX9_orderOfPuts_72 f_RX9_26 rfl k3 ?_
        refine v_iconst (v := 1) hX dX9_orderOfPuts_75 (by decide) ?_
        obtain ⟨a17, e_a17, h⟩ := h
        refine v_nn1 e_a17 ?_
        obtain ⟨k18, h⟩ := h
        obtain ⟨i19, h⟩ := h
        refine v_aald (k := 8) hX dX9_orderOfPuts_76 rfl rfl (by decide) (by decide) k18 i19 ?_
        refine v_aload_n hX dX9_orderOfPuts_77 1 rfl rfl ?_
        refine v_getR hX dX9_orderOfPuts_78 f_RX9_32 rfl k3 ?_
        refine v_iconst (v := 1) hX dX9_orderOfPuts_81 (by decide) ?_
        obtain ⟨a20, e_a20, h⟩ := h
        refine v_nn1 e_a20 ?_
        obtain ⟨k21, h⟩ := h
        obtain ⟨i22, h⟩ := h
        refine v_aald (k := 8) hX dX9_orderOfPuts_82 rfl rfl (by decide) (by decide) k21 i22 ?_
        refine v_iload_n hX dX9_orderOfPuts_83 2 rfl rfl ?_
        obtain ⟨a23, e_a23, h⟩ := h
        refine v_nn1 e_a23 ?_
        obtain ⟨k24, h⟩ := h
        obtain ⟨i25, h⟩ := h
        refine v_iald hX dX9_orderOfPuts_84 k24 i25 ?_
        refine v_iload hX dX9_orderOfPuts_85 5 rfl ?_
        refine v_iadd hX dX9_orderOfPuts_87 ?_
        obtain ⟨a26, e_a26, h⟩ := h
        refine v_nn1 e_a26 ?_
        obtain ⟨k27, h⟩ := h
        obtain ⟨i28, h⟩ := h
        refine v_iald hX dX9_orderOfPuts_88 k27 i28 ?_
        refine v_istore (lv' := [(6, _), (5, _), (0, _), (1, _), (2, _), (3, _), (4, _)]) hX dX9_orderOfPuts_89 (by decide) rfl ?_
        refine v_iload hX dX9_orderOfPuts_91 1 rfl ?_
        refine v_iload hX dX9_orderOfPuts_93 0 rfl ?_
        refine v_icmp_eq (tgt := 106) hX dX9_orderOfPuts_95 (by decide) (fun c30 => ?_) (fun c30 => ?_)
        · have h := h_T c30 h
          refine v_iinc (c := 1) (lv' := [(4, _), (6, _), (5, _), (0, _), (1, _), (2, _), (3, _)]) hX dX9_orderOfPuts_106 6 rfl (by decide) (by decide) rfl ?_
          refine v_goto (tgt := 39) hX dX9_orderOfPuts_109 (by decide) ?_
          refine v_pick [3, 4, 5, 6, 0] rfl ?_
          exact hK39 _ _ _ _ _ _ h
        · have h := h_E c30 h
          refine v_iload hX dX9_orderOfPuts_98 1 rfl ?_
          refine v_iload hX dX9_orderOfPuts_100 0 rfl ?_
          refine v_callSi0 hX dX9_orderOfPuts_102 c_RX9_113 cS_J6_compare_7cf53 [pI _, pI _] rfl rfl (Nat.le_of_ble_eq_true rfl) (by decide) (by decide)  (m_J6_compare_7cf53 h) (fun p32 s31 h => ?_)
          exact v_iret hX hE dX9_orderOfPuts_105 h
set_option maxRecDepth 100000 in
set_option maxHeartbeats 4000000 in
theorem m_X9_orderOfPuts {Z : h_Z} {o0 : Nat} {x1 : Int32} {s : h_S} {Q : Int32 → h_S → Prop} (h : w_X9_orderOfPuts o0 x1 s Q) : h_M Z yX9_orderOfPuts cX9_orderOfPuts 7 (some .int) 1 21 [pR (some o0), pI x1] s 0 0 (h_QI Z Q) := by
  refine h_M.of (by decide) (Nat.le_of_ble_eq_true rfl) (fun X hZ hX hE hI => ?_)
  subst hZ
  unfold w_X9_orderOfPuts at h
  show h_V X 7 0 [(0, pR (some o0)), (1, pI x1)] [] s 0 0
  refine v_aload_n hX dX9_orderOfPuts_0 0 rfl rfl ?_
  obtain ⟨k1, h⟩ := h
  refine v_getR hX dX9_orderOfPuts_1 f_RX9_35 rfl k1 ?_
  refine v_iconst (v := 0) hX dX9_orderOfPuts_4 (by decide) ?_
  obtain ⟨a2, e_a2, h⟩ := h
  refine v_nn1 e_a2 ?_
  obtain ⟨k3, h⟩ := h
  obtain ⟨i4, h⟩ := h
  refine v_aald (k := 8) hX dX9_orderOfPuts_5 rfl rfl (by decide) (by decide) k3 i4 ?_
  refine v_iload_n hX dX9_orderOfPuts_6 1 rfl rfl ?_
  obtain ⟨a5, e_a5, h⟩ := h
  refine v_nn1 e_a5 ?_
  obtain ⟨k6, h⟩ := h
  obtain ⟨i7, h⟩ := h
  refine v_iald hX dX9_orderOfPuts_7 k6 i7 ?_
  refine v_aload_n hX dX9_orderOfPuts_8 0 rfl rfl ?_
  refine v_getR hX dX9_orderOfPuts_9 f_RX9_32 rfl k1 ?_
  refine v_iconst (v := 0) hX dX9_orderOfPuts_12 (by decide) ?_
  obtain ⟨a8, e_a8, h⟩ := h
  refine v_nn1 e_a8 ?_
  obtain ⟨k9, h⟩ := h
  obtain ⟨i10, h⟩ := h
  refine v_aald (k := 8) hX dX9_orderOfPuts_13 rfl rfl (by decide) (by decide) k9 i10 ?_
  refine v_iload_n hX dX9_orderOfPuts_14 1 rfl rfl ?_
  obtain ⟨a11, e_a11, h⟩ := h
  refine v_nn1 e_a11 ?_
  obtain ⟨k12, h⟩ := h
  obtain ⟨i13, h⟩ := h
  refine v_iald hX dX9_orderOfPuts_15 k12 i13 ?_
  refine v_isub hX dX9_orderOfPuts_16 ?_
  refine v_istore_n (lv' := [(2, _), (0, _), (1, _)]) hX dX9_orderOfPuts_17 rfl (by decide) rfl ?_
  refine v_aload_n hX dX9_orderOfPuts_18 1 rfl rfl ?_
  refine v_getR hX dX9_orderOfPuts_19 f_RX9_35 rfl k1 ?_
  refine v_iconst (v := 1) hX dX9_orderOfPuts_22 (by decide) ?_
  obtain ⟨a15, e_a15, h⟩ := h
  refine v_nn1 e_a15 ?_
  obtain ⟨k16, h⟩ := h
  obtain ⟨i17, h⟩ := h
  refine v_aald (k := 8) hX dX9_orderOfPuts_23 rfl rfl (by decide) (by decide) k16 i17 ?_
  refine v_iload_n hX dX9_orderOfPuts_24 2 rfl rfl ?_
  obtain ⟨a18, e_a18, h⟩ := h
  refine v_nn1 e_a18 ?_
  obtain ⟨k19, h⟩ := h
  obtain ⟨i20, h⟩ := h
  refine v_iald hX dX9_orderOfPuts_25 k19 i20 ?_
  refine v_aload_n hX dX9_orderOfPuts_26 1 rfl rfl ?_
  refine v_getR hX dX9_orderOfPuts_27 f_RX9_32 rfl k1 ?_
  refine v_iconst (v := 1) hX dX9_orderOfPuts_30 (by decide) ?_
  obtain ⟨a21, e_a21, h⟩ := h
  refine v_nn1 e_a21 ?_
  obtain ⟨k22, h⟩ := h
  obtain ⟨i23, h⟩ := h
  refine v_aald (k := 8) hX dX9_orderOfPuts_31 rfl rfl (by decide) (by decide) k22 i23 ?_
  refine v_iload_n hX dX9_orderOfPuts_32 2 rfl rfl ?_
  obtain ⟨a24, e_a24, h⟩ := h
  refine v_nn1 e_a24 ?_
  obtain ⟨k25, h⟩ := h
  obtain ⟨i26, h⟩ := h
  refine v_iald hX dX9_orderOfPuts_33 k25 i26 ?_
  refine v_isub hX dX9_orderOfPuts_34 ?_
  refine v_istore_n (lv' := [(3, _), (2, _), (0, _), (1, _)]) hX dX9_orderOfPuts_35 rfl (by decide) rfl ?_
  refine v_iconst (v := 0) hX dX9_orderOfPuts_36 (by decide) ?_
  refine v_istore (lv' := [(4, _), (3, _), (2, _), (0, _), (1, _)]) hX dX9_orderOfPuts_37 (by decide) rfl ?_
  refine v_pick [3, 4, 2, 1, 0] rfl ?_
  obtain ⟨n, h⟩ := h
  exact b_X9_orderOfPuts_39 hX hE n _ _ _ _ _ _ h
set_option maxRecDepth 100000 in
set_option maxHeartbeats 4000000 in
theorem b_X9_append_50 {X : h_X} (hX : h_ok X cX9_append 5 RX9 0 0) {Q : h_S → Prop} (hE : h_end X none (h_QV (x_Z X) Q)) (s : h_S) (h : w_X9_append_50 Q s) : h_V X 5 50 [] [] s 0 0 := by
  unfold w_X9_append_50 at h
  exact v_vret hX hE dX9_append_50 h
