set_option maxRecDepth 100000 in
set_option maxHeartbeats 4000000 in
theorem m_X5_isNothing {Z : h_Z} {o0 : Nat} {s : h_S} {Q : Int32 → h_S → Prop} (h : w_X5_isNothing o0 s Q) : h_M Z yX5_isNothing cX5_isNothing 1 (some .boolean) 0 0 [pR (some o0)] s 0 0 (h_QI Z Q) := by
  refine h_M.of (by decide) (Nat.le_of_ble_eq_true rfl) (fun X hZ hX hE hI => ?_)
  subst hZ
  unfold w_X5_isNothing at h
  show h_V X 1 0 [(0, pR (some o0))] [] s 0 0
  refine v_aload_n hX dX5_isNothing_0 0 rfl rfl ?_
  obtain ⟨k1, h⟩ := h
  refine v_getI hX dX5_isNothing_1 f_RX5_11 rfl k1 ?_
  refine v_iconst (v := -1) hX dX5_isNothing_4 (by decide) ?_
  refine v_icmp_ne (tgt := 12) hX dX5_isNothing_5 (by decide) (fun c2 => ?_) (fun c2 => ?_)
  · have h := h_E c2 h
    refine v_iconst (v := 0) hX dX5_isNothing_12 (by decide) ?_
    refine v_pick [] rfl ?_
    exact b_X5_isNothing_13 hX hE _ h
  · have h := h_T c2 h
    refine v_iconst (v := 1) hX dX5_isNothing_8 (by decide) ?_
    refine v_goto (tgt := 13) hX dX5_isNothing_9 (by decide) ?_
    refine v_pick [] rfl ?_
    exact b_X5_isNothing_13 hX hE _ h
set_option maxRecDepth 100000 in
set_option maxHeartbeats 4000000 in
theorem b_J7_fill_53178_5 {X : h_X} (hX : h_ok X cJ7_fill_53178 4 RJ7 0 0) {Q : h_S → Prop} (hE : h_end X none (h_QV (x_Z X) Q)) : ∀ (n : Nat) (r0 : Option Nat) (x1 : Int32) (x2 : Int32) (x3 : Int32) (s : h_S), w_J7_fill_53178_5 Q n r0 x1 x2 x3 s → h_V X 4 5 [(0, pR r0), (1, pI x1), (2, pI x2), (3, pI x3)] [] s 0 0 := by
  intro n
  induction n with
  | zero => intro _ _ _ _ s h; exact h.elim
  | succ n hK5 =>
    intro r0 x1 x2 x3 s h
    have h : w_J7_fill_53178_5b Q (w_J7_fill_53178_5 Q n) r0 x1 x2 x3 s := h
    unfold w_J7_fill_53178_5b at h
    refine v_iload_n hX dJ7_fill_53178_5 2 rfl rfl ?_
    refine v_iload_n hX dJ7_fill_53178_6 3 rfl rfl ?_
    refine v_icmp_ge (tgt := 20) hX dJ7_fill_53178_7 (by decide) (fun c1 => ?_) (fun c1 => ?_)
    · have h := h_T c1 h
      exact v_vret hX hE dJ7_fill_53178_20 h
    · have h := h_E c1 h
      refine v_aload_n hX dJ7_fill_53178_10 0 rfl rfl ?_
      refine v_iload_n hX dJ7_fill_53178_11 2 rfl rfl ?_
      refine v_iload_n hX dJ7_fill_53178_12 1 rfl rfl ?_
      obtain ⟨a2, e_a2, h⟩ := h
      refine v_nn2 e_a2 ?_
      obtain ⟨k3, h⟩ := h
      obtain ⟨i4, h⟩ := h
      refine v_iast hX dJ7_fill_53178_13 k3 i4 ?_
      refine v_iinc (c := 1) (lv' := [(2, _), (0, _), (1, _), (3, _)]) hX dJ7_fill_53178_14 2 rfl (by decide) (by decide) rfl ?_
      refine v_goto (tgt := 5) hX dJ7_fill_53178_17 (by decide) ?_
      refine v_pick [1, 2, 0, 3] rfl ?_
      exact hK5 _ _ _ _ _ h
set_option maxRecDepth 100000 in
set_option maxHeartbeats 4000000 in
theorem m_J7_fill_53178 {Z : h_Z} {r0 : Option Nat} {x1 : Int32} {s : h_S} {Q : h_S → Prop} (h : w_J7_fill_53178 r0 x1 s Q) : h_M Z yJ7_fill_53178 cJ7_fill_53178 4 none 0 0 [pR r0, pI x1] s 0 0 (h_QV Z Q) := by
  refine h_M.of (by decide) (Nat.le_of_ble_eq_true rfl) (fun X hZ hX hE hI => ?_)
  subst hZ
  unfold w_J7_fill_53178 at h
  show h_V X 4 0 [(0, pR r0), (1, pI x1)] [] s 0 0
  refine v_iconst (v := 0) hX dJ7_fill_53178_0 (by decide) ?_
  refine v_istore_n (lv' := [(2, _), (0, _), (1, _)]) hX dJ7_fill_53178_1 rfl (by decide) rfl ?_
  refine v_aload_n hX dJ7_fill_53178_2 1 rfl rfl ?_
  obtain ⟨a1, e_a1, h⟩ := h
  refine v_nn0 e_a1 ?_
  obtain ⟨k2, h⟩ := h
  refine v_alenK hX dJ7_fill_53178_3 (k := 1) rfl (by decide) (by decide) k2 ?_
  refine v_istore_n (lv' := [(3, _), (2, _), (0, _), (1, _)]) hX dJ7_fill_53178_4 rfl (by decide) rfl ?_
  refine v_pick [2, 3, 1, 0] rfl ?_
  obtain ⟨n, h⟩ := h
  exact b_J7_fill_53178_5 hX hE n _ _ _ _ _ h
set_option maxRecDepth 100000 in
set_option maxHeartbeats 4000000 in
theorem m_X5_renew {Z : h_Z} {o0 : Nat} {x1 : Int32} {x2 : Int32} {s : h_S} {Q : h_S → Prop} (h : w_X5_renew o0 x1 x2 s Q) : h_M Z yX5_renew cX5_renew 3 none 1 23 [pR (some o0), pI x1, pI x2] s 0 0 (h_QV Z Q) := by
  refine h_M.of (by decide) (Nat.le_of_ble_eq_true rfl) (fun X hZ hX hE hI => ?_)
  subst hZ
  unfold w_X5_renew at h
  show h_V X 3 0 [(0, pR (some o0)), (1, pI x1), (2, pI x2)] [] s 0 0
  refine v_aload_n hX dX5_renew_0 0 rfl rfl ?_
  refine v_iload_n hX dX5_renew_1 1 rfl rfl ?_
  obtain ⟨k1, h⟩ := h
  refine v_putI hX dX5_renew_2 f_RX5_19 k1 ?_
  refine v_aload_n hX dX5_renew_5 0 rfl rfl ?_
  refine v_iload_n hX dX5_renew_6 2 rfl rfl ?_
  refine v_putI hX dX5_renew_7 f_RX5_11 k1 ?_
  refine v_aload_n hX dX5_renew_10 0 rfl rfl ?_
  refine v_getR hX dX5_renew_11 f_RX5_15 rfl k1 ?_
  refine v_iconst (v := 0) hX dX5_renew_14 (by decide) ?_
  refine v_callSv0 hX dX5_renew_15 c_RX5_22 cS_J7_fill_53178 [pR _, pI _] rfl rfl (Nat.le_of_ble_eq_true rfl) (by decide) (by decide)  (m_J7_fill_53178 h) (fun s4 h => ?_)
  exact v_vret hX hE dX5_renew_18 h
set_option maxRecDepth 100000 in
set_option maxHeartbeats 4000000 in
theorem b_X5_hasCells_31 {X : h_X} (hX : h_ok X cX5_hasCells 3 RX5 0 0) {Q : Int32 → h_S → Prop} (hE : h_end X (some .boolean) (h_QI (x_Z X) Q)) {y0 : Int32} (s : h_S) (h : w_X5_hasCells_31 Q y0 s) : h_V X 3 31 [] [pI y0] s 0 0 := by
  unfold w_X5_hasCells_31 at h
  exact v_zret hX hE dX5_hasCells_31 h.1 h.2
set_option maxRecDepth 100000 in
set_option maxHeartbeats 4000000 in
theorem b_X5_hasCells_30 {X : h_X} (hX : h_ok X cX5_hasCells 3 RX5 0 0) {Q : Int32 → h_S → Prop} (hE : h_end X (some .boolean) (h_QI (x_Z X) Q)) (s : h_S) (h : w_X5_hasCells_30 Q s) : h_V X 3 30 [] [] s 0 0 := by
  unfold w_X5_hasCells_30 at h
  refine v_iconst (v := 0) hX dX5_hasCells_30 (by decide) ?_
  refine v_pick [] rfl ?_
  exact b_X5_hasCells_31 hX hE _ h
set_option maxRecDepth 100000 in
set_option maxHeartbeats 4000000 in
theorem m_X5_hasCells {Z : h_Z} {o0 : Nat} {x1 : Int32} {x2 : Int32} {s : h_S} {Q : Int32 → h_S → Prop} (h : w_X5_hasCells o0 x1 x2 s Q) : h_M Z yX5_hasCells cX5_hasCells 3 (some .boolean) 0 0 [pR (some o0), pI x1, pI x2] s 0 0 (h_QI Z Q) := by
  refine h_M.of (by decide) (Nat.le_of_ble_eq_true rfl) (fun X hZ hX hE hI => ?_)
  subst hZ
  unfold w_X5_hasCells at h
  show h_V X 3 0 [(0, pR (some o0)), (1, pI x1), (2, pI x2)] [] s 0 0
  refine v_iload_n hX dX5_hasCells_0 2 rfl rfl ?_
  refine v_if_lt (tgt := 30) hX dX5_hasCells_1 (by decide) (fun c1 => ?_) (fun c1 => ?_)
  · have h := h_T c1 h
    refine v_pick [] rfl ?_
    exact b_X5_hasCells_30 hX hE _ h
  · have h := h_E c1 h
    refine v_iload_n hX dX5_hasCells_4 1 rfl rfl ?_
    refine v_if_lt (tgt := 30) hX dX5_hasCells_5 (by decide) (fun c2 => ?_) (fun c2 => ?_)
    · have h := h_T c2 h
      refine v_pick [] rfl ?_
      exact b_X5_hasCells_30 hX hE _ h
    · have h := h_E c2 h
      refine v_iload_n hX dX5_hasCells_8 1 rfl rfl ?_
      refine v_aload_n hX dX5_hasCells_9 0 rfl rfl ?_
      obtain ⟨k3, h⟩ := h
      refine v_getI hX dX5_hasCells_10 f_RX5_11 rfl k3 ?_
      refine v_icmp_gt (tgt := 30) hX dX5_hasCells_13 (by decide) (fun c4 => ?_) (fun c4 => ?_)
      · have h := h_T c4 h
        refine v_pick [] rfl ?_
        exact b_X5_hasCells_30 hX hE _ h
      · have h := h_E c4 h
        refine v_iload_n hX dX5_hasCells_16 2 rfl rfl ?_
        refine v_aload_n hX dX5_hasCells_17 0 rfl rfl ?_
        refine v_getI hX dX5_hasCells_18 f_RX5_11 rfl k3 ?_
        refine v_iload_n hX dX5_hasCells_21 1 rfl rfl ?_
        refine v_isub hX dX5_hasCells_22 ?_
        refine v_icmp_gt (tgt := 30) hX dX5_hasCells_23 (by decide) (fun c5 => ?_) (fun c5 => ?_)
        · have h := h_T c5 h
          refine v_pick [] rfl ?_
          exact b_X5_hasCells_30 hX hE _ h
        · have h := h_E c5 h
          refine v_iconst (v := 1) hX dX5_hasCells_26 (by decide) ?_
          refine v_goto (tgt := 31) hX dX5_hasCells_27 (by decide) ?_
          refine v_pick [] rfl ?_
          exact b_X5_hasCells_31 hX hE _ h
set_option maxRecDepth 100000 in
set_option maxHeartbeats 4000000 in
theorem b_X5_faultOf_39 {X : h_X} (hX : h_ok X cX5_faultOf 4 RX5 1 22) {Q : Int32 → h_S → Prop} (hE : h_end X (some .int) (h_QI (x_Z X) Q)) {y0 : Int32} (s : h_S) (h : w_X5_faultOf_39 Q y0 s) : h_V X 4 39 [] [pI y0] s 0 0 := by
  unfold w_X5_faultOf_39 at h
  exact v_iret hX hE dX5_faultOf_39 h
set_option maxRecDepth 100000 in
set_option maxHeartbeats 4000000 in
theorem m_X5_faultOf {Z : h_Z} {o0 : Nat} {x1 : Int32} {x2 : Int32} {x3 : Int32} {s : h_S} {Q : Int32 → h_S → Prop} (h : w_X5_faultOf o0 x1 x2 x3 s Q) : h_M Z yX5_faultOf cX5_faultOf 4 (some .int) 1 22 [pR (some o0), pI x1, pI x2, pI x3] s 0 0 (h_QI Z Q) := by
  refine h_M.of (by decide) (Nat.le_of_ble_eq_true rfl) (fun X hZ hX hE hI => ?_)
  subst hZ
  unfold w_X5_faultOf at h
  show h_V X 4 0 [(0, pR (some o0)), (1, pI x1), (2, pI x2), (3, pI x3)] [] s 0 0
  refine v_aload_n hX dX5_faultOf_0 0 rfl rfl ?_
  obtain ⟨k1, h⟩ := h
  refine v_callVi0 hX dX5_faultOf_1 c_RX5_28 cV_X5_isNothing (ci := 6) (T := TX5) (N := 3) rfl (by exact k1) [] rfl rfl (Nat.le_of_ble_eq_true rfl) (by decide) (by decide)  (m_X5_isNothing h) (fun p3 s2 h => ?_)
  refine v_if_eq (tgt := 9) hX dX5_faultOf_4 (by decide) (fun c4 => ?_) (fun c4 => ?_)
  · have h := h_T c4 h
    refine v_iload_n hX dX5_faultOf_9 1 rfl rfl ?_
    refine v_aload_n hX dX5_faultOf_10 0 rfl rfl ?_
    obtain ⟨k5, h⟩ := h
    refine v_getI hX dX5_faultOf_11 f_RX5_19 rfl k5 ?_
    refine v_icmp_eq (tgt := 19) hX dX5_faultOf_14 (by decide) (fun c6 => ?_) (fun c6 => ?_)
    · have h := h_T c6 h
      refine v_iload_n hX dX5_faultOf_19 3 rfl rfl ?_
      refine v_if_ge (tgt := 25) hX dX5_faultOf_20 (by decide) (fun c7 => ?_) (fun c7 => ?_)
      · have h := h_T c7 h
        refine v_aload_n hX dX5_faultOf_25 0 rfl rfl ?_
        refine v_iload_n hX dX5_faultOf_26 2 rfl rfl ?_
        refine v_iload_n hX dX5_faultOf_27 3 rfl rfl ?_
        refine v_callVi0 hX dX5_faultOf_28 c_RX5_32 cV_X5_hasCells (ci := 6) (T := TX5) (N := 3) rfl (by exact k5) [pI _, pI _] rfl rfl (Nat.le_of_ble_eq_true rfl) (by decide) (by decide)  (m_X5_hasCells h) (fun p9 s8 h => ?_)
        refine v_if_eq (tgt := 38) hX dX5_faultOf_31 (by decide) (fun c10 => ?_) (fun c10 => ?_)
        · have h := h_T c10 h
          refine v_iconst (v := 3) hX dX5_faultOf_38 (by decide) ?_
          refine v_pick [] rfl ?_
          exact b_X5_faultOf_39 hX hE _ h
        · have h := h_E c10 h
          refine v_iconst (v := 0) hX dX5_faultOf_34 (by decide) ?_
          refine v_goto (tgt := 39) hX dX5_faultOf_35 (by decide) ?_
          refine v_pick [] rfl ?_
          exact b_X5_faultOf_39 hX hE _ h
      · have h := h_E c7 h
        refine v_iconst (v := 4) hX dX5_faultOf_23 (by decide) ?_
        exact v_iret hX hE dX5_faultOf_24 h
    · have h := h_E c6 h
      refine v_iconst (v := 2) hX dX5_faultOf_17 (by decide) ?_
      exact v_iret hX hE dX5_faultOf_18 h
  · have h := h_E c4 h
    refine v_iconst (v := 1) hX dX5_faultOf_7 (by decide) ?_
    exact v_iret hX hE dX5_faultOf_8 h
set_option maxRecDepth 100000 in
set_option maxHeartbeats 4000000 in
theorem b_X5_write_41 {X : h_X} (hX : h_ok X cX5_write 3 RX5 1 21) {Q : h_S → Prop} (hE : h_end X none (h_QV (x_Z X) Q)) (s : h_S) (h : w_X5_write_41 Q s) : h_V X 3 41 [] [] s 0 0 := by
  unfold w_X5_write_41 at h
  exact v_vret hX hE dX5_write_41 h
set_option maxRecDepth 100000 in
set_option maxHeartbeats 4000000 in
theorem b_X5_write_40 {X : h_X} (hX : h_ok X cX5_write 3 RX5 1 21) {Q : h_S → Prop} (hE : h_end X none (h_QV (x_Z X) Q)) {y0 : Int32} {y1 : Int32} {t2 : Option Nat} (s : h_S) (h : w_X5_write_40 Q y0 y1 t2 s) : h_V X 3 40 [] [pI y0, pI y1, pR t2] s 0 0 := by
  unfold w_X5_write_40 at h
  obtain ⟨a1, e_a1, h⟩ := h
  refine v_nn2 e_a1 ?_
  obtain ⟨k2, h⟩ := h
  obtain ⟨i3, h⟩ := h
  refine v_iast hX dX5_write_40 k2 i3 ?_
  refine v_pick [] rfl ?_
  exact b_X5_write_41 hX hE _ h
set_option maxRecDepth 100000 in
set_option maxHeartbeats 4000000 in
theorem m_X5_write {Z : h_Z} {o0 : Nat} {x1 : Int32} {x2 : Int32} {s : h_S} {Q : h_S → Prop} (h : w_X5_write o0 x1 x2 s Q) : h_M Z yX5_write cX5_write 3 none 1 21 [pR (some o0), pI x1, pI x2] s 0 0 (h_QV Z Q) := by
  refine h_M.of (by decide) (Nat.le_of_ble_eq_true rfl) (fun X hZ hX hE hI => ?_)
  subst hZ
  unfold w_X5_write at h
  show h_V X 3 0 [(0, pR (some o0)), (1, pI x1), (2, pI x2)] [] s 0 0
  refine v_iload_n hX dX5_write_0 1 rfl rfl ?_
  refine v_bipush (v := 60) hX dX5_write_1 (by decide) ?_
  refine v_callSi0 hX dX5_write_3 c_RX5_36 cS_X11_within [pI _, pI _] rfl rfl (Nat.le_of_ble_eq_true rfl) (by decide) (by decide)  (m_X11_within h) (fun p2 s1 h => ?_)
  refine v_if_eq (tgt := 41) hX dX5_write_6 (by decide) (fun c3 => ?_) (fun c3 => ?_)
  · have h := h_T c3 h
    refine v_pick [] rfl ?_
    exact b_X5_write_41 hX hE _ h
  · have h := h_E c3 h
    refine v_aload_n hX dX5_write_9 0 rfl rfl ?_
    obtain ⟨k4, h⟩ := h
    refine v_getR hX dX5_write_10 f_RX5_15 rfl k4 ?_
    refine v_iload_n hX dX5_write_13 1 rfl rfl ?_
    refine v_aload_n hX dX5_write_14 0 rfl rfl ?_
    refine v_getI hX dX5_write_15 f_RX5_19 rfl k4 ?_
    refine v_if_ne (tgt := 26) hX dX5_write_18 (by decide) (fun c5 => ?_) (fun c5 => ?_)
    · have h := h_E c5 h
      refine v_aload_n hX dX5_write_26 0 rfl rfl ?_
      refine v_getI hX dX5_write_27 f_RX5_19 rfl k4 ?_
      refine v_iconst (v := 1) hX dX5_write_30 (by decide) ?_
      refine v_icmp_ne (tgt := 39) hX dX5_write_31 (by decide) (fun c6 => ?_) (fun c6 => ?_)
      · have h := h_E c6 h
        refine v_iload_n hX dX5_write_39 2 rfl rfl ?_
        refine v_pick [] rfl ?_
        exact b_X5_write_40 hX hE _ h
      · have h := h_T c6 h
        refine v_iload_n hX dX5_write_34 2 rfl rfl ?_
        refine v_i2s hX dX5_write_35 ?_
        refine v_goto (tgt := 40) hX dX5_write_36 (by decide) ?_
        refine v_pick [] rfl ?_
        exact b_X5_write_40 hX hE _ h
    · have h := h_T c5 h
      refine v_iload_n hX dX5_write_21 2 rfl rfl ?_
      refine v_i2b hX dX5_write_22 ?_
      refine v_goto (tgt := 40) hX dX5_write_23 (by decide) ?_
      refine v_pick [] rfl ?_
      exact b_X5_write_40 hX hE _ h
set_option maxRecDepth 100000 in
set_option maxHeartbeats 4000000 in
theorem b_X5_areCodes_29 {X : h_X} (hX : h_ok X cX5_areCodes 5 RX5 2 42) {Q : Int32 → h_S → Prop} (hE : h_end X (some .boolean) (h_QI (x_Z X) Q)) (s : h_S) (h : w_X5_areCodes_29 Q s) : h_V X 5 29 [] [] s 0 0 := by
  unfold w_X5_areCodes_29 at h
  refine v_iconst (v := 0) hX dX5_areCodes_29 (by decide) ?_
  exact v_zret hX hE dX5_areCodes_30 (Or.inl rfl) h
set_option maxRecDepth 100000 in
set_option maxHeartbeats 4000000 in
theorem b_X5_areCodes_2 {X : h_X} (hX : h_ok X cX5_areCodes 5 RX5 2 42) {Q : Int32 → h_S → Prop} (hE : h_end X (some .boolean) (h_QI (x_Z X) Q)) : ∀ (n : Nat) (o0 : Nat) (x1 : Int32) (x2 : Int32) (x3 : Int32) (s : h_S), w_X5_areCodes_2 Q n o0 x1 x2 x3 s → h_V X 5 2 [(0, pR (some o0)), (1, pI x1), (2, pI x2), (3, pI x3)] [] s 0 0 := by
  intro n
  induction n with
  | zero => intro _ _ _ _ s h; exact h.elim
  | succ n hK2 =>
    intro o0 x1 x2 x3 s h
    have h : w_X5_areCodes_2b Q (w_X5_areCodes_2 Q n) o0 x1 x2 x3 s := h
    unfold w_X5_areCodes_2b at h
    refine v_iload_n hX dX5_areCodes_2 3 rfl rfl ?_
    refine v_iload_n hX dX5_areCodes_3 2 rfl rfl ?_
    refine v_icmp_ge (tgt := 37) hX dX5_areCodes_4 (by decide) (fun c1 => ?_) (fun c1 => ?_)
    · have h := h_T c1 h
      refine v_iconst (v := 1) hX dX5_areCodes_37 (by decide) ?_
      exact v_zret hX hE dX5_areCodes_38 (Or.inr rfl) h
    · have h := h_E c1 h
      refine v_aload_n hX dX5_areCodes_7 0 rfl rfl ?_
      refine v_iload_n hX dX5_areCodes_8 1 rfl rfl ?_
      refine v_iload_n hX dX5_areCodes_9 3 rfl rfl ?_
      refine v_iadd hX dX5_areCodes_10 ?_
      obtain ⟨k2, h⟩ := h
      refine v_callVi0 hX dX5_areCodes_11 c_RX5_39 cV_X5_cellAt (ci := 6) (T := TX5) (N := 3) rfl (by exact k2) [pI _] rfl rfl (Nat.le_of_ble_eq_true rfl) (by decide) (by decide)  (m_X5_cellAt h) (fun p4 s3 h => ?_)
      refine v_istore (lv' := [(4, _), (0, _), (1, _), (2, _), (3, _)]) hX dX5_areCodes_14 (by decide) rfl ?_
      refine v_iload hX dX5_areCodes_16 0 rfl ?_
      refine v_iconst (v := 1) hX dX5_areCodes_18 (by decide) ?_
      refine v_icmp_lt (tgt := 29) hX dX5_areCodes_19 (by decide) (fun c5 => ?_) (fun c5 => ?_)
      · have h := h_T c5 h
        refine v_pick [] rfl ?_
        exact b_X5_areCodes_29 hX hE _ h
      · have h := h_E c5 h
        refine v_iload hX dX5_areCodes_22 0 rfl ?_
        refine v_bipush (v := 99) hX dX5_areCodes_24 (by decide) ?_
        refine v_icmp_le (tgt := 31) hX dX5_areCodes_26 (by decide) (fun c6 => ?_) (fun c6 => ?_)
        · have h := h_T c6 h
          refine v_iinc (c := 1) (lv' := [(3, _), (4, _), (0, _), (1, _), (2, _)]) hX dX5_areCodes_31 4 rfl (by decide) (by decide) rfl ?_
          refine v_goto (tgt := 2) hX dX5_areCodes_34 (by decide) ?_
          refine v_pick [2, 3, 4, 0] rfl ?_
          exact hK2 _ _ _ _ _ h
        · have h := h_E c6 h
          refine v_pick [] rfl ?_
          exact b_X5_areCodes_29 hX hE _ h
set_option maxRecDepth 100000 in
set_option maxHeartbeats 4000000 in
theorem m_X5_areCodes {Z : h_Z} {o0 : Nat} {x1 : Int32} {x2 : Int32} {s : h_S} {Q : Int32 → h_S → Prop} (h : w_X5_areCodes o0 x1 x2 s Q) : h_M Z yX5_areCodes cX5_areCodes 5 (some .boolean) 2 42 [pR (some o0), pI x1, pI x2] s 0 0 (h_QI Z Q) := by
  refine h_M.of (by decide) (Nat.le_of_ble_eq_true rfl) (fun X hZ hX hE hI => ?_)
  subst hZ
  unfold w_X5_areCodes at h
  show h_V X 5 0 [(0, pR (some o0)), (1, pI x1), (2, pI x2)] [] s 0 0
  refine v_iconst (v := 0) hX dX5_areCodes_0 (by decide) ?_
  refine v_istore_n (lv' := [(3, _), (0, _), (1, _), (2, _)]) hX dX5_areCodes_1 rfl (by decide) rfl ?_
  refine v_pick [1, 2, 3, 0] rfl ?_
  obtain ⟨n, h⟩ := h
  exact b_X5_areCodes_2 hX hE n _ _ _ _ _ h
set_option maxRecDepth 100000 in
set_option maxHeartbeats 4000000 in
theorem m_X6_init {Z : h_Z} {o0 : Nat} {s : h_S} {mc ms : Nat} {Q : h_S → Prop} (h : w_X6_init o0 s mc ms Q) : h_M Z yX6_init cX6_init 1 none 1 20 [pR (some o0)] s mc ms (h_QV Z Q) := by
  refine h_M.of (by decide) (Nat.le_of_ble_eq_true rfl) (fun X hZ hX hE hI => ?_)
  subst hZ
  have hN : (x_me X).name = "<init>" := hI.symm
  unfold w_X6_init at h
  show h_V X 1 0 [(0, pR (some o0))] [] s mc ms
  refine v_aload_n hX dX6_init_0 0 rfl rfl ?_
  refine v_objInit hX dX6_init_1 oi_RX6_3 (Nat.le_of_ble_eq_true rfl) (by decide) ?_
  refine v_aload_n hX dX6_init_4 0 rfl rfl ?_
  refine v_bipush (v := -9) hX dX6_init_5 (by decide) ?_
  obtain ⟨k1, h⟩ := h
  refine v_putI hX dX6_init_7 f_RX6_9 k1 ?_
  refine v_aload_n hX dX6_init_10 0 rfl rfl ?_
  refine v_iconst (v := 0) hX dX6_init_11 (by decide) ?_
  obtain ⟨b5, b6, h⟩ := h
  refine v_newI (N := 0) hX dX6_init_12 ac_int (by decide) (by decide) (by decide) b5 b6 (fun q3 k4 => ?_)
  have h := h q3 k4
  obtain ⟨k10, h⟩ := h
  refine v_putR hX dX6_init_14 f_RX6_15 rfl (Or.inr ⟨_, rfl⟩) k10 ?_
  exact v_vret hX hE dX6_init_17 h
set_option maxRecDepth 100000 in
set_option maxHeartbeats 4000000 in
theorem b_X6_keep_32 {X : h_X} (hX : h_ok X cX6_keep 4 RX6 1 60) {Q : h_S → Prop} (hE : h_end X none (h_QV (x_Z X) Q)) {o0 : Nat} {x1 : Int32} {r2 : Option Nat} {x3 : Int32} (s : h_S) {bc bs : Nat} (h : w_X6_keep_32 Q o0 x1 r2 x3 s bc bs) : h_V X 4 32 [(0, pR (some o0)), (1, pI x1), (2, pR r2), (3, pI x3)] [] s bc bs := by
  unfold w_X6_keep_32 at h
  refine v_aload_n hX dX6_keep_32 2 rfl rfl ?_
  refine v_iconst (v := 0) hX dX6_keep_33 (by decide) ?_
  refine v_aload_n hX dX6_keep_34 0 rfl rfl ?_
  obtain ⟨k1, h⟩ := h
  refine v_getR hX dX6_keep_35 f_RX6_15 rfl k1 ?_
  refine v_iconst (v := 0) hX dX6_keep_38 (by decide) ?_
  refine v_iload_n hX dX6_keep_39 3 rfl rfl ?_
  obtain ⟨a2, e_a2, h⟩ := h
  refine v_nn2 e_a2 ?_
  obtain ⟨k3, h⟩ := h
  obtain ⟨a4, e_a4, h⟩ := h
  refine v_nn4 e_a4 ?_
  obtain ⟨k5, h⟩ := h
  obtain ⟨i6, i7, i8, i9, i10, h⟩ := h
  refine v_copy hX dX6_keep_40 sy_RX6_28 sy_nat sy_stat sy_ini (by decide) (Nat.le_of_ble_eq_true rfl) k5 k3 i6 i7 i8 i9 i10 ?_
  refine v_aload_n hX dX6_keep_43 0 rfl rfl ?_
  refine v_iload_n hX dX6_keep_44 3 rfl rfl ?_
  refine v_putI hX dX6_keep_45 f_RX6_34 k1 ?_
  refine v_aload_n hX dX6_keep_48 0 rfl rfl ?_
  refine v_iload_n hX dX6_keep_49 1 rfl rfl ?_
  refine v_putI hX dX6_keep_50 f_RX6_9 k1 ?_
  exact v_vret hX hE dX6_keep_53 h
set_option maxRecDepth 100000 in
set_option maxHeartbeats 4000000 in
theorem m_X6_keep {Z : h_Z} {o0 : Nat} {x1 : Int32} {r2 : Option Nat} {x3 : Int32} {s : h_S} {mc ms : Nat} {Q : h_S → Prop} (h : w_X6_keep o0 x1 r2 x3 s mc ms Q) : h_M Z yX6_keep cX6_keep 4 none 1 60 [pR (some o0), pI x1, pR r2, pI x3] s mc ms (h_QV Z Q) := by
  refine h_M.of (by decide) (Nat.le_of_ble_eq_true rfl) (fun X hZ hX hE hI => ?_)
  subst hZ
  unfold w_X6_keep at h
  show h_V X 4 0 [(0, pR (some o0)), (1, pI x1), (2, pR r2), (3, pI x3)] [] s mc ms
  refine v_aload_n hX dX6_keep_0 0 rfl rfl ?_
  obtain ⟨k1, h⟩ := h
  refine v_getR hX dX6_keep_1 f_RX6_15 rfl k1 ?_
  obtain ⟨a2, e_a2, h⟩ := h
  refine v_nn0 e_a2 ?_
  obtain ⟨k3, h⟩ := h
  refine v_alenK hX dX6_keep_4 (k := 1) rfl (by decide) (by decide) k3 ?_
  refine v_iload_n hX dX6_keep_5 3 rfl rfl ?_
  refine v_icmp_ge (tgt := 32) hX dX6_keep_6 (by decide) (fun c4 => ?_) (fun c4 => ?_)
  · have h := h_T c4 h
    refine v_pick [0, 1, 2, 3] rfl ?_
    exact b_X6_keep_32 hX hE _ h
  · have h := h_E c4 h
    refine v_aload_n hX dX6_keep_9 0 rfl rfl ?_
    refine v_sipush (v := 300) hX dX6_keep_10 (by decide) ?_
    refine v_iload_n hX dX6_keep_13 3 rfl rfl ?_
    refine v_iconst (v := 2) hX dX6_keep_14 (by decide) ?_
    refine v_aload_n hX dX6_keep_15 0 rfl rfl ?_
    refine v_getR hX dX6_keep_16 f_RX6_15 rfl k1 ?_
    obtain ⟨a5, e_a5, h⟩ := h
    refine v_nn0 e_a5 ?_
    obtain ⟨k6, h⟩ := h
    refine v_alenK hX dX6_keep_19 (k := 1) rfl (by decide) (by decide) k6 ?_
    refine v_imul hX dX6_keep_20 ?_
    refine v_max hX dX6_keep_21 mm_max_RX6_19 (by decide) (Nat.le_of_ble_eq_true rfl) ?_
    refine v_min hX dX6_keep_24 mm_min_RX6_25 (by decide) (Nat.le_of_ble_eq_true rfl) ?_
    obtain ⟨n11, n12, b9, b10, h⟩ := h
    refine v_newI hX dX6_keep_27 ac_int rfl n11 n12 b9 b10 (fun q7 k8 => ?_)
    have h := h q7 k8
    obtain ⟨k16, h⟩ := h
    refine v_putR hX dX6_keep_29 f_RX6_15 rfl (Or.inr ⟨_, rfl⟩) k16 ?_
    refine v_pick [0, 1, 2, 3] rfl ?_
    exact b_X6_keep_32 hX hE _ h
set_option maxRecDepth 100000 in
set_option maxHeartbeats 4000000 in
theorem m_Jxa1e45_init_da8c8 {Z : h_Z} {o0 : Nat} {s : h_S} {Q : h_S → Prop} (h : w_Jxa1e45_init_da8c8 o0 s Q) : h_M Z yJxa1e45_init_da8c8 cJxa1e45_init_da8c8 1 none 1 20 [pR (some o0)] s 0 0 (h_QV Z Q) := by
  refine h_M.of (by decide) (Nat.le_of_ble_eq_true rfl) (fun X hZ hX hE hI => ?_)
  subst hZ
  have hN : (x_me X).name = "<init>" := hI.symm
  unfold w_Jxa1e45_init_da8c8 at h
  show h_V X 1 0 [(0, pR (some o0))] [] s 0 0
  refine v_aload_n hX dJxa1e45_init_da8c8_0 0 rfl rfl ?_
  refine v_objInit hX dJxa1e45_init_da8c8_1 oi_RJxa1e45_1 (Nat.le_of_ble_eq_true rfl) (by decide) ?_
  exact v_vret hX hE dJxa1e45_init_da8c8_4 h
set_option maxRecDepth 100000 in
set_option maxHeartbeats 4000000 in
theorem m_Jxc12de_init_da8c8 {Z : h_Z} {o0 : Nat} {s : h_S} {Q : h_S → Prop} (h : w_Jxc12de_init_da8c8 o0 s Q) : h_M Z yJxc12de_init_da8c8 cJxc12de_init_da8c8 1 none 2 40 [pR (some o0)] s 0 0 (h_QV Z Q) := by
  refine h_M.of (by decide) (Nat.le_of_ble_eq_true rfl) (fun X hZ hX hE hI => ?_)
  subst hZ
  have hN : (x_me X).name = "<init>" := hI.symm
  unfold w_Jxc12de_init_da8c8 at h
  show h_V X 1 0 [(0, pR (some o0))] [] s 0 0
  refine v_aload_n hX dJxc12de_init_da8c8_0 0 rfl rfl ?_
  refine v_callIv0 hX dJxc12de_init_da8c8_1 c_RJxc12de_1 cI_Jxa1e45_init_da8c8 [] rfl rfl (Nat.le_of_ble_eq_true rfl) (by decide) (by decide)  (m_Jxa1e45_init_da8c8 h) (fun s1 h => ?_)
  refine v_aload_n hX dJxc12de_init_da8c8_4 0 rfl rfl ?_
  refine v_iconst (v := 0) hX dJxc12de_init_da8c8_5 (by decide) ?_
  obtain ⟨k3, h⟩ := h
  refine v_putI hX dJxc12de_init_da8c8_6 f_RJxc12de_7 k3 ?_
  exact v_vret hX hE dJxc12de_init_da8c8_9 h
set_option maxRecDepth 100000 in
set_option maxHeartbeats 4000000 in
theorem m_Jx4a65c_init_da8c8 {Z : h_Z} {o0 : Nat} {s : h_S} {Q : h_S → Prop} (h : w_Jx4a65c_init_da8c8 Z.2.2.2.2 o0 s Q) : h_M Z yJx4a65c_init_da8c8 cJx4a65c_init_da8c8 1 none 3 60 [pR (some o0)] s 0 0 (h_QV Z Q) := by
  refine h_M.of (by decide) (Nat.le_of_ble_eq_true rfl) (fun X hZ hX hE hI => ?_)
  subst hZ
  have hN : (x_me X).name = "<init>" := hI.symm
  unfold w_Jx4a65c_init_da8c8 at h
  show h_V X 1 0 [(0, pR (some o0))] [] s 0 0
  refine v_aload_n hX dJx4a65c_init_da8c8_0 0 rfl rfl ?_
  refine v_callIv0 hX dJx4a65c_init_da8c8_1 c_RJx4a65c_1 cI_Jxc12de_init_da8c8 [] rfl rfl (Nat.le_of_ble_eq_true rfl) (by decide) (by decide)  (m_Jxc12de_init_da8c8 h) (fun s1 h => ?_)
  refine v_aload_n hX dJx4a65c_init_da8c8_4 0 rfl rfl ?_
  refine v_getEmpty hX dJx4a65c_init_da8c8_5 em_RJx4a65c_39 ?_
  obtain ⟨k3, h⟩ := h
  refine v_putR hX dJx4a65c_init_da8c8_8 f_RJx4a65c_9 rfl (Or.inr ⟨_, rfl⟩) k3 ?_
  exact v_vret hX hE dJx4a65c_init_da8c8_11 h
set_option maxRecDepth 100000 in
set_option maxHeartbeats 4000000 in
theorem m_X7_init {Z : h_Z} {o0 : Nat} {s : h_S} {mc ms : Nat} {Q : h_S → Prop} (h : w_X7_init Z.2.2.2.2 o0 s mc ms Q) : h_M Z yX7_init cX7_init 1 none 4 80 [pR (some o0)] s mc ms (h_QV Z Q) := by
  refine h_M.of (by decide) (Nat.le_of_ble_eq_true rfl) (fun X hZ hX hE hI => ?_)
  subst hZ
  have hN : (x_me X).name = "<init>" := hI.symm
  unfold w_X7_init at h
  show h_V X 1 0 [(0, pR (some o0))] [] s mc ms
  refine v_aload_n hX dX7_init_0 0 rfl rfl ?_
  refine v_objInit hX dX7_init_1 oi_RX7_3 (Nat.le_of_ble_eq_true rfl) (by decide) ?_
  refine v_aload_n hX dX7_init_4 0 rfl rfl ?_
  refine v_bipush (v := 12) hX dX7_init_5 (by decide) ?_
  obtain ⟨b3, b4, h⟩ := h
  refine v_newI (N := 12) hX dX7_init_7 ac_int (by decide) (by decide) (by decide) b3 b4 (fun q1 k2 => ?_)
  have h := h q1 k2
  obtain ⟨k8, h⟩ := h
  refine v_putFR hX dX7_init_9 f_RX7_9 g_RX7_9 rfl (Or.inr ⟨_, rfl⟩) hN k8 ?_
  refine v_aload_n hX dX7_init_12 0 rfl rfl ?_
  refine v_bipush (v := 12) hX dX7_init_13 (by decide) ?_
  obtain ⟨b12, b13, h⟩ := h
  refine v_anew (k := 4) (N := 12) hX dX7_init_15 kl_RX7_15 ao_4 rfl (by decide) (by decide) (by decide) (by decide) (by decide) b12 b13 (fun q10 k11 => ?_)
  have h := h q10 k11
  obtain ⟨k17, h⟩ := h
  refine v_putFR hX dX7_init_18 f_RX7_17 g_RX7_17 rfl (Or.inr ⟨_, rfl⟩) hN k17 ?_
  refine v_aload_n hX dX7_init_21 0 rfl rfl ?_
  refine v_iconst (v := 0) hX dX7_init_22 (by decide) ?_
  obtain ⟨b21, b22, h⟩ := h
  refine v_anew (k := 3) (N := 0) hX dX7_init_23 kl_RX7_21 ao_3 rfl (by decide) (by decide) (by decide) (by decide) (by decide) b21 b22 (fun q19 k20 => ?_)
  have h := h q19 k20
  obtain ⟨k26, h⟩ := h
  refine v_putFR hX dX7_init_26 f_RX7_23 g_RX7_23 rfl (Or.inr ⟨_, rfl⟩) hN k26 ?_
  refine v_aload_n hX dX7_init_29 0 rfl rfl ?_
  obtain ⟨b30, b31, h⟩ := h
  refine v_new hX dX7_init_30 n_RX7_27 b30 b31 (fun q28 k29 => ?_)
  have h := h q28 k29
  refine v_dup hX dX7_init_33 rfl ?_
  refine v_callIv0 hX dX7_init_34 c_RX7_29 cI_Jx4a65c_init_da8c8 [] rfl rfl (Nat.le_of_ble_eq_true rfl) (by decide) (by decide)  (m_Jx4a65c_init_da8c8 h) (fun s35 h => ?_)
  obtain ⟨k37, h⟩ := h
  refine v_putFR hX dX7_init_37 f_RX7_30 g_RX7_30 rfl (Or.inl ⟨_, rfl⟩) hN k37 ?_
  refine v_aload_n hX dX7_init_40 0 rfl rfl ?_
  refine v_bipush (v := 8) hX dX7_init_41 (by decide) ?_
  obtain ⟨b41, b42, h⟩ := h
  refine v_newI (N := 8) hX dX7_init_43 ac_int (by decide) (by decide) (by decide) b41 b42 (fun q39 k40 => ?_)
  have h := h q39 k40
  obtain ⟨k46, h⟩ := h
  refine v_putFR hX dX7_init_45 f_RX7_34 g_RX7_34 rfl (Or.inr ⟨_, rfl⟩) hN k46 ?_
  refine v_aload_n hX dX7_init_48 0 rfl rfl ?_
  refine v_sipush (v := 1024) hX dX7_init_49 (by decide) ?_
  obtain ⟨b50, b51, h⟩ := h
  refine v_anew (k := 6) (N := 1024) hX dX7_init_52 kl_RX7_37 ao_6 rfl (by decide) (by decide) (by decide) (by decide) (by decide) b50 b51 (fun q48 k49 => ?_)
  have h := h q48 k49
  obtain ⟨k55, h⟩ := h
  refine v_putFR hX dX7_init_55 f_RX7_39 g_RX7_39 rfl (Or.inr ⟨_, rfl⟩) hN k55 ?_
  refine v_aload_n hX dX7_init_58 0 rfl rfl ?_
  refine v_iconst (v := 5) hX dX7_init_59 (by decide) ?_
  refine v_sipush (v := 300) hX dX7_init_60 (by decide) ?_
  obtain ⟨b62, b63, h⟩ := h
  refine v_mna (N := 5) (K := 300) hX dX7_init_63 kl_RX7_43 (by decide) (by decide) (by decide) (by decide) (by decide) (by decide) b62 b63 (fun q57 j58 k59 k60 k61 => ?_)
  have h := h q57 j58 k59 k60 k61
  obtain ⟨k67, h⟩ := h
  refine v_putFR hX dX7_init_67 f_RX7_45 g_RX7_45 rfl (Or.inr ⟨_, rfl⟩) hN k67 ?_
  refine v_aload_n hX dX7_init_70 0 rfl rfl ?_
  refine v_bipush (v := 32) hX dX7_init_71 (by decide) ?_
  obtain ⟨b71, b72, h⟩ := h
  refine v_anew (k := 3) (N := 32) hX dX7_init_73 kl_RX7_21 ao_3 rfl (by decide) (by decide) (by decide) (by decide) (by decide) b71 b72 (fun q69 k70 => ?_)
  have h := h q69 k70
  obtain ⟨k76, h⟩ := h
  refine v_putFR hX dX7_init_76 f_RX7_48 g_RX7_48 rfl (Or.inr ⟨_, rfl⟩) hN k76 ?_
  refine v_aload_n hX dX7_init_79 0 rfl rfl ?_
  refine v_bipush (v := 32) hX dX7_init_80 (by decide) ?_
  obtain ⟨b80, b81, h⟩ := h
  refine v_anew (k := 3) (N := 32) hX dX7_init_82 kl_RX7_21 ao_3 rfl (by decide) (by decide) (by decide) (by decide) (by decide) b80 b81 (fun q78 k79 => ?_)
  have h := h q78 k79
  obtain ⟨k85, h⟩ := h
  refine v_putFR hX dX7_init_85 f_RX7_51 g_RX7_51 rfl (Or.inr ⟨_, rfl⟩) hN k85 ?_
  refine v_aload_n hX dX7_init_88 0 rfl rfl ?_
  refine v_bipush (v := 6) hX dX7_init_89 (by decide) ?_
  obtain ⟨b89, b90, h⟩ := h
  refine v_newI (N := 6) hX dX7_init_91 ac_int (by decide) (by decide) (by decide) b89 b90 (fun q87 k88 => ?_)
  have h := h q87 k88
  obtain ⟨k94, h⟩ := h
  refine v_putFR hX dX7_init_93 f_RX7_54 g_RX7_54 rfl (Or.inr ⟨_, rfl⟩) hN k94 ?_
  exact v_vret hX hE dX7_init_96 h
set_option maxRecDepth 100000 in
set_option maxHeartbeats 4000000 in
theorem b_X7_isFull_14 {X : h_X} (hX : h_ok X cX7_isFull 1 RX7 0 0) {Q : Int32 → h_S → Prop} (hE : h_end X (some .boolean) (h_QI (x_Z X) Q)) {y0 : Int32} (s : h_S) (h : w_X7_isFull_14 Q y0 s) : h_V X 1 14 [] [pI y0] s 0 0 := by
  unfold w_X7_isFull_14 at h
  exact v_zret hX hE dX7_isFull_14 h.1 h.2
set_option maxRecDepth 100000 in
set_option maxHeartbeats 4000000 in
theorem m_X7_isFull {Z : h_Z} {o0 : Nat} {s : h_S} {Q : Int32 → h_S → Prop} (h : w_X7_isFull o0 s Q) : h_M Z yX7_isFull cX7_isFull 1 (some .boolean) 0 0 [pR (some o0)] s 0 0 (h_QI Z Q) := by
  refine h_M.of (by decide) (Nat.le_of_ble_eq_true rfl) (fun X hZ hX hE hI => ?_)
  subst hZ
  unfold w_X7_isFull at h
  show h_V X 1 0 [(0, pR (some o0))] [] s 0 0
  refine v_aload_n hX dX7_isFull_0 0 rfl rfl ?_
  obtain ⟨k1, h⟩ := h
  refine v_getI hX dX7_isFull_1 f_RX7_57 rfl k1 ?_
  refine v_bipush (v := 12) hX dX7_isFull_4 (by decide) ?_
  refine v_icmp_lt (tgt := 13) hX dX7_isFull_6 (by decide) (fun c2 => ?_) (fun c2 => ?_)
  · have h := h_T c2 h
    refine v_iconst (v := 0) hX dX7_isFull_13 (by decide) ?_
    refine v_pick [] rfl ?_
    exact b_X7_isFull_14 hX hE _ h
  · have h := h_E c2 h
    refine v_iconst (v := 1) hX dX7_isFull_9 (by decide) ?_
    refine v_goto (tgt := 14) hX dX7_isFull_10 (by decide) ?_
    refine v_pick [] rfl ?_
    exact b_X7_isFull_14 hX hE _ h
set_option maxRecDepth 100000 in
set_option maxHeartbeats 4000000 in
theorem m_X7_begin {Z : h_Z} {o0 : Nat} {x1 : Int32} {x2 : Int32} {s : h_S} {mc ms : Nat} {Q : Int32 → h_S → Prop} (h : w_X7_begin o0 x1 x2 s mc ms Q) : h_M Z yX7_begin cX7_begin 3 (some .int) 2 43 [pR (some o0), pI x1, pI x2] s mc ms (h_QI Z Q) := by
  refine h_M.of (by decide) (Nat.le_of_ble_eq_true rfl) (fun X hZ hX hE hI => ?_)
  subst hZ
  unfold w_X7_begin at h
  show h_V X 3 0 [(0, pR (some o0)), (1, pI x1), (2, pI x2)] [] s mc ms
  refine v_aload_n hX dX7_begin_0 0 rfl rfl ?_
  obtain ⟨k1, h⟩ := h
  refine v_callVi0 hX dX7_begin_1 c_RX7_61 cV_X7_isFull (ci := 8) (T := TX7) (N := 13) rfl (by exact k1) [] rfl rfl (Nat.le_of_ble_eq_true rfl) (by decide) (by decide)  (m_X7_isFull h) (fun p3 s2 h => ?_)
  refine v_if_eq (tgt := 10) hX dX7_begin_4 (by decide) (fun c4 => ?_) (fun c4 => ?_)
  · have h := h_T c4 h
    refine v_aload_n hX dX7_begin_10 0 rfl rfl ?_
    obtain ⟨k5, h⟩ := h
    refine v_getR hX dX7_begin_11 f_RX7_9 rfl k5 ?_
    refine v_aload_n hX dX7_begin_14 0 rfl rfl ?_
    refine v_getI hX dX7_begin_15 f_RX7_57 rfl k5 ?_
    refine v_iload_n hX dX7_begin_18 1 rfl rfl ?_
    obtain ⟨a6, e_a6, h⟩ := h
    refine v_nn2 e_a6 ?_
    obtain ⟨k7, h⟩ := h
    obtain ⟨i8, h⟩ := h
    refine v_iast hX dX7_begin_19 k7 i8 ?_
    refine v_aload_n hX dX7_begin_20 0 rfl rfl ?_
    refine v_getR hX dX7_begin_21 f_RX7_17 rfl k5 ?_
    refine v_aload_n hX dX7_begin_24 0 rfl rfl ?_
    refine v_getI hX dX7_begin_25 f_RX7_57 rfl k5 ?_
    obtain ⟨b12, b13, h⟩ := h
    refine v_new hX dX7_begin_28 n_RX7_15 b12 b13 (fun q10 k11 => ?_)
    have h := h q10 k11
    refine v_dup hX dX7_begin_31 rfl ?_
    refine v_iload_n hX dX7_begin_32 2 rfl rfl ?_
    refine v_aload_n hX dX7_begin_33 0 rfl rfl ?_
    obtain ⟨k17, h⟩ := h
    refine v_getR hX dX7_begin_34 f_RX7_23 rfl k17 ?_
    refine v_null hX dX7_begin_37 ?_
    refine v_callIv0 hX dX7_begin_38 c_RX7_65 cI_X4_init [pI _, pR _, pR _] rfl rfl (Nat.le_of_ble_eq_true rfl) (by decide) (by decide)  (m_X4_init h) (fun s18 h => ?_)
    obtain ⟨a20, e_a20, h⟩ := h
    refine v_nn2 e_a20 ?_
    obtain ⟨k21, h⟩ := h
    obtain ⟨i22, h⟩ := h
    obtain ⟨k23, h⟩ := h
    refine v_aast (k := 4) (ci := 5) hX dX7_begin_41 rfl rfl (by decide) (by decide) k21 i22 k23 ?_
    refine v_aload_n hX dX7_begin_42 0 rfl rfl ?_
    refine v_dup hX dX7_begin_43 rfl ?_
    obtain ⟨k25, h⟩ := h
    refine v_getI hX dX7_begin_44 f_RX7_57 rfl k25 ?_
    refine v_iconst (v := 1) hX dX7_begin_47 (by decide) ?_
    refine v_iadd hX dX7_begin_48 ?_
    refine v_putI hX dX7_begin_49 f_RX7_57 k25 ?_
    refine v_aload_n hX dX7_begin_52 0 rfl rfl ?_
    refine v_getI hX dX7_begin_53 f_RX7_57 rfl k25 ?_
    refine v_iconst (v := 1) hX dX7_begin_56 (by decide) ?_
    refine v_isub hX dX7_begin_57 ?_
    exact v_iret hX hE dX7_begin_58 h
  · have h := h_E c4 h
    refine v_bipush (v := -4) hX dX7_begin_7 (by decide) ?_
    exact v_iret hX hE dX7_begin_9 h
set_option maxRecDepth 100000 in
set_option maxHeartbeats 4000000 in
theorem b_X7_ownerOf_22 {X : h_X} (hX : h_ok X cX7_ownerOf 2 RX7 1 21) {Q : Int32 → h_S → Prop} (hE : h_end X (some .int) (h_QI (x_Z X) Q)) {y0 : Int32} (s : h_S) (h : w_X7_ownerOf_22 Q y0 s) : h_V X 2 22 [] [pI y0] s 0 0 := by
  unfold w_X7_ownerOf_22 at h
  exact v_iret hX hE dX7_ownerOf_22 h
set_option maxRecDepth 100000 in
set_option maxHeartbeats 4000000 in
theorem m_X7_ownerOf {Z : h_Z} {o0 : Nat} {x1 : Int32} {s : h_S} {Q : Int32 → h_S → Prop} (h : w_X7_ownerOf o0 x1 s Q) : h_M Z yX7_ownerOf cX7_ownerOf 2 (some .int) 1 21 [pR (some o0), pI x1] s 0 0 (h_QI Z Q) := by
  refine h_M.of (by decide) (Nat.le_of_ble_eq_true rfl) (fun X hZ hX hE hI => ?_)
  subst hZ
  unfold w_X7_ownerOf at h
  show h_V X 2 0 [(0, pR (some o0)), (1, pI x1)] [] s 0 0
  refine v_iload_n hX dX7_ownerOf_0 1 rfl rfl ?_
  refine v_aload_n hX dX7_ownerOf_1 0 rfl rfl ?_
  obtain ⟨k1, h⟩ := h
  refine v_getI hX dX7_ownerOf_2 f_RX7_57 rfl k1 ?_
  refine v_callSi0 hX dX7_ownerOf_5 c_RX7_68 cS_X11_within [pI _, pI _] rfl rfl (Nat.le_of_ble_eq_true rfl) (by decide) (by decide)  (m_X11_within h) (fun p3 s2 h => ?_)
  refine v_if_eq (tgt := 20) hX dX7_ownerOf_8 (by decide) (fun c4 => ?_) (fun c4 => ?_)
  · have h := h_T c4 h
    refine v_bipush (v := -9) hX dX7_ownerOf_20 (by decide) ?_
    refine v_pick [] rfl ?_
    exact b_X7_ownerOf_22 hX hE _ h
  · have h := h_E c4 h
    refine v_aload_n hX dX7_ownerOf_11 0 rfl rfl ?_
    obtain ⟨k5, h⟩ := h
    refine v_getR hX dX7_ownerOf_12 f_RX7_9 rfl k5 ?_
    refine v_iload_n hX dX7_ownerOf_15 1 rfl rfl ?_
    obtain ⟨a6, e_a6, h⟩ := h
    refine v_nn1 e_a6 ?_
    obtain ⟨k7, h⟩ := h
    obtain ⟨i8, h⟩ := h
    refine v_iald hX dX7_ownerOf_16 k7 i8 ?_
    refine v_goto (tgt := 22) hX dX7_ownerOf_17 (by decide) ?_
    refine v_pick [] rfl ?_
    exact b_X7_ownerOf_22 hX hE _ h
set_option maxRecDepth 100000 in
set_option maxHeartbeats 4000000 in
theorem m_Jx4a65c_size_8abf5 {Z : h_Z} {o0 : Nat} {s : h_S} {Q : Int32 → h_S → Prop} (h : w_Jx4a65c_size_8abf5 o0 s Q) : h_M Z yJx4a65c_size_8abf5 cJx4a65c_size_8abf5 1 (some .int) 0 0 [pR (some o0)] s 0 0 (h_QI Z Q) := by
  refine h_M.of (by decide) (Nat.le_of_ble_eq_true rfl) (fun X hZ hX hE hI => ?_)
  subst hZ
  unfold w_Jx4a65c_size_8abf5 at h
  show h_V X 1 0 [(0, pR (some o0))] [] s 0 0
  refine v_aload_n hX dJx4a65c_size_8abf5_0 0 rfl rfl ?_
  obtain ⟨k1, h⟩ := h
  refine v_getI hX dJx4a65c_size_8abf5_1 f_RJx4a65c_48 rfl k1 ?_
  exact v_iret hX hE dJx4a65c_size_8abf5_4 h
set_option maxRecDepth 100000 in
set_option maxHeartbeats 4000000 in
theorem m_X7_wordCount {Z : h_Z} {o0 : Nat} {s : h_S} {Q : Int32 → h_S → Prop} (h : w_X7_wordCount o0 s Q) : h_M Z yX7_wordCount cX7_wordCount 1 (some .int) 1 20 [pR (some o0)] s 0 0 (h_QI Z Q) := by
  refine h_M.of (by decide) (Nat.le_of_ble_eq_true rfl) (fun X hZ hX hE hI => ?_)
  subst hZ
  unfold w_X7_wordCount at h
  show h_V X 1 0 [(0, pR (some o0))] [] s 0 0
  refine v_aload_n hX dX7_wordCount_0 0 rfl rfl ?_
  obtain ⟨k1, h⟩ := h
  refine v_getR hX dX7_wordCount_1 f_RX7_30 rfl k1 ?_
  obtain ⟨a2, e_a2, h⟩ := h
  refine v_nn0 e_a2 ?_
  obtain ⟨k3, h⟩ := h
  refine v_callVi0 hX dX7_wordCount_4 c_RX7_72 cV_Jx4a65c_size_8abf5 (ci := 0) (T := TJx4a65c) (N := 3) rfl (by exact k3) [] rfl rfl (Nat.le_of_ble_eq_true rfl) (by decide) (by decide)  (m_Jx4a65c_size_8abf5 h) (fun p5 s4 h => ?_)
  exact v_iret hX hE dX7_wordCount_7 h
set_option maxRecDepth 100000 in
set_option maxHeartbeats 4000000 in
theorem b_J3_checkIndex_8e157_9 {X : h_X} (hX : h_ok X cJ3_checkIndex_8e157 3 RJ3 0 0) {Q : Int32 → h_S → Prop} (hE : h_end X (some .int) (h_QI (x_Z X) Q)) {x0 : Int32} {x1 : Int32} {r2 : Option Nat} (s : h_S) (h : w_J3_checkIndex_8e157_9 Q x0 x1 r2 s) : h_V X 3 9 [(0, pI x0), (1, pI x1), (2, pR r2)] [] s 0 0 := by
  unfold w_J3_checkIndex_8e157_9 at h
  refine v_aload_n hX dJ3_checkIndex_8e157_9 2 rfl rfl ?_
  refine v_iload_n hX dJ3_checkIndex_8e157_10 0 rfl rfl ?_
  refine v_iload_n hX dJ3_checkIndex_8e157_11 1 rfl rfl ?_
  exact h.elim
set_option maxRecDepth 100000 in
set_option maxHeartbeats 4000000 in
theorem m_J3_checkIndex_8e157 {Z : h_Z} {x0 : Int32} {x1 : Int32} {r2 : Option Nat} {s : h_S} {Q : Int32 → h_S → Prop} (h : w_J3_checkIndex_8e157 x0 x1 r2 s Q) : h_M Z yJ3_checkIndex_8e157 cJ3_checkIndex_8e157 3 (some .int) 0 0 [pI x0, pI x1, pR r2] s 0 0 (h_QI Z Q) := by
  refine h_M.of (by decide) (Nat.le_of_ble_eq_true rfl) (fun X hZ hX hE hI => ?_)
  subst hZ
  unfold w_J3_checkIndex_8e157 at h
  show h_V X 3 0 [(0, pI x0), (1, pI x1), (2, pR r2)] [] s 0 0
  refine v_iload_n hX dJ3_checkIndex_8e157_0 0 rfl rfl ?_
  refine v_if_lt (tgt := 9) hX dJ3_checkIndex_8e157_1 (by decide) (fun c1 => ?_) (fun c1 => ?_)
  · have h := h_T c1 h
    refine v_pick [0, 1, 2] rfl ?_
    exact b_J3_checkIndex_8e157_9 hX hE _ h
  · have h := h_E c1 h
    refine v_iload_n hX dJ3_checkIndex_8e157_4 0 rfl rfl ?_
    refine v_iload_n hX dJ3_checkIndex_8e157_5 1 rfl rfl ?_
    refine v_icmp_lt (tgt := 16) hX dJ3_checkIndex_8e157_6 (by decide) (fun c2 => ?_) (fun c2 => ?_)
    · have h := h_T c2 h
      refine v_iload_n hX dJ3_checkIndex_8e157_16 0 rfl rfl ?_
      exact v_iret hX hE dJ3_checkIndex_8e157_17 h
    · have h := h_E c2 h
      refine v_pick [0, 1, 2] rfl ?_
      exact b_J3_checkIndex_8e157_9 hX hE _ h
set_option maxRecDepth 100000 in
set_option maxHeartbeats 4000000 in
theorem m_J15_checkIndex_7cf53 {Z : h_Z} {x0 : Int32} {x1 : Int32} {s : h_S} {Q : Int32 → h_S → Prop} (h : w_J15_checkIndex_7cf53 x0 x1 s Q) : h_M Z yJ15_checkIndex_7cf53 cJ15_checkIndex_7cf53 2 (some .int) 1 22 [pI x0, pI x1] s 0 0 (h_QI Z Q) := by
  refine h_M.of (by decide) (Nat.le_of_ble_eq_true rfl) (fun X hZ hX hE hI => ?_)
  subst hZ
  unfold w_J15_checkIndex_7cf53 at h
  show h_V X 2 0 [(0, pI x0), (1, pI x1)] [] s 0 0
  refine v_iload_n hX dJ15_checkIndex_7cf53_0 0 rfl rfl ?_
  refine v_iload_n hX dJ15_checkIndex_7cf53_1 1 rfl rfl ?_
  refine v_null hX dJ15_checkIndex_7cf53_2 ?_
  refine v_callSi0 hX dJ15_checkIndex_7cf53_3 c_RJ15_105 cS_J3_checkIndex_8e157 [pI _, pI _, pR _] rfl rfl (Nat.le_of_ble_eq_true rfl) (by decide) (by decide)  (m_J3_checkIndex_8e157 h) (fun p2 s1 h => ?_)
  exact v_iret hX hE dJ15_checkIndex_7cf53_6 h
set_option maxRecDepth 100000 in
set_option maxHeartbeats 4000000 in
theorem m_Jx4a65c_elementData_915e3 {Z : h_Z} {o0 : Nat} {x1 : Int32} {s : h_S} {Q : Option Nat → h_S → Prop} (h : w_Jx4a65c_elementData_915e3 o0 x1 s Q) : h_M Z yJx4a65c_elementData_915e3 cJx4a65c_elementData_915e3 2 (some (.object "java/lang/Object")) 0 0 [pR (some o0), pI x1] s 0 0 (h_QR Z Q) := by
  refine h_M.of (by decide) (Nat.le_of_ble_eq_true rfl) (fun X hZ hX hE hI => ?_)
  subst hZ
  unfold w_Jx4a65c_elementData_915e3 at h
  show h_V X 2 0 [(0, pR (some o0)), (1, pI x1)] [] s 0 0
  refine v_aload_n hX dJx4a65c_elementData_915e3_0 0 rfl rfl ?_
  obtain ⟨k1, h⟩ := h
  refine v_getR hX dJx4a65c_elementData_915e3_1 f_RJx4a65c_9 rfl k1 ?_
  refine v_iload_n hX dJx4a65c_elementData_915e3_4 1 rfl rfl ?_
  obtain ⟨a2, e_a2, h⟩ := h
  refine v_nn1 e_a2 ?_
  obtain ⟨k3, h⟩ := h
  obtain ⟨i4, h⟩ := h
  refine v_aald (k := 7) hX dJx4a65c_elementData_915e3_5 rfl rfl (by decide) (by decide) k3 i4 ?_
  exact v_aret hX hE (Or.inl ⟨_, rfl⟩) dJx4a65c_elementData_915e3_6 h
set_option maxRecDepth 100000 in
set_option maxHeartbeats 4000000 in
theorem m_Jx4a65c_get_915e3 {Z : h_Z} {o0 : Nat} {x1 : Int32} {s : h_S} {Q : Option Nat → h_S → Prop} (h : w_Jx4a65c_get_915e3 o0 x1 s Q) : h_M Z yJx4a65c_get_915e3 cJx4a65c_get_915e3 2 (some (.object "java/lang/Object")) 2 43 [pR (some o0), pI x1] s 0 0 (h_QR Z Q) := by
  refine h_M.of (by decide) (Nat.le_of_ble_eq_true rfl) (fun X hZ hX hE hI => ?_)
  subst hZ
  unfold w_Jx4a65c_get_915e3 at h
  show h_V X 2 0 [(0, pR (some o0)), (1, pI x1)] [] s 0 0
  refine v_iload_n hX dJx4a65c_get_915e3_0 1 rfl rfl ?_
  refine v_aload_n hX dJx4a65c_get_915e3_1 0 rfl rfl ?_
  obtain ⟨k1, h⟩ := h
  refine v_getI hX dJx4a65c_get_915e3_2 f_RJx4a65c_48 rfl k1 ?_
  refine v_callSi0 hX dJx4a65c_get_915e3_5 c_RJx4a65c_118 cS_J15_checkIndex_7cf53 [pI _, pI _] rfl rfl (Nat.le_of_ble_eq_true rfl) (by decide) (by decide)  (m_J15_checkIndex_7cf53 h) (fun p3 s2 h => ?_)
  refine v_pop hX dJx4a65c_get_915e3_8 rfl ?_
  refine v_aload_n hX dJx4a65c_get_915e3_9 0 rfl rfl ?_
  refine v_iload_n hX dJx4a65c_get_915e3_10 1 rfl rfl ?_
  obtain ⟨k4, h⟩ := h
  refine v_callVr0 hX dJx4a65c_get_915e3_11 c_RJx4a65c_123 cV_Jx4a65c_elementData_915e3 (ci := 0) (T := TJx4a65c) (N := 3) rfl (by exact k4) [pI _] rfl rfl (Nat.le_of_ble_eq_true rfl) (by decide) (by decide)  (m_Jx4a65c_elementData_915e3 h) (fun p6 s5 h => ?_)
  exact v_aret hX hE (Or.inl ⟨_, rfl⟩) dJx4a65c_get_915e3_14 h
set_option maxRecDepth 100000 in
set_option maxHeartbeats 4000000 in
theorem b_X7_wordAt_29 {X : h_X} (hX : h_ok X cX7_wordAt 2 RX7 3 64) {Q : Option Nat → h_S → Prop} (hE : h_end X (some (.object "SeenWords$Word")) (h_QR (x_Z X) Q)) {t0 : Option Nat} (s : h_S) (h : w_X7_wordAt_29 Q t0 s) : h_V X 2 29 [] [pR t0] s 0 0 := by
  unfold w_X7_wordAt_29 at h
  exact v_aret hX hE (Or.inl ⟨_, rfl⟩) dX7_wordAt_29 h
set_option maxRecDepth 100000 in
set_option maxHeartbeats 4000000 in
theorem m_X7_wordAt {Z : h_Z} {o0 : Nat} {x1 : Int32} {s : h_S} {Q : Option Nat → h_S → Prop} (h : w_X7_wordAt o0 x1 s Q) : h_M Z yX7_wordAt cX7_wordAt 2 (some (.object "SeenWords$Word")) 3 64 [pR (some o0), pI x1] s 0 0 (h_QR Z Q) := by
  refine h_M.of (by decide) (Nat.le_of_ble_eq_true rfl) (fun X hZ hX hE hI => ?_)
  subst hZ
  unfold w_X7_wordAt at h
  show h_V X 2 0 [(0, pR (some o0)), (1, pI x1)] [] s 0 0
  refine v_iload_n hX dX7_wordAt_0 1 rfl rfl ?_
  refine v_aload_n hX dX7_wordAt_1 0 rfl rfl ?_
  obtain ⟨k1, h⟩ := h
  refine v_getR hX dX7_wordAt_2 f_RX7_30 rfl k1 ?_
  obtain ⟨a2, e_a2, h⟩ := h
  refine v_nn0 e_a2 ?_
  obtain ⟨k3, h⟩ := h
  refine v_callVi0 hX dX7_wordAt_5 c_RX7_72 cV_Jx4a65c_size_8abf5 (ci := 0) (T := TJx4a65c) (N := 3) rfl (by exact k3) [] rfl rfl (Nat.le_of_ble_eq_true rfl) (by decide) (by decide)  (m_Jx4a65c_size_8abf5 h) (fun p5 s4 h => ?_)
  refine v_callSi0 hX dX7_wordAt_8 c_RX7_68 cS_X11_within [pI _, pI _] rfl rfl (Nat.le_of_ble_eq_true rfl) (by decide) (by decide)  (m_X11_within h) (fun p7 s6 h => ?_)
  refine v_if_eq (tgt := 28) hX dX7_wordAt_11 (by decide) (fun c8 => ?_) (fun c8 => ?_)
  · have h := h_T c8 h
    refine v_null hX dX7_wordAt_28 ?_
    refine v_pick [] rfl ?_
    exact b_X7_wordAt_29 hX hE _ h
  · have h := h_E c8 h
    refine v_aload_n hX dX7_wordAt_14 0 rfl rfl ?_
    obtain ⟨k9, h⟩ := h
    refine v_getR hX dX7_wordAt_15 f_RX7_30 rfl k9 ?_
    refine v_iload_n hX dX7_wordAt_18 1 rfl rfl ?_
    obtain ⟨a10, e_a10, h⟩ := h
    refine v_nn1 e_a10 ?_
    obtain ⟨k11, h⟩ := h
    refine v_callVr0 hX dX7_wordAt_19 c_RX7_76 cV_Jx4a65c_get_915e3 (ci := 0) (T := TJx4a65c) (N := 3) rfl (by exact k11) [pI _] rfl rfl (Nat.le_of_ble_eq_true rfl) (by decide) (by decide)  (m_Jx4a65c_get_915e3 h) (fun p13 s12 h => ?_)
    obtain ⟨b14, h⟩ := h
    refine v_cast (ci := 11) hX dX7_wordAt_22 kl_RX7_80 rfl b14 ?_
    refine v_goto (tgt := 29) hX dX7_wordAt_25 (by decide) ?_
    refine v_pick [] rfl ?_
    exact b_X7_wordAt_29 hX hE _ h
set_option maxRecDepth 100000 in
set_option maxHeartbeats 4000000 in
theorem m_X10_init {Z : h_Z} {o0 : Nat} {x1 : Int32} {x2 : Int32} {x3 : Int32} {x4 : Int32} {x5 : Int32} {s : h_S} {Q : h_S → Prop} (h : w_X10_init o0 x1 x2 x3 x4 x5 s Q) : h_M Z yX10_init cX10_init 6 none 1 20 [pR (some o0), pI x1, pI x2, pI x3, pI x4, pI x5] s 0 0 (h_QV Z Q) := by
  refine h_M.of (by decide) (Nat.le_of_ble_eq_true rfl) (fun X hZ hX hE hI => ?_)
  subst hZ
  have hN : (x_me X).name = "<init>" := hI.symm
  unfold w_X10_init at h
  show h_V X 6 0 [(0, pR (some o0)), (1, pI x1), (2, pI x2), (3, pI x3), (4, pI x4), (5, pI x5)] [] s 0 0
  refine v_aload_n hX dX10_init_0 0 rfl rfl ?_
  refine v_objInit hX dX10_init_1 oi_RX10_1 (Nat.le_of_ble_eq_true rfl) (by decide) ?_
  refine v_aload_n hX dX10_init_4 0 rfl rfl ?_
  refine v_iload_n hX dX10_init_5 1 rfl rfl ?_
  obtain ⟨k1, h⟩ := h
  refine v_putFI hX dX10_init_6 f_RX10_7 g_RX10_7 hN k1 ?_
  refine v_aload_n hX dX10_init_9 0 rfl rfl ?_
  refine v_iload_n hX dX10_init_10 2 rfl rfl ?_
  refine v_putFI hX dX10_init_11 f_RX10_13 g_RX10_13 hN k1 ?_
  refine v_aload_n hX dX10_init_14 0 rfl rfl ?_
  refine v_iload_n hX dX10_init_15 3 rfl rfl ?_
  refine v_putFI hX dX10_init_16 f_RX10_16 g_RX10_16 hN k1 ?_
  refine v_aload_n hX dX10_init_19 0 rfl rfl ?_
  refine v_iload hX dX10_init_20 4 rfl ?_
  refine v_putFI hX dX10_init_22 f_RX10_19 g_RX10_19 hN k1 ?_
  refine v_aload_n hX dX10_init_25 0 rfl rfl ?_
  refine v_iload hX dX10_init_26 5 rfl ?_
  refine v_putFI hX dX10_init_28 f_RX10_22 g_RX10_22 hN k1 ?_
  exact v_vret hX hE dX10_init_31 h
set_option maxRecDepth 100000 in
set_option maxHeartbeats 4000000 in
theorem m_J8_hugeLength_7cf53 {Z : h_Z} {x0 : Int32} {x1 : Int32} {s : h_S} {mc ms : Nat} {Q : Int32 → h_S → Prop} (h : w_J8_hugeLength_7cf53 x0 x1 s mc ms Q) : h_M Z yJ8_hugeLength_7cf53 cJ8_hugeLength_7cf53 3 (some .int) 0 0 [pI x0, pI x1] s mc ms (h_QI Z Q) := by
  refine h_M.of (by decide) (Nat.le_of_ble_eq_true rfl) (fun X hZ hX hE hI => ?_)
  subst hZ
  unfold w_J8_hugeLength_7cf53 at h
  show h_V X 3 0 [(0, pI x0), (1, pI x1)] [] s mc ms
  refine v_iload_n hX dJ8_hugeLength_7cf53_0 0 rfl rfl ?_
  refine v_iload_n hX dJ8_hugeLength_7cf53_1 1 rfl rfl ?_
  refine v_iadd hX dJ8_hugeLength_7cf53_2 ?_
  refine v_istore_n (lv' := [(2, _), (0, _), (1, _)]) hX dJ8_hugeLength_7cf53_3 rfl (by decide) rfl ?_
  refine v_iload_n hX dJ8_hugeLength_7cf53_4 0 rfl rfl ?_
  refine v_if_ge (tgt := 49) hX dJ8_hugeLength_7cf53_5 (by decide) (fun c1 => ?_) (fun c1 => ?_)
  · have h := h_T c1 h
    refine v_iload_n hX dJ8_hugeLength_7cf53_49 0 rfl rfl ?_
    refine v_ldc hX dJ8_hugeLength_7cf53_50 k_RJ8_200 ?_
    refine v_icmp_gt (tgt := 58) hX dJ8_hugeLength_7cf53_52 (by decide) (fun c2 => ?_) (fun c2 => ?_)
    · have h := h_T c2 h
      refine v_iload_n hX dJ8_hugeLength_7cf53_58 0 rfl rfl ?_
      exact v_iret hX hE dJ8_hugeLength_7cf53_59 h
    · have h := h_E c2 h
      refine v_ldc hX dJ8_hugeLength_7cf53_55 k_RJ8_200 ?_
      exact v_iret hX hE dJ8_hugeLength_7cf53_57 h
  · have h := h_E c1 h
    exact h.elim
set_option maxRecDepth 100000 in
set_option maxHeartbeats 4000000 in
theorem b_J8_newLength_cabcc_21 {X : h_X} (hX : h_ok X cJ8_newLength_cabcc 4 RJ8 1 60) {Q : Int32 → h_S → Prop} (hE : h_end X (some .int) (h_QI (x_Z X) Q)) {x0 : Int32} {x1 : Int32} (s : h_S) {bc bs : Nat} (h : w_J8_newLength_cabcc_21 Q x0 x1 s bc bs) : h_V X 4 21 [(0, pI x0), (1, pI x1)] [] s bc bs := by
  unfold w_J8_newLength_cabcc_21 at h
  refine v_iload_n hX dJ8_newLength_cabcc_21 0 rfl rfl ?_
  refine v_iload_n hX dJ8_newLength_cabcc_22 1 rfl rfl ?_
  obtain ⟨mc3, ms4, b5, b6, h⟩ := h
  refine v_callSi hX dJ8_newLength_cabcc_23 c_RJ8_201 cS_J8_hugeLength_7cf53 [pI _, pI _] rfl rfl (Nat.le_of_ble_eq_true rfl) (by decide) (by decide) b5 b6 (m_J8_hugeLength_7cf53 h) (fun p2 s1 h => ?_)
  exact v_iret hX hE dJ8_newLength_cabcc_26 h
set_option maxRecDepth 100000 in
set_option maxHeartbeats 4000000 in
theorem m_J8_newLength_cabcc {Z : h_Z} {x0 : Int32} {x1 : Int32} {x2 : Int32} {s : h_S} {mc ms : Nat} {Q : Int32 → h_S → Prop} (h : w_J8_newLength_cabcc x0 x1 x2 s mc ms Q) : h_M Z yJ8_newLength_cabcc cJ8_newLength_cabcc 4 (some .int) 1 60 [pI x0, pI x1, pI x2] s mc ms (h_QI Z Q) := by
  refine h_M.of (by decide) (Nat.le_of_ble_eq_true rfl) (fun X hZ hX hE hI => ?_)
  subst hZ
  unfold w_J8_newLength_cabcc at h
  show h_V X 4 0 [(0, pI x0), (1, pI x1), (2, pI x2)] [] s mc ms
  refine v_iload_n hX dJ8_newLength_cabcc_0 0 rfl rfl ?_
  refine v_iload_n hX dJ8_newLength_cabcc_1 1 rfl rfl ?_
  refine v_iload_n hX dJ8_newLength_cabcc_2 2 rfl rfl ?_
  refine v_max hX dJ8_newLength_cabcc_3 mm_max_RJ8_194 (by decide) (Nat.le_of_ble_eq_true rfl) ?_
  refine v_iadd hX dJ8_newLength_cabcc_6 ?_
  refine v_istore_n (lv' := [(3, _), (0, _), (1, _), (2, _)]) hX dJ8_newLength_cabcc_7 rfl (by decide) rfl ?_
  refine v_iconst (v := 0) hX dJ8_newLength_cabcc_8 (by decide) ?_
  refine v_iload_n hX dJ8_newLength_cabcc_9 0 rfl rfl ?_
  refine v_icmp_ge (tgt := 21) hX dJ8_newLength_cabcc_10 (by decide) (fun c1 => ?_) (fun c1 => ?_)
  · have h := h_T c1 h
    refine v_pick [1, 2] rfl ?_
    exact b_J8_newLength_cabcc_21 hX hE _ h
  · have h := h_E c1 h
    refine v_iload_n hX dJ8_newLength_cabcc_13 0 rfl rfl ?_
    refine v_ldc hX dJ8_newLength_cabcc_14 k_RJ8_200 ?_
    refine v_icmp_gt (tgt := 21) hX dJ8_newLength_cabcc_16 (by decide) (fun c2 => ?_) (fun c2 => ?_)
    · have h := h_T c2 h
      refine v_pick [1, 2] rfl ?_
      exact b_J8_newLength_cabcc_21 hX hE _ h
    · have h := h_E c2 h
      refine v_iload_n hX dJ8_newLength_cabcc_19 0 rfl rfl ?_
      exact v_iret hX hE dJ8_newLength_cabcc_20 h
set_option maxRecDepth 100000 in
set_option maxHeartbeats 4000000 in
theorem m_J7_copyOf_6403c {Z : h_Z} {r0 : Option Nat} {x1 : Int32} {r2 : Option Nat} {s : h_S} {mc ms : Nat} {Q : Option Nat → h_S → Prop} (h : w_J7_copyOf_6403c Z.2.2.2.2 r0 x1 r2 s mc ms Q) : h_M Z yJ7_copyOf_6403c cJ7_copyOf_6403c 4 (some (.array (.object "java/lang/Object"))) 1 60 [pR r0, pI x1, pR r2] s mc ms (h_QR Z Q) := by
  refine h_M.of (by decide) (Nat.le_of_ble_eq_true rfl) (fun X hZ hX hE hI => ?_)
  subst hZ
  unfold w_J7_copyOf_6403c at h
  show h_V X 4 0 [(0, pR r0), (1, pI x1), (2, pR r2)] [] s mc ms
  refine v_aload_n hX dJ7_copyOf_6403c_0 2 rfl rfl ?_
  refine v_ldcM hX dJ7_copyOf_6403c_1 kl_RJ7_110 ?_
  refine v_acmp_ne (tgt := 13) hX dJ7_copyOf_6403c_3 (by decide) (fun c1 => ?_) (fun c1 => ?_)
  · have h := h_E c1 h
    refine v_aload_n hX dJ7_copyOf_6403c_13 2 rfl rfl ?_
    exact h.elim
  · have h := h_T c1 h
    refine v_iload_n hX dJ7_copyOf_6403c_6 1 rfl rfl ?_
    obtain ⟨n6, n7, b4, b5, h⟩ := h
    refine v_anew (k := 7) hX dJ7_copyOf_6403c_7 kl_RJ7_2 ao_7 rfl (by decide) (by decide) rfl n6 n7 b4 b5 (fun q2 k3 => ?_)
    have h := h q2 k3
    refine v_goto (tgt := 24) hX dJ7_copyOf_6403c_10 (by decide) ?_
    refine v_astore_n (lv' := [(3, _), (0, _), (1, _), (2, _)]) hX dJ7_copyOf_6403c_24 rfl (by decide) rfl ?_
    refine v_aload_n hX dJ7_copyOf_6403c_25 1 rfl rfl ?_
    refine v_iconst (v := 0) hX dJ7_copyOf_6403c_26 (by decide) ?_
    refine v_aload_n hX dJ7_copyOf_6403c_27 0 rfl rfl ?_
    refine v_iconst (v := 0) hX dJ7_copyOf_6403c_28 (by decide) ?_
    refine v_aload_n hX dJ7_copyOf_6403c_29 1 rfl rfl ?_
    obtain ⟨b11, h⟩ := h
    refine v_alen7 hX dJ7_copyOf_6403c_30 b11 ?_
    refine v_iload_n hX dJ7_copyOf_6403c_31 2 rfl rfl ?_
    refine v_min hX dJ7_copyOf_6403c_32 mm_min_RJ7_304 (by decide) (Nat.le_of_ble_eq_true rfl) ?_
    obtain ⟨k12, h⟩ := h
    obtain ⟨a13, e_a13, h⟩ := h
    refine v_nn4 e_a13 ?_
    obtain ⟨k14, h⟩ := h
    obtain ⟨i15, i16, i17, i18, i19, i20, h⟩ := h
    refine v_copyO hX dJ7_copyOf_6403c_35 sy_RJ7_150 (by decide) (Nat.le_of_ble_eq_true rfl) k14 k12 i15 i16 i17 i18 i19 i20 ?_
    refine v_aload_n hX dJ7_copyOf_6403c_38 0 rfl rfl ?_
    exact v_aret hX hE (Or.inr ⟨_, rfl⟩) dJ7_copyOf_6403c_39 h
set_option maxRecDepth 100000 in
set_option maxHeartbeats 4000000 in
theorem m_J7_copyOf_1904c {Z : h_Z} {r0 : Option Nat} {x1 : Int32} {s : h_S} {mc ms : Nat} {Q : Option Nat → h_S → Prop} (h : w_J7_copyOf_1904c Z.2.2.2.2 r0 x1 s mc ms Q) : h_M Z yJ7_copyOf_1904c cJ7_copyOf_1904c 2 (some (.array (.object "java/lang/Object"))) 2 83 [pR r0, pI x1] s mc ms (h_QR Z Q) := by
  refine h_M.of (by decide) (Nat.le_of_ble_eq_true rfl) (fun X hZ hX hE hI => ?_)
  subst hZ
  unfold w_J7_copyOf_1904c at h
  show h_V X 2 0 [(0, pR r0), (1, pI x1)] [] s mc ms
  refine v_aload_n hX dJ7_copyOf_1904c_0 0 rfl rfl ?_
  refine v_iload_n hX dJ7_copyOf_1904c_1 1 rfl rfl ?_
  refine v_aload_n hX dJ7_copyOf_1904c_2 0 rfl rfl ?_
  obtain ⟨a1, e_a1, h⟩ := h
  refine v_nn0 e_a1 ?_
  obtain ⟨k2, h⟩ := h
  refine v_getC hX dJ7_copyOf_1904c_3 (by decide) (Nat.le_of_ble_eq_true rfl) k2 ?_
  obtain ⟨mc5, ms6, b7, b8, h⟩ := h
  refine v_callSr hX dJ7_copyOf_1904c_6 c_RJ7_300 cS_J7_copyOf_6403c [pR _, pI _, pR _] rfl rfl (Nat.le_of_ble_eq_true rfl) (by decide) (by decide) b7 b8 (m_J7_copyOf_6403c h) (fun p4 s3 h => ?_)
  exact v_aret hX hE (Or.inr ⟨_, rfl⟩) dJ7_copyOf_1904c_9 h
set_option maxRecDepth 100000 in
set_option maxHeartbeats 4000000 in
theorem b_Jx4a65c_grow_92f84_20 {X : h_X} (hX : h_ok X cJx4a65c_grow_92f84 4 RJx4a65c 3 104) {Q : Option Nat → h_S → Prop} (hE : h_end X (some (.array (.object "java/lang/Object"))) (h_QR (x_Z X) Q)) {o0 : Nat} {x1 : Int32} {x2 : Int32} (s : h_S) {bc bs : Nat} (h : w_Jx4a65c_grow_92f84_20 (x_G X) Q o0 x1 x2 s bc bs) : h_V X 4 20 [(0, pR (some o0)), (1, pI x1), (2, pI x2)] [] s bc bs := by
  unfold w_Jx4a65c_grow_92f84_20 at h
  refine v_iload_n hX dJx4a65c_grow_92f84_20 2 rfl rfl ?_
  refine v_iload_n hX dJx4a65c_grow_92f84_21 1 rfl rfl ?_
  refine v_iload_n hX dJx4a65c_grow_92f84_22 2 rfl rfl ?_
  refine v_isub hX dJx4a65c_grow_92f84_23 ?_
  refine v_iload_n hX dJx4a65c_grow_92f84_24 2 rfl rfl ?_
  refine v_iconst (v := 1) hX dJx4a65c_grow_92f84_25 (by decide) ?_
  refine v_ishr hX dJx4a65c_grow_92f84_26 ?_
  obtain ⟨mc3, ms4, b5, b6, h⟩ := h
  refine v_callSi hX dJx4a65c_grow_92f84_27 c_RJx4a65c_73 cS_J8_newLength_cabcc [pI _, pI _, pI _] rfl rfl (Nat.le_of_ble_eq_true rfl) (by decide) (by decide) b5 b6 (m_J8_newLength_cabcc h) (fun p2 s1 h => ?_)
  refine v_istore_n (lv' := [(3, _), (0, _), (1, _), (2, _)]) hX dJx4a65c_grow_92f84_30 rfl (by decide) rfl ?_
  refine v_aload_n hX dJx4a65c_grow_92f84_31 1 rfl rfl ?_
  refine v_aload_n hX dJx4a65c_grow_92f84_32 1 rfl rfl ?_
  obtain ⟨k7, h⟩ := h
  refine v_getR hX dJx4a65c_grow_92f84_33 f_RJx4a65c_9 rfl k7 ?_
  refine v_iload_n hX dJx4a65c_grow_92f84_36 0 rfl rfl ?_
  obtain ⟨mc10, ms11, b12, b13, h⟩ := h
  refine v_callSr hX dJx4a65c_grow_92f84_37 c_RJx4a65c_66 cS_J7_copyOf_1904c [pR _, pI _] rfl rfl (Nat.le_of_ble_eq_true rfl) (by decide) (by decide) b12 b13 (m_J7_copyOf_1904c h) (fun p9 s8 h => ?_)
  refine v_dup_x1 hX dJx4a65c_grow_92f84_40 rfl rfl ?_
  obtain ⟨k14, h⟩ := h
  refine v_putR hX dJx4a65c_grow_92f84_41 f_RJx4a65c_9 rfl (Or.inr ⟨_, rfl⟩) k14 ?_
  exact v_aret hX hE (Or.inr ⟨_, rfl⟩) dJx4a65c_grow_92f84_44 h
set_option maxRecDepth 100000 in
set_option maxHeartbeats 4000000 in
theorem m_Jx4a65c_grow_92f84 {Z : h_Z} {o0 : Nat} {x1 : Int32} {s : h_S} {mc ms : Nat} {Q : Option Nat → h_S → Prop} (h : w_Jx4a65c_grow_92f84 Z.2.2.2.2 o0 x1 s mc ms Q) : h_M Z yJx4a65c_grow_92f84 cJx4a65c_grow_92f84 4 (some (.array (.object "java/lang/Object"))) 3 104 [pR (some o0), pI x1] s mc ms (h_QR Z Q) := by
  refine h_M.of (by decide) (Nat.le_of_ble_eq_true rfl) (fun X hZ hX hE hI => ?_)
  subst hZ
  unfold w_Jx4a65c_grow_92f84 at h
  show h_V X 4 0 [(0, pR (some o0)), (1, pI x1)] [] s mc ms
  refine v_aload_n hX dJx4a65c_grow_92f84_0 0 rfl rfl ?_
  obtain ⟨k1, h⟩ := h
  refine v_getR hX dJx4a65c_grow_92f84_1 f_RJx4a65c_9 rfl k1 ?_
  obtain ⟨b2, h⟩ := h
  refine v_alen7 hX dJx4a65c_grow_92f84_4 b2 ?_
  refine v_istore_n (lv' := [(2, _), (0, _), (1, _)]) hX dJx4a65c_grow_92f84_5 rfl (by decide) rfl ?_
  refine v_iload_n hX dJx4a65c_grow_92f84_6 0 rfl rfl ?_
  refine v_if_gt (tgt := 20) hX dJx4a65c_grow_92f84_7 (by decide) (fun c3 => ?_) (fun c3 => ?_)
  · have h := h_T c3 h
    refine v_pick [1, 2, 0] rfl ?_
    exact b_Jx4a65c_grow_92f84_20 hX hE _ h
  · have h := h_E c3 h
    refine v_aload_n hX dJx4a65c_grow_92f84_10 1 rfl rfl ?_
    refine v_getR hX dJx4a65c_grow_92f84_11 f_RJx4a65c_9 rfl k1 ?_
    refine v_getEmpty hX dJx4a65c_grow_92f84_14 em_RJx4a65c_39 ?_
    refine v_acmp_eq (tgt := 45) hX dJx4a65c_grow_92f84_17 (by decide) (fun c4 => ?_) (fun c4 => ?_)
    · have h := h_T c4 h
      refine v_aload_n hX dJx4a65c_grow_92f84_45 1 rfl rfl ?_
      refine v_bipush (v := 10) hX dJx4a65c_grow_92f84_46 (by decide) ?_
      refine v_iload_n hX dJx4a65c_grow_92f84_48 2 rfl rfl ?_
      refine v_max hX dJx4a65c_grow_92f84_49 mm_max_RJx4a65c_79 (by decide) (Nat.le_of_ble_eq_true rfl) ?_
      obtain ⟨n9, n10, b7, b8, h⟩ := h
      refine v_anew (k := 7) hX dJx4a65c_grow_92f84_52 kl_RJx4a65c_7 ao_7 rfl (by decide) (by decide) rfl n9 n10 b7 b8 (fun q5 k6 => ?_)
      have h := h q5 k6
      refine v_dup_x1 hX dJx4a65c_grow_92f84_55 rfl rfl ?_
      obtain ⟨k14, h⟩ := h
      refine v_putR hX dJx4a65c_grow_92f84_56 f_RJx4a65c_9 rfl (Or.inr ⟨_, rfl⟩) k14 ?_
      exact v_aret hX hE (Or.inr ⟨_, rfl⟩) dJx4a65c_grow_92f84_59 h
    · have h := h_E c4 h
      refine v_pick [1, 2, 0] rfl ?_
      exact b_Jx4a65c_grow_92f84_20 hX hE _ h
set_option maxRecDepth 100000 in
set_option maxHeartbeats 4000000 in
theorem m_Jx4a65c_grow_d5877 {Z : h_Z} {o0 : Nat} {s : h_S} {mc ms : Nat} {Q : Option Nat → h_S → Prop} (h : w_Jx4a65c_grow_d5877 Z.2.2.2.2 o0 s mc ms Q) : h_M Z yJx4a65c_grow_d5877 cJx4a65c_grow_d5877 1 (some (.array (.object "java/lang/Object"))) 4 127 [pR (some o0)] s mc ms (h_QR Z Q) := by
  refine h_M.of (by decide) (Nat.le_of_ble_eq_true rfl) (fun X hZ hX hE hI => ?_)
  subst hZ
  unfold w_Jx4a65c_grow_d5877 at h
  show h_V X 1 0 [(0, pR (some o0))] [] s mc ms
  refine v_aload_n hX dJx4a65c_grow_d5877_0 0 rfl rfl ?_
  refine v_aload_n hX dJx4a65c_grow_d5877_1 0 rfl rfl ?_
  obtain ⟨k1, h⟩ := h
  refine v_getI hX dJx4a65c_grow_d5877_2 f_RJx4a65c_48 rfl k1 ?_
  refine v_iconst (v := 1) hX dJx4a65c_grow_d5877_5 (by decide) ?_
  refine v_iadd hX dJx4a65c_grow_d5877_6 ?_
  obtain ⟨mc4, ms5, b6, b7, h⟩ := h
  refine v_callVr hX dJx4a65c_grow_d5877_7 c_RJx4a65c_69 cV_Jx4a65c_grow_92f84 (ci := 0) (T := TJx4a65c) (N := 3) rfl (by exact k1) [pI _] rfl rfl (Nat.le_of_ble_eq_true rfl) (by decide) (by decide) b6 b7 (m_Jx4a65c_grow_92f84 h) (fun p3 s2 h => ?_)
  exact v_aret hX hE (Or.inr ⟨_, rfl⟩) dJx4a65c_grow_d5877_10 h
set_option maxRecDepth 100000 in
set_option maxHeartbeats 4000000 in
theorem b_Jx4a65c_add_72be8_11 {X : h_X} (hX : h_ok X cJx4a65c_add_72be8 4 RJx4a65c 5 147) {Q : h_S → Prop} (hE : h_end X none (h_QV (x_Z X) Q)) {o0 : Nat} {r1 : Option Nat} {r2 : Option Nat} {x3 : Int32} (s : h_S) {bc bs : Nat} (h : w_Jx4a65c_add_72be8_11 (x_G X) Q o0 r1 r2 x3 s bc bs) : h_V X 4 11 [(0, pR (some o0)), (1, pR r1), (2, pR r2), (3, pI x3)] [] s bc bs := by
  unfold w_Jx4a65c_add_72be8_11 at h
  refine v_aload_n hX dJx4a65c_add_72be8_11 2 rfl rfl ?_
  refine v_iload_n hX dJx4a65c_add_72be8_12 3 rfl rfl ?_
  refine v_aload_n hX dJx4a65c_add_72be8_13 1 rfl rfl ?_
  obtain ⟨a1, e_a1, h⟩ := h
  refine v_nn2 e_a1 ?_
  obtain ⟨k2, h⟩ := h
  obtain ⟨i3, h⟩ := h
  obtain ⟨a4, e_a4, h⟩ := h
  refine v_nn0 e_a4 ?_
  obtain ⟨b5, h⟩ := h
  refine v_aastO hX dJx4a65c_add_72be8_14 k2 i3 b5 ?_
  refine v_aload_n hX dJx4a65c_add_72be8_15 0 rfl rfl ?_
  refine v_iload_n hX dJx4a65c_add_72be8_16 3 rfl rfl ?_
  refine v_iconst (v := 1) hX dJx4a65c_add_72be8_17 (by decide) ?_
  refine v_iadd hX dJx4a65c_add_72be8_18 ?_
  obtain ⟨k7, h⟩ := h
  refine v_putI hX dJx4a65c_add_72be8_19 f_RJx4a65c_48 k7 ?_
  exact v_vret hX hE dJx4a65c_add_72be8_22 h
set_option maxRecDepth 100000 in
set_option maxHeartbeats 4000000 in
theorem m_Jx4a65c_add_72be8 {Z : h_Z} {o0 : Nat} {r1 : Option Nat} {r2 : Option Nat} {x3 : Int32} {s : h_S} {mc ms : Nat} {Q : h_S → Prop} (h : w_Jx4a65c_add_72be8 Z.2.2.2.2 o0 r1 r2 x3 s mc ms Q) : h_M Z yJx4a65c_add_72be8 cJx4a65c_add_72be8 4 none 5 147 [pR (some o0), pR r1, pR r2, pI x3] s mc ms (h_QV Z Q) := by
  refine h_M.of (by decide) (Nat.le_of_ble_eq_true rfl) (fun X hZ hX hE hI => ?_)
  subst hZ
  unfold w_Jx4a65c_add_72be8 at h
  show h_V X 4 0 [(0, pR (some o0)), (1, pR r1), (2, pR r2), (3, pI x3)] [] s mc ms
  refine v_iload_n hX dJx4a65c_add_72be8_0 3 rfl rfl ?_
  refine v_aload_n hX dJx4a65c_add_72be8_1 2 rfl rfl ?_
  obtain ⟨b1, h⟩ := h
  refine v_alen7 hX dJx4a65c_add_72be8_2 b1 ?_
  refine v_icmp_ne (tgt := 11) hX dJx4a65c_add_72be8_3 (by decide) (fun c2 => ?_) (fun c2 => ?_)
  · have h := h_E c2 h
    refine v_pick [0, 1, 2, 3] rfl ?_
    exact b_Jx4a65c_add_72be8_11 hX hE _ h
  · have h := h_T c2 h
    refine v_aload_n hX dJx4a65c_add_72be8_6 0 rfl rfl ?_
    obtain ⟨k3, h⟩ := h
    obtain ⟨mc6, ms7, b8, b9, h⟩ := h
    refine v_callVr hX dJx4a65c_add_72be8_7 c_RJx4a65c_129 cV_Jx4a65c_grow_d5877 (ci := 0) (T := TJx4a65c) (N := 3) rfl (by exact k3) [] rfl rfl (Nat.le_of_ble_eq_true rfl) (by decide) (by decide) b8 b9 (m_Jx4a65c_grow_d5877 h) (fun p5 s4 h => ?_)
    refine v_astore_n (lv' := [(2, _), (0, _), (1, _), (3, _)]) hX dJx4a65c_add_72be8_10 rfl (by decide) rfl ?_
    refine v_pick [1, 2, 0, 3] rfl ?_
    exact b_Jx4a65c_add_72be8_11 hX hE _ h
set_option maxRecDepth 100000 in
set_option maxHeartbeats 4000000 in
theorem m_Jx4a65c_add_9ea2d {Z : h_Z} {o0 : Nat} {r1 : Option Nat} {s : h_S} {mc ms : Nat} {Q : Int32 → h_S → Prop} (h : w_Jx4a65c_add_9ea2d Z.2.2.2.2 o0 r1 s mc ms Q) : h_M Z yJx4a65c_add_9ea2d cJx4a65c_add_9ea2d 2 (some .boolean) 6 170 [pR (some o0), pR r1] s mc ms (h_QI Z Q) := by
  refine h_M.of (by decide) (Nat.le_of_ble_eq_true rfl) (fun X hZ hX hE hI => ?_)
  subst hZ
  unfold w_Jx4a65c_add_9ea2d at h
  show h_V X 2 0 [(0, pR (some o0)), (1, pR r1)] [] s mc ms
  refine v_aload_n hX dJx4a65c_add_9ea2d_0 0 rfl rfl ?_
  refine v_dup hX dJx4a65c_add_9ea2d_1 rfl ?_
  obtain ⟨k1, h⟩ := h
  refine v_getI hX dJx4a65c_add_9ea2d_2 f_RJx4a65c_63 rfl k1 ?_
  refine v_iconst (v := 1) hX dJx4a65c_add_9ea2d_5 (by decide) ?_
  refine v_iadd hX dJx4a65c_add_9ea2d_6 ?_
  refine v_putI hX dJx4a65c_add_9ea2d_7 f_RJx4a65c_63 k1 ?_
  refine v_aload_n hX dJx4a65c_add_9ea2d_10 0 rfl rfl ?_
  refine v_aload_n hX dJx4a65c_add_9ea2d_11 1 rfl rfl ?_
  refine v_aload_n hX dJx4a65c_add_9ea2d_12 0 rfl rfl ?_
  refine v_getR hX dJx4a65c_add_9ea2d_13 f_RJx4a65c_9 rfl k1 ?_
  refine v_aload_n hX dJx4a65c_add_9ea2d_16 0 rfl rfl ?_
  refine v_getI hX dJx4a65c_add_9ea2d_17 f_RJx4a65c_48 rfl k1 ?_
  obtain ⟨mc5, ms6, b7, b8, h⟩ := h
  refine v_callVv hX dJx4a65c_add_9ea2d_20 c_RJx4a65c_131 cV_Jx4a65c_add_72be8 (ci := 0) (T := TJx4a65c) (N := 3) rfl (by exact k1) [pR _, pR _, pI _] rfl rfl (Nat.le_of_ble_eq_true rfl) (by decide) (by decide) b7 b8 (m_Jx4a65c_add_72be8 h) (fun s3 h => ?_)
  refine v_iconst (v := 1) hX dJx4a65c_add_9ea2d_23 (by decide) ?_
  exact v_zret hX hE dJx4a65c_add_9ea2d_24 (Or.inr rfl) h
set_option maxRecDepth 100000 in
set_option maxHeartbeats 4000000 in
theorem b_X7_addWord_55 {X : h_X} (hX : h_ok X cX7_addWord 5 RX7 7 191) {Q : h_S → Prop} (hE : h_end X none (h_QV (x_Z X) Q)) (s : h_S) {bc bs : Nat} (h : w_X7_addWord_55 (x_G X) Q s bc bs) : h_V X 5 55 [] [] s bc bs := by
  unfold w_X7_addWord_55 at h
  exact v_vret hX hE dX7_addWord_55 h
set_option maxRecDepth 100000 in
set_option maxHeartbeats 4000000 in
theorem m_X7_addWord {Z : h_Z} {o0 : Nat} {x1 : Int32} {x2 : Int32} {x3 : Int32} {s : h_S} {mc ms : Nat} {Q : h_S → Prop} (h : w_X7_addWord Z.2.2.2.2 o0 x1 x2 x3 s mc ms Q) : h_M Z yX7_addWord cX7_addWord 5 none 7 191 [pR (some o0), pI x1, pI x2, pI x3] s mc ms (h_QV Z Q) := by
  refine h_M.of (by decide) (Nat.le_of_ble_eq_true rfl) (fun X hZ hX hE hI => ?_)
  subst hZ
  unfold w_X7_addWord at h
  show h_V X 5 0 [(0, pR (some o0)), (1, pI x1), (2, pI x2), (3, pI x3)] [] s mc ms
  refine v_aload_n hX dX7_addWord_0 0 rfl rfl ?_
  refine v_iload_n hX dX7_addWord_1 2 rfl rfl ?_
  obtain ⟨k1, h⟩ := h
  refine v_callVi0 hX dX7_addWord_2 c_RX7_82 cV_X7_ownerOf (ci := 8) (T := TX7) (N := 13) rfl (by exact k1) [pI _] rfl rfl (Nat.le_of_ble_eq_true rfl) (by decide) (by decide)  (m_X7_ownerOf h) (fun p3 s2 h => ?_)
  refine v_istore (lv' := [(4, _), (0, _), (1, _), (2, _), (3, _)]) hX dX7_addWord_5 (by decide) rfl ?_
  refine v_iload hX dX7_addWord_7 0 rfl ?_
  refine v_bipush (v := 8) hX dX7_addWord_9 (by decide) ?_
  refine v_callSi0 hX dX7_addWord_11 c_RX7_68 cS_X11_within [pI _, pI _] rfl rfl (Nat.le_of_ble_eq_true rfl) (by decide) (by decide)  (m_X11_within h) (fun p5 s4 h => ?_)
  refine v_if_eq (tgt := 55) hX dX7_addWord_14 (by decide) (fun c6 => ?_) (fun c6 => ?_)
  · have h := h_T c6 h
    refine v_pick [] rfl ?_
    exact b_X7_addWord_55 hX hE _ h
  · have h := h_E c6 h
    refine v_aload_n hX dX7_addWord_17 1 rfl rfl ?_
    obtain ⟨k7, h⟩ := h
    refine v_getR hX dX7_addWord_18 f_RX7_30 rfl k7 ?_
    obtain ⟨b10, b11, h⟩ := h
    refine v_new hX dX7_addWord_21 n_RX7_80 b10 b11 (fun q8 k9 => ?_)
    have h := h q8 k9
    refine v_dup hX dX7_addWord_24 rfl ?_
    refine v_iload_n hX dX7_addWord_25 2 rfl rfl ?_
    refine v_iload hX dX7_addWord_26 0 rfl ?_
    refine v_iload_n hX dX7_addWord_28 3 rfl rfl ?_
    refine v_iload_n hX dX7_addWord_29 4 rfl rfl ?_
    refine v_aload_n hX dX7_addWord_30 1 rfl rfl ?_
    obtain ⟨k15, h⟩ := h
    refine v_getR hX dX7_addWord_31 f_RX7_34 rfl k15 ?_
    refine v_iload hX dX7_addWord_34 0 rfl ?_
    obtain ⟨a16, e_a16, h⟩ := h
    refine v_nn1 e_a16 ?_
    obtain ⟨k17, h⟩ := h
    obtain ⟨i18, h⟩ := h
    refine v_iald hX dX7_addWord_36 k17 i18 ?_
    refine v_callIv0 hX dX7_addWord_37 c_RX7_86 cI_X10_init [pI _, pI _, pI _, pI _, pI _] rfl rfl (Nat.le_of_ble_eq_true rfl) (by decide) (by decide)  (m_X10_init h) (fun s19 h => ?_)
    obtain ⟨a21, e_a21, h⟩ := h
    refine v_nn1 e_a21 ?_
    obtain ⟨k22, h⟩ := h
    obtain ⟨mc25, ms26, b27, b28, h⟩ := h
    refine v_callVi hX dX7_addWord_40 c_RX7_89 cV_Jx4a65c_add_9ea2d (ci := 0) (T := TJx4a65c) (N := 3) rfl (by exact k22) [pR _] rfl rfl (Nat.le_of_ble_eq_true rfl) (by decide) (by decide) b27 b28 (m_Jx4a65c_add_9ea2d h) (fun p24 s23 h => ?_)
    refine v_pop hX dX7_addWord_43 rfl ?_
    refine v_aload_n hX dX7_addWord_44 1 rfl rfl ?_
    obtain ⟨k29, h⟩ := h
    refine v_getR hX dX7_addWord_45 f_RX7_34 rfl k29 ?_
    refine v_iload hX dX7_addWord_48 0 rfl ?_
    refine v_dup2 hX dX7_addWord_50 rfl rfl ?_
    obtain ⟨a30, e_a30, h⟩ := h
    refine v_nn1 e_a30 ?_
    obtain ⟨k31, h⟩ := h
    obtain ⟨i32, h⟩ := h
    refine v_iald hX dX7_addWord_51 k31 i32 ?_
    refine v_iconst (v := 1) hX dX7_addWord_52 (by decide) ?_
    refine v_iadd hX dX7_addWord_53 ?_
    obtain ⟨a33, e_a33, h⟩ := h
    refine v_nn2 e_a33 ?_
    obtain ⟨k34, h⟩ := h
    obtain ⟨i35, h⟩ := h
    refine v_iast hX dX7_addWord_54 k34 i35 ?_
    refine v_pick [] rfl ?_
    exact b_X7_addWord_55 hX hE _ h
set_option maxRecDepth 100000 in
set_option maxHeartbeats 4000000 in
theorem b_X7_areWords_38 {X : h_X} (hX : h_ok X cX7_areWords 3 RX7 1 20) {Q : Int32 → h_S → Prop} (hE : h_end X (some .boolean) (h_QI (x_Z X) Q)) {y0 : Int32} (s : h_S) (h : w_X7_areWords_38 Q y0 s) : h_V X 3 38 [] [pI y0] s 0 0 := by
  unfold w_X7_areWords_38 at h
  exact v_zret hX hE dX7_areWords_38 h.1 h.2
set_option maxRecDepth 100000 in
set_option maxHeartbeats 4000000 in
theorem b_X7_areWords_37 {X : h_X} (hX : h_ok X cX7_areWords 3 RX7 1 20) {Q : Int32 → h_S → Prop} (hE : h_end X (some .boolean) (h_QI (x_Z X) Q)) (s : h_S) (h : w_X7_areWords_37 Q s) : h_V X 3 37 [] [] s 0 0 := by
  unfold w_X7_areWords_37 at h
  refine v_iconst (v := 0) hX dX7_areWords_37 (by decide) ?_
  refine v_pick [] rfl ?_
  exact b_X7_areWords_38 hX hE _ h
set_option maxRecDepth 100000 in
set_option maxHeartbeats 4000000 in
theorem m_X7_areWords {Z : h_Z} {o0 : Nat} {x1 : Int32} {x2 : Int32} {s : h_S} {Q : Int32 → h_S → Prop} (h : w_X7_areWords o0 x1 x2 s Q) : h_M Z yX7_areWords cX7_areWords 3 (some .boolean) 1 20 [pR (some o0), pI x1, pI x2] s 0 0 (h_QI Z Q) := by
  refine h_M.of (by decide) (Nat.le_of_ble_eq_true rfl) (fun X hZ hX hE hI => ?_)
  subst hZ
  unfold w_X7_areWords at h
  show h_V X 3 0 [(0, pR (some o0)), (1, pI x1), (2, pI x2)] [] s 0 0
  refine v_iload_n hX dX7_areWords_0 1 rfl rfl ?_
  refine v_if_lt (tgt := 37) hX dX7_areWords_1 (by decide) (fun c1 => ?_) (fun c1 => ?_)
  · have h := h_T c1 h
    refine v_pick [] rfl ?_
    exact b_X7_areWords_37 hX hE _ h
  · have h := h_E c1 h
    refine v_iload_n hX dX7_areWords_4 2 rfl rfl ?_
    refine v_iconst (v := 1) hX dX7_areWords_5 (by decide) ?_
    refine v_icmp_lt (tgt := 37) hX dX7_areWords_6 (by decide) (fun c2 => ?_) (fun c2 => ?_)
    · have h := h_T c2 h
      refine v_pick [] rfl ?_
      exact b_X7_areWords_37 hX hE _ h
    · have h := h_E c2 h
      refine v_iload_n hX dX7_areWords_9 1 rfl rfl ?_
      refine v_aload_n hX dX7_areWords_10 0 rfl rfl ?_
      obtain ⟨k3, h⟩ := h
      refine v_getR hX dX7_areWords_11 f_RX7_30 rfl k3 ?_
      obtain ⟨a4, e_a4, h⟩ := h
      refine v_nn0 e_a4 ?_
      obtain ⟨k5, h⟩ := h
      refine v_callVi0 hX dX7_areWords_14 c_RX7_72 cV_Jx4a65c_size_8abf5 (ci := 0) (T := TJx4a65c) (N := 3) rfl (by exact k5) [] rfl rfl (Nat.le_of_ble_eq_true rfl) (by decide) (by decide)  (m_Jx4a65c_size_8abf5 h) (fun p7 s6 h => ?_)
      refine v_icmp_ge (tgt := 37) hX dX7_areWords_17 (by decide) (fun c8 => ?_) (fun c8 => ?_)
      · have h := h_T c8 h
        refine v_pick [] rfl ?_
        exact b_X7_areWords_37 hX hE _ h
      · have h := h_E c8 h
        refine v_iload_n hX dX7_areWords_20 2 rfl rfl ?_
        refine v_aload_n hX dX7_areWords_21 0 rfl rfl ?_
        obtain ⟨k9, h⟩ := h
        refine v_getR hX dX7_areWords_22 f_RX7_30 rfl k9 ?_
        obtain ⟨a10, e_a10, h⟩ := h
        refine v_nn0 e_a10 ?_
        obtain ⟨k11, h⟩ := h
        refine v_callVi0 hX dX7_areWords_25 c_RX7_72 cV_Jx4a65c_size_8abf5 (ci := 0) (T := TJx4a65c) (N := 3) rfl (by exact k11) [] rfl rfl (Nat.le_of_ble_eq_true rfl) (by decide) (by decide)  (m_Jx4a65c_size_8abf5 h) (fun p13 s12 h => ?_)
        refine v_iload_n hX dX7_areWords_28 1 rfl rfl ?_
        refine v_isub hX dX7_areWords_29 ?_
        refine v_icmp_gt (tgt := 37) hX dX7_areWords_30 (by decide) (fun c14 => ?_) (fun c14 => ?_)
        · have h := h_T c14 h
          refine v_pick [] rfl ?_
          exact b_X7_areWords_37 hX hE _ h
        · have h := h_E c14 h
          refine v_iconst (v := 1) hX dX7_areWords_33 (by decide) ?_
          refine v_goto (tgt := 38) hX dX7_areWords_34 (by decide) ?_
          refine v_pick [] rfl ?_
          exact b_X7_areWords_38 hX hE _ h
set_option maxRecDepth 100000 in
set_option maxHeartbeats 4000000 in
theorem b_X7_codeOf_19 {X : h_X} (hX : h_ok X cX7_codeOf 3 RX7 4 85) {Q : Int32 → h_S → Prop} (hE : h_end X (some .int) (h_QI (x_Z X) Q)) {y0 : Int32} (s : h_S) (h : w_X7_codeOf_19 Q y0 s) : h_V X 3 19 [] [pI y0] s 0 0 := by
  unfold w_X7_codeOf_19 at h
  exact v_iret hX hE dX7_codeOf_19 h
set_option maxRecDepth 100000 in
set_option maxHeartbeats 4000000 in
theorem m_X7_codeOf {Z : h_Z} {o0 : Nat} {x1 : Int32} {s : h_S} {Q : Int32 → h_S → Prop} (h : w_X7_codeOf o0 x1 s Q) : h_M Z yX7_codeOf cX7_codeOf 3 (some .int) 4 85 [pR (some o0), pI x1] s 0 0 (h_QI Z Q) := by
  refine h_M.of (by decide) (Nat.le_of_ble_eq_true rfl) (fun X hZ hX hE hI => ?_)
  subst hZ
  unfold w_X7_codeOf at h
  show h_V X 3 0 [(0, pR (some o0)), (1, pI x1)] [] s 0 0
  refine v_aload_n hX dX7_codeOf_0 0 rfl rfl ?_
  refine v_iload_n hX dX7_codeOf_1 1 rfl rfl ?_
  obtain ⟨k1, h⟩ := h
  refine v_callVr0 hX dX7_codeOf_2 c_RX7_93 cV_X7_wordAt (ci := 8) (T := TX7) (N := 13) rfl (by exact k1) [pI _] rfl rfl (Nat.le_of_ble_eq_true rfl) (by decide) (by decide)  (m_X7_wordAt h) (fun p3 s2 h => ?_)
  refine v_astore_n (lv' := [(2, _), (0, _), (1, _)]) hX dX7_codeOf_5 rfl (by decide) rfl ?_
  refine v_aload_n hX dX7_codeOf_6 0 rfl rfl ?_
  refine v_ifnonnull (tgt := 15) hX dX7_codeOf_7 (by decide) (fun c4 => ?_) (fun c4 => ?_)
  · have h := h_E c4 h
    refine v_aload_n hX dX7_codeOf_15 0 rfl rfl ?_
    obtain ⟨a5, e_a5, h⟩ := h
    refine v_nn0 e_a5 ?_
    obtain ⟨k6, h⟩ := h
    refine v_getI hX dX7_codeOf_16 f_RX7_97 rfl k6 ?_
    refine v_pick [] rfl ?_
    exact b_X7_codeOf_19 hX hE _ h
  · have h := h_T c4 h
    refine v_bipush (v := -9) hX dX7_codeOf_10 (by decide) ?_
    refine v_goto (tgt := 19) hX dX7_codeOf_12 (by decide) ?_
    refine v_pick [] rfl ?_
    exact b_X7_codeOf_19 hX hE _ h
set_option maxRecDepth 100000 in
set_option maxHeartbeats 4000000 in
theorem b_X7_handOf_19 {X : h_X} (hX : h_ok X cX7_handOf 3 RX7 4 85) {Q : Int32 → h_S → Prop} (hE : h_end X (some .int) (h_QI (x_Z X) Q)) {y0 : Int32} (s : h_S) (h : w_X7_handOf_19 Q y0 s) : h_V X 3 19 [] [pI y0] s 0 0 := by
  unfold w_X7_handOf_19 at h
  exact v_iret hX hE dX7_handOf_19 h
set_option maxRecDepth 100000 in
set_option maxHeartbeats 4000000 in
theorem m_X7_handOf {Z : h_Z} {o0 : Nat} {x1 : Int32} {s : h_S} {Q : Int32 → h_S → Prop} (h : w_X7_handOf o0 x1 s Q) : h_M Z yX7_handOf cX7_handOf 3 (some .int) 4 85 [pR (some o0), pI x1] s 0 0 (h_QI Z Q) := by
  refine h_M.of (by decide) (Nat.le_of_ble_eq_true rfl) (fun X hZ hX hE hI => ?_)
  subst hZ
  unfold w_X7_handOf at h
  show h_V X 3 0 [(0, pR (some o0)), (1, pI x1)] [] s 0 0
  refine v_aload_n hX dX7_handOf_0 0 rfl rfl ?_
  refine v_iload_n hX dX7_handOf_1 1 rfl rfl ?_
  obtain ⟨k1, h⟩ := h
  refine v_callVr0 hX dX7_handOf_2 c_RX7_93 cV_X7_wordAt (ci := 8) (T := TX7) (N := 13) rfl (by exact k1) [pI _] rfl rfl (Nat.le_of_ble_eq_true rfl) (by decide) (by decide)  (m_X7_wordAt h) (fun p3 s2 h => ?_)
  refine v_astore_n (lv' := [(2, _), (0, _), (1, _)]) hX dX7_handOf_5 rfl (by decide) rfl ?_
  refine v_aload_n hX dX7_handOf_6 0 rfl rfl ?_
  refine v_ifnonnull (tgt := 15) hX dX7_handOf_7 (by decide) (fun c4 => ?_) (fun c4 => ?_)
  · have h := h_E c4 h
    refine v_aload_n hX dX7_handOf_15 0 rfl rfl ?_
    obtain ⟨a5, e_a5, h⟩ := h
    refine v_nn0 e_a5 ?_
    obtain ⟨k6, h⟩ := h
    refine v_getI hX dX7_handOf_16 f_RX7_100 rfl k6 ?_
    refine v_pick [] rfl ?_
    exact b_X7_handOf_19 hX hE _ h
  · have h := h_T c4 h
    refine v_bipush (v := -9) hX dX7_handOf_10 (by decide) ?_
    refine v_goto (tgt := 19) hX dX7_handOf_12 (by decide) ?_
    refine v_pick [] rfl ?_
    exact b_X7_handOf_19 hX hE _ h
set_option maxRecDepth 100000 in
set_option maxHeartbeats 4000000 in
theorem b_X7_isIn_27 {X : h_X} (hX : h_ok X cX7_isIn 4 RX7 4 85) {Q : Int32 → h_S → Prop} (hE : h_end X (some .boolean) (h_QI (x_Z X) Q)) {y0 : Int32} (s : h_S) (h : w_X7_isIn_27 Q y0 s) : h_V X 4 27 [] [pI y0] s 0 0 := by
  unfold w_X7_isIn_27 at h
  exact v_zret hX hE dX7_isIn_27 h.1 h.2
set_option maxRecDepth 100000 in
set_option maxHeartbeats 4000000 in
theorem b_X7_isIn_26 {X : h_X} (hX : h_ok X cX7_isIn 4 RX7 4 85) {Q : Int32 → h_S → Prop} (hE : h_end X (some .boolean) (h_QI (x_Z X) Q)) (s : h_S) (h : w_X7_isIn_26 Q s) : h_V X 4 26 [] [] s 0 0 := by
  unfold w_X7_isIn_26 at h
  refine v_iconst (v := 0) hX dX7_isIn_26 (by decide) ?_
  refine v_pick [] rfl ?_
  exact b_X7_isIn_27 hX hE _ h
set_option maxRecDepth 100000 in
set_option maxHeartbeats 4000000 in
theorem m_X7_isIn {Z : h_Z} {o0 : Nat} {x1 : Int32} {x2 : Int32} {s : h_S} {Q : Int32 → h_S → Prop} (h : w_X7_isIn o0 x1 x2 s Q) : h_M Z yX7_isIn cX7_isIn 4 (some .boolean) 4 85 [pR (some o0), pI x1, pI x2] s 0 0 (h_QI Z Q) := by
  refine h_M.of (by decide) (Nat.le_of_ble_eq_true rfl) (fun X hZ hX hE hI => ?_)
  subst hZ
  unfold w_X7_isIn at h
  show h_V X 4 0 [(0, pR (some o0)), (1, pI x1), (2, pI x2)] [] s 0 0
  refine v_aload_n hX dX7_isIn_0 0 rfl rfl ?_
  refine v_iload_n hX dX7_isIn_1 1 rfl rfl ?_
  obtain ⟨k1, h⟩ := h
  refine v_callVr0 hX dX7_isIn_2 c_RX7_93 cV_X7_wordAt (ci := 8) (T := TX7) (N := 13) rfl (by exact k1) [pI _] rfl rfl (Nat.le_of_ble_eq_true rfl) (by decide) (by decide)  (m_X7_wordAt h) (fun p3 s2 h => ?_)
  refine v_astore_n (lv' := [(3, _), (0, _), (1, _), (2, _)]) hX dX7_isIn_5 rfl (by decide) rfl ?_
  refine v_aload_n hX dX7_isIn_6 0 rfl rfl ?_
  refine v_ifnull (tgt := 26) hX dX7_isIn_7 (by decide) (fun c4 => ?_) (fun c4 => ?_)
  · have h := h_T c4 h
    refine v_pick [] rfl ?_
    exact b_X7_isIn_26 hX hE _ h
  · have h := h_E c4 h
    refine v_iload_n hX dX7_isIn_10 3 rfl rfl ?_
    refine v_aload_n hX dX7_isIn_11 0 rfl rfl ?_
    obtain ⟨a5, e_a5, h⟩ := h
    refine v_nn0 e_a5 ?_
    obtain ⟨k6, h⟩ := h
    refine v_getI hX dX7_isIn_12 f_RX7_103 rfl k6 ?_
    refine v_ishr hX dX7_isIn_15 ?_
    refine v_iconst (v := 1) hX dX7_isIn_16 (by decide) ?_
    refine v_iand hX dX7_isIn_17 ?_
    refine v_iconst (v := 1) hX dX7_isIn_18 (by decide) ?_
    refine v_icmp_ne (tgt := 26) hX dX7_isIn_19 (by decide) (fun c7 => ?_) (fun c7 => ?_)
    · have h := h_E c7 h
      refine v_pick [] rfl ?_
      exact b_X7_isIn_26 hX hE _ h
    · have h := h_T c7 h
      refine v_iconst (v := 1) hX dX7_isIn_22 (by decide) ?_
      refine v_goto (tgt := 27) hX dX7_isIn_23 (by decide) ?_
      refine v_pick [] rfl ?_
      exact b_X7_isIn_27 hX hE _ h
