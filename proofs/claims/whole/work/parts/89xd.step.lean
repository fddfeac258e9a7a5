/-! each call as a step of both sides (step.py) -/
abbrev MO (s s2 : sA) : Prop := sC s2 0 ≤ sC s 0 + 1 ∧ sC s 3 ≤ sC s2 3 ∧ sC s 7 ≤ sC s2 7
abbrev zz1 (s s2 : sA) (y y2 : c_Y) (c d : Nat) : Prop := c + zC y2 + 2 * sC s 3 + 3 * sC s 7 ≤ zC y + 40 + 2 * sC s2 3 + 3 * sC s2 7 ∧ d + zD y2 + 1005 * sC s 3 + 1604 * sC s 7 ≤ zD y + 1400 + 1005 * sC s2 3 + 1604 * sC s2 7
def PS0 {ρ : Type} (f : h_S → Option (ρ × h_S)) (r : r_T → Option (ρ × r_T)) : Prop := ∀ (k : h_S) (t : r_T) (s : sA) (y : c_Y), CB k s y → RA t s → IV s → sC s 0 < 512 → ∃ a k2 t2 s2 y2, f k = some (a, k2) ∧ r t = some (a, t2) ∧ CB k2 s2 y2 ∧ RA t2 s2 ∧ IV s2 ∧ MO s s2 ∧ zz1 s s2 y y2 0 0
def PS1 {ρ : Type} (f : h_S → fg_R ρ h_S) (r : r_T → Option (ρ × r_T)) : Prop := ∀ (k : h_S) (t : r_T) (s : sA) (y : c_Y), CB k s y → RA t s → IV s → sC s 0 < 512 → ∃ a k2 c d t2 s2 y2, f k = some (a, k2, c, d) ∧ r t = some (a, t2) ∧ CB k2 s2 y2 ∧ RA t2 s2 ∧ IV s2 ∧ MO s s2 ∧ zz1 s s2 y y2 c d
section PST
variable {s : sA}
theorem MO0 : MO s s := ⟨Nat.le_add_right _ _, Nat.le_refl _, Nat.le_refl _⟩
theorem zC_c {y y2 : c_Y} (h : ∀ i, yC y2 i = yC y i) : zC y2 = zC y ∧ zD y2 = zD y := by
  have e : yC y2 = yC y := funext h
  unfold zC zD
  rw [e]
  exact ⟨rfl, rfl⟩
theorem m_read (a x : Int32) : MO s (s_read s a x).2 := by
  unfold s_read
  refine fg_if_P (P := fun r : Int32 × sA => MO s r.2) (fun _ => fg_if_P (P := fun r : Int32 × sA => MO s r.2) (fun _ => MO0) (fun _ => ?_)) (fun _ => MO0)
  have d : s_dbt s (s_rlo s a (h_ix x)).1 := by
    unfold s_rlo
    exact fg_if_P (P := fun r : sA × Nat × Int32 => s_dbt s r.1) (fun _ => s_dbt_rl _ _ _ _ s_dbt0) (fun _ => s_dbt0)
  have ec : ∀ i, sC (s_rlo s a (h_ix x)).1 i = sC s i := fun i => by unfold sC; rw [d.1]
  refine ⟨?_, ?_, ?_⟩
  · show sC (s_rlo s a (h_ix x)).1 0 + 1 ≤ _; rw [ec]; exact Nat.le_refl _
  · show _ ≤ sC (s_rlo s a (h_ix x)).1 3; rw [ec]; exact Nat.le_refl _
  · show _ ≤ sC (s_rlo s a (h_ix x)).1 7; rw [ec]; exact Nat.le_refl _
theorem m_put (w a k l i n : Int32) : MO s (s_put s w a k l i n).2 := by
  unfold s_put s_br
  refine fg_if_P (P := fun r : Int32 × sA => MO s r.2) (fun _ => fg_if_P (P := fun r : Int32 × sA => MO s r.2) (fun _ => fg_if_P (P := fun r : Int32 × sA => MO s r.2) (fun _ => ⟨Nat.le_add_right _ _, Nat.le_refl _, Nat.le_refl _⟩) (fun _ => fg_if_P (P := fun r : Int32 × sA => MO s r.2) (fun _ => ?_) (fun _ => ⟨Nat.le_add_right _ _, Nat.le_refl _, Nat.le_refl _⟩))) (fun _ => fg_if_P (P := fun r : Int32 × sA => MO s r.2) (fun _ => ⟨Nat.le_add_right _ _, Nat.le_refl _, Nat.le_refl _⟩) (fun _ => ⟨Nat.le_add_right _ _, Nat.le_refl _, Nat.le_refl _⟩))) (fun _ => ⟨Nat.le_add_right _ _, Nat.le_refl _, Nat.le_refl _⟩)
  generalize s_brg s w (h_ix a) (0, nI (sC s 3), n, -9, -9) = l
  generalize s_cl s (h_ix k) (h_ix i) = C
  refine ⟨?_, ?_, ?_⟩
  · show sC (s_wl C (h_ix w) (h_ix n) 0 (s_new s w l)) 0 + 1 ≤ _; rw [s_wl_C (by decide)]; exact Nat.le_refl _
  · show _ ≤ sC (s_wl C (h_ix w) (h_ix n) 0 (s_new s w l)) 3; rw [s_wl_C3]; exact Nat.le_add_right _ _
  · show _ ≤ sC (s_wl C (h_ix w) (h_ix n) 0 (s_new s w l)) 7; rw [s_wl_C (by decide)]; exact Nat.le_refl _
theorem m_join (a b c : Int32) : MO s (s_join s a b c).2 := by
  unfold s_join
  refine fg_if_P (P := fun r : Int32 × sA => MO s r.2) (fun _ => fg_if_P (P := fun r : Int32 × sA => MO s r.2) (fun _ => MO0) (fun _ => ?_)) (fun _ => MO0)
  generalize s_runs (s_jrow s a b c) = l
  generalize sF s 9 (h_ix (sF s 56 (h_ix a))) = w
  refine ⟨?_, ?_, ?_⟩
  · show sC (s_addC (s_new (s_beg s w) (nI (sC s 2)) l) (nI (sC s 2)) (s_jcl s a b c)) 0 + 1 ≤ _
    rw [s_addC_C, if_neg (by decide)]; exact Nat.le_refl _
  · show _ ≤ sC (s_addC (s_new (s_beg s w) (nI (sC s 2)) l) (nI (sC s 2)) (s_jcl s a b c)) 3
    rw [s_addC_C, if_neg (by decide)]; exact Nat.le_refl _
  · show _ ≤ sC (s_addC (s_new (s_beg s w) (nI (sC s 2)) l) (nI (sC s 2)) (s_jcl s a b c)) 7
    rw [s_addC_C, if_pos rfl]; exact Nat.le_add_right _ _
theorem m_hand : MO s (s_hand s).2 := by
  unfold s_hand
  repeat' first | exact ⟨Nat.le_add_right _ _, Nat.le_refl _, Nat.le_refl _⟩ | exact ⟨Nat.le_refl _, Nat.le_refl _, Nat.le_refl _⟩ | (refine fg_if_P (P := fun r : Int32 × sA => MO s r.2) (fun _ => ?_) (fun _ => ?_))
theorem p_hand : PS0 (fn_X11_hand) (fn_X12_hand) := by
  intro k t s y hC hA hI v0
  obtain ⟨t2, a1, a2⟩ := rs_hand hA (IV_c hI)
  obtain ⟨k2, b1, b2⟩ := cs_hand hC (IV_c hI) (IV_g hI)
  obtain ⟨m1, m2, m3⟩ := (m_hand)
  exact ⟨_, k2, t2, _, y, b1, a1, b2, a2, (i_hand hI v0), ⟨m1, m2, m3⟩, ⟨by omega, by omega⟩⟩
theorem m_group (x1 x2 : Int32) : MO s (s_group s x1 x2).2 := by
  unfold s_group
  repeat' first | exact ⟨Nat.le_add_right _ _, Nat.le_refl _, Nat.le_refl _⟩ | exact ⟨Nat.le_refl _, Nat.le_refl _, Nat.le_refl _⟩ | (refine fg_if_P (P := fun r : Int32 × sA => MO s r.2) (fun _ => ?_) (fun _ => ?_))
theorem p_group (x1 x2 : Int32) : PS0 (fn_X11_group x1 x2) (fn_X12_group x1 x2) := by
  intro k t s y hC hA hI v0
  obtain ⟨t2, a1, a2⟩ := rs_group hA (IV_c hI) x1 x2
  obtain ⟨k2, b1, b2⟩ := cs_group hC (IV_c hI) (IV_g hI) x1 x2
  obtain ⟨m1, m2, m3⟩ := (m_group x1 x2)
  exact ⟨_, k2, t2, _, y, b1, a1, b2, a2, (i_group hI v0 x1 x2), ⟨m1, m2, m3⟩, ⟨by omega, by omega⟩⟩
theorem m_writing (x1 : Int32) : MO s (s_writing s x1).2 := by
  unfold s_writing
  repeat' first | exact ⟨Nat.le_add_right _ _, Nat.le_refl _, Nat.le_refl _⟩ | exact ⟨Nat.le_refl _, Nat.le_refl _, Nat.le_refl _⟩ | (refine fg_if_P (P := fun r : Int32 × sA => MO s r.2) (fun _ => ?_) (fun _ => ?_))
theorem p_writing (x1 : Int32) : PS1 (fn_X11_writing x1) (fn_X12_writing x1) := by
  intro k t s y hC hA hI v0
  obtain ⟨t2, a1, a2⟩ := rs_writing hA (IV_c hI) x1
  obtain ⟨k2, c, d, y2, b1, b2, b3, b4, b5, _⟩ := cs_writing hC (IV_c hI) (IV_g hI) (IV_w hI) x1
  have z := zC_c b5
  obtain ⟨m1, m2, m3⟩ := (m_writing x1)
  exact ⟨_, k2, c, d, t2, _, y2, b1, a1, b2, a2, (i_writing hI v0 x1), ⟨m1, m2, m3⟩, ⟨by omega, by omega⟩⟩
theorem p_put (x1 x2 x3 x4 x5 x6 : Int32) : PS1 (fn_X11_put x1 x2 x3 x4 x5 x6) (fn_X12_put x1 x2 x3 x4 x5 x6) := by
  intro k t s y hC hA hI v0
  obtain ⟨t2, a1, a2⟩ := rs_put hA (IV_c hI) v0 (IV_p hI) (IV_o hI) (IV_s hI) x1 x2 x3 x4 x5 x6
  obtain ⟨k2, c, d, y2, b1, b2, b3, b4⟩ := cs_put hC (IV_c hI) (IV_g hI) v0 (IV_t hI) (IV_p hI) (IV_q hI) (IV_x hI) (IV_v hI) (IV_o hI) (IV_s hI) x1 x2 x3 x4 x5 x6
  obtain ⟨m1, m2, m3⟩ := (m_put x1 x2 x3 x4 x5 x6)
  exact ⟨_, k2, c, d, t2, _, y2, b1, a1, b2, a2, (i_put hI v0 x1 x2 x3 x4 x5 x6), ⟨m1, m2, m3⟩, ⟨by omega, by omega⟩⟩
theorem m_seen (x1 x2 x3 x4 : Int32) : MO s (s_seen s x1 x2 x3 x4).2 := by
  unfold s_seen s_keepS
  repeat' first | exact ⟨Nat.le_add_right _ _, Nat.le_refl _, Nat.le_refl _⟩ | exact ⟨Nat.le_refl _, Nat.le_refl _, Nat.le_refl _⟩ | (refine fg_if_P (P := fun r : Int32 × sA => MO s r.2) (fun _ => ?_) (fun _ => ?_))
theorem p_seen (x1 x2 x3 x4 : Int32) : PS1 (fn_X11_seen x1 x2 x3 x4) (fn_X12_seen x1 x2 x3 x4) := by
  intro k t s y hC hA hI v0
  obtain ⟨t2, a1, a2⟩ := rs_seen hA (IV_c hI) v0 (IV_p hI) (IV_x hI) (IV_r hI) (IV_d hI) x1 x2 x3 x4
  obtain ⟨k2, c, d, y2, b1, b2, b3, b4⟩ := cs_seen hC (IV_c hI) (IV_g hI) v0 (IV_t hI) (IV_p hI) (IV_q hI) (IV_x hI) (IV_v hI) (IV_r2 hI) (IV_d hI) x1 x2 x3 x4
  obtain ⟨m1, m2, m3⟩ := (m_seen x1 x2 x3 x4)
  exact ⟨_, k2, c, d, t2, _, y2, b1, a1, b2, a2, (i_seen hI v0 x1 x2 x3 x4), ⟨m1, m2, m3⟩, ⟨by omega, by omega⟩⟩
theorem m_span (x1 x2 x3 x4 x5 x6 : Int32) : MO s (s_span s x1 x2 x3 x4 x5 x6).2 := by
  unfold s_span s_keepS
  repeat' first | exact ⟨Nat.le_add_right _ _, Nat.le_refl _, Nat.le_refl _⟩ | exact ⟨Nat.le_refl _, Nat.le_refl _, Nat.le_refl _⟩ | (refine fg_if_P (P := fun r : Int32 × sA => MO s r.2) (fun _ => ?_) (fun _ => ?_))
theorem p_span (x1 x2 x3 x4 x5 x6 : Int32) : PS1 (fn_X11_span x1 x2 x3 x4 x5 x6) (fn_X12_span x1 x2 x3 x4 x5 x6) := by
  intro k t s y hC hA hI v0
  obtain ⟨t2, a1, a2⟩ := rs_span hA (IV_c hI) v0 (IV_p hI) (IV_x hI) (IV_r hI) x1 x2 x3 x4 x5 x6
  obtain ⟨k2, c, d, y2, b1, b2, b3, b4⟩ := cs_span hC (IV_c hI) (IV_g hI) v0 (IV_t hI) (IV_p hI) (IV_q hI) (IV_x hI) (IV_v hI) (IV_r2 hI) x1 x2 x3 x4 x5 x6
  obtain ⟨m1, m2, m3⟩ := (m_span x1 x2 x3 x4 x5 x6)
  exact ⟨_, k2, c, d, t2, _, y2, b1, a1, b2, a2, (i_span hI v0 x1 x2 x3 x4 x5 x6), ⟨m1, m2, m3⟩, ⟨by omega, by omega⟩⟩
theorem m_live (x1 x2 x3 x4 x5 : Int32) : MO s (s_live s x1 x2 x3 x4 x5).2 := by
  unfold s_live s_keepS
  repeat' first | exact ⟨Nat.le_add_right _ _, Nat.le_refl _, Nat.le_refl _⟩ | exact ⟨Nat.le_refl _, Nat.le_refl _, Nat.le_refl _⟩ | (refine fg_if_P (P := fun r : Int32 × sA => MO s r.2) (fun _ => ?_) (fun _ => ?_))
theorem p_live (x1 x2 x3 x4 x5 : Int32) : PS1 (fn_X11_live x1 x2 x3 x4 x5) (fn_X12_live x1 x2 x3 x4 x5) := by
  intro k t s y hC hA hI v0
  obtain ⟨t2, a1, a2⟩ := rs_live hA (IV_c hI) v0 (IV_p hI) (IV_x hI) (IV_r hI) (IV_d hI) x1 x2 x3 x4 x5
  obtain ⟨k2, c, d, y2, b1, b2, b3, b4⟩ := cs_live hC (IV_c hI) (IV_g hI) v0 (IV_t hI) (IV_p hI) (IV_q hI) (IV_x hI) (IV_v hI) (IV_r2 hI) (IV_d hI) x1 x2 x3 x4 x5
  obtain ⟨m1, m2, m3⟩ := (m_live x1 x2 x3 x4 x5)
  exact ⟨_, k2, c, d, t2, _, y2, b1, a1, b2, a2, (i_live hI v0 x1 x2 x3 x4 x5), ⟨m1, m2, m3⟩, ⟨by omega, by omega⟩⟩
theorem m_cut (x1 x2 x3 : Int32) : MO s (s_cut s x1 x2 x3).2 := by
  unfold s_cut s_keepS
  repeat' first | exact ⟨Nat.le_add_right _ _, Nat.le_refl _, Nat.le_refl _⟩ | exact ⟨Nat.le_refl _, Nat.le_refl _, Nat.le_refl _⟩ | (refine fg_if_P (P := fun r : Int32 × sA => MO s r.2) (fun _ => ?_) (fun _ => ?_))
theorem p_cut (x1 x2 x3 : Int32) : PS1 (fn_X11_cut x1 x2 x3) (fn_X12_cut x1 x2 x3) := by
  intro k t s y hC hA hI v0
  obtain ⟨t2, a1, a2⟩ := rs_cut hA (IV_c hI) v0 (IV_p hI) (IV_x hI) x1 x2 x3
  obtain ⟨k2, c, d, y2, b1, b2, b3, b4⟩ := cs_cut hC (IV_c hI) (IV_g hI) v0 (IV_t hI) (IV_p hI) (IV_q hI) (IV_x hI) (IV_v hI) x1 x2 x3
  obtain ⟨m1, m2, m3⟩ := (m_cut x1 x2 x3)
  exact ⟨_, k2, c, d, t2, _, y2, b1, a1, b2, a2, (i_cut hI v0 x1 x2 x3), ⟨m1, m2, m3⟩, ⟨by omega, by omega⟩⟩
theorem m_move (x1 x2 x3 x4 : Int32) : MO s (s_move s x1 x2 x3 x4).2 := by
  unfold s_move s_keepP
  repeat' first | exact ⟨Nat.le_add_right _ _, Nat.le_refl _, Nat.le_refl _⟩ | exact ⟨Nat.le_refl _, Nat.le_refl _, Nat.le_refl _⟩ | (refine fg_if_P (P := fun r : Int32 × sA => MO s r.2) (fun _ => ?_) (fun _ => ?_))
theorem p_move (x1 x2 x3 x4 : Int32) : PS1 (fn_X11_move x1 x2 x3 x4) (fn_X12_move x1 x2 x3 x4) := by
  intro k t s y hC hA hI v0
  obtain ⟨t2, a1, a2⟩ := rs_move hA (IV_c hI) v0 (IV_p hI) (IV_x hI) x1 x2 x3 x4
  obtain ⟨k2, c, d, y2, b1, b2, b3, b4⟩ := cs_move hC (IV_c hI) (IV_g hI) v0 (IV_t hI) (IV_p hI) (IV_q hI) (IV_x hI) (IV_v hI) x1 x2 x3 x4
  obtain ⟨m1, m2, m3⟩ := (m_move x1 x2 x3 x4)
  exact ⟨_, k2, c, d, t2, _, y2, b1, a1, b2, a2, (i_move hI v0 x1 x2 x3 x4), ⟨m1, m2, m3⟩, ⟨by omega, by omega⟩⟩
theorem m_again (x1 x2 : Int32) : MO s (s_again s x1 x2).2 := by
  unfold s_again s_keepP
  repeat' first | exact ⟨Nat.le_add_right _ _, Nat.le_refl _, Nat.le_refl _⟩ | exact ⟨Nat.le_refl _, Nat.le_refl _, Nat.le_refl _⟩ | (refine fg_if_P (P := fun r : Int32 × sA => MO s r.2) (fun _ => ?_) (fun _ => ?_))
theorem p_again (x1 x2 : Int32) : PS1 (fn_X11_again x1 x2) (fn_X12_again x1 x2) := by
  intro k t s y hC hA hI v0
  obtain ⟨t2, a1, a2⟩ := rs_again hA (IV_c hI) v0 (IV_p hI) x1 x2
  obtain ⟨k2, c, d, y2, b1, b2, b3, b4⟩ := cs_again hC (IV_c hI) (IV_g hI) v0 (IV_p hI) (IV_q hI) (IV_v hI) x1 x2
  obtain ⟨m1, m2, m3⟩ := (m_again x1 x2)
  exact ⟨_, k2, c, d, t2, _, y2, b1, a1, b2, a2, (i_again hI v0 x1 x2), ⟨m1, m2, m3⟩, ⟨by omega, by omega⟩⟩
theorem p_length (x1 x2 : Int32) : PS1 (fn_X11_length x1 x2) (fn_X12_length x1 x2) := by
  intro k t s y hC hA hI v0
  obtain ⟨t2, a1, a2⟩ := rs_length hA (IV_c hI) (IV_p hI) x1 x2
  obtain ⟨k2, c, d, y2, b1, b2, b3, b4⟩ := cs_length hC (IV_c hI) (IV_p hI) (IV_q hI) x1 x2
  obtain ⟨m1, m2, m3⟩ := (show MO s (s_length s x1 x2).2 from MO0)
  exact ⟨_, k2, c, d, t2, _, y2, b1, a1, b2, a2, (show IV s from hI), ⟨m1, m2, m3⟩, ⟨by omega, by omega⟩⟩
theorem p_shown (x1 x2 x3 : Int32) : PS1 (fn_X11_shown x1 x2 x3) (fn_X12_shown x1 x2 x3) := by
  intro k t s y hC hA hI v0
  obtain ⟨t2, a1, a2⟩ := rs_shown hA (IV_c hI) (IV_p hI) x1 x2 x3
  obtain ⟨k2, c, d, y2, b1, b2, b3, b4⟩ := cs_shown hC (IV_c hI) (IV_p hI) (IV_q hI) x1 x2 x3
  obtain ⟨m1, m2, m3⟩ := (show MO s (s_shown s x1 x2 x3).2 from MO0)
  exact ⟨_, k2, c, d, t2, _, y2, b1, a1, b2, a2, (show IV s from hI), ⟨m1, m2, m3⟩, ⟨by omega, by omega⟩⟩
theorem p_pieces (x1 : Int32) : PS0 (fn_X11_pieces x1) (fn_X12_pieces x1) := by
  intro k t s y hC hA hI v0
  obtain ⟨t2, a1, a2⟩ := rs_pieces hA (IV_c hI) x1
  obtain ⟨k2, b1, b2⟩ := cs_pieces hC (IV_c hI) (IV_t hI) x1
  obtain ⟨m1, m2, m3⟩ := (show MO s (s_pieces s x1).2 from MO0)
  exact ⟨_, k2, t2, _, y, b1, a1, b2, a2, (show IV s from hI), ⟨m1, m2, m3⟩, ⟨by omega, by omega⟩⟩
theorem p_piece (x1 x2 x3 : Int32) : PS0 (fn_X11_piece x1 x2 x3) (fn_X12_piece x1 x2 x3) := by
  intro k t s y hC hA hI v0
  obtain ⟨t2, a1, a2⟩ := rs_piece hA (IV_c hI) x1 x2 x3
  obtain ⟨k2, b1, b2⟩ := cs_piece hC (IV_c hI) (IV_t hI) (IV_p hI) x1 x2 x3
  obtain ⟨m1, m2, m3⟩ := (show MO s (s_piece s x1 x2 x3).2 from MO0)
  exact ⟨_, k2, t2, _, y, b1, a1, b2, a2, (show IV s from hI), ⟨m1, m2, m3⟩, ⟨by omega, by omega⟩⟩
theorem p_word (x1 x2 : Int32) : PS0 (fn_X11_word x1 x2) (fn_X12_word x1 x2) := by
  intro k t s y hC hA hI v0
  obtain ⟨t2, a1, a2⟩ := rs_word hA (IV_c hI) x1 x2
  obtain ⟨k2, b1, b2⟩ := cs_word hC (IV_c hI) x1 x2
  obtain ⟨m1, m2, m3⟩ := (show MO s (s_word s x1 x2).2 from MO0)
  exact ⟨_, k2, t2, _, y, b1, a1, b2, a2, (show IV s from hI), ⟨m1, m2, m3⟩, ⟨by omega, by omega⟩⟩
theorem m_version (x1 : Int32) : MO s (s_version s x1).2 := by
  unfold s_version
  repeat' first | exact ⟨Nat.le_add_right _ _, Nat.le_refl _, Nat.le_refl _⟩ | exact ⟨Nat.le_refl _, Nat.le_refl _, Nat.le_refl _⟩ | (refine fg_if_P (P := fun r : Int32 × sA => MO s r.2) (fun _ => ?_) (fun _ => ?_))
theorem p_version (x1 : Int32) : PS1 (fn_X11_version x1) (fn_X12_version x1) := by
  intro k t s y hC hA hI v0
  obtain ⟨t2, a1, a2⟩ := rs_version hA (IV_c hI) x1
  obtain ⟨k2, c, d, y2, b1, b2, b3, b4⟩ := cs_version hC (IV_c hI) (IV_g hI) (IV_p hI) (IV_q hI) x1
  obtain ⟨m1, m2, m3⟩ := (m_version x1)
  exact ⟨_, k2, c, d, t2, _, y2, b1, a1, b2, a2, (i_version hI v0 x1), ⟨m1, m2, m3⟩, ⟨by omega, by omega⟩⟩
theorem m_give (x1 : Int32) : MO s (s_give s x1).2 := by
  unfold s_give
  repeat' first | exact ⟨Nat.le_add_right _ _, Nat.le_refl _, Nat.le_refl _⟩ | exact ⟨Nat.le_refl _, Nat.le_refl _, Nat.le_refl _⟩ | (refine fg_if_P (P := fun r : Int32 × sA => MO s r.2) (fun _ => ?_) (fun _ => ?_))
theorem p_give (x1 : Int32) : PS0 (fn_X11_give x1) (fn_X12_give x1) := by
  intro k t s y hC hA hI v0
  obtain ⟨t2, a1, a2⟩ := rs_give hA (IV_c hI) (IV_p hI) (IV_v hI) x1
  obtain ⟨k2, b1, b2⟩ := cs_give hC (IV_c hI) (IV_g hI) (IV_v hI) x1
  obtain ⟨m1, m2, m3⟩ := (m_give x1)
  exact ⟨_, k2, t2, _, y, b1, a1, b2, a2, (i_give hI v0 x1), ⟨m1, m2, m3⟩, ⟨by omega, by omega⟩⟩
theorem m_back (x1 : Int32) : MO s (s_back s x1).2 := by
  unfold s_back
  repeat' first | exact ⟨Nat.le_add_right _ _, Nat.le_refl _, Nat.le_refl _⟩ | exact ⟨Nat.le_refl _, Nat.le_refl _, Nat.le_refl _⟩ | (refine fg_if_P (P := fun r : Int32 × sA => MO s r.2) (fun _ => ?_) (fun _ => ?_))
theorem p_back (x1 : Int32) : PS0 (fn_X11_back x1) (fn_X12_back x1) := by
  intro k t s y hC hA hI v0
  obtain ⟨t2, a1, a2⟩ := rs_back hA (IV_c hI) (IV_p hI) (IV_v hI) x1
  obtain ⟨k2, b1, b2⟩ := cs_back hC (IV_c hI) (IV_g hI) (IV_v hI) x1
  obtain ⟨m1, m2, m3⟩ := (m_back x1)
  exact ⟨_, k2, t2, _, y, b1, a1, b2, a2, (i_back hI v0 x1), ⟨m1, m2, m3⟩, ⟨by omega, by omega⟩⟩
theorem p_about (x1 x2 : Int32) : PS0 (fn_X11_about x1 x2) (fn_X12_about x1 x2) := by
  intro k t s y hC hA hI v0
  obtain ⟨t2, a1, a2⟩ := rs_about hA (IV_c hI) (IV_p hI) (IV_v hI) x1 x2
  obtain ⟨k2, b1, b2⟩ := cs_about hC (IV_c hI) (IV_v hI) x1 x2
  obtain ⟨m1, m2, m3⟩ := (show MO s (s_about s x1 x2).2 from MO0)
  exact ⟨_, k2, t2, _, y, b1, a1, b2, a2, (show IV s from hI), ⟨m1, m2, m3⟩, ⟨by omega, by omega⟩⟩
theorem p_at (x1 x2 : Int32) : PS0 (fn_X11_at x1 x2) (fn_X12_at x1 x2) := by
  intro k t s y hC hA hI v0
  obtain ⟨t2, a1, a2⟩ := rs_at hA (IV_c hI) (IV_p hI) (IV_v hI) x1 x2
  obtain ⟨k2, b1, b2⟩ := cs_at hC (IV_c hI) x1 x2
  obtain ⟨m1, m2, m3⟩ := (show MO s (s_at s x1 x2).2 from MO0)
  exact ⟨_, k2, t2, _, y, b1, a1, b2, a2, (show IV s from hI), ⟨m1, m2, m3⟩, ⟨by omega, by omega⟩⟩
theorem p_compare (x1 x2 x3 : Int32) : PS0 (fn_X11_compare x1 x2 x3) (fn_X12_compare x1 x2 x3) := by
  intro k t s y hC hA hI v0
  obtain ⟨t2, a1, a2⟩ := rs_compare hA (IV_c hI) (IV_p hI) (IV_v hI) (IV_x hI) x1 x2 x3
  obtain ⟨k2, b1, b2⟩ := cs_compare hC (IV_c hI) (IV_x hI) x1 x2 x3
  obtain ⟨m1, m2, m3⟩ := (show MO s (s_compare s x1 x2 x3).2 from MO0)
  exact ⟨_, k2, t2, _, y, b1, a1, b2, a2, (show IV s from hI), ⟨m1, m2, m3⟩, ⟨by omega, by omega⟩⟩
theorem p_join (x1 x2 x3 : Int32) : PS1 (fn_X11_join x1 x2 x3) (fn_X12_join x1 x2 x3) := by
  intro k t s y hC hA hI v0
  obtain ⟨t2, a1, a2⟩ := rs_join hA (IV_c hI) v0 (IV_p hI) (IV_v hI) (IV_x hI) (IV_K hI) x1 x2 x3
  obtain ⟨k2, c, d, y2, b1, b2, b3, b4⟩ := cs_join hC (IV_c hI) (IV_g hI) v0 (IV_w hI) (IV_q hI) (IV_v hI) (IV_z hI) x1 x2 x3
  obtain ⟨m1, m2, m3⟩ := (m_join x1 x2 x3)
  exact ⟨_, k2, c, d, t2, _, y2, b1, a1, b2, a2, (i_join hI v0 x1 x2 x3), ⟨m1, m2, m3⟩, ⟨by omega, by omega⟩⟩
theorem p_clash (x1 x2 : Int32) : PS0 (fn_X11_clash x1 x2) (fn_X12_clash x1 x2) := by
  intro k t s y hC hA hI v0
  obtain ⟨t2, a1, a2⟩ := rs_clash hA (IV_c hI) x1 x2
  obtain ⟨k2, b1, b2⟩ := cs_clash hC (IV_c hI) x1 x2
  obtain ⟨m1, m2, m3⟩ := (show MO s (s_clash s x1 x2).2 from MO0)
  exact ⟨_, k2, t2, _, y, b1, a1, b2, a2, (show IV s from hI), ⟨m1, m2, m3⟩, ⟨by omega, by omega⟩⟩
theorem m_settle (x1 x2 : Int32) : MO s (s_settle s x1 x2).2 := by
  unfold s_settle
  repeat' first | exact ⟨Nat.le_add_right _ _, Nat.le_refl _, Nat.le_refl _⟩ | exact ⟨Nat.le_refl _, Nat.le_refl _, Nat.le_refl _⟩ | (refine fg_if_P (P := fun r : Int32 × sA => MO s r.2) (fun _ => ?_) (fun _ => ?_))
theorem p_settle (x1 x2 : Int32) : PS1 (fn_X11_settle x1 x2) (fn_X12_settle x1 x2) := by
  intro k t s y hC hA hI v0
  obtain ⟨t2, a1, a2⟩ := rs_settle hA (IV_c hI) v0 (IV_p hI) (IV_x hI) (IV_K hI) x1 x2
  obtain ⟨k2, c, d, y2, b1, b2, b3, b4⟩ := cs_settle hC (IV_c hI) (IV_g hI) v0 (IV_t hI) (IV_p hI) (IV_q hI) (IV_x hI) (IV_v hI) (IV_K hI) x1 x2
  obtain ⟨m1, m2, m3⟩ := (m_settle x1 x2)
  exact ⟨_, k2, c, d, t2, _, y2, b1, a1, b2, a2, (i_settle hI v0 x1 x2), ⟨m1, m2, m3⟩, ⟨by omega, by omega⟩⟩
theorem m_link (x1 x2 x3 x4 x5 : Int32) : MO s (s_link s x1 x2 x3 x4 x5).2 := by
  unfold s_link s_keepK
  repeat' first | exact ⟨Nat.le_add_right _ _, Nat.le_refl _, Nat.le_refl _⟩ | exact ⟨Nat.le_refl _, Nat.le_refl _, Nat.le_refl _⟩ | (refine fg_if_P (P := fun r : Int32 × sA => MO s r.2) (fun _ => ?_) (fun _ => ?_))
theorem p_link (x1 x2 x3 x4 x5 : Int32) : PS1 (fn_X11_link x1 x2 x3 x4 x5) (fn_X12_link x1 x2 x3 x4 x5) := by
  intro k t s y hC hA hI v0
  obtain ⟨t2, a1, a2⟩ := rs_link hA (IV_c hI) (IV_l hI) x1 x2 x3 x4 x5
  obtain ⟨k2, c, d, y2, b1, b2, b3, b4⟩ := cs_link hC (IV_c hI) (IV_g hI) (IV_l hI) x1 x2 x3 x4 x5
  obtain ⟨m1, m2, m3⟩ := (m_link x1 x2 x3 x4 x5)
  exact ⟨_, k2, c, d, t2, _, y2, b1, a1, b2, a2, (i_link hI v0 x1 x2 x3 x4 x5), ⟨m1, m2, m3⟩, ⟨by omega, by omega⟩⟩
theorem p_ofLink (x1 x2 : Int32) : PS0 (fn_X11_ofLink x1 x2) (fn_X12_ofLink x1 x2) := by
  intro k t s y hC hA hI v0
  obtain ⟨t2, a1, a2⟩ := rs_ofLink hA (IV_c hI) x1 x2
  obtain ⟨k2, b1, b2⟩ := cs_ofLink hC (IV_c hI) x1 x2
  obtain ⟨m1, m2, m3⟩ := (show MO s (s_ofLink s x1 x2).2 from MO0)
  exact ⟨_, k2, t2, _, y, b1, a1, b2, a2, (show IV s from hI), ⟨m1, m2, m3⟩, ⟨by omega, by omega⟩⟩
theorem p_ends (x1 x2 x3 : Int32) : PS0 (fn_X11_ends x1 x2 x3) (fn_X12_ends x1 x2 x3) := by
  intro k t s y hC hA hI v0
  obtain ⟨t2, a1, a2⟩ := rs_ends hA (IV_c hI) (IV_p hI) (IV_v hI) (IV_m hI) x1 x2 x3
  obtain ⟨k2, b1, b2⟩ := cs_ends hC (IV_c hI) (IV_m hI) x1 x2 x3
  obtain ⟨m1, m2, m3⟩ := (show MO s (s_ends s x1 x2 x3).2 from MO0)
  exact ⟨_, k2, t2, _, y, b1, a1, b2, a2, (show IV s from hI), ⟨m1, m2, m3⟩, ⟨by omega, by omega⟩⟩
theorem p_part (x1 x2 x3 x4 x5 : Int32) : PS0 (fn_X11_part x1 x2 x3 x4 x5) (fn_X12_part x1 x2 x3 x4 x5) := by
  intro k t s y hC hA hI v0
  obtain ⟨t2, a1, a2⟩ := rs_part hA (IV_c hI) (IV_p hI) (IV_v hI) (IV_m hI) x1 x2 x3 x4 x5
  obtain ⟨k2, b1, b2⟩ := cs_part hC (IV_c hI) (IV_m hI) x1 x2 x3 x4 x5
  obtain ⟨m1, m2, m3⟩ := (show MO s (s_part s x1 x2 x3 x4 x5).2 from MO0)
  exact ⟨_, k2, t2, _, y, b1, a1, b2, a2, (show IV s from hI), ⟨m1, m2, m3⟩, ⟨by omega, by omega⟩⟩
theorem m_right (x1 x2 x3 x4 x5 : Int32) : MO s (s_right s x1 x2 x3 x4 x5).2 := by
  unfold s_right s_br
  repeat' first | exact ⟨Nat.le_add_right _ _, Nat.le_refl _, Nat.le_refl _⟩ | exact ⟨Nat.le_refl _, Nat.le_refl _, Nat.le_refl _⟩ | (refine fg_if_P (P := fun r : Int32 × sA => MO s r.2) (fun _ => ?_) (fun _ => ?_))
theorem p_right (x1 x2 x3 x4 x5 : Int32) : PS1 (fn_X11_right x1 x2 x3 x4 x5) (fn_X12_right x1 x2 x3 x4 x5) := by
  intro k t s y hC hA hI v0
  obtain ⟨t2, a1, a2⟩ := rs_right hA (IV_c hI) (IV_s hI) x1 x2 x3 x4 x5
  obtain ⟨k2, c, d, y2, b1, b2, b3, b4⟩ := cs_right hC (IV_c hI) (IV_g hI) (IV_s hI) x1 x2 x3 x4 x5
  obtain ⟨m1, m2, m3⟩ := (m_right x1 x2 x3 x4 x5)
  exact ⟨_, k2, c, d, t2, _, y2, b1, a1, b2, a2, (i_right hI v0 x1 x2 x3 x4 x5), ⟨m1, m2, m3⟩, ⟨by omega, by omega⟩⟩
theorem m_lend (x1 x2 x3 : Int32) : MO s (s_lend s x1 x2 x3).2 := by
  unfold s_lend
  repeat' first | exact ⟨Nat.le_add_right _ _, Nat.le_refl _, Nat.le_refl _⟩ | exact ⟨Nat.le_refl _, Nat.le_refl _, Nat.le_refl _⟩ | (refine fg_if_P (P := fun r : Int32 × sA => MO s r.2) (fun _ => ?_) (fun _ => ?_))
theorem p_lend (x1 x2 x3 : Int32) : PS1 (fn_X11_lend x1 x2 x3) (fn_X12_lend x1 x2 x3) := by
  intro k t s y hC hA hI v0
  obtain ⟨t2, a1, a2⟩ := rs_lend hA (IV_c hI) (IV_r hI) x1 x2 x3
  obtain ⟨k2, c, d, y2, b1, b2, b3, b4⟩ := cs_lend hC (IV_c hI) (IV_g hI) (IV_r2 hI) (IV_u hI) x1 x2 x3
  obtain ⟨m1, m2, m3⟩ := (m_lend x1 x2 x3)
  exact ⟨_, k2, c, d, t2, _, y2, b1, a1, b2, a2, (i_lend hI v0 x1 x2 x3), ⟨m1, m2, m3⟩, ⟨by omega, by omega⟩⟩
theorem m_take (x1 : Int32) : MO s (s_take s x1).2 := by
  unfold s_take
  repeat' first | exact ⟨Nat.le_add_right _ _, Nat.le_refl _, Nat.le_refl _⟩ | exact ⟨Nat.le_refl _, Nat.le_refl _, Nat.le_refl _⟩ | (refine fg_if_P (P := fun r : Int32 × sA => MO s r.2) (fun _ => ?_) (fun _ => ?_))
theorem p_take (x1 : Int32) : PS0 (fn_X11_take x1) (fn_X12_take x1) := by
  intro k t s y hC hA hI v0
  obtain ⟨t2, a1, a2⟩ := rs_take hA (IV_c hI) (IV_k hI) x1
  obtain ⟨k2, b1, b2⟩ := cs_take hC (IV_c hI) (IV_g hI) (IV_mn hI) x1
  obtain ⟨m1, m2, m3⟩ := (m_take x1)
  exact ⟨_, k2, t2, _, y, b1, a1, b2, a2, (i_take hI v0 x1), ⟨m1, m2, m3⟩, ⟨by omega, by omega⟩⟩
theorem p_ofRight (x1 x2 : Int32) : PS0 (fn_X11_ofRight x1 x2) (fn_X12_ofRight x1 x2) := by
  intro k t s y hC hA hI v0
  obtain ⟨t2, a1, a2⟩ := rs_ofRight hA (IV_c hI) x1 x2
  obtain ⟨k2, b1, b2⟩ := cs_ofRight hC (IV_c hI) (IV_mn hI) x1 x2
  obtain ⟨m1, m2, m3⟩ := (show MO s (s_ofRight s x1 x2).2 from MO0)
  exact ⟨_, k2, t2, _, y, b1, a1, b2, a2, (show IV s from hI), ⟨m1, m2, m3⟩, ⟨by omega, by omega⟩⟩
theorem p_may (x1 x2 x3 x4 : Int32) : PS0 (fn_X11_may x1 x2 x3 x4) (fn_X12_may x1 x2 x3 x4) := by
  intro k t s y hC hA hI v0
  obtain ⟨t2, a1, a2⟩ := rs_may hA (IV_c hI) (IV_r hI) x1 x2 x3 x4
  obtain ⟨k2, b1, b2⟩ := cs_may hC (IV_c hI) (IV_r2 hI) x1 x2 x3 x4
  obtain ⟨m1, m2, m3⟩ := (show MO s (s_may s x1 x2 x3 x4).2 from MO0)
  exact ⟨_, k2, t2, _, y, b1, a1, b2, a2, (show IV s from hI), ⟨m1, m2, m3⟩, ⟨by omega, by omega⟩⟩
theorem p_why (x1 x2 x3 x4 : Int32) : PS0 (fn_X11_why x1 x2 x3 x4) (fn_X12_why x1 x2 x3 x4) := by
  intro k t s y hC hA hI v0
  have a1 := rs_why hA (IV_c hI) (IV_r hI) x1 x2 x3 x4
  obtain ⟨k2, b1, b2⟩ := cs_why hC (IV_c hI) (IV_r2 hI) x1 x2 x3 x4
  obtain ⟨m1, m2, m3⟩ := (show MO s (s_why s x1 x2 x3 x4).2 from MO0)
  exact ⟨_, k2, t, _, y, b1, a1, b2, hA, (show IV s from hI), ⟨m1, m2, m3⟩, ⟨by omega, by omega⟩⟩
theorem p_view (x1 x2 x3 x4 : Int32) : PS0 (fn_X11_view x1 x2 x3 x4) (fn_X12_view x1 x2 x3 x4) := by
  intro k t s y hC hA hI v0
  obtain ⟨t2, a1, a2⟩ := rs_view hA (IV_c hI) (IV_p hI) (IV_r hI) (IV_v hI) (IV_d hI) (IV_x hI) x1 x2 x3 x4
  obtain ⟨k2, b1, b2⟩ := cs_view hC (IV_c hI) (IV_r2 hI) (IV_v hI) (IV_d hI) (IV_x hI) x1 x2 x3 x4
  obtain ⟨m1, m2, m3⟩ := (show MO s (s_view s x1 x2 x3 x4).2 from MO0)
  exact ⟨_, k2, t2, _, y, b1, a1, b2, a2, (show IV s from hI), ⟨m1, m2, m3⟩, ⟨by omega, by omega⟩⟩
theorem m_rule (x1 x2 : Int32) : MO s (s_rule s x1 x2).2 := by
  unfold s_rule
  repeat' first | exact ⟨Nat.le_add_right _ _, Nat.le_refl _, Nat.le_refl _⟩ | exact ⟨Nat.le_refl _, Nat.le_refl _, Nat.le_refl _⟩ | (refine fg_if_P (P := fun r : Int32 × sA => MO s r.2) (fun _ => ?_) (fun _ => ?_))
theorem p_rule (x1 x2 : Int32) : PS0 (fn_X11_rule x1 x2) (fn_X12_rule x1 x2) := by
  intro k t s y hC hA hI v0
  obtain ⟨t2, a1, a2⟩ := rs_rule hA (IV_c hI) x1 x2
  obtain ⟨k2, b1, b2⟩ := cs_rule hC (IV_c hI) (IV_g hI) x1 x2
  obtain ⟨m1, m2, m3⟩ := (m_rule x1 x2)
  exact ⟨_, k2, t2, _, y, b1, a1, b2, a2, (i_rule hI v0 x1 x2), ⟨m1, m2, m3⟩, ⟨by omega, by omega⟩⟩
theorem p_read (x1 x2 : Int32) : PS0 (fn_X11_read x1 x2) (fn_X12_read x1 x2) := by
  intro k t s y hC hA hI v0
  obtain ⟨t2, a1, a2⟩ := rs_read hA (IV_c hI) (IV_p hI) (IV_r hI) (IV_v hI) (IV_d hI) (IV_x hI) (IV_n hI) (IV_o hI) x1 x2
  obtain ⟨k2, b1, b2⟩ := cs_read hC (IV_c hI) (IV_g hI) (IV_r2 hI) (IV_v hI) (IV_d hI) (IV_x hI) (IV_n hI) (IV_o hI) x1 x2
  obtain ⟨m1, m2, m3⟩ := (m_read x1 x2)
  exact ⟨_, k2, t2, _, y, b1, a1, b2, a2, (i_read hI v0 x1 x2), ⟨m1, m2, m3⟩, ⟨by omega, by omega⟩⟩
theorem m_owes (x1 x2 : Int32) : MO s (s_owes s x1 x2).2 := by
  unfold s_owes
  repeat' first | exact ⟨Nat.le_add_right _ _, Nat.le_refl _, Nat.le_refl _⟩ | exact ⟨Nat.le_refl _, Nat.le_refl _, Nat.le_refl _⟩ | (refine fg_if_P (P := fun r : Int32 × sA => MO s r.2) (fun _ => ?_) (fun _ => ?_))
theorem p_owes (x1 x2 : Int32) : PS0 (fn_X11_owes x1 x2) (fn_X12_owes x1 x2) := by
  intro k t s y hC hA hI v0
  obtain ⟨t2, a1, a2⟩ := rs_owes hA (IV_c hI) x1 x2
  obtain ⟨k2, b1, b2⟩ := cs_owes hC (IV_c hI) x1 x2
  obtain ⟨m1, m2, m3⟩ := (m_owes x1 x2)
  exact ⟨_, k2, t2, _, y, b1, a1, b2, a2, (i_owes hI x1 x2), ⟨m1, m2, m3⟩, ⟨by omega, by omega⟩⟩
theorem m_pay (x1 x2 x3 : Int32) : MO s (s_pay s x1 x2 x3).2 := by
  unfold s_pay
  repeat' first | exact ⟨Nat.le_add_right _ _, Nat.le_refl _, Nat.le_refl _⟩ | exact ⟨Nat.le_refl _, Nat.le_refl _, Nat.le_refl _⟩ | (refine fg_if_P (P := fun r : Int32 × sA => MO s r.2) (fun _ => ?_) (fun _ => ?_))
theorem p_pay (x1 x2 x3 : Int32) : PS0 (fn_X11_pay x1 x2 x3) (fn_X12_pay x1 x2 x3) := by
  intro k t s y hC hA hI v0
  obtain ⟨t2, a1, a2⟩ := rs_pay hA (IV_c hI) x1 x2 x3
  obtain ⟨k2, b1, b2⟩ := cs_pay hC (IV_c hI) (IV_g hI) x1 x2 x3
  obtain ⟨m1, m2, m3⟩ := (m_pay x1 x2 x3)
  exact ⟨_, k2, t2, _, y, b1, a1, b2, a2, (i_pay hI v0 x1 x2 x3), ⟨m1, m2, m3⟩, ⟨by omega, by omega⟩⟩
theorem p_steps (x1 x2 : Int32) : PS1 (fn_X11_steps x1 x2) (fn_X12_steps x1 x2) := by
  intro k t s y hC hA hI v0
  obtain ⟨t2, a1, a2⟩ := rs_steps hA (IV_c hI) (IV_p hI) (IV_v hI) (IV_x hI) x1 x2
  obtain ⟨k2, c, d, y2, b1, b2, b3, b4⟩ := cs_steps hC (IV_c hI) (IV_p hI) (IV_q hI) (IV_x hI) (IV_v hI) x1 x2
  obtain ⟨m1, m2, m3⟩ := (show MO s (s_steps s x1 x2).2 from MO0)
  exact ⟨_, k2, c, d, t2, _, y2, b1, a1, b2, a2, (show IV s from hI), ⟨m1, m2, m3⟩, ⟨by omega, by omega⟩⟩
theorem p_chain (x1 x2 x3 : Int32) : PS1 (fn_X11_chain x1 x2 x3) (fn_X12_chain x1 x2 x3) := by
  intro k t s y hC hA hI v0
  obtain ⟨t2, a1, a2⟩ := rs_chain hA (IV_c hI) (IV_p hI) (IV_v hI) (IV_x hI) x1 x2 x3
  obtain ⟨k2, c, d, y2, b1, b2, b3, b4⟩ := cs_chain hC (IV_c hI) (IV_p hI) (IV_q hI) (IV_x hI) (IV_v hI) x1 x2 x3
  obtain ⟨m1, m2, m3⟩ := (show MO s (s_chain s x1 x2 x3).2 from MO0)
  exact ⟨_, k2, c, d, t2, _, y2, b1, a1, b2, a2, (show IV s from hI), ⟨m1, m2, m3⟩, ⟨by omega, by omega⟩⟩
theorem p_quotes (x1 x2 : Int32) : PS0 (fn_X11_quotes x1 x2) (fn_X12_quotes x1 x2) := by
  intro k t s y hC hA hI v0
  obtain ⟨t2, a1, a2⟩ := rs_quotes hA (IV_c hI) (IV_d hI) (IV_x hI) x1 x2
  obtain ⟨k2, b1, b2⟩ := cs_quotes hC (IV_c hI) (IV_t hI) (IV_p hI) (IV_x hI) (IV_d hI) x1 x2
  obtain ⟨m1, m2, m3⟩ := (show MO s (s_quotes s x1 x2).2 from MO0)
  exact ⟨_, k2, t2, _, y, b1, a1, b2, a2, (show IV s from hI), ⟨m1, m2, m3⟩, ⟨by omega, by omega⟩⟩
theorem m_seek (x1 x2 x3 x4 x5 : Int32) : MO s (s_seek s x1 x2 x3 x4 x5).2 := by
  unfold s_seek s_br
  repeat' first | exact ⟨Nat.le_add_right _ _, Nat.le_refl _, Nat.le_refl _⟩ | exact ⟨Nat.le_refl _, Nat.le_refl _, Nat.le_refl _⟩ | (refine fg_if_P (P := fun r : Int32 × sA => MO s r.2) (fun _ => ?_) (fun _ => ?_))
theorem p_seek (x1 x2 x3 x4 x5 : Int32) : PS1 (fn_X11_seek x1 x2 x3 x4 x5) (fn_X12_seek x1 x2 x3 x4 x5) := by
  intro k t s y hC hA hI v0
  obtain ⟨t2, a1, a2⟩ := rs_seek hA (IV_c hI) (IV_p hI) (IV_v hI) (IV_r hI) (IV_d hI) (IV_x hI) (IV_m hI) (IV_s hI) x1 x2 x3 x4 x5
  obtain ⟨k2, c, d, y2, b1, b2, b3, b4⟩ := cs_seek hC (IV_c hI) (IV_r2 hI) (IV_v hI) (IV_d hI) (IV_x hI) (IV_m hI) (IV_s hI) x1 x2 x3 x4 x5
  obtain ⟨m1, m2, m3⟩ := (m_seek x1 x2 x3 x4 x5)
  exact ⟨_, k2, c, d, t2, _, y2, b1, a1, b2, a2, (i_seek hI x1 x2 x3 x4 x5), ⟨m1, m2, m3⟩, ⟨by omega, by omega⟩⟩
theorem p_hit (x1 x2 : Int32) : PS0 (fn_X11_hit x1 x2) (fn_X12_hit x1 x2) := by
  intro k t s y hC hA hI v0
  obtain ⟨t2, a1, a2⟩ := rs_hit hA (IV_c hI) x1 x2
  obtain ⟨k2, b1, b2⟩ := cs_hit hC (IV_c hI) x1 x2
  obtain ⟨m1, m2, m3⟩ := (show MO s (s_hit s x1 x2).2 from MO0)
  exact ⟨_, k2, t2, _, y, b1, a1, b2, a2, (show IV s from hI), ⟨m1, m2, m3⟩, ⟨by omega, by omega⟩⟩
theorem p_seal (x1 : Int32) : PS0 (fn_X11_seal x1) (fn_X12_seal x1) := by
  intro k t s y hC hA hI v0
  obtain ⟨t2, a1, a2⟩ := rs_seal hA (IV_c hI) x1
  obtain ⟨k2, b1, b2⟩ := cs_seal hC (IV_c hI) x1
  obtain ⟨m1, m2, m3⟩ := (show MO s (s_seal s x1).2 from MO0)
  exact ⟨_, k2, t2, _, y, b1, a1, b2, a2, (show IV s from hI), ⟨m1, m2, m3⟩, ⟨by omega, by omega⟩⟩
theorem p_side (x1 x2 x3 : Int32) : PS0 (fn_X11_side x1 x2 x3) (fn_X12_side x1 x2 x3) := by
  intro k t s y hC hA hI v0
  obtain ⟨t2, a1, a2⟩ := rs_side hA (IV_c hI) x1 x2 x3
  obtain ⟨k2, b1, b2⟩ := cs_side hC (IV_c hI) x1 x2 x3
  obtain ⟨m1, m2, m3⟩ := (show MO s (s_side s x1 x2 x3).2 from MO0)
  exact ⟨_, k2, t2, _, y, b1, a1, b2, a2, (show IV s from hI), ⟨m1, m2, m3⟩, ⟨by omega, by omega⟩⟩
theorem m_prove (x1 x2 x3 x4 x5 x6 x7 x8 : Int32) : MO s (s_prove s x1 x2 x3 x4 x5 x6 x7 x8).2 := by
  unfold s_prove s_br
  repeat' first | exact ⟨Nat.le_add_right _ _, Nat.le_refl _, Nat.le_refl _⟩ | exact ⟨Nat.le_refl _, Nat.le_refl _, Nat.le_refl _⟩ | (refine fg_if_P (P := fun r : Int32 × sA => MO s r.2) (fun _ => ?_) (fun _ => ?_))
theorem p_prove (x1 x2 x3 x4 x5 x6 x7 x8 : Int32) : PS0 (fn_X11_prove x1 x2 x3 x4 x5 x6 x7 x8) (fn_X12_prove x1 x2 x3 x4 x5 x6 x7 x8) := by
  intro k t s y hC hA hI v0
  obtain ⟨t2, a1, a2⟩ := rs_prove hA (IV_c hI) (IV_s hI) x1 x2 x3 x4 x5 x6 x7 x8
  obtain ⟨k2, b1, b2⟩ := cs_prove hC (IV_c hI) (IV_s hI) x1 x2 x3 x4 x5 x6 x7 x8
  obtain ⟨m1, m2, m3⟩ := (m_prove x1 x2 x3 x4 x5 x6 x7 x8)
  exact ⟨_, k2, t2, _, y, b1, a1, b2, a2, (i_prove hI x1 x2 x3 x4 x5 x6 x7 x8), ⟨m1, m2, m3⟩, ⟨by omega, by omega⟩⟩
theorem p_stamp (x1 : Int32) : PS0 (fn_X11_stamp x1) (fn_X12_stamp x1) := by
  intro k t s y hC hA hI v0
  obtain ⟨t2, a1, a2⟩ := rs_stamp hA (IV_c hI) x1
  obtain ⟨k2, b1, b2⟩ := cs_stamp hC (IV_c hI) x1
  obtain ⟨m1, m2, m3⟩ := (show MO s (s_stamp s x1).2 from MO0)
  exact ⟨_, k2, t2, _, y, b1, a1, b2, a2, (show IV s from hI), ⟨m1, m2, m3⟩, ⟨by omega, by omega⟩⟩
theorem m_sheet (x1 x2 x3 : Int32) : MO s (s_sheet s x1 x2 x3).2 := by
  unfold s_sheet
  repeat' first | exact ⟨Nat.le_add_right _ _, Nat.le_refl _, Nat.le_refl _⟩ | exact ⟨Nat.le_refl _, Nat.le_refl _, Nat.le_refl _⟩ | (refine fg_if_P (P := fun r : Int32 × sA => MO s r.2) (fun _ => ?_) (fun _ => ?_))
theorem p_sheet (x1 x2 x3 : Int32) : PS0 (fn_X11_sheet x1 x2 x3) (fn_X12_sheet x1 x2 x3) := by
  intro k t s y hC hA hI v0
  obtain ⟨t2, a1, a2⟩ := rs_sheet hA x1 x2 x3
  obtain ⟨k2, b1, b2⟩ := cs_sheet hC (IV_s hI) x1 x2 x3
  obtain ⟨m1, m2, m3⟩ := (m_sheet x1 x2 x3)
  exact ⟨_, k2, t2, _, y, b1, a1, b2, a2, (i_sheet hI x1 x2 x3), ⟨m1, m2, m3⟩, ⟨by omega, by omega⟩⟩
theorem m_lose (x1 : Int32) : MO s (s_lose s x1).2 := by
  unfold s_lose
  repeat' first | exact ⟨Nat.le_add_right _ _, Nat.le_refl _, Nat.le_refl _⟩ | exact ⟨Nat.le_refl _, Nat.le_refl _, Nat.le_refl _⟩ | (refine fg_if_P (P := fun r : Int32 × sA => MO s r.2) (fun _ => ?_) (fun _ => ?_))
theorem p_lose (x1 : Int32) : PS0 (fn_X11_lose x1) (fn_X12_lose x1) := by
  intro k t s y hC hA hI v0
  obtain ⟨t2, a1, a2⟩ := rs_lose hA x1
  obtain ⟨k2, b1, b2⟩ := cs_lose hC (IV_s hI) x1
  obtain ⟨m1, m2, m3⟩ := (m_lose x1)
  exact ⟨_, k2, t2, _, y, b1, a1, b2, a2, (i_lose hI x1), ⟨m1, m2, m3⟩, ⟨by omega, by omega⟩⟩
theorem m_set (x1 x2 x3 : Int32) : MO s (s_set s x1 x2 x3).2 := by
  unfold s_set
  repeat' first | exact ⟨Nat.le_add_right _ _, Nat.le_refl _, Nat.le_refl _⟩ | exact ⟨Nat.le_refl _, Nat.le_refl _, Nat.le_refl _⟩ | (refine fg_if_P (P := fun r : Int32 × sA => MO s r.2) (fun _ => ?_) (fun _ => ?_))
theorem p_set (x1 x2 x3 : Int32) : PS0 (fn_X11_set x1 x2 x3) (fn_X12_set x1 x2 x3) := by
  intro k t s y hC hA hI v0
  obtain ⟨t2, a1, a2⟩ := rs_set hA (IV_s hI) x1 x2 x3
  obtain ⟨k2, b1, b2⟩ := cs_set hC (IV_s hI) x1 x2 x3
  obtain ⟨m1, m2, m3⟩ := (m_set x1 x2 x3)
  exact ⟨_, k2, t2, _, y, b1, a1, b2, a2, (i_set hI x1 x2 x3), ⟨m1, m2, m3⟩, ⟨by omega, by omega⟩⟩
theorem m_cell (x1 x2 x3 : Int32) : MO s (s_cell s x1 x2 x3).2 := by
  unfold s_cell
  repeat' first | exact ⟨Nat.le_add_right _ _, Nat.le_refl _, Nat.le_refl _⟩ | exact ⟨Nat.le_refl _, Nat.le_refl _, Nat.le_refl _⟩ | (refine fg_if_P (P := fun r : Int64 × sA => MO s r.2) (fun _ => ?_) (fun _ => ?_))
theorem p_cell (x1 x2 x3 : Int32) : PS0 (fn_X11_cell x1 x2 x3) (fn_X12_cell x1 x2 x3) := by
  intro k t s y hC hA hI v0
  obtain ⟨t2, a1, a2⟩ := rs_cell hA (IV_s hI) x1 x2 x3
  obtain ⟨k2, b1, b2⟩ := cs_cell hC (IV_s hI) x1 x2 x3
  obtain ⟨m1, m2, m3⟩ := (m_cell x1 x2 x3)
  exact ⟨_, k2, t2, _, y, b1, a1, b2, a2, (i_cell hI x1 x2 x3), ⟨m1, m2, m3⟩, ⟨by omega, by omega⟩⟩
theorem m_copy (x1 x2 x3 x4 x5 : Int32) : MO s (s_copy s x1 x2 x3 x4 x5).2 := by
  unfold s_copy
  repeat' first | exact ⟨Nat.le_add_right _ _, Nat.le_refl _, Nat.le_refl _⟩ | exact ⟨Nat.le_refl _, Nat.le_refl _, Nat.le_refl _⟩ | (refine fg_if_P (P := fun r : Int32 × sA => MO s r.2) (fun _ => ?_) (fun _ => ?_))
theorem p_copy (x1 x2 x3 x4 x5 : Int32) : PS0 (fn_X11_copy x1 x2 x3 x4 x5) (fn_X12_copy x1 x2 x3 x4 x5) := by
  intro k t s y hC hA hI v0
  obtain ⟨t2, a1, a2⟩ := rs_copy hA (IV_s hI) x1 x2 x3 x4 x5
  obtain ⟨k2, b1, b2⟩ := cs_copy hC (IV_s hI) x1 x2 x3 x4 x5
  obtain ⟨m1, m2, m3⟩ := (m_copy x1 x2 x3 x4 x5)
  exact ⟨_, k2, t2, _, y, b1, a1, b2, a2, (i_copy hI x1 x2 x3 x4 x5), ⟨m1, m2, m3⟩, ⟨by omega, by omega⟩⟩
theorem m_tell (x1 : Int32) : MO s (s_tell s x1).2 := by
  unfold s_tell
  repeat' first | exact ⟨Nat.le_add_right _ _, Nat.le_refl _, Nat.le_refl _⟩ | exact ⟨Nat.le_refl _, Nat.le_refl _, Nat.le_refl _⟩ | (refine fg_if_P (P := fun r : Int32 × sA => MO s r.2) (fun _ => ?_) (fun _ => ?_))
theorem p_tell (x1 : Int32) : PS0 (fn_X11_tell x1) (fn_X12_tell x1) := by
  intro k t s y hC hA hI v0
  obtain ⟨t2, a1, a2⟩ := rs_tell hA (IV_c hI) (IV_l hI) x1
  obtain ⟨k2, b1, b2⟩ := cs_tell hC (IV_c hI) (IV_l hI) x1
  obtain ⟨m1, m2, m3⟩ := (m_tell x1)
  exact ⟨_, k2, t2, _, y, b1, a1, b2, a2, (i_tell hI x1), ⟨m1, m2, m3⟩, ⟨by omega, by omega⟩⟩
theorem m_name (x1 : Int32) : MO s (s_name s x1).2 := by
  unfold s_name
  repeat' first | exact ⟨Nat.le_add_right _ _, Nat.le_refl _, Nat.le_refl _⟩ | exact ⟨Nat.le_refl _, Nat.le_refl _, Nat.le_refl _⟩ | (refine fg_if_P (P := fun r : Int32 × sA => MO s r.2) (fun _ => ?_) (fun _ => ?_))
theorem p_name (x1 : Int32) : PS0 (fn_X11_name x1) (fn_X12_name x1) := by
  intro k t s y hC hA hI v0
  obtain ⟨t2, a1, a2⟩ := rs_name hA (IV_c hI) x1
  obtain ⟨k2, b1, b2⟩ := cs_name hC (IV_c hI) x1
  obtain ⟨m1, m2, m3⟩ := (m_name x1)
  exact ⟨_, k2, t2, _, y, b1, a1, b2, a2, (i_name hI x1), ⟨m1, m2, m3⟩, ⟨by omega, by omega⟩⟩
theorem m_as (x1 x2 : Int32) : MO s (s_as s x1 x2).2 := by
  unfold s_as
  repeat' first | exact ⟨Nat.le_add_right _ _, Nat.le_refl _, Nat.le_refl _⟩ | exact ⟨Nat.le_refl _, Nat.le_refl _, Nat.le_refl _⟩ | (refine fg_if_P (P := fun r : Int32 × sA => MO s r.2) (fun _ => ?_) (fun _ => ?_))
theorem p_as (x1 x2 : Int32) : PS0 (fn_X11_as x1 x2) (fn_X12_as x1 x2) := by
  intro k t s y hC hA hI v0
  obtain ⟨t2, a1, a2⟩ := rs_as hA (IV_c hI) x1 x2
  obtain ⟨k2, b1, b2⟩ := cs_as hC (IV_c hI) (IV_l hI) x1 x2
  obtain ⟨m1, m2, m3⟩ := (m_as x1 x2)
  exact ⟨_, k2, t2, _, y, b1, a1, b2, a2, (i_as hI x1 x2), ⟨m1, m2, m3⟩, ⟨by omega, by omega⟩⟩
theorem p_trace : PS0 (fn_X11_trace) (fn_X12_trace) := by
  intro k t s y hC hA hI v0
  obtain ⟨t2, a1, a2⟩ := rs_trace hA
  obtain ⟨k2, b1, b2⟩ := cs_trace hC
  obtain ⟨m1, m2, m3⟩ := (show MO s (s_trace s).2 from MO0)
  exact ⟨_, k2, t2, _, y, b1, a1, b2, a2, (show IV s from hI), ⟨m1, m2, m3⟩, ⟨by omega, by omega⟩⟩
theorem p_fault : PS0 (fn_X11_fault) (fn_X12_fault) := by
  intro k t s y hC hA hI v0
  obtain ⟨t2, a1, a2⟩ := rs_fault hA
  obtain ⟨k2, b1, b2⟩ := cs_fault hC
  obtain ⟨m1, m2, m3⟩ := (show MO s (s_fault s).2 from MO0)
  exact ⟨_, k2, t2, _, y, b1, a1, b2, a2, (show IV s from hI), ⟨m1, m2, m3⟩, ⟨by omega, by omega⟩⟩
theorem p_many (x1 : Int32) : PS0 (fn_X11_many x1) (fn_X12_many x1) := by
  intro k t s y hC hA hI v0
  obtain ⟨t2, a1, a2⟩ := rs_many hA (IV_c hI) x1
  obtain ⟨k2, b1, b2⟩ := cs_many hC x1
  obtain ⟨m1, m2, m3⟩ := (show MO s (s_many s x1).2 from MO0)
  exact ⟨_, k2, t2, _, y, b1, a1, b2, a2, (show IV s from hI), ⟨m1, m2, m3⟩, ⟨by omega, by omega⟩⟩
end PST
