/-! right: a text is read: stage, digits, group, uses, from, to -/
abbrev sT : Type := Int32 × Int32 × Int32 × Int32 × Int32 × Int32
def s_um (c : Int32) : Int32 := if c = 114 then 1 else if c = 113 then 2 else if c = 108 then 4 else 0
def s_tx (q : sT) (c : Int32) : Option sT :=
  if q.1 = 0 then (if 48 ≤ c ∧ c ≤ 51 then some (1, q.2.1, c - 48, q.2.2.2) else none)
  else if q.1 = 1 then (if c = 58 then some (2, q.2) else none)
  else if q.1 = 2 then (if s_um c ≠ 0 ∧ q.2.2.2.1 &&& s_um c = 0 then some (2, q.2.1, q.2.2.1, q.2.2.2.1 ||| s_um c, q.2.2.2.2) else if c = 64 ∧ q.2.2.2.1 ≠ 0 then some (3, q.2) else none)
  else if q.1 = 3 then (if (48 ≤ c ∧ c ≤ 57) ∧ q.2.1 < 4 then some (3, q.2.1 + 1, q.2.2.1, q.2.2.2.1, 10 * q.2.2.2.2.1 + c - 48, q.2.2.2.2.2) else if c = 45 ∧ 0 < q.2.1 then some (4, 0, q.2.2) else none)
  else (if (48 ≤ c ∧ c ≤ 57) ∧ q.2.1 < 4 then some (4, q.2.1 + 1, q.2.2.1, q.2.2.2.1, q.2.2.2.2.1, 10 * q.2.2.2.2.2 + c - 48) else none)
def s_rd (C : Nat → Int32) : Nat → Nat → sT → Int32 × sT
  | 0, j, q => (if q.1 = 4 ∧ 0 < q.2.1 then -1 else nI j, q)
  | d + 1, j, q => match s_tx q (C j) with
    | none => (nI j, q)
    | some q2 => s_rd C d (j + 1) q2
def s_txt (s : sA) (k i n : Nat) : Int32 × sT := s_rd (fun j => sF s 112 (60 * k + i + j)) n 0 (0, 0, 0, 0, 0, 0)
noncomputable def s_right (s : sA) (w k l i n : Int32) : Int32 × sA := fg_if (q_in w (sC s 2) ∧ q_in k 4) (fg_if (s_bf s (h_ix k) l i n = 0) (fg_if ((s_txt s (h_ix k) (h_ix i) (h_ix n)).1 = -1) (fg_if (sC s 6 = 20) (-4, s_flt s 0) (nI (sC s 6), s_act (s_addR (s_flt s 0) w (s_txt s (h_ix k) (h_ix i) (h_ix n)).2.2.2.1 (s_txt s (h_ix k) (h_ix i) (h_ix n)).2.2.2.2.1 (s_txt s (h_ix k) (h_ix i) (h_ix n)).2.2.2.2.2.1 (s_txt s (h_ix k) (h_ix i) (h_ix n)).2.2.2.2.2.2 (-9)) (nI (sC s 6)))) (-100 - (s_txt s (h_ix k) (h_ix i) (h_ix n)).1, s_flt s 0)) (s_br s (s_bf s (h_ix k) l i n))) (-1, s_flt s 0)
/-- a state of reading as it may be -/
def s_tok (q : sT) : Prop := (∃ a, a ≤ 4 ∧ q.1 = nI a ∧ ∃ b, b ≤ 4 ∧ q.2.1 = nI b ∧ (a < 3 → b = 0) ∧ (1 ≤ a → ∃ g, g < 4 ∧ q.2.2.1 = nI g)) ∧ ∃ u, u < 8 ∧ q.2.2.2.1 = nI u
theorem q_c64 (c a b : Int32) {A B : Int64} (hA : A = a.toInt64) (hB : B = b.toInt64) : (A ≤ c.toInt64 ∧ c.toInt64 ≤ B) ↔ (a ≤ c ∧ c ≤ b) := by
  rw [hA, hB, q_le64, q_le64]
theorem q_dig (c : Int32) {m : Nat} (hm : m ≤ 10) : q_in (c - 48) m ↔ (48 ≤ c ∧ c < nI (48 + m)) := by
  constructor
  · intro h
    obtain ⟨e, l⟩ := n_in h
    have e2 : c = nI (h_ix (c - 48) + 48) := by
      rw [← n_add, ← e]
      exact (Int32.sub_add_cancel _ _).symm
    rw [e2]
    exact ⟨(n_le (a := 48) (by omega) (by omega)).mpr (by omega), (n_lt (by omega) (by omega)).mpr (by omega)⟩
  · rintro ⟨h1, h2⟩
    rw [Int32.le_iff_toInt_le] at h1
    have h3 : (48 : Int32).toInt = 48 := rfl
    have e := n_of (x := c) (by omega)
    have l := n_ixlt c
    rw [e] at h2
    have h4 := (n_lt l (by omega)).mp h2
    have h5 := q_ix (x := c) (by omega)
    have e3 : c - 48 = nI (h_ix c - 48) := by
      conv => lhs; rw [e]
      exact n_sub (b := 48) (by omega)
    rw [e3]
    exact (n_inI (by omega)).mpr (by omega)
theorem u_or : ∀ (u : Fin 8) (m : Fin 3), ∃ v : Fin 8, nI u ||| nI (2 ^ m.val) = nI v := by decide
theorem s_um_c (c : Int32) : (c = 114 ∧ s_um c = 1) ∨ (c = 113 ∧ s_um c = 2) ∨ (c = 108 ∧ s_um c = 4) ∨ (c ≠ 114 ∧ c ≠ 113 ∧ c ≠ 108 ∧ s_um c = 0) := by
  unfold s_um
  by_cases c1 : c = 114
  · exact Or.inl ⟨c1, if_pos c1⟩
  · rw [if_neg c1]
    by_cases c2 : c = 113
    · exact Or.inr (Or.inl ⟨c2, if_pos c2⟩)
    · rw [if_neg c2]
      by_cases c3 : c = 108
      · exact Or.inr (Or.inr (Or.inl ⟨c3, if_pos c3⟩))
      · exact Or.inr (Or.inr (Or.inr ⟨c1, c2, c3, if_neg c3⟩))
theorem s_tx_ok {q q2 : sT} {c : Int32} (h : s_tok q) (e : s_tx q c = some q2) : s_tok q2 := by
  obtain ⟨⟨a, ha, ea, b, hb, eb, hab, hg⟩, u, hu, eu⟩ := h
  obtain ⟨q1, q21, q3, q4, q5, q6⟩ := q
  dsimp only at ea eb eu hg
  subst ea eb eu
  unfold s_tx at e
  dsimp only at e
  rcases (show a = 0 ∨ a = 1 ∨ a = 2 ∨ a = 3 ∨ a = 4 by omega) with rfl | rfl | rfl | rfl | rfl
  · rw [if_pos (by decide)] at e
    by_cases c1 : 48 ≤ c ∧ c ≤ 51
    · rw [if_pos c1] at e
      cases e
      refine ⟨⟨1, by omega, rfl, b, hb, rfl, fun _ => hab (by omega), fun _ => ?_⟩, u, hu, rfl⟩
      have := (q_dig c (m := 4) (by omega)).mpr ⟨c1.1, Int32.lt_of_le_of_lt c1.2 (by decide)⟩
      exact ⟨_, (n_in this).2, (n_in this).1⟩
    · rw [if_neg c1] at e; cases e
  · rw [if_neg (by decide), if_pos (by decide)] at e
    by_cases c1 : c = 58
    · rw [if_pos c1] at e
      cases e
      exact ⟨⟨2, by omega, rfl, b, hb, rfl, fun _ => hab (by omega), fun _ => hg (by omega)⟩, u, hu, rfl⟩
    · rw [if_neg c1] at e; cases e
  · rw [if_neg (by decide), if_neg (by decide), if_pos (by decide)] at e
    by_cases c1 : s_um c ≠ 0 ∧ nI u &&& s_um c = 0
    · rw [if_pos c1] at e
      cases e
      refine ⟨⟨2, by omega, rfl, b, hb, rfl, fun _ => hab (by omega), fun _ => hg (by omega)⟩, ?_⟩
      rcases s_um_c c with ⟨_, w⟩ | ⟨_, w⟩ | ⟨_, w⟩ | ⟨_, _, _, w⟩
      · obtain ⟨v, hv⟩ := u_or ⟨u, hu⟩ 0
        exact ⟨v, v.isLt, by rw [w]; exact hv⟩
      · obtain ⟨v, hv⟩ := u_or ⟨u, hu⟩ 1
        exact ⟨v, v.isLt, by rw [w]; exact hv⟩
      · obtain ⟨v, hv⟩ := u_or ⟨u, hu⟩ 2
        exact ⟨v, v.isLt, by rw [w]; exact hv⟩
      · exact absurd w c1.1
    · rw [if_neg c1] at e
      by_cases c2 : c = 64 ∧ nI u ≠ 0
      · rw [if_pos c2] at e
        cases e
        exact ⟨⟨3, by omega, rfl, b, hb, rfl, fun w => by omega, fun _ => hg (by omega)⟩, u, hu, rfl⟩
      · rw [if_neg c2] at e; cases e
  · rw [if_neg (by decide), if_neg (by decide), if_neg (by decide), if_pos (by decide)] at e
    by_cases c1 : (48 ≤ c ∧ c ≤ 57) ∧ nI b < 4
    · rw [if_pos c1] at e
      cases e
      have := (n_lt (b := 4) (by omega) (by omega)).mp c1.2
      exact ⟨⟨3, by omega, rfl, b + 1, by omega, n_p1 b, fun w => by omega, fun _ => hg (by omega)⟩, u, hu, rfl⟩
    · rw [if_neg c1] at e
      by_cases c2 : c = 45 ∧ 0 < nI b
      · rw [if_pos c2] at e
        cases e
        exact ⟨⟨4, by omega, rfl, 0, by omega, rfl, fun w => by omega, fun _ => hg (by omega)⟩, u, hu, rfl⟩
      · rw [if_neg c2] at e; cases e
  · rw [if_neg (by decide), if_neg (by decide), if_neg (by decide), if_neg (by decide)] at e
    by_cases c1 : (48 ≤ c ∧ c ≤ 57) ∧ nI b < 4
    · rw [if_pos c1] at e
      cases e
      have := (n_lt (b := 4) (by omega) (by omega)).mp c1.2
      exact ⟨⟨4, by omega, rfl, b + 1, by omega, n_p1 b, fun w => by omega, fun _ => hg (by omega)⟩, u, hu, rfl⟩
    · rw [if_neg c1] at e; cases e
theorem s_rd_ok (C : Nat → Int32) : ∀ (d j : Nat) (q : sT), s_tok q → s_tok (s_rd C d j q).2 ∧ ((s_rd C d j q).1 = -1 ∨ ∃ i, i ≤ j + d ∧ (s_rd C d j q).1 = nI i) ∧ (j + d < 2 ^ 31 → (s_rd C d j q).1 = -1 → (s_rd C d j q).2.1 = 4) := by
  intro d
  induction d with
  | zero =>
    intro j q h
    unfold s_rd
    refine ⟨h, ?_, fun hj e => ?_⟩
    · dsimp only
      by_cases c : q.1 = 4 ∧ 0 < q.2.1
      · rw [if_pos c]; exact Or.inl rfl
      · rw [if_neg c]; exact Or.inr ⟨j, by omega, rfl⟩
    · dsimp only at e
      by_cases c : q.1 = 4 ∧ 0 < q.2.1
      · exact c.1
      · rw [if_neg c] at e
        have := congrArg Int32.toInt e
        rw [q_nI (by omega)] at this
        have e1 : (-1 : Int32).toInt = -1 := rfl
        omega
  | succ d ih =>
    intro j q h
    unfold s_rd
    cases e : s_tx q (C j) with
    | none =>
      refine ⟨h, Or.inr ⟨j, by omega, rfl⟩, fun hj w => ?_⟩
      have := congrArg Int32.toInt w
      rw [q_nI (by omega)] at this
      have e1 : (-1 : Int32).toInt = -1 := rfl
      omega
    | some q2 =>
      obtain ⟨h1, h2, h3⟩ := ih (j + 1) q2 (s_tx_ok h e)
      refine ⟨h1, ?_, fun hj w => h3 (by omega) w⟩
      rcases h2 with w | ⟨i, hi, w⟩
      · exact Or.inl w
      · exact Or.inr ⟨i, by omega, w⟩
