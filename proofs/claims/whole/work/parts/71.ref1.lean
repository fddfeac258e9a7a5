/-! longs and ints -/
theorem q_cmp_lt (x y : Int64) : lg_cmp x y < 0 ↔ x < y := by
  unfold lg_cmp
  by_cases h1 : x > y
  · rw [if_pos h1]
    constructor
    · intro h; exact absurd h (by decide)
    · intro h; exact absurd (Int64.lt_trans h h1) (Int64.lt_irrefl)
  · rw [if_neg h1]
    by_cases h2 : x = y
    · rw [if_pos h2, h2]
      constructor
      · intro h; exact absurd h (by decide)
      · intro h; exact absurd h (Int64.lt_irrefl)
    · rw [if_neg h2]
      constructor
      · intro _
        rcases Int64.lt_or_lt_of_ne h2 with h | h
        · exact h
        · exact absurd h h1
      · intro _; decide
theorem q_cmp_gt (x y : Int64) : 0 < lg_cmp x y ↔ y < x := by
  unfold lg_cmp
  by_cases h1 : x > y
  · rw [if_pos h1]
    constructor
    · intro _; exact h1
    · intro _; decide
  · rw [if_neg h1]
    by_cases h2 : x = y
    · rw [if_pos h2]
      constructor
      · intro h; exact absurd h (by decide)
      · intro h; exact absurd h h1
    · rw [if_neg h2]
      constructor
      · intro h; exact absurd h (by decide)
      · intro h; exact absurd h h1
/-- in(v, l, h) -/
theorem r_in (v l h : Int64) (s : h_S) (Q : Int32 → h_S → Prop) : w_X12_in v l h s Q ↔ Q (if l ≤ v ∧ v ≤ h then 1 else 0) s := by
  unfold w_X12_in w_X12_in_17 w_X12_in_18
  by_cases h1 : lg_cmp v l < 0
  · rw [if_pos h1, if_neg (fun q => absurd ((q_cmp_lt v l).mp h1) (Int64.not_lt.mpr q.1))]
    simp [h_bt]
  · rw [if_neg h1]
    have h1' : l ≤ v := Int64.not_lt.mp (fun q => h1 ((q_cmp_lt v l).mpr q))
    by_cases h2 : 0 < lg_cmp v h
    · rw [if_pos h2, if_neg (fun q => absurd ((q_cmp_gt v h).mp h2) (Int64.not_lt.mpr q.2))]
      simp [h_bt]
    · rw [if_neg h2]
      have h2' : v ≤ h := Int64.not_lt.mp (fun q => h2 ((q_cmp_gt v h).mpr q))
      rw [if_pos ⟨h1', h2'⟩]
      simp [h_bt]
