/-! ints as numbers -/
theorem q_sub1 (y : Int32) : (y.toInt64 - 1).toInt = y.toInt - 1 := by
  have h1 := y.le_toInt
  have h2 := y.toInt_lt
  rw [Int64.toInt_sub, Int32.toInt_toInt64]
  show (y.toInt - 1).bmod (2 ^ 64) = _
  rw [Int.bmod_eq_of_le] <;> omega
/-- a number among 0 .. n - 1 -/
abbrev q_in (x : Int32) (n : Int) : Prop := 0 ≤ x.toInt ∧ x.toInt < n
theorem q_in0 (x y : Int32) : ((0 : Int64) ≤ x.toInt64 ∧ x.toInt64 ≤ y.toInt64 - 1) ↔ q_in x y.toInt := by
  rw [Int64.le_iff_toInt_le, Int64.le_iff_toInt_le, q_sub1, Int32.toInt_toInt64]
  show (0 : Int) ≤ _ ∧ _ ↔ _
  unfold q_in
  omega
theorem q_in1 (x y : Int32) : ((0 : Int64) ≤ x.toInt64 ∧ x.toInt64 ≤ y.toInt64) ↔ q_in x (y.toInt + 1) := by
  rw [Int64.le_iff_toInt_le, Int64.le_iff_toInt_le, Int32.toInt_toInt64, Int32.toInt_toInt64]
  show (0 : Int) ≤ _ ∧ _ ↔ _
  unfold q_in
  omega
theorem q_inC (x : Int32) (c : Int64) : ((0 : Int64) ≤ x.toInt64 ∧ x.toInt64 ≤ c) ↔ q_in x (c.toInt + 1) := by
  rw [Int64.le_iff_toInt_le, Int64.le_iff_toInt_le, Int32.toInt_toInt64]
  show (0 : Int) ≤ _ ∧ _ ↔ _
  unfold q_in
  omega
theorem q_vin (i : Int32) (n : Nat) : vp_in i n ↔ q_in i n := by
  unfold vp_in q_in
  rw [← Int32.toNat_toInt, Int32.lt_iff_toInt_lt]
  show ¬ (i.toInt < 0 ∨ _) ↔ _
  omega
noncomputable def q_b (p : Prop) : Int32 := @ite Int32 p (Classical.propDecidable p) 1 0
theorem q_b1 {p : Prop} (h : p) : q_b p = 1 := by unfold q_b; rw [if_pos h]
theorem q_b0 {p : Prop} (h : ¬ p) : q_b p = 0 := by unfold q_b; rw [if_neg h]
theorem q_bc {p q : Prop} (h : p ↔ q) : q_b p = q_b q := by rw [propext h]
theorem q_bt (p : Prop) : h_bt (q_b p) := by
  by_cases h : p
  · rw [q_b1 h]; exact Or.inr rfl
  · rw [q_b0 h]; exact Or.inl rfl
theorem q_b_eq0 (p : Prop) : q_b p = 0 ↔ ¬ p := by
  by_cases h : p
  · rw [q_b1 h]; simp [h]
  · rw [q_b0 h]; simp [h]
theorem r_inb (v l h : Int64) (s : h_S) (Q : Int32 → h_S → Prop) : w_X12_in v l h s Q ↔ Q (q_b (l ≤ v ∧ v ≤ h)) s := by
  rw [r_in]
  by_cases hc : l ≤ v ∧ v ≤ h
  · rw [if_pos hc, q_b1 hc]
  · rw [if_neg hc, q_b0 hc]
/-! the reference: answers of yes and no -/
section R2
variable {o : Nat} {ra : Nat → Nat} {s : h_S} {τ : r_T} {Q : Int32 → h_S → Prop}
theorem r_noHand (hok : r_ok o ra s) (h : Int32) : w_X12_noHand o h (r_emb s o ra τ) Q ↔ Q (q_b (¬ q_in h (τ.1 3).toInt)) (r_emb s o ra τ) := by
  unfold w_X12_noHand w_X12_noHand_21
  rw [e_k, r_inb, e_io, q_bc (q_in0 _ _)]
  by_cases hc : q_in h (τ.1 3).toInt
  · rw [q_b1 hc, q_b0 (fun h => h hc)]
    simp [hok.1, h_bt]
  · rw [q_b0 hc, q_b1 hc]
    simp [hok.1, h_bt]
theorem r_noMoment (hok : r_ok o ra s) (h : Int32) : w_X12_noMoment o h (r_emb s o ra τ) Q ↔ Q (q_b (¬ q_in h ((τ.1 1).toInt + 1))) (r_emb s o ra τ) := by
  unfold w_X12_noMoment w_X12_noMoment_19
  rw [e_k, r_inb, e_io, q_bc (q_in1 _ _)]
  by_cases hc : q_in h ((τ.1 1).toInt + 1)
  · rw [q_b1 hc, q_b0 (fun h => h hc)]
    simp [hok.1, h_bt]
  · rw [q_b0 hc, q_b1 hc]
    simp [hok.1, h_bt]
theorem r_noWriting (hok : r_ok o ra s) (h : Int32) : w_X12_noWriting o h (r_emb s o ra τ) Q ↔ Q (q_b (¬ q_in h (τ.1 8).toInt)) (r_emb s o ra τ) := by
  unfold w_X12_noWriting w_X12_noWriting_21
  rw [e_k, r_inb, e_io, q_bc (q_in0 _ _)]
  by_cases hc : q_in h (τ.1 8).toInt
  · rw [q_b1 hc, q_b0 (fun h => h hc)]
    simp [hok.1, h_bt]
  · rw [q_b0 hc, q_b1 hc]
    simp [hok.1, h_bt]
theorem r_noWord (hok : r_ok o ra s) (h : Int32) : w_X12_noWord o h (r_emb s o ra τ) Q ↔ Q (q_b (¬ q_in h (τ.1 22).toInt)) (r_emb s o ra τ) := by
  unfold w_X12_noWord w_X12_noWord_21
  rw [e_k, r_inb, e_io, q_bc (q_in0 _ _)]
  by_cases hc : q_in h (τ.1 22).toInt
  · rw [q_b1 hc, q_b0 (fun h => h hc)]
    simp [hok.1, h_bt]
  · rw [q_b0 hc, q_b1 hc]
    simp [hok.1, h_bt]
end R2
