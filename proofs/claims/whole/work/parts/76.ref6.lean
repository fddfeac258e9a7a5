section R6
variable {o : Nat} {ra : Nat → Nat} {s : h_S} {τ : r_T} {Q : Int32 → h_S → Prop}
/-- which fault a cell has: none 0, nothing there 1, outside 3 -/
def q_cell (τ : r_T) (k i : Int32) : Int32 := if 0 ≤ τ.2 110 (h_ix k) then (if q_in i (τ.2 110 (h_ix k)).toInt then 0 else 3) else 1
theorem r_noCell (hok : r_ok o ra s) (k i : Int32) (hk4 : q_in k 4) : w_X12_noCell o k i (r_emb s o ra τ) Q ↔ Q (q_cell τ k i) (r_emb s o ra τ) := by
  unfold w_X12_noCell w_X12_noCell_36 q_cell
  have h2 : r_len 110 ≠ 0 := by decide
  have hl : r_len 110 = 4 := rfl
  have hk : r_kd 110 = 1 := rfl
  have i1 : vp_in k 4 := (q_vin _ _).mpr hk4
  simp only [e_k, e_r, e_n, hok.1, true_and, e_rr hok h2, e_kk hok h2, e_nn hok h2, e_ia hok h2, hl, hk, Option.some.injEq, exists_eq_left', i1, r_inb, q_bc (q_in0 _ _), q_b_eq0]
  by_cases c1 : 0 ≤ τ.2 110 (h_ix k)
  · rw [if_pos c1, if_pos c1]
    by_cases c2 : q_in i (τ.2 110 (h_ix k)).toInt
    · rw [if_neg (fun h => h c2), if_pos c2]
    · rw [if_pos c2, if_neg c2]
  · rw [if_neg c1, if_neg c1]
theorem r_lose (hok : r_ok o ra s) (k : Int32) : w_X12_lose o k (r_emb s o ra τ) Q ↔ if q_in k 4 then Q (if 0 ≤ τ.2 110 (h_ix k) then 1 else 0) (r_emb s o ra (rt_A τ 110 (h_ix k) (-1))) else Q (-1) (r_emb s o ra τ) := by
  unfold w_X12_lose w_X12_lose_23
  have h2 : r_len 110 ≠ 0 := by decide
  have hl : r_len 110 = 4 := rfl
  have hk : r_kd 110 = 1 := rfl
  simp only [r_noSheet, q_b_eq0, Classical.not_not]
  by_cases c1 : q_in k 4
  · have i1 : vp_in k 4 := (q_vin _ _).mpr c1
    rw [if_pos c1, if_pos c1]
    simp only [e_k, e_r, e_n, hok.1, true_and, e_rr hok h2, e_kk hok h2, e_nn hok h2, e_ia hok h2, e_sa hok h2, hl, hk, Option.some.injEq, exists_eq_left', i1]
    by_cases c2 : 0 ≤ τ.2 110 (h_ix k)
    · rw [if_pos c2, if_pos c2]
    · rw [if_neg c2, if_neg c2]
  · rw [if_neg c1, if_neg c1]
theorem q_64 (x y : Int32) : (x.toInt64 + y.toInt64).toInt = x.toInt + y.toInt := by
  have h1 := x.le_toInt
  have h2 := x.toInt_lt
  have h3 := y.le_toInt
  have h4 := y.toInt_lt
  rw [Int64.toInt_add, Int32.toInt_toInt64, Int32.toInt_toInt64]
  rw [Int.bmod_eq_of_le] <;> omega
/-- from i on, n cells, of all -/
abbrev q_far (i n a : Int32) : Prop := i.toInt < 0 ∨ n.toInt < 0 ∨ a.toInt < i.toInt + n.toInt
theorem r_isBeyond (i n a : Int32) (s : h_S) : w_X12_isBeyond i n.toInt64 a s Q ↔ Q (q_b (q_far i n a)) s := by
  unfold w_X12_isBeyond w_X12_isBeyond_20 w_X12_isBeyond_25
  have e0 : (i < 0) ↔ i.toInt < 0 := Int32.lt_iff_toInt_lt
  have e1 : (lg_cmp n.toInt64 0 < 0) ↔ n.toInt < 0 := by
    rw [q_cmp_lt, Int64.lt_iff_toInt_lt, Int32.toInt_toInt64]
    exact Iff.rfl
  have e2 : (lg_cmp (i.toInt64 + n.toInt64) a.toInt64 ≤ 0) ↔ ¬ (a.toInt < i.toInt + n.toInt) := by
    rw [← Int32.not_lt, q_cmp_gt, Int64.lt_iff_toInt_lt, q_64, Int32.toInt_toInt64]
  by_cases c0 : i.toInt < 0
  · rw [if_pos (e0.mpr c0), q_b1 (Or.inl c0)]
    simp [h_bt]
  · rw [if_neg (fun h => c0 (e0.mp h))]
    by_cases c1 : n.toInt < 0
    · rw [if_pos (e1.mpr c1), q_b1 (Or.inr (Or.inl c1))]
      simp [h_bt]
    · rw [if_neg (fun h => c1 (e1.mp h))]
      by_cases c2 : a.toInt < i.toInt + n.toInt
      · rw [if_neg (fun h => e2.mp h c2), q_b1 (Or.inr (Or.inr c2))]
        simp [h_bt]
      · rw [if_pos (e2.mpr c2), q_b0 (by rintro (h | h | h) <;> contradiction)]
        simp [h_bt]
/-- what bars n cells from i on of the sheet k, asked for as of the lane: 0 nothing, -2 no lane, else -10 less the fault -/
def q_bar (τ : r_T) (k lane i n : Int32) : Int32 :=
  if ¬ q_in lane 3 then -2 else if τ.2 110 (h_ix k) < 0 then -11 else if ¬ τ.2 111 (h_ix k) = lane then -12 else if n.toInt < 0 then -14 else if q_far i n (τ.2 110 (h_ix k)) then -13 else 0
/-- the fault behind it -/
def q_barF (τ : r_T) (k lane i n : Int32) : r_T :=
  if ¬ q_in lane 3 then rt_F τ 0 0 else if τ.2 110 (h_ix k) < 0 then rt_F τ 0 1 else if ¬ τ.2 111 (h_ix k) = lane then rt_F τ 0 2 else if n.toInt < 0 then rt_F τ 0 4 else if q_far i n (τ.2 110 (h_ix k)) then rt_F τ 0 3 else τ
theorem r_barred (hok : r_ok o ra s) (k lane i n : Int32) (hk4 : q_in k 4) : w_X12_barred o k lane i n (r_emb s o ra τ) Q ↔ Q (q_bar τ k lane i n) (r_emb s o ra (q_barF τ k lane i n)) := by
  unfold w_X12_barred w_X12_barred_44 w_X12_barred_95 q_bar q_barF
  have h0 : r_len 110 ≠ 0 := by decide
  have l0 : r_len 110 = 4 := rfl
  have k0 : r_kd 110 = 1 := rfl
  have h1 : r_len 111 ≠ 0 := by decide
  have l1 : r_len 111 = 4 := rfl
  have k1 : r_kd 111 = 1 := rfl
  have i1 : vp_in k 4 := (q_vin _ _).mpr hk4
  have e1 : (2 : Int64).toInt + 1 = 3 := rfl
  have em : ((-10 : Int32) - 1 = -11) ∧ ((-10 : Int32) - 2 = -12) ∧ ((-10 : Int32) - 3 = -13) ∧ ((-10 : Int32) - 4 = -14) := by decide
  have en : (0 ≤ n) ↔ ¬ n.toInt < 0 := by
    rw [Int32.le_iff_toInt_le]
    show (0 : Int) ≤ _ ↔ _
    omega
  simp only [e_k, e_r, e_n, hok.1, true_and, e_rr hok h0, e_kk hok h0, e_nn hok h0, e_ia hok h0, l0, k0, e_rr hok h1, e_kk hok h1, e_nn hok h1, e_ia hok h1, l1, k1, Option.some.injEq, exists_eq_left', i1, r_inb, q_bc (q_inC _ _), q_b_eq0, e1, r_refused hok, r_failed hok, r_isBeyond, em.1, em.2.1, em.2.2.1, em.2.2.2]
  by_cases c1 : q_in lane 3
  · have n1 : ¬ ¬ q_in lane 3 := fun h => h c1
    rw [if_neg n1, if_neg n1, if_neg n1]
    by_cases c2 : τ.2 110 (h_ix k) < 0
    · have n2 : ¬ 0 ≤ τ.2 110 (h_ix k) := Int32.not_le.mpr c2
      rw [if_pos c2, if_neg n2, if_pos c2, if_pos c2]
    · have n2 : 0 ≤ τ.2 110 (h_ix k) := Int32.not_lt.mp c2
      rw [if_neg c2, if_neg c2, if_neg c2]
      by_cases c3 : τ.2 111 (h_ix k) = lane
      · have n3 : ¬ ¬ τ.2 111 (h_ix k) = lane := fun h => h c3
        rw [if_pos c3, if_pos n2, if_neg n3, if_neg n3]
        by_cases c4 : n.toInt < 0
        · have n4 : ¬ 0 ≤ n := fun h => en.mp h c4
          rw [if_neg n4, if_pos c4, if_pos c4]
        · rw [if_pos (en.mpr c4), if_neg c4, if_neg c4]
          by_cases c5 : q_far i n (τ.2 110 (h_ix k))
          · have n5 : ¬ ¬ q_far i n (τ.2 110 (h_ix k)) := fun h => h c5
            rw [if_neg n5, if_pos c5, if_pos c5]
          · rw [if_pos c5, if_neg c5, if_neg c5]
      · rw [if_neg c3, if_pos c3, if_pos c3]
  · rw [if_pos c1, if_pos c1, if_pos c1]
end R6
