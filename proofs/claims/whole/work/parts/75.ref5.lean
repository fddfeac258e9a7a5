theorem q_nI {k : Nat} (h : k < 2 ^ 31) : (nI k).toInt = k := Int32.toInt_ofNat_of_lt h
theorem q_nIx {k : Nat} (h : k < 2 ^ 31) : h_ix (nI k) = k := Int32.toNatClampNeg_ofNat_of_lt h
theorem q_nI1 (k : Nat) : nI (k + 1) - 1 = nI k := by
  rw [← nI_1]
  exact Int32.add_sub_cancel _ _
theorem q_nIm (k : Nat) : nI k + (-1) = nI k - 1 := by rw [Int32.sub_eq_add_neg]
/-- which hands the group g held as of m, by the first k rows -/
def q_grp (τ : r_T) (g m : Int32) : Nat → Int32
  | 0 => 0
  | k + 1 => if τ.2 5 k = g ∧ τ.2 7 k ≤ m then τ.2 6 k else q_grp τ g m k
section R5
variable {o : Nat} {ra : Nat → Nat} {s : h_S} {τ : r_T} {Q : Int32 → h_S → Prop}
theorem r_groupAt_7 (hok : r_ok o ra s) (g m : Int32) : ∀ k : Nat, k ≤ 1200 → (w_X12_groupAt_7 Q (k + 1) o g m (nI k - 1) (r_emb s o ra τ) ↔ Q (q_grp τ g m k) (r_emb s o ra τ)) := by
  have h5 : r_len 5 ≠ 0 := by decide
  have h6 : r_len 6 ≠ 0 := by decide
  have h7 : r_len 7 ≠ 0 := by decide
  have l5 : r_len 5 = 1200 := rfl
  have l6 : r_len 6 = 1200 := rfl
  have l7 : r_len 7 = 1200 := rfl
  have k5 : r_kd 5 = 1 := rfl
  have k6 : r_kd 6 = 1 := rfl
  have k7 : r_kd 7 = 1 := rfl
  intro k
  induction k with
  | zero =>
    intro _
    show w_X12_groupAt_7b Q _ o g m (nI 0 - 1) _ ↔ _
    unfold w_X12_groupAt_7b
    rw [if_pos (by decide)]
    exact Iff.rfl
  | succ k ih =>
    intro hk
    have ih := ih (by omega)
    show w_X12_groupAt_7b Q (w_X12_groupAt_7 Q (k + 1)) o g m (nI (k + 1) - 1) _ ↔ _
    rw [q_nI1]
    have hn := q_nI (k := k) (by omega)
    have hx := q_nIx (k := k) (by omega)
    have i1 : vp_in (nI k) 1200 := (q_vin _ _).mpr (by unfold q_in; omega)
    unfold w_X12_groupAt_7b w_X12_groupAt_38
    rw [if_neg (by rw [Int32.lt_iff_toInt_lt, hn]; show ¬ ((k : Int) < 0); omega)]
    simp only [e_k, e_r, e_n, hok.1, true_and, e_rr hok h5, e_rr hok h6, e_rr hok h7, e_kk hok h5, e_kk hok h6, e_kk hok h7, e_nn hok h5, e_nn hok h6, e_nn hok h7, e_ia hok h5, e_ia hok h6, e_ia hok h7, l5, l6, l7, k5, k6, k7, Option.some.injEq, exists_eq_left', i1, hx, q_nIm, ih]
    show _ ↔ Q (if τ.2 5 k = g ∧ τ.2 7 k ≤ m then τ.2 6 k else q_grp τ g m k) _
    by_cases c1 : τ.2 5 k = g
    · by_cases c2 : τ.2 7 k ≤ m
      · rw [if_pos c1, if_neg (Int32.not_lt.mpr c2), if_pos ⟨c1, c2⟩]
      · rw [if_pos c1, if_pos (Int32.not_le.mp c2), if_neg (fun h => c2 h.2)]
    · rw [if_neg c1, if_neg (fun h => c1 h.1)]
theorem r_groupAt (hok : r_ok o ra s) (g m : Int32) {k : Nat} (hk : k ≤ 1200) (e : τ.1 4 = nI k) (h : Q (q_grp τ g m k) (r_emb s o ra τ)) : w_X12_groupAt o g m (r_emb s o ra τ) Q := by
  unfold w_X12_groupAt
  rw [e_k, e_io, e]
  exact ⟨hok.1, k + 1, (r_groupAt_7 hok g m k hk).mpr h⟩
/-- a set of the first n hands -/
theorem q_setE {n : Nat} (hn : n ≤ 8) : (h_lshl (1 : Int64) (nI n) - 1).toInt + 1 = 2 ^ n := by
  rcases (show n = 0 ∨ n = 1 ∨ n = 2 ∨ n = 3 ∨ n = 4 ∨ n = 5 ∨ n = 6 ∨ n = 7 ∨ n = 8 by omega) with rfl | rfl | rfl | rfl | rfl | rfl | rfl | rfl | rfl <;> decide
/-- the state behind group(g, set) -/
def rt_group (τ : r_T) (g x : Int32) (k : Nat) : r_T := rt_F (rt_A (rt_A (rt_A τ 5 k g) 6 k x) 7 k (τ.1 1 + 1)) 4 (nI k + 1)
theorem r_group (hok : r_ok o ra s) (g x : Int32) {k n : Nat} (hk : k < 1200) (e : τ.1 4 = nI k) (hh : n ≤ 8) (e3 : τ.1 3 = nI n) (hn : q_in (τ.1 1) 1200)
    (h : if q_in g 4 then (if q_in x (2 ^ n) then Q (q_grp τ g (τ.1 1) k) (r_emb s o ra (rt_act (rt_group τ g x k) (q_grp τ g (τ.1 1) k))) else Q (-2) (r_emb s o ra τ)) else Q (-1) (r_emb s o ra τ)) : w_X12_group o g x (r_emb s o ra τ) Q := by
  have h5 : r_len 5 ≠ 0 := by decide
  have h6 : r_len 6 ≠ 0 := by decide
  have h7 : r_len 7 ≠ 0 := by decide
  have l5 : r_len 5 = 1200 := rfl
  have l6 : r_len 6 = 1200 := rfl
  have l7 : r_len 7 = 1200 := rfl
  have k5 : r_kd 5 = 1 := rfl
  have k6 : r_kd 6 = 1 := rfl
  have k7 : r_kd 7 = 1 := rfl
  have hi := q_nI (k := k) (by omega)
  have hx := q_nIx (k := k) (by omega)
  have i1 : vp_in (nI k) 1200 := (q_vin _ _).mpr (by unfold q_in; omega)
  have e1 : (3 : Int64).toInt + 1 = 4 := rfl
  unfold w_X12_group
  simp only [r_inb, q_bc (q_inC _ _), q_b_eq0, e1, e_io, e3, q_setE hh]
  by_cases c1 : q_in g 4
  · rw [if_pos c1] at h
    rw [if_neg (fun q => q c1)]
    refine ⟨hok.1, ?_⟩
    by_cases c2 : q_in x (2 ^ n)
    · rw [if_pos c2] at h
      rw [if_neg (fun q => q c2)]
      refine ⟨hok.1, r_groupAt hok g (τ.1 1) (by omega) e ?_⟩
      simp only [e_k, e_r, e_n, e_io, hok.1, true_and, e_rr hok h5, e_rr hok h6, e_rr hok h7, e_kk hok h5, e_kk hok h6, e_kk hok h7, e_nn hok h5, e_nn hok h6, e_nn hok h7, e_sa hok h5, e_sa hok h6, e_sa hok h7, e_so, rt_AF, l5, l6, l7, k5, k6, k7, Option.some.injEq, exists_eq_left', e, i1, hx]
      exact (r_acted hok _ (by simpa [rt_FF, rt_AF] using hn)).mpr h
    · rw [if_neg c2] at h
      rw [if_pos c2]
      exact h
  · rw [if_neg c1] at h
    rw [if_pos c1]
    exact h
end R5
