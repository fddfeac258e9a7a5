/-- the row of a writing that holds as of m, from the row x on backwards (n: how far) -/
def q_log (τ : r_T) (m : Int32) : Nat → Int32 → Int32
  | 0, x => x
  | n + 1, x => if x < 0 then x else if τ.2 13 (h_ix x) ≤ m then x else q_log τ m n (τ.2 12 (h_ix x))
section R7
variable {o : Nat} {ra : Nat → Nat} {s : h_S} {τ : r_T} {Q : Int32 → h_S → Prop}
theorem r_logOf_7 (hok : r_ok o ra s) (m : Int32) {N : Nat} (hN : N ≤ 1200) (H : ∀ j : Nat, j < N → (τ.2 12 j).toInt < j) : ∀ (n : Nat) (x : Int32), x.toInt < n → n ≤ N → (w_X12_logOf_7 Q (n + 1) o m x (r_emb s o ra τ) ↔ Q (q_log τ m (n + 1) x) (r_emb s o ra τ)) := by
  have h0 : r_len 12 ≠ 0 := by decide
  have l0 : r_len 12 = 1200 := rfl
  have k0 : r_kd 12 = 1 := rfl
  have h1 : r_len 13 ≠ 0 := by decide
  have l1 : r_len 13 = 1200 := rfl
  have k1 : r_kd 13 = 1 := rfl
  intro n
  induction n with
  | zero =>
    intro x hx _
    have c : x < 0 := Int32.lt_iff_toInt_lt.mpr (by show x.toInt < 0; omega)
    show w_X12_logOf_7b Q _ o m x _ ↔ Q (if x < 0 then x else _) _
    unfold w_X12_logOf_7b w_X12_logOf_31
    rw [if_pos c, if_pos c]
  | succ n ih =>
    intro x hx hn
    show w_X12_logOf_7b Q (w_X12_logOf_7 Q (n + 1)) o m x _ ↔ Q (if x < 0 then x else if τ.2 13 (h_ix x) ≤ m then x else q_log τ m (n + 1) (τ.2 12 (h_ix x))) _
    unfold w_X12_logOf_7b w_X12_logOf_31
    by_cases c : x < 0
    · rw [if_pos c, if_pos c]
    · have c0 : 0 ≤ x.toInt := by
        have h : ¬ x.toInt < 0 := fun h => c (Int32.lt_iff_toInt_lt.mpr h)
        omega
      have e := q_ix c0
      have i1 : vp_in x 1200 := (q_vin _ _).mpr ⟨c0, by omega⟩
      have hj := H (h_ix x) (by omega)
      rw [if_neg c, if_neg c]
      simp only [e_k, e_r, e_n, hok.1, true_and, e_rr hok h0, e_kk hok h0, e_nn hok h0, e_ia hok h0, l0, k0, e_rr hok h1, e_kk hok h1, e_nn hok h1, e_ia hok h1, l1, k1, Option.some.injEq, exists_eq_left', i1]
      by_cases c2 : τ.2 13 (h_ix x) ≤ m
      · rw [if_pos c2, if_pos c2]
      · rw [if_neg c2, if_neg c2]
        exact ih _ (by omega) (by omega)
theorem r_logOf (hok : r_ok o ra s) (w m : Int32) {N : Nat} (hN : N ≤ 1200) (H : ∀ j : Nat, j < N → (τ.2 12 j).toInt < j) (hw : q_in w 12) (hx : (τ.2 11 (h_ix w)).toInt < N) (h : Q (q_log τ m (N + 1) (τ.2 11 (h_ix w))) (r_emb s o ra τ)) : w_X12_logOf o w m (r_emb s o ra τ) Q := by
  have h2 : r_len 11 ≠ 0 := by decide
  have hl : r_len 11 = 12 := rfl
  have hk : r_kd 11 = 1 := rfl
  have i1 : vp_in w 12 := (q_vin _ _).mpr hw
  unfold w_X12_logOf
  simp only [e_k, e_r, e_n, hok.1, true_and, e_rr hok h2, e_kk hok h2, e_nn hok h2, e_ia hok h2, hl, hk, Option.some.injEq, exists_eq_left', i1]
  exact ⟨N + 1, (r_logOf_7 hok m hN H N _ hx (Nat.le_refl _)).mpr h⟩
end R7
