abbrev q_bit (x k : Int32) : Prop := ((x >>> (k &&& 31)) &&& 1) = 1
section R8
variable {o : Nat} {ra : Nat → Nat} {s : h_S} {τ : r_T} {Q : Int32 → h_S → Prop}
theorem r_hasBit (x k : Int32) (s : h_S) : w_X12_hasBit x k s Q ↔ Q (q_b (q_bit x k)) s := by
  unfold w_X12_hasBit w_X12_hasBit_14
  by_cases c : q_bit x k
  · rw [if_pos c, q_b1 c]
    simp [h_bt]
  · rw [if_neg c, q_b0 c]
    simp [h_bt]
/-- the right r is there as of m -/
abbrev q_there (τ : r_T) (r m : Int32) : Prop := τ.2 96 (h_ix r) ≤ m ∧ (τ.2 97 (h_ix r) = -9 ∨ m < τ.2 97 (h_ix r))
theorem r_isThere (hok : r_ok o ra s) (r m : Int32) (hr : q_in r 20) : w_X12_isThere o r m (r_emb s o ra τ) Q ↔ Q (q_b (q_there τ r m)) (r_emb s o ra τ) := by
  unfold w_X12_isThere w_X12_isThere_31 w_X12_isThere_35 w_X12_isThere_36
  have h0 : r_len 96 ≠ 0 := by decide
  have l0 : r_len 96 = 20 := rfl
  have k0 : r_kd 96 = 1 := rfl
  have h1 : r_len 97 ≠ 0 := by decide
  have l1 : r_len 97 = 20 := rfl
  have k1 : r_kd 97 = 1 := rfl
  have i1 : vp_in r 20 := (q_vin _ _).mpr hr
  simp only [e_k, e_r, e_n, hok.1, true_and, e_rr hok h0, e_kk hok h0, e_nn hok h0, e_ia hok h0, l0, k0, e_rr hok h1, e_kk hok h1, e_nn hok h1, e_ia hok h1, l1, k1, Option.some.injEq, exists_eq_left', i1]
  have b0 : h_bt 0 := Or.inl rfl
  have b1 : h_bt 1 := Or.inr rfl
  by_cases c1 : m < τ.2 96 (h_ix r)
  · have n1 : ¬ q_there τ r m := fun h => Int32.not_le.mpr c1 h.1
    rw [if_pos c1, q_b0 n1]
    simp only [b0, true_and]
  · have d1 : τ.2 96 (h_ix r) ≤ m := Int32.not_lt.mp c1
    rw [if_neg c1]
    by_cases c2 : τ.2 97 (h_ix r) = -9
    · have n2 : q_there τ r m := ⟨d1, Or.inl c2⟩
      rw [if_pos c2, q_b1 n2]
      simp only [b1, true_and]
    · rw [if_neg c2]
      by_cases c3 : τ.2 97 (h_ix r) ≤ m
      · have n3 : ¬ q_there τ r m := fun h => h.2.elim c2 (fun h => Int32.not_le.mpr h c3)
        rw [if_pos c3, q_b0 n3]
        simp only [b0, true_and]
      · have n3 : q_there τ r m := ⟨d1, Or.inr (Int32.not_le.mp c3)⟩
        rw [if_neg c3, q_b1 n3]
        simp only [b1, true_and]
end R8
