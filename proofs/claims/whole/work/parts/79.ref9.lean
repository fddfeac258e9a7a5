section R9
variable {o : Nat} {ra : Nat → Nat} {s : h_S} {τ : r_T} {Q : Int32 → h_S → Prop}
/-- what the right r must have besides its group: there, in its time, of the use -/
abbrev q_holds (τ : r_T) (r u m : Int32) : Prop := q_there τ r m ∧ (τ.2 93 (h_ix r) ≤ m ∧ m ≤ τ.2 94 (h_ix r)) ∧ q_bit (τ.2 92 (h_ix r)) u
theorem q_le64 (x y : Int32) : (x.toInt64 ≤ y.toInt64) ↔ x ≤ y := by rw [Int64.le_iff_toInt_le, Int32.le_iff_toInt_le, Int32.toInt_toInt64, Int32.toInt_toInt64]
theorem r_allows_44 (hok : r_ok o ra s) (r u m y : Int32) (hr : q_in r 20) : w_X12_allows_44 Q o r u m y (r_emb s o ra τ) ↔ Q (q_b (¬ y = 0 ∧ q_holds τ r u m)) (r_emb s o ra τ) := by
  unfold w_X12_allows_44 w_X12_allows_101 w_X12_allows_102
  have h0 : r_len 92 ≠ 0 := by decide
  have l0 : r_len 92 = 20 := rfl
  have k0 : r_kd 92 = 1 := rfl
  have h1 : r_len 93 ≠ 0 := by decide
  have l1 : r_len 93 = 20 := rfl
  have k1 : r_kd 93 = 1 := rfl
  have h2 : r_len 94 ≠ 0 := by decide
  have l2 : r_len 94 = 20 := rfl
  have k2 : r_kd 94 = 1 := rfl
  have i1 : vp_in r 20 := (q_vin _ _).mpr hr
  have b0 : h_bt 0 := Or.inl rfl
  have b1 : h_bt 1 := Or.inr rfl
  simp only [e_k, e_r, e_n, hok.1, true_and, e_rr hok h0, e_kk hok h0, e_nn hok h0, e_ia hok h0, l0, k0, e_rr hok h1, e_kk hok h1, e_nn hok h1, e_ia hok h1, l1, k1, e_rr hok h2, e_kk hok h2, e_nn hok h2, e_ia hok h2, l2, k2, Option.some.injEq, exists_eq_left', i1, b0, b1, r_isThere hok _ _ hr, r_inb, r_hasBit, q_b_eq0, q_le64]
  by_cases c0 : y = 0
  · have n0 : ¬ (¬ y = 0 ∧ q_holds τ r u m) := fun h => h.1 c0
    rw [if_pos c0, q_b0 n0]
  · rw [if_neg c0]
    by_cases c1 : q_there τ r m
    · have d1 : ¬ ¬ q_there τ r m := fun h => h c1
      rw [if_neg d1]
      by_cases c2 : τ.2 93 (h_ix r) ≤ m ∧ m ≤ τ.2 94 (h_ix r)
      · have d2 : ¬ ¬ (τ.2 93 (h_ix r) ≤ m ∧ m ≤ τ.2 94 (h_ix r)) := fun h => h c2
        rw [if_neg d2]
        by_cases c3 : q_bit (τ.2 92 (h_ix r)) u
        · have d3 : ¬ ¬ q_bit (τ.2 92 (h_ix r)) u := fun h => h c3
          have n3 : ¬ y = 0 ∧ q_holds τ r u m := ⟨c0, c1, c2, c3⟩
          rw [if_neg d3, q_b1 n3]
        · have n3 : ¬ (¬ y = 0 ∧ q_holds τ r u m) := fun h => c3 h.2.2.2
          rw [if_pos c3, q_b0 n3]
      · have n2 : ¬ (¬ y = 0 ∧ q_holds τ r u m) := fun h => c2 h.2.2.1
        rw [if_pos c2, q_b0 n2]
    · have n1 : ¬ (¬ y = 0 ∧ q_holds τ r u m) := fun h => c1 h.2.1
      rw [if_pos c1, q_b0 n1]
/-- the hand h is of the group, or the hand, that the right r is for, as of m -/
abbrev q_mine (τ : r_T) (k : Nat) (r h m : Int32) : Prop := if τ.2 91 (h_ix r) < 8 then q_bit (q_grp τ (τ.2 91 (h_ix r)) m k) h else τ.2 91 (h_ix r) - 8 = h
theorem q_b_ne (p : Prop) : ¬ q_b p = 0 ↔ p := by rw [q_b_eq0, Classical.not_not]
theorem r_allows (hok : r_ok o ra s) (r h u m : Int32) (hr : q_in r 20) {k : Nat} (hk : k ≤ 1200) (e : τ.1 4 = nI k) (H : Q (q_b (q_mine τ k r h m ∧ q_holds τ r u m)) (r_emb s o ra τ)) : w_X12_allows o r h u m (r_emb s o ra τ) Q := by
  have h0 : r_len 91 ≠ 0 := by decide
  have l0 : r_len 91 = 20 := rfl
  have k0 : r_kd 91 = 1 := rfl
  have i1 : vp_in r 20 := (q_vin _ _).mpr hr
  unfold w_X12_allows
  simp only [e_k, e_r, e_n, hok.1, true_and, e_rr hok h0, e_kk hok h0, e_nn hok h0, e_ia hok h0, l0, k0, Option.some.injEq, exists_eq_left', i1]
  by_cases c : τ.2 91 (h_ix r) < 8
  · rw [if_pos c]
    refine r_groupAt hok _ m hk e ?_
    rw [r_hasBit, r_allows_44 hok r u m _ hr]
    have q : (¬ q_b (q_bit (q_grp τ (τ.2 91 (h_ix r)) m k) h) = 0 ∧ q_holds τ r u m) ↔ (q_mine τ k r h m ∧ q_holds τ r u m) := by
      rw [q_b_ne]
      unfold q_mine
      rw [if_pos c]
    rw [q_bc q]
    exact H
  · rw [if_neg c]
    by_cases c2 : τ.2 91 (h_ix r) - 8 = h
    · rw [if_pos c2, r_allows_44 hok r u m _ hr]
      have q : (¬ (1 : Int32) = 0 ∧ q_holds τ r u m) ↔ (q_mine τ k r h m ∧ q_holds τ r u m) := by
        unfold q_mine
        rw [if_neg c]
        exact ⟨fun h => ⟨c2, h.2⟩, fun h => ⟨by decide, h.2⟩⟩
      rw [q_bc q]
      exact H
    · rw [if_neg c2, r_allows_44 hok r u m _ hr]
      have q : (¬ (0 : Int32) = 0 ∧ q_holds τ r u m) ↔ (q_mine τ k r h m ∧ q_holds τ r u m) := by
        unfold q_mine
        rw [if_neg c]
        exact ⟨fun h => absurd rfl h.1, fun h => absurd h.1 c2⟩
      rw [q_bc q]
      exact H
/-- the first right from j on, of n, by which the hand h has the use u in the text w as of m -/
noncomputable def q_why (τ : r_T) (k : Nat) (h w u m : Int32) : Nat → Nat → Int32
  | 0, _ => -9
  | n + 1, j => @ite Int32 (τ.2 90 j = w ∧ q_mine τ k (nI j) h m ∧ q_holds τ (nI j) u m) (Classical.propDecidable _) (nI j) (q_why τ k h w u m n (j + 1))
theorem r_whyOf_16 (hok : r_ok o ra s) (h w u m : Int32) {k : Nat} (hk : k ≤ 1200) (e : τ.1 4 = nI k) {N : Nat} (hN : N ≤ 20) (eN : τ.1 89 = nI N) : ∀ (n j : Nat), j + n = N → Q (q_why τ k h w u m n j) (r_emb s o ra τ) → w_X12_whyOf_16 Q (n + 1) o h w u m (nI j) (r_emb s o ra τ) := by
  have h0 : r_len 90 ≠ 0 := by decide
  have l0 : r_len 90 = 20 := rfl
  have k0 : r_kd 90 = 1 := rfl
  intro n
  induction n with
  | zero =>
    intro j hj H
    show w_X12_whyOf_16b Q _ o h w u m (nI j) _
    unfold w_X12_whyOf_16b
    rw [e_io, eN, if_pos (by rw [Int32.le_iff_toInt_le, q_nI (by omega), q_nI (by omega)]; omega)]
    exact ⟨hok.1, H⟩
  | succ n ih =>
    intro j hj H
    have hx := q_nIx (k := j) (by omega)
    have hj2 := q_nI (k := j) (by omega)
    have hr : q_in (nI j) 20 := by unfold q_in; omega
    have i1 : vp_in (nI j) 20 := (q_vin _ _).mpr hr
    have en : nI j + 1 = nI (j + 1) := nI_1 j
    show w_X12_whyOf_16b Q (w_X12_whyOf_16 Q (n + 1)) o h w u m (nI j) _
    unfold w_X12_whyOf_16b w_X12_whyOf_52
    rw [e_io, eN, if_neg (by rw [Int32.le_iff_toInt_le, q_nI (by omega), hj2]; omega)]
    simp only [e_k, e_r, e_n, hok.1, true_and, e_rr hok h0, e_kk hok h0, e_nn hok h0, e_ia hok h0, l0, k0, Option.some.injEq, exists_eq_left', i1, hx, en]
    by_cases c1 : τ.2 90 j = w
    · rw [if_pos c1]
      refine r_allows hok (nI j) h u m hr hk e ?_
      by_cases c2 : q_mine τ k (nI j) h m ∧ q_holds τ (nI j) u m
      · have H2 : q_why τ k h w u m (n + 1) j = nI j := if_pos ⟨c1, c2⟩
        rw [H2] at H
        rw [q_b1 c2, if_neg (by decide)]
        exact H
      · have H2 : q_why τ k h w u m (n + 1) j = q_why τ k h w u m n (j + 1) := if_neg (fun h => c2 h.2)
        rw [H2] at H
        rw [q_b0 c2, if_pos rfl]
        exact ih (j + 1) (by omega) H
    · have H2 : q_why τ k h w u m (n + 1) j = q_why τ k h w u m n (j + 1) := if_neg (fun h => c1 h.1)
      rw [H2] at H
      rw [if_neg c1]
      exact ih (j + 1) (by omega) H
theorem r_whyOf (hok : r_ok o ra s) (h w u m : Int32) (hw : q_in w 12) {k : Nat} (hk : k ≤ 1200) (e : τ.1 4 = nI k) {N : Nat} (hN : N ≤ 20) (eN : τ.1 89 = nI N) (H : Q (if τ.2 9 (h_ix w) = h then 99 else q_why τ k h w u m N 0) (r_emb s o ra τ)) : w_X12_whyOf o h w u m (r_emb s o ra τ) Q := by
  have h0 : r_len 9 ≠ 0 := by decide
  have l0 : r_len 9 = 12 := rfl
  have k0 : r_kd 9 = 1 := rfl
  have i1 : vp_in w 12 := (q_vin _ _).mpr hw
  unfold w_X12_whyOf
  simp only [e_k, e_r, e_n, hok.1, true_and, e_rr hok h0, e_kk hok h0, e_nn hok h0, e_ia hok h0, l0, k0, Option.some.injEq, exists_eq_left', i1]
  by_cases c : τ.2 9 (h_ix w) = h
  · rw [if_pos c] at H
    rw [if_pos c]
    exact H
  · rw [if_neg c] at H
    rw [if_neg c]
    exact ⟨N + 1, r_whyOf_16 hok h w u m hk e hN eN N 0 (by omega) H⟩
end R9
