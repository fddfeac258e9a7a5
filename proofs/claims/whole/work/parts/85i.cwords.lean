section CWo
variable {k : h_S} {s : sA} {y : c_Y} {M : Nat}
theorem ci_areWords (h : CBM k s M y) (v : ivc s) (a n : Int32) : fn_X7_areWords a n k = some (q_b (s_words s a n), k) := by
  have v3 := v.2.2.2.1
  have hl := h.2.2.2.2.1.2.2.2.2.1
  have e0 : (0 : Int32).toInt = 0 := rfl
  have e1 : (1 : Int32).toInt = 1 := rfl
  unfold fn_X7_areWords
  by_cases c1 : a < 0
  · rw [fg_if_1 c1, q_b0]
    intro w
    rw [Int32.lt_iff_toInt_lt] at c1
    have := w.1
    omega
  · rw [fg_if_0 c1]
    rw [Int32.lt_iff_toInt_lt] at c1
    by_cases c2 : n < 1
    · rw [fg_if_1 c2, q_b0]
      intro w
      rw [Int32.lt_iff_toInt_lt] at c2
      have := w.2.1
      omega
    · rw [fg_if_0 c2, ci_size (ck_18 h.1) hl, fg_b_1]
      rw [Int32.lt_iff_toInt_lt] at c2
      have ez : (nI (sC s 3)).toInt = sC s 3 := q_nI (by omega)
      by_cases c3 : nI (sC s 3) ≤ a
      · rw [fg_if_1 c3, q_b0]
        intro w
        rw [Int32.le_iff_toInt_le] at c3
        have := w.2.2
        have := w.2.1
        omega
      · rw [fg_if_0 c3, ci_size (ck_18 h.1) hl, fg_b_1]
        rw [Int32.le_iff_toInt_le] at c3
        have es : (nI (sC s 3) - a).toInt = (nI (sC s 3)).toInt - a.toInt := q_sub (by omega) (by omega)
        by_cases c4 : nI (sC s 3) - a < n
        · rw [fg_if_1 c4, q_b0]
          intro w
          rw [Int32.lt_iff_toInt_lt, es] at c4
          have := w.2.2
          omega
        · rw [fg_if_0 c4, q_b1]
          rw [Int32.lt_iff_toInt_lt, es] at c4
          exact ⟨by omega, by omega, by omega⟩
theorem ci_codeOf (h : CBM k s M y) (v : ivc s) {x : Nat} (hx : x < sC s 3) : fn_X7_codeOf (nI x) k = some (sF s 23 x, k) := by
  have v3 := v.2.2.2.1
  unfold fn_X7_codeOf
  rw [ci_wordAt h v, fg_b_1, fg_if_1 ((n_inI (by omega)).mpr hx), q_nIx (by omega)]
  obtain ⟨_, w1, w2, _⟩ := h.2.2.2.2.2.1.1 x hx
  have n : ¬ (some (yA y 18 x) = none) := by simp
  rw [fg_if_0 n, fg_o_1, fg_g_1 w1, w2]
theorem ci_codesAlike_3 (h : CBM k s M y) (v : ivc s) {a b n : Nat} (ha : a + n ≤ sC s 3) (hb : b + n ≤ sC s 3) : ∀ (d j N : Nat), j + d = n → d < N → fn_X7_codesAlike_3 N (nI a) (nI b) (nI n) (nI j) k = some (q_b (∀ i, j ≤ i → i < n → sF s 23 (a + i) = sF s 23 (b + i)), k) := by
  have v3 := v.2.2.2.1
  intro d
  induction d with
  | zero =>
    intro j N hj hN
    obtain ⟨N, rfl⟩ : ∃ m, N = m + 1 := ⟨N - 1, by omega⟩
    show fn_X7_codesAlike_3b _ _ _ _ _ _ = _
    unfold fn_X7_codesAlike_3b
    rw [fg_if_1 ((n_le (by omega) (by omega)).mpr (by omega)), q_b1 (fun i h1 h2 => by omega)]
  | succ d ih =>
    intro j N hj hN
    obtain ⟨N, rfl⟩ : ∃ m, N = m + 1 := ⟨N - 1, by omega⟩
    show fn_X7_codesAlike_3b (fn_X7_codesAlike_3 N) _ _ _ _ _ = _
    unfold fn_X7_codesAlike_3b
    rw [fg_if_0 (fun q => by have := (n_le (a := n) (b := j) (by omega) (by omega)).mp q; omega), n_add, n_add, ci_codeOf h v (by omega), fg_b_1, ci_codeOf h v (by omega), fg_b_1, n_p1, ih (j + 1) N (by omega) (by omega)]
    by_cases c : sF s 23 (a + j) = sF s 23 (b + j)
    · rw [fg_if_1 c]
      congr 2
      exact q_bc ⟨fun w i h1 h2 => by
        by_cases e : i = j
        · rw [e]; exact c
        · exact w i (by omega) h2, fun w i h1 h2 => w i (by omega) h2⟩
    · rw [fg_if_0 c, q_b0 (fun w => c (w j (Nat.le_refl _) (by omega)))]
end CWo
