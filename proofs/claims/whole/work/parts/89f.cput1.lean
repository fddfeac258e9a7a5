section CPt
variable {k k2 : h_S} {s : sA} {y : c_Y} {M : Nat}
theorem ci_areCodes_2 (h : CBM k s M y) {p i n z : Nat} (hp : p < 4) (hz : z ≤ 60) (hn : i + n ≤ z) (ez : sF s 110 p = nI z) : ∀ (d j N : Nat), j + d = n → d < N → fn_X5_areCodes_2 N (52 + p) (nI i) (nI n) (nI j) k = some (q_b (∀ x, j ≤ x → x < n → 1 ≤ s_cl s p i x ∧ s_cl s p i x ≤ 99), k) := by
  intro d
  induction d with
  | zero =>
    intro j N hj hN
    obtain ⟨N, rfl⟩ : ∃ m, N = m + 1 := ⟨N - 1, by omega⟩
    show fn_X5_areCodes_2b _ _ _ _ _ _ = _
    unfold fn_X5_areCodes_2b
    rw [fg_if_1 ((n_le (by omega) (by omega)).mpr (by omega)), q_b1 (fun x h1 h2 => by omega)]
  | succ d ih =>
    intro j N hj hN
    obtain ⟨N, rfl⟩ : ∃ m, N = m + 1 := ⟨N - 1, by omega⟩
    show fn_X5_areCodes_2b (fn_X5_areCodes_2 N) _ _ _ _ _ = _
    unfold fn_X5_areCodes_2b
    have ec : h_i k (56 + p) (i + j) = s_cl s p i j := by
      have := (CB_T h p hp).2.2 (i + j) (by rw [ez, q_nI (by omega)]; omega)
      rw [this]
      unfold s_cl
      rw [Nat.add_assoc]
    rw [fg_if_0 (fun z => by have := (n_le (a := n) (b := j) (by omega) (by omega)).mp z; omega), fg_g_1 (c_shf h.1 hp).2.1, n_add, ci_cellAt h.1 hp (by omega), fg_b_1, ec, n_p1]
    by_cases c1 : s_cl s p i j < 1
    · rw [fg_if_1 c1, q_b0 (fun q => Int32.not_le.mpr c1 (q j (Nat.le_refl _) (by omega)).1)]
    · rw [fg_if_0 c1]
      by_cases c2 : s_cl s p i j ≤ 99
      · rw [fg_if_1 c2, ih (j + 1) N (by omega) (by omega)]
        congr 2
        exact q_bc ⟨fun q x h1 h2 => by
          by_cases e : x = j
          · rw [e]; exact ⟨Int32.not_lt.mp c1, c2⟩
          · exact q x (by omega) h2, fun q x h1 h2 => q x (by omega) h2⟩
      · rw [fg_if_0 c2, q_b0 (fun q => c2 (q j (Nat.le_refl _) (by omega)).2)]
theorem ci_areCodes (h : CBM k s M y) {p i n z : Nat} (hp : p < 4) (hz : z ≤ 60) (hn : i + n ≤ z) (ez : sF s 110 p = nI z) : fn_X5_areCodes (52 + p) (nI i) (nI n) k = some (q_b (s_cds (s_cl s p i) n), k) := by
  unfold fn_X5_areCodes s_cds
  refine (ci_areCodes_2 h hp hz hn ez n 0 g_N (by omega) (by have := g_N_le; omega)).trans ?_
  congr 2
  exact q_bc ⟨fun q x hx => q x (Nat.zero_le _) hx, fun q x _ hx => q x hx⟩
theorem s_nth_flt (S : sA) (a : Int32) (h : Nat) : ∀ n, s_nth (s_flt S a) h n = s_nth S h n := by
  intro n
  induction n with
  | zero => rfl
  | succ n ih => unfold s_nth; rw [ih]; rfl
theorem s_wl_flt (C : Nat → Int32) (w : Nat) (a : Int32) : ∀ (d j : Nat) (S : sA), s_wl C w d j (s_flt S a) = s_flt (s_wl C w d j S) a := by
  intro d
  induction d with
  | zero => intro j S; rfl
  | succ d ih =>
    intro j S
    show s_wl C w d (j + 1) (s_w1 (s_flt S a) (C j) w) = s_flt (s_wl C w d (j + 1) (s_w1 S (C j) w)) a
    rw [← ih]
    congr 1
    unfold s_w1
    rw [s_nth_flt]
    rfl
end CPt
