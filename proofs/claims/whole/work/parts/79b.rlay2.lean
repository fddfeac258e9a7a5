section LB
variable {a b : Nat → Nat} {ws : Nat → Int32} {g L : Nat}
theorem ri_show_0 {N : Nat} (hN : 0 < N) (x y z : Int32) (t : r_T) : fn_X12_show_5 N x y z 0 t = some ((), t) := by
  obtain ⟨N, rfl⟩ : ∃ m, N = m + 1 := ⟨N - 1, by omega⟩
  show fn_X12_show_5b _ _ _ _ _ _ = _
  unfold fn_X12_show_5b
  exact fg_if_1 rfl
theorem ri_show_5 (hL : L ≤ 4) (ha : a 0 = 0) (x : Int32) : ∀ (k : Nat), k ≤ L → ∀ (N : Nat) (c : Nat → Nat) (O : List lI) (t : r_T), k + 1 < N → l_V L a b c ws g O t → ∃ t2, fn_X12_show_5 N x (nI L) (nI k) 1 t = some ((), t2) ∧ l_V L a b (l_pu a b (k + 1) c).1 ws g (if (l_pu a b (k + 1) c).2 then O ++ [(x, g, (List.range (L + 1)).map ws)] else O) t2 ∧ r_fr [34, 36, 37, 38, 39] t t2 := by
  intro k
  have d1 : ¬ ((1 : Int32) = 0) := by decide
  induction k with
  | zero =>
    intro hk N c O t hN h
    obtain ⟨N, rfl⟩ : ∃ m, N = m + 1 := ⟨N - 1, by omega⟩
    obtain ⟨h1, h2, h3, h4, h5, h6, h7⟩ := h.1 0 (by omega)
    have v0 : vp_in (nI 0) 5 := (n_vp (by omega)).mpr (by omega)
    have ix0 : h_ix (nI 0) = 0 := q_nIx (by omega)
    have z0 : nI 0 = 0 := rfl
    show ∃ t2, fn_X12_show_5b (fn_X12_show_5 N) x (nI L) (nI 0) 1 t = _ ∧ _
    unfold fn_X12_show_5b fn_X12_show_34 fn_X12_show_53
    rw [fg_if_0 d1, fg_g_1 v0, fg_g_1 v0, ix0, h3, h4]
    by_cases w : c 0 < b 0
    · have w2 : ¬ nI (b 0) ≤ nI (c 0) := fun q => by have := (n_le (a := b 0) (b := c 0) (by omega) (by omega)).mp q; omega
      have e1 : l_pu a b (0 + 1) c = (l_up c 0 (c 0 + 1), true) := by
        show (if c 0 < b 0 then (if a 0 ≤ c 0 then l_pu a b 0 (l_up c 0 (c 0 + 1)) else _) else _) = _
        rw [if_pos w, if_pos (by omega)]
        rfl
      have vc : vp_in (nI (c 0)) 300 := (n_vp (by omega)).mpr (by omega)
      have ixc : h_ix (nI (c 0)) = c 0 := q_nIx (by omega)
      rw [e1, fg_if_0 w2, fg_g_1 v0, fg_if_0 d1, fg_g_1 v0, fg_let_1, fg_if_1 z0, fg_if_0 d1, fg_g_1 vc, fg_let_1, fg_g_1 (show vp_in (0 : Int32) 5 from v0), fg_g_1 vc, fg_let_1, fg_g_1 vc, fg_let_1, n_p1, n_p1, ixc]
      have e29 : (rt_A (rt_A t 34 0 (nI (c 0 + 1))) 36 (c 0) x).2 29 (h_ix 0) = nI (g + 1) := h.2.1
      rw [e29, n_m1]
      have e2 := ri_show_100 (K5 := fn_X12_show_5 N) (t := rt_A (rt_A (rt_A (rt_A t 34 0 (nI (c 0 + 1))) 36 (c 0) x) 37 (c 0) (nI g)) 38 (c 0) (nI (L + 1))) (ws := ws) (x := x) (x3 := nI 0) (p := c 0) hL (by omega) (fun k hk => (h.1 k hk).1) (L + 1) 0 g_N (t.2 39) (by omega) (by have := g_N_le; omega)
      have e3 : rt_Af (rt_A (rt_A (rt_A (rt_A t 34 0 (nI (c 0 + 1))) 36 (c 0) x) 37 (c 0) (nI g)) 38 (c 0) (nI (L + 1))) 39 (t.2 39) = rt_A (rt_A (rt_A (rt_A t 34 0 (nI (c 0 + 1))) 36 (c 0) x) 37 (c 0) (nI g)) 38 (c 0) (nI (L + 1)) := rt_Af_self (t := rt_A (rt_A (rt_A (rt_A t 34 0 (nI (c 0 + 1))) 36 (c 0) x) 37 (c 0) (nI g)) 38 (c 0) (nI (L + 1))) 39
      rw [e3] at e2
      refine ⟨rt_Af (rt_A (rt_A (rt_A (rt_A t 34 0 (nI (c 0 + 1))) 36 (c 0) x) 37 (c 0) (nI g)) 38 (c 0) (nI (L + 1))) 39 (fun j => if 5 * c 0 + 0 ≤ j ∧ j ≤ 5 * c 0 + L then ws (j - 5 * c 0) else t.2 39 j), Eq.trans e2 ?_, l_V_put h hL w, ?_⟩
      rotate_left
      · refine ⟨fun _ _ => rfl, fun j hj => ?_⟩
        have n34 : j ≠ 34 := fun e => hj (by rw [e]; decide)
        have n36 : j ≠ 36 := fun e => hj (by rw [e]; decide)
        have n37 : j ≠ 37 := fun e => hj (by rw [e]; decide)
        have n38 : j ≠ 38 := fun e => hj (by rw [e]; decide)
        have n39 : j ≠ 39 := fun e => hj (by rw [e]; decide)
        rw [rt_Af_A, if_neg n39]
        funext i
        simp only [rt_AA, if_neg n34, if_neg n36, if_neg n37, if_neg n38]
      · unfold fn_X12_show_131 fn_X12_show_134
        rw [fg_if_1 rfl]
        exact ri_show_0 (by omega) _ _ _ _
    · have w2 : nI (b 0) ≤ nI (c 0) := (n_le (by omega) (by omega)).mpr (by omega)
      have e1 : l_pu a b (0 + 1) c = (c, false) := by
        show (if c 0 < b 0 then _ else _) = _
        rw [if_neg w]
      have e2 : rt_A t 34 0 (nI (c 0) + 0) = t := by
        rw [Int32.add_zero, ← h4]
        exact rt_A_same
      rw [e1, fg_if_1 w2, fg_g_1 v0, fg_if_1 rfl, fg_g_1 v0, fg_let_1, fg_if_1 z0, fg_if_1 rfl, e2]
      unfold fn_X12_show_131 fn_X12_show_134
      rw [fg_if_1 rfl]
      exact ⟨t, ri_show_0 (by omega) _ _ _ _, h, r_fr0⟩
  | succ k ih =>
    intro hk N c O t hN h
    obtain ⟨N, rfl⟩ : ∃ m, N = m + 1 := ⟨N - 1, by omega⟩
    obtain ⟨h1, h2, h3, h4, h5, h6, h7⟩ := h.1 (k + 1) (by omega)
    have v0 : vp_in (nI (k + 1)) 5 := (n_vp (by omega)).mpr (by omega)
    have ix0 : h_ix (nI (k + 1)) = k + 1 := q_nIx (by omega)
    have z0 : ¬ nI (k + 1) = 0 := fun q => by have := (n_eq (a := k + 1) (b := 0) (by omega) (by omega)).mp q; omega
    show ∃ t2, fn_X12_show_5b (fn_X12_show_5 N) x (nI L) (nI (k + 1)) 1 t = _ ∧ _
    unfold fn_X12_show_5b fn_X12_show_34 fn_X12_show_53
    rw [fg_if_0 d1, fg_g_1 v0, fg_g_1 v0, ix0, h3, h4]
    by_cases w : c (k + 1) < b (k + 1)
    · have w2 : ¬ nI (b (k + 1)) ≤ nI (c (k + 1)) := fun q => by have := (n_le (a := b (k + 1)) (b := c (k + 1)) (by omega) (by omega)).mp q; omega
      have hV := l_V_up (k := k + 1) (v := c (k + 1) + 1) h hk (by omega) (by omega)
      have e32 : (rt_A t 34 (k + 1) (nI (c (k + 1) + 1))).2 32 (k + 1) = nI (a (k + 1)) := h2
      have e29 : (rt_A t 34 (k + 1) (nI (c (k + 1) + 1))).2 29 (h_ix 0) = nI (g + 1) := h.2.1
      rw [fg_if_0 w2, fg_g_1 v0, fg_if_0 d1, fg_g_1 v0, fg_let_1, fg_if_0 z0, n_p1]
      unfold fn_X12_show_134
      rw [fg_if_0 d1, fg_g_1 v0, ix0, e32]
      by_cases w3 : a (k + 1) ≤ c (k + 1)
      · have e1 : l_pu a b (k + 1 + 1) c = l_pu a b (k + 1) (l_up c (k + 1) (c (k + 1) + 1)) := by
          show (if c (k + 1) < b (k + 1) then (if a (k + 1) ≤ c (k + 1) then _ else _) else _) = _
          rw [if_pos w, if_pos w3]
        rw [e1, fg_if_0 (fun q => by have := (n_lt (a := c (k + 1)) (b := a (k + 1)) (by omega) (by omega)).mp q; omega), n_pm]
        obtain ⟨t2, f1, f2, f3⟩ := ih (by omega) N _ O _ (by omega) hV
        exact ⟨t2, f1, f2, r_frt (r_frA (by decide)) f3⟩
      · have e1 : l_pu a b (k + 1 + 1) c = (l_up c (k + 1) (c (k + 1) + 1), false) := by
          show (if c (k + 1) < b (k + 1) then (if a (k + 1) ≤ c (k + 1) then _ else _) else _) = _
          rw [if_pos w, if_neg w3]
        rw [e1, fg_if_1 ((n_lt (by omega) (by omega)).mpr (by omega))]
        exact ⟨_, ri_show_0 (by omega) _ _ _ _, hV, r_frA (by decide)⟩
    · have w2 : nI (b (k + 1)) ≤ nI (c (k + 1)) := (n_le (by omega) (by omega)).mpr (by omega)
      have e1 : l_pu a b (k + 1 + 1) c = (c, false) := by
        show (if c (k + 1) < b (k + 1) then _ else _) = _
        rw [if_neg w]
      have e2 : rt_A t 34 (k + 1) (nI (c (k + 1)) + 0) = t := by
        rw [Int32.add_zero, ← h4]
        exact rt_A_same
      rw [e1, fg_if_1 w2, fg_g_1 v0, fg_if_1 rfl, fg_g_1 v0, fg_let_1, fg_if_0 z0, e2]
      unfold fn_X12_show_134
      rw [fg_if_1 rfl]
      exact ⟨t, ri_show_0 (by omega) _ _ _ _, h, r_fr0⟩
theorem ri_show (hL : L ≤ 4) (ha : a 0 = 0) (x : Int32) {c : Nat → Nat} {O : List lI} {t : r_T} (h : l_V L a b c ws g O t) : ∃ t2, fn_X12_show x (nI L) t = some ((), t2) ∧ l_V L a b (l_pu a b (L + 1) c).1 ws g (if (l_pu a b (L + 1) c).2 then O ++ [(x, g, (List.range (L + 1)).map ws)] else O) t2 ∧ r_fr [34, 36, 37, 38, 39] t t2 := ri_show_5 hL ha x L (Nat.le_refl _) g_N c O t (by have := g_N_le; omega) h
end LB
