section RRi
variable {t : r_T} {s : sA}
theorem s_whr_v (x w u m : Int32) : ∀ (n j : Nat), s_whr s x w u m n j = -9 ∨ ∃ i, i < j + n ∧ s_whr s x w u m n j = nI i := by
  intro n
  induction n with
  | zero => intro j; exact Or.inl rfl
  | succ n ih =>
    intro j
    unfold s_whr
    by_cases c : sF s 90 j = w ∧ s_mine s j x m ∧ s_hold s j u m
    · rw [fg_if_1 c]; exact Or.inr ⟨j, by omega, rfl⟩
    · rw [fg_if_0 c]
      rcases ih (j + 1) with w | ⟨i, hi, w⟩
      · exact Or.inl w
      · exact Or.inr ⟨i, by omega, w⟩
theorem rs_may (h : RA t s) (v : ivc s) (vr : ivr s) (x w u m : Int32) : ∃ t2, fn_X12_may x w u m t = some ((s_may s x w u m).1, t2) ∧ RA t2 (s_may s x w u m).2 := by
  have v6 := v.2.2.2.2.2.2.1
  refine ⟨t, ?_, h⟩
  unfold fn_X12_may
  rw [rs_why h v vr, fg_b_1]
  unfold s_why s_may
  have n1 : ¬ (-1 : Int32) = -9 := by decide
  have n2 : ¬ (-2 : Int32) = -9 := by decide
  have n3 : ¬ (0 : Int32) ≤ -1 := by decide
  have n4 : ¬ (0 : Int32) ≤ -2 := by decide
  by_cases c : q_in x (sC s 1) ∧ q_in w (sC s 2) ∧ q_in m ((sC s 0 : Nat) + 1)
  · simp only [fg_if_1 c]
    by_cases c2 : q_in u 3
    · simp only [fg_if_1 c2]
      by_cases c3 : s_whyOf s x w u m = -9
      · simp only [fg_if_1 c3]
      · have c4 : 0 ≤ s_whyOf s x w u m := by
          unfold s_whyOf at *
          by_cases c5 : sF s 9 (h_ix w) = x
          · rw [fg_if_1 c5]; decide
          · rw [fg_if_0 c5] at c3 ⊢
            rcases s_whr_v (s := s) x w u m (sC s 6) 0 with q | ⟨i, hi, q⟩
            · exact absurd q c3
            · rw [q]; exact n_0le (by omega)
        simp only [fg_if_0 c3, fg_if_1 c4]
    · simp only [fg_if_0 c2, fg_if_0 n2, fg_if_0 n4]
  · simp only [fg_if_0 c, fg_if_0 n1, fg_if_0 n3]
theorem ri_addRight (h : RA t s) (v : ivc s) (hn : sC s 6 < 20) (w g u f e o : Int32) : ∃ t2, fn_X12_addRight w g u f e o t = some ((), t2) ∧ t2.1 89 = nI (sC s 6 + 1) ∧ RA t2 (s_addR s w g u f e o) := by
  unfold fn_X12_addRight s_addR
  have g1 : vp_in (nI (sC s 6)) 20 := (n_vp (by omega)).mpr hn
  have h2 := RA_A (k := 97) (i := sC s 6) (v := -9) (RA_A (k := 96) (i := sC s 6) (v := nI (sC s 0 + 1)) (RA_A (k := 95) (i := sC s 6) (v := o) (RA_A (k := 94) (i := sC s 6) (v := e) (RA_A (k := 93) (i := sC s 6) (v := f) (RA_A (k := 92) (i := sC s 6) (v := u) (RA_A (k := 91) (i := sC s 6) (v := g) (RA_A (k := 90) (i := sC s 6) (v := w) h rfl) rfl) rfl) rfl) rfl) rfl) rfl) rfl
  simp only [fg_let_1, rt_AF, rt_FF, if_true, h.1.2.2.2.2.2.2.1, h.1.1, fg_g_1 g1, n_p1, q_nIx (k := sC s 6) (by omega)]
  refine ⟨_, rfl, by simp [rt_FF], ?_⟩
  refine RA_up h2 ?_ h2.2.1 rfl rfl (Nat.le_refl _) rfl rfl rfl rfl rfl rfl rfl rfl rfl (fun _ _ => rfl)
  have h1 := h2.1
  unfold RN at *
  simp only [rt_FF, sC_uC, sN_uC]
  simp [h1]
theorem rs_lend (h : RA t s) (v : ivc s) (vr : ivr s) (r x o : Int32) : ∃ t2, fn_X12_lend r x o t = some ((s_lend s r x o).1, t2) ∧ RA t2 (s_lend s r x o).2 := by
  have v0 := v.1
  have v6 := v.2.2.2.2.2.2.1
  unfold fn_X12_lend s_lend
  simp only [ri_noRight h v, ri_noHand h v, fg_b_1, q_bn_if]
  by_cases c1 : q_in r (sC s 6)
  · simp only [fg_if_1 c1]
    by_cases c2 : q_in x (sC s 1)
    · simp only [fg_if_1 c2]
      by_cases c3 : q_in o (sC s 1)
      · have c : q_in r (sC s 6) ∧ q_in x (sC s 1) ∧ q_in o (sC s 1) := ⟨c1, c2, c3⟩
        simp only [fg_if_1 c3, fg_if_1 c]
        by_cases c4 : x = o
        · simp only [fg_if_1 c4]
          exact ⟨t, rfl, h⟩
        · simp only [fg_if_0 c4]
          obtain ⟨e1, l1⟩ := n_in c1
          generalize h_ix r = r2 at e1 l1
          subst e1
          have g1 : vp_in (nI r2) 20 := (n_vp (by omega)).mpr (by omega)
          simp only [h.1.1, ri_allows h v vr l1 x 2 (show sC s 0 < 2 ^ 31 by omega), fg_b_1, q_b_if, fg_g_1 g1]
          by_cases c5 : s_mine s r2 x (nI (sC s 0)) ∧ s_hold s r2 2 (nI (sC s 0))
          · simp only [fg_if_1 c5, h.1.2.2.2.2.2.2.1, show (20 : Int32) = nI 20 from rfl, n_eq (show sC s 6 < 2 ^ 31 by omega) (show 20 < 2 ^ 31 by omega)]
            by_cases c6 : sC s 6 = 20
            · simp only [fg_if_1 c6]
              exact ⟨t, rfl, h⟩
            · simp only [fg_if_0 c6, h.2.1 90 rfl, h.2.1 92 rfl, h.2.1 93 rfl, h.2.1 94 rfl]
              obtain ⟨t2, a1, a2, a3⟩ := ri_addRight h v (by omega) (sF s 90 r2) (8 + o) (sF s 92 r2 &&& 3) (sF s 93 r2) (sF s 94 r2) (nI r2)
              rw [a1, fg_b_1, a2, n_m1, ri_acted a3 ⟨v.1, v.2.1, v.2.2.1, v.2.2.2.1, v.2.2.2.2.1, v.2.2.2.2.2.1, show sC s 6 + 1 ≤ 20 by omega, v.2.2.2.2.2.2.2⟩, fg_b_1]
              exact ⟨_, rfl, rs_act a3 _⟩
          · simp only [fg_if_0 c5]
            exact ⟨t, rfl, h⟩
      · have c : ¬ (q_in r (sC s 6) ∧ q_in x (sC s 1) ∧ q_in o (sC s 1)) := fun w => c3 w.2.2
        simp only [fg_if_0 c3, fg_if_0 c]
        exact ⟨t, rfl, h⟩
    · have c : ¬ (q_in r (sC s 6) ∧ q_in x (sC s 1) ∧ q_in o (sC s 1)) := fun w => c2 w.2.1
      simp only [fg_if_0 c2, fg_if_0 c]
      exact ⟨t, rfl, h⟩
  · have c : ¬ (q_in r (sC s 6) ∧ q_in x (sC s 1) ∧ q_in o (sC s 1)) := fun w => c1 w.1
    simp only [fg_if_0 c1, fg_if_0 c]
    exact ⟨t, rfl, h⟩
end RRi
