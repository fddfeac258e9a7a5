section RTk
variable {t : r_T} {s : sA}
/-- rights hang on earlier ones that hang on none; taken at moments that were -/
def ivk (s : sA) : Prop := ∀ i, i < sC s 6 → (sF s 95 i = -9 ∨ ∃ o, o < i ∧ sF s 95 i = nI o ∧ sF s 95 o = -9) ∧ (sF s 97 i = -9 ∨ ∃ z, z ≤ sC s 0 ∧ sF s 97 i = nI z)
theorem n_m9 {n : Nat} (hn : n < 2 ^ 31) : ¬ nI n = -9 := fun w => by
  have := congrArg Int32.toInt w
  rw [q_nI hn] at this
  have e1 : (-9 : Int32).toInt = -9 := rfl
  omega
theorem s_tk_lt (v : ivc s) (vk : ivk s) {r i : Nat} (hr : r < sC s 6) (hi : i < r) : ¬ s_tk s r i := by
  have v6 := v.2.2.2.2.2.2.1
  intro w
  rcases w.1 with q | q
  · omega
  · rcases (vk i (by omega)).1 with e | ⟨o, ho, e, _⟩
    · rw [e] at q
      exact n_m9 (n := r) (by omega) q.symm
    · rw [e] at q
      have := (n_eq (by omega) (by omega)).mp q
      omega
theorem s_tk_0 (v : ivc s) (vk : ivk s) {r z : Nat} (hr : r < sC s 6) : ∀ j, j ≤ r → s_tkF s r z j = s_tkF s r z 0 ∧ s_tkN s r j = 0 := by
  intro j
  induction j with
  | zero => intro _; exact ⟨rfl, rfl⟩
  | succ j ih =>
    intro hj
    obtain ⟨a, b⟩ := ih (by omega)
    have n := s_tk_lt v vk hr (show j < r by omega)
    refine ⟨(s_tkF_n n).trans a, ?_⟩
    show s_tkN s r j + fg_if (s_tk s r j) 1 0 = 0
    rw [fg_if_0 n, b]
theorem ri_take_42 (v : ivc s) (vk : ivk s) {r : Nat} (hr : r < sC s 6) (h97 : sF s 97 r = -9) : ∀ (d j N : Nat) (T : r_T), r < j → j + d = sC s 6 → d < N → RA T (uFf s 97 (s_tkF s r (sC s 0 + 1) j)) → ∃ t2, fn_X12_take_42 N (nI (s_tkN s r j)) (nI j) T = some (nI (s_tkN s r (sC s 6)), t2) ∧ RA t2 (s_act (uFf s 97 (s_tkF s r (sC s 0 + 1) (sC s 6))) (nI (s_tkN s r (sC s 6)))) := by
  have v0 := v.1
  have v6 := v.2.2.2.2.2.2.1
  intro d
  induction d with
  | zero =>
    intro j N T hrj hj hN h
    obtain ⟨N, rfl⟩ : ∃ m, N = m + 1 := ⟨N - 1, by omega⟩
    have ej : j = sC s 6 := by omega
    subst ej
    have i89 : T.1 89 = nI (sC s 6) := h.1.2.2.2.2.2.2.1
    refine ⟨_, ?_, rs_act h _⟩
    show fn_X12_take_42b _ _ _ _ = _
    unfold fn_X12_take_42b
    rw [i89, fg_if_1 ((n_le (by omega) (by omega)).mpr (by omega)), ri_acted h v, fg_b_1]
  | succ d ih =>
    intro j N T hrj hj hN h
    obtain ⟨N, rfl⟩ : ∃ m, N = m + 1 := ⟨N - 1, by omega⟩
    have hj2 : j < sC s 6 := by omega
    have i89 : T.1 89 = nI (sC s 6) := h.1.2.2.2.2.2.2.1
    have i1 : T.1 1 = nI (sC s 0) := h.1.1
    have g1 : vp_in (nI j) 20 := (n_vp (by omega)).mpr (by omega)
    have e95 : T.2 95 j = sF s 95 j := by rw [h.2.1 95 rfl, sF_uFf, if_neg (by decide)]
    have e97 : ∀ i, T.2 97 i = s_tkF s r (sC s 0 + 1) j i := fun i => by rw [h.2.1 97 rfl, sF_uFf, if_pos rfl]
    have e97j : T.2 97 j = sF s 97 j := by
      rw [e97]
      unfold s_tkF
      rw [fg_if_0 (by omega)]
    have nx : ¬ s_tk s r j → ∃ t2, fn_X12_take_42 N (nI (s_tkN s r j)) (nI (j + 1)) T = some (nI (s_tkN s r (sC s 6)), t2) ∧ RA t2 (s_act (uFf s 97 (s_tkF s r (sC s 0 + 1) (sC s 6))) (nI (s_tkN s r (sC s 6)))) := by
      intro tk
      have en : s_tkN s r (j + 1) = s_tkN s r j := by
        show s_tkN s r j + fg_if (s_tk s r j) 1 0 = _
        rw [fg_if_0 tk]; rfl
      have h2 := h
      rw [← s_tkF_n tk] at h2
      have := ih (j + 1) N T (by omega) (by omega) (by omega) h2
      rw [en] at this
      exact this
    show ∃ t2, fn_X12_take_42b (fn_X12_take_42 N) _ _ _ = _ ∧ _
    unfold fn_X12_take_42b
    rw [i89, fg_if_0 (fun q => by have := (n_le (a := sC s 6) (b := j) (by omega) (by omega)).mp q; omega), fg_g_1 g1, q_nIx (by omega), e95, n_p1]
    rcases (vk j hj2).1 with e | ⟨o, ho, e, eo⟩
    · rw [fg_if_1 (by rw [e]; decide)]
      exact nx (fun w => by
        rcases w.1 with q | q
        · omega
        · rw [e] at q; exact n_m9 (n := r) (by omega) q.symm)
    · rw [e, fg_if_0 (n_neg (by omega)), fg_g_1 g1, e97j]
      by_cases c : sF s 97 j = -9
      · have g2 : vp_in (nI o) 20 := (n_vp (by omega)).mpr (by omega)
        rw [fg_if_1 c, fg_g_1 g1, fg_g_1 g2, q_nIx (by omega), i1, n_p1, e97]
        by_cases c2 : o = r
        · have tk : s_tk s r j := ⟨Or.inr (by rw [e, c2]), c⟩
          have tr : s_tk s r o := ⟨Or.inl c2, by rw [c2]; exact h97⟩
          have ez : s_tkF s r (sC s 0 + 1) j o = nI (sC s 0 + 1) := by
            unfold s_tkF
            rw [fg_if_1 ⟨ho, tr⟩]
          have en : s_tkN s r (j + 1) = s_tkN s r j + 1 := by
            show s_tkN s r j + fg_if (s_tk s r j) 1 0 = _
            rw [fg_if_1 tk]
          have h2 := RA_A (k := 97) (i := j) (v := nI (sC s 0 + 1)) h rfl
          rw [s_tkF_y tk] at h2
          have := ih (j + 1) N _ (by omega) (by omega) (by omega) h2
          rw [en] at this
          rw [fg_if_1 ez, fg_g_1 g1, fg_let_1, n_p1]
          exact this
        · have tr : ¬ s_tk s r o := fun w => by
            rcases w.1 with q | q
            · exact c2 q
            · rw [eo] at q; exact n_m9 (n := r) (by omega) q.symm
          have ez : ¬ s_tkF s r (sC s 0 + 1) j o = nI (sC s 0 + 1) := by
            unfold s_tkF
            rw [fg_if_0 (fun w => tr w.2)]
            intro w
            rcases (vk o (by omega)).2 with q | ⟨z, hz, q⟩
            · rw [q] at w; exact n_m9 (n := sC s 0 + 1) (by omega) w.symm
            · rw [q] at w
              have := (n_eq (by omega) (by omega)).mp w
              omega
          rw [fg_if_0 ez]
          exact nx (fun w => by
            rcases w.1 with q | q
            · omega
            · rw [e] at q; exact c2 ((n_eq (by omega) (by omega)).mp q))
      · rw [fg_if_0 c]
        exact nx (fun w => c w.2)
theorem rs_take (h : RA t s) (v : ivc s) (vk : ivk s) (r : Int32) : ∃ t2, fn_X12_take r t = some ((s_take s r).1, t2) ∧ RA t2 (s_take s r).2 := by
  have v0 := v.1
  have v6 := v.2.2.2.2.2.2.1
  unfold fn_X12_take s_take
  simp only [ri_noRight h v, fg_b_1, q_bn_if]
  by_cases c1 : q_in r (sC s 6)
  · obtain ⟨e1, l1⟩ := n_in c1
    simp only [fg_if_1 c1]
    generalize h_ix r = r2 at e1 l1
    subst e1
    have g1 : vp_in (nI r2) 20 := (n_vp (by omega)).mpr (by omega)
    simp only [fg_g_1 g1, h.2.1 97 rfl, h.1.1, n_p1, fg_let_1]
    by_cases c2 : sF s 97 r2 = -9
    · rw [fg_if_1 c2, fg_if_1 c2]
      have tk : s_tk s r2 r2 := ⟨Or.inl rfl, c2⟩
      obtain ⟨a, b⟩ := s_tk_0 v vk (z := sC s 0 + 1) l1 r2 (Nat.le_refl _)
      have en : s_tkN s r2 (r2 + 1) = 1 := by
        show s_tkN s r2 r2 + fg_if (s_tk s r2 r2) 1 0 = 1
        rw [fg_if_1 tk, b]
      have h2 := RA_A (k := 97) (i := r2) (v := nI (sC s 0 + 1)) h rfl
      have e3 : uF s 97 r2 (nI (sC s 0 + 1)) = uFf s 97 (s_tkF s r2 (sC s 0 + 1) (r2 + 1)) := by
        rw [← s_tkF_y tk, a, s_tkF_0]
      rw [e3] at h2
      have := ri_take_42 v vk l1 c2 (sC s 6 - (r2 + 1)) (r2 + 1) g_N _ (by omega) (by omega) (by have := g_N_le; omega) h2
      rw [en] at this
      exact this
    · rw [fg_if_0 c2, fg_if_0 c2]
      exact ⟨t, rfl, h⟩
  · simp only [fg_if_0 c1]
    exact ⟨t, rfl, h⟩
end RTk
