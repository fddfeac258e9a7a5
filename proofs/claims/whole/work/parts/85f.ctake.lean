section CTk
variable {k : h_S} {s : sA} {y : c_Y} {M : Nat}
theorem cs_taken (h : CBM k s M y) {i z : Nat} (hi : i < sC s 6) (hz : z ≤ 600) : CBM (h_si k (yA y 8 i) 2 (nI z)) (uF s 97 i (nI z)) M y := by
  obtain ⟨h1, h2, h3, h4, d1, d2, d3, d4, d5, d6, d7, d8, d9, d10⟩ := h
  have ht : c_tg 14 (yA y 8 i) := (d6.1 i hi).1
  have g : c_ag (List.range 60) [1, 2, 3, 4, 5, 6, 7, 8, 9, 10, 11, 12, 13] k (h_si k (yA y 8 i) 2 (nI z)) := c_ag_siT ht (by decide) (fun a ha => by have := List.mem_range.mp ha; omega)
  have ff : ∀ x, x ≠ 97 → sF (uF s 97 i (nI z)) x = sF s x := by
    intro x a
    funext q
    rw [sF_uF, if_neg a]
  have fm : ∀ (l : List Nat), 97 ∉ l → ∀ x, x ∈ l → sF (uF s 97 i (nI z)) x = sF s x := fun l a x hx => ff x (fun e => a (e ▸ hx))
  refine ⟨h1, ?_, ?_, ?_, KL_fr d1 g (by decide) (by decide) (fun _ _ => rfl), KW_fr d2 g (by decide) (by decide) rfl (fm _ (by decide)), KV_fr d3 g (by decide) (by decide) rfl (fm _ (by decide)) (fun _ _ => rfl), KC_fr d4 g (by decide) (by decide) rfl (fm _ (by decide)) rfl, KK_fr d5 g (by decide) (by decide) rfl (fm _ (by decide)), ?_, KT_fr d7 g (by decide) (fm _ (by decide)), KH_fr d8 g (by decide) rfl (fm _ (by decide)), KP_fr d9 g (by decide) (by decide) (by decide) (by decide) (by decide) rfl (Nat.le_refl _) rfl, KX_fr d10 g (by decide) (by decide) (by decide) (Nat.le_refl _) (Nat.le_refl _) (fun _ _ _ _ _ _ => rfl)⟩
  · unfold KN at *
    rw [(g.1 0 (by decide)).2.2.1, (g.1 3 (by decide)).2.2.1]
    exact h2
  · refine ⟨?_, ?_, ?_⟩
    · rw [(g.1 1 (by decide)).2.2.1, ff 2 (by decide)]; exact h3.1
    · rw [(g.1 15 (by decide)).2.2.1, ff 9 (by decide)]; exact h3.2.1
    · rw [(g.1 11 (by decide)).2.2.1, ff 104 (by decide)]; exact h3.2.2
  · unfold KG
    rw [(g.1 2 (by decide)).2.2.1]
    exact h4
  · refine ⟨fun q hq => ?_, d6.2⟩
    have hq : q < sC s 6 := hq
    obtain ⟨a1, a2, a3, a4, a5, a6, a7, a8, a9, a10⟩ := d6.1 q hq
    rw [ff 90 (by decide), ff 91 (by decide), ff 92 (by decide), ff 93 (by decide), ff 94 (by decide), ff 95 (by decide), ff 96 (by decide), sF_uF, if_pos rfl]
    by_cases e : q = i
    · subst e
      refine ⟨a1, a2, ?_, ?_, ?_, ?_, ?_, ?_, ?_, ?_⟩
      · rw [h_i_si, if_neg (by omega)]; exact a3
      · rw [h_i_si, if_neg (by omega)]; exact a4
      · rw [h_i_si, if_pos ⟨rfl, rfl⟩, if_pos rfl, s_nvI hz]
      · rw [h_i_si, if_neg (by omega)]; exact a6
      · rw [h_i_si, if_neg (by omega)]; exact a7
      · rw [h_i_si, if_neg (by omega)]; exact a8
      · rw [h_i_si, if_neg (by omega)]; exact a9
      · rw [h_i_si, if_neg (by omega)]; exact a10
    · have ne : yA y 8 q ≠ yA y 8 i := fun w => e (d6.2 q i hq hi w)
      rw [if_neg e, (c_eq_si ne).2.2.1]
      exact ⟨a1, a2, a3, a4, a5, a6, a7, a8, a9, a10⟩
theorem ci_isThere (h : CBM k s M y) {i : Nat} (hi : i < sC s 6) (hm : s_mn (sF s 97 i)) : fn_X3_isThere (yA y 8 i) k = some (q_b (sF s 97 i = -9), k) := by
  obtain ⟨w1, _, _, w4, _⟩ := CB_rt h hi
  unfold fn_X3_isThere
  rw [fg_g_1 w1, w4]
  by_cases c2 : sF s 97 i = -9
  · rw [q_b1 c2, fg_if_1 ((s_nv_mn hm).mpr c2)]
  · rw [q_b0 c2, fg_if_0 (fun w => c2 ((s_nv_mn hm).mp w))]
theorem ci_take_40 (v : ivc s) (g : ivg s) (hM : M ≤ sC s 0 + 1) (vm : ∀ i, i < sC s 6 → s_mn (sF s 97 i)) {r : Nat} (hr : r < sC s 6) : ∀ (d j N : Nat) (K : h_S), j + d = sC s 6 → d < N → CBM K (uFf s 97 (s_tkF s r (sC s 0 + 1) j)) M y → ∃ K2, fn_X11_take_40 N (nI r) (nI (s_tkN s r j)) (nI j) K = some (nI (s_tkN s r (sC s 6)), K2) ∧ CB K2 (s_act (uFf s 97 (s_tkF s r (sC s 0 + 1) (sC s 6))) (nI (s_tkN s r (sC s 6)))) y := by
  have v0 := v.1
  have v6 := v.2.2.2.2.2.2.1
  intro d
  induction d with
  | zero =>
    intro j N K hj hN h
    obtain ⟨N, rfl⟩ : ∃ m, N = m + 1 := ⟨N - 1, by omega⟩
    have ej : j = sC s 6 := by omega
    subst ej
    have hl := h.2.2.2.2.1.2.2.2.1
    refine ⟨_, ?_, cs_act h hM g _⟩
    show fn_X11_take_40b _ _ _ _ _ = _
    unfold fn_X11_take_40b
    rw [ci_size (ck_8 h.1) hl, fg_b_1, show sC (uFf s 97 (s_tkF s r (sC s 0 + 1) (sC s 6))) 6 = sC s 6 from rfl, fg_if_1 ((n_le (by omega) (by omega)).mpr (by omega)), ci_acted h.2.1.1 v0, fg_b_1]
  | succ d ih =>
    intro j N K hj hN h
    obtain ⟨N, rfl⟩ : ∃ m, N = m + 1 := ⟨N - 1, by omega⟩
    have hl := h.2.2.2.2.1.2.2.2.1
    have hj2 : j < sC s 6 := by omega
    have hj3 : j < sC (uFf s 97 (s_tkF s r (sC s 0 + 1) j)) 6 := hj2
    obtain ⟨w1, w2, w3, w4, w5, w6, w7, w8, w9⟩ := CB_rt h hj3
    have e97 : sF (uFf s 97 (s_tkF s r (sC s 0 + 1) j)) 97 j = sF s 97 j := by
      rw [sF_uFf, if_pos rfl]
      unfold s_tkF
      rw [fg_if_0 (by omega)]
    have e95 : sF (uFf s 97 (s_tkF s r (sC s 0 + 1) j)) 95 j = sF s 95 j := by rw [sF_uFf, if_neg (by decide)]
    have hg : ∀ x, some (yA y 8 j) = some x → h_k K x = 24 := by
      intro z hz
      cases hz
      exact w1
    have et := ci_isThere h hj3 (by rw [e97]; exact vm j hj2)
    rw [e97] at et
    -- one that may be taken
    have t78 : (j = r ∨ sF s 95 j = nI r) → ∃ K2, fn_X11_take_78 (fn_X11_take_40 N) (nI r) (nI (s_tkN s r j)) (nI j) (some (yA y 8 j)) K = some (nI (s_tkN s r (sC s 6)), K2) ∧ CB K2 (s_act (uFf s 97 (s_tkF s r (sC s 0 + 1) (sC s 6))) (nI (s_tkN s r (sC s 6)))) y := by
      intro ho
      unfold fn_X11_take_78
      simp only [fg_o_1, fg_g_1 w1, et, fg_b_1, q_b_if, n_p1]
      by_cases c : sF s 97 j = -9
      · have tk : s_tk s r j := ⟨ho, c⟩
        have en : s_tkN s r (j + 1) = s_tkN s r j + 1 := by
          show s_tkN s r j + fg_if (s_tk s r j) 1 0 = _
          rw [fg_if_1 tk]
        have h2 := cs_taken h hj3 (show sC s 0 + 1 ≤ 600 by omega)
        rw [s_tkF_y tk] at h2
        obtain ⟨K2, a1, a2⟩ := ih (j + 1) N _ (by omega) (by omega) h2
        rw [en] at a1
        have i0 : h_i K 0 0 = nI (sC s 0) := h.2.1.1
        rw [fg_if_1 c, fg_let_1, i0, n_p1, a1]
        exact ⟨K2, rfl, a2⟩
      · have tk : ¬ s_tk s r j := fun w => c w.2
        have en : s_tkN s r (j + 1) = s_tkN s r j := by
          show s_tkN s r j + fg_if (s_tk s r j) 1 0 = _
          rw [fg_if_0 tk]; rfl
        have h2 := h
        rw [← s_tkF_n tk] at h2
        obtain ⟨K2, a1, a2⟩ := ih (j + 1) N _ (by omega) (by omega) h2
        rw [en] at a1
        rw [fg_if_0 c, a1]
        exact ⟨K2, rfl, a2⟩
    show ∃ K2, fn_X11_take_40b (fn_X11_take_40 N) _ _ _ _ = _ ∧ _
    unfold fn_X11_take_40b
    rw [ci_size (ck_8 h.1) hl, fg_b_1, show sC (uFf s 97 (s_tkF s r (sC s 0 + 1) j)) 6 = sC s 6 from rfl, fg_if_0 (fun q => by have := (n_le (a := sC s 6) (b := j) (by omega) (by omega)).mp q; omega), ci_get (ck_8 h.1) hl hj3, fg_b_1, fg_g_1 hg, fg_o_1, fg_g_1 w1, w9, e95]
    by_cases c1 : j = r
    · rw [fg_if_1 (by rw [c1])]
      exact t78 (Or.inl c1)
    · rw [fg_if_0 (fun w => c1 ((n_eq (by omega) (by omega)).mp w))]
      by_cases c2 : sF s 95 j = nI r
      · rw [fg_if_1 c2]
        exact t78 (Or.inr c2)
      · have tk : ¬ s_tk s r j := fun w => w.1.elim c1 c2
        have en : s_tkN s r (j + 1) = s_tkN s r j := by
          show s_tkN s r j + fg_if (s_tk s r j) 1 0 = _
          rw [fg_if_0 tk]; rfl
        have h2 := h
        rw [← s_tkF_n tk] at h2
        obtain ⟨K2, a1, a2⟩ := ih (j + 1) N _ (by omega) (by omega) h2
        rw [en] at a1
        rw [fg_if_0 c2, n_p1, a1]
        exact ⟨K2, rfl, a2⟩
theorem cs_take (h : CB k s y) (v : ivc s) (g : ivg s) (vm : ∀ i, i < sC s 6 → s_mn (sF s 97 i)) (r : Int32) : ∃ k2, fn_X11_take r k = some ((s_take s r).1, k2) ∧ CB k2 (s_take s r).2 y := by
  have v6 := v.2.2.2.2.2.2.1
  have hl := h.2.2.2.2.1.2.2.2.1
  unfold fn_X11_take s_take
  rw [ci_size (ck_8 h.1) hl, fg_b_1, ci_withinN _ (by omega), fg_b_1, q_b_if]
  by_cases c : q_in r (sC s 6)
  · obtain ⟨e, l⟩ := n_in c
    rw [fg_if_1 c, fg_if_1 c]
    generalize h_ix r = i at e l
    subst e
    obtain ⟨w1, _⟩ := CB_rt (CB_M h) l
    have hg : ∀ x, some (yA y 8 i) = some x → h_k k x = 24 := by
      intro z hz
      cases hz
      exact w1
    rw [ci_get (ck_8 h.1) hl l, fg_b_1, fg_g_1 hg, fg_o_1, fg_g_1 w1, ci_isThere (CB_M h) l (vm i l), fg_b_1, q_b_if]
    by_cases c2 : sF s 97 i = -9
    · rw [fg_if_1 c2, fg_if_1 c2]
      have h2 := CB_M h
      have h3 : CBM k (uFf s 97 (s_tkF s i (sC s 0 + 1) 0)) (sC s 0) y := by rw [s_tkF_0]; exact h2
      exact ci_take_40 v g (by omega) vm l (sC s 6) 0 g_N k (by omega) (by have := g_N_le; omega) h3
    · rw [fg_if_0 c2, fg_if_0 c2]
      exact ⟨k, rfl, h⟩
  · rw [fg_if_0 c, fg_if_0 c]
    exact ⟨k, rfl, h⟩
end CTk
