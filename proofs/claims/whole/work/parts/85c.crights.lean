section CRi
variable {k k4 k5 : h_S} {s s2 : sA} {y : c_Y} {M : Nat}
/-- what was there stays -/
def c_jk (k k4 : h_S) : Prop := ∀ x, h_k k x ≠ 0 ∨ x < 128 → c_eq k k4 x
theorem c_jk_ag (g : c_jk k k4) : c_ag (List.range 60) [1, 2, 3, 4, 5, 6, 7, 8, 9, 10, 11, 12, 13, 14] k k4 := ⟨fun a ha => g a (Or.inr (by have := List.mem_range.mp ha; omega)), fun a _ _ hk => g a (Or.inl hk)⟩
theorem CB_junk (h : CBM k s M y) (hF : c_F k4) (gj : c_jk k k4) : CBM k4 s M y := by
  have g := c_jk_ag gj
  obtain ⟨h1, h2, h3, h4, d1, d2, d3, d4, d5, d6, d7, d8, d9, d10⟩ := h
  refine ⟨hF, ?_, ?_, ?_, KL_fr d1 g (by decide) (by decide) (fun _ _ => rfl), KW_fr d2 g (by decide) (by decide) rfl (fun _ _ => rfl), KV_fr d3 g (by decide) (by decide) rfl (fun _ _ => rfl) (fun _ _ => rfl), KC_fr d4 g (by decide) (by decide) rfl (fun _ _ => rfl) rfl, KK_fr d5 g (by decide) (by decide) rfl (fun _ _ => rfl), KR_fr d6 g (by decide) rfl (fun _ _ => rfl), KT_fr d7 g (by decide) (fun _ _ => rfl), KH_fr d8 g (by decide) rfl (fun _ _ => rfl), KP_fr d9 g (by decide) (by decide) (by decide) (by decide) (by decide) rfl (Nat.le_refl _) rfl, KX_fr d10 g (by decide) (by decide) (by decide) (Nat.le_refl _) (Nat.le_refl _) (fun _ _ _ _ _ _ => rfl)⟩
  · unfold KN at *
    rw [(g.1 0 (by decide)).2.2.1, (g.1 3 (by decide)).2.2.1]
    exact h2
  · refine ⟨?_, ?_, ?_⟩
    · rw [(g.1 1 (by decide)).2.2.1]; exact h3.1
    · rw [(g.1 15 (by decide)).2.2.1]; exact h3.2.1
    · rw [(g.1 11 (by decide)).2.2.1]; exact h3.2.2
  · unfold KG
    rw [(g.1 2 (by decide)).2.2.1]
    exact h4
theorem s_addR_F (w g u f t o : Int32) (x : Nat) (hx : x < 90 ∨ 97 < x) : sF (s_addR s w g u f t o) x = sF s x := by
  funext i
  unfold s_addR
  rw [sF_uC, sF_uF, if_neg (by omega), sF_uF, if_neg (by omega), sF_uF, if_neg (by omega), sF_uF, if_neg (by omega), sF_uF, if_neg (by omega), sF_uF, if_neg (by omega), sF_uF, if_neg (by omega), sF_uF, if_neg (by omega)]
theorem s_addR_o (w g u f t o : Int32) (x : Nat) {i : Nat} (hi : i ≠ sC s 6) : sF (s_addR s w g u f t o) x i = sF s x i := by
  unfold s_addR
  rw [sF_uC]
  simp only [sF_uF, if_neg hi, ite_self]
theorem s_addR_n (w g u f t o : Int32) : sF (s_addR s w g u f t o) 90 (sC s 6) = w ∧ sF (s_addR s w g u f t o) 91 (sC s 6) = g ∧ sF (s_addR s w g u f t o) 92 (sC s 6) = u ∧ sF (s_addR s w g u f t o) 93 (sC s 6) = f ∧ sF (s_addR s w g u f t o) 94 (sC s 6) = t ∧ sF (s_addR s w g u f t o) 95 (sC s 6) = o ∧ sF (s_addR s w g u f t o) 96 (sC s 6) = nI (sC s 0 + 1) ∧ sF (s_addR s w g u f t o) 97 (sC s 6) = -9 := by
  unfold s_addR
  refine ⟨?_, ?_, ?_, ?_, ?_, ?_, ?_, ?_⟩ <;> rw [sF_uC] <;> simp [sF_uF]
/-- a right's object -/
def c_rt (k : h_S) (q : Nat) (w m g u f t o : Int32) : Prop := c_tg 14 q ∧ h_k k q = 24 ∧ h_i k q 0 = w ∧ h_i k q 1 = m ∧ h_i k q 2 = 2147483647 ∧ h_i k q 3 = g ∧ h_i k q 4 = u ∧ h_i k q 5 = f ∧ h_i k q 6 = t ∧ h_i k q 7 = o
theorem cs_addR {q E2 : Nat} {w g u f t o : Int32} (h : CBM k s M y) (gj : c_jk k k4) (q0 : h_k k q = 0) (hq : c_rt k4 q w (nI (sC s 0 + 1)) g u f t o) (hx : c_ADD k4 k5 8 (sC s 6) (yE y 8) E2 q (yA y 8)) : CBM k5 (s_addR s w g u f t o) M (yUL y 8 E2 (fun i => if i = sC s 6 then q else yA y 8 i)) := by
  obtain ⟨h1, h2, h3, h4, d1, d2, d3, d4, d5, d6, d7, d8, d9, d10⟩ := h
  have ga := c_jk_ag gj
  have gb : c_ag ((List.range 60).filter (fun a => a != 8)) [1, 2, 3, 4, 5, 6, 8, 9, 10, 11, 12, 13, 14] k4 k5 := c_ADD_ag hx (by decide) (by decide) (by decide) (by decide)
  have gg : c_ag ((List.range 60).filter (fun a => a != 8)) [1, 2, 3, 4, 5, 6, 8, 9, 10, 11, 12, 13, 14] k k5 := c_agt (c_agm ga (fun a ha => (List.mem_filter.mp ha).1) (by decide)) gb
  have l4 : KL k4 s y := KL_fr d1 ga (by decide) (by decide) (fun _ _ => rfl)
  have fm : ∀ (l : List Nat), (∀ x, x ∈ l → x < 90 ∨ 97 < x) → ∀ x, x ∈ l → sF (s_addR s w g u f t o) x = sF s x := fun l a x hx => s_addR_F _ _ _ _ _ _ x (a x hx)
  have hq5 : c_eq k4 k5 q := gb.2 q hq.1.1 (by rw [hq.1.2]; decide) (by rw [hq.2.1]; decide)
  refine ⟨hx.1, ?_, ?_, ?_, KL_add l4 (by decide) hx rfl (fun P hP hn => ?_), KW_fr d2 gg (by decide) (by decide) rfl (fm _ (by decide)), KV_fr d3 gg (by decide) (by decide) rfl (fm _ (by decide)) (fun _ _ => rfl), KC_fr d4 gg (by decide) (by decide) rfl (fm _ (by decide)) rfl, KK_fr d5 gg (by decide) (by decide) rfl (fm _ (by decide)), ?_, KT_fr d7 gg (by decide) (fm _ (by decide)), KH_fr d8 gg (by decide) rfl (fm _ (by decide)), KP_fr d9 gg (by decide) (by decide) (by decide) (by decide) (by decide) rfl (Nat.le_refl _) rfl, KX_fr d10 gg (by decide) (by decide) (by decide) (Nat.le_refl _) (Nat.le_refl _) (fun _ _ _ _ _ _ => rfl)⟩
  · unfold KN at *
    rw [(gg.1 0 (by decide)).2.2.1, (gg.1 3 (by decide)).2.2.1]
    exact h2
  · refine ⟨?_, ?_, ?_⟩
    · rw [(gg.1 1 (by decide)).2.2.1, s_addR_F _ _ _ _ _ _ 2 (by decide)]; exact h3.1
    · rw [(gg.1 15 (by decide)).2.2.1, s_addR_F _ _ _ _ _ _ 9 (by decide)]; exact h3.2.1
    · rw [(gg.1 11 (by decide)).2.2.1, s_addR_F _ _ _ _ _ _ 104 (by decide)]; exact h3.2.2
  · unfold KG
    rw [(gg.1 2 (by decide)).2.2.1]
    exact h4
  · simp only [c_Ls, List.mem_cons, List.not_mem_nil, or_false] at hP
    rcases hP with rfl | rfl | rfl | rfl | rfl
    · rfl
    · rfl
    · rfl
    · exact absurd rfl hn
    · rfl
  · have ey : yA (yUL y 8 E2 (fun i => if i = sC s 6 then q else yA y 8 i)) 8 = fun i => if i = sC s 6 then q else yA y 8 i := by rw [yA_UL, if_pos rfl]
    unfold KR
    rw [ey]
    refine ⟨fun i hi => ?_, fun i j hi hj e => ?_⟩
    · have hi : i < sC s 6 + 1 := hi
      by_cases e : i = sC s 6
      · obtain ⟨n1, n2, n3, n4, n5, n6, n7, n8⟩ := s_addR_n (s := s) w g u f t o
        subst e
        simp only [if_true, n1, n2, n3, n4, n5, n6, n7, n8]
        rw [hq5.1, hq5.2.2.1]
        obtain ⟨a1, a2, a3, a4, a5, a6, a7, a8, a9, a10⟩ := hq
        exact ⟨a1, a2, a3, a4, a5, a6, a7, a8, a9, a10⟩
      · simp only [if_neg e, s_addR_o (s := s) w g u f t o _ e]
        have a := d6.1 i (by omega)
        have e := c_agd gg a.1 (by decide) (by rw [a.2.1]; decide)
        rw [e.1, e.2.2.1]
        exact a
    · have hi : i < sC s 6 + 1 := hi
      have hj : j < sC s 6 + 1 := hj
      have e : (if i = sC s 6 then q else yA y 8 i) = (if j = sC s 6 then q else yA y 8 j) := e
      have nq : ∀ i, i < sC s 6 → yA y 8 i ≠ q := fun i hi e => by
        have := (d6.1 i hi).2.1
        rw [e, q0] at this
        exact absurd this (by decide)
      by_cases ei : i = sC s 6
      · by_cases ej : j = sC s 6
        · omega
        · rw [if_pos ei, if_neg ej] at e
          exact absurd e.symm (nq j (by omega))
      · by_cases ej : j = sC s 6
        · rw [if_neg ei, if_pos ej] at e
          exact absurd e (nq i (by omega))
        · rw [if_neg ei, if_neg ej] at e
          exact d6.2 i j (by omega) (by omega) e
theorem ci_keepRight {q : Nat} {w gr u f t o : Int32} (h : CB k s y) (v : ivc s) (g : ivg s) (hF : c_F k4) (gj : c_jk k k4) (q0 : h_k k q = 0) (hq : c_rt k4 q w (nI (sC s 0 + 1)) gr u f t o) : ∃ k5 c d y2, fn_X11_keepRight (some q) k4 = some ((fg_if (sC s 6 = 20) ((-4 : Int32), s) (nI (sC s 6), s_act (s_addR s w gr u f t o) (nI (sC s 6)))).1, k5, c, d) ∧ CB k5 (fg_if (sC s 6 = 20) ((-4 : Int32), s) (nI (sC s 6), s_act (s_addR s w gr u f t o) (nI (sC s 6)))).2 y2 ∧ c ≤ 1 ∧ d ≤ 1000 ∧ zC y2 = zC y ∧ zD y2 = zD y := by
  have v0 := v.1
  have v6 := v.2.2.2.2.2.2.1
  have h4 : CBM k4 s (sC s 0) y := CB_junk (CB_M h) hF gj
  have l4 := h4.2.2.2.2.1.2.2.2.1
  unfold fn_X11_keepRight
  rw [ci_size (ck_8 hF) l4, fg_b_1]
  by_cases c : sC s 6 = 20
  · have c3 : ¬ nI (sC s 6) < 20 := fun w => by have := (n_lt (b := 20) (a := sC s 6) (by omega) (by omega)).mp w; omega
    rw [fg_if_0 c3, fg_if_1 c]
    exact ⟨k4, 0, 0, y, rfl, h4, by omega, by omega, rfl, rfl⟩
  · have c3 : nI (sC s 6) < 20 := (n_lt (b := 20) (a := sC s 6) (by omega) (by omega)).mpr (by omega)
    rw [fg_if_1 c3, fg_if_0 c]
    obtain ⟨k5, E2, cc, dd, a1, a2, a3, a4⟩ := ci_add hF (by decide) (ck_8 hF) l4 (by omega) (fun i hi => by
        have := CB_rt h4 hi
        rw [this.1]
        decide) (a := q) (by rw [hq.2.1]; decide)
    have hb := cs_addR (CB_M h) gj q0 hq a2
    rw [a1, fg_bc_1, ci_size (ck_8 hb.1) hb.2.2.2.2.1.2.2.2.1, fg_b_1, show sC (s_addR s w gr u f t o) 6 = sC s 6 + 1 from rfl, n_m1, ci_acted hb.2.1.1 v0, fg_b_1]
    simp only [fg_c_1]
    exact ⟨_, _, _, _, rfl, cs_act hb (by show sC s 0 ≤ sC s 0 + 1; omega) g _, by omega, by omega, rfl, rfl⟩
end CRi
