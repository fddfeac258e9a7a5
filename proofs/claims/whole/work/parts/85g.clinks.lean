section CLk
variable {k k4 k5 : h_S} {s s2 : sA} {y : c_Y} {M : Nat}
theorem s_addK_F (x0 x1 x2 x3 x4 x5 : Int32) (x : Nat) (hx : x < 81 ∨ 86 < x) : sF (s_addK s x0 x1 x2 x3 x4 x5) x = sF s x := by
  funext i
  unfold s_addK
  rw [sF_uC, sF_uF, if_neg (by omega), sF_uF, if_neg (by omega), sF_uF, if_neg (by omega), sF_uF, if_neg (by omega), sF_uF, if_neg (by omega), sF_uF, if_neg (by omega)]
theorem s_addK_o (x0 x1 x2 x3 x4 x5 : Int32) (x : Nat) {i : Nat} (hi : i ≠ sC s 5) : sF (s_addK s x0 x1 x2 x3 x4 x5) x i = sF s x i := by
  unfold s_addK
  rw [sF_uC]
  simp only [sF_uF, if_neg hi, ite_self]
theorem s_addK_n (x0 x1 x2 x3 x4 x5 : Int32) : sF (s_addK s x0 x1 x2 x3 x4 x5) 81 (sC s 5) = x0 ∧ sF (s_addK s x0 x1 x2 x3 x4 x5) 82 (sC s 5) = x1 ∧ sF (s_addK s x0 x1 x2 x3 x4 x5) 83 (sC s 5) = x2 ∧ sF (s_addK s x0 x1 x2 x3 x4 x5) 84 (sC s 5) = x3 ∧ sF (s_addK s x0 x1 x2 x3 x4 x5) 85 (sC s 5) = x4 ∧ sF (s_addK s x0 x1 x2 x3 x4 x5) 86 (sC s 5) = x5 := by
  unfold s_addK
  refine ⟨?_, ?_, ?_, ?_, ?_, ?_⟩ <;> rw [sF_uC] <;> simp [sF_uF]
theorem c_lnk_fr {fx tg : List Nat} {a : Nat} {x0 x1 x2 x3 x4 x5 : Int32} (h : c_lnk k a x0 x1 x2 x3 x4 x5) (g : c_ag fx tg k k5) (h12 : 12 ∈ tg) (h13 : 13 ∈ tg) : c_lnk k5 a x0 x1 x2 x3 x4 x5 := by
  obtain ⟨a1, a2, a3, a4, ⟨b, a5, a6⟩, c, a7, a8⟩ := h
  have e := c_agd g a1 h12 (by rw [a2]; decide)
  unfold c_lnk
  rw [e.1, e.2.2.1, e.2.2.2]
  exact ⟨a1, a2, a3, a4, ⟨b, a5, c_ar_fr a6 g h13⟩, c, a7, c_ar_fr a8 g h13⟩
theorem cs_addK {q E2 : Nat} {x0 x1 x2 x3 x4 x5 : Int32} (h : CBM k s M y) (gj : c_jk k k4) (hq : c_lnk k4 q x0 x1 x2 x3 x4 x5) (hx : c_ADD k4 k5 6 (sC s 5) (yE y 6) E2 q (yA y 6)) : CBM k5 (s_addK s x0 x1 x2 x3 x4 x5) M (yUL y 6 E2 (fun i => if i = sC s 5 then q else yA y 6 i)) := by
  obtain ⟨h1, h2, h3, h4, d1, d2, d3, d4, d5, d6, d7, d8, d9, d10⟩ := h
  have ga := c_jk_ag gj
  have gb : c_ag ((List.range 60).filter (fun a => a != 6)) [1, 2, 3, 4, 5, 6, 8, 9, 10, 11, 12, 13, 14] k4 k5 := c_ADD_ag hx (by decide) (by decide) (by decide) (by decide)
  have gg : c_ag ((List.range 60).filter (fun a => a != 6)) [1, 2, 3, 4, 5, 6, 8, 9, 10, 11, 12, 13, 14] k k5 := c_agt (c_agm ga (fun a ha => (List.mem_filter.mp ha).1) (by decide)) gb
  have l4 : KL k4 s y := KL_fr d1 ga (by decide) (by decide) (fun _ _ => rfl)
  have fm : ∀ (l : List Nat), (∀ x, x ∈ l → x < 81 ∨ 86 < x) → ∀ x, x ∈ l → sF (s_addK s x0 x1 x2 x3 x4 x5) x = sF s x := fun l a x hx => s_addK_F _ _ _ _ _ _ x (a x hx)
  refine ⟨hx.1, ?_, ?_, ?_, KL_add l4 (by decide) hx rfl (fun P hP hn => ?_), KW_fr d2 gg (by decide) (by decide) rfl (fm _ (by decide)), KV_fr d3 gg (by decide) (by decide) rfl (fm _ (by decide)) (fun _ _ => rfl), KC_fr d4 gg (by decide) (by decide) rfl (fm _ (by decide)) rfl, ?_, KR_fr d6 gg (by decide) rfl (fm _ (by decide)), KT_fr d7 gg (by decide) (fm _ (by decide)), KH_fr d8 gg (by decide) rfl (fm _ (by decide)), KP_fr d9 gg (by decide) (by decide) (by decide) (by decide) (by decide) rfl (Nat.le_refl _) rfl, KX_fr d10 gg (by decide) (by decide) (by decide) (Nat.le_refl _) (Nat.le_refl _) (fun _ _ _ _ _ _ => rfl)⟩
  · unfold KN at *
    rw [(gg.1 0 (by decide)).2.2.1, (gg.1 3 (by decide)).2.2.1]
    exact h2
  · refine ⟨?_, ?_, ?_⟩
    · rw [(gg.1 1 (by decide)).2.2.1, s_addK_F _ _ _ _ _ _ 2 (by decide)]; exact h3.1
    · rw [(gg.1 15 (by decide)).2.2.1, s_addK_F _ _ _ _ _ _ 9 (by decide)]; exact h3.2.1
    · rw [(gg.1 11 (by decide)).2.2.1, s_addK_F _ _ _ _ _ _ 104 (by decide)]; exact h3.2.2
  · unfold KG
    rw [(gg.1 2 (by decide)).2.2.1]
    exact h4
  · simp only [c_Ls, List.mem_cons, List.not_mem_nil, or_false] at hP
    rcases hP with rfl | rfl | rfl | rfl | rfl
    · rfl
    · rfl
    · exact absurd rfl hn
    · rfl
    · rfl
  · have ey : yA (yUL y 6 E2 (fun i => if i = sC s 5 then q else yA y 6 i)) 6 = fun i => if i = sC s 5 then q else yA y 6 i := by rw [yA_UL, if_pos rfl]
    unfold KK
    rw [ey]
    intro i hi
    have hi : i < sC s 5 + 1 := hi
    by_cases e : i = sC s 5
    · obtain ⟨n1, n2, n3, n4, n5, n6⟩ := s_addK_n (s := s) x0 x1 x2 x3 x4 x5
      subst e
      simp only [if_true, n1, n2, n3, n4, n5, n6]
      exact c_lnk_fr hq gb (by decide) (by decide)
    · simp only [if_neg e, s_addK_o (s := s) x0 x1 x2 x3 x4 x5 _ e]
      exact c_lnk_fr (d5 i (by omega)) gg (by decide) (by decide)
theorem ci_keepLink {q : Nat} {x0 x1 x2 x3 x4 x5 : Int32} (h : CB k s y) (v : ivc s) (g : ivg s) (hF : c_F k4) (gj : c_jk k k4) (hq : c_lnk k4 q x0 x1 x2 x3 x4 x5) : ∃ k5 c d y2, fn_X11_keepLink (some q) k4 = some ((s_keepK s x0 x1 x2 x3 x4 x5).1, k5, c, d) ∧ CB k5 (s_keepK s x0 x1 x2 x3 x4 x5).2 y2 ∧ c ≤ 1 ∧ d ≤ 1000 ∧ zC y2 = zC y ∧ zD y2 = zD y := by
  have v0 := v.1
  have v5 := v.2.2.2.2.2.1
  have h4 : CBM k4 s (sC s 0) y := CB_junk (CB_M h) hF gj
  have l4 := h4.2.2.2.2.1.2.2.1
  unfold fn_X11_keepLink s_keepK
  rw [ci_size (ck_6 hF) l4, fg_b_1]
  by_cases c : sC s 5 = 24
  · have c3 : ¬ nI (sC s 5) < 24 := fun w => by have := (n_lt (b := 24) (a := sC s 5) (by omega) (by omega)).mp w; omega
    rw [fg_if_0 c3, fg_if_1 c]
    exact ⟨k4, 0, 0, y, rfl, h4, by omega, by omega, rfl, rfl⟩
  · have c3 : nI (sC s 5) < 24 := (n_lt (b := 24) (a := sC s 5) (by omega) (by omega)).mpr (by omega)
    rw [fg_if_1 c3, fg_if_0 c]
    obtain ⟨k5, E2, cc, dd, a1, a2, a3, a4⟩ := ci_add hF (by decide) (ck_6 hF) l4 (by omega) (fun i hi => by
        have := CB_lnk h4 hi
        rw [this.2.1]
        decide) (a := q) (by rw [hq.2.1]; decide)
    have hb := cs_addK (CB_M h) gj hq a2
    rw [a1, fg_bc_1, ci_size (ck_6 hb.1) hb.2.2.2.2.1.2.2.1, fg_b_1, show sC (s_addK s x0 x1 x2 x3 x4 x5) 5 = sC s 5 + 1 from rfl, n_m1, ci_acted hb.2.1.1 v0, fg_b_1]
    simp only [fg_c_1]
    exact ⟨_, _, _, _, rfl, cs_act hb (by show sC s 0 ≤ sC s 0 + 1; omega) g _, by omega, by omega, rfl, rfl⟩
end CLk
