section RO
variable {t : r_T} {s : sA}
theorem ri_in (v l h : Int64) : fn_X12_in v l h t = some (q_b (l ≤ v ∧ v ≤ h), t) := by
  unfold fn_X12_in
  by_cases h1 : lg_cmp v l < 0
  · rw [fg_if_1 h1, q_b0 (fun q => absurd ((q_cmp_lt v l).mp h1) (Int64.not_lt.mpr q.1))]
  · rw [fg_if_0 h1]
    have h1' : l ≤ v := Int64.not_lt.mp (fun q => h1 ((q_cmp_lt v l).mpr q))
    by_cases h2 : 0 < lg_cmp v h
    · rw [fg_if_1 h2, q_b0 (fun q => absurd ((q_cmp_gt v h).mp h2) (Int64.not_lt.mpr q.2))]
    · rw [fg_if_0 h2]
      have h2' : v ≤ h := Int64.not_lt.mp (fun q => h2 ((q_cmp_gt v h).mpr q))
      rw [q_b1 ⟨h1', h2'⟩]
/-- in(x, 0, c) -/
theorem ri_inC (x : Int32) (c : Int64) {n : Int} (hn : c.toInt + 1 = n) : fn_X12_in x.toInt64 0 c t = some (q_b (q_in x n), t) := by
  rw [ri_in, q_bc (q_inC x c), hn]
theorem ri_nn {c : Prop} : (fg_if (q_b c = 0) (some ((1 : Int32), t)) (some ((0 : Int32), t))) = some (q_b (¬ c), t) := by
  rw [q_b_if]
  by_cases h : c
  · rw [fg_if_1 h, q_b0 (fun q => q h)]
  · rw [fg_if_0 h, q_b1 h]
theorem ri_noHand (h : RA t s) (v : ivc s) (x : Int32) : fn_X12_noHand x t = some (q_b (¬ q_in x (sC s 1)), t) := by
  unfold fn_X12_noHand
  rw [h.1.2.1, ri_in, q_bc (q_in0n (by have := v.2.1; omega)), fg_b_1]
  exact ri_nn
theorem ri_noMoment (h : RA t s) (v : ivc s) (x : Int32) : fn_X12_noMoment x t = some (q_b (¬ q_in x ((sC s 0 : Nat) + 1)), t) := by
  unfold fn_X12_noMoment
  rw [h.1.1, ri_in, q_bc (q_in1n (by have := v.1; omega)), fg_b_1]
  exact ri_nn
theorem ri_noWriting (h : RA t s) (v : ivc s) (x : Int32) : fn_X12_noWriting x t = some (q_b (¬ q_in x (sC s 2)), t) := by
  unfold fn_X12_noWriting
  rw [h.1.2.2.1, ri_in, q_bc (q_in0n (by have := v.2.2.1; omega)), fg_b_1]
  exact ri_nn
theorem ri_noWord (h : RA t s) (v : ivc s) (x : Int32) : fn_X12_noWord x t = some (q_b (¬ q_in x (sC s 3)), t) := by
  unfold fn_X12_noWord
  rw [h.1.2.2.2.1, ri_in, q_bc (q_in0n (by have := v.2.2.2.1; omega)), fg_b_1]
  exact ri_nn
theorem ri_noVersion (h : RA t s) (v : ivc s) (x : Int32) : fn_X12_noVersion x t = some (q_b (¬ q_in x (sC s 4)), t) := by
  unfold fn_X12_noVersion
  rw [h.1.2.2.2.2.1, ri_in, q_bc (q_in0n (by have := v.2.2.2.2.1; omega)), fg_b_1]
  exact ri_nn
theorem ri_noLink (h : RA t s) (v : ivc s) (x : Int32) : fn_X12_noLink x t = some (q_b (¬ q_in x (sC s 5)), t) := by
  unfold fn_X12_noLink
  rw [h.1.2.2.2.2.2.1, ri_in, q_bc (q_in0n (by have := v.2.2.2.2.2.1; omega)), fg_b_1]
  exact ri_nn
theorem ri_noRight (h : RA t s) (v : ivc s) (x : Int32) : fn_X12_noRight x t = some (q_b (¬ q_in x (sC s 6)), t) := by
  unfold fn_X12_noRight
  rw [h.1.2.2.2.2.2.2.1, ri_in, q_bc (q_in0n (by have := v.2.2.2.2.2.2.1; omega)), fg_b_1]
  exact ri_nn
theorem ri_noSheet (x : Int32) : fn_X12_noSheet x t = some (q_b (¬ q_in x 4), t) := by
  unfold fn_X12_noSheet
  rw [ri_inC x 3 (n := 4) rfl, fg_b_1]
  exact ri_nn
/-- the other way round -/
theorem q_bn_if {α : Type} {p : Prop} {a b : α} : fg_if (q_b (¬ p) = 0) a b = fg_if p a b := by rw [q_b_if, fg_if_not]
theorem ri_mix (a b : Int32) : fn_X12_mix a b t = some (q_mix a b, t) := rfl
theorem ri_acted (h : RA t s) (v : ivc s) (x : Int32) : fn_X12_acted x t = some (x, rt_A (rt_F t 1 (nI (sC s 0 + 1))) 2 (sC s 0 + 1) (q_mix (sF s 2 (sC s 0)) x)) := by
  have v1 := v.1
  unfold fn_X12_acted
  simp only [fg_let_1, rt_FF, if_true, h.1.1, n_p1, n_m1, rt_FA, ri_mix, fg_b_1]
  rw [fg_g_1 ((n_vp (by omega)).mpr (by omega)), fg_g_1 ((n_vp (by omega)).mpr (by omega)), q_nIx (by omega), q_nIx (by omega), h.2.1 2 rfl]
theorem ri_refused (x : Int32) : fn_X12_refused x t = some (x, rt_F t 0 0) := rfl
theorem ri_failed (x : Int32) : fn_X12_failed x t = some (-10 - x, rt_F t 0 x) := rfl
theorem rs_flt (h : RA t s) (x : Int32) : RA (rt_F t 0 x) (s_flt s x) := by
  refine RA_up h ?_ h.2.1 rfl rfl (Nat.le_refl _) rfl rfl rfl rfl rfl rfl rfl rfl rfl (fun _ _ => rfl)
  have h1 := h.1
  unfold RN at *
  simp only [s_flt, rt_FF, sC_uN, sN_uN]
  simp [h1]
theorem rs_hand (h : RA t s) (v : ivc s) : ∃ t2, fn_X12_hand t = some ((s_hand s).1, t2) ∧ RA t2 (s_hand s).2 := by
  have v1 := v.2.1
  unfold fn_X12_hand s_hand
  simp only [h.1.2.1, show (8 : Int32) = nI 8 from rfl, n_eq (show sC s 1 < 2 ^ 31 by omega) (show 8 < 2 ^ 31 by omega)]
  by_cases c : sC s 1 = 8
  · simp only [fg_if_1 c]
    exact ⟨t, rfl, h⟩
  · simp only [fg_if_0 c, fg_let_1, rt_FF, if_true, n_p1, n_m1]
    have h2 : RA (rt_F t 3 (nI (sC s 1 + 1))) (uC s 1 (sC s 1 + 1)) := by
      refine RA_up h ?_ h.2.1 rfl rfl (Nat.le_refl _) rfl rfl rfl rfl rfl rfl rfl rfl rfl (fun _ _ => rfl)
      have h1 := h.1
      unfold RN at *
      simp only [rt_FF, sC_uC, sN_uC]
      simp [h1]
    rw [ri_acted h2 ⟨v.1, show sC s 1 + 1 ≤ 8 by omega, v.2.2⟩, fg_b_1]
    exact ⟨_, rfl, rs_act h2 _⟩
theorem rs_rule (h : RA t s) (v : ivc s) (p q : Int32) : ∃ t2, fn_X12_rule p q t = some ((s_rule s p q).1, t2) ∧ RA t2 (s_rule s p q).2 := by
  unfold fn_X12_rule s_rule
  simp only [ri_inC p 99 (n := 100) rfl, ri_inC q 10 (n := 11) rfl, fg_b_1, q_b_if]
  by_cases c1 : q_in p 100
  · by_cases c2 : q_in q 11
    · have c : q_in p 100 ∧ q_in q 11 := ⟨c1, c2⟩
      have h2 : RA (rt_F (rt_F t 102 p) 103 q) (uN (uN s 2 p) 3 q) := by
        refine RA_up h ?_ h.2.1 rfl rfl (Nat.le_refl _) rfl rfl rfl rfl rfl rfl rfl rfl rfl (fun _ _ => rfl)
        have h1 := h.1
        unfold RN at *
        simp only [rt_FF, sC_uN, sN_uN]
        simp [h1]
      simp only [fg_if_1 c1, fg_if_1 c2, fg_if_1 c, fg_let_1, h.1.2.2.2.2.2.2.2.2.2.2.2.1, h.1.2.2.2.2.2.2.2.2.2.2.2.2]
      rw [ri_acted h2 v, fg_b_1]
      exact ⟨_, rfl, rs_act h2 _⟩
    · have c : ¬ (q_in p 100 ∧ q_in q 11) := fun w => c2 w.2
      simp only [fg_if_1 c1, fg_if_0 c2, fg_if_0 c]
      exact ⟨t, rfl, h⟩
  · have c : ¬ (q_in p 100 ∧ q_in q 11) := fun w => c1 w.1
    simp only [fg_if_0 c1, fg_if_0 c]
    exact ⟨t, rfl, h⟩
theorem rs_stamp (h : RA t s) (v : ivc s) (m : Int32) : ∃ t2, fn_X12_stamp m t = some ((s_stamp s m).1, t2) ∧ RA t2 (s_stamp s m).2 := by
  have v1 := v.1
  unfold fn_X12_stamp s_stamp
  simp only [ri_noMoment h v, fg_b_1, q_bn_if]
  by_cases c : q_in m ((sC s 0 : Nat) + 1)
  · have i1 : vp_in m 1201 := (q_vin _ _).mpr (by unfold q_in at *; omega)
    simp only [fg_if_1 c, fg_g_1 i1, h.2.1 2 rfl]
    exact ⟨t, rfl, h⟩
  · simp only [fg_if_0 c]
    exact ⟨t, rfl, h⟩
theorem rs_fault (h : RA t s) : ∃ t2, fn_X12_fault t = some ((s_fault s).1, t2) ∧ RA t2 (s_fault s).2 := ⟨t, by unfold fn_X12_fault; rw [h.1.2.2.2.2.2.2.2.2.2.1]; rfl, h⟩
theorem rs_trace (h : RA t s) : ∃ t2, fn_X12_trace t = some ((s_trace s).1, t2) ∧ RA t2 (s_trace s).2 := ⟨t, by unfold fn_X12_trace; rw [h.1.2.2.2.2.2.2.2.2.2.2.1]; rfl, h⟩
theorem rs_word (h : RA t s) (v : ivc s) (x y : Int32) : ∃ t2, fn_X12_word x y t = some ((s_word s x y).1, t2) ∧ RA t2 (s_word s x y).2 := by
  have v1 := v.2.2.2.1
  unfold fn_X12_word s_word
  simp only [ri_noWord h v, fg_b_1, q_bn_if]
  by_cases c : q_in x (sC s 3)
  · have i1 : vp_in x 500 := (q_vin _ _).mpr (by unfold q_in at *; omega)
    simp only [fg_if_1 c, fg_g_1 i1, fg_if_some, h.2.1 23 rfl, h.2.1 24 rfl, h.2.1 25 rfl, h.2.1 26 rfl, h.2.1 27 rfl]
    exact ⟨t, rfl, h⟩
  · simp only [fg_if_0 c]
    exact ⟨t, rfl, h⟩
theorem rs_hit (h : RA t s) (v : ivc s) (x y : Int32) : ∃ t2, fn_X12_hit x y t = some ((s_hit s x y).1, t2) ∧ RA t2 (s_hit s x y).2 := by
  have v1 := v.2.2.2.2.2.2.2.2
  unfold fn_X12_hit s_hit
  simp only [h.1.2.2.2.2.2.2.2.2.1, ri_in, q_bc (q_in0n (show sC s 8 < 2 ^ 31 by omega)), fg_b_1, q_b_if]
  by_cases c : q_in x (sC s 8)
  · have i1 : vp_in x 200 := (q_vin _ _).mpr (by unfold q_in at *; omega)
    obtain ⟨e1, e2, e3⟩ := h.2.2.1 (h_ix x) (n_in c).2
    simp only [fg_if_1 c, fg_g_1 i1, fg_if_some, e1, e2, e3]
    exact ⟨t, rfl, h⟩
  · simp only [fg_if_0 c]
    exact ⟨t, rfl, h⟩
end RO
