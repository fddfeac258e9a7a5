section RO2
variable {t : r_T} {s : sA}
theorem rs_owes (h : RA t s) (v : ivc s) (x y : Int32) : ∃ t2, fn_X12_owes x y t = some ((s_owes s x y).1, t2) ∧ RA t2 (s_owes s x y).2 := by
  have v1 := v.2.1
  unfold fn_X12_owes s_owes
  simp only [ri_noHand h v, fg_b_1, q_bn_if]
  by_cases c1 : q_in x (sC s 1)
  · by_cases c2 : q_in y (sC s 1)
    · have c : q_in x (sC s 1) ∧ q_in y (sC s 1) := ⟨c1, c2⟩
      have e := q_8 (x := x) (y := y) (by unfold q_in at *; omega) (by unfold q_in at *; omega)
      have l1 := (n_in c1).2
      have l2 := (n_in c2).2
      simp only [fg_if_1 c1, fg_if_1 c2, fg_if_1 c, e, fg_g_1 ((n_vp (k := 8 * h_ix x + h_ix y) (n := 64) (by omega)).mpr (by omega)), q_nIx (k := 8 * h_ix x + h_ix y) (by omega), h.2.1 104 rfl]
      exact ⟨t, rfl, h⟩
    · have c : ¬ (q_in x (sC s 1) ∧ q_in y (sC s 1)) := fun w => c2 w.2
      simp only [fg_if_1 c1, fg_if_0 c2, fg_if_0 c]
      exact ⟨t, rfl, h⟩
  · have c : ¬ (q_in x (sC s 1) ∧ q_in y (sC s 1)) := fun w => c1 w.1
    simp only [fg_if_0 c1, fg_if_0 c]
    exact ⟨t, rfl, h⟩
/-- one place of an array that lasts -/
theorem RA_A {k i : Nat} {v : Int32} (h : RA t s) (hk : rla k = true) : RA (rt_A t k i v) (uF s k i v) := by
  refine RA_up h ?_ (RF_A h.2.1) rfl rfl (Nat.le_refl _) rfl rfl rfl ?_ ?_ ?_ rfl rfl rfl (fun x hx => ?_)
  · exact h.1
  · funext x; rw [sF_uF, if_neg (fun e => by rw [← e] at hk; exact absurd hk (by decide))]
  · funext x; rw [sF_uF, if_neg (fun e => by rw [← e] at hk; exact absurd hk (by decide))]
  · funext x; rw [sF_uF, if_neg (fun e => by rw [← e] at hk; exact absurd hk (by decide))]
  · funext j
    rw [rt_AA, if_neg]
    intro e
    rw [e] at hx
    have : ∀ y, y ∈ ([5, 6, 7, 11, 12, 13, 14, 15, 17, 18, 19, 20, 21, 76, 77, 79, 106, 107, 108] : List Nat) → rla y = false := by decide
    rw [this k hx] at hk
    exact absurd hk (by decide)
theorem rs_pay (h : RA t s) (v : ivc s) (x y z : Int32) : ∃ t2, fn_X12_pay x y z t = some ((s_pay s x y z).1, t2) ∧ RA t2 (s_pay s x y z).2 := by
  have v1 := v.2.1
  unfold fn_X12_pay s_pay
  simp only [ri_noHand h v, fg_b_1, q_bn_if]
  by_cases c1 : q_in x (sC s 1)
  · by_cases c2 : q_in y (sC s 1)
    · have c : q_in x (sC s 1) ∧ q_in y (sC s 1) := ⟨c1, c2⟩
      have e := q_8 (x := x) (y := y) (by unfold q_in at *; omega) (by unfold q_in at *; omega)
      have l1 := (n_in c1).2
      have l2 := (n_in c2).2
      simp only [fg_if_1 c1, fg_if_1 c2, fg_if_1 c, e, fg_g_1 ((n_vp (k := 8 * h_ix x + h_ix y) (n := 64) (by omega)).mpr (by omega)), q_nIx (k := 8 * h_ix x + h_ix y) (by omega), h.2.1 104 rfl]
      generalize 8 * h_ix x + h_ix y = i
      by_cases c3 : z < 1
      · have c3' : ¬ (1 : Int32) ≤ z := fun q => Int32.not_le.mpr c3 q
        simp only [fg_if_1 c3, fg_if_0 c3']
        exact ⟨t, rfl, h⟩
      · have c3' : (1 : Int32) ≤ z := Int32.not_lt.mp c3
        simp only [fg_if_0 c3, fg_if_1 c3']
        by_cases c4 : sF s 104 i < z
        · have c4' : ¬ z ≤ sF s 104 i := fun q => Int32.not_le.mpr c4 q
          simp only [fg_if_1 c4, fg_if_0 c4']
          exact ⟨t, rfl, h⟩
        · have c4' : z ≤ sF s 104 i := Int32.not_lt.mp c4
          have h2 := RA_A (k := 104) (i := i) (v := sF s 104 i - z) h rfl
          simp only [fg_if_0 c4, fg_if_1 c4', fg_let_1, rt_AA, if_true]
          rw [ri_acted h2 v, fg_b_1]
          exact ⟨_, rfl, rs_act h2 _⟩
    · have c : ¬ (q_in x (sC s 1) ∧ q_in y (sC s 1)) := fun w => c2 w.2
      simp only [fg_if_1 c1, fg_if_0 c2, fg_if_0 c]
      exact ⟨t, rfl, h⟩
  · have c : ¬ (q_in x (sC s 1) ∧ q_in y (sC s 1)) := fun w => c1 w.1
    simp only [fg_if_0 c1, fg_if_0 c]
    exact ⟨t, rfl, h⟩
theorem rs_many (h : RA t s) (v : ivc s) (x : Int32) : ∃ t2, fn_X12_many x t = some ((s_many s x).1, t2) ∧ RA t2 (s_many s x).2 := by
  unfold fn_X12_many s_many
  obtain ⟨h0, h1, h2, h3, h4, h5, h6, h7, h8, _⟩ := h.1
  simp only [fg_if_some, h0, h1, h2, h3, h4, h5, h6, h7, h8]
  exact ⟨t, rfl, h⟩
theorem rs_lose (h : RA t s) (x : Int32) : ∃ t2, fn_X12_lose x t = some ((s_lose s x).1, t2) ∧ RA t2 (s_lose s x).2 := by
  unfold fn_X12_lose fn_X12_lose_23 s_lose
  simp only [ri_noSheet, fg_b_1, q_bn_if]
  by_cases c : q_in x 4
  · have i1 : vp_in x 4 := (q_vin _ _).mpr c
    simp only [fg_if_1 c, fg_g_1 i1, fg_let_1, fg_if_some, h.2.1 110 rfl]
    refine ⟨_, ?_, RA_A (k := 110) h rfl⟩
    congr 2
    by_cases c2 : sF s 110 (h_ix x) < 0
    · rw [fg_if_1 c2, fg_if_0 (fun q => Int32.not_le.mpr c2 q)]
    · rw [fg_if_0 c2, fg_if_1 (Int32.not_lt.mp c2)]
  · simp only [fg_if_0 c]
    exact ⟨t, rfl, h⟩
theorem rs_writing (h : RA t s) (v : ivc s) (x : Int32) : ∃ t2, fn_X12_writing x t = some ((s_writing s x).1, t2) ∧ RA t2 (s_writing s x).2 := by
  have v1 := v.2.2.1
  unfold fn_X12_writing s_writing
  simp only [ri_noHand h v, fg_b_1, q_bn_if]
  by_cases c : q_in x (sC s 1)
  · simp only [fg_if_1 c, h.1.2.2.1, show (12 : Int32) = nI 12 from rfl, n_eq (show sC s 2 < 2 ^ 31 by omega) (show 12 < 2 ^ 31 by omega)]
    by_cases c2 : sC s 2 = 12
    · simp only [fg_if_1 c2]
      exact ⟨t, rfl, h⟩
    · have h2 := RA_A (k := 9) (i := sC s 2) (v := x) h rfl
      have h3 : RA (rt_F (rt_A t 9 (sC s 2) x) 8 (nI (sC s 2 + 1))) (uC (uF s 9 (sC s 2) x) 2 (sC s 2 + 1)) := by
        refine RA_up h2 ?_ h2.2.1 rfl rfl (Nat.le_refl _) rfl rfl rfl rfl rfl rfl rfl rfl rfl (fun _ _ => rfl)
        have h1 := h2.1
        unfold RN at *
        simp only [rt_FF, sC_uC, sN_uC]
        simp [h1]
      simp only [fg_if_0 c2, fg_g_1 ((n_vp (k := sC s 2) (n := 12) (by omega)).mpr (by omega)), fg_let_1, rt_AF, rt_FF, if_true, h.1.2.2.1, n_p1, n_m1, q_nIx (k := sC s 2) (by omega)]
      rw [ri_acted h3 ⟨v.1, v.2.1, show sC s 2 + 1 ≤ 12 by omega, v.2.2.2⟩, fg_b_1]
      exact ⟨_, rfl, rs_act h3 _⟩
  · simp only [fg_if_0 c]
    exact ⟨t, rfl, h⟩
end RO2
