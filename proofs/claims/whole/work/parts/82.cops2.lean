section CO2
variable {k k2 : h_S} {s : sA} {y : c_Y} {M : Nat}
theorem ci_size {L n E : Nat} {A : Nat → Nat} (hk : h_k k L = 20) (h : CL k L n E A) : fn_Jx4a65c_size_8abf5 L k = some (nI n, k) := by
  unfold fn_Jx4a65c_size_8abf5
  rw [fg_g_1 hk, h.1]
theorem ci_get {L n E i : Nat} {A : Nat → Nat} (hk : h_k k L = 20) (h : CL k L n E A) (hi : i < n) : fn_Jx4a65c_get_915e3 L (nI i) k = some (some (A i), k) := by
  obtain ⟨h1, h2, h3⟩ := h
  rcases h3 with h3 | ⟨t, h4, h5, h6, h7, _⟩
  · omega
  · unfold fn_Jx4a65c_get_915e3 fn_J15_checkIndex_7cf53 fn_J3_checkIndex_8e157 fn_Jx4a65c_elementData_915e3
    rw [fg_g_1 hk, h1, fg_if_0 (n_neg (by omega)), fg_if_1 ((n_lt (by omega) (by omega)).mpr hi), fg_b_1, fg_b_1, fg_g_1 hk, h2, fg_o_1, fg_g_1 h4, fg_g_1 ((n_vp (by omega)).mpr (by omega)), fg_b_1, q_nIx (by omega), h7 i hi]
theorem ck_18 (h : c_F k) : h_k k 18 = 20 := cf_k h rfl (by decide)
theorem ck_4 (h : c_F k) : h_k k 4 = 20 := cf_k h rfl (by decide)
theorem ck_5 (h : c_F k) : h_k k 5 = 20 := cf_k h rfl (by decide)
theorem ck_6 (h : c_F k) : h_k k 6 = 20 := cf_k h rfl (by decide)
theorem ck_8 (h : c_F k) : h_k k 8 = 20 := cf_k h rfl (by decide)
/-- wordAt(x) -/
theorem ci_wordAt (h : CBM k s M y) (v : ivc s) (x : Int32) : fn_X7_wordAt x k = some (fg_if (q_in x (sC s 3)) (some (yA y 18 (h_ix x))) none, k) := by
  have v1 := v.2.2.2.1
  have hl := h.2.2.2.2.1.2.2.2.2.1
  unfold fn_X7_wordAt
  rw [ci_size (ck_18 h.1) hl, fg_b_1, ci_withinN x (by omega), fg_b_1, q_b_if]
  by_cases c : q_in x (sC s 3)
  · obtain ⟨e, l⟩ := n_in c
    rw [fg_if_1 c, fg_if_1 c]
    generalize h_ix x = i at e l
    subst e
    rw [ci_get (ck_18 h.1) hl l, fg_b_1, fg_g_1]
    intro z hz
    cases hz
    exact (h.2.2.2.2.2.1.1 i l).2.1
  · rw [fg_if_0 c, fg_if_0 c]
theorem cs_word (h : CB k s y) (v : ivc s) (x z : Int32) : ∃ k2, fn_X11_word x z k = some ((s_word s x z).1, k2) ∧ CB k2 (s_word s x z).2 y := by
  unfold fn_X11_word s_word
  simp only [ci_wordAt (CB_M h) v, fg_b_1]
  by_cases c : q_in x (sC s 3)
  · obtain ⟨_, w1, w2, w3, w4, w5, w6⟩ := h.2.2.2.2.2.1.1 (h_ix x) (n_in c).2
    have n : ¬ (some (yA y 18 (h_ix x)) = none) := by simp
    simp only [fg_if_1 c, fg_if_0 n, fg_o_1, fg_g_1 w1, w2, w3, w4, w5, w6, fg_if_some]
    exact ⟨k, rfl, h⟩
  · simp only [fg_if_0 c, fg_if_1]
    exact ⟨k, rfl, h⟩
theorem cs_fault (h : CB k s y) : ∃ k2, fn_X11_fault k = some ((s_fault s).1, k2) ∧ CB k2 (s_fault s).2 y := ⟨k, by unfold fn_X11_fault; rw [h.2.1.2.2.2.2.1]; rfl, h⟩
theorem cs_trace (h : CB k s y) : ∃ k2, fn_X11_trace k = some ((s_trace s).1, k2) ∧ CB k2 (s_trace s).2 y := ⟨k, by unfold fn_X11_trace; rw [h.2.1.2.2.2.2.2.1]; rfl, h⟩
theorem cs_many (h : CB k s y) (x : Int32) : ∃ k2, fn_X11_many x k = some ((s_many s x).1, k2) ∧ CB k2 (s_many s x).2 y := by
  unfold fn_X11_many fn_X7_wordCount s_many
  obtain ⟨l4, l5, l6, l8, l18, _⟩ := h.2.2.2.2.1
  obtain ⟨h0, h1, h2, h8, _⟩ := h.2.1
  simp only [ci_size (ck_18 h.1) l18, ci_size (ck_4 h.1) l4, ci_size (ck_5 h.1) l5, ci_size (ck_6 h.1) l6, ci_size (ck_8 h.1) l8, fg_b_1, h0, h1, h2, h8, fg_if_some]
  exact ⟨k, rfl, h⟩
theorem cs_stamp (h : CB k s y) (v : ivc s) (m : Int32) : ∃ k2, fn_X11_stamp m k = some ((s_stamp s m).1, k2) ∧ CB k2 (s_stamp s m).2 y := by
  have v1 := v.1
  unfold fn_X11_stamp s_stamp
  simp only [ci_isMoment h.2.1 v, fg_b_1, q_b_if]
  by_cases c : q_in m ((sC s 0 : Nat) + 1)
  · have i1 : vp_in m 600 := (q_vin _ _).mpr (by unfold q_in at *; omega)
    have i2 := (n_in (n := sC s 0 + 1) c).2
    simp only [fg_if_1 c, fg_g_1 i1, h.2.2.1.1 (h_ix m) (by omega)]
    exact ⟨k, rfl, h⟩
  · simp only [fg_if_0 c]
    exact ⟨k, rfl, h⟩
theorem cs_rule (h : CB k s y) (v : ivc s) (g : ivg s) (p q : Int32) : ∃ k2, fn_X11_rule p q k = some ((s_rule s p q).1, k2) ∧ CB k2 (s_rule s p q).2 y := by
  unfold fn_X11_rule s_rule
  simp only [ci_within, fg_b_1, q_b_if, show (100 : Int32).toInt = 100 from rfl, show (11 : Int32).toInt = 11 from rfl]
  by_cases c1 : q_in p 100
  · by_cases c2 : q_in q 11
    · have c : q_in p 100 ∧ q_in q 11 := ⟨c1, c2⟩
      have h2 : CBM (h_si k 0 12 (100 * p + q)) (uN (uN s 2 p) 3 q) (sC s 0) y := by
        refine CB_up (CB_M h) h.1 (c_ag_si (by decide) (by decide)) ?_ h.2.2.1 h.2.2.2.1 (fun _ _ => rfl) (fun _ _ => rfl) rfl rfl (Nat.le_refl _)
        have h1 := h.2.1
        unfold KN at *
        simp [h_i_si, sC_uN, sN_uN, h1]
      simp only [fg_if_1 c1, fg_if_1 c2, fg_if_1 c, fg_let_1, h.2.1.2.2.2.2.2.2]
      rw [ci_acted h2.2.1.1 v.1, fg_b_1]
      exact ⟨_, rfl, cs_act h2 (by show sC s 0 ≤ sC s 0 + 1; omega) g _⟩
    · have c : ¬ (q_in p 100 ∧ q_in q 11) := fun w => c2 w.2
      simp only [fg_if_1 c1, fg_if_0 c2, fg_if_0 c]
      exact ⟨k, rfl, h⟩
  · have c : ¬ (q_in p 100 ∧ q_in q 11) := fun w => c1 w.1
    simp only [fg_if_0 c1, fg_if_0 c]
    exact ⟨k, rfl, h⟩
theorem q_8c {x z : Int32} (hx : q_in x 8) (hz : q_in z 8) : x * 8 + z = nI (8 * h_ix x + h_ix z) := by rw [Int32.mul_comm]; exact q_8 hx hz
theorem cs_owes (h : CB k s y) (v : ivc s) (x z : Int32) : ∃ k2, fn_X11_owes x z k = some ((s_owes s x z).1, k2) ∧ CB k2 (s_owes s x z).2 y := by
  have v1 := v.2.1
  unfold fn_X11_owes s_owes
  simp only [ci_isHand h.2.1 v, fg_b_1, q_b_if]
  by_cases c1 : q_in x (sC s 1)
  · by_cases c2 : q_in z (sC s 1)
    · have c : q_in x (sC s 1) ∧ q_in z (sC s 1) := ⟨c1, c2⟩
      have e := q_8c (x := x) (z := z) (by unfold q_in at *; omega) (by unfold q_in at *; omega)
      have l1 := (n_in c1).2
      have l2 := (n_in c2).2
      simp only [fg_if_1 c1, fg_if_1 c2, fg_if_1 c, e, fg_g_1 ((n_vp (k := 8 * h_ix x + h_ix z) (n := 64) (by omega)).mpr (by omega)), q_nIx (k := 8 * h_ix x + h_ix z) (by omega), h.2.2.1.2.2 (8 * h_ix x + h_ix z) (by omega)]
      exact ⟨k, rfl, h⟩
    · have c : ¬ (q_in x (sC s 1) ∧ q_in z (sC s 1)) := fun w => c2 w.2
      simp only [fg_if_1 c1, fg_if_0 c2, fg_if_0 c]
      exact ⟨k, rfl, h⟩
  · have c : ¬ (q_in x (sC s 1) ∧ q_in z (sC s 1)) := fun w => c1 w.1
    simp only [fg_if_0 c1, fg_if_0 c]
    exact ⟨k, rfl, h⟩
/-- a debt becomes v -/
theorem cs_debt (h : CBM k s M y) {i : Nat} (hi : i < 64) (v : Int32) : CBM (h_si k 11 i v) (uF s 104 i v) M y := by
  refine CB_up h h.1 (c_ag_si (by decide) (by decide)) ?_ ?_ ?_ (fun _ _ => rfl) ?_ rfl rfl (Nat.le_refl _)
  · have h1 := h.2.1
    unfold KN at *
    simp [h_i_si, sC_uF, sN_uF, h1]
  · refine ⟨fun j hj => ?_, fun j hj => ?_, fun j hj => ?_⟩
    · simp [h_i_si, sF_uF]; exact h.2.2.1.1 j hj
    · simp [h_i_si, sF_uF]; exact h.2.2.1.2.1 j hj
    · simp [h_i_si, sF_uF]; rw [h.2.2.1.2.2 j hj]
  · intro q hq m hm
    simp [h_i_si, sG_uF]; exact h.2.2.2.1 q hq m hm
  · intro z hz
    funext j
    rw [sF_uF, if_neg]
    intro e
    rw [e] at hz
    exact absurd hz (by decide)
theorem cs_pay (h : CB k s y) (v : ivc s) (g : ivg s) (x z a : Int32) : ∃ k2, fn_X11_pay x z a k = some ((s_pay s x z a).1, k2) ∧ CB k2 (s_pay s x z a).2 y := by
  have v1 := v.2.1
  unfold fn_X11_pay s_pay
  simp only [ci_isHand h.2.1 v, fg_b_1, q_b_if]
  by_cases c1 : q_in x (sC s 1)
  · by_cases c2 : q_in z (sC s 1)
    · have c : q_in x (sC s 1) ∧ q_in z (sC s 1) := ⟨c1, c2⟩
      have e := q_8c (x := x) (z := z) (by unfold q_in at *; omega) (by unfold q_in at *; omega)
      have l1 := (n_in c1).2
      have l2 := (n_in c2).2
      have l3 : 8 * h_ix x + h_ix z < 64 := by omega
      simp only [fg_if_1 c1, fg_if_1 c2, fg_if_1 c, e, fg_g_1 ((n_vp (k := 8 * h_ix x + h_ix z) (n := 64) (by omega)).mpr (by omega)), q_nIx (k := 8 * h_ix x + h_ix z) (by omega), h.2.2.1.2.2 (8 * h_ix x + h_ix z) l3]
      generalize 8 * h_ix x + h_ix z = i at l3
      by_cases c3 : a < 1
      · have c3' : ¬ (1 : Int32) ≤ a := fun q => Int32.not_le.mpr c3 q
        simp only [fg_if_1 c3, fg_if_0 c3']
        exact ⟨k, rfl, h⟩
      · have c3' : (1 : Int32) ≤ a := Int32.not_lt.mp c3
        simp only [fg_if_0 c3, fg_if_1 c3']
        by_cases c4 : sF s 104 i < a
        · have c4' : ¬ a ≤ sF s 104 i := fun q => Int32.not_le.mpr c4 q
          simp only [fg_if_1 c4, fg_if_0 c4']
          exact ⟨k, rfl, h⟩
        · have c4' : a ≤ sF s 104 i := Int32.not_lt.mp c4
          have h2 := cs_debt (CB_M h) l3 (sF s 104 i - a)
          simp only [fg_if_0 c4, fg_if_1 c4', fg_let_1, h_i_si, if_true, and_self]
          rw [ci_acted h2.2.1.1 v.1, fg_b_1]
          exact ⟨_, rfl, cs_act h2 (by show sC s 0 ≤ sC s 0 + 1; omega) g _⟩
    · have c : ¬ (q_in x (sC s 1) ∧ q_in z (sC s 1)) := fun w => c2 w.2
      simp only [fg_if_1 c1, fg_if_0 c2, fg_if_0 c]
      exact ⟨k, rfl, h⟩
  · have c : ¬ (q_in x (sC s 1) ∧ q_in z (sC s 1)) := fun w => c1 w.1
    simp only [fg_if_0 c1, fg_if_0 c]
    exact ⟨k, rfl, h⟩
end CO2
