def ivg (s : sA) : Prop := ∀ g m, sC s 0 ≤ m → sG s g m = sG s g (sC s 0)
/-- moments up to M may be held in slots -/
def CBM (k : h_S) (s : sA) (M : Nat) (y : c_Y) : Prop := c_F k ∧ KN k s ∧ KS k s ∧ KG k s ∧ KD k s M y
section CO
variable {k k2 : h_S} {s : sA} {y : c_Y} {M : Nat}
theorem CB_M (h : CB k s y) : CBM k s (sC s 0) y := h
theorem ci_within (x n : Int32) : fn_X11_within x n k = some (q_b (q_in x n.toInt), k) := by
  unfold fn_X11_within
  by_cases c1 : x < 0
  · rw [fg_if_1 c1, q_b0]
    intro q
    rw [Int32.lt_iff_toInt_lt] at c1
    have : (0 : Int32).toInt = 0 := rfl
    have := q.1
    omega
  · rw [fg_if_0 c1]
    have h0 : 0 ≤ x.toInt := by
      rw [Int32.lt_iff_toInt_lt] at c1
      have : (0 : Int32).toInt = 0 := rfl
      omega
    by_cases c2 : n ≤ x
    · rw [fg_if_1 c2, q_b0]
      intro q
      rw [Int32.le_iff_toInt_le] at c2
      have := q.2
      omega
    · rw [fg_if_0 c2, q_b1]
      rw [Int32.le_iff_toInt_le] at c2
      exact ⟨h0, by omega⟩
theorem ci_withinN (x : Int32) {n : Nat} (hn : n < 2 ^ 31) : fn_X11_within x (nI n) k = some (q_b (q_in x n), k) := by rw [ci_within, q_nI hn]
theorem ci_isHand (h : KN k s) (v : ivc s) (x : Int32) : fn_X11_isHand x k = some (q_b (q_in x (sC s 1)), k) := by
  unfold fn_X11_isHand
  rw [h.2.1, ci_withinN x (by have := v.2.1; omega), fg_b_1, fg_g_1 (q_bt _)]
theorem ci_isWriting (h : KN k s) (v : ivc s) (x : Int32) : fn_X11_isWriting x k = some (q_b (q_in x (sC s 2)), k) := by
  unfold fn_X11_isWriting
  rw [h.2.2.1, ci_withinN x (by have := v.2.2.1; omega), fg_b_1, fg_g_1 (q_bt _)]
theorem ci_isMoment (h : KN k s) (v : ivc s) (x : Int32) : fn_X11_isMoment x k = some (q_b (q_in x ((sC s 0 : Nat) + 1)), k) := by
  unfold fn_X11_isMoment
  have v1 := v.1
  rw [h.1]
  by_cases c1 : x < 0
  · rw [fg_if_1 c1, q_b0]
    intro q
    rw [Int32.lt_iff_toInt_lt] at c1
    have : (0 : Int32).toInt = 0 := rfl
    have := q.1
    omega
  · rw [fg_if_0 c1]
    have h0 : 0 ≤ x.toInt := by
      rw [Int32.lt_iff_toInt_lt] at c1
      have : (0 : Int32).toInt = 0 := rfl
      omega
    by_cases c2 : nI (sC s 0) < x
    · rw [fg_if_1 c2, q_b0]
      intro q
      rw [Int32.lt_iff_toInt_lt, q_nI (by omega)] at c2
      have := q.2
      omega
    · rw [fg_if_0 c2, q_b1]
      rw [Int32.lt_iff_toInt_lt, q_nI (by omega)] at c2
      exact ⟨h0, by omega⟩
theorem ci_mix (a b : Int32) : fn_X11_mix a b k = some (q_mix a b, k) := rfl
/-- the heap behind an act that answers x -/
def c_act (k : h_S) (n : Nat) (x : Int32) : h_S := h_si (h_si (h_si k 1 (n + 1) (q_mix (h_i k 1 n) x)) 2 (n + 1) (h_i k 2 n)) 0 0 (nI (n + 1))
theorem ci_acted {n : Nat} (h : h_i k 0 0 = nI n) (hn : n ≤ 512) (x : Int32) : fn_X11_acted x k = some (x, c_act k n x) := by
  have v1 := hn
  unfold fn_X11_acted c_act
  simp only [h, n_p1, show (600 : Int32) = nI 600 from rfl, n_le (show 600 < 2 ^ 31 by omega) (show n + 1 < 2 ^ 31 by omega)]
  rw [fg_if_0 (by omega), fg_g_1 ((n_vp (by omega)).mpr (by omega)), ci_mix, fg_b_1, fg_g_1 ((n_vp (by omega)).mpr (by omega))]
  simp only [fg_let_1, h_i_si, q_nIx (show n < 2 ^ 31 by omega), q_nIx (show n + 1 < 2 ^ 31 by omega)]
  simp [h]
  rw [fg_g_1 ((n_vp (by omega)).mpr (by omega)), n_p1, fg_g_1 ((n_vp (by omega)).mpr (by omega)), q_nIx (by omega), q_nIx (by omega)]
theorem KD_M {M2 : Nat} (h : KD k s M y) (hM : M ≤ M2) : KD k s M2 y := KD_fr h c_ag0 hM (fun _ _ => rfl) (fun _ _ => rfl) rfl rfl (Nat.le_refl _)
theorem cs_act (h : CBM k s M y) (hM : M ≤ sC s 0 + 1) (g : ivg s) (x : Int32) : CB (c_act k (sC s 0) x) (s_act s x) y := by
  obtain ⟨h1, h2, h3, h4, h5⟩ := h
  refine ⟨h1, ?_, ?_, ?_, ?_⟩
  · unfold KN at *
    unfold c_act s_act
    simp [h_i_si, h2, sC_uF, sC_uC, sN_uF, sN_uC]
  · refine ⟨fun i hi => ?_, ?_, ?_⟩
    · have hi : i ≤ sC s 0 + 1 := hi
      unfold c_act s_act
      simp [h_i_si, sF_uF, sF_uC]
      by_cases e : i = sC s 0 + 1
      · simp [e, h3.1 (sC s 0) (Nat.le_refl _)]
      · simp [e, h3.1 i (by omega)]
    · intro i hi
      have hi : i < sC s 2 := hi
      unfold c_act s_act
      simp [h_i_si, sF_uF, sF_uC, h3.2.1 i hi]
    · intro i hi
      unfold c_act s_act
      simp [h_i_si, sF_uF, sF_uC, h3.2.2 i hi]
  · intro q hq m hm
    have hm : m ≤ sC s 0 + 1 := hm
    unfold c_act s_act
    rw [sG_uF, sG_uC]
    by_cases e : m = sC s 0 + 1
    · simp [h_i_si, e]
      rw [h4 q hq _ (Nat.le_refl _)]
      exact (g q _ (by omega)).symm
    · simp [h_i_si, e]
      exact h4 q hq m (by omega)
  · refine KD_fr h5 ?_ hM ?_ ?_ rfl rfl (by show sC s 0 ≤ sC s 0 + 1; omega)
    · unfold c_act
      exact c_agt (c_agt (c_ag_si (by decide) (by decide)) (c_ag_si (by decide) (by decide))) (c_ag_si (by decide) (by decide))
    · intro i hi
      show (if i = 0 then _ else sC s i) = sC s i
      rw [if_neg (by omega)]
    · intro z hz
      unfold s_act
      funext i
      rw [sF_uF, if_neg, sF_uC]
      intro e
      rw [e] at hz
      exact absurd hz (by decide)
/-- numbers alone -/
theorem CB_up {s2 : sA} (h : CBM k s M y) (hF : c_F k2) (g : c_ag c_fxD c_tags k k2) (n : KN k2 s2) (f : KS k2 s2) (gr : KG k2 s2) (hc : ∀ i, 2 ≤ i → sC s2 i = sC s i) (hf : ∀ x, x ∈ ([23, 24, 25, 26, 27, 56, 57, 58, 59, 75, 78, 81, 82, 83, 84, 85, 86, 90, 91, 92, 93, 94, 95, 96, 97, 106, 107, 108, 110, 111, 112] : List Nat) → sF s2 x = sF s x) (hr : sR s2 = sR s) (hk : sK s2 = sK s) (h0 : sC s 0 ≤ sC s2 0) : CBM k2 s2 M y := ⟨hF, n, f, gr, KD_fr h.2.2.2.2 g (Nat.le_refl _) hc hf hr hk h0⟩
theorem cs_hand (h : CB k s y) (v : ivc s) (g : ivg s) : ∃ k2, fn_X11_hand k = some ((s_hand s).1, k2) ∧ CB k2 (s_hand s).2 y := by
  have v1 := v.2.1
  unfold fn_X11_hand s_hand
  simp only [h.2.1.2.1, show (8 : Int32) = nI 8 from rfl, n_lt (show sC s 1 < 2 ^ 31 by omega) (show 8 < 2 ^ 31 by omega)]
  by_cases c : sC s 1 = 8
  · have c2 : ¬ sC s 1 < 8 := by omega
    simp only [fg_if_1 c, fg_if_0 c2]
    exact ⟨k, rfl, h⟩
  · have c2 : sC s 1 < 8 := by omega
    have h2 : CBM (h_si k 0 1 (nI (sC s 1 + 1))) (uC s 1 (sC s 1 + 1)) (sC s 0) y := by
      refine CB_up (CB_M h) h.1 (c_ag_si (by decide) (by decide)) ?_ ?_ ?_ (fun i hi => by rw [sC_uC, if_neg (by omega)]) (fun _ _ => rfl) rfl rfl (Nat.le_refl _)
      · have h1 := h.2.1
        unfold KN at *
        simp [h_i_si, sC_uC, sN_uC, h1]
      · exact h.2.2.1
      · exact h.2.2.2.1
    simp only [fg_if_0 c, fg_if_1 c2, fg_let_1, h_i_si, if_true, n_p1, n_m1, and_self]
    rw [ci_acted h2.2.1.1 v.1, fg_b_1]
    exact ⟨_, rfl, cs_act h2 (by show sC s 0 ≤ sC s 0 + 1; omega) g _⟩
end CO
