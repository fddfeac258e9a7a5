section CLe
variable {k k4 k5 : h_S} {s s2 : sA} {y : c_Y} {M : Nat}
def c_ri (k : h_S) (q : Nat) (w m : Int32) : h_S := h_si (h_si (h_si (h_si (h_si k q 2 2147483647) q 7 (-9)) q 8 0) q 0 w) q 1 m
theorem ci_rinit {q : Nat} {w m : Int32} (h : h_k k q = 24) : fn_X3_init q w m k = some ((), c_ri k q w m) := by
  unfold fn_X3_init c_ri
  rw [fg_g_1 h]
  rfl
theorem c_ri_eq {q x : Nat} {w m : Int32} (h : x ≠ q) : c_eq k (c_ri k q w m) x := c_eqt (c_eqt (c_eqt (c_eqt (c_eq_si h) (c_eq_si h)) (c_eq_si h)) (c_eq_si h)) (c_eq_si h)
def c_rh (k : h_S) (q : Nat) (g u f t o : Int32) : h_S := h_si (h_si (h_si (h_si (h_si k q 3 g) q 4 u) q 5 f) q 6 t) q 7 o
theorem c_rh_eq {q x : Nat} {g u f t o : Int32} (h : x ≠ q) : c_eq k (c_rh k q g u f t o) x := c_eqt (c_eqt (c_eqt (c_eqt (c_eq_si h) (c_eq_si h)) (c_eq_si h)) (c_eq_si h)) (c_eq_si h)
theorem ci_hangOn {q a : Nat} (x z : Int32) (hq : h_k k q = 24) (ha : h_k k a = 24) (n : a ≠ q) : fn_X3_hangOn q (some a) x z k = some ((), c_rh k q (8 + z) (h_i k a 4 &&& (-5)) (h_i k a 5) (h_i k a 6) x) := by
  unfold fn_X3_hangOn c_rh
  have e1 : ∀ (K : h_S) (j i : Nat) (v : Int32), h_i (h_si K q j v) a i = h_i K a i := fun K j i v => by rw [h_i_si, if_neg (fun w => n w.1)]
  have e2 : ∀ (K : h_S) (j b : Nat) (v : Int32), h_k (h_si K q j v) b = h_k K b := fun K j b v => rfl
  simp only [fg_g_1 hq, fg_let_1, fg_o_1, e2, fg_g_1 ha, e1]
theorem u_mask : ∀ u : Fin 8, (nI u &&& (-5 : Int32)) = (nI u &&& 3) := by decide
theorem cs_lend (h : CB k s y) (v : ivc s) (g : ivg s) (vr : ivr2 s) (vu : ∀ r, r < sC s 6 → ∃ u, u < 8 ∧ sF s 92 r = nI u) (r x o : Int32) : ∃ k2 c d y2, fn_X11_lend r x o k = some ((s_lend s r x o).1, k2, c, d) ∧ CB k2 (s_lend s r x o).2 y2 ∧ c + zC y2 ≤ zC y + 2 ∧ d + zD y2 ≤ zD y + 1010 := by
  have v0 := v.1
  have v6 := v.2.2.2.2.2.2.1
  have hl := h.2.2.2.2.1.2.2.2.1
  unfold fn_X11_lend s_lend
  simp only [ci_size (ck_8 h.1) hl, fg_b_1, ci_withinN r (show sC s 6 < 2 ^ 31 by omega), q_b_if, ci_isHand h.2.1 v]
  by_cases c1 : q_in r (sC s 6)
  · simp only [fg_if_1 c1]
    by_cases c2 : q_in x (sC s 1)
    · simp only [fg_if_1 c2]
      by_cases c3 : q_in o (sC s 1)
      · have c : q_in r (sC s 6) ∧ q_in x (sC s 1) ∧ q_in o (sC s 1) := ⟨c1, c2, c3⟩
        simp only [fg_if_1 c3, fg_if_1 c]
        by_cases c4 : x = o
        · simp only [fg_if_1 c4]
          exact ⟨k, 0, 0, y, rfl, h, by omega, by omega⟩
        · simp only [fg_if_0 c4]
          obtain ⟨e1, l1⟩ := n_in c1
          generalize h_ix r = r2 at e1 l1
          subst e1
          obtain ⟨w1, w2, w3, w4, w5, w6, w7, w8, w9⟩ := CB_rt (CB_M h) l1
          have hg : ∀ x, some (yA y 8 r2) = some x → h_k k x = 24 := by
            intro z hz
            cases hz
            exact w1
          have ea := ci_allows (CB_M h) v vr l1 (Nat.le_refl _) (show 2 < 32 by decide) x
          rw [show nI 2 = 2 from rfl] at ea
          simp only [ci_get (ck_8 h.1) hl l1, fg_b_1, fg_g_1 hg, h.2.1.1, ea, q_b_if]
          by_cases c5 : s_mine s r2 x (nI (sC s 0)) ∧ s_hold s r2 2 (nI (sC s 0))
          · simp only [fg_if_1 c5]
            have q0 : h_k k (c_ad 14 k) = 0 := cf_z h.1 rfl
            have q8 : c_tg 14 (c_ad 14 k) := by unfold c_tg c_ad; omega
            have nq : yA y 8 r2 ≠ c_ad 14 k := fun e => by rw [e, q0] at w1; exact absurd w1 (by decide)
            have n0 : (0 : Nat) ≠ c_ad 14 k := by have := q8.1; omega
            have hF2 : c_F (h_nw k (c_ad 14 k) 24 10) := cf_nw h.1 rfl (by decide)
            have j1 : h_k (h_nw k (c_ad 14 k) 24 10) (yA y 8 r2) = 24 := by rw [h_k_nw, if_neg nq]; exact w1
            have j2 : h_k (h_nw k (c_ad 14 k) 24 10) (c_ad 14 k) = 24 := by rw [h_k_nw, if_pos rfl]
            have j3 : h_i (h_nw k (c_ad 14 k) 24 10) (yA y 8 r2) 0 = sF s 90 r2 := by rw [h_i_nw, if_neg nq]; exact w2
            have j4 : h_i (h_nw k (c_ad 14 k) 24 10) 0 0 = nI (sC s 0) := by rw [h_i_nw, if_neg n0]; exact h.2.1.1
            have ei := ci_rinit (w := sF s 90 r2) (m := nI (sC s 0 + 1)) j2
            have m2 : h_k (c_ri (h_nw k (c_ad 14 k) 24 10) (c_ad 14 k) (sF s 90 r2) (nI (sC s 0 + 1))) (c_ad 14 k) = 24 := j2
            have m1 : h_k (c_ri (h_nw k (c_ad 14 k) 24 10) (c_ad 14 k) (sF s 90 r2) (nI (sC s 0 + 1))) (yA y 8 r2) = 24 := j1
            have mi : h_i (c_ri (h_nw k (c_ad 14 k) 24 10) (c_ad 14 k) (sF s 90 r2) (nI (sC s 0 + 1))) (yA y 8 r2) = h_i k (yA y 8 r2) := (c_eqt (c_eq_nw nq) (c_ri_eq nq)).2.2.1
            have eh := ci_hangOn (nI r2) o m2 m1 nq
            rw [mi, w6, w7, w8] at eh
            obtain ⟨u, hu, eu⟩ := vu r2 l1
            have em : (sF s 92 r2 &&& (-5 : Int32)) = sF s 92 r2 &&& 3 := by rw [eu]; exact u_mask ⟨u, hu⟩
            rw [em] at eh
            simp only [fg_let_1, fg_o_1, fg_g_1 j1, j3, j4, n_p1, ei, fg_b_1, fg_g_1 m2, eh]
            have gj : c_jk k (c_rh (c_ri (h_nw k (c_ad 14 k) 24 10) (c_ad 14 k) (sF s 90 r2) (nI (sC s 0 + 1))) (c_ad 14 k) (8 + o) (sF s 92 r2 &&& 3) (sF s 93 r2) (sF s 94 r2) (nI r2)) := by
              intro z hz
              have n1 : z ≠ c_ad 14 k := fun e => by
                rcases hz with w | w
                · exact w (by rw [e]; exact q0)
                · have := q8.1; omega
              exact c_eqt (c_eqt (c_eq_nw n1) (c_ri_eq n1)) (c_rh_eq n1)
            have hF4 : c_F (c_rh (c_ri (h_nw k (c_ad 14 k) 24 10) (c_ad 14 k) (sF s 90 r2) (nI (sC s 0 + 1))) (c_ad 14 k) (8 + o) (sF s 92 r2 &&& 3) (sF s 93 r2) (sF s 94 r2) (nI r2)) := hF2
            have hrt : c_rt (c_rh (c_ri (h_nw k (c_ad 14 k) 24 10) (c_ad 14 k) (sF s 90 r2) (nI (sC s 0 + 1))) (c_ad 14 k) (8 + o) (sF s 92 r2 &&& 3) (sF s 93 r2) (sF s 94 r2) (nI r2)) (c_ad 14 k) (sF s 90 r2) (nI (sC s 0 + 1)) (8 + o) (sF s 92 r2 &&& 3) (sF s 93 r2) (sF s 94 r2) (nI r2) := by
              refine ⟨q8, m2, ?_, ?_, ?_, ?_, ?_, ?_, ?_, ?_⟩ <;> unfold c_rh c_ri <;> simp [h_i_si]
            obtain ⟨k5, cc, dd, y2, a1, a2, a3, a4, a5, a6⟩ := ci_keepRight h v g hF4 gj q0 hrt
            rw [a1, fg_bc_1]
            simp only [fg_c_1]
            exact ⟨_, _, _, _, rfl, a2, by omega, by omega⟩
          · simp only [fg_if_0 c5]
            exact ⟨k, 0, 0, y, rfl, h, by omega, by omega⟩
      · have c : ¬ (q_in r (sC s 6) ∧ q_in x (sC s 1) ∧ q_in o (sC s 1)) := fun w => c3 w.2.2
        simp only [fg_if_0 c3, fg_if_0 c]
        exact ⟨k, 0, 0, y, rfl, h, by omega, by omega⟩
    · have c : ¬ (q_in r (sC s 6) ∧ q_in x (sC s 1) ∧ q_in o (sC s 1)) := fun w => c2 w.2.1
      simp only [fg_if_0 c2, fg_if_0 c]
      exact ⟨k, 0, 0, y, rfl, h, by omega, by omega⟩
  · have c : ¬ (q_in r (sC s 6) ∧ q_in x (sC s 1) ∧ q_in o (sC s 1)) := fun w => c1 w.1
    simp only [fg_if_0 c1, fg_if_0 c]
    exact ⟨k, 0, 0, y, rfl, h, by omega, by omega⟩
end CLe
