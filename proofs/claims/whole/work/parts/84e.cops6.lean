section CS6
variable {k k2 : h_S} {s : sA} {y : c_Y} {M : Nat}
theorem ci_isA_s {z j : Nat} (hz : z ≤ 4) (hj : j < 5) (N : Nat) (d : Int32) : fn_X1_isA_7 (N + 1) d (nI z) (nI j) k = fg_if (d = nI z) (some (1, k)) (fn_X1_isA_7 N d (h_abv z) (nI (j + 1)) k) := by
  show fn_X1_isA_7b _ _ _ _ _ = _
  unfold fn_X1_isA_7b
  rw [fg_if_0 (fun w => by have := (n_le (a := 5) (b := j) (by omega) (by omega)).mp w; omega), ci_within, fg_b_1, q_b_if, fg_if_1 (show q_in (nI z) (Int32.toInt 5) from (n_inI (n := 5) (by omega)).mpr (by omega)), fg_g_1 ((n_vp (by omega)).mpr (by omega)), q_nIx (by omega), n_p1]
  by_cases c : d = nI z
  · rw [fg_if_1 c, fg_if_1 c.symm]
  · rw [fg_if_0 c, fg_if_0 (fun w => c w.symm)]
theorem ci_isA_e {j : Nat} (hj : j ≤ 5) (N : Nat) (d : Int32) : fn_X1_isA_7 (N + 1) d (-9) (nI j) k = some (0, k) := by
  show fn_X1_isA_7b _ _ _ _ _ = _
  unfold fn_X1_isA_7b
  by_cases c : (5 : Int32) ≤ nI j
  · rw [fg_if_1 c]
  · rw [fg_if_0 c, ci_within, fg_b_1, q_b_if, fg_if_0 (fun w => by have := w.1; exact absurd this (by decide))]
theorem ci_isA {a z : Nat} (hk : h_k k a = 22) (hi : h_i k a 0 = nI z) (hz : z ≤ 4) (d : Int32) : fn_X1_isA a d k = some (q_b (d = 0 ∨ d = nI z ∨ (d = 1 ∧ nI z = 2) ∨ (d = 3 ∧ nI z = 4)), k) := by
  unfold fn_X1_isA
  obtain ⟨n, hn⟩ : ∃ n, g_N = n + 6 := ⟨g_N - 6, by have := g_N_le; omega⟩
  rw [fg_g_1 hk, hi, hn, show (0 : Int32) = nI 0 from rfl, ci_isA_s hz (by omega)]
  rcases (show z = 0 ∨ z = 1 ∨ z = 2 ∨ z = 3 ∨ z = 4 by omega) with rfl | rfl | rfl | rfl | rfl
  · rw [show h_abv 0 = -9 from rfl, ci_isA_e (by omega)]
    by_cases c0 : d = nI 0
    · rw [fg_if_1 c0, q_b1 (Or.inl c0)]
    · rw [fg_if_0 c0, q_b0]
      rintro (w | w | w | w)
      · exact c0 w
      · exact c0 w
      · exact absurd w.2 (by decide)
      · exact absurd w.2 (by decide)
  · rw [show h_abv 1 = nI 0 from rfl, ci_isA_s (by omega) (by omega), show h_abv 0 = -9 from rfl, ci_isA_e (by omega)]
    by_cases c1 : d = nI 1
    · rw [fg_if_1 c1, q_b1 (Or.inr (Or.inl c1))]
    · rw [fg_if_0 c1]
      by_cases c0 : d = nI 0
      · rw [fg_if_1 c0, q_b1 (Or.inl c0)]
      · rw [fg_if_0 c0, q_b0]
        rintro (w | w | w | w)
        · exact c0 w
        · exact c1 w
        · exact absurd w.2 (by decide)
        · exact absurd w.2 (by decide)
  · rw [show h_abv 2 = nI 1 from rfl, ci_isA_s (by omega) (by omega), show h_abv 1 = nI 0 from rfl, ci_isA_s (by omega) (by omega), show h_abv 0 = -9 from rfl, ci_isA_e (by omega)]
    by_cases c2 : d = nI 2
    · rw [fg_if_1 c2, q_b1 (Or.inr (Or.inl c2))]
    · rw [fg_if_0 c2]
      by_cases c1 : d = nI 1
      · rw [fg_if_1 c1, q_b1 (Or.inr (Or.inr (Or.inl ⟨c1, rfl⟩)))]
      · rw [fg_if_0 c1]
        by_cases c0 : d = nI 0
        · rw [fg_if_1 c0, q_b1 (Or.inl c0)]
        · rw [fg_if_0 c0, q_b0]
          rintro (w | w | w | w)
          · exact c0 w
          · exact c2 w
          · exact c1 w.1
          · exact absurd w.2 (by decide)
  · rw [show h_abv 3 = nI 0 from rfl, ci_isA_s (by omega) (by omega), show h_abv 0 = -9 from rfl, ci_isA_e (by omega)]
    by_cases c1 : d = nI 3
    · rw [fg_if_1 c1, q_b1 (Or.inr (Or.inl c1))]
    · rw [fg_if_0 c1]
      by_cases c0 : d = nI 0
      · rw [fg_if_1 c0, q_b1 (Or.inl c0)]
      · rw [fg_if_0 c0, q_b0]
        rintro (w | w | w | w)
        · exact c0 w
        · exact c1 w
        · exact absurd w.2 (by decide)
        · exact absurd w.2 (by decide)
  · rw [show h_abv 4 = nI 3 from rfl, ci_isA_s (by omega) (by omega), show h_abv 3 = nI 0 from rfl, ci_isA_s (by omega) (by omega), show h_abv 0 = -9 from rfl, ci_isA_e (by omega)]
    by_cases c2 : d = nI 4
    · rw [fg_if_1 c2, q_b1 (Or.inr (Or.inl c2))]
    · rw [fg_if_0 c2]
      by_cases c1 : d = nI 3
      · rw [fg_if_1 c1, q_b1 (Or.inr (Or.inr (Or.inr ⟨c1, rfl⟩)))]
      · rw [fg_if_0 c1]
        by_cases c0 : d = nI 0
        · rw [fg_if_1 c0, q_b1 (Or.inl c0)]
        · rw [fg_if_0 c0, q_b0]
          rintro (w | w | w | w)
          · exact c0 w
          · exact c2 w
          · exact absurd w.2 (by decide)
          · exact c1 w.1
theorem cs_as (h : CB k s y) (v : ivc s) (vl : ivl s) (x d : Int32) : ∃ k2, fn_X11_as x d k = some ((s_as s x d).1, k2) ∧ CB k2 (s_as s x d).2 y := by
  unfold fn_X11_as s_as
  have h0 : CBM (h_si k 0 18 0) (s_flt s 0) (sC s 0) y := cs_flt (CB_M h) 0
  have v0 : ivc (s_flt s 0) := v
  simp only [fg_let_1, ci_linkAt h0 v0, fg_b_1, show sC (s_flt s 0) = sC s from rfl]
  by_cases c : q_in x (sC s 5)
  · obtain ⟨_, w1, w2, _⟩ := CB_lnk h0 (n_in c).2
    obtain ⟨z, hz, ez⟩ := vl (h_ix x) (n_in c).2
    have n : ¬ (some (yA y 6 (h_ix x)) = none) := by simp
    have w2' : h_i (h_si k 0 18 0) (yA y 6 (h_ix x)) 0 = nI z := w2.trans ez
    simp only [fg_if_1 c, fg_if_0 n, ci_within, fg_b_1, q_b_if, show (5 : Int32).toInt = 5 from rfl]
    by_cases c2 : q_in d 5
    · simp only [fg_if_1 c2, fg_o_1, fg_g_1 w1, ci_isA w1 w2' hz, fg_b_1, q_b_if, ez, ci_failed, h_si_si]
      by_cases c3 : d = 0 ∨ d = nI z ∨ (d = 1 ∧ nI z = 2) ∨ (d = 3 ∧ nI z = 4)
      · rw [fg_if_1 c3, fg_if_1 c3]
        exact ⟨_, rfl, h0⟩
      · rw [fg_if_0 c3, fg_if_0 c3]
        exact ⟨_, rfl, cs_flt (CB_M h) 2⟩
    · simp only [fg_if_0 c2]
      exact ⟨_, rfl, h0⟩
  · simp only [fg_if_0 c, fg_if_T]
    exact ⟨_, rfl, h0⟩
theorem n_div {a b : Nat} (ha : a < 2 ^ 31) (hb : b < 2 ^ 31) : nI a / nI b = nI (a / b) := by
  apply Int32.toInt_inj.mp
  have hd : a / b ≤ a := Nat.div_le_self _ _
  rw [Int32.toInt_div, q_nI ha, q_nI hb, q_nI (by omega), ← Int.ofNat_tdiv]
  have e : ((a / b : Nat) : Int).bmod (2 ^ 32) = ((a / b : Nat) : Int) := by
    generalize a / b = c at hd
    rw [Int.bmod_eq_of_le] <;> omega
  exact e
theorem cs_hit (h : CB k s y) (v : ivc s) (x z : Int32) : ∃ k2, fn_X11_hit x z k = some ((s_hit s x z).1, k2) ∧ CB k2 (s_hit s x z).2 y := by
  have v1 := v.2.2.2.2.2.2.2.2
  unfold fn_X11_hit s_hit fn_X11_linksOfHit
  rw [h.2.1.2.2.2.1, ci_withinN x (by omega), fg_b_1, q_b_if]
  by_cases c : q_in x (sC s 8)
  · obtain ⟨e, l⟩ := n_in c
    rw [fg_if_1 c, fg_if_1 c]
    generalize h_ix x = i at e l
    subst e
    obtain ⟨a, vv, p, l1, l2, l3, e1, e2, e3, e4⟩ := h.2.2.2.2.2.2.2.2.2.2.2.1 i l
    have g1 : vp_in (nI i) 200 := (n_vp (by omega)).mpr (by omega)
    have d1 : ((a * 16 + vv) * 300 + p) / 300 = a * 16 + vv := by omega
    have d2 : (a * 16 + vv) / 16 = a := by omega
    have d3 : ((a * 16 + vv) * 300 + p) / 4800 = a := by omega
    simp only [fg_g_1 g1, e4, e1, e2, e3, show (300 : Int32) = nI 300 from rfl, show (16 : Int32) = nI 16 from rfl, show (4800 : Int32) = nI 4800 from rfl, show (24 : Int32) = nI 24 from rfl, n_div (a := (a * 16 + vv) * 300 + p) (b := 300) (by omega) (by omega), d1, n_div (a := a * 16 + vv) (b := 16) (by omega) (by omega), d2, n_div (a := (a * 16 + vv) * 300 + p) (b := 4800) (by omega) (by omega), d3, n_mul, n_sub (a := a * 16 + vv) (b := a * 16) (by omega), n_sub (a := (a * 16 + vv) * 300 + p) (b := (a * 16 + vv) * 300) (by omega), n_min a 24 (by omega) (by omega), fg_b_1, Nat.add_sub_cancel_left, Nat.min_eq_left l1, fg_if_some]
    exact ⟨k, rfl, h⟩
  · rw [fg_if_0 c, fg_if_0 c]
    exact ⟨k, rfl, h⟩
def ivw (s : sA) : Prop := ∀ w m, sC s 2 ≤ w → sR s w m = []
/-- the heap behind begin -/
def c_bg (k : h_S) (w m : Nat) (x : Int32) : h_S := h_si (h_sr (h_sr (h_sr (h_si (h_nw (h_si k 15 w x) (c_ad 4 k) 25 3) (c_ad 4 k) 0 (nI m)) (c_ad 4 k) 1 (some 17)) (c_ad 4 k) 2 none) 16 w (some (c_ad 4 k))) 3 0 (nI (w + 1))
theorem c_bg_F (hF : c_F k) (w m : Nat) (x : Int32) : c_F (c_bg k w m x) := by
  have e : c_ad 4 k = c_ad 4 (h_si k 15 w x) := rfl
  have h1 : c_F (h_nw (h_si k 15 w x) (c_ad 4 k) 25 3) := cf_nw (k := h_si k 15 w x) hF e (by decide)
  have h2 : h_k (h_nw (h_si k 15 w x) (c_ad 4 k) 25 3) (c_ad 4 k) = 25 := by rw [h_k_nw, if_pos rfl]
  have h3 : c_F (h_sr (h_si (h_nw (h_si k 15 w x) (c_ad 4 k) 25 3) (c_ad 4 k) 0 (nI m)) (c_ad 4 k) 1 (some 17)) := cf_sr (k := h_si (h_nw (h_si k 15 w x) (c_ad 4 k) 25 3) (c_ad 4 k) 0 (nI m)) h1 h2 (by decide) _
  have h4 : c_F (h_sr (h_sr (h_si (h_nw (h_si k 15 w x) (c_ad 4 k) 25 3) (c_ad 4 k) 0 (nI m)) (c_ad 4 k) 1 (some 17)) (c_ad 4 k) 2 none) := cf_sr h3 (kd := 25) h2 (by decide) _
  have h5 : h_k (h_sr (h_sr (h_si (h_nw (h_si k 15 w x) (c_ad 4 k) 25 3) (c_ad 4 k) 0 (nI m)) (c_ad 4 k) 1 (some 17)) (c_ad 4 k) 2 none) 16 = 4 := cf_k h4 rfl (by decide)
  exact cf_sr h4 h5 (by decide) _
theorem ci_isFull {w : Nat} (h : h_i k 3 0 = nI w) (hw : w ≤ 12) : fn_X7_isFull k = some (q_b (w = 12), k) := by
  unfold fn_X7_isFull
  rw [h]
  by_cases c : w = 12
  · rw [q_b1 c, fg_if_0 (fun q => by have := (n_lt (a := w) (b := 12) (by omega) (by omega)).mp q; omega)]
  · rw [q_b0 c, fg_if_1 (show nI w < 12 from (n_lt (a := w) (b := 12) (by omega) (by omega)).mpr (by omega))]
theorem ci_begin (hF : c_F k) {w m : Nat} (hw : h_i k 3 0 = nI w) (hw2 : w < 12) (x : Int32) : fn_X7_begin x (nI m) k = some (nI w, c_bg k w m x, 1, 3) := by
  unfold fn_X7_begin fn_X4_init
  have n12 : ¬ w = 12 := by omega
  have g1 : vp_in (nI w) 12 := (n_vp (by omega)).mpr hw2
  have e1 : h_i (h_si k 15 w x) 3 0 = nI w := by rw [h_i_si, if_neg (by omega)]; exact hw
  have e2 : c_ad 4 (h_si k 15 w x) = c_ad 4 k := rfl
  have e3 : h_k (h_nw (h_si k 15 w x) (c_ad 4 k) 25 3) (c_ad 4 k) = 25 := by rw [h_k_nw, if_pos rfl]
  have e4 : h_r (h_nw (h_si k 15 w x) (c_ad 4 k) 25 3) 3 3 = some 17 := cf_r (cf_nw (k := h_si k 15 w x) hF e2.symm (by decide)) rfl
  have e5 : h_k (h_sr (h_sr (h_si (h_nw (h_si k 15 w x) (c_ad 4 k) 25 3) (c_ad 4 k) 0 (nI m)) (c_ad 4 k) 1 (some 17)) (c_ad 4 k) 2 none) (c_ad 4 k) = 25 := e3
  have hq : (3 : Nat) ≠ c_ad 4 k := by unfold c_ad; omega
  have e6 : h_i (h_sr (h_sr (h_sr (h_si (h_nw (h_si k 15 w x) (c_ad 4 k) 25 3) (c_ad 4 k) 0 (nI m)) (c_ad 4 k) 1 (some 17)) (c_ad 4 k) 2 none) 16 w (some (c_ad 4 k))) 3 0 = nI w := by
    show h_i (h_si (h_nw (h_si k 15 w x) (c_ad 4 k) 25 3) (c_ad 4 k) 0 (nI m)) 3 0 = _
    rw [h_i_si, if_neg (fun q => hq q.1), h_i_nw, if_neg hq]
    exact e1
  simp only [ci_isFull hw (by omega), fg_b_1, q_b_if, hw, fg_if_0 n12, fg_g_1 g1, fg_let_1, q_nIx (show w < 2 ^ 31 by omega), e1, e2, e4, fg_g_1 e3, fg_g_1 e5, e6, n_p1]
  rw [h_i_si, if_pos ⟨rfl, rfl⟩, n_m1]
  rfl
/-- a new writing of x -/
theorem cs_begin (h : CBM k s M y) (v : ivc s) (vw : ivw s) {x : Int32} (hw : sC s 2 < 12) : CBM (c_bg k (sC s 2) (sC s 0 + 1) x) (uC (uF s 9 (sC s 2) x) 2 (sC s 2 + 1)) M (yUH y (sC s 2) [(sC s 0 + 1, [])]) := by
  have v0 := v.1
  have hF := c_bg_F h.1 (sC s 2) (sC s 0 + 1) x
  have hq : 128 ≤ c_ad 4 k := by unfold c_ad; omega
  have hz : h_k k (c_ad 4 k) = 0 := cf_z h.1 rfl
  have g : c_ag [0, 1, 2, 4, 5, 6, 8, 11, 13, 17, 18, 19, 20, 52, 53, 54, 55, 56, 57, 58, 59] c_tags k (c_bg k (sC s 2) (sC s 0 + 1) x) := by
    have a : ∀ b, b ≠ 15 → b ≠ 16 → b ≠ 3 → b ≠ c_ad 4 k → c_eq k (c_bg k (sC s 2) (sC s 0 + 1) x) b := fun b h1 h2 h3 h4 => c_eqt (c_eqt (c_eqt (c_eqt (c_eqt (c_eqt (c_eq_si h1) (c_eq_nw h4)) (c_eq_si h4)) (c_eq_sr h4)) (c_eq_sr h4)) (c_eq_sr h2)) (c_eq_si h3)
    refine ⟨fun b hb => ?_, fun b hb _ hk => ?_⟩
    · simp only [List.mem_cons, List.not_mem_nil, or_false] at hb
      exact a b (by omega) (by omega) (by omega) (by omega)
    · exact a b (by omega) (by omega) (by omega) (fun e => hk (by rw [e]; exact hz))
  have e0 := (g.1 0 (by decide)).2.2.1
  have q3 : (3 : Nat) ≠ c_ad 4 k := by omega
  have q15 : (15 : Nat) ≠ c_ad 4 k := by omega
  have q16 : (16 : Nat) ≠ c_ad 4 k := by omega
  have i3 : h_i (c_bg k (sC s 2) (sC s 0 + 1) x) 3 0 = nI (sC s 2 + 1) := by unfold c_bg; rw [h_i_si, if_pos ⟨rfl, rfl⟩]
  have i15 : ∀ j, h_i (c_bg k (sC s 2) (sC s 0 + 1) x) 15 j = if j = sC s 2 then x else h_i k 15 j := by
    intro j
    unfold c_bg
    rw [h_i_si, if_neg (by omega)]
    show h_i (h_si (h_nw (h_si k 15 (sC s 2) x) (c_ad 4 k) 25 3) (c_ad 4 k) 0 (nI (sC s 0 + 1))) 15 j = _
    rw [h_i_si, if_neg (fun q => q15 q.1), h_i_nw, if_neg q15, h_i_si]
    by_cases e : j = sC s 2
    · rw [if_pos ⟨rfl, e⟩, if_pos e]
    · rw [if_neg (fun q => e q.2), if_neg e]
  have r16 : ∀ j, h_r (c_bg k (sC s 2) (sC s 0 + 1) x) 16 j = if j = sC s 2 then some (c_ad 4 k) else h_r k 16 j := by
    intro j
    show h_r (h_sr (h_sr (h_sr (h_si (h_nw (h_si k 15 (sC s 2) x) (c_ad 4 k) 25 3) (c_ad 4 k) 0 (nI (sC s 0 + 1))) (c_ad 4 k) 1 (some 17)) (c_ad 4 k) 2 none) 16 (sC s 2) (some (c_ad 4 k))) 16 j = _
    rw [h_r_sr]
    by_cases e : j = sC s 2
    · rw [if_pos ⟨rfl, e⟩, if_pos e]
    · rw [if_neg (fun q => e q.2), if_neg e, h_r_sr, if_neg (fun q => q16 q.1), h_r_sr, if_neg (fun q => q16 q.1)]
      show h_r (h_nw (h_si k 15 (sC s 2) x) (c_ad 4 k) 25 3) 16 j = _
      rw [h_r_nw, if_neg q16]
      rfl
  have n16 : c_ad 4 k ≠ 16 := fun q => q16 q.symm
  have n3 : c_ad 4 k ≠ 3 := fun q => q3 q.symm
  have kq : h_k (c_bg k (sC s 2) (sC s 0 + 1) x) (c_ad 4 k) = 25 := by
    show h_k (h_nw (h_si k 15 (sC s 2) x) (c_ad 4 k) 25 3) (c_ad 4 k) = 25
    rw [h_k_nw, if_pos rfl]
  have iq : h_i (c_bg k (sC s 2) (sC s 0 + 1) x) (c_ad 4 k) 0 = nI (sC s 0 + 1) := by
    unfold c_bg
    rw [h_i_si, if_neg (fun q => n3 q.1)]
    show h_i (h_si (h_nw (h_si k 15 (sC s 2) x) (c_ad 4 k) 25 3) (c_ad 4 k) 0 (nI (sC s 0 + 1))) (c_ad 4 k) 0 = _
    rw [h_i_si, if_pos ⟨rfl, rfl⟩]
  have rq : h_r (c_bg k (sC s 2) (sC s 0 + 1) x) (c_ad 4 k) 1 = some 17 ∧ h_r (c_bg k (sC s 2) (sC s 0 + 1) x) (c_ad 4 k) 2 = none := by
    have e : ∀ j, h_r (c_bg k (sC s 2) (sC s 0 + 1) x) (c_ad 4 k) j = h_r (h_sr (h_sr (h_si (h_nw (h_si k 15 (sC s 2) x) (c_ad 4 k) 25 3) (c_ad 4 k) 0 (nI (sC s 0 + 1))) (c_ad 4 k) 1 (some 17)) (c_ad 4 k) 2 none) (c_ad 4 k) j := by
      intro j
      show h_r (h_sr (h_sr (h_sr (h_si (h_nw (h_si k 15 (sC s 2) x) (c_ad 4 k) 25 3) (c_ad 4 k) 0 (nI (sC s 0 + 1))) (c_ad 4 k) 1 (some 17)) (c_ad 4 k) 2 none) 16 (sC s 2) (some (c_ad 4 k))) (c_ad 4 k) j = _
      rw [h_r_sr, if_neg (fun q => n16 q.1)]
    rw [e, e]
    refine ⟨?_, ?_⟩
    · rw [h_r_sr, if_neg (by omega), h_r_sr, if_pos ⟨rfl, rfl⟩]
    · rw [h_r_sr, if_pos ⟨rfl, rfl⟩]
  obtain ⟨_, h2, h3, h4, d1, d2, d3, d4, d5, d6, d7, d8, d9, d10⟩ := h
  have f9 : ∀ z, z ≠ 9 → sF (uC (uF s 9 (sC s 2) x) 2 (sC s 2 + 1)) z = sF s z := by
    intro z hz
    funext i
    rw [sF_uC, sF_uF, if_neg hz]
  have fc : ∀ i, i ≠ 2 → sC (uC (uF s 9 (sC s 2) x) 2 (sC s 2 + 1)) i = sC s i := by
    intro i hi
    rw [sC_uC, if_neg hi, sC_uF]
  refine ⟨hF, ?_, ?_, ?_, ?_⟩
  · unfold KN at *
    rw [e0, i3, fc 0 (by decide), fc 1 (by decide), fc 8 (by decide)]
    exact ⟨h2.1, h2.2.1, rfl, h2.2.2.2⟩
  · refine ⟨fun i hi => ?_, fun i hi => ?_, fun i hi => ?_⟩
    · rw [(g.1 1 (by decide)).2.2.1, f9 2 (by decide)]; exact h3.1 i hi
    · have hi : i < sC s 2 + 1 := hi
      rw [i15, sF_uC, sF_uF, if_pos rfl]
      by_cases e : i = sC s 2
      · rw [if_pos e, if_pos e]
      · rw [if_neg e, if_neg e]; exact h3.2.1 i (by omega)
    · rw [(g.1 11 (by decide)).2.2.1, f9 104 (by decide)]; exact h3.2.2 i hi
  · intro q hq m hm
    rw [(g.1 2 (by decide)).2.2.1]; exact h4 q hq m hm
  · refine ⟨KL_fr d1 g (by decide) (by decide) (fun i hi => fc i (by intro e; rw [e] at hi; exact absurd hi (by decide))), KW_fr d2 g (by decide) (by decide) rfl (fun z hz => f9 z (by intro e; rw [e] at hz; exact absurd hz (by decide))), KV_fr d3 g (by decide) (by decide) rfl (fun z hz => f9 z (by intro e; rw [e] at hz; exact absurd hz (by decide))) (fun _ _ => rfl), KC_fr d4 g (by decide) (by decide) rfl (fun z hz => f9 z (by intro e; rw [e] at hz; exact absurd hz (by decide))) rfl, KK_fr d5 g (by decide) (by decide) rfl (fun z hz => f9 z (by intro e; rw [e] at hz; exact absurd hz (by decide))), KR_fr d6 g (by decide) rfl (fun z hz => f9 z (by intro e; rw [e] at hz; exact absurd hz (by decide))), KT_fr d7 g (by decide) (fun z hz => f9 z (by intro e; rw [e] at hz; exact absurd hz (by decide))), KH_fr d8 g (by decide) rfl (fun z hz => f9 z (by intro e; rw [e] at hz; exact absurd hz (by decide))), ?_, KX_fr d10 g (by decide) (by decide) (by decide) (Nat.le_refl _) (by show sC s 2 ≤ sC s 2 + 1; omega) (fun _ _ _ _ _ _ => rfl)⟩
    intro w hw3
    have hw3 : w < sC s 2 + 1 := hw3
    rw [yH_UH, r16]
    by_cases e : w = sC s 2
    · rw [if_pos e, if_pos e]
      refine ⟨⟨by simp, by show 1 ≤ min M 600 + 1; omega⟩, ⟨c_ad 4 k, 17, rfl, ⟨hq, by unfold c_ad; omega⟩, kq, by omega, iq, rq.1, ⟨Or.inl rfl, cf_k hF rfl (by decide), cf_n (a := 17) hF rfl (by decide) rfl, fun j p hp => by cases j <;> simp at hp⟩, rq.2⟩, fun m => ?_⟩
      have : sR s w m = [] := vw w m (by omega)
      show sR s w m = _
      rw [this]
      unfold s_lk
      split
      · rfl
      · rfl
    · rw [if_neg e, if_neg e]
      obtain ⟨a1, a2, a3⟩ := d9 w (by omega)
      exact ⟨a1, c_ch_fr g (by decide) (by decide) (by decide) (by decide) _ _ a2, a3⟩
theorem cs_writing (h : CB k s y) (v : ivc s) (g : ivg s) (vw : ivw s) (x : Int32) : ∃ k2 c d y2, fn_X11_writing x k = some ((s_writing s x).1, k2, c, d) ∧ CB k2 (s_writing s x).2 y2 ∧ c ≤ 1 ∧ d ≤ 3 ∧ (∀ i, yC y2 i = yC y i) ∧ (∀ L, yE y2 L = yE y L) := by
  have v0 := v.1
  have v2 := v.2.2.1
  unfold fn_X11_writing s_writing
  simp only [ci_isHand h.2.1 v, fg_b_1, q_b_if]
  by_cases c1 : q_in x (sC s 1)
  · simp only [fg_if_1 c1, ci_isFull h.2.1.2.2.1 v2, fg_b_1, q_b_if]
    by_cases c2 : sC s 2 = 12
    · simp only [fg_if_1 c2]
      exact ⟨k, 0, 0, y, rfl, h, by omega, by omega, fun _ => rfl, fun _ => rfl⟩
    · have hb := cs_begin (x := x) (CB_M h) v vw (by omega)
      simp only [fg_if_0 c2, h.2.1.1, n_p1, ci_begin h.1 h.2.1.2.2.1 (show sC s 2 < 12 by omega), fg_bc_1]
      rw [ci_acted hb.2.1.1 v0, fg_b_1]
      exact ⟨_, 1 + 0, 3 + 0, _, rfl, cs_act hb (by show sC s 0 ≤ sC s 0 + 1; omega) g _, by omega, by omega, fun _ => rfl, fun _ => rfl⟩
  · simp only [fg_if_0 c1]
    exact ⟨k, 0, 0, y, rfl, h, by omega, by omega, fun _ => rfl, fun _ => rfl⟩
end CS6
