section CS3
variable {k k2 : h_S} {s : sA} {y : c_Y} {M : Nat}
theorem c_shf (h : c_F k) {q : Nat} (hq : q < 4) : h_r k 9 q = some (52 + q) ∧ h_k k (52 + q) = 26 ∧ h_r k (52 + q) 2 = some (56 + q) ∧ h_k k (56 + q) = 1 ∧ h_n k (56 + q) = 60 := by
  rcases (show q = 0 ∨ q = 1 ∨ q = 2 ∨ q = 3 by omega) with rfl | rfl | rfl | rfl
  · exact ⟨cf_r (a := 9) (j := 0) h rfl, cf_k h rfl (by decide), cf_r (a := 52) (j := 2) h rfl, cf_k h rfl (by decide), cf_n (a := 56) h rfl (by decide) rfl⟩
  · exact ⟨cf_r (a := 9) (j := 1) h rfl, cf_k h rfl (by decide), cf_r (a := 53) (j := 2) h rfl, cf_k h rfl (by decide), cf_n (a := 57) h rfl (by decide) rfl⟩
  · exact ⟨cf_r (a := 9) (j := 2) h rfl, cf_k h rfl (by decide), cf_r (a := 54) (j := 2) h rfl, cf_k h rfl (by decide), cf_n (a := 58) h rfl (by decide) rfl⟩
  · exact ⟨cf_r (a := 9) (j := 3) h rfl, cf_k h rfl (by decide), cf_r (a := 55) (j := 2) h rfl, cf_k h rfl (by decide), cf_n (a := 59) h rfl (by decide) rfl⟩
theorem cs_flt (h : CBM k s M y) (x : Int32) : CBM (h_si k 0 18 x) (s_flt s x) M y := by
  refine CB_up h h.1 (c_ag_si (by decide) (by decide)) ?_ ?_ ?_ (fun _ _ => rfl) (fun _ _ => rfl) rfl rfl (Nat.le_refl _)
  · have h1 := h.2.1
    unfold KN at *
    simp [h_i_si, s_flt, sC_uN, sN_uN, h1]
  · obtain ⟨h1, h2, h3⟩ := h.2.2.1
    refine ⟨fun i hi => ?_, fun i hi => ?_, fun i hi => ?_⟩
    · simp [h_i_si]; exact h1 i hi
    · simp [h_i_si]; exact h2 i hi
    · simp [h_i_si]; exact h3 i hi
  · intro q hq m hm
    simp [h_i_si]; exact h.2.2.2.1 q hq m hm
theorem s_sz (vs : ivs s) {q : Nat} (hq : q < 4) : (sF s 110 q < 0 ↔ sF s 110 q = -1) ∧ (¬ sF s 110 q < 0 → ∃ z, z ≤ 60 ∧ sF s 110 q = nI z) := by
  rcases vs q hq with e | ⟨z, hz, e⟩
  · rw [e]; exact ⟨⟨fun _ => rfl, fun _ => by decide⟩, fun w => absurd (by decide) w⟩
  · rw [e]
    refine ⟨⟨fun w => absurd w (n_neg (by omega)), fun w => ?_⟩, fun _ => ⟨z, hz, rfl⟩⟩
    have := congrArg Int32.toInt w
    rw [q_nI (by omega)] at this
    have e1 : (-1 : Int32).toInt = -1 := rfl
    omega
theorem ci_isNothing (hF : c_F k) (ht : KT k s) (vs : ivs s) {q : Nat} (hq : q < 4) : fn_X5_isNothing (52 + q) k = some (q_b (sF s 110 q < 0), k) := by
  obtain ⟨_, f2, _⟩ := c_shf hF hq
  obtain ⟨_, t2, _⟩ := ht q hq
  unfold fn_X5_isNothing
  rw [fg_g_1 f2, t2]
  by_cases c : sF s 110 q < 0
  · rw [fg_if_1 ((s_sz vs hq).1.mp c), q_b1 c]
  · rw [fg_if_0 (fun w => c ((s_sz vs hq).1.mpr w)), q_b0 c]
theorem ci_hasCells (hF : c_F k) (ht : KT k s) {q : Nat} (hq : q < 4) (i n : Int32) {z : Nat} (hz : z ≤ 60) (ez : sF s 110 q = nI z) : fn_X5_hasCells (52 + q) i n k = some (q_b (s_ok i n (sF s 110 q)), k) := by
  obtain ⟨_, f2, _⟩ := c_shf hF hq
  obtain ⟨_, t2, _⟩ := ht q hq
  have e0 : (0 : Int32).toInt = 0 := rfl
  unfold fn_X5_hasCells
  by_cases c1 : n < 0
  · rw [fg_if_1 c1, q_b0]
    intro w
    rw [Int32.lt_iff_toInt_lt] at c1
    have := w.2.1
    omega
  · rw [fg_if_0 c1]
    rw [Int32.lt_iff_toInt_lt] at c1
    by_cases c2 : i < 0
    · rw [fg_if_1 c2, q_b0]
      intro w
      rw [Int32.lt_iff_toInt_lt] at c2
      have := w.1
      omega
    · rw [fg_if_0 c2, fg_g_1 f2, t2]
      rw [Int32.lt_iff_toInt_lt] at c2
      have ezt : (sF s 110 q).toInt = z := by rw [ez, q_nI (by omega)]
      by_cases c3 : sF s 110 q < i
      · rw [fg_if_1 c3, q_b0]
        intro w
        rw [Int32.lt_iff_toInt_lt] at c3
        have := w.2.2
        omega
      · rw [fg_if_0 c3]
        rw [Int32.lt_iff_toInt_lt] at c3
        have es : (sF s 110 q - i).toInt = (sF s 110 q).toInt - i.toInt := q_sub (by omega) (by omega)
        by_cases c4 : sF s 110 q - i < n
        · rw [fg_if_1 c4, q_b0]
          intro w
          rw [Int32.lt_iff_toInt_lt, es] at c4
          have := w.2.2
          omega
        · rw [fg_if_0 c4, q_b1]
          rw [Int32.lt_iff_toInt_lt, es] at c4
          exact ⟨by omega, by omega, by omega⟩
/-- faultOf, of a lane that there is -/
theorem ci_faultOf (hF : c_F k) (ht : KT k s) (vs : ivs s) {q : Nat} (hq : q < 4) {l : Int32} (hl : q_in l 3) (i n : Int32) : fn_X5_faultOf (52 + q) l i n k = some (s_bf s q l i n, k) := by
  obtain ⟨_, f2, _⟩ := c_shf hF hq
  obtain ⟨t1, t2, _⟩ := ht q hq
  unfold fn_X5_faultOf s_bf
  rw [fg_g_1 f2, ci_isNothing hF ht vs hq, fg_b_1, q_b_if, fg_if_1 hl, t1]
  by_cases c1 : sF s 110 q < 0
  · rw [fg_if_1 c1, fg_if_1 c1]
  · obtain ⟨z, hz, ez⟩ := (s_sz vs hq).2 c1
    rw [fg_if_0 c1, fg_if_0 c1]
    by_cases c2 : sF s 111 q = l
    · rw [fg_if_1 c2.symm, fg_if_1 c2]
      by_cases c3 : n < 0
      · rw [fg_if_0 (fun w => Int32.not_le.mpr c3 w), fg_if_1 c3]
      · rw [fg_if_1 (Int32.not_lt.mp c3), fg_if_0 c3, ci_hasCells hF ht hq i n hz ez, fg_b_1, q_b_if, fg_if_some]
    · rw [fg_if_0 (fun w => c2 w.symm), fg_if_0 c2]
theorem ci_refusedCells (hF : c_F k) (ht : KT k s) (vs : ivs s) {q : Nat} (hq : q < 4) (l i n : Int32) : fn_X11_refusedCells (nI q) l i n k = fg_if (s_bf s q l i n = 0) (some (0, k)) (fg_if (s_bf s q l i n = -2) (some (-2, k)) (some (-10 - s_bf s q l i n, h_si k 0 18 (s_bf s q l i n)))) := by
  obtain ⟨f1, f2, _⟩ := c_shf hF hq
  unfold fn_X11_refusedCells
  rw [ci_within, fg_b_1, q_b_if, show (3 : Int32).toInt = 3 from rfl]
  by_cases c : q_in l 3
  · rw [fg_if_1 c, fg_g_1 ((n_vp (by omega)).mpr hq), q_nIx (by omega), f1, fg_o_1, fg_g_1 f2, ci_faultOf hF ht vs hq c, fg_b_1]
    have n2 : ¬ s_bf s q l i n = -2 := by
      unfold s_bf
      rw [fg_if_1 c]
      by_cases c1 : sF s 110 q < 0
      · rw [fg_if_1 c1]; decide
      · rw [fg_if_0 c1]
        by_cases c2 : sF s 111 q = l
        · rw [fg_if_1 c2]
          by_cases c3 : n < 0
          · rw [fg_if_1 c3]; decide
          · rw [fg_if_0 c3]
            by_cases c4 : s_ok i n (sF s 110 q)
            · rw [fg_if_1 c4]; decide
            · rw [fg_if_0 c4]; decide
        · rw [fg_if_0 c2]; decide
    by_cases c0 : s_bf s q l i n = 0
    · rw [fg_if_1 c0, fg_if_1 c0]
    · rw [fg_if_0 c0, fg_if_0 c0, fg_if_0 n2]
      rfl
  · have e : s_bf s q l i n = -2 := by unfold s_bf; rw [fg_if_0 c]
    rw [fg_if_0 c, e, fg_if_0 (by decide), fg_if_1 rfl]
/-- Arrays.fill -/
theorem ci_fill_5 {a n : Nat} {v : Int32} (hk : h_k k a = 1) (hn : h_n k a = n) (hn2 : n < 2 ^ 31) : ∀ (d j N : Nat) (g : Nat → Int32), j + d = n → d < N → fn_J7_fill_53178_5 N (some a) v (nI j) (nI n) (h_af k a g) = some ((), h_af k a (fun x => if j ≤ x ∧ x < n then v else g x)) := by
  intro d
  induction d with
  | zero =>
    intro j N g hj hN
    obtain ⟨N, rfl⟩ : ∃ m, N = m + 1 := ⟨N - 1, by omega⟩
    show fn_J7_fill_53178_5b _ _ _ _ _ _ = _
    unfold fn_J7_fill_53178_5b
    rw [fg_if_1 ((n_le (by omega) (by omega)).mpr (by omega))]
    congr 3
    funext x
    rw [if_neg (by omega)]
  | succ d ih =>
    intro j N g hj hN
    obtain ⟨N, rfl⟩ : ∃ m, N = m + 1 := ⟨N - 1, by omega⟩
    show fn_J7_fill_53178_5b (fn_J7_fill_53178_5 N) _ _ _ _ _ = _
    unfold fn_J7_fill_53178_5b
    have e1 : h_k (h_af k a g) a = 1 := hk
    have e2 : h_n (h_af k a g) a = n := hn
    rw [fg_if_0 (fun w => by have := (n_le (a := n) (b := j) (by omega) (by omega)).mp w; omega), fg_o_1, fg_g_1 e1, e2, fg_g_1 ((n_vp (by omega)).mpr (by omega)), fg_let_1, q_nIx (by omega), h_si_af, n_p1, ih (j + 1) N _ (by omega) (by omega)]
    congr 3
    funext x
    by_cases e : x = j
    · rw [if_neg (by omega), if_pos e, if_pos (by omega)]
    · by_cases e3 : j + 1 ≤ x ∧ x < n
      · rw [if_pos e3, if_pos (by omega)]
      · rw [if_neg e3, if_neg e, if_neg (by omega)]
theorem ci_fill {a : Nat} {v : Int32} (hk : h_k k a = 1) (hn : h_n k a < 100000) : fn_J7_fill_53178 (some a) v k = some ((), h_af k a (fun x => if x < h_n k a then v else h_i k a x)) := by
  unfold fn_J7_fill_53178
  have e := ci_fill_5 (k := k) (a := a) (n := h_n k a) (v := v) hk rfl (by omega) (h_n k a) 0 g_N (h_i k a) (by omega) (by have := g_N_le; omega)
  rw [h_af_self] at e
  rw [fg_o_1, fg_g_1 hk]
  refine Eq.trans e ?_
  congr 3
  funext x
  by_cases c : x < h_n k a
  · rw [if_pos ⟨Nat.zero_le _, c⟩, if_pos c]
  · rw [if_neg (by omega), if_neg c]
/-- a sheet becomes another one -/
theorem CB_sheet {s2 : sA} (h : CBM k s M y) (hF : c_F k2) (g : c_ag [0, 1, 2, 3, 4, 5, 6, 8, 11, 13, 15, 16, 17, 18, 19, 20] c_tags k k2) (ht : KT k2 s2) (hc : sC s2 = sC s) (hn : sN s2 = sN s) (hf : ∀ x, x ≠ 110 → x ≠ 111 → x ≠ 112 → sF s2 x = sF s x) (hg : sG s2 = sG s) (hr : sR s2 = sR s) (hk : sK s2 = sK s) : CBM k2 s2 M y := by
  obtain ⟨_, h2, h3, h4, d1, d2, d3, d4, d5, d6, d7, d8, d9, d10⟩ := h
  have e0 := (g.1 0 (by decide)).2.2.1
  refine ⟨hF, ?_, ?_, ?_, ?_⟩
  · unfold KN at *
    rw [e0, (g.1 3 (by decide)).2.2.1, hc, hn]; exact h2
  · refine ⟨?_, ?_, ?_⟩
    · rw [(g.1 1 (by decide)).2.2.1, hc, hf 2 (by decide) (by decide) (by decide)]; exact h3.1
    · rw [(g.1 15 (by decide)).2.2.1, hc, hf 9 (by decide) (by decide) (by decide)]; exact h3.2.1
    · rw [(g.1 11 (by decide)).2.2.1, hf 104 (by decide) (by decide) (by decide)]; exact h3.2.2
  · unfold KG
    rw [(g.1 2 (by decide)).2.2.1, hc, hg]; exact h4
  · -- with the old sheets beside it
    have hs3 : KD k2 s2 M y ↔ True := by
      refine ⟨fun _ => trivial, fun _ => ?_⟩
      refine ⟨?_, ?_, ?_, ?_, ?_, ?_, ht, ?_, ?_, ?_⟩
      · obtain ⟨b1, b2, b3, b4, b5, b6⟩ := d1
        unfold KL
        rw [hc]
        exact ⟨CL_7 b1 g (by decide) (by decide), CL_7 b2 g (by decide) (by decide), CL_7 b3 g (by decide) (by decide), CL_7 b4 g (by decide) (by decide), CL_7 b5 g (by decide) (by decide), b6⟩
      · refine ⟨fun i hi => ?_, fun q hq => ?_⟩
        · rw [hc] at hi
          rw [hf 23 (by decide) (by decide) (by decide), hf 24 (by decide) (by decide) (by decide), hf 25 (by decide) (by decide) (by decide), hf 26 (by decide) (by decide) (by decide), hf 27 (by decide) (by decide) (by decide)]
          exact c_wd_fr (d2.1 i hi) g (by decide)
        · have e : ∀ n, s_nth s2 q n = s_nth s q n := by
            intro n
            induction n with
            | zero => rfl
            | succ n ih => unfold s_nth; rw [ih, hf 24 (by decide) (by decide) (by decide)]
          rw [hc, e, (g.1 19 (by decide)).2.2.1]
          exact d2.2 q hq
      · refine ⟨fun i hi => ?_, by rw [hc]; exact d3.2⟩
        rw [hc] at hi
        obtain ⟨a1, a2, a3, a4, a5, a6, b, a7, a8⟩ := d3.1 i hi
        have e := c_agd g a1 (by decide) (by rw [a2]; decide)
        rw [hf 56 (by decide) (by decide) (by decide), hf 57 (by decide) (by decide) (by decide), hf 58 (by decide) (by decide) (by decide), hf 59 (by decide) (by decide) (by decide), hr, e.1, e.2.2.1, e.2.2.2]
        exact ⟨a1, a2, a3, a4, a5, a6, b, a7, c_ar_fr a8 g (by decide)⟩
      · refine ⟨fun i hi => ?_, by rw [hc]; exact d4.2⟩
        rw [hc] at hi
        obtain ⟨a1, a2, a3, a4, a5, b, a7, a8⟩ := d4.1 i hi
        have e := c_agd g a1 (by decide) (by rw [a2]; decide)
        rw [hf 75 (by decide) (by decide) (by decide), hf 78 (by decide) (by decide) (by decide), hk, e.1, e.2.2.1, e.2.2.2]
        exact ⟨a1, a2, a3, a4, a5, b, a7, c_ar_fr a8 g (by decide)⟩
      · intro i hi
        rw [hc] at hi
        obtain ⟨a1, a2, a3, a4, ⟨b, a5, a6⟩, c, a7, a8⟩ := d5 i hi
        have e := c_agd g a1 (by decide) (by rw [a2]; decide)
        rw [hf 81 (by decide) (by decide) (by decide), hf 82 (by decide) (by decide) (by decide), hf 83 (by decide) (by decide) (by decide), hf 84 (by decide) (by decide) (by decide), hf 85 (by decide) (by decide) (by decide), hf 86 (by decide) (by decide) (by decide), e.1, e.2.2.1, e.2.2.2]
        exact ⟨a1, a2, a3, a4, ⟨b, a5, c_ar_fr a6 g (by decide)⟩, c, a7, c_ar_fr a8 g (by decide)⟩
      · refine ⟨fun i hi => ?_, by rw [hc]; exact d6.2⟩
        rw [hc] at hi
        have a := d6.1 i hi
        have e := c_agd g a.1 (by decide) (by rw [a.2.1]; decide)
        rw [hf 90 (by decide) (by decide) (by decide), hf 91 (by decide) (by decide) (by decide), hf 92 (by decide) (by decide) (by decide), hf 93 (by decide) (by decide) (by decide), hf 94 (by decide) (by decide) (by decide), hf 95 (by decide) (by decide) (by decide), hf 96 (by decide) (by decide) (by decide), hf 97 (by decide) (by decide) (by decide), e.1, e.2.2.1]
        exact a
      · unfold KH
        rw [hc, hf 106 (by decide) (by decide) (by decide), hf 107 (by decide) (by decide) (by decide), hf 108 (by decide) (by decide) (by decide), (g.1 13 (by decide)).2.2.1]
        exact d8
      · intro w hw
        rw [hc] at hw
        rw [hr, (g.1 16 (by decide)).2.2.2]
        exact ⟨(d9 w hw).1, c_ch_fr g (by decide) (by decide) (by decide) (by decide) _ _ (d9 w hw).2.1, (d9 w hw).2.2⟩
      · refine ⟨fun i hi => ?_, d10.2⟩
        rw [(g.1 20 (by decide)).2.2.2]
        rcases d10.1 i hi with a | ⟨a1, a2, a3⟩
        · exact Or.inl a
        · exact Or.inr ⟨a1, a2, c_sl_fr a3 g (by decide) (by decide) (Nat.le_refl _) (by rw [hc]; exact Nat.le_refl _) (fun f w m _ _ _ => by rw [hr])⟩
    exact hs3.mpr trivial
end CS3
