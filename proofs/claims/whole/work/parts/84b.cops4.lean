section CS4
variable {k k2 : h_S} {s : sA} {y : c_Y} {M : Nat}
theorem CB_T (h : CBM k s M y) : KT k s := h.2.2.2.2.2.2.2.2.2.2.1
theorem h_si_si (a j : Nat) (v w : Int32) : h_si (h_si k a j v) a j w = h_si k a j w := by
  unfold h_si h_up
  simp
  funext b
  split
  · funext i
    by_cases c : i = j
    · simp [c]
    · simp [c]
  · rfl
theorem ci_failed (x : Int32) : fn_X11_failed x k = some (-10 - x, h_si k 0 18 x) := rfl
theorem cs_lost (h : CBM k s M y) {q : Nat} (hq : q < 4) : CBM (h_si k (52 + q) 1 (-1)) (uF s 110 q (-1)) M y := by
  refine CB_sheet h h.1 (c_ag_si (by omega) (by simp; omega)) ?_ rfl rfl ?_ rfl rfl rfl
  · intro p hp
    obtain ⟨t1, t2, t3⟩ := CB_T h p hp
    by_cases e : p = q
    · subst e
      refine ⟨?_, ?_, fun i hi => ?_⟩
      · simp [h_i_si, sF_uF]; exact t1
      · simp [h_i_si, sF_uF]
      · rw [sF_uF, if_pos rfl, if_pos rfl] at hi
        have : (-1 : Int32).toInt = -1 := rfl
        omega
    · have e1 : ∀ x, sF (uF s 110 q (-1)) x p = sF s x p := by
        intro x
        rw [sF_uF]
        by_cases c : x = 110
        · rw [if_pos c, if_neg e]
        · rw [if_neg c]
      refine ⟨?_, ?_, fun i hi => ?_⟩
      · rw [h_i_si, if_neg (by omega), e1]; exact t1
      · rw [h_i_si, if_neg (by omega), e1]; exact t2
      · rw [e1] at hi
        rw [h_i_si, if_neg (by omega), sF_uF, if_neg (by omega)]
        exact t3 i hi
  · intro x h1 _ _
    funext i
    rw [sF_uF, if_neg h1]
theorem cs_lose (h : CB k s y) (vs : ivs s) (x : Int32) : ∃ k2, fn_X11_lose x k = some ((s_lose s x).1, k2) ∧ CB k2 (s_lose s x).2 y := by
  unfold fn_X11_lose fn_X11_lose_27 s_lose
  rw [ci_within, fg_b_1, q_b_if, show (4 : Int32).toInt = 4 from rfl]
  by_cases c : q_in x 4
  · obtain ⟨e, l⟩ := n_in (n := 4) c
    rw [fg_if_1 c, fg_if_1 c]
    generalize h_ix x = q at e l
    subst e
    obtain ⟨f1, f2, _⟩ := c_shf h.1 l
    rw [fg_g_1 ((n_vp (by omega)).mpr l), f1, fg_o_1, fg_g_1 f2, ci_isNothing h.1 (CB_T (CB_M h)) vs l, fg_b_1, q_b_if, fg_g_1 ((n_vp (by omega)).mpr l), f1, fg_o_1, fg_g_1 f2, fg_let_1, fg_g_1 ((n_vp (by omega)).mpr l), fg_o_1, fg_g_1 f2, fg_let_1]
    refine ⟨_, ?_, cs_lost (CB_M h) l⟩
    by_cases c2 : sF s 110 q < 0
    · rw [fg_if_1 c2, fg_if_1 c2]
    · rw [fg_if_0 c2, fg_if_0 c2]
  · rw [fg_if_0 c, fg_if_0 c]
    exact ⟨k, rfl, h⟩
theorem s_szi (vs : ivs s) {p i : Nat} (hp : p < 4) (hi : (i : Int) < (sF s 110 p).toInt) : i < 60 := by
  rcases vs p hp with e | ⟨z, hz, e⟩
  · rw [e] at hi
    have : (-1 : Int32).toInt = -1 := rfl
    omega
  · rw [e, q_nI (by omega)] at hi
    omega
theorem cs_renewed (h : CBM k s M y) (vs : ivs s) {q n : Nat} (hq : q < 4) (hn : n ≤ 60) (l : Int32) : CBM (h_af (h_si (h_si k (52 + q) 0 l) (52 + q) 1 (nI n)) (56 + q) (fun x => if x < 60 then 0 else h_i k (56 + q) x)) (uFf (uF (uF s 110 q (nI n)) 111 q l) 112 (fun x => if 60 * q ≤ x ∧ x < 60 * q + n then 0 else sF s 112 x)) M y := by
  refine CB_sheet h (cf_af (k := h_si (h_si k (52 + q) 0 l) (52 + q) 1 (nI n)) h.1) (c_agt (c_agt (c_ag_si (by omega) (by simp; omega)) (c_ag_si (by omega) (by simp; omega))) (c_ag_af (by omega) (by simp; omega))) ?_ rfl rfl ?_ rfl rfl rfl
  · intro p hp
    obtain ⟨t1, t2, t3⟩ := CB_T h p hp
    by_cases e : p = q
    · subst e
      refine ⟨?_, ?_, fun i hi => ?_⟩
      · rw [h_i_af, if_neg (by omega)]; simp [h_i_si, sF_uF, sF_uFf]
      · rw [h_i_af, if_neg (by omega)]; simp [h_i_si, sF_uF, sF_uFf]
      · simp only [sF_uFf, sF_uF, if_neg (show ¬ (110 : Nat) = 112 by decide), if_neg (show ¬ (110 : Nat) = 111 by decide), if_true, q_nI (show n < 2 ^ 31 by omega)] at hi
        rw [h_i_af, if_pos rfl]
        simp only [sF_uFf, if_true]
        rw [if_pos (by omega), if_pos (by omega)]
    · have e1 : ∀ x, x ≠ 112 → sF (uFf (uF (uF s 110 q (nI n)) 111 q l) 112 (fun x => if 60 * q ≤ x ∧ x < 60 * q + n then 0 else sF s 112 x)) x p = sF s x p := by
        intro x hx
        rw [sF_uFf, if_neg hx, sF_uF, sF_uF]
        simp [e]
      refine ⟨?_, ?_, fun i hi => ?_⟩
      · rw [h_i_af, if_neg (by omega), h_i_si, if_neg (by omega), h_i_si, if_neg (by omega), e1 _ (by decide)]; exact t1
      · rw [h_i_af, if_neg (by omega), h_i_si, if_neg (by omega), h_i_si, if_neg (by omega), e1 _ (by decide)]; exact t2
      · rw [e1 _ (by decide)] at hi
        have hb := s_szi vs hp hi
        rw [h_i_af, if_neg (by omega), h_i_si, if_neg (by omega), h_i_si, if_neg (by omega), sF_uFf, if_pos rfl, t3 i hi]
        rw [if_neg (by omega)]
  · intro x h1 h2 h3
    funext i
    rw [sF_uFf, if_neg h3, sF_uF, if_neg h2, sF_uF, if_neg h1]
theorem cs_sheet (h : CB k s y) (vs : ivs s) (x l n : Int32) : ∃ k2, fn_X11_sheet x l n k = some ((s_sheet s x l n).1, k2) ∧ CB k2 (s_sheet s x l n).2 y := by
  unfold fn_X11_sheet s_sheet
  have h0 : CBM (h_si k 0 18 0) (s_flt s 0) (sC s 0) y := cs_flt (CB_M h) 0
  simp only [fg_let_1, ci_within, fg_b_1, q_b_if, show (4 : Int32).toInt = 4 from rfl, show (3 : Int32).toInt = 3 from rfl]
  by_cases c1 : q_in x 4
  · obtain ⟨e, lq⟩ := n_in (n := 4) c1
    simp only [fg_if_1 c1]
    by_cases c2 : q_in l 3
    · simp only [fg_if_1 c2]
      by_cases c3 : n ≤ 60
      · have c : q_in l 3 ∧ n ≤ 60 := ⟨c2, c3⟩
        simp only [fg_if_1 c3, fg_if_1 c]
        by_cases c4 : n < 0
        · have c5 : ¬ (0 : Int32) ≤ n := fun w => Int32.not_le.mpr c4 w
          simp only [fg_if_1 c4, fg_if_0 c5, ci_failed, fg_b_1]
          have h4 := cs_flt (CB_M h) 4
          refine ⟨_, rfl, ?_⟩
          rw [h_si_si]
          exact h4
        · have c5 : (0 : Int32) ≤ n := Int32.not_lt.mp c4
          obtain ⟨en, ln⟩ := n_in (x := n) (n := 61) (by
            rw [Int32.le_iff_toInt_le] at c3 c5
            have e0 : (0 : Int32).toInt = 0 := rfl
            have e60 : (60 : Int32).toInt = 60 := rfl
            exact ⟨by omega, by omega⟩)
          simp only [fg_if_0 c4, fg_if_1 c5]
          generalize h_ix x = q at e lq
          generalize h_ix n = m at en ln
          subst e
          subst en
          obtain ⟨f1, f2, f3, f4, f5⟩ := c_shf h0.1 lq
          have hr := cs_renewed h0 vs lq (show m ≤ 60 by omega) l
          refine ⟨_, ?_, hr⟩
          rw [fg_g_1 ((n_vp (by omega)).mpr lq), f1, fg_o_1, fg_g_1 f2]
          unfold fn_X5_renew
          have g1 : h_r (h_si (h_si (h_si k 0 18 0) (52 + q) 0 l) (52 + q) 1 (nI m)) (52 + q) 2 = some (56 + q) := f3
          have g2 : h_k (h_si (h_si (h_si k 0 18 0) (52 + q) 0 l) (52 + q) 1 (nI m)) (56 + q) = 1 := f4
          have g3 : h_n (h_si (h_si (h_si k 0 18 0) (52 + q) 0 l) (52 + q) 1 (nI m)) (56 + q) = 60 := f5
          simp only [fg_g_1 f2, fg_let_1, g1]
          rw [ci_fill g2 (by rw [g3]; decide), fg_b_1, fg_b_1, g3]
          congr 4
          funext z
          by_cases cz : z < 60
          · rw [if_pos cz, if_pos cz]
          · rw [if_neg cz, if_neg cz, h_i_si, if_neg (by omega), h_i_si, if_neg (by omega)]
      · have c : ¬ (q_in l 3 ∧ n ≤ 60) := fun w => c3 w.2
        simp only [fg_if_0 c3, fg_if_0 c]
        exact ⟨_, rfl, h0⟩
    · have c : ¬ (q_in l 3 ∧ n ≤ 60) := fun w => c2 w.1
      simp only [fg_if_0 c2, fg_if_0 c]
      exact ⟨_, rfl, h0⟩
  · simp only [fg_if_0 c1]
    exact ⟨_, rfl, h0⟩
theorem ci_faultOf0 (hF : c_F k) (ht : KT k s) (vs : ivs s) {q : Nat} (hq : q < 4) (l i n : Int32) : fn_X5_faultOf (52 + q) l i n k = some (fg_if (sF s 110 q < 0) 1 (fg_if (sF s 111 q = l) (fg_if (n < 0) 4 (fg_if (s_ok i n (sF s 110 q)) 0 3)) 2), k) := by
  obtain ⟨_, f2, _⟩ := c_shf hF hq
  obtain ⟨t1, t2, _⟩ := ht q hq
  unfold fn_X5_faultOf
  rw [fg_g_1 f2, ci_isNothing hF ht vs hq, fg_b_1, q_b_if, t1]
  by_cases c1 : sF s 110 q < 0
  · rw [fg_if_1 c1, fg_if_1 c1]
  · obtain ⟨z, hz, ez⟩ := (s_sz vs hq).2 c1
    rw [fg_if_0 c1, fg_if_0 c1]
    by_cases c2 : sF s 111 q = l
    · rw [fg_if_1 c2.symm, fg_if_1 c2]
      by_cases c3 : n < 0
      · rw [fg_if_0 (fun w => Int32.not_le.mpr c3 w), fg_if_1 c3]
      · rw [fg_if_1 (Int32.not_lt.mp c3), fg_if_0 c3, ci_hasCells hF ht hq i n hz ez, fg_b_1, q_b_if, fg_if_some]
    · rw [fg_if_0 (fun w => c2 w.symm), fg_if_0 c2]
theorem s_ok1 (i z : Int32) : s_ok i 1 z ↔ q_in i z.toInt := by
  unfold s_ok q_in
  have e1 : (1 : Int32).toInt = 1 := rfl
  omega
theorem cs_wrote (h : CBM k s M y) (vs : ivs s) {q i : Nat} (hq : q < 4) (hi : i < 60) (v : Int32) : CBM (h_si k (56 + q) i v) (uF s 112 (60 * q + i) v) M y := by
  refine CB_sheet h h.1 (c_ag_si (by omega) (by simp; omega)) ?_ rfl rfl ?_ rfl rfl rfl
  · intro p hp
    obtain ⟨t1, t2, t3⟩ := CB_T h p hp
    refine ⟨?_, ?_, fun j hj => ?_⟩
    · rw [h_i_si, if_neg (by omega), sF_uF, if_neg (by decide)]; exact t1
    · rw [h_i_si, if_neg (by omega), sF_uF, if_neg (by decide)]; exact t2
    · rw [sF_uF, if_neg (by decide)] at hj
      have hb := s_szi vs hp hj
      rw [h_i_si, sF_uF, if_pos rfl]
      by_cases e : 56 + p = 56 + q ∧ j = i
      · rw [if_pos e, if_pos (by omega)]
      · rw [if_neg e, if_neg (by omega)]
        exact t3 j hj
  · intro x _ _ h3
    funext i
    rw [sF_uF, if_neg h3]
theorem cs_set (h : CB k s y) (vs : ivs s) (x i v : Int32) : ∃ k2, fn_X11_set x i v k = some ((s_set s x i v).1, k2) ∧ CB k2 (s_set s x i v).2 y := by
  unfold fn_X11_set s_set
  have h0 : CBM (h_si k 0 18 0) (s_flt s 0) (sC s 0) y := cs_flt (CB_M h) 0
  simp only [fg_let_1, ci_within, fg_b_1, q_b_if, show (4 : Int32).toInt = 4 from rfl]
  by_cases c1 : q_in x 4
  · obtain ⟨e, lq⟩ := n_in (n := 4) c1
    simp only [fg_if_1 c1]
    generalize h_ix x = q at e lq
    subst e
    obtain ⟨f1, f2, f3, f4, f5⟩ := c_shf h0.1 lq
    have t1 := (CB_T h0 q lq).1
    have vs0 : ivs (s_flt s 0) := vs
    have g0 : vp_in (nI q) 4 := (n_vp (by omega)).mpr lq
    simp only [fg_g_1 g0, f1, fg_o_1, fg_g_1 f2, t1, ci_faultOf0 h0.1 (CB_T h0) vs0 lq, fg_b_1]
    have eN : sF (s_flt s 0) = sF s := rfl
    have n1 : ¬ (1 : Int32) < 0 := by decide
    simp only [eN, fg_if_1, fg_if_0 n1, s_ok1]
    by_cases c2 : sF s 110 q < 0
    · have n3 : ¬ (1 : Int32) = 0 := by decide
      simp only [fg_if_1 c2, fg_if_0 n3, ci_failed, fg_b_1, h_si_si]
      exact ⟨_, rfl, cs_flt (CB_M h) 1⟩
    · simp only [fg_if_0 c2]
      by_cases c3 : q_in i (sF s 110 q).toInt
      · obtain ⟨z, hz, ez⟩ := (s_sz vs lq).2 c2
        have c3' := c3
        rw [ez, q_nI (by omega)] at c3'
        obtain ⟨ei, li⟩ := n_in c3'
        simp only [fg_if_1 c3]
        generalize h_ix i = j at ei li
        subst ei
        refine ⟨_, ?_, cs_wrote h0 vs0 lq (show j < 60 by omega) (s_cutl (sF s 111 q) v)⟩
        unfold fn_X5_write fn_X5_write_40 s_cutl
        have g1 : q_in (nI j) 60 := (n_inI (n := 60) (by omega)).mpr (by omega)
        have g2 : vp_in (nI j) (h_n (h_si k 0 18 0) (56 + q)) := (n_vp (by omega)).mpr (by rw [f5]; omega)
        simp only [ci_within, fg_b_1, q_b_if, show (60 : Int32).toInt = 60 from rfl, fg_if_1 g1, fg_g_1 f2, t1, f3, fg_o_1, fg_g_1 f4, fg_g_1 g2, fg_let_1, q_nIx (show j < 2 ^ 31 by omega), eN]
        by_cases d1 : sF s 111 q = 0
        · simp only [fg_if_1 d1, fg_b_1, fg_if_T]
        · simp only [fg_if_0 d1]
          by_cases d2 : sF s 111 q = 1
          · simp only [fg_if_1 d2, fg_b_1, fg_if_T]
          · simp only [fg_if_0 d2, fg_b_1, fg_if_T]
      · have n3 : ¬ (3 : Int32) = 0 := by decide
        simp only [fg_if_0 c3, fg_if_0 n3, ci_failed, fg_b_1, h_si_si]
        exact ⟨_, rfl, cs_flt (CB_M h) 3⟩
  · simp only [fg_if_0 c1]
    exact ⟨_, rfl, h0⟩
theorem cs_cell (h : CB k s y) (vs : ivs s) (x i l : Int32) : ∃ k2, fn_X11_cell x i l k = some ((s_cell s x i l).1, k2) ∧ CB k2 (s_cell s x i l).2 y := by
  unfold fn_X11_cell s_cell
  have h0 : CBM (h_si k 0 18 0) (s_flt s 0) (sC s 0) y := cs_flt (CB_M h) 0
  have vs0 : ivs (s_flt s 0) := vs
  have eN : sF (s_flt s 0) = sF s := rfl
  simp only [fg_let_1, ci_within, fg_b_1, q_b_if, show (4 : Int32).toInt = 4 from rfl]
  by_cases c1 : q_in x 4
  · obtain ⟨e, lq⟩ := n_in (n := 4) c1
    simp only [fg_if_1 c1]
    by_cases c2 : q_in l 3
    · have c : q_in x 4 ∧ q_in l 3 := ⟨c1, c2⟩
      simp only [fg_if_1 c]
      generalize h_ix x = q at e lq
      subst e
      obtain ⟨f1, f2, f3, f4, f5⟩ := c_shf h0.1 lq
      have g0 : vp_in (nI q) 4 := (n_vp (by omega)).mpr lq
      rw [ci_refusedCells h0.1 (CB_T h0) vs0 lq]
      unfold s_bf
      have n1 : ¬ (1 : Int32) < 0 := by decide
      simp only [eN, fg_if_1 c2, fg_if_0 n1, s_ok1]
      by_cases c3 : sF s 110 q < 0
      · have n2 : ¬ (1 : Int32) = 0 := by decide
        have n3 : ¬ (1 : Int32) = -2 := by decide
        have n4 : ¬ (-10 - 1 : Int32) = 0 := by decide
        simp only [fg_if_1 c3, fg_if_0 n2, fg_if_0 n3, fg_b_1, fg_if_0 n4, h_si_si]
        exact ⟨_, rfl, cs_flt (CB_M h) 1⟩
      · simp only [fg_if_0 c3]
        by_cases c4 : sF s 111 q = l
        · simp only [fg_if_1 c4]
          by_cases c5 : q_in i (sF s 110 q).toInt
          · obtain ⟨z, hz, ez⟩ := (s_sz vs lq).2 c3
            have c5' := c5
            rw [ez, q_nI (by omega)] at c5'
            obtain ⟨ei, li⟩ := n_in c5'
            have n0 : (0 : Int32) = 0 := rfl
            simp only [fg_if_1 c5, fg_if_T, fg_b_1, fg_g_1 g0, f1, fg_o_1, fg_g_1 f2]
            generalize h_ix i = j at ei li
            subst ei
            have hc := (CB_T h0 q lq).2.2 j (by rw [eN, ez, q_nI (by omega)]; omega)
            have g1 : q_in (nI j) 60 := (n_inI (n := 60) (by omega)).mpr (by omega)
            have g2 : vp_in (nI j) (h_n (h_si k 0 18 0) (56 + q)) := (n_vp (by omega)).mpr (by rw [f5]; omega)
            unfold fn_X5_cellAt
            simp only [ci_within, fg_b_1, q_b_if, show (60 : Int32).toInt = 60 from rfl, fg_if_1 g1, fg_g_1 f2, f3, fg_o_1, fg_g_1 f4, fg_g_1 g2, q_nIx (show j < 2 ^ 31 by omega), hc]
            exact ⟨_, rfl, h0⟩
          · have n2 : ¬ (3 : Int32) = 0 := by decide
            have n3 : ¬ (3 : Int32) = -2 := by decide
            have n4 : ¬ (-10 - 3 : Int32) = 0 := by decide
            simp only [fg_if_0 c5, fg_if_0 n2, fg_if_0 n3, fg_b_1, fg_if_0 n4, h_si_si]
            exact ⟨_, rfl, cs_flt (CB_M h) 3⟩
        · have n2 : ¬ (2 : Int32) = 0 := by decide
          have n3 : ¬ (2 : Int32) = -2 := by decide
          have n4 : ¬ (-10 - 2 : Int32) = 0 := by decide
          simp only [fg_if_0 c4, fg_if_0 n2, fg_if_0 n3, fg_b_1, fg_if_0 n4, h_si_si]
          exact ⟨_, rfl, cs_flt (CB_M h) 2⟩
    · have c : ¬ (q_in x 4 ∧ q_in l 3) := fun w => c2 w.2
      generalize h_ix x = q at e lq
      subst e
      rw [ci_refusedCells h0.1 (CB_T h0) vs0 lq]
      unfold s_bf
      have n2 : ¬ (-2 : Int32) = 0 := by decide
      have n3 : (-2 : Int32) = -2 := rfl
      simp only [fg_if_0 c, fg_if_0 c2, fg_if_0 n2, fg_if_T, fg_b_1]
      exact ⟨_, rfl, h0⟩
  · have c : ¬ (q_in x 4 ∧ q_in l 3) := fun w => c1 w.1
    simp only [fg_if_0 c1, fg_if_0 c]
    exact ⟨_, rfl, h0⟩
theorem cs_copied (h : CBM k s M y) (vs : ivs s) {q o i j n zq zo : Nat} (hq : q < 4) (ho : o < 4) (ez : sF s 110 q = nI zq) (hz : zq ≤ 60) (eo : sF s 110 o = nI zo) (hzo : zo ≤ 60) (hi : i + n ≤ zq) (hj : j + n ≤ zo) : CBM (h_cp k (56 + q) i (56 + o) j n) (uFf s 112 (fun x => if 60 * o + j ≤ x ∧ x < 60 * o + j + n then sF s 112 (60 * q + i + (x - (60 * o + j))) else sF s 112 x)) M y := by
  rw [h_cp_af]
  refine CB_sheet h (cf_af h.1) (c_ag_af (by omega) (by simp; omega)) ?_ rfl rfl ?_ rfl rfl rfl
  · intro p hp
    obtain ⟨t1, t2, t3⟩ := CB_T h p hp
    refine ⟨?_, ?_, fun x hx => ?_⟩
    · rw [h_i_af, if_neg (by omega), sF_uFf, if_neg (by decide)]; exact t1
    · rw [h_i_af, if_neg (by omega), sF_uFf, if_neg (by decide)]; exact t2
    · rw [sF_uFf, if_neg (by decide)] at hx
      have hb := s_szi vs hp hx
      rw [h_i_af, sF_uFf, if_pos rfl]
      by_cases e : 56 + p = 56 + o
      · have e : p = o := by omega
        subst e
        rw [if_pos rfl]
        unfold va_cpy
        by_cases c : j ≤ x ∧ x < j + n
        · rw [if_pos c, if_pos (by omega)]
          have := (CB_T h q hq).2.2 (i + (x - j)) (by rw [ez, q_nI (by omega)]; omega)
          rw [this]
          congr 1
          omega
        · rw [if_neg c, if_neg (by omega)]
          exact t3 x hx
      · rw [if_neg e, if_neg (by omega)]
        exact t3 x hx
  · intro x _ _ h3
    funext i
    rw [sF_uFf, if_neg h3]
theorem s_oknc {i n : Int32} {z : Nat} (hz : z ≤ 60) (h : s_ok i n (nI z)) : i = nI (h_ix i) ∧ n = nI (h_ix n) ∧ h_ix i + h_ix n ≤ z := by
  unfold s_ok at h
  rw [q_nI (by omega)] at h
  obtain ⟨e1, l1⟩ := n_in (x := i) (n := 61) ⟨h.1, by omega⟩
  obtain ⟨e2, l2⟩ := n_in (x := n) (n := 61) ⟨h.2.1, by omega⟩
  refine ⟨e1, e2, ?_⟩
  rw [e1, e2, q_nI (by omega), q_nI (by omega)] at h
  omega
theorem cs_copy (h : CB k s y) (vs : ivs s) (x i o j n : Int32) : ∃ k2, fn_X11_copy x i o j n k = some ((s_copy s x i o j n).1, k2) ∧ CB k2 (s_copy s x i o j n).2 y := by
  unfold fn_X11_copy s_copy fn_X11_copy_55 fn_X11_copy_103
  have h0 : CBM (h_si k 0 18 0) (s_flt s 0) (sC s 0) y := cs_flt (CB_M h) 0
  have vs0 : ivs (s_flt s 0) := vs
  have eN : sF (s_flt s 0) = sF s := rfl
  simp only [fg_let_1, ci_within, fg_b_1, q_b_if, show (4 : Int32).toInt = 4 from rfl]
  by_cases c1 : q_in x 4
  · obtain ⟨e, lq⟩ := n_in (n := 4) c1
    by_cases c2 : q_in o 4
    · have c : q_in x 4 ∧ q_in o 4 := ⟨c1, c2⟩
      obtain ⟨e', lo⟩ := n_in (n := 4) c2
      simp only [fg_if_1 c1, fg_if_1 c2, fg_if_1 c]
      generalize h_ix x = q at e lq
      generalize h_ix o = p at e' lo
      subst e
      subst e'
      obtain ⟨f1, f2, f3, f4, f5⟩ := c_shf h0.1 lq
      obtain ⟨p1, p2, p3, p4, p5⟩ := c_shf h0.1 lo
      have g0 : vp_in (nI q) 4 := (n_vp (by omega)).mpr lq
      have g1 : vp_in (nI p) 4 := (n_vp (by omega)).mpr lo
      have t1 := (CB_T h0 q lq).1
      have t2 := (CB_T h0 p lo).1
      simp only [fg_g_1 g0, fg_g_1 g1, f1, p1, fg_o_1, fg_g_1 f2, fg_g_1 p2, ci_isNothing h0.1 (CB_T h0) vs0 lq, ci_isNothing h0.1 (CB_T h0) vs0 lo, fg_b_1, q_b_if, eN, ci_failed, h_si_si, t1, t2]
      by_cases c3 : sF s 110 q < 0
      · have c5 : sF s 110 q < 0 ∨ sF s 110 p < 0 := Or.inl c3
        simp only [fg_if_1 c3, fg_if_1 c5]
        exact ⟨_, rfl, cs_flt (CB_M h) 1⟩
      · by_cases c4 : sF s 110 p < 0
        · have c5 : sF s 110 q < 0 ∨ sF s 110 p < 0 := Or.inr c4
          simp only [fg_if_0 c3, fg_if_1 c4, fg_if_1 c5]
          exact ⟨_, rfl, cs_flt (CB_M h) 1⟩
        · have c5 : ¬ (sF s 110 q < 0 ∨ sF s 110 p < 0) := fun w => w.elim c3 c4
          simp only [fg_if_0 c3, fg_if_0 c4, fg_if_0 c5]
          obtain ⟨z, hz, ez⟩ := (s_sz vs lq).2 c3
          obtain ⟨zo, hzo, ezo⟩ := (s_sz vs lo).2 c4
          by_cases c6 : sF s 111 q = sF s 111 p
          · simp only [fg_if_1 c6, ci_hasCells h0.1 (CB_T h0) lq i n hz ez, ci_hasCells h0.1 (CB_T h0) lo j n hzo ezo, fg_b_1, q_b_if, eN]
            by_cases c7 : s_ok i n (sF s 110 q)
            · simp only [fg_if_1 c7]
              by_cases c8 : s_ok j n (sF s 110 p)
              · have c9 : s_ok i n (sF s 110 q) ∧ s_ok j n (sF s 110 p) := ⟨c7, c8⟩
                simp only [fg_if_1 c8, fg_if_1 c9]
                have c7' := c7
                rw [ez] at c7'
                rw [ezo] at c8
                obtain ⟨ei, en, li⟩ := s_oknc hz c7'
                obtain ⟨ej, _, lj⟩ := s_oknc hzo c8
                generalize h_ix i = i at ei li
                generalize h_ix n = n at en li lj
                generalize h_ix j = j at ej lj
                subst ei
                subst en
                subst ej
                have a1 : ¬ nI i < 0 := n_neg (by omega)
                have a2 : ¬ nI j < 0 := n_neg (by omega)
                have a3 : ¬ nI n < 0 := n_neg (by omega)
                have a4 : i + n ≤ h_n (h_si k 0 18 0) (56 + q) := by rw [f5]; omega
                have a5 : j + n ≤ h_n (h_si k 0 18 0) (56 + p) := by rw [p5]; omega
                simp only [f3, p3, fg_o_1, fg_g_1 f2, fg_g_1 p2, fg_g_1 f4, fg_g_1 p4, fg_g_1 a1, fg_g_1 a2, fg_g_1 a3, fg_g_1 a4, fg_g_1 a5, q_nIx (show i < 2 ^ 31 by omega), q_nIx (show n < 2 ^ 31 by omega), q_nIx (show j < 2 ^ 31 by omega)]
                exact ⟨_, rfl, cs_copied h0 vs0 lq lo ez hz ezo hzo li lj⟩
              · have c9 : ¬ (s_ok i n (sF s 110 q) ∧ s_ok j n (sF s 110 p)) := fun w => c8 w.2
                simp only [fg_if_0 c8, fg_if_0 c9, fg_g_1 p2, h_si_si]
                exact ⟨_, rfl, cs_flt (CB_M h) 3⟩
            · have c9 : ¬ (s_ok i n (sF s 110 q) ∧ s_ok j n (sF s 110 p)) := fun w => c7 w.1
              simp only [fg_if_0 c7, fg_if_0 c9, h_si_si]
              exact ⟨_, rfl, cs_flt (CB_M h) 3⟩
          · simp only [fg_if_0 c6]
            exact ⟨_, rfl, cs_flt (CB_M h) 2⟩
    · have c : ¬ (q_in x 4 ∧ q_in o 4) := fun w => c2 w.2
      simp only [fg_if_1 c1, fg_if_0 c2, fg_if_0 c]
      exact ⟨_, rfl, h0⟩
  · have c : ¬ (q_in x 4 ∧ q_in o 4) := fun w => c1 w.1
    simp only [fg_if_0 c1, fg_if_0 c]
    exact ⟨_, rfl, h0⟩
end CS4
