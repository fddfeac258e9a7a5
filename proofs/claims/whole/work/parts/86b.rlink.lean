section RLk
variable {t : r_T} {s : sA}
theorem q_add64 (x y : Int32) : (x.toInt64 + y.toInt64).toInt = x.toInt + y.toInt := by
  have h1 := x.le_toInt
  have h2 := x.toInt_lt
  have h3 := y.le_toInt
  have h4 := y.toInt_lt
  rw [Int64.toInt_add, Int32.toInt_toInt64, Int32.toInt_toInt64]
  rw [Int.bmod_eq_of_le] <;> omega
theorem ri_areWords (h : RA t s) (v : ivc s) (a : Int32) {n : Int32} (hn : 1 ≤ n) : fn_X12_areWords a n t = some (q_b (s_words s a n), t) := by
  have v3 := v.2.2.2.1
  have e0 : (0 : Int32).toInt = 0 := rfl
  have e1 : (1 : Int32).toInt = 1 := rfl
  rw [Int32.le_iff_toInt_le] at hn
  unfold fn_X12_areWords
  rw [h.1.2.2.2.1]
  by_cases c1 : a < 0
  · rw [fg_if_1 c1, q_b0]
    intro w
    rw [Int32.lt_iff_toInt_lt] at c1
    have := w.1
    omega
  · rw [fg_if_0 c1]
    rw [Int32.lt_iff_toInt_lt] at c1
    have ec : 0 < lg_cmp (a.toInt64 + n.toInt64) ((nI (sC s 3)).toInt64) ↔ ¬ s_words s a n := by
      rw [q_cmp_gt, Int64.lt_iff_toInt_lt, q_add64, Int32.toInt_toInt64, q_nI (by omega)]
      unfold s_words
      omega
    rw [fg_if_c ec, fg_if_not]
    by_cases c2 : s_words s a n
    · rw [fg_if_1 c2, q_b1 c2]
    · rw [fg_if_0 c2, q_b0 c2]
theorem ri_areAlike_16 (h : RA t s) (v : ivc s) {a b n : Nat} (ha : a + n ≤ sC s 3) (hb : b + n ≤ sC s 3) : ∀ (d j N : Nat) (p : Prop), j + d = n → d < N → fn_X12_areAlike_16 N (nI a) (nI n) (nI b) (q_b p) (nI j) t = some (q_b (p ∧ ∀ i, j ≤ i → i < n → sF s 23 (a + i) = sF s 23 (b + i)), t) := by
  have v3 := v.2.2.2.1
  intro d
  induction d with
  | zero =>
    intro j N p hj hN
    obtain ⟨N, rfl⟩ : ∃ m, N = m + 1 := ⟨N - 1, by omega⟩
    show fn_X12_areAlike_16b _ _ _ _ _ _ _ = _
    unfold fn_X12_areAlike_16b
    rw [fg_if_1 ((n_le (by omega) (by omega)).mpr (by omega)), fg_g_1 (q_bt p)]
    congr 2
    exact q_bc ⟨fun w => ⟨w, fun i h1 h2 => by omega⟩, fun w => w.1⟩
  | succ d ih =>
    intro j N p hj hN
    obtain ⟨N, rfl⟩ : ∃ m, N = m + 1 := ⟨N - 1, by omega⟩
    show fn_X12_areAlike_16b (fn_X12_areAlike_16 N) _ _ _ _ _ _ = _
    unfold fn_X12_areAlike_16b
    rw [fg_if_0 (fun q => by have := (n_le (a := n) (b := j) (by omega) (by omega)).mp q; omega), q_b_if]
    by_cases c0 : p
    · rw [fg_if_1 c0, n_add, n_add, fg_g_1 ((n_vp (by omega)).mpr (by omega)), fg_g_1 ((n_vp (by omega)).mpr (by omega)), q_nIx (by omega), q_nIx (by omega), n_p1, h.2.1 23 rfl, h.2.1 23 rfl]
      have i1 := ih (j + 1) N True (by omega) (by omega)
      have i0 := ih (j + 1) N False (by omega) (by omega)
      rw [q_b1 trivial] at i1
      rw [q_b0 id] at i0
      rw [i1, i0]
      by_cases c : sF s 23 (a + j) = sF s 23 (b + j)
      · rw [fg_if_1 c]
        congr 2
        exact q_bc ⟨fun w => ⟨c0, fun i h1 h2 => by
          by_cases e : i = j
          · rw [e]; exact c
          · exact w.2 i (by omega) h2⟩, fun w => ⟨trivial, fun i h1 h2 => w.2 i (by omega) h2⟩⟩
      · rw [fg_if_0 c]
        congr 2
        exact q_bc ⟨fun w => w.1.elim, fun w => absurd (w.2 j (Nat.le_refl _) (by omega)) c⟩
    · rw [fg_if_0 c0, fg_g_1 (q_bt p)]
      congr 2
      exact q_bc ⟨fun w => absurd w c0, fun w => w.1⟩
theorem ri_areAlike (h : RA t s) (v : ivc s) {f n g k : Int32} (hf : s_words s f n) (hg : s_words s g k) : fn_X12_areAlike f n g k t = some (q_b (n = k ∧ s_alike s f g n), t) := by
  have v3 := v.2.2.2.1
  obtain ⟨e1, e2, _, l1⟩ := s_wordsN hf
  obtain ⟨e3, e4, _, l2⟩ := s_wordsN hg
  unfold fn_X12_areAlike fn_X12_areAlike_11 s_alike
  generalize h_ix f = f2 at e1 l1
  generalize h_ix n = n2 at e2 l1
  generalize h_ix g = g2 at e3 l2
  generalize h_ix k = k2 at e4 l2
  subst e1 e2 e3 e4
  by_cases c : nI n2 = nI k2
  · have c' : n2 = k2 := (n_eq (by omega) (by omega)).mp c
    have := ri_areAlike_16 h v l1 (show g2 + n2 ≤ sC s 3 by omega) n2 0 g_N True (by omega) (by have := g_N_le; omega)
    rw [q_b1 trivial] at this
    rw [fg_if_1 c]
    refine Eq.trans this ?_
    congr 2
    exact q_bc ⟨fun w => ⟨c, fun i hi => w.2 i (by omega) hi⟩, fun w => ⟨trivial, fun i _ hi => w.2 i hi⟩⟩
  · rw [fg_if_0 c]
    obtain ⟨N, hN⟩ : ∃ m, g_N = m + 1 := ⟨g_N - 1, by have := g_N_le; omega⟩
    rw [hN]
    show fn_X12_areAlike_16b _ _ _ _ _ _ _ = _
    unfold fn_X12_areAlike_16b
    rw [fg_if_1 (rfl : (0 : Int32) = 0), fg_g_1 (show h_bt 0 from Or.inl rfl), fg_if_same, q_b0 (fun w => c w.1)]
theorem RA_cnt {i f : Nat} {n : Nat} (h : RA t s) (hi : (i = 5 ∧ f = 80) ∨ (i = 6 ∧ f = 89)) : RA (rt_F t f (nI n)) (uC s i n) := by
  refine RA_up h ?_ h.2.1 ?_ ?_ ?_ rfl rfl rfl rfl rfl rfl ?_ ?_ ?_ (fun _ _ => rfl)
  · have h1 := h.1
    unfold RN at *
    rcases hi with ⟨rfl, rfl⟩ | ⟨rfl, rfl⟩ <;> simp [rt_FF, sC_uC, sN_uC, h1]
  · rw [sC_uC, if_neg (by omega)]
  · rw [sC_uC, if_neg (by omega)]
  · rw [sC_uC, if_neg (by omega)]; exact Nat.le_refl _
  · rw [rt_FF, if_neg (by omega)]
  · rw [rt_FF, if_neg (by omega)]
  · rw [rt_FF, if_neg (by omega)]
/-- the state with one more link -/
def rt_lk (t : r_T) (n : Nat) (x0 x1 x2 x3 x4 x5 : Int32) : r_T := rt_F (rt_A (rt_A (rt_A (rt_A (rt_A (rt_A t 81 n x0) 82 n x1) 83 n x2) 84 n x3) 85 n x4) 86 n x5) 80 (nI (n + 1))
theorem rs_addK (h : RA t s) (x0 x1 x2 x3 x4 x5 : Int32) : RA (rt_lk t (sC s 5) x0 x1 x2 x3 x4 x5) (s_addK s x0 x1 x2 x3 x4 x5) := by
  unfold rt_lk s_addK
  exact RA_cnt (RA_A (RA_A (RA_A (RA_A (RA_A (RA_A h rfl) rfl) rfl) rfl) rfl) rfl) (Or.inl ⟨rfl, rfl⟩)
theorem ri_132 (h : RA t s) (v : ivc s) {x0 x1 x2 x3 x4 : Int32} (hg : x0 = 2 → q_in x3 (sC s 5)) : ∃ t2, fn_X12_link_132 x0 x1 x2 x3 x4 t = some ((s_keepK (s_flt s 0) x0 x1 x2 (fg_if (x0 = 2) (sF s 82 (h_ix x3)) x3) (fg_if (x0 = 2) (sF s 83 (h_ix x3)) x4) (fg_if (x0 = 2) x3 (-9))).1, t2) ∧ RA t2 (s_keepK (s_flt s 0) x0 x1 x2 (fg_if (x0 = 2) (sF s 82 (h_ix x3)) x3) (fg_if (x0 = 2) (sF s 83 (h_ix x3)) x4) (fg_if (x0 = 2) x3 (-9))).2 := by
  have v5 := v.2.2.2.2.2.1
  have h80 := h.1.2.2.2.2.2.1
  unfold fn_X12_link_132 s_keepK
  rw [show sC (s_flt s 0) 5 = sC s 5 from rfl]
  by_cases c : sC s 5 = 24
  · have c2 : t.1 80 = 24 := by rw [h80, c]; rfl
    rw [fg_if_1 c2]
    simp only [fg_if_1 c]
    rw [ri_refused, fg_b_1]
    exact ⟨_, rfl, rs_flt h 0⟩
  · have c2 : ¬ t.1 80 = 24 := by rw [h80]; intro w; exact c ((n_eq (b := 24) (by omega) (by omega)).mp w)
    rw [fg_if_0 c2]
    simp only [fg_if_0 c]
    have g1 : vp_in (nI (sC s 5)) 24 := (n_vp (by omega)).mpr (by omega)
    have vv : ∀ a b c d e f : Int32, ivc (s_addK s a b c d e f) := fun a b c d e f => ⟨v.1, v.2.1, v.2.2.1, v.2.2.2.1, v.2.2.2.2.1, show sC s 5 + 1 ≤ 24 by omega, v.2.2.2.2.2.2⟩
    by_cases c3 : x0 = 2
    · obtain ⟨e1, l1⟩ := n_in (hg c3)
      have g2 : vp_in x3 24 := by rw [e1]; exact (n_vp (by omega)).mpr (by omega)
      have r82 : (rt_A (rt_A (rt_A t 81 (sC s 5) x0) 82 (sC s 5) x1) 83 (sC s 5) x2).2 82 (h_ix x3) = sF s 82 (h_ix x3) := by simp [rt_AA, show h_ix x3 ≠ sC s 5 by omega, h.2.1 82 rfl]
      have r83 : (rt_A (rt_A (rt_A (rt_A t 81 (sC s 5) x0) 82 (sC s 5) x1) 83 (sC s 5) x2) 84 (sC s 5) (sF s 82 (h_ix x3))).2 83 (h_ix x3) = sF s 83 (h_ix x3) := by simp [rt_AA, show h_ix x3 ≠ sC s 5 by omega, h.2.1 83 rfl]
      have h2 := rs_addK h x0 x1 x2 (sF s 82 (h_ix x3)) (sF s 83 (h_ix x3)) x3
      unfold fn_X12_link_203 fn_X12_link_229 fn_X12_link_250
      simp only [fg_let_1, rt_AF, h80, fg_g_1 g1, fg_g_1 g2, q_nIx (show sC s 5 < 2 ^ 31 by omega), fg_if_1 c3, r82, r83, rt_FF, if_true, n_p1, n_m1]
      have ea := ri_acted h2 (vv _ _ _ _ _ _) (nI (sC s 5))
      unfold rt_lk at ea
      rw [ea, fg_b_1, ri_refused, fg_b_1]
      exact ⟨_, rfl, rs_flt (rs_act h2 _) 0⟩
    · have h2 := rs_addK h x0 x1 x2 x3 x4 (-9)
      unfold fn_X12_link_203 fn_X12_link_229 fn_X12_link_250
      simp only [fg_let_1, rt_AF, h80, fg_g_1 g1, q_nIx (show sC s 5 < 2 ^ 31 by omega), fg_if_0 c3, rt_FF, if_true, n_p1, n_m1]
      have ea := ri_acted h2 (vv _ _ _ _ _ _) (nI (sC s 5))
      unfold rt_lk at ea
      rw [ea, fg_b_1, ri_refused, fg_b_1]
      exact ⟨_, rfl, rs_flt (rs_act h2 _) 0⟩
theorem rs_link (h : RA t s) (v : ivc s) (vl : ivl s) (x0 x1 x2 x3 x4 : Int32) : ∃ t2, fn_X12_link x0 x1 x2 x3 x4 t = some ((s_link s x0 x1 x2 x3 x4).1, t2) ∧ RA t2 (s_link s x0 x1 x2 x3 x4).2 := by
  have v5 := v.2.2.2.2.2.1
  unfold fn_X12_link fn_X12_link_28
  have e28 : fg_b (fn_X12_refused (-2 : Int32) t) (fun p3 s2 => some (p3, s2)) = some (-2, rt_F t 0 0) := rfl
  have e35 : q_in x0 5 → 1 ≤ x2 → (x0 = 2 ∨ 1 ≤ x4) → ∃ t2, fn_X12_link_35 x0 x1 x2 x3 x4 t = some ((s_link s x0 x1 x2 x3 x4).1, t2) ∧ RA t2 (s_link s x0 x1 x2 x3 x4).2 := by
    intro a1 a2 a3
    have a : q_in x0 5 ∧ 1 ≤ x2 ∧ (x0 = 2 ∨ 1 ≤ x4) := ⟨a1, a2, a3⟩
    have e72 : fn_X12_link_72 t = some (-1, rt_F t 0 0) := rfl
    unfold fn_X12_link_35 s_link
    rw [ri_areWords h v x1 a2, fg_b_1, q_b_if]
    simp only [fg_if_1 a]
    by_cases c1 : s_words s x1 x2
    · simp only [fg_if_1 c1]
      by_cases c2 : x0 = 2
      · simp only [fg_if_1 c2]
        rw [ri_noLink h v, fg_b_1, q_bn_if]
        by_cases c3 : q_in x3 (sC s 5)
        · simp only [fg_if_1 c3]
          obtain ⟨e1, l1⟩ := n_in c3
          have g2 : vp_in x3 24 := by rw [e1]; exact (n_vp (by omega)).mpr (by omega)
          obtain ⟨z, hz, ez⟩ := vl _ l1
          unfold fn_X12_link_78 fn_X12_link_107
          have n4 : ¬ x0 = 4 := by rw [c2]; decide
          have ec : ((1 : Int64) ≤ (sF s 81 (h_ix x3)).toInt64 ∧ (sF s 81 (h_ix x3)).toInt64 ≤ 2) ↔ (sF s 81 (h_ix x3) = 1 ∨ sF s 81 (h_ix x3) = 2) := by
            rw [ez]
            rcases (show z = 0 ∨ z = 1 ∨ z = 2 ∨ z = 3 ∨ z = 4 by omega) with rfl | rfl | rfl | rfl | rfl <;> decide
          rw [fg_if_1 c2, fg_g_1 g2, h.2.1 81 rfl, ri_in, fg_b_1, q_b_if, fg_if_c ec, fg_if_0 n4]
          by_cases c4 : sF s 81 (h_ix x3) = 1 ∨ sF s 81 (h_ix x3) = 2
          · simp only [fg_if_1 c4]
            have := ri_132 h v (x0 := x0) (x1 := x1) (x2 := x2) (x3 := x3) (x4 := x4) (fun _ => c3)
            simp only [fg_if_1 c2] at this
            rw [c2] at this
            rw [c2]
            exact this
          · simp only [fg_if_0 c4]
            rw [ri_failed, fg_b_1]
            exact ⟨_, rfl, rs_flt h 2⟩
        · simp only [fg_if_0 c3]
          rw [e72]
          exact ⟨_, rfl, rs_flt h 0⟩
      · simp only [fg_if_0 c2]
        have a4 : 1 ≤ x4 := a3.resolve_left c2
        rw [ri_areWords h v x3 a4, fg_b_1, q_b_if]
        by_cases c3 : s_words s x3 x4
        · simp only [fg_if_1 c3]
          unfold fn_X12_link_78 fn_X12_link_107
          rw [fg_if_0 c2]
          have e132 := ri_132 h v (x0 := x0) (x1 := x1) (x2 := x2) (x3 := x3) (x4 := x4) (fun w => absurd w c2)
          simp only [fg_if_0 c2] at e132
          by_cases c4 : x0 = 4
          · rw [fg_if_1 c4, ri_areAlike h v c1 c3, fg_b_1, q_b_if]
            by_cases c5 : x2 = x4 ∧ s_alike s x1 x3 x2
            · have c6 : x0 = 4 ∧ x2 = x4 ∧ s_alike s x1 x3 x2 := ⟨c4, c5⟩
              simp only [fg_if_1 c5, fg_if_1 c6]
              rw [ri_refused, fg_b_1]
              exact ⟨_, rfl, rs_flt h 0⟩
            · have c6 : ¬ (x0 = 4 ∧ x2 = x4 ∧ s_alike s x1 x3 x2) := fun w => c5 w.2
              simp only [fg_if_0 c5, fg_if_0 c6]
              exact e132
          · have c6 : ¬ (x0 = 4 ∧ x2 = x4 ∧ s_alike s x1 x3 x2) := fun w => c4 w.1
            simp only [fg_if_0 c4, fg_if_0 c6]
            exact e132
        · simp only [fg_if_0 c3]
          rw [e72]
          exact ⟨_, rfl, rs_flt h 0⟩
    · simp only [fg_if_0 c1]
      rw [e72]
      exact ⟨_, rfl, rs_flt h 0⟩
  have eno : ¬ (q_in x0 5 ∧ 1 ≤ x2 ∧ (x0 = 2 ∨ 1 ≤ x4)) → ∃ t2, some ((-2 : Int32), rt_F t 0 0) = some ((s_link s x0 x1 x2 x3 x4).1, t2) ∧ RA t2 (s_link s x0 x1 x2 x3 x4).2 := by
    intro n
    unfold s_link
    simp only [fg_if_0 n]
    exact ⟨_, rfl, rs_flt h 0⟩
  rw [ri_inC x0 4 (n := 5) rfl, fg_b_1, q_b_if, e28]
  by_cases c1 : q_in x0 5
  · rw [fg_if_1 c1]
    by_cases c2 : x2 < 1
    · rw [fg_if_1 c2]
      exact eno (fun w => Int32.not_le.mpr c2 w.2.1)
    · rw [fg_if_0 c2]
      by_cases c3 : x0 = 2
      · rw [fg_if_1 c3]
        exact e35 c1 (Int32.not_lt.mp c2) (Or.inl c3)
      · rw [fg_if_0 c3]
        by_cases c4 : 1 ≤ x4
        · rw [fg_if_1 c4]
          exact e35 c1 (Int32.not_lt.mp c2) (Or.inr c4)
        · rw [fg_if_0 c4]
          exact eno (fun w => by
            rcases w.2.2 with w | w
            · exact c3 w
            · exact c4 w)
  · rw [fg_if_0 c1]
    exact eno (fun w => c1 w.1)
end RLk
