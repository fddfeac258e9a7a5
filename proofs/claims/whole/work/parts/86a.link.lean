/-! link -/
def s_alike (s : sA) (f g n : Int32) : Prop := ∀ i, i < h_ix n → sF s 23 (h_ix f + i) = sF s 23 (h_ix g + i)
noncomputable def s_link (s : sA) (d f n g k : Int32) : Int32 × sA := fg_if (q_in d 5 ∧ 1 ≤ n ∧ (d = 2 ∨ 1 ≤ k)) (fg_if (s_words s f n) (fg_if (d = 2) (fg_if (q_in g (sC s 5)) (fg_if (sF s 81 (h_ix g) = 1 ∨ sF s 81 (h_ix g) = 2) (s_keepK (s_flt s 0) 2 f n (sF s 82 (h_ix g)) (sF s 83 (h_ix g)) g) (-12, s_flt s 2)) (-1, s_flt s 0)) (fg_if (s_words s g k) (fg_if (d = 4 ∧ n = k ∧ s_alike s f g n) (-3, s_flt s 0) (s_keepK (s_flt s 0) d f n g k (-9))) (-1, s_flt s 0))) (-1, s_flt s 0)) (-2, s_flt s 0)
theorem s_flt_flt (s : sA) (a b : Int32) : s_flt (s_flt s a) b = s_flt s b := by
  unfold s_flt uN
  refine Prod.ext rfl (Prod.ext ?_ rfl)
  funext j
  show (if j = 0 then b else if j = 0 then a else s.2.1 j) = _
  by_cases e : j = 0
  · rw [if_pos e]; exact (if_pos e).symm
  · rw [if_neg e, if_neg e]; exact (if_neg e).symm
section CLL
variable {k : h_S} {s : sA} {y : c_Y} {M : Nat}
theorem s_wordsN {a n : Int32} (h : s_words s a n) : a = nI (h_ix a) ∧ n = nI (h_ix n) ∧ 1 ≤ h_ix n ∧ h_ix a + h_ix n ≤ sC s 3 := by
  obtain ⟨h1, h2, h3⟩ := h
  have e1 := q_ix h1
  have e2 := q_ix (x := n) (by omega)
  exact ⟨n_of h1, n_of (by omega), by omega, by omega⟩
theorem ci_codesAlike (h : CBM k s M y) (v : ivc s) {f g n : Int32} (hf : s_words s f n) (hg : s_words s g n) : fn_X7_codesAlike f g n k = some (q_b (s_alike s f g n), k) := by
  have v3 := v.2.2.2.1
  obtain ⟨e1, e2, _, l1⟩ := s_wordsN hf
  obtain ⟨e3, _, _, l2⟩ := s_wordsN hg
  unfold fn_X7_codesAlike s_alike
  generalize h_ix f = f2 at e1 l1
  generalize h_ix n = n2 at e2 l1 l2
  generalize h_ix g = g2 at e3 l2
  subst e1 e2 e3
  refine (ci_codesAlike_3 h v l1 l2 n2 0 g_N (by omega) (by have := g_N_le; omega)).trans ?_
  congr 2
  exact q_bc ⟨fun w i hi => w i (by omega) hi, fun w i _ hi => w i hi⟩
/-- a new link is made and kept -/
theorem ci_mk44 {x0 x1 x2 x3 x4 : Int32} (h : CB k s y) (v : ivc s) (g : ivg s) : ∃ k2 c d y2, fn_X11_linkOfWords_44 x0 x1 x2 x3 x4 k = some ((s_keepK s x0 x1 x2 x3 x4 (-9)).1, k2, c, d) ∧ CB k2 (s_keepK s x0 x1 x2 x3 x4 (-9)).2 y2 ∧ c + zC y2 ≤ zC y + 4 ∧ d + zD y2 ≤ zD y + 1008 := by
  have hF := h.1
  unfold fn_X11_linkOfWords_44
  simp only [fg_let_1]
  obtain ⟨q, eq⟩ : ∃ q, c_ad 12 k = q := ⟨_, rfl⟩
  rw [eq]
  have q0 : h_k k q = 0 := by rw [← eq]; exact cf_z hF rfl
  have q8 : c_tg 12 q := by rw [← eq]; unfold c_tg c_ad; omega
  have F5 : c_F (h_nw k q 22 4) := cf_nw hF eq.symm (by decide)
  obtain ⟨k2, f1, f2, f3, f4⟩ := ci_kinit (x0 := x0) (x1 := x1) (x2 := x2) (x3 := x3) (x4 := x4) (x5 := -9) F5 (by rw [h_k_nw, if_pos rfl]) q8
  have gj : c_jk k k2 := by
    intro a ha
    have n : a ≠ q := fun e => by
      rcases ha with w | w
      · exact w (by rw [e]; exact q0)
      · have := q8.1; omega
    refine c_eqt (c_eq_nw n) (f4 a n ?_)
    rcases ha with w | w
    · left; rw [h_k_nw, if_neg n]; exact w
    · exact Or.inr w
  obtain ⟨k3, c, d, y2, g1, g2, g3, g4, g5, g6⟩ := ci_keepLink h v g f2 gj f3
  rw [f1, fg_bc_1, g1, fg_bc_1]
  simp only [fg_c_1]
  exact ⟨k3, _, _, y2, rfl, g2, by omega, by omega⟩
theorem ci_linkOfWords {x0 x1 x2 x3 x4 : Int32} (h : CB k s y) (v : ivc s) (g : ivg s) (hf : s_words s x1 x2) : ∃ k2 c d y2, fn_X11_linkOfWords x0 x1 x2 x3 x4 k = some ((fg_if (s_words s x3 x4) (fg_if (x0 = 4 ∧ x2 = x4 ∧ s_alike s x1 x3 x2) (-3, s) (s_keepK s x0 x1 x2 x3 x4 (-9))) ((-1 : Int32), s)).1, k2, c, d) ∧ CB k2 (fg_if (s_words s x3 x4) (fg_if (x0 = 4 ∧ x2 = x4 ∧ s_alike s x1 x3 x2) (-3, s) (s_keepK s x0 x1 x2 x3 x4 (-9))) ((-1 : Int32), s)).2 y2 ∧ c + zC y2 ≤ zC y + 4 ∧ d + zD y2 ≤ zD y + 1008 := by
  unfold fn_X11_linkOfWords
  rw [ci_areWords (CB_M h) v, fg_b_1, q_b_if]
  by_cases c1 : s_words s x3 x4
  · simp only [fg_if_1 c1]
    by_cases c2 : x0 = 4
    · by_cases c3 : x2 = x4
      · rw [fg_if_1 c2, fg_if_1 c3, ci_codesAlike (CB_M h) v hf (by rw [c3]; exact c1), fg_b_1, q_b_if]
        by_cases c4 : s_alike s x1 x3 x2
        · have c : x0 = 4 ∧ x2 = x4 ∧ s_alike s x1 x3 x2 := ⟨c2, c3, c4⟩
          simp only [fg_if_1 c4, fg_if_1 c]
          exact ⟨k, 0, 0, y, rfl, h, by omega, by omega⟩
        · have c : ¬ (x0 = 4 ∧ x2 = x4 ∧ s_alike s x1 x3 x2) := fun w => c4 w.2.2
          simp only [fg_if_0 c4, fg_if_0 c]
          exact ci_mk44 h v g
      · have c : ¬ (x0 = 4 ∧ x2 = x4 ∧ s_alike s x1 x3 x2) := fun w => c3 w.2.1
        simp only [fg_if_1 c2, fg_if_0 c3, fg_if_0 c]
        exact ci_mk44 h v g
    · have c : ¬ (x0 = 4 ∧ x2 = x4 ∧ s_alike s x1 x3 x2) := fun w => c2 w.1
      simp only [fg_if_0 c2, fg_if_0 c]
      exact ci_mk44 h v g
  · simp only [fg_if_0 c1]
    exact ⟨k, 0, 0, y, rfl, h, by omega, by omega⟩
theorem ci_reply {x1 x2 x3 : Int32} (h : CB k s y) (v : ivc s) (g : ivg s) (vl : ivl s) : ∃ k2 c d y2, fn_X11_reply x1 x2 x3 k = some ((fg_if (q_in x3 (sC s 5)) (fg_if (sF s 81 (h_ix x3) = 1 ∨ sF s 81 (h_ix x3) = 2) (s_keepK s 2 x1 x2 (sF s 82 (h_ix x3)) (sF s 83 (h_ix x3)) x3) (-12, s_flt s 2)) ((-1 : Int32), s)).1, k2, c, d) ∧ CB k2 (fg_if (q_in x3 (sC s 5)) (fg_if (sF s 81 (h_ix x3) = 1 ∨ sF s 81 (h_ix x3) = 2) (s_keepK s 2 x1 x2 (sF s 82 (h_ix x3)) (sF s 83 (h_ix x3)) x3) (-12, s_flt s 2)) ((-1 : Int32), s)).2 y2 ∧ c + zC y2 ≤ zC y + 4 ∧ d + zD y2 ≤ zD y + 1008 := by
  have hF := h.1
  unfold fn_X11_reply
  rw [ci_linkAt (CB_M h) v, fg_b_1]
  by_cases c1 : q_in x3 (sC s 5)
  · obtain ⟨e1, l1⟩ := n_in c1
    simp only [fg_if_1 c1]
    obtain ⟨q12, lk, i0, i3, ⟨b1, r1, a1⟩, b2, r2, a2⟩ := CB_lnk (CB_M h) l1
    obtain ⟨z, hz, ez⟩ := vl _ l1
    have n : ¬ (some (yA y 6 (h_ix x3)) = none) := by simp
    rw [fg_if_0 n, fg_o_1, fg_g_1 lk, ci_isA lk (i0.trans ez) hz, fg_b_1, q_b_if]
    have ec : ((1 : Int32) = 0 ∨ (1 : Int32) = nI z ∨ ((1 : Int32) = 1 ∧ nI z = 2) ∨ ((1 : Int32) = 3 ∧ nI z = 4)) ↔ (sF s 81 (h_ix x3) = 1 ∨ sF s 81 (h_ix x3) = 2) := by
      rw [ez]
      rcases (show z = 0 ∨ z = 1 ∨ z = 2 ∨ z = 3 ∨ z = 4 by omega) with rfl | rfl | rfl | rfl | rfl <;> decide
    rw [fg_if_c ec]
    by_cases c2 : sF s 81 (h_ix x3) = 1 ∨ sF s 81 (h_ix x3) = 2
    · simp only [fg_if_1 c2, fg_let_1]
      obtain ⟨q, eq⟩ : ∃ q, c_ad 12 k = q := ⟨_, rfl⟩
      rw [eq]
      have q0 : h_k k q = 0 := by rw [← eq]; exact cf_z hF rfl
      have q8 : c_tg 12 q := by rw [← eq]; unfold c_tg c_ad; omega
      have F5 : c_F (h_nw k q 22 4) := cf_nw hF eq.symm (by decide)
      have na : yA y 6 (h_ix x3) ≠ q := fun e => by rw [e, q0] at lk; exact absurd lk (by decide)
      have nb1 : b1 ≠ q := fun e => by have := a1.2.1; rw [e, q0] at this; exact absurd this (by decide)
      have nb2 : b2 ≠ q := fun e => by have := a2.2.1; rw [e, q0] at this; exact absurd this (by decide)
      have g1 : h_k (h_nw k q 22 4) (yA y 6 (h_ix x3)) = 22 := by rw [h_k_nw, if_neg na]; exact lk
      have g2 : h_r (h_nw k q 22 4) (yA y 6 (h_ix x3)) 1 = some b1 := by rw [h_r_nw, if_neg na]; exact r1
      have g3 : h_r (h_nw k q 22 4) (yA y 6 (h_ix x3)) 2 = some b2 := by rw [h_r_nw, if_neg na]; exact r2
      have g4 : h_k (h_nw k q 22 4) b1 = 1 := by rw [h_k_nw, if_neg nb1]; exact a1.2.1
      have g5 : h_k (h_nw k q 22 4) b2 = 1 := by rw [h_k_nw, if_neg nb2]; exact a2.2.1
      have g6 : h_n (h_nw k q 22 4) b1 = 2 := by rw [h_n_nw, if_neg nb1]; exact a1.2.2.1
      have g7 : h_n (h_nw k q 22 4) b2 = 2 := by rw [h_n_nw, if_neg nb2]; exact a2.2.2.1
      have g8 : h_i (h_nw k q 22 4) b1 0 = sF s 82 (h_ix x3) := by rw [h_i_nw, if_neg nb1]; exact a1.2.2.2 0 _ rfl
      have g9 : h_i (h_nw k q 22 4) b2 0 = sF s 83 (h_ix x3) := by rw [h_i_nw, if_neg nb2]; exact a2.2.2.2 0 _ rfl
      have i0' : vp_in 0 2 := (n_vp (k := 0) (n := 2) (by decide)).mpr (by decide)
      obtain ⟨k2, f1, f2, f3, f4⟩ := ci_kinit (x0 := 2) (x1 := x1) (x2 := x2) (x3 := sF s 82 (h_ix x3)) (x4 := sF s 83 (h_ix x3)) (x5 := x3) F5 (by rw [h_k_nw, if_pos rfl]) q8
      have gj : c_jk k k2 := by
        intro a ha
        have n : a ≠ q := fun e => by
          rcases ha with w | w
          · exact w (by rw [e]; exact q0)
          · have := q8.1; omega
        refine c_eqt (c_eq_nw n) (f4 a n ?_)
        rcases ha with w | w
        · left; rw [h_k_nw, if_neg n]; exact w
        · exact Or.inr w
      obtain ⟨k3, c, d, y2, j1, j2, j3, j4, j5, j6⟩ := ci_keepLink h v g f2 gj f3
      rw [fg_o_1, fg_g_1 g1, g2, fg_o_1, fg_g_1 g4, g6, fg_g_1 i0', fg_o_1, fg_g_1 g1, g3, fg_o_1, fg_g_1 g5, g7, fg_g_1 i0', show h_ix (0 : Int32) = 0 from rfl, g8, g9, f1, fg_bc_1, j1, fg_bc_1]
      simp only [fg_c_1]
      exact ⟨k3, _, _, y2, rfl, j2, by omega, by omega⟩
    · simp only [fg_if_0 c2]
      rw [ci_failed, fg_b_1]
      exact ⟨_, 0, 0, y, rfl, cs_flt (CB_M h) 2, by omega, by omega⟩
  · simp only [fg_if_0 c1]
    rw [fg_if_T]
    exact ⟨k, 0, 0, y, rfl, h, by omega, by omega⟩
theorem cs_link (h : CB k s y) (v : ivc s) (g : ivg s) (vl : ivl s) (x0 x1 x2 x3 x4 : Int32) : ∃ k2 c d y2, fn_X11_link x0 x1 x2 x3 x4 k = some ((s_link s x0 x1 x2 x3 x4).1, k2, c, d) ∧ CB k2 (s_link s x0 x1 x2 x3 x4).2 y2 ∧ c + zC y2 ≤ zC y + 4 ∧ d + zD y2 ≤ zD y + 1008 := by
  have h0 : CB (h_si k 0 18 0) (s_flt s 0) y := cs_flt (CB_M h) 0
  have v0 : ivc (s_flt s 0) := v
  have g0 : ivg (s_flt s 0) := g
  have vl0 : ivl (s_flt s 0) := vl
  unfold fn_X11_link s_link
  rw [fg_let_1, show (5 : Int32) = nI 5 from rfl, ci_withinN _ (by decide), fg_b_1, q_b_if]
  have e32 : q_in x0 5 → 1 ≤ x2 → (x0 = 2 ∨ 1 ≤ x4) → ∃ k2 c d y2, fn_X11_link_32 x0 x1 x2 x3 x4 (h_si k 0 18 0) = some ((s_link s x0 x1 x2 x3 x4).1, k2, c, d) ∧ CB k2 (s_link s x0 x1 x2 x3 x4).2 y2 ∧ c + zC y2 ≤ zC y + 4 ∧ d + zD y2 ≤ zD y + 1008 := by
    intro a1 a2 a3
    have a : q_in x0 5 ∧ 1 ≤ x2 ∧ (x0 = 2 ∨ 1 ≤ x4) := ⟨a1, a2, a3⟩
    unfold fn_X11_link_32 s_link
    rw [ci_areWords (CB_M h0) v0, fg_b_1, q_b_if]
    simp only [fg_if_1 a]
    by_cases c1 : s_words s x1 x2
    · have c1' : s_words (s_flt s 0) x1 x2 := c1
      simp only [fg_if_1 c1, fg_if_1 c1']
      by_cases c2 : x0 = 2
      · simp only [fg_if_1 c2]
        obtain ⟨k2, c, d, y2, f1, f2, f3, f4⟩ := ci_reply (x1 := x1) (x2 := x2) (x3 := x3) h0 v0 g0 vl0
        rw [s_flt_flt] at f1 f2
        rw [f1, fg_bc_1]
        simp only [fg_c_1]
        exact ⟨k2, c + 0, d + 0, y2, rfl, f2, by omega, by omega⟩
      · simp only [fg_if_0 c2]
        obtain ⟨k2, c, d, y2, f1, f2, f3, f4⟩ := ci_linkOfWords (x0 := x0) (x1 := x1) (x2 := x2) (x3 := x3) (x4 := x4) h0 v0 g0 c1'
        rw [f1, fg_bc_1]
        simp only [fg_c_1]
        exact ⟨k2, c + 0, d + 0, y2, rfl, f2, by omega, by omega⟩
    · have c1' : ¬ s_words (s_flt s 0) x1 x2 := c1
      simp only [fg_if_0 c1, fg_if_0 c1']
      exact ⟨_, 0, 0, y, rfl, h0, by omega, by omega⟩
  unfold s_link at e32
  by_cases c1 : q_in x0 5
  · have c1' : q_in x0 ((5 : Nat) : Int) := c1
    rw [fg_if_1 c1']
    by_cases c2 : x2 < 1
    · have n : ¬ (q_in x0 5 ∧ 1 ≤ x2 ∧ (x0 = 2 ∨ 1 ≤ x4)) := fun w => Int32.not_le.mpr c2 w.2.1
      rw [fg_if_1 c2]
      simp only [fg_if_0 n]
      exact ⟨_, 0, 0, y, rfl, h0, by omega, by omega⟩
    · rw [fg_if_0 c2]
      by_cases c3 : x0 = 2
      · rw [fg_if_1 c3]
        exact e32 c1 (Int32.not_lt.mp c2) (Or.inl c3)
      · rw [fg_if_0 c3]
        by_cases c4 : 1 ≤ x4
        · rw [fg_if_1 c4]
          exact e32 c1 (Int32.not_lt.mp c2) (Or.inr c4)
        · have n : ¬ (q_in x0 5 ∧ 1 ≤ x2 ∧ (x0 = 2 ∨ 1 ≤ x4)) := fun w => by
            rcases w.2.2 with w | w
            · exact c3 w
            · exact c4 w
          rw [fg_if_0 c4]
          simp only [fg_if_0 n]
          exact ⟨_, 0, 0, y, rfl, h0, by omega, by omega⟩
  · have c1' : ¬ q_in x0 ((5 : Nat) : Int) := c1
    have n : ¬ (q_in x0 5 ∧ 1 ≤ x2 ∧ (x0 = 2 ∨ 1 ≤ x4)) := fun w => c1 w.1
    rw [fg_if_0 c1']
    simp only [fg_if_0 n]
    exact ⟨_, 0, 0, y, rfl, h0, by omega, by omega⟩
end CLL
