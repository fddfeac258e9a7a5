section CS5
variable {k k2 : h_S} {s : sA} {y : c_Y} {M : Nat}
/-- linkAt(x) -/
theorem ci_linkAt (h : CBM k s M y) (v : ivc s) (x : Int32) : fn_X11_linkAt x k = some (fg_if (q_in x (sC s 5)) (some (yA y 6 (h_ix x))) none, k) := by
  have v1 := v.2.2.2.2.2.1
  have hl := h.2.2.2.2.1.2.2.1
  unfold fn_X11_linkAt
  rw [ci_size (ck_6 h.1) hl, fg_b_1, ci_withinN x (by omega), fg_b_1, q_b_if]
  by_cases c : q_in x (sC s 5)
  · obtain ⟨e, l⟩ := n_in c
    rw [fg_if_1 c, fg_if_1 c]
    generalize h_ix x = i at e l
    subst e
    rw [ci_get (ck_6 h.1) hl l, fg_b_1, fg_g_1]
    intro z hz
    cases hz
    exact (h.2.2.2.2.2.2.2.2.1 i l).2.1
  · rw [fg_if_0 c, fg_if_0 c]
/-- a link: what its object holds -/
def c_lnk (k : h_S) (a : Nat) (x0 x1 x2 x3 x4 x5 : Int32) : Prop := c_tg 12 a ∧ h_k k a = 22 ∧ h_i k a 0 = x0 ∧ h_i k a 3 = x5 ∧ (∃ b, h_r k a 1 = some b ∧ c_ar k 13 b [x1, x3]) ∧ ∃ b, h_r k a 2 = some b ∧ c_ar k 13 b [x2, x4]
theorem c_ar2 {t b : Nat} {u v : Int32} (h : c_ar k t b [u, v]) : h_k k b = 1 ∧ h_n k b = 2 ∧ h_i k b 0 = u ∧ h_i k b 1 = v := ⟨h.2.1, h.2.2.1, h.2.2.2 0 u rfl, h.2.2.2 1 v rfl⟩
theorem CB_lnk (h : CBM k s M y) {i : Nat} (hi : i < sC s 5) : c_lnk k (yA y 6 i) (sF s 81 i) (sF s 82 i) (sF s 83 i) (sF s 84 i) (sF s 85 i) (sF s 86 i) := h.2.2.2.2.2.2.2.2.1 i hi
theorem cs_ofLink (h : CB k s y) (v : ivc s) (x z : Int32) : ∃ k2, fn_X11_ofLink x z k = some ((s_ofLink s x z).1, k2) ∧ CB k2 (s_ofLink s x z).2 y := by
  unfold fn_X11_ofLink s_ofLink
  simp only [ci_linkAt (CB_M h) v, fg_b_1]
  by_cases c : q_in x (sC s 5)
  · obtain ⟨_, w1, w2, w3, ⟨b, w4, w5⟩, d, w6, w7⟩ := CB_lnk (CB_M h) (n_in c).2
    obtain ⟨b1, b2, b3, b4⟩ := c_ar2 w5
    obtain ⟨d1, d2, d3, d4⟩ := c_ar2 w7
    have n : ¬ (some (yA y 6 (h_ix x)) = none) := by simp
    have i0 : vp_in 0 2 := (n_vp (k := 0) (n := 2) (by decide)).mpr (by decide)
    have i1 : vp_in 1 2 := (n_vp (k := 1) (n := 2) (by decide)).mpr (by decide)
    simp only [fg_if_1 c, fg_if_0 n, fg_o_1, fg_g_1 w1, w2, w3, w4, w6, fg_g_1 b1, fg_g_1 d1, b2, d2, fg_g_1 i0, fg_g_1 i1, show h_ix (0 : Int32) = 0 from rfl, show h_ix (1 : Int32) = 1 from rfl, b3, b4, d3, d4, fg_if_some]
    exact ⟨k, rfl, h⟩
  · simp only [fg_if_0 c, fg_if_T]
    exact ⟨k, rfl, h⟩
/-- noteBody -/
def c_nt (k : h_S) (n : Int32) : h_S := h_si k 0 17 (31 * h_i k 0 17 + n)
theorem ci_note (n : Int32) : fn_X11_noteBody n k = some ((), c_nt k n) := rfl
theorem cs_tr (h : CBM k s M y) (n : Int32) : CBM (c_nt k n) (s_tr s n) M y := by
  refine CB_up h h.1 (c_ag_si (by decide) (by decide)) ?_ ?_ ?_ (fun _ _ => rfl) (fun _ _ => rfl) rfl rfl (Nat.le_refl _)
  · have h1 := h.2.1
    unfold KN at *
    simp [c_nt, h_i_si, s_tr, sC_uN, sN_uN, h1]
  · obtain ⟨h1, h2, h3⟩ := h.2.2.1
    refine ⟨fun i hi => ?_, fun i hi => ?_, fun i hi => ?_⟩
    · simp [c_nt, h_i_si]; exact h1 i hi
    · simp [c_nt, h_i_si]; exact h2 i hi
    · simp [c_nt, h_i_si]; exact h3 i hi
  · intro q hq m hm
    simp [c_nt, h_i_si]; exact h.2.2.2.1 q hq m hm
/-- the second array of a link -/
def c_l2 (k : h_S) (a : Nat) (p q : Int32) : Prop := h_k k a = 22 ∧ ∃ b, h_r k a 2 = some b ∧ 128 ≤ b ∧ h_k k b = 1 ∧ h_n k b = 2 ∧ h_i k b 0 = p ∧ h_i k b 1 = q
theorem c_l2_nt {a : Nat} {p q : Int32} (h : c_l2 k a p q) (n : Int32) : c_l2 (c_nt k n) a p q := by
  obtain ⟨h1, b, h2, h3, h4, h5, h6, h7⟩ := h
  refine ⟨h1, b, h2, h3, h4, h5, ?_, ?_⟩
  · unfold c_nt; rw [h_i_si, if_neg (by omega)]; exact h6
  · unfold c_nt; rw [h_i_si, if_neg (by omega)]; exact h7
theorem ci_t0 {a : Nat} {p q : Int32} (h : c_l2 k a p q) : fn_X11_tellLink (some a) k = some (p, c_nt k 1) := by
  obtain ⟨h1, b, h2, h3, h4, h5, h6, h7⟩ := c_l2_nt h 1
  unfold fn_X11_tellLink
  have i0 : vp_in 0 2 := (n_vp (k := 0) (n := 2) (by decide)).mpr (by decide)
  simp only [ci_note, fg_b_1, fg_o_1, fg_g_1 h1, h2, fg_g_1 h4, h5, fg_g_1 i0, show h_ix (0 : Int32) = 0 from rfl, h6]
theorem ci_t1 {a : Nat} {p q : Int32} (h : c_l2 k a p q) : fn_X11_tellNote (some a) k = some (p + q, c_nt (c_nt k 2) 1) := by
  have e := c_l2_nt h 2
  obtain ⟨h1, b, h2, h3, h4, h5, h6, h7⟩ := c_l2_nt e 1
  unfold fn_X11_tellNote
  have i0 : vp_in 1 2 := (n_vp (k := 1) (n := 2) (by decide)).mpr (by decide)
  simp only [ci_note, fg_b_1, ci_t0 e, fg_o_1, fg_g_1 h1, h2, fg_g_1 h4, h5, fg_g_1 i0, show h_ix (1 : Int32) = 1 from rfl, h7]
theorem ci_t3 {a : Nat} {p q : Int32} (h : c_l2 k a p q) : fn_X11_tellSame (some a) k = some (p + 100, c_nt (c_nt k 4) 1) := by
  have e := c_l2_nt h 4
  unfold fn_X11_tellSame
  simp only [ci_note, fg_b_1, ci_t0 e]
theorem ci_t2 {a : Nat} {p q : Int32} (h : c_l2 k a p q) : fn_X11_tellReply (some a) k = some (p + q + p, c_nt (c_nt (c_nt (c_nt k 3) 2) 1) 1) := by
  have e := c_l2_nt h 3
  unfold fn_X11_tellReply
  simp only [ci_note, fg_b_1, ci_t1 e, ci_t0 (c_l2_nt (c_l2_nt e 2) 1)]
theorem ci_t4 {a : Nat} {p q : Int32} (h : c_l2 k a p q) : fn_X11_tellCorrect (some a) k = some (p + 100 + p, c_nt (c_nt (c_nt (c_nt k 5) 4) 1) 1) := by
  have e := c_l2_nt h 5
  unfold fn_X11_tellCorrect
  simp only [ci_note, fg_b_1, ci_t3 e, ci_t0 (c_l2_nt (c_l2_nt e 4) 1)]
theorem q_two (p q : Int32) : p + q + p = 2 * p + q := by
  rw [Int32.add_assoc, Int32.add_comm q p, ← Int32.add_assoc, show (2 : Int32) = 1 + 1 from rfl, Int32.add_mul, Int32.one_mul]
theorem cs_tell (h : CB k s y) (v : ivc s) (vl : ivl s) (x : Int32) : ∃ k2, fn_X11_tell x k = some ((s_tell s x).1, k2) ∧ CB k2 (s_tell s x).2 y := by
  unfold fn_X11_tell s_tell
  simp only [ci_linkAt (CB_M h) v, fg_b_1]
  by_cases c : q_in x (sC s 5)
  · obtain ⟨_, w1, w2, w3, _, d, w6, w7⟩ := CB_lnk (CB_M h) (n_in c).2
    obtain ⟨d1, d2, d3, d4⟩ := c_ar2 w7
    have l2 : c_l2 k (yA y 6 (h_ix x)) (sF s 83 (h_ix x)) (sF s 85 (h_ix x)) := ⟨w1, d, w6, w7.1.1, d1, d2, d3, d4⟩
    have n : ¬ (some (yA y 6 (h_ix x)) = none) := by simp
    simp only [fg_if_1 c, fg_if_0 n, fg_o_1, fg_g_1 w1, w2]
    obtain ⟨z, hz, e⟩ := vl (h_ix x) (n_in c).2
    rw [e]
    rcases (show z = 0 ∨ z = 1 ∨ z = 2 ∨ z = 3 ∨ z = 4 by omega) with rfl | rfl | rfl | rfl | rfl
    · simp only [show (nI 0 = 0) = True by decide, fg_if_T]
      simp only [show nI 0 = 0 from rfl, show ((0 : Int32) = 1) = False by decide, show ((0 : Int32) = 2) = False by decide, show ((0 : Int32) = 3) = False by decide, show ((0 : Int32) = 4) = False by decide, fg_if_T, fg_if_F, ci_t0 l2, fg_b_1]
      exact ⟨_, rfl, cs_tr (CB_M h) _⟩
    · simp only [show (nI 1 = 0) = False by decide, show (nI 1 = 1) = True by decide, fg_if_T, fg_if_F]
      simp only [show nI 1 = 1 from rfl, show ((1 : Int32) = 1) = True by decide, show ((1 : Int32) = 2) = False by decide, show ((1 : Int32) = 3) = False by decide, show ((1 : Int32) = 4) = False by decide, fg_if_T, fg_if_F, ci_t1 l2, fg_b_1]
      exact ⟨_, rfl, cs_tr (cs_tr (CB_M h) _) _⟩
    · simp only [show (nI 2 = 0) = False by decide, show (nI 2 = 1) = False by decide, show (nI 2 = 2) = True by decide, fg_if_T, fg_if_F]
      simp only [show nI 2 = 2 from rfl, show ((2 : Int32) = 1) = False by decide, show ((2 : Int32) = 2) = True by decide, show ((2 : Int32) = 3) = False by decide, show ((2 : Int32) = 4) = False by decide, fg_if_T, fg_if_F, ci_t2 l2, fg_b_1, q_two]
      exact ⟨_, rfl, cs_tr (cs_tr (cs_tr (cs_tr (CB_M h) _) _) _) _⟩
    · simp only [show (nI 3 = 0) = False by decide, show (nI 3 = 1) = False by decide, show (nI 3 = 2) = False by decide, show (nI 3 = 3) = True by decide, fg_if_T, fg_if_F]
      simp only [show nI 3 = 3 from rfl, show ((3 : Int32) = 1) = False by decide, show ((3 : Int32) = 2) = False by decide, show ((3 : Int32) = 3) = True by decide, show ((3 : Int32) = 4) = False by decide, fg_if_T, fg_if_F, ci_t3 l2, fg_b_1]
      exact ⟨_, rfl, cs_tr (cs_tr (CB_M h) _) _⟩
    · simp only [show (nI 4 = 0) = False by decide, show (nI 4 = 1) = False by decide, show (nI 4 = 2) = False by decide, show (nI 4 = 3) = False by decide, fg_if_T, fg_if_F]
      simp only [show nI 4 = 4 from rfl, show ((4 : Int32) = 1) = False by decide, show ((4 : Int32) = 2) = False by decide, show ((4 : Int32) = 3) = False by decide, show ((4 : Int32) = 4) = True by decide, fg_if_T, fg_if_F, ci_t4 l2, fg_b_1, q_two]
      exact ⟨_, rfl, cs_tr (cs_tr (cs_tr (cs_tr (CB_M h) _) _) _) _⟩
  · simp only [fg_if_0 c, fg_if_T]
    exact ⟨k, rfl, h⟩
theorem cs_name (h : CB k s y) (v : ivc s) (x : Int32) : ∃ k2, fn_X11_name x k = some ((s_name s x).1, k2) ∧ CB k2 (s_name s x).2 y := by
  unfold fn_X11_name s_name
  simp only [ci_linkAt (CB_M h) v, fg_b_1]
  by_cases c : q_in x (sC s 5)
  · obtain ⟨_, w1, w2, _⟩ := CB_lnk (CB_M h) (n_in c).2
    have n : ¬ (some (yA y 6 (h_ix x)) = none) := by simp
    simp only [fg_if_1 c, fg_if_0 n, fg_o_1, fg_g_1 w1, w2, ci_note, fg_b_1]
    by_cases c2 : sF s 81 (h_ix x) = 4
    · simp only [fg_if_1 c2]
      exact ⟨_, rfl, cs_tr (CB_M h) _⟩
    · simp only [fg_if_0 c2]
      exact ⟨_, rfl, cs_tr (CB_M h) _⟩
  · simp only [fg_if_0 c, fg_if_T]
    exact ⟨k, rfl, h⟩
theorem cs_clash (h : CB k s y) (v : ivc s) (x z : Int32) : ∃ k2, fn_X11_clash x z k = some ((s_clash s x z).1, k2) ∧ CB k2 (s_clash s x z).2 y := by
  have v1 := v.2.2.2.2.2.2.2.1
  have hl := h.2.2.2.2.1.2.1
  unfold fn_X11_clash s_clash
  rw [ci_size (ck_5 h.1) hl, fg_b_1, ci_withinN x (by omega), fg_b_1, q_b_if]
  by_cases c : q_in x (sC s 7)
  · obtain ⟨e, l⟩ := n_in c
    rw [fg_if_1 c, fg_if_1 c]
    generalize h_ix x = i at e l
    subst e
    obtain ⟨_, w1, w2, w3, w4, b, w5, w6⟩ := h.2.2.2.2.2.2.2.1.1 i l
    have hg : ∀ x, some (yA y 5 i) = some x → h_k k x = 21 := by
      intro z hz
      cases hz
      exact w1
    have en : Int32.ofNat (h_n k b) - nI (sK s i).1.length = nI (sK s i).2.length := by
      rw [w6.2.2.1, List.length_append]
      show nI ((sK s i).1.length + (sK s i).2.length) - _ = _
      rw [Nat.add_comm]
      rw [← n_add, Int32.add_sub_cancel]
    rw [ci_get (ck_5 h.1) hl l, fg_b_1]
    simp only [fg_g_1 hg, fg_o_1, fg_g_1 w1, w2, w3, w4, w5, fg_g_1 w6.2.1, en, fg_if_some]
    exact ⟨k, rfl, h⟩
  · rw [fg_if_0 c, fg_if_0 c]
    exact ⟨k, rfl, h⟩
theorem cs_ofRight (h : CB k s y) (v : ivc s) (vr : ∀ i, i < sC s 6 → sF s 97 i = -9 ∨ ∃ z, z ≤ 600 ∧ sF s 97 i = nI z) (x z : Int32) : ∃ k2, fn_X11_ofRight x z k = some ((s_ofRight s x z).1, k2) ∧ CB k2 (s_ofRight s x z).2 y := by
  have v1 := v.2.2.2.2.2.2.1
  have hl := h.2.2.2.2.1.2.2.2.1
  unfold fn_X11_ofRight s_ofRight
  rw [ci_size (ck_8 h.1) hl, fg_b_1, ci_withinN x (by omega), fg_b_1, q_b_if]
  by_cases c : q_in x (sC s 6)
  · obtain ⟨e, l⟩ := n_in c
    rw [fg_if_1 c, fg_if_1 c]
    generalize h_ix x = i at e l
    subst e
    obtain ⟨_, w1, w2, w3, w4, w5, w6, w7, w8, w9⟩ := h.2.2.2.2.2.2.2.2.2.1.1 i l
    have hg : ∀ x, some (yA y 8 i) = some x → h_k k x = 24 := by
      intro z hz
      cases hz
      exact w1
    have et : fn_X3_isThere (yA y 8 i) k = some (q_b (sF s 97 i = -9), k) := by
      unfold fn_X3_isThere
      rw [fg_g_1 w1, w4]
      by_cases c2 : sF s 97 i = -9
      · rw [q_b1 c2, c2, fg_if_1 (by decide)]
      · rw [q_b0 c2, fg_if_0]
        unfold s_nv
        rw [if_neg c2]
        rcases vr i l with w | ⟨z, hz, w⟩
        · exact absurd w c2
        · rw [w]
          intro w
          have := congrArg Int32.toInt w
          rw [q_nI (by omega)] at this
          have e1 : (2147483647 : Int32).toInt = 2147483647 := rfl
          omega
    rw [ci_get (ck_8 h.1) hl l, fg_b_1]
    simp only [fg_g_1 hg, fg_o_1, fg_g_1 w1, w2, w3, w5, w6, w7, w8, w9, et, fg_b_1, q_b_if, fg_if_some]
    exact ⟨k, rfl, h⟩
  · rw [fg_if_0 c, fg_if_0 c]
    exact ⟨k, rfl, h⟩
end CS5
