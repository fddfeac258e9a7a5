section CPi
variable {k : h_S} {s : sA} {y : c_Y} {M : Nat}
theorem c_ch_hd : ∀ {l : List (Nat × List sP)} {r : Option Nat}, c_ch k r l → l ≠ [] → ∃ a b, r = some a ∧ h_k k a = 25 ∧ h_r k a 1 = some b ∧ c_ps k b (s_lk l 600) := by
  intro l r h n
  cases l with
  | nil => exact absurd rfl n
  | cons p t =>
    obtain ⟨m, q⟩ := p
    obtain ⟨a, b, h1, _, h3, h4, _, h5, h6, _⟩ := h
    refine ⟨a, b, h1, h3, h5, ?_⟩
    unfold s_lk
    rw [if_pos h4]
    exact h6
theorem CB_head (h : CBM k s M y) (v : ivc s) (vt : ivt s) {w : Nat} (hw : w < sC s 2) : ∃ a b, h_r k 16 w = some a ∧ h_k k a = 25 ∧ h_r k a 1 = some b ∧ c_ps k b (sR s w (sC s 0)) := by
  have v0 := v.1
  obtain ⟨⟨n, _⟩, h2, h3⟩ := h.2.2.2.2.2.2.2.2.2.2.2.2.1 w hw
  obtain ⟨a, b, g1, g2, g3, g4⟩ := c_ch_hd h2 n
  refine ⟨a, b, g1, g2, g3, ?_⟩
  rw [← vt w 600 (by omega), h3 600]
  exact g4
theorem ci_pieceCount (h : CBM k s M y) (v : ivc s) (vt : ivt s) {w : Nat} (hw : w < sC s 2) : fn_X7_pieceCount (nI w) k = some (nI (sR s w (sC s 0)).length, k) := by
  have v2 := v.2.2.1
  obtain ⟨a, b, g1, g2, g3, g4⟩ := CB_head h v vt hw
  have i1 : vp_in (nI w) 12 := (n_vp (by omega)).mpr (by omega)
  have n : ¬ (some a = none) := by simp
  unfold fn_X7_pieceCount
  rw [h.2.1.2.2.1, ci_withinN _ (by omega), fg_b_1, q_b_if, fg_if_1 ((n_inI (by omega)).mpr hw), fg_g_1 i1, q_nIx (by omega), g1, fg_if_0 n, fg_g_1 i1, fg_o_1, fg_g_1 g2, g3, fg_o_1, fg_g_1 g4.2.1, g4.2.2.1]
  rfl
theorem cs_pieces (h : CB k s y) (v : ivc s) (vt : ivt s) (w : Int32) : ∃ k2, fn_X11_pieces w k = some ((s_pieces s w).1, k2) ∧ CB k2 (s_pieces s w).2 y := by
  refine ⟨k, ?_, h⟩
  unfold fn_X11_pieces s_pieces
  simp only [ci_isWriting h.2.1 v, fg_b_1, q_b_if]
  by_cases c1 : q_in w (sC s 2)
  · obtain ⟨e1, l1⟩ := n_in c1
    simp only [fg_if_1 c1]
    generalize h_ix w = w2 at e1 l1
    subst e1
    rw [ci_pieceCount (CB_M h) v vt l1, fg_b_1]
  · simp only [fg_if_0 c1]
theorem cs_piece (h : CB k s y) (v : ivc s) (vt : ivt s) (vp : ivp s) (w i x : Int32) : ∃ k2, fn_X11_piece w i x k = some ((s_piece s w i x).1, k2) ∧ CB k2 (s_piece s w i x).2 y := by
  have v2 := v.2.2.1
  refine ⟨k, ?_, h⟩
  unfold fn_X11_piece s_piece fn_X7_pieceAt
  simp only [ci_isWriting h.2.1 v, fg_b_1, q_b_if]
  by_cases c1 : q_in w (sC s 2)
  · obtain ⟨e1, l1⟩ := n_in c1
    simp only [fg_if_1 c1]
    generalize h_ix w = w2 at e1 l1
    subst e1
    obtain ⟨a, b, g1, g2, g3, g4⟩ := CB_head (CB_M h) v vt l1
    have hl := (vp w2 (sC s 0)).1
    have i1 : vp_in (nI w2) 12 := (n_vp (by omega)).mpr (by omega)
    generalize hq : sR s w2 (sC s 0) = l at g4 hl
    simp only [ci_pieceCount (CB_M h) v vt l1, fg_b_1, hq, ci_withinN i (show l.length < 2 ^ 31 by omega), q_b_if]
    by_cases c2 : q_in i l.length
    · obtain ⟨e2, l2⟩ := n_in c2
      simp only [fg_if_1 c2]
      generalize h_ix i = j at e2 l2
      subst e2
      obtain ⟨c, p1, p2⟩ := g4.2.2.2 j l[j] (List.getElem?_eq_getElem l2)
      have n : ¬ (some c = none) := by simp
      have i2 : vp_in (nI j) (h_n k b) := (n_vp (by omega)).mpr (by rw [g4.2.2.1]; exact l2)
      simp only [fg_g_1 i1, q_nIx (show w2 < 2 ^ 31 by omega), g1, fg_o_1, fg_g_1 g2, g3, fg_g_1 g4.2.1, fg_g_1 i2, p1, fg_b_1, fg_if_0 n, fg_g_1 p2.2.1, p2.2.2.1, p2.2.2.2.1, p2.2.2.2.2.1, p2.2.2.2.2.2.1, p2.2.2.2.2.2.2, fg_if_some, List.getElem?_eq_getElem l2]
      rfl
    · simp only [fg_if_0 c2, fg_b_1, fg_if_T]
  · simp only [fg_if_0 c1]
end CPi
