section RLd
variable {t : r_T} {s : sA}
def l_B : List Nat := [40, 41, 42, 43, 44, 45]
/-- the first j pieces lie in the work's row -/
def l_w (T : r_T) (l : List sP) (j : Nat) : Prop := ∀ (i : Nat) (p : sP), i < j → l[i]? = some p → T.2 41 i = p.1 ∧ T.2 42 i = p.2.1 ∧ T.2 43 i = p.2.2.1 ∧ T.2 44 i = p.2.2.2.1 ∧ T.2 45 i = p.2.2.2.2
def rt_P (T : r_T) (j : Nat) (p : sP) : r_T := rt_A (rt_A (rt_A (rt_A (rt_A T 41 j p.1) 42 j p.2.1) 43 j p.2.2.1) 44 j p.2.2.2.1) 45 j p.2.2.2.2
theorem ri_setPiece {j : Nat} (hj : j < 60) (p : sP) : fn_X12_setPiece (nI j) p.1 p.2.1 p.2.2.1 p.2.2.2.1 p.2.2.2.2 t = some ((), rt_P t j p) := by
  have g1 : vp_in (nI j) 60 := (n_vp (by omega)).mpr hj
  unfold fn_X12_setPiece rt_P
  simp only [fg_g_1 g1, fg_let_1, q_nIx (show j < 2 ^ 31 by omega)]
theorem rt_P_fr (T : r_T) (j : Nat) (p : sP) : r_fr l_B T (rt_P T j p) := r_frt (r_frt (r_frt (r_frt (r_frA (by decide)) (r_frA (by decide))) (r_frA (by decide))) (r_frA (by decide))) (r_frA (by decide))
theorem rt_P_w {T : r_T} {l : List sP} {j : Nat} {p : sP} (h : l_w T l j) (hp : l[j]? = some p) : l_w (rt_P T j p) l (j + 1) := by
  intro i q hi hq
  unfold rt_P
  by_cases e : i = j
  · rw [e] at hq
    rw [hp] at hq
    cases hq
    subst e
    simp [rt_AA]
  · have := h i q (by omega) hq
    simp [rt_AA, e]
    exact this
theorem ri_load_28 {x a : Nat} {l : List sP} (hx : x < 1200) (ha : t.2 14 x = nI a) (hb : a + l.length ≤ 28800) (hl : l.length ≤ 60) (hp : ∀ i, i < l.length → l[i]? = some (r_pc t (a + i))) : ∀ (d j N : Nat) (T : r_T), j + d = l.length → d < N → r_fr l_B t T → T.1 40 = nI l.length → l_w T l j → ∃ T2, fn_X12_load_28 N (nI x) (nI j) T = some ((), T2) ∧ r_fr l_B t T2 ∧ T2.1 40 = nI l.length ∧ l_w T2 l l.length := by
  intro d
  induction d with
  | zero =>
    intro j N T hj hN hf h40 hw
    obtain ⟨N, rfl⟩ : ∃ m, N = m + 1 := ⟨N - 1, by omega⟩
    have ej : j = l.length := by omega
    refine ⟨T, ?_, hf, h40, by rw [← ej]; exact hw⟩
    show fn_X12_load_28b _ _ _ _ = _
    unfold fn_X12_load_28b
    rw [h40, fg_if_1 ((n_le (by omega) (by omega)).mpr (by omega))]
  | succ d ih =>
    intro j N T hj hN hf h40 hw
    obtain ⟨N, rfl⟩ : ∃ m, N = m + 1 := ⟨N - 1, by omega⟩
    have hj2 : j < l.length := by omega
    have g1 : vp_in (nI x) 1200 := (n_vp (by omega)).mpr hx
    have g2 : vp_in (nI (a + j)) 28800 := (n_vp (by omega)).mpr (by omega)
    have e14 : T.2 14 x = nI a := by rw [hf.2 14 (by decide)]; exact ha
    obtain ⟨T2, f1, f2, f3, f4⟩ := ih (j + 1) N (rt_P T j (r_pc t (a + j))) (by omega) (by omega) (r_frt hf (rt_P_fr T j _)) (by exact h40) (rt_P_w hw (hp j hj2))
    refine ⟨T2, ?_, f2, f3, f4⟩
    show fn_X12_load_28b (fn_X12_load_28 N) _ _ _ = _
    unfold fn_X12_load_28b
    have es := ri_setPiece (t := T) (show j < 60 by omega) (r_pc t (a + j))
    unfold r_pc at es
    rw [h40, fg_if_0 (fun q => by have := (n_le (a := l.length) (b := j) (by omega) (by omega)).mp q; omega), fg_g_1 g1, q_nIx (by omega), e14, n_add, fg_g_1 g2, fg_g_1 g2, fg_g_1 g2, fg_g_1 g2, fg_g_1 g2, q_nIx (by omega), hf.2 17 (by decide), hf.2 18 (by decide), hf.2 19 (by decide), hf.2 20 (by decide), hf.2 21 (by decide), es, fg_b_1, n_p1]
    exact f1
theorem ri_load (h : RA t s) (v : ivc s) {w m : Nat} (hw : w < 12) (hm : m < 2 ^ 31) : ∃ t2, fn_X12_load (nI w) (nI m) t = some ((), t2) ∧ t2.1 40 = nI (sR s w m).length ∧ l_w t2 (sR s w m) (sR s w m).length ∧ (sR s w m).length ≤ 60 ∧ r_fr l_B t t2 ∧ RA t2 s := by
  have hr := l_row_of h.2.2.2.2.1 v hw hm
  unfold fn_X12_load fn_X12_load_22
  rw [ri_logOf h.2.2.2.2.1 v hw, fg_b_1]
  generalize r_log t (nI m) 1200 (t.2 11 w) = lg at hr
  rcases hr with ⟨e1, e2⟩ | ⟨x, a, e1, hx, e15, e14, hb, hl, hp⟩
  · rw [e2]
    have n0 : ¬ (0 : Int32) ≤ lg := Int32.not_le.mpr e1
    obtain ⟨N, hN⟩ : ∃ m, g_N = m + 1 := ⟨g_N - 1, by have := g_N_le; omega⟩
    have f : r_fr l_B t (rt_F t 40 0) := r_frF (by decide)
    refine ⟨rt_F t 40 0, ?_, rfl, fun i p hi => absurd hi (Nat.not_lt_zero _), by decide, f, RA_fr h f (by decide)⟩
    rw [fg_if_0 n0, fg_let_1, hN]
    show fn_X12_load_28b _ _ _ _ = _
    unfold fn_X12_load_28b
    rw [rt_FF, if_pos rfl, fg_if_1 (by decide)]
  · rw [e1, fg_if_1 (n_0le (by omega)), fg_g_1 ((n_vp (by omega)).mpr hx), q_nIx (by omega), e15, fg_let_1]
    have f : r_fr l_B t (rt_F t 40 (nI (sR s w m).length)) := r_frF (by decide)
    obtain ⟨T2, f1, f2, f3, f4⟩ := ri_load_28 hx e14 hb hl hp (sR s w m).length 0 g_N (rt_F t 40 (nI (sR s w m).length)) (by omega) (by have := g_N_le; omega) f (by rw [rt_FF, if_pos rfl]) (fun i p hi => absurd hi (Nat.not_lt_zero _))
    exact ⟨T2, f1, f3, f4, hl, f2, RA_fr h f2 (by decide)⟩
theorem rs_pieces (h : RA t s) (v : ivc s) (w : Int32) : ∃ t2, fn_X12_pieces w t = some ((s_pieces s w).1, t2) ∧ RA t2 (s_pieces s w).2 := by
  have v0 := v.1
  have v2 := v.2.2.1
  unfold fn_X12_pieces s_pieces
  simp only [ri_noWriting h v, fg_b_1, q_bn_if]
  by_cases c1 : q_in w (sC s 2)
  · obtain ⟨e1, l1⟩ := n_in c1
    simp only [fg_if_1 c1, h.1.1]
    generalize h_ix w = w2 at e1 l1
    subst e1
    obtain ⟨t2, f1, f2, _, _, _, f6⟩ := ri_load h v (w := w2) (m := sC s 0) (by omega) (by omega)
    rw [f1, fg_b_1, f2]
    exact ⟨t2, rfl, f6⟩
  · simp only [fg_if_0 c1]
    exact ⟨t, rfl, h⟩
theorem rs_piece (h : RA t s) (v : ivc s) (w i x : Int32) : ∃ t2, fn_X12_piece w i x t = some ((s_piece s w i x).1, t2) ∧ RA t2 (s_piece s w i x).2 := by
  have v0 := v.1
  have v2 := v.2.2.1
  unfold fn_X12_piece s_piece
  simp only [ri_noWriting h v, fg_b_1, q_bn_if]
  by_cases c1 : q_in w (sC s 2)
  · obtain ⟨e1, l1⟩ := n_in c1
    simp only [fg_if_1 c1, h.1.1]
    generalize h_ix w = w2 at e1 l1
    subst e1
    obtain ⟨t2, f1, f2, f3, f4, _, f6⟩ := ri_load h v (w := w2) (m := sC s 0) (by omega) (by omega)
    generalize sR s w2 (sC s 0) = l at f2 f3 f4
    refine ⟨t2, ?_, f6⟩
    rw [f1, fg_b_1, f2, ri_in, q_bc (q_in0n (by omega)), fg_b_1, q_b_if]
    by_cases c2 : q_in i l.length
    · obtain ⟨e2, l2⟩ := n_in c2
      rw [fg_if_1 c2, fg_if_1 c2]
      generalize h_ix i = j at e2 l2
      subst e2
      have g1 : vp_in (nI j) 60 := (n_vp (by omega)).mpr (by omega)
      obtain ⟨p1, p2, p3, p4, p5⟩ := f3 j l[j] l2 (List.getElem?_eq_getElem l2)
      simp only [fg_g_1 g1, p1, p2, p3, p4, p5, fg_if_some, List.getElem?_eq_getElem l2]
      rfl
    · rw [fg_if_0 c2, fg_if_0 c2]
  · simp only [fg_if_0 c1]
    exact ⟨t, rfl, h⟩
end RLd
