/-- the log lg has the row l -/
def l_row (t : r_T) (lg : Int32) (l : List sP) : Prop := (lg < 0 ∧ l = []) ∨ ∃ x a, lg = nI x ∧ x < 1200 ∧ t.2 15 x = nI l.length ∧ t.2 14 x = nI a ∧ a + l.length ≤ 28800 ∧ l.length ≤ 60 ∧ ∀ i, i < l.length → l[i]? = some (r_pc t (a + i))
/-- fuel -/
def l_fu : Nat → Nat → Nat
  | 0, n => n + 1
  | f + 1, n => n * (1 + l_fu f 24) + 1
def l_S : List Nat := [28, 29, 30, 31, 32, 33, 34, 36, 37, 38, 39]
/-- frames below L have their logs, pieces, moments -/
def l_lo (L : Nat) (t t2 : r_T) : Prop := ∀ k, k < L → t2.2 28 k = t.2 28 k ∧ t2.2 29 k = t.2 29 k ∧ t2.2 30 k = t.2 30 k
section LE
variable {s : sA}
theorem l_row_c {t t2 : r_T} {lg : Int32} {l : List sP} (h : l_row t lg l) (f : r_fr l_S t t2) : l_row t2 lg l := by
  rcases h with h | ⟨x, a, h1, h2, h3, h4, h5, h6, h7⟩
  · exact Or.inl h
  · refine Or.inr ⟨x, a, h1, h2, by rw [f.2 15 (by decide)]; exact h3, by rw [f.2 14 (by decide)]; exact h4, h5, h6, fun i hi => ?_⟩
    rw [h7 i hi]
    unfold r_pc
    rw [f.2 17 (by decide), f.2 18 (by decide), f.2 19 (by decide), f.2 20 (by decide), f.2 21 (by decide)]
theorem RW_fr {t t2 : r_T} (h : RW t s) (f : r_fr l_S t t2) : RW t2 s := RW_c h rfl (Nat.le_refl _) (f.1 10 (by decide)) (f.1 16 (by decide)) (f.2 11 (by decide)) (f.2 12 (by decide)) (f.2 13 (by decide)) (f.2 14 (by decide)) (f.2 15 (by decide)) (f.2 17 (by decide)) (f.2 18 (by decide)) (f.2 19 (by decide)) (f.2 20 (by decide)) (f.2 21 (by decide))
/-- rows of writings are rows of logs -/
theorem l_row_of {t : r_T} (h : RW t s) (v : ivc s) {w m : Nat} (hw : w < 12) (hm : m < 2 ^ 31) : l_row t (r_log t (nI m) 1200 (t.2 11 w)) (sR s w m) := by
  obtain ⟨L, P, a1, a2, a3, a4, a5, a6, a7⟩ := h
  have v0 := v.1
  rw [a7 w hw m hm]
  have hl := r_log_lg (m := nI m) (fun l hl => (a6 l hl).1) 1200 _ (a5 w hw)
  generalize r_log t (nI m) 1200 (t.2 11 w) = lg at hl
  rcases hl with e | ⟨y, hy, e⟩
  · subst e
    refine Or.inl ⟨by decide, ?_⟩
    unfold r_row
    rw [if_pos (by decide)]
  · obtain ⟨_, a, n, b1, b2, b3, b4⟩ := a6 y hy
    have ix : h_ix lg = y := by rw [e]; exact q_nIx (by omega)
    have c : ¬ lg < 0 := by rw [e]; exact n_neg (by omega)
    have e2 : r_row t lg = (List.range n).map (fun i => r_pc t (a + i)) := by
      unfold r_row
      rw [if_neg c, ix, b1, b2, q_nIx (by omega), q_nIx (by omega)]
    rw [e2]
    refine Or.inr ⟨y, a, e, by omega, by rw [b2]; simp, b1, by simp; omega, by simp; omega, fun i hi => ?_⟩
    simp at hi
    simp [hi]
theorem l_V_c {L : Nat} {a b c d : Nat → Nat} {ws : Nat → Int32} {g : Nat} {O : List lI} {t : r_T} (h : l_V L a b c ws g O t) (e : ∀ k, k ≤ L → c k = d k) : l_V L a b d ws g O t := by
  refine ⟨fun k hk => ?_, h.2.1, by rw [← e 0 (by omega)]; exact h.2.2.1, h.2.2.2⟩
  rw [← e k hk]
  exact h.1 k hk
theorem l_V_low {L : Nat} {a b c : Nat → Nat} {ws : Nat → Int32} {g : Nat} {O : List lI} {t : r_T} (h : l_V (L + 1) a b c ws g O t) : l_V L a b c ws g O t := ⟨fun k hk => h.1 k (by omega), h.2⟩
/-- arrays that show doesn't read -/
theorem l_V_t {L : Nat} {a b c : Nat → Nat} {ws : Nat → Int32} {g : Nat} {O : List lI} {t t2 : r_T} (h : l_V L a b c ws g O t) (e29 : t2.2 29 0 = t.2 29 0) (e : ∀ k, k ∈ ([31, 32, 33, 34, 36, 37, 38, 39] : List Nat) → t2.2 k = t.2 k) : l_V L a b c ws g O t2 := by
  obtain ⟨h1, h2, h3, h4, h5⟩ := h
  refine ⟨?_, by rw [e29]; exact h2, h3, h4, ?_⟩
  · rw [e 31 (by decide), e 32 (by decide), e 33 (by decide), e 34 (by decide)]; exact h1
  · unfold l_out; rw [e 36 (by decide), e 37 (by decide), e 38 (by decide), e 39 (by decide)]; exact h5
theorem l_rng (A : Int32) (g : Nat) (ch : List Int32) (d j : Nat) : (List.range (d + 1)).map (fun i => (A + nI (j + i), g, ch)) = (A + nI j, g, ch) :: (List.range d).map (fun i => (A + nI (j + 1 + i), g, ch)) := by
  rw [List.range_succ_eq_map, List.map_cons, List.map_map]
  congr 1
  apply List.map_congr_left
  intro i _
  show (A + nI (j + (i + 1)), _) = _
  rw [show j + (i + 1) = j + 1 + i by omega]
/-- the words of a piece -/
theorem ri_layLog_114 {L : Nat} {a b : Nat → Nat} {ws : Nat → Int32} {g : Nat} (hL : L ≤ 4) (ha : a 0 = 0) {K : Int32 → r_T → Option (Unit × r_T)} {x n : Nat} {A : Int32} (hx : x < 28800) (hn : n ≤ 500) : ∀ (d j N : Nat) (c : Nat → Nat) (O : List lI) (t : r_T), j + d = n → d < N → l_V L a b c ws g O t → t.2 19 x = nI n → t.2 18 x = A → ∃ t2, fn_X12_layLog_114 K N (nI L) (nI x) (nI j) t = K (nI L) t2 ∧ l_V L a b (l_pl a b (L + 1) ((List.range d).map (fun i => (A + nI (j + i), g, (List.range (L + 1)).map ws))) (c, O)).1 ws g (l_pl a b (L + 1) ((List.range d).map (fun i => (A + nI (j + i), g, (List.range (L + 1)).map ws))) (c, O)).2 t2 ∧ r_fr [34, 36, 37, 38, 39] t t2 := by
  intro d
  induction d with
  | zero =>
    intro j N c O t hj hN h h19 h18
    obtain ⟨N, rfl⟩ : ∃ m, N = m + 1 := ⟨N - 1, by omega⟩
    show ∃ t2, fn_X12_layLog_114b K _ _ _ _ _ = _ ∧ _
    unfold fn_X12_layLog_114b
    rw [fg_g_1 ((n_vp (by omega)).mpr (by omega)), q_nIx (by omega), h19, fg_if_1 ((n_le (by omega) (by omega)).mpr (by omega))]
    exact ⟨t, rfl, h, r_fr0⟩
  | succ d ih =>
    intro j N c O t hj hN h h19 h18
    obtain ⟨N, rfl⟩ : ∃ m, N = m + 1 := ⟨N - 1, by omega⟩
    show ∃ t2, fn_X12_layLog_114b K (fn_X12_layLog_114 K N) _ _ _ _ = _ ∧ _
    unfold fn_X12_layLog_114b
    rw [fg_g_1 ((n_vp (by omega)).mpr (by omega)), q_nIx (by omega), h19, fg_if_0 (fun w => by have := (n_le (a := n) (b := j) (by omega) (by omega)).mp w; omega), ri_isDone h hL, fg_b_1]
    have el := l_rng A g ((List.range (L + 1)).map ws) d j
    rw [el]
    have e1 : ∀ (i : lI) (r : List lI), l_pl a b (L + 1) (i :: r) (c, O) = if l_dn b (L + 1) c = true then (c, O) else l_pl a b (L + 1) r ((l_pu a b (L + 1) c).1, if (l_pu a b (L + 1) c).2 then O ++ [i] else O) := fun _ _ => rfl
    rw [e1]
    by_cases w : l_dn b (L + 1) c = true
    · rw [if_pos w, fg_if_0 (by decide), if_pos w]
      exact ⟨t, rfl, h, r_fr0⟩
    · rw [if_neg w, fg_if_1 rfl, if_neg w, fg_g_1 ((n_vp (by omega)).mpr (by omega)), h18]
      obtain ⟨t1, f1, f2, f3⟩ := ri_show hL ha (A + nI j) h
      rw [f1, fg_b_1, n_p1]
      obtain ⟨t2, g1, g2, g3⟩ := ih (j + 1) N _ _ t1 (by omega) (by omega) f2 (by rw [f3.2 19 (by decide)]; exact h19) (by rw [f3.2 18 (by decide)]; exact h18)
      exact ⟨t2, g1, g2, r_frt f3 g3⟩
/-- a frame is entered -/
theorem ri_enter {t : r_T} (h : RW t s) (v : ivc s) {L w m A n : Nat} (hL : L ≤ 4) (hw : w < 12) (hA : A ≤ 499) (hn : n ≤ 500) : fn_X12_enter (nI L) (nI w) (nI m) (nI A) (nI n) t = some ((), rt_A (rt_A (rt_A (rt_A (rt_A (rt_A (rt_A t 31 L (nI w)) 30 L (nI m)) 28 L (r_log t (nI m) 1200 (t.2 11 w))) 29 L 0) 32 L (nI A)) 33 L (nI (min (A + n) 300))) 34 L 0) := by
  have vL : vp_in (nI L) 5 := (n_vp (by omega)).mpr (by omega)
  have ixL : h_ix (nI L) = L := q_nIx (by omega)
  have fr : r_fr l_S t (rt_A (rt_A t 31 L (nI w)) 30 L (nI m)) := r_frt (r_frA (by decide)) (r_frA (by decide))
  have e0 := ri_logOf (RW_fr h fr) v (m := m) hw
  have e1 : r_log (rt_A (rt_A t 31 L (nI w)) 30 L (nI m)) (nI m) 1200 ((rt_A (rt_A t 31 L (nI w)) 30 L (nI m)).2 11 w) = r_log t (nI m) 1200 (t.2 11 w) := r_log_c (t := t) (t2 := rt_A (rt_A t 31 L (nI w)) 30 L (nI m)) rfl rfl 1200 (t.2 11 w)
  rw [e1] at e0
  unfold fn_X12_enter fn_X12_enter_68
  simp only [fg_g_1 vL, fg_let_1, ixL, e0, fg_b_1, n_add, show (300 : Int32) = nI 300 from rfl, n_le (show 300 < 2 ^ 31 by omega) (show A + n < 2 ^ 31 by omega)]
  by_cases c : 300 ≤ A + n
  · rw [fg_if_1 c, Nat.min_eq_right c]
  · rw [fg_if_0 c, Nat.min_eq_left (by omega)]
end LE
