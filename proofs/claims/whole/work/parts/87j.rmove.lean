section RE8
variable {t T : r_T} {s : sA}
def l_P : List Nat := [17, 18, 19, 20, 21]
theorem ri_lr28 {l : List sP} {P w : Nat} (hl : l.length ≤ 60) (hP : P + l.length ≤ 28800) (h40 : t.1 40 = nI l.length) (h16 : t.1 16 = nI P) (hW : l_W t 0 l) : ∀ (d j N : Nat) (T : r_T), j + d = l.length → d < N → r_fr l_P t T → (∀ k, 17 ≤ k ∧ k ≤ 21 → ∀ x, x < P → T.2 k x = t.2 k x) → (∀ i, i < j → l[i]? = some (r_pc T (P + i))) → ∃ T2, fn_X12_layRow_28 N (nI w) (nI j) T = fg_b (fn_X12_layLog (T2.1 10) (nI w) (T2.1 1) T2) (fun _ s3 => fg_b (fn_X12_bound s3) (fun _ s6 => some ((), s6))) ∧ r_fr l_P t T2 ∧ (∀ k, 17 ≤ k ∧ k ≤ 21 → ∀ x, x < P → T2.2 k x = t.2 k x) ∧ (∀ i, i < l.length → l[i]? = some (r_pc T2 (P + i))) := by
  intro d
  induction d with
  | zero =>
    intro j N T hj hN hf hk hi
    obtain ⟨N, rfl⟩ : ∃ m, N = m + 1 := ⟨N - 1, by omega⟩
    have ej : j = l.length := by omega
    refine ⟨T, ?_, hf, hk, fun i h => hi i (by omega)⟩
    show fn_X12_layRow_28b _ _ _ _ = _
    unfold fn_X12_layRow_28b
    rw [hf.1 40 (by decide), h40, fg_if_1 ((n_le (by omega) (by omega)).mpr (by omega))]
  | succ d ih =>
    intro j N T hj hN hf hk hi
    obtain ⟨N, rfl⟩ : ∃ m, N = m + 1 := ⟨N - 1, by omega⟩
    have hj2 : j < l.length := by omega
    show ∃ T2, fn_X12_layRow_28b (fn_X12_layRow_28 N) _ _ _ = _ ∧ _
    unfold fn_X12_layRow_28b
    have g1 : vp_in (nI j) 60 := (n_vp (by omega)).mpr (by omega)
    have g2 : vp_in (nI (P + j)) 28800 := (n_vp (by omega)).mpr (by omega)
    have t16 : T.1 16 = nI P := by rw [hf.1 16 (by decide)]; exact h16
    rw [hf.1 40 (by decide), h40, fg_if_0 (fun q => by have := (n_le (a := l.length) (b := j) (by omega) (by omega)).mp q; omega)]
    simp only [fg_let_1, rt_AF, t16, n_add, fg_g_1 g1, fg_g_1 g2, q_nIx (show j < 2 ^ 31 by omega), q_nIx (show P + j < 2 ^ 31 by omega), n_p1]
    have ew : r_w T j = l[j] := by
      have := hW j l[j] (List.getElem?_eq_getElem hj2)
      rw [Nat.zero_add] at this
      rw [← this]
      unfold r_w
      rw [hf.2 41 (by decide), hf.2 42 (by decide), hf.2 43 (by decide), hf.2 44 (by decide), hf.2 45 (by decide)]
    refine ih (j + 1) N _ (by omega) (by omega) (r_frt hf (r_frt (r_frt (r_frt (r_frt (r_frA (by decide)) (r_frA (by decide))) (r_frA (by decide))) (r_frA (by decide))) (r_frA (by decide)))) (fun k h2 x hx => ?_) (fun i h2 => ?_)
    · simp only [rt_AA, if_neg (show ¬ x = P + j by omega), ite_self]
      exact hk k h2 x hx
    · by_cases e : i = j
      · subst e
        rw [List.getElem?_eq_getElem hj2, ← ew]
        unfold r_pc r_w
        simp [rt_AA]
      · rw [hi i (by omega)]
        unfold r_pc
        simp [rt_AA, show ¬ i = j by omega]
theorem RW_hi {L P : Nat} (hRW : RW t s) (v : ivc s) (eL : t.1 10 = nI L) (eP : t.1 16 = nI P) (hL : L < 2 ^ 31) (hP : P < 2 ^ 31) (f : ∀ k, k ∈ ([11, 12, 13] : List Nat) → T.2 k = t.2 k) (f10 : T.1 10 = t.1 10) (f16 : T.1 16 = t.1 16) (g : ∀ k, k ∈ ([14, 15] : List Nat) → ∀ x, x < L → T.2 k x = t.2 k x) (hk : ∀ k, 17 ≤ k ∧ k ≤ 21 → ∀ x, x < P → T.2 k x = t.2 k x) : RW T s := by
  obtain ⟨L2, P2, a1, a2, a3, a4, a5, a6, a7⟩ := hRW
  have v0 := v.1
  obtain rfl : L2 = L := by rw [a3] at eL; exact (n_eq (by omega) hL).mp eL
  obtain rfl : P2 = P := by rw [a4] at eP; exact (n_eq (by omega) hP).mp eP
  refine ⟨L2, P2, a1, a2, f10.trans a3, f16.trans a4, by rw [f 11 (by decide)]; exact a5, fun l hl => ?_, fun w hw m hm => ?_⟩
  · rw [f 12 (by decide), g 14 (by decide) l hl, g 15 (by decide) l hl]
    exact a6 l hl
  · rw [a7 w hw m hm, f 11 (by decide), r_log_c (t := t) (t2 := T) (f 12 (by decide)) (f 13 (by decide))]
    have hlg := r_log_lg (m := nI m) (fun l hl => (a6 l hl).1) 1200 _ (a5 w hw)
    generalize r_log t (nI m) 1200 (t.2 11 w) = lg at hlg
    unfold r_row
    rcases hlg with rfl | ⟨x, hx, rfl⟩
    · rw [if_pos (by decide), if_pos (by decide)]
    · rw [if_neg (n_neg (by omega)), if_neg (n_neg (by omega)), q_nIx (by omega), g 14 (by decide) x hx, g 15 (by decide) x hx]
      obtain ⟨_, a, n, b1, b2, b3, b4⟩ := a6 x hx
      rw [b1, b2, q_nIx (by omega), q_nIx (by omega)]
      apply List.map_congr_left
      intro i hi
      have hi := List.mem_range.mp hi
      unfold r_pc
      rw [hk 17 (by omega) _ (by omega), hk 18 (by omega) _ (by omega), hk 19 (by omega) _ (by omega), hk 20 (by omega) _ (by omega), hk 21 (by omega) _ (by omega)]
theorem ri_layRow (h : RA t s) (v : ivc s) (vp : ivp s) {w : Nat} (hw : w < 12) {l : List sP} (hl : l.length ≤ 30) (hp : ∀ p, p ∈ l → s_pk s p) (h40 : t.1 40 = nI l.length) (hW : l_W t 0 l) : ∃ T2, fn_X12_layRow (nI w) t = some ((), T2) ∧ RA T2 s ∧ T2.1 40 = nI l.length ∧ l_W T2 0 l ∧ l_b T2 (e_z s (sC s 0)) l ∧ (∀ k, 48 ≤ k → k ≤ 53 → T2.2 k = t.2 k ∧ T2.1 k = t.1 k) := by
  have v0 := v.1
  have v2 := v.2.2.1
  obtain ⟨L, P, a1, a2, a3, a4, a5, a6, a7⟩ := h.2.2.2.2.1
  have g2 : vp_in (nI L) 1200 := (n_vp (by omega)).mpr (by omega)
  unfold fn_X12_layRow
  simp only [fg_let_1, rt_AF, a3, a4, h40, fg_g_1 g2, q_nIx (show L < 2 ^ 31 by omega)]
  generalize ht9 : rt_A (rt_A t 14 L (nI P)) 15 L (nI l.length) = t9
  have fr9 : r_fr [14, 15] t t9 := by rw [← ht9]; exact r_frt (r_frA (by decide)) (r_frA (by decide))
  have k14 : ∀ x, t9.2 14 x = if x = L then nI P else t.2 14 x := fun x => by rw [← ht9]; simp [rt_AA]
  have k15 : ∀ x, t9.2 15 x = if x = L then nI l.length else t.2 15 x := fun x => by rw [← ht9]; simp [rt_AA]
  obtain ⟨T2, f1, f2, f3, f4⟩ := ri_lr28 (t := t9) (l := l) (P := P) (w := w) (by omega) (by omega) (by rw [fr9.1 40 (by decide)]; exact h40) (by rw [fr9.1 16 (by decide)]; exact a4) (l_W_tr hW (fun i _ => by
    unfold r_w
    rw [fr9.2 41 (by decide), fr9.2 42 (by decide), fr9.2 43 (by decide), fr9.2 44 (by decide), fr9.2 45 (by decide)])) l.length 0 g_N t9 (by omega) (by have := g_N_le; omega) r_fr0 (fun _ _ _ _ => rfl) (fun i hi => absurd hi (Nat.not_lt_zero _))
  have frA : r_fr [14, 15, 17, 18, 19, 20, 21] t T2 := r_frt (r_frS fr9 (by decide)) (r_frS f2 (by decide))
  have hRW2 : RW T2 s := RW_hi h.2.2.2.2.1 v a3 a4 (by omega) (by omega) (fun k hk => frA.2 k (by revert hk; simp only [List.mem_cons, List.not_mem_nil, or_false]; omega)) (frA.1 10 (by decide)) (frA.1 16 (by decide)) (fun k hk x hx => by
    simp only [List.mem_cons, List.not_mem_nil, or_false] at hk
    rcases hk with rfl | rfl
    · rw [f2.2 14 (by decide), k14, if_neg (by omega)]
    · rw [f2.2 15 (by decide), k15, if_neg (by omega)]) (fun k hk x hx => by
    rw [f3 k hk x hx, fr9.2 k (by simp only [List.mem_cons, List.not_mem_nil, or_false]; omega)])
  have hRA2 : RAW T2 s s := RAW_of h frA (by decide) hRW2
  have hRA2' : RA T2 s := hRA2
  have hrow : l_row T2 (nI L) l := Or.inr ⟨L, P, rfl, by omega, by rw [f2.2 15 (by decide), k15, if_pos rfl], by rw [f2.2 14 (by decide), k14, if_pos rfl], by omega, by omega, f4⟩
  obtain ⟨T3, b1, b2, b3, b4, b5⟩ := ri_layLog v vp hRW2 hw (m := sC s 0) (by omega) hrow (fun q hq => by
    obtain ⟨p1, p2, p3, p4, p5⟩ := (hp q hq).1
    exact ⟨p1, p2, p3, fun c => by obtain ⟨z, hz, e⟩ := p4 c; exact ⟨z, by omega, e⟩, p5⟩)
  have h40' : T3.1 40 = nI l.length := by rw [b5.1 40 (by decide), frA.1 40 (by decide)]; exact h40
  obtain ⟨T4, c1, c2, c3⟩ := ri_bound (s := s) (w := w) (m := sC s 0) (by omega) h40' b2 b3
  have e10 : T2.1 10 = nI L := by rw [frA.1 10 (by decide)]; exact a3
  rw [e10, hRA2'.1.1, b1, fg_b_1, c1, fg_b_1] at f1
  refine ⟨T4, f1, RA_fr (RA_fr hRA2' b5 (by decide)) c2 (by decide), by rw [c2.1 40 (by decide)]; exact h40', l_W_tr hW (fun i _ => ?_), c3, fun k k1 k2 => ?_⟩
  · unfold r_w
    rw [c2.2 41 (by decide), c2.2 42 (by decide), c2.2 43 (by decide), c2.2 44 (by decide), c2.2 45 (by decide), b5.2 41 (by decide), b5.2 42 (by decide), b5.2 43 (by decide), b5.2 44 (by decide), b5.2 45 (by decide), frA.2 41 (by decide), frA.2 42 (by decide), frA.2 43 (by decide), frA.2 44 (by decide), frA.2 45 (by decide)]
  · rcases (show k = 48 ∨ k = 49 ∨ k = 50 ∨ k = 51 ∨ k = 52 ∨ k = 53 by omega) with rfl | rfl | rfl | rfl | rfl | rfl <;> exact ⟨by rw [c2.2 _ (by decide), b5.2 _ (by decide), frA.2 _ (by decide)], by rw [c2.1 _ (by decide), b5.1 _ (by decide), frA.1 _ (by decide)]⟩
theorem ri_mv102 (v : ivc s) (v0 : sC s 0 < 512) (vp : ivp s) {w p : Nat} (hw : w < 12) {A C B : List sP} (hA : A.length = p) (hl : (A ++ (C ++ B)).length ≤ 60) : ∀ (d j N : Nat) (T : r_T), j + d = C.length → d < N → RA T s → T.1 40 = nI (A ++ (C ++ B)).length → T.1 48 = nI C.length → l_O T C → l_W T 0 (A ++ C.take j) → l_W T (p + C.length) B → ∃ t2, fn_X12_move_102 N (nI w) (nI p) (nI j) T = some ((s_keepP s (nI w) (A ++ (C ++ B)) (nI (A ++ (C ++ B)).length)).1, t2) ∧ RA t2 (s_keepP s (nI w) (A ++ (C ++ B)) (nI (A ++ (C ++ B)).length)).2 := by
  have lc : A.length + (C.length + B.length) ≤ 60 := by rw [List.length_append, List.length_append] at hl; exact hl
  intro d
  induction d with
  | zero =>
    intro j N T hj hN hT h40 h48 hO h1 h2
    obtain ⟨N, rfl⟩ : ∃ m, N = m + 1 := ⟨N - 1, by omega⟩
    show ∃ t2, fn_X12_move_102b _ _ _ _ _ = _ ∧ _
    unfold fn_X12_move_102b s_keepP
    rw [List.take_of_length_le (by omega)] at h1
    have hW : l_W T 0 (A ++ (C ++ B)) := by
      rw [← List.append_assoc]
      exact l_W_app.mpr ⟨h1, by rw [List.length_append, Nat.zero_add, hA]; exact h2⟩
    obtain ⟨T2, b1, b2, b3⟩ := ri_store (t := T) (l := A ++ (C ++ B)) hw hT.2.2.2.2.1 hT.1.1 v0 hl h40 hW
    rw [h48, fg_if_1 ((n_le (by omega) (by omega)).mpr (by omega)), b1, fg_b_1, q_b_if, h40]
    by_cases c : (A ++ (C ++ B)).length ≤ 24
    · simp only [fg_if_1 c]
      obtain ⟨d1, d2⟩ := b2 c
      have hR : RAW T2 s (s_act (s_new s (nI w) (A ++ (C ++ B))) 0) := by
        unfold s_new
        rw [q_nIx (by omega)]
        exact RAW_of hT d1 (by decide) d2
      rw [ri_actedW hR v, fg_b_1]
      exact ⟨_, rfl, rs_actW hR _⟩
    · simp only [fg_if_0 c]
      rw [b3 c]
      exact ⟨T, rfl, hT⟩
  | succ d ih =>
    intro j N T hj hN hT h40 h48 hO h1 h2
    obtain ⟨N, rfl⟩ : ∃ m, N = m + 1 := ⟨N - 1, by omega⟩
    have hj2 : j < C.length := by omega
    have g1 : vp_in (nI j) 60 := (n_vp (by omega)).mpr (by omega)
    have eo := hO j C[j] (List.getElem?_eq_getElem hj2)
    have es := ri_setPiece (t := T) (show p + j < 60 by omega) (r_o T j)
    unfold r_o at es
    show ∃ t2, fn_X12_move_102b (fn_X12_move_102 N) _ _ _ _ = _ ∧ _
    unfold fn_X12_move_102b
    rw [h48, fg_if_0 (fun q => by have := (n_le (a := C.length) (b := j) (by omega) (by omega)).mp q; omega), fg_g_1 g1, fg_g_1 g1, fg_g_1 g1, fg_g_1 g1, fg_g_1 g1, n_add, q_nIx (by omega), es, fg_b_1, n_p1]
    refine ih (j + 1) N (rt_P T (p + j) (r_o T j)) (by omega) (by omega) (RA_fr hT (rt_P_fr T _ _) (by decide)) h40 h48 (fun i q hq => hO i q hq) ?_ (l_W_tr h2 (fun i hi => by rw [r_w_P, if_neg (by omega)]))
    rw [List.take_succ_eq_append_getElem hj2, ← List.append_assoc]
    refine l_W_snoc h1 (fun i hi => ?_) ?_
    · rw [List.length_append, List.length_take] at hi
      rw [r_w_P, if_neg (by omega)]
    · rw [List.length_append, List.length_take, r_w_P, if_pos (by omega), eo]
/-- noPlaces -/
theorem ri_noPlaces (h : RA t s) (v : ivc s) (vp : ivp s) (w f n : Int32) : ∃ T2, fn_X12_noPlaces w f n t = some (fg_if (q_in w (sC s 2) ∧ q_in f (s_SH s w).length) (fg_if (1 ≤ n ∧ n ≤ nI (s_SH s w).length - f) 0 (-2)) (-1), T2) ∧ RA T2 s ∧ (q_in w (sC s 2) → T2.1 35 = nI (s_SH s w).length ∧ T2.1 40 = nI (s_row s w).length ∧ l_W T2 0 (s_row s w) ∧ l_b T2 (e_z s (sC s 0)) (s_row s w)) := by
  have v2 := v.2.2.1
  have hS : (s_SH s w).length ≤ 300 := s_sh_300 _ _ _ _
  unfold fn_X12_noPlaces
  rw [ri_noWriting h v, fg_b_1, q_bn_if]
  by_cases c1 : q_in w (sC s 2)
  · obtain ⟨e1, l1⟩ := n_in c1
    obtain ⟨T1, a1, a2, a3, a4, a5, a6, a7⟩ := ri_open h v vp (w := h_ix w) (by omega)
    rw [← e1] at a1
    have a2' : T1.1 35 = nI (s_SH s w).length := a2
    refine ⟨T1, ?_, a7, fun _ => ⟨a2', a4, a5, a6⟩⟩
    have en : ((1 : Int64) ≤ n.toInt64 ∧ n.toInt64 ≤ (nI (s_SH s w).length - f).toInt64) ↔ (1 ≤ n ∧ n ≤ nI (s_SH s w).length - f) := q_c64 n 1 _ (by decide) rfl
    rw [fg_if_1 c1, a1, fg_b_1, a2', ri_in, q_bc (q_in0n (by omega)), fg_b_1, q_b_if, a2', ri_in, q_bc en, fg_b_1, q_b_if]
    by_cases c2 : q_in f (s_SH s w).length
    · have c : q_in w (sC s 2) ∧ q_in f (s_SH s w).length := ⟨c1, c2⟩
      rw [fg_if_1 c2, fg_if_1 c, fg_if_some]
    · have c : ¬ (q_in w (sC s 2) ∧ q_in f (s_SH s w).length) := fun q => c2 q.2
      rw [fg_if_0 c2, fg_if_0 c]
  · have c : ¬ (q_in w (sC s 2) ∧ q_in f (s_SH s w).length) := fun q => c1 q.1
    rw [fg_if_0 c1, fg_if_0 c]
    exact ⟨t, rfl, h, fun q => absurd q c1⟩
/-- n places from f on, as numbers -/
theorem s_cutN {w f n : Int32} (c2 : q_in f (s_SH s w).length) (c3 : 1 ≤ n ∧ n ≤ nI (s_SH s w).length - f) : f = nI (h_ix f) ∧ n = nI (h_ix n) ∧ 1 ≤ h_ix n ∧ h_ix f + h_ix n ≤ (s_SH s w).length := by
  have hS : (s_SH s w).length ≤ 300 := s_sh_300 _ _ _ _
  obtain ⟨e1, l1⟩ := n_in c2
  have q1 : (1 : Int32).toInt = 1 := rfl
  obtain ⟨d1, d2⟩ := c3
  rw [Int32.le_iff_toInt_le, q1] at d1
  rw [e1, n_sub (by omega), Int32.le_iff_toInt_le, q_nI (by omega)] at d2
  have e2 := q_ix (x := n) (by omega)
  exact ⟨e1, n_of (by omega), by omega, by omega⟩
theorem rs_cut (h : RA t s) (v : ivc s) (v0 : sC s 0 < 512) (vp : ivp s) (vx : ivx s) (w f n : Int32) : ∃ t2, fn_X12_cut w f n t = some ((s_cut s w f n).1, t2) ∧ RA t2 (s_cut s w f n).2 := by
  have v2 := v.2.2.1
  obtain ⟨T1, a1, a2, a3⟩ := ri_noPlaces h v vp w f n
  unfold fn_X12_cut s_cut
  rw [a1, fg_b_1]
  by_cases c1 : q_in w (sC s 2) ∧ q_in f (s_SH s w).length
  · simp only [fg_if_1 c1]
    by_cases c2 : 1 ≤ n ∧ n ≤ nI (s_SH s w).length - f
    · simp only [fg_if_1 c2]
      obtain ⟨b1, b2, b3, b4⟩ := a3 c1.1
      obtain ⟨e1, e2, e3, e4⟩ := s_cutN c1.2 c2
      obtain ⟨e5, l5⟩ := n_in c1.1
      have hS : (s_SH s w).length ≤ 300 := s_sh_300 _ _ _ _
      obtain ⟨T2, d1, d2, d3, d4, d5, d6, d7, d8⟩ := ri_takeOut (t := T1) (l := s_row s w) (f := h_ix f) (n := h_ix n) e3 (by omega) (vp (h_ix w) (sC s 0)).1 (fun p hp => e_ok_z (vx _ _ p hp)) b2 b3 b4
      rw [← e1, ← e2] at d1
      have hT2 : RA T2 s := RA_fr a2 d2 (by decide)
      obtain ⟨T3, g1, g2, g3⟩ := ri_store (t := T2) (w := h_ix w) (by omega) hT2.2.2.2.2.1 hT2.1.1 v0 (by omega) d3 d4
      rw [← e5] at g1
      rw [fg_if_1 (by decide), d1, fg_b_1, g1, fg_b_1]
      have := ri_keepS (T := T3) (w := h_ix w) v v0 (by omega) vp (e_lift_pk v (l := s_row s w) (fun p hp => vx (h_ix w) (sC s 0) p hp) (f := h_ix f) e3).2 (fun hc => by
        obtain ⟨k1, k2⟩ := g2 hc
        unfold s_new
        rw [q_nIx (by omega)]
        exact RAW_of hT2 k1 (by decide) k2) (fun hc => by rw [g3 hc]; exact hT2)
      rw [← e5] at this
      exact this
    · simp only [fg_if_0 c2]
      rw [fg_if_0 (by decide)]
      exact ⟨T1, rfl, a2⟩
  · simp only [fg_if_0 c1]
    rw [fg_if_0 (by decide)]
    exact ⟨T1, rfl, a2⟩
theorem rs_move (h : RA t s) (v : ivc s) (v0 : sC s 0 < 512) (vp : ivp s) (vx : ivx s) (w f n o : Int32) : ∃ t2, fn_X12_move w f n o t = some ((s_move s w f n o).1, t2) ∧ RA t2 (s_move s w f n o).2 := by
  have v2 := v.2.2.1
  obtain ⟨T1, a1, a2, a3⟩ := ri_noPlaces h v vp w f n
  have hS : (s_SH s w).length ≤ 300 := s_sh_300 _ _ _ _
  unfold fn_X12_move s_move
  rw [a1, fg_b_1]
  by_cases c1 : q_in w (sC s 2) ∧ q_in f (s_SH s w).length
  · obtain ⟨b1, b2, b3, b4⟩ := a3 c1.1
    rw [fg_if_1 c1]
    have n1 : ¬ fg_if (1 ≤ n ∧ n ≤ nI (s_SH s w).length - f) (0 : Int32) (-2) = -1 := by
      by_cases q : 1 ≤ n ∧ n ≤ nI (s_SH s w).length - f
      · rw [fg_if_1 q]; decide
      · rw [fg_if_0 q]; decide
    rw [fg_if_0 n1, b1, ri_in, q_bc (q_in1n (by omega)), fg_b_1, q_b_if]
    by_cases c3 : q_in o ((s_SH s w).length + 1)
    · have c : q_in w (sC s 2) ∧ q_in f (s_SH s w).length ∧ q_in o ((s_SH s w).length + 1) := ⟨c1.1, c1.2, c3⟩
      rw [fg_if_1 c3]
      simp only [fg_if_1 c]
      by_cases c2 : 1 ≤ n ∧ n ≤ nI (s_SH s w).length - f
      · simp only [fg_if_1 c2]
        obtain ⟨e1, e2, e3, e4⟩ := s_cutN c1.2 c2
        obtain ⟨e5, l5⟩ := n_in c1.1
        obtain ⟨e6, l6⟩ := n_in (n := (s_SH s w).length + 1) c3
        rw [fg_if_1 (by decide)]
        have efo : f < o ↔ h_ix f < h_ix o := by
          rw [e1, e6, q_nIx (by omega), q_nIx (by omega)]
          exact n_lt (by omega) (by omega)
        have efn : o < f + n ↔ h_ix o < h_ix f + h_ix n := by
          have : f + n = nI (h_ix f + h_ix n) := by rw [← n_add, ← e1, ← e2]
          rw [this, e6, q_nIx (by omega)]
          exact n_lt (by omega) (by omega)
        have e57 : ¬ (f < o ∧ o < f + n) → ∃ t2, fn_X12_move_57 w f n o T1 = some ((s_keepP s w (s_mv s w f n o) (nI (s_mv s w f n o).length)).1, t2) ∧ RA t2 (s_keepP s w (s_mv s w f n o) (nI (s_mv s w f n o).length)).2 := by
          intro nc
          obtain ⟨T2, d1, d2, d3, d4, d5, d6, d7, d8⟩ := ri_takeOut (t := T1) (l := s_row s w) (f := h_ix f) (n := h_ix n) e3 (by omega) (vp (h_ix w) (sC s 0)).1 (fun p hp => e_ok_z (vx _ _ p hp)) b2 b3 b4
          rw [← e1, ← e2] at d1
          have hT2 : RA T2 s := RA_fr a2 d2 (by decide)
          have hpk := e_lift_pk v (l := s_row s w) (fun p hp => vx (h_ix w) (sC s 0) p hp) (f := h_ix f) (n := h_ix n) e3
          unfold s_mv
          dsimp only
          generalize e_lift (e_z s (sC s 0)) (h_ix f) (h_ix n) (s_row s w) = L at d3 d4 d5 d6 d7 d8 hpk
          obtain ⟨T3, g1, g2, g3, g4, g5, g6⟩ := ri_layRow hT2 v vp (w := h_ix w) (by omega) (l := L.2) (by omega) hpk.2 d3 d4
          rw [← e5] at g1
          obtain ⟨at_, hat⟩ : ∃ a, a = if f < o then h_ix o - h_ix n else h_ix o := ⟨_, rfl⟩
          have hat3 : at_ ≤ 300 := by rw [hat]; split <;> omega
          have e84 : fg_if (o ≤ f) (fn_X12_move_84 w o T3) (fn_X12_move_84 w (o - n) T3) = fn_X12_move_84 w (nI at_) T3 := by
            by_cases q : f < o
            · have q2 : ¬ o < f + n := fun z => nc ⟨q, z⟩
              rw [fg_if_0 (Int32.not_le.mpr q), hat, if_pos q]
              rw [efn] at q2
              have : o - n = nI (h_ix o - h_ix n) := by rw [← n_sub (by omega), ← e6, ← e2]
              rw [this]
            · rw [fg_if_1 (Int32.not_lt.mp q), hat, if_neg q, ← e6]
          unfold fn_X12_move_57
          rw [d1, fg_b_1, g1, fg_b_1, e84, ← hat]
          obtain ⟨T4, k1, k2, k3, k4⟩ := ri_openAt (t := T3) hat3 (by omega) g3 g4 g5
          have ll := (e_oa_all (z := e_z s (sC s 0)) L.2 at_ 0).1
          generalize e_oa (e_z s (sC s 0)) at_ 0 L.2 = A at k1 k3 k4 ll
          have x48 : T4.1 48 = nI L.1.length := by rw [k2.1 48 (by decide), (g6 48 (by omega) (by omega)).2]; exact d6
          have lA : (A.1 ++ A.2).length ≤ 27 := by rw [List.length_append]; omega
          obtain ⟨T5, m1, m2, m3, m4⟩ := ri_widen (t := T4) (lo := A.1.length) (by_ := L.1.length) (by omega) (by rw [List.length_append]; omega) k3
          obtain ⟨w1, w2⟩ := l_W_wid k4 rfl m4
          unfold fn_X12_move_84
          rw [k1, fg_b_1, x48, m1, fg_b_1]
          have hT5 : RA T5 s := RA_fr (RA_fr g2 k2 (by decide)) m2 (by decide)
          have eL : (A.1 ++ (L.1 ++ A.2)).length = (A.1 ++ A.2).length + L.1.length := by rw [List.length_append, List.length_append, List.length_append]; omega
          have hO : l_O T5 L.1 := fun i q hq => by
            unfold r_o
            rw [m2.2 49 (by decide), m2.2 50 (by decide), m2.2 51 (by decide), m2.2 52 (by decide), m2.2 53 (by decide), k2.2 49 (by decide), k2.2 50 (by decide), k2.2 51 (by decide), k2.2 52 (by decide), k2.2 53 (by decide), (g6 49 (by omega) (by omega)).1, (g6 50 (by omega) (by omega)).1, (g6 51 (by omega) (by omega)).1, (g6 52 (by omega) (by omega)).1, (g6 53 (by omega) (by omega)).1]
            exact d5 i q hq
          have := ri_mv102 v v0 vp (w := h_ix w) (p := A.1.length) (by omega) (A := A.1) (C := L.1) (B := A.2) rfl (by omega) L.1.length 0 g_N T5 (by omega) (by have := g_N_le; omega) hT5 (by rw [eL]; exact m3) (by rw [m2.1 48 (by decide)]; exact x48) hO (by rw [List.take_zero, List.append_nil]; exact w1) w2
          rw [← e5] at this
          exact this
        by_cases q : f < o ∧ o < f + n
        · rw [fg_if_0 (Int32.not_le.mpr q.1), fg_if_0 (Int32.not_le.mpr q.2)]
          simp only [fg_if_1 q]
          exact ⟨T1, rfl, a2⟩
        · simp only [fg_if_0 q]
          by_cases q2 : o ≤ f
          · rw [fg_if_1 q2]; exact e57 q
          · rw [fg_if_0 q2, fg_if_1 (Int32.not_lt.mp (fun z => q ⟨Int32.not_le.mp q2, z⟩))]; exact e57 q
      · simp only [fg_if_0 c2]
        rw [fg_if_0 (by decide)]
        exact ⟨T1, rfl, a2⟩
    · have c : ¬ (q_in w (sC s 2) ∧ q_in f (s_SH s w).length ∧ q_in o ((s_SH s w).length + 1)) := fun q => c3 q.2.2
      rw [fg_if_0 c3]
      simp only [fg_if_0 c]
      exact ⟨T1, rfl, a2⟩
  · have c : ¬ (q_in w (sC s 2) ∧ q_in f (s_SH s w).length ∧ q_in o ((s_SH s w).length + 1)) := fun q => c1 ⟨q.1, q.2.1⟩
    rw [fg_if_0 c1, fg_if_1 rfl]
    simp only [fg_if_0 c]
    exact ⟨T1, rfl, a2⟩
end RE8
