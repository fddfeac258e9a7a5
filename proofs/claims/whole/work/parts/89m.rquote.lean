section RQv
variable {t T : r_T} {s : sA} {b : Int32}
theorem ri_goFrom {r w : Nat} {D : Nat → Int32} {Q : Nat → Prop} (h : RA T s) (v : ivc s) (vd : ivd s) (vx : ivx s) (hr : r ≤ 100) (hw : w < 12) (hd : r_d T (sC s 2) D r Q) : ∃ T3, fn_X12_goFrom (nI w) (nI (r + 1)) b T = some ((), T3) ∧ r_fr [54] T T3 ∧ r_d T3 (sC s 2) D r (fun u => Q u ∨ s_eg s b w u) := by
  have v0 := v.1
  have hl := l_row_of h.2.2.2.2.1 v hw (m := sC s 0) (by omega)
  unfold fn_X12_goFrom
  rw [h.1.1, ri_logOf h.2.2.2.2.1 v hw, fg_b_1]
  generalize r_log T (nI (sC s 0)) 1200 (T.2 11 w) = lg at hl
  rcases hl with ⟨e1, e2⟩ | ⟨x, a, e1, hx, e15, e14, hb, hl, hp⟩
  · obtain ⟨N, hN⟩ : ∃ m, g_N = m + 1 := ⟨g_N - 1, by have := g_N_le; omega⟩
    refine ⟨T, ?_, r_fr0, r_d_c hd (fun u _ => ⟨fun q => Or.inl q, fun q => q.elim id (fun ⟨p, hp, _⟩ => by rw [e2] at hp; cases hp)⟩)⟩
    rw [hN]
    show fn_X12_goFrom_14b _ _ _ _ _ _ = _
    unfold fn_X12_goFrom_14b
    rw [fg_if_1 e1]
  · obtain ⟨T3, f1, f2, f3⟩ := ri_goFrom_14 (b := b) h v vd hr hx e15 e14 hb hl hp (fun p hp => vx _ _ p hp) (sR s w (sC s 0)).length 0 g_N T Q (by omega) (by have := g_N_le; omega) r_fr0 hd
    rw [e1]
    exact ⟨T3, f1, f2, f3⟩
theorem ri_laySteps_46 {r : Nat} {D : Nat → Int32} (v : ivc s) (vd : ivd s) (vx : ivx s) (hr : r ≤ 100) {K : Int32 → Int32 → r_T → Option (Unit × r_T)} : ∀ (d j N : Nat) (T : r_T), j + d = sC s 2 → d < N → RA T s → r_d T (sC s 2) D r (fun u => ∃ w, w < j ∧ D w = nI r ∧ s_eg s b w u) → ∃ T3, fn_X12_laySteps_46 K N b (nI r) (nI j) T = K b (nI (r + 1)) T3 ∧ r_fr [54] T T3 ∧ r_d T3 (sC s 2) D r (fun u => ∃ w, w < sC s 2 ∧ D w = nI r ∧ s_eg s b w u) := by
  have v2 := v.2.2.1
  intro d
  induction d with
  | zero =>
    intro j N T hj hN h hd
    obtain ⟨N, rfl⟩ : ∃ m, N = m + 1 := ⟨N - 1, by omega⟩
    have ej : j = sC s 2 := by omega
    refine ⟨T, ?_, r_fr0, by rw [ej] at hd; exact hd⟩
    show fn_X12_laySteps_46b _ _ _ _ _ _ = _
    unfold fn_X12_laySteps_46b
    rw [h.1.2.2.1, fg_if_1 ((n_le (by omega) (by omega)).mpr (by omega)), n_p1]
  | succ d ih =>
    intro j N T hj hN h hd
    obtain ⟨N, rfl⟩ : ∃ m, N = m + 1 := ⟨N - 1, by omega⟩
    show ∃ T3, fn_X12_laySteps_46b K (fn_X12_laySteps_46 K N) _ _ _ _ = _ ∧ _
    unfold fn_X12_laySteps_46b
    have e54 : T.2 54 j = nI r ↔ D j = nI r := by
      rw [hd j (by omega)]
      unfold g_D
      by_cases c : D j = -9 ∧ ∃ w, w < j ∧ D w = nI r ∧ s_eg s b w j
      · rw [fg_if_1 c, c.1]
        exact ⟨fun q => by have := (n_eq (by omega) (by omega)).mp q; omega, fun q => absurd q.symm (n_i9 (by omega))⟩
      · rw [fg_if_0 c]
    rw [h.1.2.2.1, fg_if_0 (fun q => by have := (n_le (a := sC s 2) (b := j) (by omega) (by omega)).mp q; omega), fg_g_1 ((n_vp (by omega)).mpr (by omega)), q_nIx (by omega), n_p1, n_p1, fg_if_c e54]
    by_cases c : D j = nI r
    · obtain ⟨T2, f1, f2, f3⟩ := ri_goFrom (b := b) h v vd vx hr (show j < 12 by omega) hd
      obtain ⟨T3, g1, g2, g3⟩ := ih (j + 1) N T2 (by omega) (by omega) (RA_fr h f2 (by decide)) (r_d_c f3 (fun u _ => by
        constructor
        · rintro (⟨w, w1, w2, w3⟩ | q)
          · exact ⟨w, by omega, w2, w3⟩
          · exact ⟨j, by omega, c, q⟩
        · rintro ⟨w, w1, w2, w3⟩
          by_cases e : w = j
          · rw [e] at w3; exact Or.inr w3
          · exact Or.inl ⟨w, by omega, w2, w3⟩))
      rw [fg_if_1 c, f1, fg_b_1]
      exact ⟨T3, g1, r_frt f2 g2, g3⟩
    · rw [fg_if_0 c]
      exact ih (j + 1) N T (by omega) (by omega) h (r_d_c hd (fun u _ => by
        constructor
        · rintro ⟨w, w1, w2, w3⟩; exact ⟨w, by omega, w2, w3⟩
        · rintro ⟨w, w1, w2, w3⟩
          by_cases e : w = j
          · rw [e] at w2; exact absurd w2 c
          · exact ⟨w, by omega, w2, w3⟩))
theorem ri_laySteps_35 {f : Nat} (v : ivc s) (vd : ivd s) (vx : ivx s) : ∀ (d r N : Nat) (T : r_T), r + d = sC s 2 → d < N → RA T s → (∀ u, u < sC s 2 → T.2 54 u = s_dd s b f r u) → ∃ T3, fn_X12_laySteps_35 N b (nI r) T = some ((), T3) ∧ r_fr [54] T T3 ∧ ∀ u, u < sC s 2 → T3.2 54 u = s_dd s b f (sC s 2) u := by
  have v2 := v.2.2.1
  intro d
  induction d with
  | zero =>
    intro r N T hr hN h hd
    obtain ⟨N, rfl⟩ : ∃ m, N = m + 1 := ⟨N - 1, by omega⟩
    have ej : r = sC s 2 := by omega
    refine ⟨T, ?_, r_fr0, by rw [ej] at hd; exact hd⟩
    show fn_X12_laySteps_35b _ _ _ _ = _
    unfold fn_X12_laySteps_35b
    rw [h.1.2.2.1, fg_if_1 ((n_le (by omega) (by omega)).mpr (by omega))]
  | succ d ih =>
    intro r N T hr hN h hd
    obtain ⟨N, rfl⟩ : ∃ m, N = m + 1 := ⟨N - 1, by omega⟩
    obtain ⟨T2, f1, f2, f3⟩ := ri_laySteps_46 (b := b) (D := s_dd s b f r) v vd vx (show r ≤ 100 by omega) (K := fn_X12_laySteps_35 N) (sC s 2) 0 g_N T (by omega) (by have := g_N_le; omega) h (fun u hu => by
      rw [hd u hu]
      unfold g_D
      rw [fg_if_0 (fun q => by obtain ⟨_, w, w1, _⟩ := q; omega)])
    obtain ⟨T3, g1, g2, g3⟩ := ih (r + 1) N T2 (by omega) (by omega) (RA_fr h f2 (by decide)) (fun u hu => f3 u hu)
    refine ⟨T3, ?_, r_frt f2 g2, g3⟩
    show fn_X12_laySteps_35b (fn_X12_laySteps_35 N) _ _ _ = _
    unfold fn_X12_laySteps_35b
    rw [h.1.2.2.1, fg_if_0 (fun q => by have := (n_le (a := sC s 2) (b := r) (by omega) (by omega)).mp q; omega)]
    exact f1.trans g1
theorem ri_laySteps_2 {f : Nat} (v : ivc s) (vd : ivd s) (vx : ivx s) (hf : f < sC s 2) : ∀ (d j N : Nat) (T : r_T), j + d = sC s 2 → d < N → RA T s → (∀ u, u < j → T.2 54 u = s_dd s b f 0 u) → ∃ T3, fn_X12_laySteps_2 N (nI f) b (nI j) T = some ((), T3) ∧ r_fr [54] T T3 ∧ ∀ u, u < sC s 2 → T3.2 54 u = s_dd s b f (sC s 2) u := by
  have v2 := v.2.2.1
  intro d
  induction d with
  | zero =>
    intro j N T hj hN h hd
    obtain ⟨N, rfl⟩ : ∃ m, N = m + 1 := ⟨N - 1, by omega⟩
    show ∃ T3, fn_X12_laySteps_2b _ _ _ _ _ = _ ∧ _
    unfold fn_X12_laySteps_2b
    rw [h.1.2.2.1, fg_if_1 ((n_le (by omega) (by omega)).mpr (by omega))]
    exact ri_laySteps_35 v vd vx (sC s 2) 0 g_N T (by omega) (by have := g_N_le; omega) h (fun u hu => hd u (by omega))
  | succ d ih =>
    intro j N T hj hN h hd
    obtain ⟨N, rfl⟩ : ∃ m, N = m + 1 := ⟨N - 1, by omega⟩
    have g1 : vp_in (nI j) 12 := (n_vp (by omega)).mpr (by omega)
    have st : ∀ x : Int32, s_dd s b f 0 j = x → ∃ T3, fn_X12_laySteps_26 (fn_X12_laySteps_2 N) (nI f) b (nI j) x (nI j) T = some ((), T3) ∧ r_fr [54] T T3 ∧ ∀ u, u < sC s 2 → T3.2 54 u = s_dd s b f (sC s 2) u := by
      intro x hx
      have f0 : r_fr [54] T (rt_A T 54 j x) := r_frA (by decide)
      obtain ⟨T3, g2, g3, g4⟩ := ih (j + 1) N (rt_A T 54 j x) (by omega) (by omega) (RA_fr h f0 (by decide)) (fun u hu => by
        rw [rt_AA, if_pos rfl]
        by_cases e : u = j
        · rw [if_pos e, e, hx]
        · rw [if_neg e]; exact hd u (by omega))
      refine ⟨T3, ?_, r_frt f0 g3, g4⟩
      unfold fn_X12_laySteps_26
      rw [fg_g_1 g1, q_nIx (by omega), fg_let_1, n_p1]
      exact g2
    show ∃ T3, fn_X12_laySteps_2b (fn_X12_laySteps_2 N) _ _ _ _ = _ ∧ _
    unfold fn_X12_laySteps_2b
    rw [h.1.2.2.1, fg_if_0 (fun q => by have := (n_le (a := sC s 2) (b := j) (by omega) (by omega)).mp q; omega)]
    by_cases c : j = f
    · rw [fg_if_1 (by rw [c])]
      exact st 0 (by show (if j = f then (0 : Int32) else -9) = 0; rw [if_pos c])
    · rw [fg_if_0 (fun q => c ((n_eq (by omega) (by omega)).mp q))]
      exact st (-9) (by show (if j = f then (0 : Int32) else -9) = -9; rw [if_neg c])
theorem ri_laySteps {f : Nat} (h : RA T s) (v : ivc s) (vd : ivd s) (vx : ivx s) (hf : f < sC s 2) : ∃ T3, fn_X12_laySteps (nI f) b T = some ((), T3) ∧ RA T3 s ∧ ∀ u, u < sC s 2 → T3.2 54 u = s_dd s b f (sC s 2) u := by
  have v2 := v.2.2.1
  obtain ⟨T3, f1, f2, f3⟩ := ri_laySteps_2 (b := b) v vd vx hf (sC s 2) 0 g_N T (by omega) (by have := g_N_le; omega) h (fun u hu => absurd hu (Nat.not_lt_zero _))
  exact ⟨T3, f1, RA_fr h f2 (by decide), f3⟩
theorem rs_quotes (h : RA t s) (v : ivc s) (vd : ivd s) (vx : ivx s) (w u : Int32) : ∃ t2, fn_X12_quotes w u t = some ((s_quotes s w u).1, t2) ∧ RA t2 (s_quotes s w u).2 := by
  have v2 := v.2.2.1
  unfold fn_X12_quotes s_quotes
  rw [ri_noWriting h v, fg_b_1, q_bn_if]
  by_cases c1 : q_in w (sC s 2)
  · rw [fg_if_1 c1, ri_noWriting h v, fg_b_1, q_bn_if]
    by_cases c2 : q_in u (sC s 2)
    · obtain ⟨e1, l1⟩ := n_in c1
      obtain ⟨e2, l2⟩ := n_in c2
      obtain ⟨T3, f1, f2, f3⟩ := ri_laySteps (b := 0) h v vd vx l1
      rw [← e1] at f1
      have g1 : vp_in u 12 := by rw [e2]; exact (n_vp (by omega)).mpr (by omega)
      rw [fg_if_1 c2, f1, fg_b_1, fg_g_1 g1, f3 _ l2, fg_if_1 ⟨c1, c2⟩]
      exact ⟨T3, rfl, f2⟩
    · rw [fg_if_0 c2, fg_if_0 (fun q => c2 q.2)]
      exact ⟨t, rfl, h⟩
  · rw [fg_if_0 c1, fg_if_0 (fun q => c1 q.1)]
    exact ⟨t, rfl, h⟩
theorem rs_live (h : RA t s) (v : ivc s) (v0 : sC s 0 < 512) (vp : ivp s) (vx : ivx s) (vr : ivr s) (vd : ivd s) (w a o b n : Int32) : ∃ t2, fn_X12_live w a o b n t = some ((s_live s w a o b n).1, t2) ∧ RA t2 (s_live s w a o b n).2 := by
  have v2 := v.2.2.1
  unfold fn_X12_live s_live
  have eno : ∀ T, RA T s → ¬ (s_ahd s w a ∧ q_in o (sC s 2)) → ∀ X : Int32 × sA, ∃ t2, some ((-1 : Int32), T) = some ((fg_if (s_ahd s w a ∧ q_in o (sC s 2)) X ((-1 : Int32), s)).1, t2) ∧ RA t2 (fg_if (s_ahd s w a ∧ q_in o (sC s 2)) X ((-1 : Int32), s)).2 := by
    intro T hT c X
    simp only [fg_if_0 c]
    exact ⟨T, rfl, hT⟩
  rw [ri_noWriting h v, fg_b_1, q_bn_if]
  by_cases c1 : q_in w (sC s 2)
  · rw [fg_if_1 c1, ri_noWriting h v, fg_b_1, q_bn_if]
    by_cases c2 : q_in o (sC s 2)
    · obtain ⟨e1, l1⟩ := n_in c1
      obtain ⟨T1, a1, a2⟩ := ri_noPlaceAhead h v vp (w := h_ix w) (by omega) a
      rw [← e1] at a1
      rw [fg_if_1 c2, a1, fg_b_1, q_bn_if]
      by_cases c3 : q_in a ((s_SH s w).length + 1)
      · have c : s_ahd s w a ∧ q_in o (sC s 2) := ⟨⟨c1, c3⟩, c2⟩
        have ew : fn_X12_isWindow b n T1 = some (q_b (q_in b 500 ∧ 1 ≤ n ∧ n ≤ 500), T1) := by
          unfold fn_X12_isWindow
          have en : ((1 : Int64) ≤ n.toInt64 ∧ n.toInt64 ≤ 500) ↔ (1 ≤ n ∧ n ≤ 500) := q_c64 n 1 500 (by decide) (by decide)
          rw [ri_inC b 499 (n := 500) rfl, fg_b_1, q_b_if, ri_in, q_bc en, fg_b_1, q_b_if]
          by_cases d1 : q_in b 500
          · rw [fg_if_1 d1]
            by_cases d2 : 1 ≤ n ∧ n ≤ 500
            · rw [fg_if_1 d2, q_b1 ⟨d1, d2⟩]
            · rw [fg_if_0 d2, q_b0 (fun q => d2 q.2)]
          · rw [fg_if_0 d1, q_b0 (fun q => d1 q.1)]
        rw [fg_if_1 c3, ew, fg_b_1, q_b_if]
        simp only [fg_if_1 c]
        by_cases c5 : q_in b 500 ∧ 1 ≤ n ∧ n ≤ 500
        · simp only [fg_if_1 c5]
          obtain ⟨e2, l2⟩ := n_in c2
          obtain ⟨e3, l3⟩ := n_in (n := (s_SH s w).length + 1) c3
          obtain ⟨e5, l5⟩ := n_in (n := 500) c5.1
          have hS : (s_SH s w).length ≤ 300 := s_sh_300 _ _ _ _
          have g1 : vp_in w 12 := by rw [e1]; exact (n_vp (by omega)).mpr (by omega)
          have hy := ri_whyOf a2 v vr (sF s 9 (h_ix w)) 1 (w := h_ix o) (m := sC s 0) (by omega) (by omega)
          rw [← e2] at hy
          rw [fg_g_1 g1, a2.2.1 9 rfl, a2.1.1, hy, fg_b_1]
          unfold s_qt
          by_cases c6 : s_whyOf s (sF s 9 (h_ix w)) o 1 (nI (sC s 0)) = -9
          · have c7 : ¬ ¬ s_whyOf s (sF s 9 (h_ix w)) o 1 (nI (sC s 0)) = -9 := fun q => q c6
            simp only [fg_if_1 c6, fg_if_0 c7]
            exact ⟨T1, rfl, a2⟩
          · simp only [fg_if_0 c6, fg_if_1 c6]
            obtain ⟨T3, f1, f2, f3⟩ := ri_laySteps (b := 1) a2 v vd vx l2
            rw [← e2] at f1
            have e9 : s_dd s 1 (h_ix o) (sC s 2) (h_ix w) < 0 ↔ s_dd s 1 (h_ix o) (sC s 2) (h_ix w) = -9 := by
              rcases s_dd_v (s := s) (b := 1) (f := h_ix o) (sC s 2) (h_ix w) (by omega) with q | ⟨i, i1, i2, _⟩
              · rw [q]; decide
              · rw [i2]; exact ⟨fun q => absurd q (n_neg (by omega)), fun q => absurd q (n_i9 (by omega))⟩
            rw [f1, fg_b_1, fg_g_1 g1, f3 _ l1, fg_if_c e9, fg_g_1 g1]
            by_cases c8 : s_dd s 1 (h_ix o) (sC s 2) (h_ix w) = -9
            · simp only [fg_if_1 c8]
              have n1 := c5.2.1
              have n2 := c5.2.2
              rw [Int32.le_iff_toInt_le] at n1 n2
              have q1 : (1 : Int32).toInt = 1 := rfl
              have q5 : (500 : Int32).toInt = 500 := rfl
              have e6 := n_of (x := n) (by omega)
              have e7 := q_ix (x := n) (by omega)
              have hp : s_pk s ((3, b, n, o, -9) : sP) := ⟨⟨⟨3, by omega, rfl⟩, ⟨h_ix n, by omega, by omega, e6⟩, ⟨h_ix b, by omega, e5⟩, fun _ => ⟨h_ix o, l2, e2⟩, fun q => absurd q (by show ¬ (3 : Int32) = 2; decide)⟩, fun q => absurd q (by show ¬ (3 : Int32) < 2; decide)⟩
              have := ri_brings f2 v v0 vp vx (w := h_ix w) (a := h_ix a) (by omega) (by omega) hp
              rw [← e1, ← e3] at this
              exact this
            · simp only [fg_if_0 c8]
              exact ⟨T3, rfl, f2⟩
        · simp only [fg_if_0 c5]
          exact ⟨T1, rfl, a2⟩
      · rw [fg_if_0 c3]
        exact eno _ a2 (fun q => c3 q.1.2) _
    · rw [fg_if_0 c2]
      exact eno _ h (fun q => c2 q.2) _
  · rw [fg_if_0 c1]
    exact eno _ h (fun q => c1 q.1.1) _
end RQv
