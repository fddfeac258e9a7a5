/-! join of the reference: pieces, the end -/
section SAd
variable {s : sA} {w : Int32}
theorem s_addC_C (j : Nat) : ∀ (L : List (List Int32 × List Int32)) (s : sA), sC (s_addC s w L) j = if j = 7 then sC s 7 + L.length else sC s j := by
  intro L
  induction L with
  | nil => intro s; by_cases e : j = 7 <;> simp [s_addC, e]
  | cons x L ih =>
    intro s
    show sC (s_addC _ w L) j = _
    rw [ih, sC_uC, sC_uC]
    by_cases e : j = 7
    · rw [if_pos e, if_pos e, if_pos rfl, List.length_cons]; omega
    · rw [if_neg e, if_neg e, if_neg e]; rfl
theorem s_addC_F (k i : Nat) : ∀ (L : List (List Int32 × List Int32)) (s : sA), sF (s_addC s w L) k i = if k = 75 ∧ sC s 7 ≤ i ∧ i < sC s 7 + L.length then w else sF s k i := by
  intro L
  induction L with
  | nil => intro s; rw [if_neg (fun q => by have := q.2.2; simp at this; omega)]; rfl
  | cons x L ih =>
    intro s
    show sF (s_addC _ w L) k i = _
    rw [ih, sC_uC, if_pos rfl, sF_uC, sF_uK, sF_uF, List.length_cons]
    by_cases e : k = 75
    · by_cases e2 : i = sC s 7
      · rw [if_neg (fun q => by omega), if_pos e, if_pos e2, if_pos (by omega)]
      · by_cases e3 : sC s 7 + 1 ≤ i ∧ i < sC s 7 + 1 + L.length
        · rw [if_pos ⟨e, e3⟩, if_pos (by omega)]
        · rw [if_neg (fun q => e3 q.2), if_pos e, if_neg e2, if_neg (by omega)]
    · rw [if_neg (fun q => e q.1), if_neg e, if_neg (fun q => e q.1)]
theorem s_addC_K (i : Nat) : ∀ (L : List (List Int32 × List Int32)) (s : sA), sK (s_addC s w L) i = if sC s 7 ≤ i ∧ i < sC s 7 + L.length then L[i - sC s 7]?.getD ([], []) else sK s i := by
  intro L
  induction L with
  | nil => intro s; rw [if_neg (fun q => by have := q.2; simp at this; omega)]; rfl
  | cons x L ih =>
    intro s
    show sK (s_addC _ w L) i = _
    rw [ih, sC_uC, if_pos rfl, sK_uC, sK_uK, List.length_cons]
    by_cases e2 : i = sC s 7
    · rw [if_neg (by omega), if_pos e2, if_pos (by omega), e2, Nat.sub_self]; rfl
    · by_cases e3 : sC s 7 + 1 ≤ i ∧ i < sC s 7 + 1 + L.length
      · rw [if_pos e3, if_pos (by omega), show i - sC s 7 = (i - (sC s 7 + 1)) + 1 by omega, List.getElem?_cons_succ]
      · rw [if_neg e3, if_neg e2, if_neg (by omega)]; rfl
theorem s_addC_o : ∀ (L : List (List Int32 × List Int32)) (s : sA), (s_addC s w L).2.1 = s.2.1 ∧ sG (s_addC s w L) = sG s ∧ sR (s_addC s w L) = sR s := by
  intro L
  induction L with
  | nil => intro s; exact ⟨rfl, rfl, rfl⟩
  | cons x L ih =>
    intro s
    obtain ⟨h1, h2, h3⟩ := ih (uC (uK (uF s 75 (sC s 7) w) (sC s 7) x) 7 (sC s 7 + 1))
    exact ⟨h1, h2, h3⟩
end SAd
section RJc
variable {t T : r_T} {s : sA} {C R A B F G J : List Int32}
/-- a new piece of the row -/
theorem ri_pj_new {K9 : Int32 → Int32 → r_T → Option (Int32 × r_T)} {acc : List sP} {y : Nat} {z : Int32} (hy : y < 3000) (hz : T.2 72 y = z) (ha : acc.length ≤ 700) (hW : acc.length < 24 → l_W T 0 acc) : ∃ T2, fn_X12_piecesOfJoined_56 K9 (nI y) 0 1 (nI acc.length) T = K9 (nI (acc.length + 1)) (nI (y + 1)) T2 ∧ r_fr l_B T T2 ∧ (acc.length < 24 → l_W T2 0 (acc ++ [(1, z, nI 1, -9, -9)]) ∧ T2.1 40 = nI (acc.length + 1)) := by
  unfold fn_X12_piecesOfJoined_56
  rw [n_p1]
  by_cases c : acc.length < 24
  · have c' : ¬ (24 : Int32) < nI (acc.length + 1) := fun w => by have := (n_lt (a := 24) (b := acc.length + 1) (by omega) (by omega)).mp w; omega
    have es := ri_setPiece (t := T) (show acc.length < 60 by omega) ((1, z, 0, -9, -9) : sP)
    obtain ⟨T1, hT1⟩ : ∃ T1, T1 = rt_F (rt_P T acc.length ((1, z, 0, -9, -9) : sP)) 40 (nI (acc.length + 1)) := ⟨_, rfl⟩
    have e43 : T1.2 43 acc.length = 0 := by rw [hT1]; show (rt_P T acc.length ((1, z, 0, -9, -9) : sP)).2 43 acc.length = 0; unfold rt_P; simp [rt_AA]
    have fr : r_fr l_B T (rt_A T1 43 acc.length 1) := by rw [hT1]; exact r_frt (r_frt (rt_P_fr _ _ _) (r_frF (by decide))) (r_frA (by decide))
    refine ⟨rt_A T1 43 acc.length 1, ?_, fr, fun _ => ⟨?_, by rw [hT1]; rfl⟩⟩
    · rw [fg_if_0 c', fg_if_1 rfl, fg_g_1 ((n_vp (by omega)).mpr (by omega)), n_m1, q_nIx (show y < 2 ^ 31 by omega), hz]
      have es' : fn_X12_setPiece (nI acc.length) 1 z 0 (-9) (-9) T = some ((), rt_P T acc.length ((1, z, 0, -9, -9) : sP)) := es
      rw [es', fg_b_1, fg_let_1, ← hT1]
      unfold fn_X12_piecesOfJoined_92
      rw [n_m1, fg_g_1 ((n_vp (by omega)).mpr (by omega)), fg_g_1 ((n_vp (by omega)).mpr (by omega)), fg_let_1, q_nIx (show acc.length < 2 ^ 31 by omega), e43, n_p1]
      rfl
    · have rw1 : ∀ i, r_w (rt_A T1 43 acc.length 1) i = if i = acc.length then ((1, z, nI 1, -9, -9) : sP) else r_w T i := fun i => by
        rw [hT1]
        unfold r_w rt_P
        by_cases e : i = acc.length
        · simp [rt_AA, rt_FA, e]; rfl
        · simp [rt_AA, rt_FA, e]
      rw [l_W_app]
      refine ⟨l_W_tr (hW c) (fun i hi => by rw [rw1, if_neg (by omega)]), ?_⟩
      rw [l_W_cons]
      exact ⟨by rw [rw1, if_pos (Nat.zero_add _)], l_W_nil⟩
  · have c' : (24 : Int32) < nI (acc.length + 1) := (n_lt (a := 24) (b := acc.length + 1) (by omega) (by omega)).mpr (by omega)
    rw [fg_if_1 c', n_p1]
    exact ⟨T, rfl, r_fr0, fun q => absurd q c⟩
/-- the last piece grows -/
theorem ri_pj_on {K9 : Int32 → Int32 → r_T → Option (Int32 × r_T)} {acc : List sP} {x : Int32} {n y : Nat} (ha : acc.length ≤ 700) (hW : acc.length < 24 → l_W T 0 (acc ++ [(1, x, nI n, -9, -9)]) ∧ T.1 40 = nI (acc.length + 1)) : ∃ T2, fn_X12_piecesOfJoined_56 K9 (nI y) 1 0 (nI (acc.length + 1)) T = K9 (nI (acc.length + 1)) (nI (y + 1)) T2 ∧ r_fr l_B T T2 ∧ (acc.length < 24 → l_W T2 0 (acc ++ [(1, x, nI (n + 1), -9, -9)]) ∧ T2.1 40 = nI (acc.length + 1)) := by
  unfold fn_X12_piecesOfJoined_56
  rw [Int32.add_zero]
  by_cases c : acc.length < 24
  · have c' : ¬ (24 : Int32) < nI (acc.length + 1) := fun w => by have := (n_lt (a := 24) (b := acc.length + 1) (by omega) (by omega)).mp w; omega
    obtain ⟨h1, h2⟩ := hW c
    rw [l_W_app, l_W_cons, Nat.zero_add] at h1
    have e43 : T.2 43 acc.length = nI n := congrArg (fun p : sP => p.2.2.1) h1.2.1
    refine ⟨rt_A T 43 acc.length (nI (n + 1)), ?_, r_frA (by decide), fun _ => ⟨?_, h2⟩⟩
    · rw [fg_if_0 c', fg_if_0 (by decide)]
      unfold fn_X12_piecesOfJoined_92
      rw [n_m1, fg_g_1 ((n_vp (by omega)).mpr (by omega)), fg_g_1 ((n_vp (by omega)).mpr (by omega)), fg_let_1, q_nIx (show acc.length < 2 ^ 31 by omega), e43, n_p1, n_p1]
    · have rw1 : ∀ i, r_w (rt_A T 43 acc.length (nI (n + 1))) i = if i = acc.length then ((1, x, nI (n + 1), -9, -9) : sP) else r_w T i := fun i => by
        by_cases e : i = acc.length
        · rw [if_pos e, e]
          have := h1.2.1
          unfold r_w at this ⊢
          injection this with a1 a2
          injection a2 with a2 a3
          injection a3 with a3 a4
          injection a4 with a4 a5
          simp [rt_AA, a1, a2, a4, a5]
        · unfold r_w
          simp [rt_AA, e]
      rw [l_W_app]
      refine ⟨l_W_tr h1.1 (fun i hi => by rw [rw1, if_neg (by omega)]), ?_⟩
      rw [l_W_cons]
      exact ⟨by rw [rw1, if_pos (Nat.zero_add _)], l_W_nil⟩
  · have c' : (24 : Int32) < nI (acc.length + 1) := (n_lt (a := 24) (b := acc.length + 1) (by omega) (by omega)).mpr (by omega)
    rw [fg_if_1 c', n_p1]
    exact ⟨T, rfl, r_fr0, fun q => absurd q c⟩
theorem ri_pj_9 (hJ : J.length ≤ 600) : ∀ (l : List Int32) (acc : List sP) (x : Int32) (n : Nat) (p : Int32) (y N : Nat) (T : r_T), J.drop (y + 1) = l → J[y]? = some p → l.length < N → acc.length ≤ y → r_in 71 72 T J → (acc.length < 24 → l_W T 0 (acc ++ [(1, x, nI n, -9, -9)]) ∧ T.1 40 = nI (acc.length + 1)) → ∃ T2, fn_X12_piecesOfJoined_9 N (nI (acc.length + 1)) (nI (y + 1)) T = some (nI (acc.length + (s_rr x n p l).length), T2) ∧ r_fr l_B T T2 ∧ (acc.length + (s_rr x n p l).length ≤ 24 → l_W T2 0 (acc ++ s_rr x n p l) ∧ T2.1 40 = nI (acc.length + (s_rr x n p l).length)) := by
  intro l
  induction l with
  | nil =>
    intro acc x n p y N T hl hp hN ha hi hW
    obtain ⟨N, rfl⟩ : ∃ m, N = m + 1 := ⟨N - 1, by have : 0 < N := hN; omega⟩
    have hy := (List.getElem?_eq_some_iff.mp hp).1
    have hy2 : J.length ≤ y + 1 := by
      rcases Nat.lt_or_ge (y + 1) J.length with w | w
      · rw [List.drop_eq_getElem_cons w] at hl; cases hl
      · exact w
    refine ⟨T, ?_, r_fr0, fun q => hW (by have : acc.length + 1 ≤ 24 := q; omega)⟩
    show fn_X12_piecesOfJoined_9b _ _ _ _ = _
    unfold fn_X12_piecesOfJoined_9b
    rw [hi.1, fg_if_1 ((n_le (by omega) (by omega)).mpr hy2)]
    rfl
  | cons z l ih =>
    intro acc x n p y N T hl hp hN ha hi hW
    rw [List.length_cons] at hN
    obtain ⟨N, rfl⟩ : ∃ m, N = m + 1 := ⟨N - 1, by omega⟩
    have hy := (List.getElem?_eq_some_iff.mp hp).1
    have hy2 : y + 1 < J.length := by
      rcases Nat.lt_or_ge (y + 1) J.length with w | w
      · exact w
      · rw [List.drop_eq_nil_of_le w] at hl; cases hl
    rw [List.drop_eq_getElem_cons hy2] at hl
    injection hl with hz hl
    have ez : J[y + 1]? = some z := by rw [List.getElem?_eq_getElem hy2, hz]
    have tz := hi.2 _ _ ez
    have tp := hi.2 _ _ hp
    have n0 : ¬ nI (y + 1) ≤ 0 := fun w => by have := (n_le (a := y + 1) (b := 0) (by omega) (by omega)).mp w; omega
    have n1 : ¬ (1 : Int32) = 0 := by decide
    show ∃ T2, fn_X12_piecesOfJoined_9b (fn_X12_piecesOfJoined_9 N) _ _ _ = _ ∧ _
    unfold fn_X12_piecesOfJoined_9b s_rr
    rw [hi.1, fg_if_0 (fun w => by have := (n_le (a := J.length) (b := y + 1) (by omega) (by omega)).mp w; omega), fg_if_0 n0, fg_g_1 ((n_vp (by omega)).mpr (by omega)), n_m1, fg_g_1 ((n_vp (by omega)).mpr (by omega)), q_nIx (show y + 1 < 2 ^ 31 by omega), q_nIx (show y < 2 ^ 31 by omega), tz, tp]
    by_cases c : z = p + 1
    · rw [fg_if_1 c]
      simp only [if_pos c]
      unfold fn_X12_piecesOfJoined_45
      rw [fg_if_0 n1]
      obtain ⟨T1, a1, a2, a3⟩ := ri_pj_on (T := T) (K9 := fn_X12_piecesOfJoined_9 N) (acc := acc) (x := x) (n := n) (y := y + 1) (by omega) hW
      obtain ⟨T2, b1, b2, b3⟩ := ih acc x (n + 1) z (y + 1) N T1 hl ez (by omega) (by omega) (r_in_fr (l := []) hi a2 (by decide) (by decide)) a3
      exact ⟨T2, a1.trans b1, r_frt a2 b2, b3⟩
    · rw [fg_if_0 c]
      simp only [if_neg c]
      unfold fn_X12_piecesOfJoined_44 fn_X12_piecesOfJoined_45
      rw [fg_if_1 rfl]
      have la : (acc ++ [((1, x, nI n, -9, -9) : sP)]).length = acc.length + 1 := by rw [List.length_append]; rfl
      obtain ⟨T1, a1, a2, a3⟩ := ri_pj_new (T := T) (K9 := fn_X12_piecesOfJoined_9 N) (acc := acc ++ [(1, x, nI n, -9, -9)]) (y := y + 1) (z := z) (by omega) tz (by omega) (fun q => (hW (by omega)).1)
      obtain ⟨T2, b1, b2, b3⟩ := ih (acc ++ [(1, x, nI n, -9, -9)]) z 1 z (y + 1) N T1 hl ez (by omega) (by omega) (r_in_fr (l := []) hi a2 (by decide) (by decide)) a3
      rw [la] at a1 b1 b3
      refine ⟨T2, a1.trans (b1.trans ?_), r_frt a2 b2, fun q => ?_⟩
      · rw [List.length_cons, show acc.length + 1 + (s_rr z 1 z l).length = acc.length + ((s_rr z 1 z l).length + 1) by omega]
      · rw [List.length_cons] at q
        obtain ⟨d1, d2⟩ := b3 (by omega)
        rw [List.append_assoc] at d1
        exact ⟨d1, by rw [d2, List.length_cons]; congr 1; omega⟩
theorem ri_pj (hJ : J.length ≤ 600) (hi : r_in 71 72 T J) : ∃ T2, fn_X12_piecesOfJoined T = some (nI (s_runs J).length, T2) ∧ r_fr l_B T T2 ∧ ((s_runs J).length ≤ 24 → l_W T2 0 (s_runs J) ∧ T2.1 40 = nI (s_runs J).length) := by
  have f0 : r_fr l_B T (rt_F T 40 0) := r_frF (by decide)
  have hi0 : r_in 71 72 (rt_F T 40 0) J := r_in_fr (l := []) hi f0 (by decide) (by decide)
  unfold fn_X12_piecesOfJoined
  rw [fg_let_1]
  obtain ⟨N, hN⟩ : ∃ m, g_N = m + 1 := ⟨g_N - 1, by have := g_N_le; omega⟩
  have hNl : 700 < N := by have := g_N_le; omega
  rw [hN]
  show ∃ T2, fn_X12_piecesOfJoined_9b (fn_X12_piecesOfJoined_9 N) _ _ _ = _ ∧ _
  unfold fn_X12_piecesOfJoined_9b
  rw [hi0.1]
  cases J with
  | nil =>
    rw [fg_if_1 (show nI ([] : List Int32).length ≤ 0 by decide)]
    exact ⟨_, rfl, f0, fun _ => ⟨l_W_nil, rfl⟩⟩
  | cons x l =>
    rw [List.length_cons] at hJ
    have n0 : ¬ nI (x :: l).length ≤ 0 := fun w => by have := (n_le (a := (x :: l).length) (b := 0) (by rw [List.length_cons]; omega) (by omega)).mp w; rw [List.length_cons] at this; omega
    rw [fg_if_0 n0, fg_if_1 (by decide)]
    unfold fn_X12_piecesOfJoined_44 fn_X12_piecesOfJoined_45
    rw [fg_if_1 rfl]
    obtain ⟨T1, a1, a2, a3⟩ := ri_pj_new (T := rt_F T 40 0) (K9 := fn_X12_piecesOfJoined_9 N) (acc := []) (y := 0) (z := x) (by omega) (hi0.2 0 x rfl) (by decide) (fun _ => l_W_nil)
    obtain ⟨T2, b1, b2, b3⟩ := ri_pj_9 (J := x :: l) (by rw [List.length_cons]; omega) l [] x 1 x 0 N T1 rfl rfl (by omega) (Nat.le_refl _) (r_in_fr (l := []) hi0 a2 (by decide) (by decide)) a3
    have ez : ([] : List sP).length + (s_rr x 1 x l).length = (s_rr x 1 x l).length := by simp
    rw [ez, List.nil_append] at b3
    rw [ez] at b1
    exact ⟨T2, a1.trans b1, r_frt f0 (r_frt a2 b2), b3⟩
/-- the end of the loop over the clashes -/
noncomputable def fj_198 (s : r_T) : Option (Int32 × r_T) :=
  fg_let (rt_F s 74 ((s.1 74) + (s.1 73))) (fun s3 =>
    fg_b (fn_X12_store (s3.1 8) s3) (fun p5 s4 =>
      fg_let (rt_F s4 8 ((s4.1 8) + (1 : Int32))) (fun s7 =>
        fg_b (fn_X12_acted ((s7.1 8) - (1 : Int32)) s7) (fun p9 s8 =>
          some (p9, s8)))))
theorem ri_join_198 {c n : Nat} (h74 : T.1 74 = nI c) (h73 : T.1 73 = nI n) (hcn : c + n ≤ 12) : ∀ (d k N : Nat) (g : Nat → Int32), k + d = c + n → d < N → fn_X12_join_198 N (nI k) (rt_Af T 75 g) = fj_198 (rt_Af T 75 (fun x => if k ≤ x ∧ x < c + n then T.1 8 else g x)) := by
  intro d
  induction d with
  | zero =>
    intro k N g hk hN
    obtain ⟨N, rfl⟩ : ∃ m, N = m + 1 := ⟨N - 1, by omega⟩
    have e : (fun x => if k ≤ x ∧ x < c + n then T.1 8 else g x) = g := by funext x; rw [if_neg (by omega)]
    rw [e]
    show fn_X12_join_198b _ _ _ = _
    unfold fn_X12_join_198b
    rw [rt_Af_F, h74, h73, n_add, fg_if_1 ((n_le (by omega) (by omega)).mpr (by omega))]
    unfold fj_198
    rw [rt_Af_F, h74, h73, n_add]
  | succ d ih =>
    intro k N g hk hN
    obtain ⟨N, rfl⟩ : ∃ m, N = m + 1 := ⟨N - 1, by omega⟩
    show fn_X12_join_198b (fn_X12_join_198 N) _ _ = _
    unfold fn_X12_join_198b
    rw [rt_Af_F, h74, h73, n_add, fg_if_0 (fun w => by have := (n_le (a := c + n) (b := k) (by omega) (by omega)).mp w; omega), fg_g_1 ((n_vp (by omega)).mpr (by omega)), fg_let_1, q_nIx (by omega), rt_A_Af, n_p1, ih (k + 1) N _ (by omega) (by omega)]
    congr 2
    funext x
    by_cases e : x = k
    · rw [if_neg (by omega), if_pos e, if_pos (by omega)]
    · by_cases e2 : k + 1 ≤ x ∧ x < c + n
      · rw [if_pos e2, if_pos (by omega)]
      · rw [if_neg e2, if_neg e, if_neg (by omega)]
end RJc
