/-! join of the reference -/
section RJd
variable {t T T2 : r_T} {s : sA} {C R A B F G J : List Int32}
theorem RA_jn (h : RA T s) (vK : ivK s) (f : r_fr l_J T T2) (kl : r_kl (sC s 7) T T2) : RA T2 s := by
  obtain ⟨h1, h2, h3, h4, h5, h6⟩ := h
  have e1 : ∀ k, k ∉ l_J → T2.1 k = T.1 k := f.1
  have e2 : ∀ k, k ∉ l_J → T2.2 k = T.2 k := f.2
  refine ⟨?_, fun k hk i => ?_, ?_, ?_, ?_, fun c hc => ?_⟩
  · unfold RN at *
    rw [e1 1 (by decide), e1 3 (by decide), e1 8 (by decide), e1 22 (by decide), e1 55 (by decide), e1 80 (by decide), e1 89 (by decide), e1 74 (by decide), e1 105 (by decide), e1 0 (by decide), e1 114 (by decide), e1 102 (by decide), e1 103 (by decide)]
    exact h1
  · have hd : ∀ x, x ∈ ([2, 9, 23, 24, 25, 26, 27, 56, 57, 58, 59, 75, 78, 81, 82, 83, 84, 85, 86, 90, 91, 92, 93, 94, 95, 96, 97, 104, 110, 111, 112] : List Nat) → x ∉ l_J := by decide
    rw [e2 k (hd k (List.contains_iff_mem.mp hk))]
    exact h2 k hk i
  · unfold RH at *
    rw [e2 106 (by decide), e2 107 (by decide), e2 108 (by decide)]
    exact h3
  · exact RG_c h4 rfl (Nat.le_refl _) (e1 4 (by decide)) (e2 5 (by decide)) (e2 6 (by decide)) (e2 7 (by decide))
  · exact RW_c h5 rfl (Nat.le_refl _) (e1 10 (by decide)) (e1 16 (by decide)) (e2 11 (by decide)) (e2 12 (by decide)) (e2 13 (by decide)) (e2 14 (by decide)) (e2 15 (by decide)) (e2 17 (by decide)) (e2 18 (by decide)) (e2 19 (by decide)) (e2 20 (by decide)) (e2 21 (by decide))
  · obtain ⟨a1, a2, a3⟩ := h6 c hc
    obtain ⟨b1, b2⟩ := kl.1 c hc
    obtain ⟨_, _, _, l1, l2, _⟩ := vK c hc
    refine ⟨b1.trans a1, b2.trans a2, fun j x hx => ?_⟩
    have hj := (List.getElem?_eq_some_iff.mp hx).1
    rw [List.length_append] at hj
    rw [kl.2 _ (by omega)]
    exact a3 j x hx
def l_N : List Nat := [1, 2, 8, 9, 74, 75, 10, 11, 12, 13, 14, 15, 16, 17, 18, 19, 20, 21]
theorem rs_join_end (h : RA T s) (v : ivc s) (v0 : sC s 0 < 512) (hw : sC s 2 < 12) {l : List sP} {L : List (List Int32 × List Int32)} (hl : l.length ≤ 24) (h40 : T.1 40 = nI l.length) (hW : l_W T 0 l) (kc : r_kc T (sC s 7) L) (hL : sC s 7 + L.length ≤ 12) (own : Int32) : ∃ t2, fn_X12_join_198 g_N ((rt_A T 9 (sC s 2) own).1 74) (rt_A T 9 (sC s 2) own) = some (nI (sC s 2), t2) ∧ RA t2 (s_act (s_addC (s_new (s_beg s own) (nI (sC s 2)) l) (nI (sC s 2)) L) (nI (sC s 2))) := by
  obtain ⟨h1, h2, h3, h4, h5, h6⟩ := h
  obtain ⟨T1, hT1⟩ : ∃ T1, T1 = rt_A T 9 (sC s 2) own := ⟨_, rfl⟩
  have a74 : T1.1 74 = nI (sC s 7) := by rw [hT1]; exact kc.1
  have a73 : T1.1 73 = nI L.length := by rw [hT1]; exact kc.2.1
  have a8 : T1.1 8 = nI (sC s 2) := by rw [hT1]; exact h1.2.2.1
  obtain ⟨S2, hS2⟩ : ∃ S2, S2 = rt_Af T1 75 (fun x => if sC s 7 ≤ x ∧ x < sC s 7 + L.length then T1.1 8 else T1.2 75 x) := ⟨_, rfl⟩
  have e198 := ri_join_198 a74 a73 hL L.length (sC s 7) g_N (T1.2 75) rfl (by have := g_N_le; omega)
  rw [rt_Af_self, ← hS2] at e198
  obtain ⟨T3, hT3⟩ : ∃ T3, T3 = rt_F S2 74 (nI (sC s 7 + L.length)) := ⟨_, rfl⟩
  have f3 : r_fr [9, 74, 75] T T3 := by
    have f1 : r_fr [9, 74, 75] T T1 := by rw [hT1]; exact r_frA (by decide)
    have f2 : r_fr [9, 74, 75] T1 S2 := by
      rw [hS2]
      refine ⟨fun k _ => rfl, fun k hk => ?_⟩
      rw [rt_Af_A, if_neg (fun e => hk (by rw [e]; decide))]
    have f3' : r_fr [9, 74, 75] S2 T3 := by rw [hT3]; exact r_frF (by decide)
    exact r_frt f1 (r_frt f2 f3')
  have x9 : ∀ i, T3.2 9 i = if i = sC s 2 then own else T.2 9 i := fun i => by
    rw [hT3, rt_FA, hS2, rt_Af_A, if_neg (by decide), hT1, rt_AA, if_pos rfl]
  have x75 : ∀ i, T3.2 75 i = if sC s 7 ≤ i ∧ i < sC s 7 + L.length then nI (sC s 2) else T.2 75 i := fun i => by
    rw [hT3, rt_FA, hS2, rt_Af_A, if_pos rfl, a8]
    have : T1.2 75 i = T.2 75 i := by rw [hT1, rt_AA, if_neg (by decide)]
    rw [this]
  have RW3 : RW T3 s := RW_c h5 rfl (Nat.le_refl _) (f3.1 10 (by decide)) (f3.1 16 (by decide)) (f3.2 11 (by decide)) (f3.2 12 (by decide)) (f3.2 13 (by decide)) (f3.2 14 (by decide)) (f3.2 15 (by decide)) (f3.2 17 (by decide)) (f3.2 18 (by decide)) (f3.2 19 (by decide)) (f3.2 20 (by decide)) (f3.2 21 (by decide))
  obtain ⟨T4, b1, b2, _⟩ := ri_store (t := T3) (s := s) (l := l) hw RW3 (by rw [f3.1 1 (by decide)]; exact h1.1) v0 (by omega) (by rw [f3.1 40 (by decide)]; exact h40) (l_W_tr hW (fun i _ => by
    unfold r_w
    rw [f3.2 41 (by decide), f3.2 42 (by decide), f3.2 43 (by decide), f3.2 44 (by decide), f3.2 45 (by decide)]))
  obtain ⟨f4, W4⟩ := b2 hl
  have g8 : T4.1 8 = nI (sC s 2) := by rw [f4.1 8 (by decide), f3.1 8 (by decide)]; exact h1.2.2.1
  have g1 : T4.1 1 = nI (sC s 0) := by rw [f4.1 1 (by decide), f3.1 1 (by decide)]; exact h1.1
  have g2 : T4.2 2 = T.2 2 := by rw [f4.2 2 (by decide), f3.2 2 (by decide)]
  obtain ⟨T5, hT5⟩ : ∃ T5, T5 = rt_F T4 8 (nI (sC s 2 + 1)) := ⟨_, rfl⟩
  have i1 : T5.1 1 = nI (sC s 0) := by rw [hT5]; exact g1
  have i2 : T5.2 2 (sC s 0) = sF s 2 (sC s 0) := by
    have : T5.2 2 = T.2 2 := by rw [hT5]; exact g2
    rw [this]; exact h2 2 rfl _
  obtain ⟨T6, hT6⟩ : ∃ T6, T6 = rt_A (rt_F T5 1 (nI (sC s 0 + 1))) 2 (sC s 0 + 1) (q_mix (sF s 2 (sC s 0)) (nI (sC s 2))) := ⟨_, rfl⟩
  have ea : fn_X12_acted (nI (sC s 2)) T5 = some (nI (sC s 2), T6) := by
    rw [hT6]
    unfold fn_X12_acted
    simp only [fg_let_1, rt_FF, if_true, i1, n_p1, n_m1, rt_FA, ri_mix, fg_b_1]
    rw [fg_g_1 ((n_vp (by omega)).mpr (by omega)), fg_g_1 ((n_vp (by omega)).mpr (by omega)), q_nIx (by omega), q_nIx (by omega), i2]
  have f6 : r_fr [1, 2, 8] T4 T6 := by rw [hT6, hT5]; exact r_frt (r_frF (by decide)) (r_frt (r_frF (by decide)) (r_frA (by decide)))
  have fN : r_fr l_N T T6 := r_frt (r_frS f3 (by decide)) (r_frt (r_frS f4 (by decide)) (r_frS f6 (by decide)))
  refine ⟨T6, ?_, ?_⟩
  · rw [← hT1, a74, e198]
    unfold fj_198
    have s74 : S2.1 74 = nI (sC s 7) := by rw [hS2]; exact a74
    have s73 : S2.1 73 = nI L.length := by rw [hS2]; exact a73
    have t8 : T3.1 8 = nI (sC s 2) := by rw [f3.1 8 (by decide)]; exact h1.2.2.1
    rw [fg_let_1, s74, s73, n_add, ← hT3, t8, b1, fg_b_1, fg_let_1, g8, n_p1, ← hT5]
    have t58 : T5.1 8 = nI (sC s 2 + 1) := by rw [hT5]; rfl
    rw [t58, n_m1, ea, fg_b_1]
  · obtain ⟨S, hS⟩ : ∃ S, S = s_addC (s_new (s_beg s own) (nI (sC s 2)) l) (nI (sC s 2)) L := ⟨_, rfl⟩
    rw [← hS]
    have c7 : sC (s_new (s_beg s own) (nI (sC s 2)) l) 7 = sC s 7 := rfl
    have hC : ∀ j, sC S j = if j = 7 then sC s 7 + L.length else if j = 2 then sC s 2 + 1 else sC s j := fun j => by
      rw [hS, s_addC_C, c7]; rfl
    have h00 : sC S 0 = sC s 0 := by rw [hC 0, if_neg (by decide), if_neg (by decide)]
    have hC' : ∀ j, sC (s_act S (nI (sC s 2))) j = if j = 0 then sC s 0 + 1 else if j = 7 then sC s 7 + L.length else if j = 2 then sC s 2 + 1 else sC s j := fun j => by
      show (if j = 0 then sC S 0 + 1 else sC S j) = _
      rw [h00, hC j]
    have hN : ∀ j, sN (s_act S (nI (sC s 2))) j = sN s j := fun j => by
      show S.2.1 j = _
      rw [hS, (s_addC_o L _).1]; rfl
    have hG : sG (s_act S (nI (sC s 2))) = sG s := by
      show sG S = _
      rw [hS, (s_addC_o L _).2.1]; rfl
    have hR : sR (s_act S (nI (sC s 2))) = sR (uR s (sC s 2) (sC s 0 + 1) l) := by
      show sR S = _
      rw [hS, (s_addC_o L _).2.2]
      unfold s_new
      rw [q_nIx (by omega)]
      rfl
    have hFS : ∀ k i, sF S k i = if k = 75 ∧ sC s 7 ≤ i ∧ i < sC s 7 + L.length then nI (sC s 2) else if k = 9 ∧ i = sC s 2 then own else sF s k i := fun k i => by
      rw [hS, s_addC_F, c7]
      congr 1
      show sF (uF s 9 (sC s 2) own) k i = _
      rw [sF_uF]
      by_cases e : k = 9
      · by_cases e2 : i = sC s 2
        · rw [if_pos e, if_pos e2, if_pos ⟨e, e2⟩]
        · rw [if_pos e, if_neg e2, if_neg (fun q => e2 q.2)]
      · rw [if_neg e, if_neg (fun q => e q.1)]
    have hF : ∀ k i, sF (s_act S (nI (sC s 2))) k i = if k = 2 then (if i = sC s 0 + 1 then q_mix (sF s 2 (sC s 0)) (nI (sC s 2)) else sF s 2 i) else sF S k i := fun k i => by
      show sF (uF (uC S 0 (sC S 0 + 1)) 2 (sC S 0 + 1) (q_mix (sF S 2 (sC S 0)) (nI (sC s 2)))) k i = _
      rw [sF_uF, sF_uC, h00]
      by_cases e : k = 2
      · rw [if_pos e, if_pos e, e]
        have e2 : ∀ i, sF S 2 i = sF s 2 i := fun i => by rw [hFS, if_neg (by omega), if_neg (by omega)]
        rw [e2, e2]
      · rw [if_neg e, if_neg e]
    refine ⟨?_, fun k hk i => ?_, fun i hi => ?_, ?_, ?_, fun c hc => ?_⟩
    · unfold RN at *
      obtain ⟨n1, n2, n3, n4, n5, n6, n7, n8, n9, n10, n11, n12, n13⟩ := h1
      simp only [hC', hN]
      refine ⟨?_, ?_, ?_, ?_, ?_, ?_, ?_, ?_, ?_, ?_, ?_, ?_, ?_⟩
      · rw [hT6]; rfl
      · rw [fN.1 3 (by decide)]; exact n2
      · rw [hT6, hT5]; rfl
      · rw [fN.1 22 (by decide)]; exact n4
      · rw [fN.1 55 (by decide)]; exact n5
      · rw [fN.1 80 (by decide)]; exact n6
      · rw [fN.1 89 (by decide)]; exact n7
      · rw [f6.1 74 (by decide), f4.1 74 (by decide), hT3]; rfl
      · rw [fN.1 105 (by decide)]; exact n9
      · rw [fN.1 0 (by decide)]; exact n10
      · rw [fN.1 114 (by decide)]; exact n11
      · rw [fN.1 102 (by decide)]; exact n12
      · rw [fN.1 103 (by decide)]; exact n13
    · rw [hF]
      by_cases e2 : k = 2
      · rw [if_pos e2, e2, hT6, rt_AA, if_pos rfl]
        have : (rt_F T5 1 (nI (sC s 0 + 1))).2 2 i = sF s 2 i := by
          show T5.2 2 i = _
          rw [hT5]
          show T4.2 2 i = _
          rw [g2]; exact h2 2 rfl i
        rw [this]
      · rw [if_neg e2, hFS]
        by_cases e9 : k = 9
        · rw [if_neg (by omega), e9, f6.2 9 (by decide), f4.2 9 (by decide), x9]
          by_cases e : i = sC s 2
          · rw [if_pos e, if_pos ⟨rfl, e⟩]
          · rw [if_neg e, if_neg (fun q => e q.2)]; exact h2 9 rfl i
        · by_cases e75 : k = 75
          · rw [e75, f6.2 75 (by decide), f4.2 75 (by decide), x75]
            by_cases e : sC s 7 ≤ i ∧ i < sC s 7 + L.length
            · rw [if_pos e, if_pos ⟨rfl, e⟩]
            · rw [if_neg e, if_neg (fun q => e q.2), if_neg (by omega)]; exact h2 75 rfl i
          · have hd : ∀ x, x ∈ ([2, 9, 23, 24, 25, 26, 27, 56, 57, 58, 59, 75, 78, 81, 82, 83, 84, 85, 86, 90, 91, 92, 93, 94, 95, 96, 97, 104, 110, 111, 112] : List Nat) → x = 2 ∨ x = 9 ∨ x = 75 ∨ x ∉ l_N := by decide
            have nk : k ∉ l_N := by
              rcases hd k (List.contains_iff_mem.mp hk) with w | w | w | w
              · exact absurd w e2
              · exact absurd w e9
              · exact absurd w e75
              · exact w
            rw [if_neg (fun q => e75 q.1), if_neg (fun q => e9 q.1), fN.2 k nk]
            exact h2 k hk i
    · rw [hC', if_neg (by decide), if_neg (by decide), if_neg (by decide)] at hi
      have ef : ∀ k, k = 106 ∨ k = 107 ∨ k = 108 → sF (s_act S (nI (sC s 2))) k i = sF s k i := fun k hk => by rw [hF, if_neg (by omega), hFS, if_neg (by omega), if_neg (by omega)]
      rw [ef 106 (by simp), ef 107 (by simp), ef 108 (by simp), fN.2 106 (by decide), fN.2 107 (by decide), fN.2 108 (by decide)]
      exact h3 i hi
    · exact RG_c h4 hG (by rw [hC', if_pos rfl]; omega) (fN.1 4 (by decide)) (fN.2 5 (by decide)) (fN.2 6 (by decide)) (fN.2 7 (by decide))
    · refine RW_c W4 hR ?_ (f6.1 10 (by decide)) (f6.1 16 (by decide)) (f6.2 11 (by decide)) (f6.2 12 (by decide)) (f6.2 13 (by decide)) (f6.2 14 (by decide)) (f6.2 15 (by decide)) (f6.2 17 (by decide)) (f6.2 18 (by decide)) (f6.2 19 (by decide)) (f6.2 20 (by decide)) (f6.2 21 (by decide))
      rw [hC', if_pos rfl]
      exact Nat.le_refl _
    · rw [hC', if_neg (by decide), if_pos rfl] at hc
      have hK : sK (s_act S (nI (sC s 2))) c = if sC s 7 ≤ c ∧ c < sC s 7 + L.length then L[c - sC s 7]?.getD ([], []) else sK s c := by
        show sK S c = _
        rw [hS, s_addC_K, c7]
        rfl
      rw [hK, fN.2 76 (by decide), fN.2 77 (by decide), fN.2 79 (by decide)]
      by_cases e : sC s 7 ≤ c ∧ c < sC s 7 + L.length
      · rw [if_pos e]
        have hi : c - sC s 7 < L.length := by omega
        have hg := List.getElem?_eq_getElem hi
        obtain ⟨_, k1, k2, k3⟩ := kc.2.2 (c - sC s 7) L[c - sC s 7].1 L[c - sC s 7].2 hg (by omega)
        rw [show sC s 7 + (c - sC s 7) = c by omega] at k1 k2 k3
        rw [hg]
        exact ⟨k1, k2, k3⟩
      · rw [if_neg e]
        exact h6 c (by omega)
theorem s_jC_l (x : Int32) : (s_jC s x).length ≤ 300 := by
  have := s_kp_len 0 (s_vs s (h_ix x))
  have := s_vs_300 (s := s) (h_ix x)
  unfold s_jC
  omega
theorem s_jC_wd (v : ivc s) (vx : ivx s) (x : Int32) : j_wd (s_jC s x) := by
  have v3 := v.2.2.2.1
  intro y hy
  have hm := List.mem_of_getElem? (w_c_in hy)
  unfold s_jC s_kp at hm
  rw [if_pos rfl] at hm
  obtain ⟨m1, m2⟩ := List.mem_filter.mp hm
  rcases s_vs_w vx m1 with e | ⟨z, hz, e⟩
  · rw [e] at m2; exact absurd m2 (by decide)
  · exact ⟨z, by omega, e⟩
theorem s_jrow_l (v u c : Int32) : (s_jrow s v u c).length ≤ 600 := by
  have h1 := s_jC_l (s := s) v
  have h2 := s_jC_l (s := s) u
  have := j_row_len (C := s_jC s c) (A := s_jC s v) (B := s_jC s u) ((s_jC s c).length + 1) 0
  unfold s_jrow
  omega
theorem rs_join (h : RA t s) (v : ivc s) (v0 : sC s 0 < 512) (vp : ivp s) (vv : ivv s) (vx : ivx s) (vK : ivK s) (a b c : Int32) : ∃ t2, fn_X12_join a b c t = some ((s_join s a b c).1, t2) ∧ RA t2 (s_join s a b c).2 := by
  have v2 := v.2.2.1
  have v4 := v.2.2.2.2.1
  have v7 := v.2.2.2.2.2.2.2.1
  unfold fn_X12_join s_join
  rw [ri_noVersion h v, fg_b_1, q_bn_if]
  by_cases c1 : q_in a (sC s 4)
  · rw [fg_if_1 c1, ri_noVersion h v, fg_b_1, q_bn_if]
    by_cases c2 : q_in b (sC s 4)
    · rw [fg_if_1 c2, ri_noVersion h v, fg_b_1, q_bn_if]
      by_cases c3 : q_in c (sC s 4)
      · have cc : q_in a (sC s 4) ∧ q_in b (sC s 4) ∧ q_in c (sC s 4) := ⟨c1, c2, c3⟩
        rw [fg_if_1 c3]
        simp only [fg_if_1 cc]
        obtain ⟨e1, l1⟩ := n_in c1
        obtain ⟨e2, l2⟩ := n_in c2
        obtain ⟨e3, l3⟩ := n_in c3
        generalize h_ix a = i1 at e1 l1
        generalize h_ix b = i2 at e2 l2
        generalize h_ix c = i3 at e3 l3
        subst e1 e2 e3
        obtain ⟨T1, a1, a2, a3, a4⟩ := ri_takeOne h v vp vv l3 0
        have eC : s_jC s (nI i3) = s_kp 0 (s_vs s i3) := by unfold s_jC; rw [q_nIx (by omega)]
        rw [← eC] at a4
        obtain ⟨T2, b1, b2, b3, b4, b5, b6⟩ := ri_layWay a3 v vp vv (e := 0) (by omega) l1 (s_jC_l _) a4
        have in2 := r_in_fr (l := []) a4 b2 (by decide) (by decide)
        obtain ⟨T3, d1, d2, d3, d4, d5, d6⟩ := ri_layWay b3 v vp vv (e := 1) (by omega) l2 (s_jC_l _) in2
        have in3 := r_in_fr (l := []) in2 d2 (by decide) (by decide)
        obtain ⟨T4, hT4⟩ : ∃ T4, T4 = rt_F (rt_F T3 71 0) 73 0 := ⟨_, rfl⟩
        have f4 : r_fr [71, 73] T3 T4 := by rw [hT4]; exact r_frt (r_frF (by decide)) (r_frF (by decide))
        have RA4 : RA T4 s := RA_fr d3 f4 (by decide)
        have lA := s_jC_l (s := s) (nI i1)
        have lB := s_jC_l (s := s) (nI i2)
        have lC := s_jC_l (s := s) (nI i3)
        have y0 : r_wy T4 0 (s_jC s (nI i3)) (s_jC s (nI i1)) ((s_jC s (nI i3)).length + 1) := fun i hi => by
          rw [f4.2 68 (by decide), f4.2 69 (by decide), f4.2 70 (by decide), ((d6 _).1 (show 302 * 0 + i < 302 * 1 by omega)).1, ((d6 _).1 (show 302 * 0 + i < 302 * 1 by omega)).2, (d6 _).2.1 (show 301 * 0 + i < 301 * 1 by omega)]
          exact b4 i hi
        have y1 : r_wy T4 1 (s_jC s (nI i3)) (s_jC s (nI i2)) ((s_jC s (nI i3)).length + 1) := fun i hi => by
          rw [f4.2 68 (by decide), f4.2 69 (by decide), f4.2 70 (by decide)]
          exact d4 i hi
        have w0 : r_ww T4 0 (s_jC s (nI i1)) (s_jC s (nI i1)).length := fun i hi => by
          rw [f4.2 66 (by decide), (d6 _).2.2 (show 300 * 0 + i < 300 * 1 by omega)]
          exact b5 i hi
        have w1 : r_ww T4 1 (s_jC s (nI i2)) (s_jC s (nI i2)).length := fun i hi => by
          rw [f4.2 66 (by decide)]
          exact d5 i hi
        have kc0 : r_kc T4 (sC s 7) [] := ⟨RA4.1.2.2.2.2.2.2.2.1, by rw [hT4]; rfl, fun k P Q hk => by cases hk⟩
        have hJ := s_jrow_l (s := s) (nI i1) (nI i2) (nI i3)
        obtain ⟨T5, m1, m2, m3, m4, m5⟩ := ri_join_57 (C := s_jC s (nI i3)) (A := s_jC s (nI i1)) (B := s_jC s (nI i2)) (z := sC s 7) (x := nI i1) lC lA lB (s_jC_wd v vx _) (s_jC_wd v vx _) v7 ((s_jC s (nI i3)).length + 1) 0 g_N T4 [] [] (by omega) (by have := g_N_le; omega) (r_in_fr (l := []) in3 f4 (by decide) (by decide)) y0 y1 w0 w1 ⟨by rw [hT4]; rfl, fun i x hx => by cases hx⟩ (by have : (s_jrow s (nI i1) (nI i2) (nI i3)).length ≤ 600 := hJ; unfold s_jrow at this; simpa using this) (Nat.zero_le _) (Nat.le_refl _) kc0
        rw [List.nil_append] at m3 m4
        have m3 : r_in 71 72 T5 (s_jrow s (nI i1) (nI i2) (nI i3)) := m3
        have m4 : r_kc T5 (sC s 7) (s_jcl s (nI i1) (nI i2) (nI i3)) := m4
        have RA5 : RA T5 s := RA_jn RA4 vK m2 m5
        have hcl := j_cl_len (C := s_jC s (nI i3)) (A := s_jC s (nI i1)) (B := s_jC s (nI i2)) ((s_jC s (nI i3)).length + 1) 0
        have hcl : (s_jcl s (nI i1) (nI i2) (nI i3)).length ≤ (s_jC s (nI i3)).length + 1 := hcl
        have b1' : fn_X12_layWay 0 (nI i1) T1 = some ((), T2) := b1
        have d1' : fn_X12_layWay 1 (nI i2) T2 = some ((), T3) := d1
        have m1' : fn_X12_join_57 g_N (nI i1) 0 T4 = fj_end (nI i1) T5 := m1
        rw [a1, fg_b_1, b1', fg_b_1, d1', fg_b_1, fg_let_1, fg_let_1, ← hT4, m1']
        unfold fj_end
        rw [RA5.1.2.2.1]
        by_cases c4 : sC s 2 = 12
        · rw [fg_if_1 (by rw [c4]; rfl)]
          simp only [fg_if_1 (Or.inl c4 : sC s 2 = 12 ∨ 24 < (s_runs (s_jrow s (nI i1) (nI i2) (nI i3))).length ∨ 12 < sC s 7 + (s_jcl s (nI i1) (nI i2) (nI i3)).length)]
          exact ⟨T5, rfl, RA5⟩
        · have c4' : ¬ nI (sC s 2) = 12 := fun w => c4 ((n_eq (b := 12) (by omega) (by omega)).mp w)
          obtain ⟨T6, o1, o2, o3⟩ := ri_pj hJ m3
          have RA6 : RA T6 s := RA_fr RA5 o2 (by decide)
          have kc6 : r_kc T6 (sC s 7) (s_jcl s (nI i1) (nI i2) (nI i3)) := by
            unfold r_kc at *
            rw [o2.1 74 (by decide), o2.1 73 (by decide), o2.2 76 (by decide), o2.2 77 (by decide), o2.2 79 (by decide)]
            exact m4
          have rl : (s_runs (s_jrow s (nI i1) (nI i2) (nI i3))).length ≤ 700 := by
            have br : ∀ (l : List Int32) (p : Int32), s_brk p l ≤ l.length := by
              intro l
              induction l with
              | nil => intro p; exact Nat.le_refl _
              | cons y l ih => intro p; unfold s_brk; have := ih y; rw [List.length_cons]; split <;> omega
            generalize s_jrow s (nI i1) (nI i2) (nI i3) = J at hJ
            cases J with
            | nil => exact Nat.zero_le _
            | cons x l =>
              show (s_rr x 1 x l).length ≤ 700
              rw [s_rr_len]
              have := br l x
              rw [List.length_cons] at hJ
              omega
          rw [fg_if_0 c4', o1, fg_b_1]
          by_cases c5 : 24 < (s_runs (s_jrow s (nI i1) (nI i2) (nI i3))).length
          · have c5' : (24 : Int32) < nI (s_runs (s_jrow s (nI i1) (nI i2) (nI i3))).length := (n_lt (a := 24) (by omega) (by omega)).mpr c5
            rw [fg_if_1 c5']
            simp only [fg_if_1 (Or.inr (Or.inl c5) : sC s 2 = 12 ∨ 24 < (s_runs (s_jrow s (nI i1) (nI i2) (nI i3))).length ∨ 12 < sC s 7 + (s_jcl s (nI i1) (nI i2) (nI i3)).length)]
            exact ⟨T6, rfl, RA6⟩
          · have c5' : ¬ (24 : Int32) < nI (s_runs (s_jrow s (nI i1) (nI i2) (nI i3))).length := fun w => c5 ((n_lt (a := 24) (by omega) (by omega)).mp w)
            rw [fg_if_0 c5', kc6.1, kc6.2.1, n_add]
            by_cases c6 : sC s 7 + (s_jcl s (nI i1) (nI i2) (nI i3)).length ≤ 12
            · have c6' : nI (sC s 7 + (s_jcl s (nI i1) (nI i2) (nI i3)).length) ≤ 12 := (n_le (b := 12) (by omega) (by omega)).mpr c6
              have no : ¬ (sC s 2 = 12 ∨ 24 < (s_runs (s_jrow s (nI i1) (nI i2) (nI i3))).length ∨ 12 < sC s 7 + (s_jcl s (nI i1) (nI i2) (nI i3)).length) := by omega
              obtain ⟨⟨w, m, hw, hm, x1, x2⟩, _⟩ := vv i1 l1
              obtain ⟨q1, q2⟩ := o3 (by omega)
              rw [fg_if_1 c6']
              simp only [fg_if_0 no]
              rw [RA6.1.2.2.1, q_nIx (show i1 < 2 ^ 31 by omega), RA6.2.1 56 rfl, x1, RA6.2.1 9 rfl, fg_g_1 ((n_vp (by omega)).mpr (by omega)), fg_g_1 ((n_vp (by omega)).mpr (by omega)), fg_g_1 ((n_vp (by omega)).mpr (by omega)), fg_let_1, q_nIx (show w < 2 ^ 31 by omega), q_nIx (show sC s 2 < 2 ^ 31 by omega)]
              exact rs_join_end RA6 v v0 (by omega) (by omega) q2 q1 kc6 c6 _
            · have c6' : ¬ nI (sC s 7 + (s_jcl s (nI i1) (nI i2) (nI i3)).length) ≤ 12 := fun w => c6 ((n_le (b := 12) (by omega) (by omega)).mp w)
              have yes : sC s 2 = 12 ∨ 24 < (s_runs (s_jrow s (nI i1) (nI i2) (nI i3))).length ∨ 12 < sC s 7 + (s_jcl s (nI i1) (nI i2) (nI i3)).length := by omega
              rw [fg_if_0 c6']
              simp only [fg_if_1 yes]
              exact ⟨T6, rfl, RA6⟩
      · have cc : ¬ (q_in a (sC s 4) ∧ q_in b (sC s 4) ∧ q_in c (sC s 4)) := fun q => c3 q.2.2
        rw [fg_if_0 c3]
        simp only [fg_if_0 cc]
        exact ⟨t, rfl, h⟩
    · have cc : ¬ (q_in a (sC s 4) ∧ q_in b (sC s 4) ∧ q_in c (sC s 4)) := fun q => c2 q.2.1
      rw [fg_if_0 c2]
      simp only [fg_if_0 cc]
      exact ⟨t, rfl, h⟩
  · have cc : ¬ (q_in a (sC s 4) ∧ q_in b (sC s 4) ∧ q_in c (sC s 4)) := fun q => c1 q.1
    rw [fg_if_0 c1]
    simp only [fg_if_0 cc]
    exact ⟨t, rfl, h⟩
end RJd
