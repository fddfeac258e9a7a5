/-! settle: the first place where a row stands in another -/
def s_st (S W : List Int32) (p : Nat) : Prop := p + W.length ≤ S.length ∧ ∀ j, j < W.length → S[p + j]? = W[j]?
noncomputable def s_fp (S W : List Int32) : Nat → Nat → Nat
  | 0, p => p
  | d + 1, p => fg_if (s_st S W p) p (s_fp S W d (p + 1))
/-- clashes: their writing, their words, settled or not -/
def ivK (s : sA) : Prop := ∀ c, c < sC s 7 → (∃ w, w < sC s 2 ∧ sF s 75 c = nI w) ∧ 1 ≤ (sK s c).1.length ∧ 1 ≤ (sK s c).2.length ∧ (sK s c).1.length ≤ 300 ∧ (sK s c).2.length ≤ 300 ∧ (sF s 78 c = 0 ∨ sF s 78 c = 1)
def s_cw (s : sA) (c : Nat) : List Int32 := (sK s c).1 ++ (sK s c).2
/-- from where, how many leave -/
noncomputable def s_sf (s : sA) (c : Nat) (w : Int32) : Nat := fg_if (w = 0) (sK s c).1.length 0
noncomputable def s_sn (s : sA) (c : Nat) (w : Int32) : Nat := fg_if (w = 0) (sK s c).2.length (fg_if (w = 1) (sK s c).1.length ((sK s c).1.length + (sK s c).2.length))
noncomputable def s_sp (s : sA) (c : Nat) : Nat := s_fp (s_SH s (sF s 75 c)) (s_cw s c) (s_SH s (sF s 75 c)).length 0
noncomputable def s_sl (s : sA) (c : Nat) (w : Int32) : List sP := (e_lift (e_z s (sC s 0)) (s_sp s c + s_sf s c w) (s_sn s c w) (s_row s (sF s 75 c))).2
noncomputable def s_settle (s : sA) (c w : Int32) : Int32 × sA := fg_if (q_in c (sC s 7)) (fg_if (q_in w 3) (fg_if (sF s 78 (h_ix c) = 0 ∧ s_sp s (h_ix c) < (s_SH s (sF s 75 (h_ix c))).length) (fg_if ((s_sl s (h_ix c) w).length ≤ 24) (nI (s_sn s (h_ix c) w), s_act (s_new (uF s 78 (h_ix c) 1) (sF s 75 (h_ix c)) (s_sl s (h_ix c) w)) (nI (s_sn s (h_ix c) w))) (-4, s)) (-3, s)) (-2, s)) (-1, s)
section STl
variable {S W : List Int32}
theorem s_fp_b : ∀ (d p : Nat), p ≤ s_fp S W d p ∧ s_fp S W d p ≤ p + d := by
  intro d
  induction d with
  | zero => intro p; exact ⟨Nat.le_refl _, Nat.le_refl _⟩
  | succ d ih =>
    intro p
    unfold s_fp
    by_cases c : s_st S W p
    · rw [fg_if_1 c]; omega
    · rw [fg_if_0 c]; have := ih (p + 1); omega
theorem s_fp_n : ∀ (d p : Nat), S.length < p + W.length → s_fp S W d p = p + d := by
  intro d
  induction d with
  | zero => intro p _; rfl
  | succ d ih =>
    intro p h
    unfold s_fp
    rw [fg_if_0 (fun q => by have := q.1; omega), ih (p + 1) (by omega)]
    omega
theorem s_fp_s : ∀ (d p : Nat), s_fp S W d p < p + d → s_st S W (s_fp S W d p) := by
  intro d
  induction d with
  | zero => intro p h; exact absurd h (Nat.lt_irrefl _)
  | succ d ih =>
    intro p h
    unfold s_fp at h ⊢
    by_cases c : s_st S W p
    · rw [fg_if_1 c]; exact c
    · rw [fg_if_0 c] at h ⊢; exact ih (p + 1) (by omega)
end STl
section RSt
variable {t T : r_T} {s : sA}
theorem ri_standsAt_34 {c p n : Nat} {S W : List Int32} (hc : c < 12) (hn : n = W.length) (hp : p + n ≤ S.length) (hS : S.length ≤ 300) (h36 : ∀ j x, S[j]? = some x → T.2 36 j = x) (h79 : ∀ j x, W[j]? = some x → T.2 79 (600 * c + j) = x) : ∀ (d j N : Nat), j + d = n → d < N → fn_X12_standsAt_34 N (nI c) (nI p) (nI n) 1 (nI j) T = some (q_b (∀ i, j ≤ i → i < n → S[p + i]? = W[i]?), T) := by
  have b1 : h_bt 1 := Or.inr rfl
  have b0 : h_bt 0 := Or.inl rfl
  intro d
  induction d with
  | zero =>
    intro j N hj hN
    obtain ⟨N, rfl⟩ : ∃ m, N = m + 1 := ⟨N - 1, by omega⟩
    show fn_X12_standsAt_34b _ _ _ _ _ _ _ = _
    unfold fn_X12_standsAt_34b
    rw [fg_if_1 ((n_le (by omega) (by omega)).mpr (by omega)), fg_g_1 b1, q_b1 (fun i h1 h2 => by omega)]
  | succ d ih =>
    intro j N hj hN
    obtain ⟨N, rfl⟩ : ∃ m, N = m + 1 := ⟨N - 1, by omega⟩
    show fn_X12_standsAt_34b (fn_X12_standsAt_34 N) _ _ _ _ _ _ = _
    unfold fn_X12_standsAt_34b
    have hj1 : p + j < S.length := by omega
    have hj2 : j < W.length := by omega
    have n1 : ¬ (1 : Int32) = 0 := by decide
    rw [fg_if_0 (fun q => by have := (n_le (a := n) (b := j) (by omega) (by omega)).mp q; omega), fg_if_0 n1, n_add, show (600 : Int32) = nI 600 from rfl, n_mul, n_add, fg_g_1 ((n_vp (by omega)).mpr (by omega)), fg_g_1 ((n_vp (by omega)).mpr (by omega)), q_nIx (by omega), q_nIx (by omega), h36 _ _ (List.getElem?_eq_getElem hj1), h79 _ _ (List.getElem?_eq_getElem hj2), n_p1]
    by_cases c1 : S[p + j] = W[j]
    · rw [fg_if_1 c1, ih (j + 1) N (by omega) (by omega)]
      congr 2
      refine q_bc ⟨fun q i h1 h2 => ?_, fun q i h1 h2 => q i (by omega) h2⟩
      by_cases e : i = j
      · rw [e, List.getElem?_eq_getElem hj1, List.getElem?_eq_getElem hj2, c1]
      · exact q i (by omega) h2
    · rw [fg_if_0 c1, q_b0 (fun q => c1 (by
        have := q j (Nat.le_refl _) (by omega)
        rw [List.getElem?_eq_getElem hj1, List.getElem?_eq_getElem hj2] at this
        injection this))]
      obtain ⟨N, rfl⟩ : ∃ m, N = m + 1 := ⟨N - 1, by omega⟩
      show fn_X12_standsAt_34b _ _ _ _ _ _ _ = _
      unfold fn_X12_standsAt_34b
      rw [fg_if_1 (rfl : (0 : Int32) = 0), fg_if_same, fg_g_1 b0]
theorem ri_standsAt {c p : Nat} {S : List Int32} (h : RA T s) (hc : c < sC s 7) (hc2 : c < 12) (vk : ivK s) (hS : S.length ≤ 300) (hp : p ≤ 300) (h35 : T.1 35 = nI S.length) (h36 : ∀ j x, S[j]? = some x → T.2 36 j = x) : fn_X12_standsAt (nI c) (nI p) T = some (q_b (s_st S (s_cw s c) p), T) := by
  obtain ⟨k1, k2, k3⟩ := h.2.2.2.2.2 c hc
  obtain ⟨_, v1, v2, v3, v4, _⟩ := vk c hc
  have g1 : vp_in (nI c) 12 := (n_vp (by omega)).mpr hc2
  have el : (s_cw s c).length = (sK s c).1.length + (sK s c).2.length := by unfold s_cw; rw [List.length_append]
  unfold fn_X12_standsAt
  rw [fg_g_1 g1, fg_g_1 g1, q_nIx (by omega), k1, k2, n_add, fg_let_1, h35, n_add, ← el]
  by_cases c1 : p + (s_cw s c).length ≤ S.length
  · have := ri_standsAt_34 (c := c) (p := p) (W := s_cw s c) hc2 rfl c1 hS h36 k3 (s_cw s c).length 0 g_N (by omega) (by have := g_N_le; omega)
    rw [fg_if_0 (fun q => by have := (n_lt (a := S.length) (b := p + (s_cw s c).length) (by omega) (by omega)).mp q; omega)]
    unfold fn_X12_standsAt_29
    refine this.trans ?_
    congr 2
    exact q_bc ⟨fun q => ⟨c1, fun j hj => q j (Nat.zero_le _) hj⟩, fun q j _ hj => q.2 j hj⟩
  · have b0 : h_bt 0 := Or.inl rfl
    rw [fg_if_1 ((n_lt (by omega) (by omega)).mpr (by omega)), q_b0 (fun q => c1 q.1)]
    unfold fn_X12_standsAt_29
    obtain ⟨N, hN⟩ : ∃ m, g_N = m + 1 := ⟨g_N - 1, by have := g_N_le; omega⟩
    rw [hN]
    show fn_X12_standsAt_34b _ _ _ _ _ _ _ = _
    unfold fn_X12_standsAt_34b
    rw [fg_if_1 (rfl : (0 : Int32) = 0), fg_if_same, fg_g_1 b0]
theorem ri_settle_60 {c : Nat} {S : List Int32} {x2 x3 : Int32} (h : RA T s) (hc : c < sC s 7) (hc2 : c < 12) (vk : ivK s) (hS : S.length ≤ 300) (h35 : T.1 35 = nI S.length) (h36 : ∀ j x, S[j]? = some x → T.2 36 j = x) : ∀ (d p N : Nat), p + d = S.length → d < N → fn_X12_settle_60 N (nI c) x2 x3 (nI p) T = fn_X12_settle_85 (nI c) x2 x3 (nI (s_fp S (s_cw s c) d p)) T := by
  intro d
  induction d with
  | zero =>
    intro p N hp hN
    obtain ⟨N, rfl⟩ : ∃ m, N = m + 1 := ⟨N - 1, by omega⟩
    show fn_X12_settle_60b _ _ _ _ _ _ = _
    unfold fn_X12_settle_60b
    rw [h35, fg_if_1 ((n_le (by omega) (by omega)).mpr (by omega))]
    rfl
  | succ d ih =>
    intro p N hp hN
    obtain ⟨N, rfl⟩ : ∃ m, N = m + 1 := ⟨N - 1, by omega⟩
    show fn_X12_settle_60b (fn_X12_settle_60 N) _ _ _ _ _ = _
    unfold fn_X12_settle_60b s_fp
    rw [h35, fg_if_0 (fun q => by have := (n_le (a := S.length) (b := p) (by omega) (by omega)).mp q; omega), ri_standsAt h hc hc2 vk hS (by omega) h35 h36, fg_b_1, q_b_if, n_p1]
    by_cases c1 : s_st S (s_cw s c) p
    · rw [fg_if_1 c1, fg_if_1 c1]
    · rw [fg_if_0 c1, fg_if_0 c1]
      exact ih (p + 1) N (by omega) (by omega)
theorem RAW_78 {S s2 : sA} {i : Nat} {x : Int32} (h : RAW t S s2) : RAW (rt_A t 78 i x) (uF S 78 i x) s2 := by
  obtain ⟨h1, h2, h3, h4, h5, h6⟩ := h
  have e : ∀ z, z ≠ 78 → (rt_A t 78 i x).2 z = t.2 z := fun z hz => by
    funext j
    rw [rt_AA, if_neg hz]
  have e2 : ∀ z, z ≠ 78 → sF (uF S 78 i x) z = sF S z := fun z hz => by
    funext j
    rw [sF_uF, if_neg hz]
  refine ⟨h1, RF_A h2, ?_, ?_, ?_, ?_⟩
  · exact RH_c h3 rfl (e 106 (by omega)) (e 107 (by omega)) (e 108 (by omega)) (e2 106 (by omega)) (e2 107 (by omega)) (e2 108 (by omega))
  · exact RG_c h4 rfl (Nat.le_refl _) rfl (e 5 (by omega)) (e 6 (by omega)) (e 7 (by omega))
  · exact RW_c h5 rfl (Nat.le_refl _) rfl rfl (e 11 (by omega)) (e 12 (by omega)) (e 13 (by omega)) (e 14 (by omega)) (e 15 (by omega)) (e 17 (by omega)) (e 18 (by omega)) (e 19 (by omega)) (e 20 (by omega)) (e 21 (by omega))
  · exact RK_c h6 rfl rfl (e 76 (by omega)) (e 77 (by omega)) (e 79 (by omega))
theorem s_sfn (vk : ivK s) {c : Nat} (hc : c < sC s 7) (w : Int32) : 1 ≤ s_sn s c w ∧ s_sf s c w + s_sn s c w ≤ (s_cw s c).length := by
  obtain ⟨_, v1, v2, v3, v4, _⟩ := vk c hc
  have el : (s_cw s c).length = (sK s c).1.length + (sK s c).2.length := by unfold s_cw; rw [List.length_append]
  unfold s_sf s_sn
  by_cases c1 : w = 0
  · simp only [fg_if_1 c1]; omega
  · simp only [fg_if_0 c1]
    by_cases c2 : w = 1
    · simp only [fg_if_1 c2]; omega
    · simp only [fg_if_0 c2]; omega
theorem rs_settle (h : RA t s) (v : ivc s) (v0 : sC s 0 < 512) (vp : ivp s) (vx : ivx s) (vk : ivK s) (c w : Int32) : ∃ t2, fn_X12_settle c w t = some ((s_settle s c w).1, t2) ∧ RA t2 (s_settle s c w).2 := by
  have v2 := v.2.2.1
  have v7 := v.2.2.2.2.2.2.2.1
  unfold fn_X12_settle s_settle
  rw [h.1.2.2.2.2.2.2.2.1, ri_in, q_bc (q_in0n (show sC s 7 < 2 ^ 31 by omega)), fg_b_1, q_b_if]
  by_cases c1 : q_in c (sC s 7)
  · have ew : ((0 : Int64) ≤ w.toInt64 ∧ w.toInt64 ≤ 2) ↔ q_in w 3 := q_in64 w (n := 2) (by decide) rfl
    rw [fg_if_1 c1, ri_in, fg_b_1, q_bc ew, q_b_if]
    simp only [fg_if_1 c1]
    by_cases c2 : q_in w 3
    · obtain ⟨e1, l1⟩ := n_in c1
      generalize h_ix c = c0 at e1 l1
      subst e1
      have g1 : vp_in (nI c0) 12 := (n_vp (by omega)).mpr (by omega)
      obtain ⟨⟨w0, hw0, ew0⟩, k1, k2, k3, k4, k5⟩ := vk c0 l1
      rw [fg_if_1 c2, fg_g_1 g1, h.2.1 78 rfl, h.2.1 75 rfl]
      simp only [fg_if_1 c2]
      by_cases c3 : sF s 78 c0 = 0
      · obtain ⟨T1, a1, a2, a3, a4, a5, a6, a7⟩ := ri_open h v vp (w := w0) (by omega)
        have eS : s_SH s (nI w0) = s_sh (sR s) 4 w0 (sC s 0) := by unfold s_SH; rw [q_nIx (by omega)]
        have eR : s_row s (nI w0) = sR s w0 (sC s 0) := by unfold s_row; rw [q_nIx (by omega)]
        have hS : (s_SH s (nI w0)).length ≤ 300 := s_sh_300 _ _ _ _
        rw [← eS] at a2
        rw [← eR] at a4 a5 a6
        have h36 : ∀ j x, (s_SH s (nI w0))[j]? = some x → T1.2 36 j = x := fun j x hx => l_out_w a3 (by rw [← eS]; exact hx)
        have e60 := ri_settle_60 (x2 := w) (x3 := nI w0) a7 l1 (by omega) vk hS a2 h36 (s_SH s (nI w0)).length 0 g_N (by omega) (by have := g_N_le; omega)
        have e60' : fn_X12_settle_60 g_N (nI c0) w (nI w0) 0 T1 = _ := e60
        have esp : s_sp s c0 = s_fp (s_SH s (nI w0)) (s_cw s c0) (s_SH s (nI w0)).length 0 := by unfold s_sp; rw [ew0]
        rw [fg_if_1 c3, fg_g_1 g1, ew0, a1, fg_b_1, e60', ← esp]
        have hb := s_fp_b (S := s_SH s (nI w0)) (W := s_cw s c0) (s_SH s (nI w0)).length 0
        rw [← esp] at hb
        unfold fn_X12_settle_85
        rw [a2]
        by_cases c4 : s_sp s c0 < (s_SH s (nI w0)).length
        · have cc : sF s 78 c0 = 0 ∧ s_sp s c0 < (s_SH s (nI w0)).length := ⟨c3, c4⟩
          have hst := s_fp_s (S := s_SH s (nI w0)) (W := s_cw s c0) (s_SH s (nI w0)).length 0 (by rw [← esp]; omega)
          rw [← esp] at hst
          obtain ⟨hn1, hn2⟩ := s_sfn vk l1 w
          have hst1 := hst.1
          obtain ⟨q1, q2, _⟩ := a7.2.2.2.2.2 c0 l1
          have e157 : ∃ t2, fn_X12_settle_157 (nI c0) (nI w0) (nI (s_sp s c0 + s_sf s c0 w)) (nI (s_sn s c0 w)) T1 = some ((fg_if ((s_sl s c0 w).length ≤ 24) (nI (s_sn s c0 w), s_act (s_new (uF s 78 c0 1) (nI w0) (s_sl s c0 w)) (nI (s_sn s c0 w))) (-4, s)).1, t2) ∧ RA t2 (fg_if ((s_sl s c0 w).length ≤ 24) (nI (s_sn s c0 w), s_act (s_new (uF s 78 c0 1) (nI w0) (s_sl s c0 w)) (nI (s_sn s c0 w))) (-4, s)).2 := by
            obtain ⟨T2, d1, d2, d3, d4, d5, d6, d7, d8⟩ := ri_takeOut (t := T1) (l := s_row s (nI w0)) (f := s_sp s c0 + s_sf s c0 w) (n := s_sn s c0 w) hn1 (by omega) (by rw [eR]; exact (vp w0 (sC s 0)).1) (fun p hp => e_ok_z (vx _ _ p hp)) a4 a5 a6
            have hT2 : RA T2 s := RA_fr a7 d2 (by decide)
            obtain ⟨T3, g1', g2, g3⟩ := ri_store (t := T2) (w := w0) (by omega) hT2.2.2.2.2.1 hT2.1.1 v0 (by omega) d3 d4
            have esl : s_sl s c0 w = (e_lift (e_z s (sC s 0)) (s_sp s c0 + s_sf s c0 w) (s_sn s c0 w) (s_row s (nI w0))).2 := by unfold s_sl; rw [ew0]
            unfold fn_X12_settle_157
            rw [d1, fg_b_1, g1', fg_b_1, q_b_if, ← esl]
            rw [← esl] at g2 g3
            by_cases c5 : (s_sl s c0 w).length ≤ 24
            · simp only [fg_if_1 c5]
              obtain ⟨m1, m2⟩ := g2 c5
              have hR : RAW T3 s (s_act (uR s w0 (sC s 0 + 1) (s_sl s c0 w)) 0) := RAW_of hT2 m1 (by decide) m2
              have hR2 : RAW (rt_A T3 78 c0 1) (uF s 78 c0 1) (s_act (uR (uF s 78 c0 1) w0 (sC s 0 + 1) (s_sl s c0 w)) 0) := by
                obtain ⟨r1, r2, r3, r4, r5, r6⟩ := RAW_78 (i := c0) (x := 1) hR
                exact ⟨r1, r2, r3, r4, RW_c r5 rfl (Nat.le_refl _) rfl rfl rfl rfl rfl rfl rfl rfl rfl rfl rfl rfl, r6⟩
              have hfin := rs_actW hR2 (nI (s_sn s c0 w))
              rw [fg_g_1 g1, q_nIx (by omega), fg_let_1, ri_actedW hR2 v, fg_b_1]
              refine ⟨_, rfl, ?_⟩
              have en : s_new (uF s 78 c0 1) (nI w0) (s_sl s c0 w) = uR (uF s 78 c0 1) w0 (sC (uF s 78 c0 1) 0 + 1) (s_sl s c0 w) := by unfold s_new; rw [q_nIx (by omega)]
              rw [en]
              exact hfin
            · simp only [fg_if_0 c5]
              rw [g3 c5]
              exact ⟨T2, rfl, hT2⟩
          rw [fg_if_0 (fun q => by have := (n_eq (by omega) (by omega)).mp q; omega)]
          simp only [fg_if_1 cc]
          have e115 : ∀ P : Nat, fn_X12_settle_115 (nI c0) w (nI w0) (nI P) T1 = fn_X12_settle_157 (nI c0) (nI w0) (nI P) (nI (s_sn s c0 w)) T1 := by
            intro P
            unfold fn_X12_settle_115 s_sn
            simp only [fg_g_1 g1, q_nIx (show c0 < 2 ^ 31 by omega), q1, q2, n_add]
            by_cases d1 : w = 0
            · simp only [fg_if_1 d1]
            · simp only [fg_if_0 d1]
              by_cases d2 : w = 1
              · simp only [fg_if_1 d2]
              · simp only [fg_if_0 d2]
          have e85 : fg_if (w = 0) (fg_g (vp_in (nI c0) 12) (fn_X12_settle_115 (nI c0) w (nI w0) (nI (s_sp s c0) + T1.2 76 (h_ix (nI c0))) T1)) (fn_X12_settle_115 (nI c0) w (nI w0) (nI (s_sp s c0)) T1) = fn_X12_settle_157 (nI c0) (nI w0) (nI (s_sp s c0 + s_sf s c0 w)) (nI (s_sn s c0 w)) T1 := by
            rw [fg_g_1 g1, q_nIx (by omega), q1, n_add, e115, e115]
            unfold s_sf
            by_cases d1 : w = 0
            · simp only [fg_if_1 d1]
            · simp only [fg_if_0 d1]
              rfl
          rw [e85]
          exact e157
        · have cc : ¬ (sF s 78 c0 = 0 ∧ s_sp s c0 < (s_SH s (nI w0)).length) := fun q => c4 q.2
          have ee : s_sp s c0 = (s_SH s (nI w0)).length := by omega
          rw [fg_if_1 (by rw [ee])]
          simp only [fg_if_0 cc]
          exact ⟨T1, rfl, a7⟩
      · have cc : ¬ (sF s 78 c0 = 0 ∧ s_sp s c0 < (s_SH s (sF s 75 c0)).length) := fun q => c3 q.1
        rw [fg_if_0 c3]
        simp only [fg_if_0 cc]
        exact ⟨t, rfl, h⟩
    · rw [fg_if_0 c2]
      simp only [fg_if_0 c2]
      exact ⟨t, rfl, h⟩
  · rw [fg_if_0 c1]
    simp only [fg_if_0 c1]
    exact ⟨t, rfl, h⟩
end RSt
