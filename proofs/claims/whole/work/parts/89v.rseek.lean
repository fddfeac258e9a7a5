section RSl
variable {t T T2 : r_T} {s : sA} {K : List sH}
theorem s_whr_k (a w u m : Int32) : ∀ n j, s_whr (s_kept s K) a w u m n j = s_whr s a w u m n j := by
  intro n
  induction n with
  | zero => intro j; rfl
  | succ n ih =>
    intro j
    show fg_if (sF s 90 j = w ∧ s_mine s j a m ∧ s_hold s j u m) (nI j) (s_whr (s_kept s K) a w u m n (j + 1)) = fg_if (sF s 90 j = w ∧ s_mine s j a m ∧ s_hold s j u m) (nI j) (s_whr s a w u m n (j + 1))
    rw [ih]
theorem s_why_k (a w u m : Int32) : s_whyOf (s_kept s K) a w u m = s_whyOf s a w u m := by
  show fg_if (sF s 9 (h_ix w) = a) 99 (s_whr (s_kept s K) a w u m (sC s 6) 0) = fg_if (sF s 9 (h_ix w) = a) 99 (s_whr s a w u m (sC s 6) 0)
  rw [s_whr_k]
theorem s_lw_k (x : Int32) : ∀ d l, s_lw (s_kept s K) x d l = s_lw s x d l := by
  intro d
  induction d with
  | zero => intro l; rfl
  | succ d ih =>
    intro l
    show fg_if (s_hl (s_e1 s l 0) (s_e2 s l 0) x ∨ s_hl (s_e1 s l 1) (s_e2 s l 1) x) 1 0 + s_lw (s_kept s K) x d (l + 1) = fg_if (s_hl (s_e1 s l 0) (s_e2 s l 0) x ∨ s_hl (s_e1 s l 1) (s_e2 s l 1) x) 1 0 + s_lw s x d (l + 1)
    rw [ih]
theorem s_opn_k (a : Int32) (u : Nat) (m : Int32) : s_opn (s_kept s K) a u m = s_opn s a u m := by
  show (sF s 9 (h_ix (sF s 56 u)) = a ∨ (s_gv s u m ∧ ¬ s_whyOf (s_kept s K) a (sF s 56 u) 0 m = -9)) = (sF s 9 (h_ix (sF s 56 u)) = a ∨ (s_gv s u m ∧ ¬ s_whyOf s a (sF s 56 u) 0 m = -9))
  rw [s_why_k]
theorem s_isr_k (a x m : Int32) : s_isr (s_kept s K) a x m = s_isr s a x m := by
  show (¬ x = -7 ∧ ¬ s_whyOf (s_kept s K) a (sF s 25 (h_ix x)) 0 m = -9) = (¬ x = -7 ∧ ¬ s_whyOf s a (sF s 25 (h_ix x)) 0 m = -9)
  rw [s_why_k]
theorem s_ht_k (a : Int32) (q i n u p : Nat) : s_ht (s_kept s K) a q i n u p = s_ht s a q i n u p := by
  show (p + n ≤ (s_vs s u).length ∧ ∀ j, j < n → ¬ s_vg s u (p + j) = -7 ∧ sF s 23 (h_ix (s_vg s u (p + j))) = sF s 112 (60 * q + i + j) ∧ s_isr (s_kept s K) a (s_vg s u (p + j)) (nI (sC s 0))) = (p + n ≤ (s_vs s u).length ∧ ∀ j, j < n → ¬ s_vg s u (p + j) = -7 ∧ sF s 23 (h_ix (s_vg s u (p + j))) = sF s 112 (60 * q + i + j) ∧ s_isr s a (s_vg s u (p + j)) (nI (sC s 0)))
  simp only [s_isr_k]
theorem ri_linksOf_4 (h : RA T s) (v : ivc s) (vm : ivm s) (x : Int32) : ∀ (d l N c : Nat), l + d = sC s 5 → d < N → fn_X12_linksOf_4 N x (nI c) (nI l) T = some (nI (c + s_lw s x d l), T) := by
  have v5 := v.2.2.2.2.2.1
  intro d
  induction d with
  | zero =>
    intro l N c hl hN
    obtain ⟨N, rfl⟩ : ∃ m, N = m + 1 := ⟨N - 1, by omega⟩
    show fn_X12_linksOf_4b _ _ _ _ _ = _
    unfold fn_X12_linksOf_4b
    rw [h.1.2.2.2.2.2.1, fg_if_1 ((n_le (by omega) (by omega)).mpr (by omega))]
    rfl
  | succ d ih =>
    intro l N c hl hN
    obtain ⟨N, rfl⟩ : ∃ m, N = m + 1 := ⟨N - 1, by omega⟩
    have g1 : vp_in (nI l) 24 := (n_vp (by omega)).mpr (by omega)
    obtain ⟨a, n, h1, h2, h3, h4, h5, h6⟩ := s_end vm (show l < sC s 5 by omega) 0
    obtain ⟨b, m, k1, k2, k3, k4, k5, k6⟩ := s_end vm (show l < sC s 5 by omega) 1
    rw [fg_if_1 rfl] at h5 h6
    rw [fg_if_0 (by decide)] at k5 k6
    have i64 : ∀ z : Nat, 1 ≤ z → z ≤ 1000 → (nI z).toInt64 - 1 = (nI (z - 1)).toInt64 := fun z z1 z2 => by
      apply Int64.toInt_inj.mp
      rw [q_sub1, Int32.toInt_toInt64, q_nI (by omega), q_nI (by omega)]
      omega
    have e1 : ((sF s 82 l).toInt64 ≤ x.toInt64 ∧ x.toInt64 ≤ (sF s 82 l + sF s 83 l).toInt64 - 1) ↔ s_hl a n x := by
      rw [h5, h6, n_add, i64 _ (by omega) (by omega)]
      exact (q_c64 x _ _ rfl rfl).trans (s_hl_i h1 h2 x)
    have e2 : ((sF s 84 l).toInt64 ≤ x.toInt64 ∧ x.toInt64 ≤ (sF s 84 l + sF s 85 l).toInt64 - 1) ↔ s_hl b m x := by
      rw [k5, k6, n_add, i64 _ (by omega) (by omega)]
      exact (q_c64 x _ _ rfl rfl).trans (s_hl_i k1 k2 x)
    show fn_X12_linksOf_4b (fn_X12_linksOf_4 N) _ _ _ _ = _
    unfold fn_X12_linksOf_4b s_lw
    rw [h3, h4, k3, k4, h.1.2.2.2.2.2.1, fg_if_0 (fun q => by have := (n_le (a := sC s 5) (b := l) (by omega) (by omega)).mp q; omega), fg_g_1 g1, fg_g_1 g1, fg_g_1 g1, q_nIx (by omega), h.2.1 82 rfl, h.2.1 83 rfl, ri_in, q_bc e1, fg_b_1, q_b_if, fg_g_1 g1, fg_g_1 g1, fg_g_1 g1, h.2.1 84 rfl, h.2.1 85 rfl, ri_in, q_bc e2, fg_b_1, q_b_if, Int32.add_zero, n_p1, n_p1, ih (l + 1) N c (by omega) (by omega), ih (l + 1) N (c + 1) (by omega) (by omega)]
    by_cases c1 : s_hl a n x
    · rw [fg_if_1 c1, fg_if_1 (Or.inl c1)]
      congr 3
      omega
    · rw [fg_if_0 c1]
      by_cases c2 : s_hl b m x
      · rw [fg_if_1 c2, fg_if_1 (Or.inr c2)]
        congr 3
        omega
      · rw [fg_if_0 c2, fg_if_0 (fun q => q.elim c1 c2), Nat.zero_add]
theorem ri_isHit_21 (h : RA T s) (v : ivc s) (vr : ivr s) (vd : ivd s) (vx : ivx s) {a : Int32} {q i n u p : Nat} (hq : q < 4) (hn : i + n ≤ 60) (hp : p + n ≤ (s_vs s u).length) (hV : r_in 35 36 T (s_vs s u)) : ∀ (d j N : Nat), j + d = n → d < N → fn_X12_isHit_21 N a (nI p) (nI (60 * q + i)) (nI n) 1 (nI j) T = some (q_b (∀ z, j ≤ z → z < n → ¬ s_vg s u (p + z) = -7 ∧ sF s 23 (h_ix (s_vg s u (p + z))) = sF s 112 (60 * q + i + z) ∧ s_isr s a (s_vg s u (p + z)) (nI (sC s 0))), T) := by
  have v0 := v.1
  have v3 := v.2.2.2.1
  have hl := s_vs_300 (s := s) u
  have b1 : h_bt 1 := Or.inr rfl
  have b0 : h_bt 0 := Or.inl rfl
  intro d
  induction d with
  | zero =>
    intro j N hj hN
    obtain ⟨N, rfl⟩ : ∃ m, N = m + 1 := ⟨N - 1, by omega⟩
    show fn_X12_isHit_21b _ _ _ _ _ _ _ _ = _
    unfold fn_X12_isHit_21b
    rw [fg_if_1 ((n_le (by omega) (by omega)).mpr (by omega)), fg_g_1 b1, q_b1 (fun z h1 h2 => by omega)]
  | succ d ih =>
    intro j N hj hN
    obtain ⟨N, rfl⟩ : ∃ m, N = m + 1 := ⟨N - 1, by omega⟩
    have hpj : p + j < (s_vs s u).length := by omega
    have ex := hV.2 _ _ (s_vg_in hpj)
    have hw := s_vs_w vx (List.mem_of_getElem? (s_vg_in hpj))
    have n1 : ¬ (1 : Int32) = 0 := by decide
    have st0 : ∀ M, 0 < M → fn_X12_isHit_21 M a (nI p) (nI (60 * q + i)) (nI n) 0 (nI (j + 1)) T = some (0, T) := by
      intro M hM
      obtain ⟨M, rfl⟩ : ∃ m, M = m + 1 := ⟨M - 1, by omega⟩
      show fn_X12_isHit_21b _ _ _ _ _ _ _ _ = _
      unfold fn_X12_isHit_21b
      rw [fg_if_1 (rfl : (0 : Int32) = 0), fg_if_same, fg_g_1 b0]
    have no : ¬ (¬ s_vg s u (p + j) = -7 ∧ sF s 23 (h_ix (s_vg s u (p + j))) = sF s 112 (60 * q + i + j) ∧ s_isr s a (s_vg s u (p + j)) (nI (sC s 0))) → q_b (∀ z, j ≤ z → z < n → ¬ s_vg s u (p + z) = -7 ∧ sF s 23 (h_ix (s_vg s u (p + z))) = sF s 112 (60 * q + i + z) ∧ s_isr s a (s_vg s u (p + z)) (nI (sC s 0))) = 0 := fun c => q_b0 (fun z => c (z j (Nat.le_refl _) (by omega)))
    show fn_X12_isHit_21b (fn_X12_isHit_21 N) _ _ _ _ _ _ _ = _
    unfold fn_X12_isHit_21b
    rw [fg_if_0 (fun z => by have := (n_le (a := n) (b := j) (by omega) (by omega)).mp z; omega), fg_if_0 n1, n_add, n_add, fg_g_1 ((n_vp (by omega)).mpr (by omega)), q_nIx (show p + j < 2 ^ 31 by omega), ex, n_p1, st0 N (by omega)]
    by_cases c7 : s_vg s u (p + j) = -7
    · rw [fg_if_1 c7, no (fun z => z.1 c7)]
    · obtain ⟨z, hz, ez⟩ := hw.resolve_left c7
      have g2 : vp_in (s_vg s u (p + j)) 500 := by rw [ez]; exact (n_vp (by omega)).mpr (by omega)
      rw [fg_if_0 c7, fg_g_1 g2, fg_g_1 ((n_vp (by omega)).mpr (by omega)), q_nIx (show 60 * q + i + j < 2 ^ 31 by omega), h.2.1 23 rfl, h.2.1 112 rfl, h.1.1, ri_isRead h v vr vd (by omega) a hw, fg_b_1, q_b_if]
      by_cases c8 : sF s 23 (h_ix (s_vg s u (p + j))) = sF s 112 (60 * q + i + j)
      · rw [fg_if_1 c8]
        by_cases c9 : s_isr s a (s_vg s u (p + j)) (nI (sC s 0))
        · rw [fg_if_1 c9, ih (j + 1) N (by omega) (by omega)]
          congr 2
          refine q_bc ⟨fun w z h1 h2 => ?_, fun w z h1 h2 => w z (by omega) h2⟩
          by_cases e : z = j
          · rw [e]; exact ⟨c7, c8, c9⟩
          · exact w z (by omega) h2
        · rw [fg_if_0 c9, no (fun z => c9 z.2.2)]
          exact st0 N (by omega)
      · rw [fg_if_0 c8, no (fun z => c8 z.2.1)]
theorem ri_isHit (h : RA T s) (v : ivc s) (vr : ivr s) (vd : ivd s) (vx : ivx s) {a : Int32} {q i n u p : Nat} (hq : q < 4) (hn : i + n ≤ 60) (hn1 : 1 ≤ n) (hp : p ≤ 300) (hV : r_in 35 36 T (s_vs s u)) : fn_X12_isHit a (nI p) (nI (60 * q + i)) (nI n) T = some (q_b (s_ht s a q i n u p), T) := by
  have hl := s_vs_300 (s := s) u
  unfold fn_X12_isHit fn_X12_isHit_16
  rw [hV.1, n_add]
  by_cases c : p + n ≤ (s_vs s u).length
  · have := ri_isHit_21 (a := a) h v vr vd vx hq hn c hV n 0 g_N (by omega) (by have := g_N_le; omega)
    rw [fg_if_0 (fun z => by have := (n_lt (a := (s_vs s u).length) (b := p + n) (by omega) (by omega)).mp z; omega)]
    refine this.trans ?_
    congr 2
    exact q_bc ⟨fun w => ⟨c, fun j hj => w j (Nat.zero_le _) hj⟩, fun w j _ hj => w.2 j hj⟩
  · have b0 : h_bt 0 := Or.inl rfl
    rw [fg_if_1 ((n_lt (by omega) (by omega)).mpr (by omega)), q_b0 (fun w => c w.1)]
    obtain ⟨N, hN⟩ : ∃ m, g_N = m + 1 := ⟨g_N - 1, by have := g_N_le; omega⟩
    rw [hN]
    show fn_X12_isHit_21b _ _ _ _ _ _ _ _ = _
    unfold fn_X12_isHit_21b
    rw [fg_if_1 (rfl : (0 : Int32) = 0), fg_if_same, fg_g_1 b0]
def s_hs (H : List sH) : Prop := ∀ x, x ∈ H → x.2.2 ≤ 24
theorem s_hp_l (v : ivc s) {a : Int32} {q i n u : Nat} : ∀ (d p : Nat), s_hs (s_hp s a q i n u d p) ∧ (s_hp s a q i n u d p).length ≤ d := by
  have v5 := v.2.2.2.2.2.1
  intro d
  induction d with
  | zero => intro p; exact ⟨fun x (hx : x ∈ ([] : List sH)) => absurd hx List.not_mem_nil, Nat.le_refl _⟩
  | succ d ih =>
    intro p
    obtain ⟨h1, h2⟩ := ih (p + 1)
    unfold s_hp
    by_cases c : s_ht s a q i n u p
    · rw [fg_if_1 c]
      refine ⟨fun x hx => ?_, by rw [List.length_cons]; omega⟩
      rcases List.mem_cons.mp hx with w | w
      · rw [w]
        have := s_lw_le (s := s) (s_vg s u p) (sC s 5) 0
        show s_lw s (s_vg s u p) (sC s 5) 0 ≤ 24
        omega
      · exact h1 x w
    · rw [fg_if_0 c]
      exact ⟨h1, by omega⟩
theorem s_hv_l (v : ivc s) {a : Int32} {q i n : Nat} : ∀ (d u : Nat), s_hs (s_hv s a q i n d u) ∧ (s_hv s a q i n d u).length ≤ 300 * d := by
  intro d
  induction d with
  | zero => intro u; exact ⟨fun x (hx : x ∈ ([] : List sH)) => absurd hx List.not_mem_nil, Nat.le_refl _⟩
  | succ d ih =>
    intro u
    obtain ⟨h1, h2⟩ := ih (u + 1)
    obtain ⟨h3, h4⟩ := s_hp_l v (a := a) (q := q) (i := i) (n := n) (u := u) (s_vs s u).length 0
    have hl := s_vs_300 (s := s) u
    unfold s_hv
    by_cases c : s_opn s a u (nI (sC s 0))
    · rw [fg_if_1 c]
      exact ⟨fun x hx => by
        rcases List.mem_append.mp hx with w | w
        · exact h3 x w
        · exact h1 x w, by rw [List.length_append]; omega⟩
    · rw [fg_if_0 c]
      exact ⟨h1, by rw [List.nil_append]; omega⟩
theorem RA_un (h : RA T (s_kept s K)) (e : K.length = sC (s_kept s K) 8) : RA T (s_kept s K) := h
/-- the places of a version -/
theorem ri_seek_96 (v : ivc s) (vr : ivr s) (vd : ivd s) (vx : ivx s) (vm : ivm s) {a : Int32} {q i n u : Nat} (hu : u < 16) (hq : q < 4) (hn : i + n ≤ 60) (hn1 : 1 ≤ n) {K64 : Int32 → Int32 → Int32 → Int32 → Int32 → Int32 → r_T → Option (Int32 × r_T)} : ∀ (d p N c : Nat) (T : r_T) (H : List sH), p + d = (s_vs s u).length → d < N → s_hs H → RA T (s_kept s ((s_srt 25 H).take 200)) → r_in 35 36 T (s_vs s u) → ∃ T2, fn_X12_seek_96 K64 N a (nI q) (nI i) (nI n) (nI c) (nI u) (nI p) T = K64 a (nI q) (nI i) (nI n) (nI (c + (s_hp s a q i n u d p).length)) (nI (u + 1)) T2 ∧ RA T2 (s_kept s ((s_srt 25 (H ++ s_hp s a q i n u d p)).take 200)) := by
  have hl := s_vs_300 (s := s) u
  have v5 := v.2.2.2.2.2.1
  intro d
  induction d with
  | zero =>
    intro p N c T H hp hN hH h hV
    obtain ⟨N, rfl⟩ : ∃ m, N = m + 1 := ⟨N - 1, by omega⟩
    refine ⟨T, ?_, ?_⟩
    · show fn_X12_seek_96b _ _ _ _ _ _ _ _ _ _ = _
      unfold fn_X12_seek_96b
      rw [hV.1, fg_if_1 ((n_le (by omega) (by omega)).mpr (by omega)), n_p1]
      rfl
    · show RA T (s_kept s ((s_srt 25 (H ++ [])).take 200))
      rw [List.append_nil]
      exact h
  | succ d ih =>
    intro p N c T H hp hN hH h hV
    obtain ⟨N, rfl⟩ : ∃ m, N = m + 1 := ⟨N - 1, by omega⟩
    have hp2 : p < (s_vs s u).length := by omega
    have e60 : (60 : Int32) * nI q + nI i = nI (60 * q + i) := by rw [show (60 : Int32) = nI 60 from rfl, n_mul, n_add]
    have eh := ri_isHit (s := s_kept s ((s_srt 25 H).take 200)) (a := a) (p := p) (u := u) h ⟨v.1, v.2.1, v.2.2.1, v.2.2.2.1, v.2.2.2.2.1, v.2.2.2.2.2.1, v.2.2.2.2.2.2.1, v.2.2.2.2.2.2.2.1, List.length_take_le _ _⟩ vr vd vx hq hn hn1 (show p ≤ 300 by omega) hV
    rw [s_ht_k] at eh
    show ∃ T2, fn_X12_seek_96b K64 (fn_X12_seek_96 K64 N) _ _ _ _ _ _ _ _ = _ ∧ _
    unfold fn_X12_seek_96b s_hp
    rw [hV.1, fg_if_0 (fun z => by have := (n_le (a := (s_vs s u).length) (b := p) (by omega) (by omega)).mp z; omega), e60, eh, fg_b_1, q_b_if, n_p1]
    by_cases c1 : s_ht s a q i n u p
    · rw [fg_if_1 c1, fg_if_1 c1]
      have ex := hV.2 _ _ (s_vg_in hp2)
      have el0 := ri_linksOf_4 (s := s_kept s ((s_srt 25 H).take 200)) h ⟨v.1, v.2.1, v.2.2.1, v.2.2.2.1, v.2.2.2.2.1, v.2.2.2.2.2.1, v.2.2.2.2.2.2.1, v.2.2.2.2.2.2.2.1, List.length_take_le _ _⟩ vm (s_vg s u p) (sC s 5) 0 g_N 0 (Nat.zero_add _) (by have := g_N_le; omega)
      rw [s_lw_k] at el0
      have el : fn_X12_linksOf (s_vg s u p) T = some (nI (0 + s_lw s (s_vg s u p) (sC s 5) 0), T) := el0
      have hlw := s_lw_le (s := s) (s_vg s u p) (sC s 5) 0
      obtain ⟨T2, m1, m2, m3⟩ := ri_keepHit (T := T) (h := (u, p, s_lw s (s_vg s u p) (sC s 5) 0)) hH (show s_lw s (s_vg s u p) (sC s 5) 0 ≤ 24 by omega) (RA_kh h)
      have r2 : RA T2 (s_kept s ((s_srt 25 (H ++ [(u, p, s_lw s (s_vg s u p) (sC s 5) 0)])).take 200)) := by
        have := RA_kept h m2 m3
        rw [s_kept2] at this
        exact this
      obtain ⟨T3, k1, k2⟩ := ih (p + 1) N (c + 1) T2 (H ++ [(u, p, s_lw s (s_vg s u p) (sC s 5) 0)]) (by omega) (by omega) (fun x hx => by
        rcases List.mem_append.mp hx with w | w
        · exact hH x w
        · rw [List.mem_singleton.mp w]; show s_lw s (s_vg s u p) (sC s 5) 0 ≤ 24; omega) r2 ⟨by rw [m2.1 35 (by decide)]; exact hV.1, fun j z hz => by rw [m2.2 36 (by decide)]; exact hV.2 j z hz⟩
      rw [fg_g_1 ((n_vp (by omega)).mpr (by omega)), q_nIx (by omega), ex, el, fg_b_1, Nat.zero_add]
      have m1' : fn_X12_keepHit (nI u) (nI p) (nI (s_lw s (s_vg s u p) (sC s 5) 0)) T = some ((), T2) := m1
      rw [m1', fg_b_1, n_p1]
      refine ⟨T3, ?_, ?_⟩
      · rw [k1, List.length_cons]
        congr 2
        omega
      · rw [List.append_assoc] at k2
        exact k2
    · rw [fg_if_0 c1, fg_if_0 c1, n_p1]
      exact ih (p + 1) N c T H (by omega) (by omega) hH h hV
theorem ri_seek_64 (v : ivc s) (vp : ivp s) (vv : ivv s) (vr : ivr s) (vd : ivd s) (vx : ivx s) (vm : ivm s) {a : Int32} {q i n : Nat} (hq : q < 4) (hn : i + n ≤ 60) (hn1 : 1 ≤ n) : ∀ (d u N c : Nat) (T : r_T) (H : List sH), u + d = sC s 4 → d < N → s_hs H → RA T (s_kept s ((s_srt 25 H).take 200)) → ∃ T2, fn_X12_seek_64 N a (nI q) (nI i) (nI n) (nI c) (nI u) T = some (nI (c + (s_hv s a q i n d u).length), T2) ∧ RA T2 (s_flt (s_kept s ((s_srt 25 (H ++ s_hv s a q i n d u)).take 200)) 0) := by
  have v0 := v.1
  have v4 := v.2.2.2.2.1
  intro d
  induction d with
  | zero =>
    intro u N c T H hu hN hH h
    obtain ⟨N, rfl⟩ : ∃ m, N = m + 1 := ⟨N - 1, by omega⟩
    have e55 : T.1 55 = nI (sC s 4) := h.1.2.2.2.2.1
    refine ⟨rt_F T 0 0, ?_, ?_⟩
    · show fn_X12_seek_64b _ _ _ _ _ _ _ _ = _
      unfold fn_X12_seek_64b
      rw [e55, fg_if_1 ((n_le (by omega) (by omega)).mpr (by omega)), ri_refused, fg_b_1]
      rfl
    · show RA (rt_F T 0 0) (s_flt (s_kept s ((s_srt 25 (H ++ [])).take 200)) 0)
      rw [List.append_nil]
      exact rs_flt h 0
  | succ d ih =>
    intro u N c T H hu hN hH h
    obtain ⟨N, rfl⟩ : ∃ m, N = m + 1 := ⟨N - 1, by omega⟩
    have vK : ivc (s_kept s ((s_srt 25 H).take 200)) := ⟨v.1, v.2.1, v.2.2.1, v.2.2.2.1, v.2.2.2.2.1, v.2.2.2.2.2.1, v.2.2.2.2.2.2.1, v.2.2.2.2.2.2.2.1, List.length_take_le _ _⟩
    have e55 : T.1 55 = nI (sC s 4) := h.1.2.2.2.2.1
    have e1 : T.1 1 = nI (sC s 0) := h.1.1
    have eo := ri_isOpen (s := s_kept s ((s_srt 25 H).take 200)) h vK vr vv (show u < sC s 4 by omega) (show sC s 0 < 2 ^ 31 by omega) a
    rw [s_opn_k] at eo
    show ∃ T2, fn_X12_seek_64b (fn_X12_seek_64 N) _ _ _ _ _ _ _ = _ ∧ _
    unfold fn_X12_seek_64b s_hv
    rw [e55, fg_if_0 (fun z => by have := (n_le (a := sC s 4) (b := u) (by omega) (by omega)).mp z; omega), e1, eo, fg_b_1, q_b_if, n_p1]
    by_cases c1 : s_opn s a u (nI (sC s 0))
    · rw [fg_if_1 c1, fg_if_1 c1]
      obtain ⟨T1, a1, a2, a3, a4⟩ := ri_layV (s := s_kept s ((s_srt 25 H).take 200)) h vK vp vv (show u < sC s 4 by omega)
      obtain ⟨T2, b1, b2⟩ := ri_seek_96 v vr vd vx vm (a := a) (u := u) (by omega) hq hn hn1 (K64 := fn_X12_seek_64 N) (s_vs s u).length 0 g_N c T1 H (by omega) (by have := s_vs_300 (s := s) u; have := g_N_le; omega) hH a4 a2
      have hH2 : s_hs (H ++ s_hp s a q i n u (s_vs s u).length 0) := fun x hx => by
        rcases List.mem_append.mp hx with w | w
        · exact hH x w
        · exact (s_hp_l v _ _).1 x w
      obtain ⟨T3, k1, k2⟩ := ih (u + 1) N (c + (s_hp s a q i n u (s_vs s u).length 0).length) T2 _ (by omega) (by omega) hH2 b2
      rw [a1, fg_b_1]
      refine ⟨T3, ?_, ?_⟩
      · refine (b1.trans k1).trans ?_
        rw [List.length_append, Nat.add_assoc]
      · rw [List.append_assoc] at k2
        exact k2
    · rw [fg_if_0 c1, fg_if_0 c1, List.nil_append]
      exact ih (u + 1) N c T H (by omega) (by omega) hH h
theorem rs_seek (h : RA t s) (v : ivc s) (vp : ivp s) (vv : ivv s) (vr : ivr s) (vd : ivd s) (vx : ivx s) (vm : ivm s) (vs : ivs s) (a k l i n : Int32) : ∃ t2, fn_X12_seek a k l i n t = some ((s_seek s a k l i n).1, t2) ∧ RA t2 (s_seek s a k l i n).2 := by
  have e15 : ∀ T : r_T, fn_X12_seek_15 T = some (-1, rt_F T 0 0) := fun _ => rfl
  unfold fn_X12_seek s_seek
  rw [ri_noHand h v, fg_b_1, q_bn_if]
  by_cases c1 : q_in a (sC s 1)
  · rw [fg_if_1 c1, ri_noSheet, fg_b_1, q_bn_if]
    by_cases c2 : q_in k 4
    · have c : q_in a (sC s 1) ∧ q_in k 4 := ⟨c1, c2⟩
      rw [fg_if_1 c2]
      simp only [fg_if_1 c]
      by_cases c4 : s_bf s (h_ix k) l i n = 0
      · simp only [fg_if_1 c4]
        obtain ⟨e2, l2⟩ := n_in (n := 4) c2
        obtain ⟨z, hz, ez, ei, en, hl⟩ := s_bf0 vs l2 c4
        rw [ri_barred h c2, fg_if_1 c4, fg_b_1, fg_if_1 (by decide)]
        by_cases c5 : n = 0
        · simp only [fg_if_1 c5]
          exact ⟨_, rfl, rs_flt h 0⟩
        · simp only [fg_if_0 c5]
          have hn1 : 1 ≤ h_ix n := by
            rcases Nat.eq_zero_or_pos (h_ix n) with q | q
            · exact absurd (by rw [en, q]; rfl) c5
            · exact q
          have f0 : r_fr l_H t (rt_F t 105 0) := r_frF (by decide)
          have h0 : RA (rt_F t 105 0) (s_kept s ((s_srt 25 []).take 200)) := RA_kept h f0 ⟨rfl, fun i x hx => by simp [s_srt] at hx⟩
          obtain ⟨T2, m1, m2⟩ := ri_seek_64 v vp vv vr vd vx vm (a := a) (q := h_ix k) (i := h_ix i) (n := h_ix n) l2 (by omega) hn1 (sC s 4) 0 g_N 0 (rt_F t 105 0) [] (by omega) (by have := v.2.2.2.2.1; have := g_N_le; omega) (fun x hx => by cases hx) h0
          rw [Nat.zero_add, ← e2, ← ei, ← en] at m1
          rw [fg_let_1]
          exact ⟨T2, m1, m2⟩
      · simp only [fg_if_0 c4]
        exact ri_br h c2 l i n c4
    · have c : ¬ (q_in a (sC s 1) ∧ q_in k 4) := fun q => c2 q.2
      rw [fg_if_0 c2, e15]
      simp only [fg_if_0 c]
      exact ⟨_, rfl, rs_flt h 0⟩
  · have c : ¬ (q_in a (sC s 1) ∧ q_in k 4) := fun q => c1 q.1
    rw [fg_if_0 c1, e15]
    simp only [fg_if_0 c]
    exact ⟨_, rfl, rs_flt h 0⟩
end RSl
