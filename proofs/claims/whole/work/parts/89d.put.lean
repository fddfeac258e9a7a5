/-! put -/
def s_w1 (S : sA) (c : Int32) (w : Nat) : sA := uC (uF (uF (uF (uF (uF S 23 (sC S 3) c) 24 (sC S 3) (sF S 9 w)) 25 (sC S 3) (nI w)) 26 (sC S 3) (nI (sC S 0 + 1))) 27 (sC S 3) (nI (s_nth S (h_ix (sF S 9 w)) (sC S 3)))) 3 (sC S 3 + 1)
def s_wl (C : Nat → Int32) (w : Nat) : Nat → Nat → sA → sA
  | 0, _, S => S
  | d + 1, j, S => s_wl C w d (j + 1) (s_w1 S (C j) w)
def s_cds (C : Nat → Int32) (n : Nat) : Prop := ∀ j, j < n → 1 ≤ C j ∧ C j ≤ 99
def s_cl (s : sA) (k i : Nat) (j : Nat) : Int32 := sF s 112 (60 * k + i + j)
noncomputable def s_put (s : sA) (w at_ k l i n : Int32) : Int32 × sA := fg_if (s_ahd s w at_ ∧ q_in k 4) (fg_if (s_bf s (h_ix k) l i n = 0) (fg_if (n = 0 ∨ ¬ s_cds (s_cl s (h_ix k) (h_ix i)) (h_ix n)) (-2, s_flt s 0) (fg_if (sC s 3 + h_ix n ≤ 500 ∧ (s_brg s w (h_ix at_) (0, nI (sC s 3), n, -9, -9)).length ≤ 24) (nI (sC s 3), s_flt (s_act (s_wl (s_cl s (h_ix k) (h_ix i)) (h_ix w) (h_ix n) 0 (s_new s w (s_brg s w (h_ix at_) (0, nI (sC s 3), n, -9, -9)))) (nI (sC s 3))) 0) (-4, s_flt s 0))) (s_br s (s_bf s (h_ix k) l i n))) (-1, s_flt s 0)
section SPt
variable {S : sA}
theorem s_w1_C (c : Int32) (w i : Nat) : sC (s_w1 S c w) i = if i = 3 then sC S 3 + 1 else sC S i := rfl
theorem s_w1_F (c : Int32) (w f : Nat) (hf : f < 23 ∨ 27 < f) : sF (s_w1 S c w) f = sF S f := by
  funext i
  unfold s_w1
  rw [sF_uC, sF_uF, if_neg (by omega), sF_uF, if_neg (by omega), sF_uF, if_neg (by omega), sF_uF, if_neg (by omega), sF_uF, if_neg (by omega)]
theorem s_w1_o (c : Int32) (w f : Nat) {i : Nat} (hi : i ≠ sC S 3) : sF (s_w1 S c w) f i = sF S f i := by
  unfold s_w1
  rw [sF_uC]
  simp only [sF_uF, if_neg hi, ite_self]
theorem s_w1_24 (c : Int32) (w : Nat) : sF (s_w1 S c w) 24 (sC S 3) = sF S 9 w := by
  unfold s_w1
  rw [sF_uC]
  simp [sF_uF]
theorem s_nth_w1 (c : Int32) (w h : Nat) : ∀ n, n ≤ sC S 3 → s_nth (s_w1 S c w) h n = s_nth S h n := by
  intro n
  induction n with
  | zero => intro _; rfl
  | succ n ih =>
    intro hn
    unfold s_nth
    rw [ih (by omega), s_w1_o c w 24 (by omega)]
end SPt
section RPt
variable {t T : r_T} {s : sA}
theorem RAW_cnt {S s2 : sA} {n : Nat} (h : RAW t S s2) : RAW (rt_F t 22 (nI n)) (uC S 3 n) s2 := by
  obtain ⟨h1, h2, h3, h4, h5, h6⟩ := h
  refine ⟨?_, h2, h3, RG_c h4 rfl (show sC S 0 ≤ sC S 0 from Nat.le_refl _) rfl rfl rfl rfl, RW_c h5 rfl (Nat.le_refl _) rfl rfl rfl rfl rfl rfl rfl rfl rfl rfl rfl rfl, h6⟩
  unfold RN at *
  simp [rt_FF, sC_uC, sN_uC, h1]
theorem RAW_A {S s2 : sA} {f i : Nat} {x : Int32} (h : RAW t S s2) (hf : 23 ≤ f ∧ f ≤ 27) : RAW (rt_A t f i x) (uF S f i x) s2 := by
  obtain ⟨h1, h2, h3, h4, h5, h6⟩ := h
  have e : ∀ z, z < 23 ∨ 27 < z → (rt_A t f i x).2 z = t.2 z := fun z hz => by
    funext j
    rw [rt_AA, if_neg (by omega)]
  have e2 : ∀ z, z < 23 ∨ 27 < z → sF (uF S f i x) z = sF S z := fun z hz => by
    funext j
    rw [sF_uF, if_neg (by omega)]
  refine ⟨h1, RF_A h2, ?_, ?_, ?_, ?_⟩
  · exact RH_c h3 rfl (e 106 (by omega)) (e 107 (by omega)) (e 108 (by omega)) (e2 106 (by omega)) (e2 107 (by omega)) (e2 108 (by omega))
  · exact RG_c h4 rfl (Nat.le_refl _) rfl (e 5 (by omega)) (e 6 (by omega)) (e 7 (by omega))
  · exact RW_c h5 rfl (Nat.le_refl _) rfl rfl (e 11 (by omega)) (e 12 (by omega)) (e 13 (by omega)) (e 14 (by omega)) (e 15 (by omega)) (e 17 (by omega)) (e 18 (by omega)) (e 19 (by omega)) (e 20 (by omega)) (e 21 (by omega))
  · exact RK_c h6 rfl rfl (e 76 (by omega)) (e 77 (by omega)) (e 79 (by omega))
theorem ri_put_211 {w k i n c0 h0 b0 : Nat} {L : List sP} (v0 : sC s 0 < 512) (hw : w < 12) (hk : k < 4) (hi : i + n ≤ 60) (hc : c0 + n ≤ 500) (eo : sF s 9 w = nI h0) (hh : h0 < 8) : ∀ (d j N : Nat) (T : r_T) (S : sA), j + d = n → d < N → RAW T S (s_act (uR s w (sC s 0 + 1) L) 0) → sC S 3 = c0 + j → sC S 0 = sC s 0 → sF S 9 = sF s 9 → sF S 112 = sF s 112 → sR S = sR s → s_nth S h0 (sC S 3) = b0 + j → b0 ≤ 500 → ivc S → ∃ T2, fn_X12_put_211 N (nI w) (nI k) (nI i) (nI n) (nI h0) (nI b0) (nI j) T = some (nI c0, T2) ∧ RA T2 (s_flt (s_act (uR (s_wl (s_cl s k i) w d j S) w (sC s 0 + 1) L) (nI c0)) 0) := by
  intro d
  induction d with
  | zero =>
    intro j N T S hj hN hT h3 h00 h9 h112 hR hn hb vS
    obtain ⟨N, rfl⟩ : ∃ m, N = m + 1 := ⟨N - 1, by omega⟩
    show ∃ T2, fn_X12_put_211b _ _ _ _ _ _ _ _ _ = _ ∧ RA T2 (s_flt (s_act (uR S w (sC s 0 + 1) L) (nI c0)) 0)
    unfold fn_X12_put_211b
    have hRW : RW T (s_act (uR S w (sC s 0 + 1) L) 0) := by
      refine RW_c (s := s_act (uR s w (sC s 0 + 1) L) 0) hT.2.2.2.2.1 ?_ ?_ rfl rfl rfl rfl rfl rfl rfl rfl rfl rfl rfl rfl
      · show sR (uR S w (sC s 0 + 1) L) = sR (uR s w (sC s 0 + 1) L)
        funext u m
        rw [sR_uR, sR_uR, hR]
      · show sC s 0 + 1 ≤ sC S 0 + 1
        omega
    have hT' : RAW T S (s_act (uR S w (sC s 0 + 1) L) 0) := ⟨hT.1, hT.2.1, hT.2.2.1, hT.2.2.2.1, hRW, hT.2.2.2.2.2⟩
    rw [fg_if_1 ((n_le (by omega) (by omega)).mpr (by omega)), hT.1.2.2.2.1, h3, n_sub (by omega), show c0 + j - n = c0 by omega, ri_actedW hT' vS, fg_b_1, ri_refused, fg_b_1]
    exact ⟨_, rfl, rs_flt (rs_actW hT' _) 0⟩
  | succ d ih =>
    intro j N T S hj hN hT h3 h00 h9 h112 hR hn hb vS
    obtain ⟨N, rfl⟩ : ∃ m, N = m + 1 := ⟨N - 1, by omega⟩
    show ∃ T2, fn_X12_put_211b (fn_X12_put_211 N) _ _ _ _ _ _ _ _ = _ ∧ _
    unfold fn_X12_put_211b s_wl
    have t22 := hT.1.2.2.2.1
    have g1 : vp_in (nI (sC S 3)) 500 := (n_vp (by omega)).mpr (by omega)
    rw [fg_if_0 (fun z => by have := (n_le (a := n) (b := j) (by omega) (by omega)).mp z; omega), show (60 : Int32) = nI 60 from rfl, n_mul, n_add, n_add, fg_g_1 ((n_vp (by omega)).mpr (by omega))]
    simp only [fg_let_1, rt_AF, t22, hT.1.1, fg_g_1 g1, q_nIx (show sC S 3 < 2 ^ 31 by omega), q_nIx (show 60 * k + i + j < 2 ^ 31 by omega), n_p1, n_add, hT.2.1 112 rfl]
    have hA := RAW_cnt (n := sC S 3 + 1) (RAW_A (f := 27) (i := sC S 3) (x := nI (b0 + j)) (RAW_A (f := 26) (i := sC S 3) (x := nI (sC S 0 + 1)) (RAW_A (f := 25) (i := sC S 3) (x := nI w) (RAW_A (f := 24) (i := sC S 3) (x := nI h0) (RAW_A (f := 23) (i := sC S 3) (x := sF S 112 (60 * k + i + j)) hT (by omega)) (by omega)) (by omega)) (by omega)) (by omega))
    have eW : s_w1 S (s_cl s k i j) w = uC (uF (uF (uF (uF (uF S 23 (sC S 3) (sF S 112 (60 * k + i + j))) 24 (sC S 3) (nI h0)) 25 (sC S 3) (nI w)) 26 (sC S 3) (nI (sC S 0 + 1))) 27 (sC S 3) (nI (b0 + j))) 3 (sC S 3 + 1) := by
      unfold s_w1 s_cl
      rw [h9, eo, q_nIx (by omega), hn, h112]
    rw [← eW] at hA
    refine ih (j + 1) N _ _ (by omega) (by omega) hA (by rw [s_w1_C, if_pos rfl]; omega) (by rw [s_w1_C, if_neg (by omega)]; exact h00) (by rw [s_w1_F _ _ 9 (by omega)]; exact h9) (by rw [s_w1_F _ _ 112 (by omega)]; exact h112) hR ?_ hb ⟨vS.1, vS.2.1, vS.2.2.1, by rw [s_w1_C, if_pos rfl]; omega, vS.2.2.2.2⟩
    rw [s_w1_C, if_pos rfl]
    show s_nth (s_w1 S (s_cl s k i j) w) h0 (sC S 3) + (if sF (s_w1 S (s_cl s k i j) w) 24 (sC S 3) = nI h0 then 1 else 0) = b0 + (j + 1)
    rw [s_nth_w1 _ _ _ _ (Nat.le_refl _), s_w1_24, h9, eo, if_pos rfl, hn]
    omega
theorem ri_put_171 {w k i n h0 : Nat} {L : List sP} (v : ivc s) (v0 : sC s 0 < 512) (hw : w < 12) (hk : k < 4) (hi : i + n ≤ 60) (hc : sC s 3 + n ≤ 500) (eo : sF s 9 w = nI h0) (hh : h0 < 8) (hT : RAW T s (s_act (uR s w (sC s 0 + 1) L) 0)) : ∀ (d j N : Nat), j + d = sC s 3 → d < N → ∃ T2, fn_X12_put_171 N (nI w) (nI k) (nI i) (nI n) (nI h0) (nI (s_nth s h0 j)) (nI j) T = some (nI (sC s 3), T2) ∧ RA T2 (s_flt (s_act (uR (s_wl (s_cl s k i) w n 0 s) w (sC s 0 + 1) L) (nI (sC s 3))) 0) := by
  have v3 := v.2.2.2.1
  have nle : ∀ m, s_nth s h0 m ≤ m := by
    intro m
    induction m with
    | zero => exact Nat.le_refl _
    | succ m ih =>
      show s_nth s h0 m + (if sF s 24 m = nI h0 then 1 else 0) ≤ m + 1
      split <;> omega
  intro d
  induction d with
  | zero =>
    intro j N hj hN
    obtain ⟨N, rfl⟩ : ∃ m, N = m + 1 := ⟨N - 1, by omega⟩
    obtain rfl : j = sC s 3 := by omega
    show ∃ T2, fn_X12_put_171b _ _ _ _ _ _ _ _ _ = _ ∧ _
    unfold fn_X12_put_171b
    rw [hT.1.2.2.2.1, fg_if_1 (Int32.le_refl _)]
    exact ri_put_211 v0 hw hk hi hc eo hh n 0 g_N T s (by omega) (by have := g_N_le; omega) hT rfl rfl rfl rfl rfl rfl (by have := nle (sC s 3); omega) v
  | succ d ih =>
    intro j N hj hN
    obtain ⟨N, rfl⟩ : ∃ m, N = m + 1 := ⟨N - 1, by omega⟩
    show ∃ T2, fn_X12_put_171b (fn_X12_put_171 N) _ _ _ _ _ _ _ _ = _ ∧ _
    unfold fn_X12_put_171b
    rw [hT.1.2.2.2.1, fg_if_0 (fun z => by have := (n_le (a := sC s 3) (b := j) (by omega) (by omega)).mp z; omega), fg_g_1 ((n_vp (by omega)).mpr (by omega)), q_nIx (by omega), hT.2.1 24 rfl, Int32.add_zero, n_p1, n_p1]
    have := ih (j + 1) N (by omega) (by omega)
    by_cases c : sF s 24 j = nI h0
    · have e : s_nth s h0 (j + 1) = s_nth s h0 j + 1 := by show s_nth s h0 j + (if sF s 24 j = nI h0 then 1 else 0) = _; rw [if_pos c]
      rw [e] at this
      rw [fg_if_1 c]
      exact this
    · have e : s_nth s h0 (j + 1) = s_nth s h0 j := by show s_nth s h0 j + (if sF s 24 j = nI h0 then 1 else 0) = _; rw [if_neg c]; rfl
      rw [e] at this
      rw [fg_if_0 c]
      exact this
theorem s_wl_R (C : Nat → Int32) (w : Nat) {u m : Nat} {l : List sP} : ∀ (d j : Nat) (S : sA), uR (s_wl C w d j S) u m l = s_wl C w d j (uR S u m l) := by
  intro d
  induction d with
  | zero => intro j S; rfl
  | succ d ih =>
    intro j S
    show uR (s_wl C w d (j + 1) (s_w1 S (C j) w)) u m l = s_wl C w d (j + 1) (s_w1 (uR S u m l) (C j) w)
    rw [ih]
    congr 1
    unfold s_w1
    have e : ∀ h n, s_nth (uR S u m l) h n = s_nth S h n := by
      intro h n
      induction n with
      | zero => rfl
      | succ n ih2 => unfold s_nth; rw [ih2]; rfl
    rw [e]
    rfl
end RPt
