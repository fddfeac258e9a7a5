section CSt
variable {k k2 : h_S} {s : sA} {y : c_Y} {M : Nat}
theorem cs_settled (h : CBM k s M y) {c : Nat} (hc : c < sC s 7) : CBM (h_si k (yA y 5 c) 3 1) (uF s 78 c 1) M y := by
  obtain ⟨h1, h2, h3, h4, d1, d2, d3, d4, d5, d6, d7, d8, d9, d10⟩ := h
  have ht : c_tg 10 (yA y 5 c) := (d4.1 c hc).1
  have g : c_ag (List.range 60) [1, 2, 3, 4, 5, 6, 7, 8, 9, 11, 12, 13, 14] k (h_si k (yA y 5 c) 3 1) := c_ag_siT ht (by decide) (fun a ha => by have := List.mem_range.mp ha; omega)
  have ff : ∀ x, x ≠ 78 → sF (uF s 78 c 1) x = sF s x := by
    intro x a
    funext q
    rw [sF_uF, if_neg a]
  have fm : ∀ (l : List Nat), 78 ∉ l → ∀ x, x ∈ l → sF (uF s 78 c 1) x = sF s x := fun l a x hx => ff x (fun e => a (e ▸ hx))
  refine ⟨h1, ?_, ?_, ?_, KL_fr d1 g (by decide) (by decide) (fun _ _ => rfl), KW_fr d2 g (by decide) (by decide) rfl (fm _ (by decide)), KV_fr d3 g (by decide) (by decide) rfl (fm _ (by decide)) (fun _ _ => rfl), ?_, KK_fr d5 g (by decide) (by decide) rfl (fm _ (by decide)), KR_fr d6 g (by decide) rfl (fm _ (by decide)), KT_fr d7 g (by decide) (fm _ (by decide)), KH_fr d8 g (by decide) rfl (fm _ (by decide)), KP_fr d9 g (by decide) (by decide) (by decide) (by decide) (by decide) rfl (Nat.le_refl _) rfl, KX_fr d10 g (by decide) (by decide) (by decide) (Nat.le_refl _) (Nat.le_refl _) (fun _ _ _ _ _ _ => rfl)⟩
  · unfold KN at *
    rw [(g.1 0 (by decide)).2.2.1, (g.1 3 (by decide)).2.2.1]
    exact h2
  · refine ⟨?_, ?_, ?_⟩
    · rw [(g.1 1 (by decide)).2.2.1, ff 2 (by decide)]; exact h3.1
    · rw [(g.1 15 (by decide)).2.2.1, ff 9 (by decide)]; exact h3.2.1
    · rw [(g.1 11 (by decide)).2.2.1, ff 104 (by decide)]; exact h3.2.2
  · unfold KG
    rw [(g.1 2 (by decide)).2.2.1]
    exact h4
  · refine ⟨fun q hq => ?_, d4.2⟩
    have hq : q < sC s 7 := hq
    obtain ⟨a1, a2, a3, a4, a5, b, a7, a8⟩ := d4.1 q hq
    rw [ff 75 (by decide)]
    by_cases e : q = c
    · subst e
      refine ⟨a1, a2, ?_, ?_, ?_, b, a7, c_ar_fr a8 g (by decide)⟩
      · rw [h_i_si, if_neg (by omega)]; exact a3
      · rw [h_i_si, if_neg (by omega)]; exact a4
      · rw [h_i_si, sF_uF, if_pos ⟨rfl, rfl⟩, if_pos rfl, if_pos rfl]
    · have ne : yA y 5 q ≠ yA y 5 c := fun w => e (d4.2 q c hq hc w)
      rw [sF_uF, if_pos rfl, if_neg e, (c_eq_si ne).2.2.1]
      exact ⟨a1, a2, a3, a4, a5, b, a7, c_ar_fr a8 g (by decide)⟩
section G
variable {o r b wb : Nat} {S W : List Int32}
theorem ci_placeIn_18 (ho : h_k k o = 21) (hr : h_k k r = 27) (hrb : h_r k r 2 = some b) (hb : h_k k b = 1) (hbn : S.length ≤ h_n k b) (hS : S.length ≤ 300) (hbG : ∀ (j : Nat) (x : Int32), S[j]? = some x → h_i k b j = x) (how : h_r k o 1 = some wb) (hw : h_k k wb = 1) (hwn : h_n k wb = W.length) (hwG : ∀ (j : Nat) (x : Int32), W[j]? = some x → h_i k wb j = x) {K2 : Nat → Option Nat → Int32 → h_S → Option ((Int32) × h_S)} {p : Nat} (hp : p + W.length ≤ S.length) : ∀ (d j N : Nat), j + d = W.length → d < N → (∀ i, i < j → S[p + i]? = W[i]?) → fn_X0_placeIn_18 K2 N o (some r) (nI p) (nI j) k = fg_if (s_st S W p) (some (nI p, k)) (K2 o (some r) (nI (p + 1)) k) := by
  have en : Int32.ofNat (h_n k wb) = nI W.length := by rw [hwn]; rfl
  intro d
  induction d with
  | zero =>
    intro j N hj hN hi
    obtain ⟨N, rfl⟩ : ∃ m, N = m + 1 := ⟨N - 1, by omega⟩
    show fn_X0_placeIn_18b _ _ _ _ _ _ _ = _
    unfold fn_X0_placeIn_18b fn_X0_placeIn_50
    have e : nI j = nI W.length := by rw [← hj]; rfl
    rw [fg_g_1 ho, how, fg_o_1, fg_g_1 hw, en, fg_if_1 ((n_le (by omega) (by omega)).mpr (by omega)), fg_g_1 ho, fg_o_1, fg_g_1 hw, en, fg_if_1 e, fg_if_1 ⟨hp, fun i hi2 => hi i (by omega)⟩]
  | succ d ih =>
    intro j N hj hN hi
    obtain ⟨N, rfl⟩ : ∃ m, N = m + 1 := ⟨N - 1, by omega⟩
    have hj1 : p + j < S.length := by omega
    have hj2 : j < W.length := by omega
    have g1 : vp_in (nI (p + j)) (h_n k b) := (n_vp (by omega)).mpr (by omega)
    have g2 : vp_in (nI j) W.length := (n_vp (by omega)).mpr (by omega)
    show fn_X0_placeIn_18b _ (fn_X0_placeIn_18 K2 N) _ _ _ _ _ = _
    unfold fn_X0_placeIn_18b
    rw [fg_g_1 ho, how, fg_o_1, fg_g_1 hw, en, fg_if_0 (fun q => by have := (n_le (a := W.length) (b := j) (by omega) (by omega)).mp q; omega), fg_o_1, fg_g_1 hr, hrb, fg_o_1, fg_g_1 hb, n_add, fg_g_1 g1, fg_o_1, fg_g_1 hw, hwn, fg_g_1 g2, q_nIx (by omega), q_nIx (by omega), hbG _ _ (List.getElem?_eq_getElem hj1), hwG _ _ (List.getElem?_eq_getElem hj2), n_p1]
    by_cases c1 : S[p + j] = W[j]
    · rw [fg_if_1 c1]
      refine ih (j + 1) N (by omega) (by omega) (fun i hi2 => ?_)
      by_cases e : i = j
      · rw [e, List.getElem?_eq_getElem hj1, List.getElem?_eq_getElem hj2, c1]
      · exact hi i (by omega)
    · have ns : ¬ s_st S W p := fun q => c1 (by
        have := q.2 j hj2
        rw [List.getElem?_eq_getElem hj1, List.getElem?_eq_getElem hj2] at this
        injection this)
      rw [fg_if_0 c1, fg_if_0 ns]
      unfold fn_X0_placeIn_50
      rw [fg_g_1 ho, how, fg_o_1, fg_g_1 hw, en, fg_if_0 (fun q => by have := (n_eq (by omega) (by omega)).mp q; omega), n_p1]
theorem ci_placeIn_2 (ho : h_k k o = 21) (hr : h_k k r = 27) (hr1 : h_i k r 1 = nI S.length) (hrb : h_r k r 2 = some b) (hb : h_k k b = 1) (hbn : S.length ≤ h_n k b) (hS : S.length ≤ 300) (hbG : ∀ (j : Nat) (x : Int32), S[j]? = some x → h_i k b j = x) (how : h_r k o 1 = some wb) (hw : h_k k wb = 1) (hwn : h_n k wb = W.length) (hwG : ∀ (j : Nat) (x : Int32), W[j]? = some x → h_i k wb j = x) (h1 : 1 ≤ W.length) (h2 : W.length ≤ 600) : ∀ (d p N : Nat), p + d = S.length → d < N → fn_X0_placeIn_2 N o (some r) (nI p) k = some (fg_if (s_fp S W d p < S.length) (nI (s_fp S W d p)) (-9), k) := by
  have en : Int32.ofNat (h_n k wb) = nI W.length := by rw [hwn]; rfl
  have es : (nI S.length - nI W.length).toInt = (S.length : Int) - W.length := by rw [q_sub (by rw [q_nI (by omega), q_nI (by omega)]; omega) (by rw [q_nI (by omega), q_nI (by omega)]; omega), q_nI (by omega), q_nI (by omega)]
  have el : ∀ p, p ≤ 300 → (nI S.length - nI W.length < nI p ↔ S.length < p + W.length) := by
    intro p hp
    rw [Int32.lt_iff_toInt_lt, es, q_nI (by omega)]
    omega
  intro d
  induction d with
  | zero =>
    intro p N hp hN
    obtain ⟨N, rfl⟩ : ∃ m, N = m + 1 := ⟨N - 1, by omega⟩
    show fn_X0_placeIn_2b _ _ _ _ _ = _
    unfold fn_X0_placeIn_2b
    have e0 : s_fp S W 0 p = p := rfl
    rw [fg_o_1, fg_g_1 hr, fg_g_1 ho, how, fg_o_1, fg_g_1 hw, hr1, en, fg_if_1 ((el p (by omega)).mpr (by omega)), e0, fg_if_0 (by omega)]
  | succ d ih =>
    intro p N hp hN
    obtain ⟨N, rfl⟩ : ∃ m, N = m + 1 := ⟨N - 1, by omega⟩
    show fn_X0_placeIn_2b (fn_X0_placeIn_2 N) _ _ _ _ = _
    unfold fn_X0_placeIn_2b
    rw [fg_o_1, fg_g_1 hr, fg_g_1 ho, how, fg_o_1, fg_g_1 hw, hr1, en]
    by_cases c1 : S.length < p + W.length
    · rw [fg_if_1 ((el p (by omega)).mpr c1), s_fp_n _ _ c1, fg_if_0 (by omega)]
    · have e18 := ci_placeIn_18 ho hr hrb hb hbn hS hbG how hw hwn hwG (K2 := fn_X0_placeIn_2 N) (p := p) (by omega) W.length 0 g_N (by omega) (by have := g_N_le; omega) (fun i hi => by omega)
      have e18' : fn_X0_placeIn_18 (fn_X0_placeIn_2 N) g_N o (some r) (nI p) 0 k = _ := e18
      rw [fg_if_0 (fun q => c1 ((el p (by omega)).mp q)), e18']
      unfold s_fp
      by_cases c2 : s_st S W p
      · rw [fg_if_1 c2, fg_if_1 c2, fg_if_1 (by omega)]
      · rw [fg_if_0 c2, fg_if_0 c2]
        exact ih (p + 1) N (by omega) (by omega)
end G
theorem cs_settle (h : CB k s y) (v : ivc s) (g : ivg s) (v0 : sC s 0 < 512) (vt : ivt s) (vp : ivp s) (vq : ivq s) (vx : ivx s) (vv : ivv s) (vk : ivK s) (c w : Int32) : ∃ k2 cc dd y2, fn_X11_settle c w k = some ((s_settle s c w).1, k2, cc, dd) ∧ CB k2 (s_settle s c w).2 y2 ∧ cc + zC y2 ≤ zC y + 6 ∧ dd + zD y2 ≤ zD y + 47 := by
  have v2 := v.2.2.1
  have v7 := v.2.2.2.2.2.2.2.1
  have hl := h.2.2.2.2.1.2.1
  have ew : fn_X11_within w 3 k = some (q_b (q_in w ((3 : Nat) : Int)), k) := ci_withinN w (n := 3) (by decide)
  unfold fn_X11_settle s_settle
  rw [ci_size (ck_5 h.1) hl, fg_b_1, ci_withinN c (by omega), fg_b_1, q_b_if]
  by_cases c1 : q_in c (sC s 7)
  · rw [fg_if_1 c1, ew, fg_b_1, q_b_if]
    simp only [fg_if_1 c1]
    by_cases c2 : q_in w 3
    · have c2' : q_in w ((3 : Nat) : Int) := c2
      obtain ⟨e1, l1⟩ := n_in c1
      generalize h_ix c = c0 at e1 l1
      subst e1
      obtain ⟨⟨w0, hw0, ew0⟩, k1, k2', k3, k4, k5⟩ := vk c0 l1
      obtain ⟨_, m1, m2, m3, m4, wb, m5, m6⟩ := h.2.2.2.2.2.2.2.1.1 c0 l1
      have hg : ∀ x, some (yA y 5 c0) = some x → h_k k x = 21 := by
        intro z hz
        cases hz
        exact m1
      have el : (s_cw s c0).length = (sK s c0).1.length + (sK s c0).2.length := by unfold s_cw; rw [List.length_append]
      rw [fg_if_1 c2', ci_get (ck_5 h.1) hl l1, fg_b_1, fg_g_1 hg, fg_o_1, fg_g_1 m1, m4]
      simp only [fg_if_1 c2]
      by_cases c3 : sF s 78 c0 = 0
      · obtain ⟨K1, y1, i, ca, da, f1, f2, f3, ⟨b, g1, g2, g3, g4, g5, g6⟩, f5, f6, f7, f8, f9⟩ := CB_show (CB_M h) v vp vq (by omega) hw0 (Nat.le_refl _)
        have eS : s_SH s (nI w0) = s_sh (sR s) 4 w0 (sC s 0) := by unfold s_SH; rw [q_nIx (by omega)]
        have hS : (s_SH s (nI w0)).length ≤ 300 := s_sh_300 _ _ _ _
        have eA : yA y1 5 c0 = yA y 5 c0 := by unfold yA; rw [f6.2.1]
        obtain ⟨_, n1, n2, n3, n4, wb1, n5, n6⟩ := f5.2.2.2.2.2.2.2.1.1 c0 l1
        rw [eA] at n1 n2 n3 n4 n5
        rw [← eS] at f3 g4 g6
        have ep := ci_placeIn_2 n1 f2 f3 g1 g3 g4 hS g6 n5 n6.2.1 n6.2.2.1 n6.2.2.2 (by rw [List.length_append]; omega) (by rw [List.length_append]; omega) (s_SH s (nI w0)).length 0 g_N (by omega) (by have := g_N_le; omega)
        have esp : s_sp s c0 = s_fp (s_SH s (nI w0)) ((sK s c0).1 ++ (sK s c0).2) (s_SH s (nI w0)).length 0 := by unfold s_sp s_cw; rw [ew0]
        rw [← esp] at ep
        have ep' : fn_X0_placeIn (yA y 5 c0) (some (yS y1 i)) K1 = _ := ep
        rw [fg_if_1 c3, fg_o_1, fg_g_1 m1, m2, ew0, h.2.1.1, f1, fg_bc_1, fg_o_1, fg_g_1 n1, ep', fg_b_1]
        by_cases c4 : s_sp s c0 < (s_SH s (nI w0)).length
        · have cc : sF s 78 c0 = 0 ∧ s_sp s c0 < (s_SH s (nI w0)).length := ⟨c3, c4⟩
          have hst := s_fp_s (S := s_SH s (nI w0)) (W := (sK s c0).1 ++ (sK s c0).2) (s_SH s (nI w0)).length 0 (by rw [← esp]; omega)
          rw [← esp] at hst
          obtain ⟨hn1, hn2⟩ := s_sfn vk l1 w
          have hst1 : s_sp s c0 + (s_cw s c0).length ≤ _ := hst.1
          rw [fg_if_1 c4]
          simp only [fg_if_1 cc]
          have elen : Int32.ofNat (h_n K1 wb1) = nI ((sK s c0).1.length + (sK s c0).2.length) := by rw [n6.2.2.1, List.length_append]; rfl
          have e118 : ∃ k2 cc dd y2, fn_X11_settle_118 (some (yA y 5 c0)) (nI (s_sp s c0)) (nI (s_sf s c0 w)) (nI (s_sf s c0 w + s_sn s c0 w)) K1 = some ((fg_if ((s_sl s c0 w).length ≤ 24) (nI (s_sn s c0 w), s_act (s_new (uF s 78 c0 1) (nI w0) (s_sl s c0 w)) (nI (s_sn s c0 w))) (-4, s)).1, k2, cc, dd) ∧ CB k2 (fg_if ((s_sl s c0 w).length ≤ 24) (nI (s_sn s c0 w), s_act (s_new (uF s 78 c0 1) (nI w0) (s_sl s c0 w)) (nI (s_sn s c0 w))) (-4, s)).2 y2 ∧ cc + zC y2 ≤ zC y1 + 6 ∧ dd + zD y2 ≤ zD y1 + 47 := by
            obtain ⟨K3, y3, x3, z3, d1, d2, d3, d4, d5⟩ := ci_takeOut f5 v v0 vt vp vq vx vv hw0 (f := s_sp s c0 + s_sf s c0 w) (n := s_sn s c0 w) hn1 (by omega)
            have eR : s_row s (nI w0) = sR s w0 (sC s 0) := by unfold s_row; rw [q_nIx (by omega)]
            have esl : s_sl s c0 w = (e_lift (e_z s (sC s 0)) (s_sp s c0 + s_sf s c0 w) (s_sn s c0 w) (sR s w0 (sC s 0))).2 := by unfold s_sl; rw [ew0, eR]
            rw [← esl] at d1 d4 d5
            unfold fn_X11_settle_118
            rw [fg_o_1, fg_g_1 n1, n2, ew0, n_add, n_sub (by omega), Nat.add_sub_cancel_left, d1, fg_bc_1, q_b_if]
            by_cases c5 : (s_sl s c0 w).length ≤ 24
            · obtain ⟨r1, r2, r3⟩ := d4 c5
              have eA3 : yA y3 5 c0 = yA y 5 c0 := by unfold yA; rw [r3]; exact eA
              have hs := cs_settled r1 (c := c0) l1
              have k21 := (r1.2.2.2.2.2.2.2.1.1 c0 l1).2.1
              rw [eA3] at hs k21
              simp only [fg_if_1 c5]
              have i0 : h_i (h_si K3 (yA y 5 c0) 3 1) 0 0 = nI (sC s 0) := hs.2.1.1
              rw [fg_o_1, fg_g_1 k21, fg_let_1, ci_acted i0 v.1, fg_b_1]
              simp only [fg_c_1]
              exact ⟨_, _, _, y3, rfl, cs_act (s := s_new (uF s 78 c0 1) (nI w0) (s_sl s c0 w)) hs (Nat.le_refl _) g _, by omega, by omega⟩
            · simp only [fg_if_0 c5, fg_c_1]
              exact ⟨K3, _, _, y3, rfl, d5 c5, by omega, by omega⟩
          have e71 : fn_X11_settle_71 w (some (yA y 5 c0)) (nI (s_sp s c0)) K1 = fn_X11_settle_118 (some (yA y 5 c0)) (nI (s_sp s c0)) (nI (s_sf s c0 w)) (nI (s_sf s c0 w + s_sn s c0 w)) K1 := by
            unfold fn_X11_settle_71 fn_X11_settle_102 s_sf s_sn
            rw [fg_if_0 (n_9 (by omega)), fg_o_1, fg_g_1 n1, n5, fg_o_1, fg_g_1 n6.2.1, elen, fg_o_1, fg_g_1 n1, n3]
            simp only [fg_o_1, fg_g_1 n1, n3]
            by_cases d1 : w = 0
            · have d2 : ¬ w = 1 := by rw [d1]; decide
              simp only [fg_if_1 d1, fg_if_0 d2]
            · simp only [fg_if_0 d1]
              by_cases d2 : w = 1
              · simp only [fg_if_1 d2, Nat.zero_add]
                rfl
              · simp only [fg_if_0 d2, Nat.zero_add]
                rfl
          rw [e71]
          obtain ⟨K5, cc5, dd5, y5, r1, r2, r3, r4⟩ := e118
          rw [r1]
          simp only [fg_c_1]
          exact ⟨K5, _, _, y5, rfl, r2, by omega, by omega⟩
        · have cc : ¬ (sF s 78 c0 = 0 ∧ s_sp s c0 < (s_SH s (nI w0)).length) := fun q => c4 q.2
          rw [fg_if_0 c4]
          unfold fn_X11_settle_71
          simp only [fg_if_0 cc, fg_if_T, fg_c_1]
          exact ⟨K1, _, _, y1, rfl, f5, by omega, by omega⟩
      · have cc : ¬ (sF s 78 c0 = 0 ∧ s_sp s c0 < (s_SH s (sF s 75 c0)).length) := fun q => c3 q.1
        rw [fg_if_0 c3]
        unfold fn_X11_settle_71
        simp only [fg_if_0 cc, fg_if_T]
        exact ⟨k, 0, 0, y, rfl, h, by omega, by omega⟩
    · have c2' : ¬ q_in w ((3 : Nat) : Int) := c2
      rw [fg_if_0 c2']
      simp only [fg_if_0 c2]
      exact ⟨k, 0, 0, y, rfl, h, by omega, by omega⟩
  · rw [fg_if_0 c1]
    simp only [fg_if_0 c1]
    exact ⟨k, 0, 0, y, rfl, h, by omega, by omega⟩
end CSt
