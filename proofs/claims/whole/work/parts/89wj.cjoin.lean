/-! join of the class -/
section CJn
variable {k k2 k3 k4 k5 : h_S} {s : sA} {y : c_Y} {M : Nat} {J P Q : List Int32}
theorem w_sg_of {st n : Nat} {W : List Int32} (hW : W.length = n) (hl : st + n ≤ J.length) (h : ∀ (j : Nat) (x : Int32), W[j]? = some x → J[st + j]? = some x) : w_sg J st (st + n) = W := by
  apply List.ext_getElem?
  intro j
  by_cases c : j < n
  · rw [w_sg_at (by omega) hl]
    have e := List.getElem?_eq_getElem (show j < W.length by omega)
    have := h j _ e
    rw [w_c_in (by omega)] at this
    rw [e, this]
  · rw [List.getElem?_eq_none (by rw [w_sg_len hl]; omega), List.getElem?_eq_none (by omega)]
theorem ci_cpr {st en : Nat} (hF : c_F k) (hj : c_jn k J) (hJ : J.length ≤ 600) (h1 : st ≤ en) (h2 : en ≤ J.length) : ∃ q k2, fn_J7_copyOfRange_feecc (some 47) (nI st) (nI en) k = some (some q, k2, 1, en - st) ∧ c_F k2 ∧ c_ar k2 11 q (w_sg J st en) ∧ c_jk k k2 ∧ h_k k q = 0 := by
  obtain ⟨q, eq⟩ : ∃ q, c_ad 11 k = q := ⟨_, rfl⟩
  have q0 : h_k k q = 0 := by rw [← eq]; exact cf_z hF rfl
  have q8 : c_tg 11 q := by rw [← eq]; unfold c_tg c_ad; omega
  have q47 : (47 : Nat) ≠ q := by have := q8.1; omega
  have k47 : h_k k 47 = 1 := cf_k hF rfl (by decide)
  have n47 : h_n k 47 = 600 := cf_n (a := 47) hF rfl (by decide) rfl
  have lw := w_sg_len (R := J) (f := st) h2
  have jk : ∀ K, (∀ a, a ≠ q → c_eq k K a) → c_jk k K := fun K hK a ha => hK a (fun e => by
    rcases ha with w | w
    · exact w (by rw [e]; exact q0)
    · have := q8.1; omega)
  have ten : fn_J7_copyOfRange_feecc_10 (some 47) (nI st) (nI en) k = some (some q, h_cp (h_nw k q 1 (en - st)) 47 st q 0 (en - st), 1, en - st) := by
    have e1 : h_k (h_nw k q 1 (en - st)) 47 = 1 := by rw [h_k_nw, if_neg q47]; exact k47
    have e2 : h_k (h_nw k q 1 (en - st)) q = 1 := by rw [h_k_nw, if_pos rfl]
    have e3 : h_n (h_nw k q 1 (en - st)) 47 = 600 := by rw [h_n_nw, if_neg q47]; exact n47
    have e4 : h_n (h_nw k q 1 (en - st)) q = en - st := by rw [h_n_nw, if_pos rfl]
    have e5 : h_min (Int32.ofNat 600 - nI st) (nI (en - st)) = nI (en - st) := by
      rw [show Int32.ofNat 600 = nI 600 from rfl, n_sub (by omega), n_min _ _ (by omega) (by omega), Nat.min_eq_right (by omega)]
    have g1 : ¬ nI (en - st) < 0 := n_neg (by omega)
    have g2 : (en - st) * 4 ≤ 536870912 := by omega
    have g3 : ¬ (0 : Int32) < 0 := by decide
    have g4 : ¬ nI st < 0 := n_neg (by omega)
    have g5 : st + (en - st) ≤ 600 := by omega
    have g6 : en - st ≤ en - st := Nat.le_refl _
    unfold fn_J7_copyOfRange_feecc_10 fn_J7_copyOfRangeInt_feecc fn_J7_checkLength_df160
    rw [fg_if_1 ((n_le (by omega) (by omega)).mpr h1), fg_bc_1]
    simp only [n_sub h1, q_nIx (show en - st < 2 ^ 31 by omega), q_nIx (show st < 2 ^ 31 by omega), fg_g_1 g1, fg_g_1 g2, fg_let_1, eq, fg_o_1, fg_g_1 e1, fg_g_1 e2, fg_g_1 g3, fg_g_1 g4, e3, e4, e5, show h_ix (0 : Int32) = 0 from rfl, fg_g_1 g5, fg_g_1 g6, fg_c_1, fg_bc_1, Nat.add_zero, Nat.zero_add]
  have cpF : c_F (h_cp (h_nw k q 1 (en - st)) 47 st q 0 (en - st)) := cf_cp (cf_nw hF eq.symm (by decide)) _ _ _
  have cpA : c_ar (h_cp (h_nw k q 1 (en - st)) 47 st q 0 (en - st)) 11 q (w_sg J st en) := by
    refine ⟨q8, by show h_k (h_nw k q 1 (en - st)) q = 1; rw [h_k_nw, if_pos rfl], by show h_n (h_nw k q 1 (en - st)) q = _; rw [h_n_nw, if_pos rfl, lw], fun j x hx => ?_⟩
    have hj2 := (List.getElem?_eq_some_iff.mp hx).1
    rw [w_sg_at (by omega) h2] at hx
    rw [h_cp_af, h_i_af, if_pos rfl]
    unfold va_cpy
    rw [if_pos (by omega), h_i_nw, if_neg q47, show st + (j - 0) = st + j by omega]
    rw [hj.2 _ _ (w_c_in (show st + j < J.length by omega))]
    exact Option.some.inj hx
  have cpJ : c_jk k (h_cp (h_nw k q 1 (en - st)) 47 st q 0 (en - st)) := jk _ (fun a ha => c_eqt (c_eq_nw ha) (by rw [h_cp_af]; exact c_eq_af ha))
  unfold fn_J7_copyOfRange_feecc
  by_cases c1 : st = 0
  · rw [fg_if_1 (by rw [c1]; rfl), fg_o_1, fg_g_1 k47, n47]
    by_cases c2 : en = 600
    · have e1 : h_k (h_cl k q 47) q = 1 := by rw [h_k_cl, if_pos rfl]
      rw [fg_if_1 (by rw [c2]; rfl), fg_o_1, fg_g_1 k47]
      simp only [fg_let_1, eq, fg_g_1 e1, fg_c_1, n47]
      refine ⟨q, _, by rw [c1, c2], cf_cl hF eq.symm (by decide), ⟨q8, e1, by rw [h_n_cl, if_pos rfl, n47, lw, c1, c2], fun j x hx => ?_⟩, jk _ (fun a ha => c_eq_cl ha), q0⟩
      have hj2 := (List.getElem?_eq_some_iff.mp hx).1
      rw [w_sg_at (by omega) h2, c1, Nat.zero_add] at hx
      rw [h_i_cl, if_pos rfl, hj.2 _ _ (w_c_in (show j < J.length by omega))]
      exact Option.some.inj hx
    · have c2' : ¬ nI en = Int32.ofNat 600 := fun w => c2 ((n_eq (b := 600) (by omega) (by omega)).mp w)
      rw [fg_if_0 c2', ten]
      exact ⟨q, _, rfl, cpF, cpA, cpJ, q0⟩
  · have c1' : ¬ nI st = 0 := fun w => c1 ((n_eq (b := 0) (by omega) (by omega)).mp w)
    rw [fg_if_0 c1', ten]
    exact ⟨q, _, rfl, cpF, cpA, cpJ, q0⟩
/-- a clash's object -/
def c_co (k : h_S) (q : Nat) (w : Int32) (x : List Int32 × List Int32) : Prop := c_tg 10 q ∧ h_k k q = 21 ∧ h_i k q 0 = w ∧ h_i k q 2 = nI x.1.length ∧ h_i k q 3 = 0 ∧ ∃ b, h_r k q 1 = some b ∧ c_ar k 11 b (x.1 ++ x.2)
theorem ci_clashAt {L : List (List Int32 × List Int32)} {n : Nat} {w : Int32} (hF : c_F k) (hj : c_jn k J) (hJ : J.length ≤ 600) (hc : c_cn k J L) (hn : L[n]? = some (P, Q)) (h12 : n < 12) : ∃ q k2 e, fn_X9_clashAt (nI n) w k = some (some q, k2, 2, e) ∧ e ≤ 604 ∧ c_F k2 ∧ c_co k2 q w (P, Q) ∧ c_jk k k2 ∧ h_k k q = 0 := by
  obtain ⟨st, a1, a2, a3, a4, a5⟩ := hc.2 n P Q hn h12
  have ew := w_sg_of (J := J) (st := st) (n := P.length + Q.length) (W := P ++ Q) (by rw [List.length_append]) (by omega) a5
  obtain ⟨b, K1, p1, p2, p3, p4, p5⟩ := ci_cpr (st := st) (en := st + P.length + Q.length) hF hj hJ (by omega) a1
  rw [Nat.add_assoc, ew] at p3
  obtain ⟨q, eq⟩ : ∃ q, c_ad 10 K1 = q := ⟨_, rfl⟩
  have q0 : h_k K1 q = 0 := by rw [← eq]; exact cf_z p2 rfl
  have q8 : c_tg 10 q := by rw [← eq]; unfold c_tg c_ad; omega
  have q1 := q8.1
  have g : vp_in (nI n) 12 := (n_vp (by omega)).mpr h12
  have kq : h_k (h_nw K1 q 21 4) q = 21 := by rw [h_k_nw, if_pos rfl]
  have bq : b ≠ q := fun e => by have := p3.2.1; rw [e, q0] at this; exact absurd this (by decide)
  have z0 : h_k k q = 0 := by
    rcases Nat.eq_zero_or_pos (h_k k q) with w | w
    · exact w
    · have := (p4 q (Or.inl (by omega))).1; omega
  have x49 : h_i (h_nw K1 q 21 4) 49 n = nI (st + P.length) := by rw [h_i_nw, if_neg (by omega), (p4 49 (Or.inr (by omega))).2.2.1]; exact a3
  have x48 : h_i (h_nw K1 q 21 4) 48 n = nI st := by rw [h_i_nw, if_neg (by omega), (p4 48 (Or.inr (by omega))).2.2.1]; exact a2
  obtain ⟨K2, hK2⟩ : ∃ K2, K2 = h_si (h_sr (h_si (h_nw K1 q 21 4) q 0 w) q 1 (some b)) q 2 (nI P.length) := ⟨_, rfl⟩
  have F1 : c_F (h_nw K1 q 21 4) := cf_nw p2 eq.symm (by decide)
  have F2 : c_F K2 := by
    rw [hK2]
    exact cf_si (cf_sr (kd := 21) (cf_si F1 0 w) kq (by decide) 1) 2 _
  have eqs : ∀ a, a ≠ q → c_eq K1 K2 a := fun a ha => by rw [hK2]; exact c_eqt (c_eqt (c_eqt (c_eq_nw ha) (c_eq_si ha)) (c_eq_sr ha)) (c_eq_si ha)
  refine ⟨q, K2, st + P.length + Q.length - st + 4, ?_, by omega, F2, ⟨q8, by rw [hK2]; exact kq, ?_, ?_, ?_, b, ?_, ?_⟩, ?_, z0⟩
  · have e12 : fn_X11_within (nI n) 12 k = some (q_b (q_in (nI n) ((12 : Nat) : Int)), k) := ci_withinN _ (n := 12) (by decide)
    unfold fn_X9_clashAt
    rw [e12, fg_b_1, q_b_if, fg_if_1 ((n_inI (by omega)).mpr h12), fg_g_1 g, fg_g_1 g, cf_r hF (show c_fr 10 10 = some 47 by decide), q_nIx (show n < 2 ^ 31 by omega), a2, a4, p1, fg_bc_1, fg_let_1, eq, fg_let_1, fg_g_1 g, fg_g_1 g, x48, x49, n_sub (by omega), show st + P.length - st = P.length by omega]
    unfold fn_X0_init
    rw [fg_g_1 kq, fg_let_1, fg_let_1, fg_let_1, ← hK2, fg_b_1, fg_c_1, fg_c_1]
  · rw [hK2, h_i_si, if_neg (by omega)]; show h_i (h_si (h_nw K1 q 21 4) q 0 w) q 0 = w; rw [h_i_si, if_pos ⟨rfl, rfl⟩]
  · rw [hK2, h_i_si, if_pos ⟨rfl, rfl⟩]
  · rw [hK2, h_i_si, if_neg (by omega)]
    show h_i (h_si (h_nw K1 q 21 4) q 0 w) q 3 = 0
    rw [h_i_si, if_neg (by omega), h_i_nw, if_pos rfl]
  · rw [hK2]
    show h_r (h_sr (h_si (h_nw K1 q 21 4) q 0 w) q 1 (some b)) q 1 = some b
    rw [h_r_sr, if_pos ⟨rfl, rfl⟩]
  · have e := eqs b bq
    unfold c_ar at *
    rw [e.1, e.2.1, e.2.2.1]
    exact p3
  · exact c_jk_t p4 (fun a ha => eqs a (fun e => by
      rcases ha with w | w
      · exact w (by rw [e]; exact q0)
      · omega))
theorem cs_addC1 {q E2 : Nat} {w : Int32} {x : List Int32 × List Int32} (h : CBM k s M y) (gj : c_jk k k4) (q0 : h_k k q = 0) (hq : c_co k4 q w x) (hz : sF s 78 (sC s 7) = 0) (hx : c_ADD k4 k5 5 (sC s 7) (yE y 5) E2 q (yA y 5)) : CBM k5 (uC (uK (uF s 75 (sC s 7) w) (sC s 7) x) 7 (sC s 7 + 1)) M (yUL y 5 E2 (fun i => if i = sC s 7 then q else yA y 5 i)) := by
  obtain ⟨h1, h2, h3, h4, d1, d2, d3, d4, d5, d6, d7, d8, d9, d10⟩ := h
  have ga := c_jk_ag gj
  have gb : c_ag ((List.range 60).filter (fun a => a != 5)) [1, 2, 3, 4, 5, 6, 8, 9, 10, 11, 12, 13, 14] k4 k5 := c_ADD_ag hx (by decide) (by decide) (by decide) (by decide)
  have gg : c_ag ((List.range 60).filter (fun a => a != 5)) [1, 2, 3, 4, 5, 6, 8, 9, 10, 11, 12, 13, 14] k k5 := c_agt (c_agm ga (fun a ha => (List.mem_filter.mp ha).1) (by decide)) gb
  have l4 : KL k4 s y := KL_fr d1 ga (by decide) (by decide) (fun _ _ => rfl)
  obtain ⟨S, hS⟩ : ∃ S, S = uC (uK (uF s 75 (sC s 7) w) (sC s 7) x) 7 (sC s 7 + 1) := ⟨_, rfl⟩
  have sf : ∀ f, f ≠ 75 → sF S f = sF s f := fun f hf => by
    funext i
    rw [hS, sF_uC, sF_uK, sF_uF, if_neg hf]
  have fm : ∀ (l : List Nat), (∀ x, x ∈ l → x ≠ 75) → ∀ x, x ∈ l → sF S x = sF s x := fun l a x hx => sf x (a x hx)
  have fc : ∀ i, i ≠ 7 → sC S i = sC s i := fun i hi => by rw [hS, sC_uC, if_neg hi]; rfl
  have fc7 : sC S 7 = sC s 7 + 1 := by rw [hS, sC_uC, if_pos rfl]
  have fr : sR S = sR s := by rw [hS]; rfl
  have fn : ∀ i, sN S i = sN s i := fun i => by rw [hS]; rfl
  have fg : sG S = sG s := by rw [hS]; rfl
  rw [← hS]
  refine ⟨hx.1, ?_, ?_, ?_, KL_add l4 (by decide) hx (show sC S 7 = sC s 7 + 1 from fc7) (fun P hP hn => ?_), KW_fr d2 gg (by decide) (by decide) (fc 3 (by decide)) (fm _ (by decide)), KV_fr d3 gg (by decide) (by decide) (fc 4 (by decide)) (fm _ (by decide)) (fun _ _ => by rw [fr]), ?_, KK_fr d5 gg (by decide) (by decide) (fc 5 (by decide)) (fm _ (by decide)), KR_fr d6 gg (by decide) (fc 6 (by decide)) (fm _ (by decide)), KT_fr d7 gg (by decide) (fm _ (by decide)), KH_fr d8 gg (by decide) (fc 8 (by decide)) (fm _ (by decide)), KP_fr d9 gg (by decide) (by decide) (by decide) (by decide) (by decide) (fc 2 (by decide)) (Nat.le_refl _) fr, KX_fr d10 gg (by decide) (by decide) (by decide) (Nat.le_refl _) (by rw [fc 2 (by decide)]; exact Nat.le_refl _) (fun _ _ _ _ _ _ => by rw [fr])⟩
  · unfold KN at *
    rw [(gg.1 0 (by decide)).2.2.1, (gg.1 3 (by decide)).2.2.1, fc 0 (by decide), fc 1 (by decide), fc 2 (by decide), fc 8 (by decide), fn, fn, fn, fn]
    exact h2
  · refine ⟨?_, ?_, ?_⟩
    · rw [(gg.1 1 (by decide)).2.2.1, sf 2 (by decide), fc 0 (by decide)]; exact h3.1
    · rw [(gg.1 15 (by decide)).2.2.1, sf 9 (by decide), fc 2 (by decide)]; exact h3.2.1
    · rw [(gg.1 11 (by decide)).2.2.1, sf 104 (by decide)]; exact h3.2.2
  · unfold KG
    rw [(gg.1 2 (by decide)).2.2.1, fc 0 (by decide), fg]
    exact h4
  · simp only [c_Ls, List.mem_cons, List.not_mem_nil, or_false] at hP
    rcases hP with rfl | rfl | rfl | rfl | rfl
    · exact fc 4 (by decide)
    · exact absurd rfl hn
    · exact fc 5 (by decide)
    · exact fc 6 (by decide)
    · exact fc 3 (by decide)
  · have ey : yA (yUL y 5 E2 (fun i => if i = sC s 7 then q else yA y 5 i)) 5 = fun i => if i = sC s 7 then q else yA y 5 i := by rw [yA_UL, if_pos rfl]
    have k75 : ∀ i, sF S 75 i = if i = sC s 7 then w else sF s 75 i := fun i => by rw [hS, sF_uC, sF_uK, sF_uF, if_pos rfl]
    have kK : ∀ i, sK S i = if i = sC s 7 then x else sK s i := fun i => by rw [hS]; rfl
    unfold KC
    rw [ey, fc7]
    refine ⟨fun i hi => ?_, fun i j hi hj e => ?_⟩
    · dsimp only
      by_cases e : i = sC s 7
      · rw [if_pos e, k75, if_pos e, kK, if_pos e, sf 78 (by decide), e, hz]
        obtain ⟨a1, a2, a3, a4, a5, b, a6, a7⟩ := hq
        have hq5 : c_eq k4 k5 q := gb.2 q a1.1 (by rw [a1.2]; decide) (by rw [a2]; decide)
        rw [hq5.1, hq5.2.2.1, hq5.2.2.2]
        exact ⟨a1, a2, a3, a4, a5, b, a6, c_ar_fr a7 gb (by decide)⟩
      · rw [if_neg e, k75, if_neg e, kK, if_neg e, sf 78 (by decide)]
        obtain ⟨a1, a2, a3, a4, a5, b, a6, a7⟩ := d4.1 i (by omega)
        have e2 := c_agd gg a1 (by decide) (by rw [a2]; decide)
        rw [e2.1, e2.2.2.1, e2.2.2.2]
        exact ⟨a1, a2, a3, a4, a5, b, a6, c_ar_fr a7 gg (by decide)⟩
    · have e : (if i = sC s 7 then q else yA y 5 i) = (if j = sC s 7 then q else yA y 5 j) := e
      have nq : ∀ i, i < sC s 7 → yA y 5 i ≠ q := fun i hi e => by
        have := (d4.1 i hi).2.1
        rw [e, q0] at this
        exact absurd this (by decide)
      by_cases ei : i = sC s 7
      · by_cases ej : j = sC s 7
        · omega
        · rw [if_pos ei, if_neg ej] at e
          exact absurd e.symm (nq j (by omega))
      · by_cases ej : j = sC s 7
        · rw [if_neg ei, if_pos ej] at e
          exact absurd e (nq i (by omega))
        · rw [if_neg ei, if_neg ej] at e
          exact d4.2 i j (by omega) (by omega) e
theorem ci_join_175 {L : List (List Int32 × List Int32)} {w : Int32} (hJ : J.length ≤ 600) (hL : L.length ≤ 12) : ∀ (d n N : Nat) (s : sA) (k : h_S) (y : c_Y), n + d = L.length → d < N → CBM k s M y → sC s 0 ≤ 512 → M ≤ sC s 0 + 1 → ivg s → sC s 7 + d ≤ 12 → ivz s → c_jn k J → c_cn k J L → ∃ k2 c e y2, fn_X11_join_175 N w (nI n) k = some (w, k2, c, e) ∧ CB k2 (s_act (s_addC s w (L.drop n)) w) y2 ∧ c ≤ 3 * d ∧ e ≤ 1604 * d ∧ zC y2 = zC y ∧ zD y2 = zD y := by
  intro d
  induction d with
  | zero =>
    intro n N s k y hn hN h v0 hM g hc hz hj hcn
    obtain ⟨N, rfl⟩ : ∃ m, N = m + 1 := ⟨N - 1, by omega⟩
    rw [List.drop_eq_nil_of_le (by omega)]
    refine ⟨_, 0, 0, y, ?_, cs_act h hM g w, by omega, by omega, rfl, rfl⟩
    show fn_X11_join_175b _ _ _ _ = _
    unfold fn_X11_join_175b
    rw [hcn.1, fg_if_1 ((n_le (by omega) (by omega)).mpr (by omega)), ci_acted h.2.1.1 v0, fg_b_1]
  | succ d ih =>
    intro n N s k y hn hN h v0 hM g hc hz hj hcn
    obtain ⟨N, rfl⟩ : ∃ m, N = m + 1 := ⟨N - 1, by omega⟩
    have hn2 : n < L.length := by omega
    have hg := List.getElem?_eq_getElem hn2
    obtain ⟨q, k4, e4, a1, a2, a3, a4, a5, a6⟩ := ci_clashAt (w := w) h.1 hj hJ hcn (P := L[n].1) (Q := L[n].2) hg (by omega)
    have h4 : CBM k4 s M y := CB_junk h a3 a5
    have l5 := h4.2.2.2.2.1.2.1
    obtain ⟨k5, E2, cc, dd, b1, b2, b3, b4⟩ := ci_add a3 (by decide) (ck_5 a3) l5 (by omega) (fun i hi => by
      have := (h4.2.2.2.2.2.2.2.1.1 i hi).2.1
      rw [this]
      decide) (a := q) (by rw [a4.2.1]; decide)
    have hb := cs_addC1 h a5 a6 a4 (hz _ (Nat.le_refl _)) b2
    have nn : c_n10 k k5 := fun a ha => by
      simp only [List.mem_cons, List.not_mem_nil, or_false] at ha
      have t := b2.2.2.1.1
      rw [(b2.2.2.2.2 a (by omega) (by omega)).2.2.1, (a5 a (Or.inr (by omega))).2.2.1]
    obtain ⟨k6, c6, e6, y6, m1, m2, m3, m4, m5, m6⟩ := ih (n + 1) N _ k5 _ (by omega) (by omega) hb v0 hM g (by rw [sC_uC, if_pos rfl]; omega) (fun i hi => by
      rw [sC_uC, if_pos rfl] at hi
      rw [sF_uC, sF_uK, sF_uF, if_neg (by decide)]
      exact hz i (by omega)) (c_jn_n hj nn) (c_cn_n hcn nn)
    have ed : L.drop n = (L[n].1, L[n].2) :: L.drop (n + 1) := List.drop_eq_getElem_cons hn2
    rw [ed]
    refine ⟨k6, 2 + (cc + c6), e4 + (dd + e6), y6, ?_, m2, by omega, by omega, m5, m6⟩
    show fn_X11_join_175b (fn_X11_join_175 N) _ _ _ = _
    unfold fn_X11_join_175b
    rw [hcn.1, fg_if_0 (fun z => by have := (n_le (a := L.length) (b := n) (by omega) (by omega)).mp z; omega), a1, fg_bc_1, b1, fg_bc_1, n_p1, m1, fg_c_1, fg_c_1]
theorem cs_join (h : CB k s y) (v : ivc s) (g : ivg s) (v0 : sC s 0 < 512) (vw : ivw s) (vq : ivq s) (vv : ivv s) (vz : ivz s) (a b c : Int32) : ∃ k2 cc dd y2, fn_X11_join a b c k = some ((s_join s a b c).1, k2, cc, dd) ∧ CB k2 (s_join s a b c).2 y2 ∧ cc + zC y2 + 3 * sC s 7 ≤ zC y + 30 + 3 * sC (s_join s a b c).2 7 ∧ dd + zD y2 + 1604 * sC s 7 ≤ zD y + 160 + 1604 * sC (s_join s a b c).2 7 := by
  have v2 := v.2.2.1
  have v4 := v.2.2.2.2.1
  have v7 := v.2.2.2.2.2.2.2.1
  unfold fn_X11_join s_join
  rw [ci_versionAt (CB_M h) v, fg_b_1, ci_versionAt (CB_M h) v, fg_b_1, ci_versionAt (CB_M h) v, fg_b_1]
  by_cases c1 : q_in a (sC s 4)
  · rw [fg_if_1 c1, fg_if_0 (by simp)]
    by_cases c2 : q_in b (sC s 4)
    · rw [fg_if_1 c2, fg_if_0 (by simp)]
      by_cases c3 : q_in c (sC s 4)
      · have cc : q_in a (sC s 4) ∧ q_in b (sC s 4) ∧ q_in c (sC s 4) := ⟨c1, c2, c3⟩
        rw [fg_if_1 c3, fg_if_0 (by simp)]
        simp only [fg_if_1 cc]
        obtain ⟨e1, l1⟩ := n_in c1
        obtain ⟨e2, l2⟩ := n_in c2
        obtain ⟨e3, l3⟩ := n_in c3
        generalize h_ix a = i1 at e1 l1
        generalize h_ix b = i2 at e2 l2
        generalize h_ix c = i3 at e3 l3
        subst e1 e2 e3
        rw [ci_isFull h.2.1.2.2.1 v2, fg_b_1, q_b_if]
        by_cases c4 : sC s 2 = 12
        · rw [fg_if_1 c4]
          simp only [fg_if_1 (Or.inl c4 : sC s 2 = 12 ∨ 24 < (s_runs (s_jrow s (nI i1) (nI i2) (nI i3))).length ∨ 12 < sC s 7 + (s_jcl s (nI i1) (nI i2) (nI i3)).length)]
          exact ⟨k, 0, 0, y, rfl, h, by omega, by omega⟩
        · rw [fg_if_0 c4]
          obtain ⟨t1, x1, x10, _, _, _, b1, r1, ar1⟩ := CB_ver (CB_M h) l1
          obtain ⟨t2, x2, _, _, _, _, b2, r2, ar2⟩ := CB_ver (CB_M h) l2
          obtain ⟨t3, x3, _, _, _, _, b3, r3, ar3⟩ := CB_ver (CB_M h) l3
          have rw1 : ∀ {b i : Nat}, c_ar k 9 b (s_vs s i) → c_rw k b (s_vs s i) := fun h => ⟨h.2.1, by rw [h.2.2.1]; exact Nat.le_refl _, h.2.2.2⟩
          obtain ⟨k1, w1, w2, w3, w4⟩ := ci_weaveBy h.1 ar1.1.1 ar2.1.1 ar3.1.1 (s_vs_300 i1) (s_vs_300 i2) (s_vs_300 i3) (rw1 ar1) ar1.2.2.1 (rw1 ar2) ar2.2.2.1 (rw1 ar3) ar3.2.2.1
          have eC : ∀ i, i < sC s 4 → s_jC s (nI i) = s_kp 0 (s_vs s i) := fun i hi => by unfold s_jC; rw [q_nIx (by omega)]
          rw [← eC i1 l1, ← eC i2 l2, ← eC i3 l3] at w3 w4
          have w3 : c_jn k1 (s_jrow s (nI i1) (nI i2) (nI i3)) := w3
          have w4 : c_cn k1 (s_jrow s (nI i1) (nI i2) (nI i3)) (s_jcl s (nI i1) (nI i2) (nI i3)) := w4
          have hJ := s_jrow_l (s := s) (nI i1) (nI i2) (nI i3)
          have h1 : CBM k1 s (sC s 0) y := CB_ww (CB_M h) w2 (by decide)
          have hcl : (s_jcl s (nI i1) (nI i2) (nI i3)).length ≤ (s_jC s (nI i3)).length + 1 := j_cl_len _ _
          have lC := s_jC_l (s := s) (nI i3)
          have rl : (s_runs (s_jrow s (nI i1) (nI i2) (nI i3))).length ≤ 700 := by
            have br : ∀ (l : List Int32) (p : Int32), s_brk p l ≤ l.length := by
              intro l
              induction l with
              | nil => intro p; exact Nat.le_refl _
              | cons y l ih => intro p; unfold s_brk; have := ih y; rw [List.length_cons]; split <;> omega
            generalize s_jrow s (nI i1) (nI i2) (nI i3) = J at hJ
            cases J with
            | nil => exact Nat.zero_le _
            | cons x l =>
              show (s_rr x 1 x l).length ≤ 700
              rw [s_rr_len]
              have := br l x
              rw [List.length_cons] at hJ
              omega
          rw [fg_o_1, fg_g_1 x1, fg_o_1, fg_g_1 x2, fg_o_1, fg_g_1 x3, r1, r2, r3, w1, fg_b_1, ci_runs hJ w3, fg_b_1]
          by_cases c5 : 24 < (s_runs (s_jrow s (nI i1) (nI i2) (nI i3))).length
          · have c5' : (24 : Int32) < nI (s_runs (s_jrow s (nI i1) (nI i2) (nI i3))).length := (n_lt (a := 24) (by omega) (by omega)).mpr c5
            rw [fg_if_1 c5']
            simp only [fg_if_1 (Or.inr (Or.inl c5) : sC s 2 = 12 ∨ 24 < (s_runs (s_jrow s (nI i1) (nI i2) (nI i3))).length ∨ 12 < sC s 7 + (s_jcl s (nI i1) (nI i2) (nI i3)).length)]
            exact ⟨k1, 0, 0, y, rfl, h1, by omega, by omega⟩
          · have c5' : ¬ (24 : Int32) < nI (s_runs (s_jrow s (nI i1) (nI i2) (nI i3))).length := fun w => c5 ((n_lt (a := 24) (by omega) (by omega)).mp w)
            rw [fg_if_0 c5', ci_size (ck_5 h1.1) h1.2.2.2.2.1.2.1, fg_b_1, w4.1, show (12 : Int32) = nI 12 from rfl, n_sub v7]
            by_cases c6 : sC s 7 + (s_jcl s (nI i1) (nI i2) (nI i3)).length ≤ 12
            · have c6' : nI (s_jcl s (nI i1) (nI i2) (nI i3)).length ≤ nI (12 - sC s 7) := (n_le (by omega) (by omega)).mpr (by omega)
              have no : ¬ (sC s 2 = 12 ∨ 24 < (s_runs (s_jrow s (nI i1) (nI i2) (nI i3))).length ∨ 12 < sC s 7 + (s_jcl s (nI i1) (nI i2) (nI i3)).length) := by omega
              obtain ⟨⟨w, m, hw, hm, y1, y2⟩, _⟩ := vv i1 l1
              obtain ⟨_, z1, z10, _⟩ := CB_ver h1 l1
              obtain ⟨own, hown⟩ : ∃ own, own = sF s 9 w := ⟨_, rfl⟩
              have eown : sF s 9 (h_ix (nI w)) = own := by rw [q_nIx (by omega), hown]
              have hb := cs_begin h1 v vw (x := own) (by omega)
              have vb : ivc (s_beg s own) := ⟨v.1, v.2.1, by show sC s 2 + 1 ≤ 12; omega, v.2.2.2⟩
              have vvb : ivv (s_beg s own) := fun i hi => by
                obtain ⟨⟨w, m, q1, q2, q3, q4⟩, q5⟩ := vv i hi
                exact ⟨⟨w, m, by show w < sC s 2 + 1; omega, q2, q3, q4⟩, q5⟩
              have n1 : c_n10 k1 (c_bg k1 (sC s 2) (sC s 0 + 1) own) := c_bg_n10
              obtain ⟨k2, p1, p2, p3, p4, p5⟩ := ci_layRuns hb hJ (c_jn_n w3 n1) (by omega)
              obtain ⟨k3, c3', e3, o1, o2, o3, o4, _, o6⟩ := ci_keepLaidF (s := s_beg s own) p2 vb v0 vq vvb (w := sC s 2) (show sC s 2 < sC s 2 + 1 by omega) (by omega) p4 p5
              have h3 := o4 (by omega)
              have n3 : c_n10 k2 k3 := fun a ha => by
                simp only [List.mem_cons, List.not_mem_nil, or_false] at ha
                exact (o6 a (by omega) (by omega)).2.2.1
              have nn := c_n10t n1 (c_n10t p3 n3)
              obtain ⟨k4, c4', e4, y4, m1, m2, m3, m4, m5, m6⟩ := ci_join_175 (M := sC s 0 + 1) (L := s_jcl s (nI i1) (nI i2) (nI i3)) (w := nI (sC s 2)) hJ (by omega) (s_jcl s (nI i1) (nI i2) (nI i3)).length 0 g_N _ k3 _ (by omega) (by have := g_N_le; omega) h3 v.1 (Nat.le_refl _) g c6 vz (c_jn_n w3 nn) (c_cn_n w4 nn)
              rw [List.drop_zero] at m2
              rw [fg_if_1 c6']
              simp only [fg_if_0 no]
              have e0 : h_i k1 0 0 = nI (sC s 0) := h1.2.1.1
              have e01 : h_i k2 0 0 = nI (sC s 0) := by rw [p3 0 (by decide), n1 0 (by decide)]; exact e0
              have j10 : h_i (c_bg k1 (sC s 2) (sC s 0 + 1) own) 10 11 = nI (s_jrow s (nI i1) (nI i2) (nI i3)).length := by rw [n1 10 (by decide)]; exact w3.1
              have m1' : fn_X11_join_175 g_N (nI (sC s 2)) 0 k3 = _ := m1
              have o1' : fn_X7_keepLaid (nI (sC s 2)) (nI (sC s 0 + 1)) k2 = _ := o1
              rw [fg_o_1, fg_g_1 z1, z10, y1, ci_ownerOf h1 v hw, ← hown, fg_b_1, e0, n_p1, ci_begin h1.1 h1.2.1.2.2.1 (by omega), fg_bc_1, cf_r hb.1 (show c_fr 10 10 = some 47 by decide), j10, p1, fg_bc_1, e01, n_p1, o1', fg_bc_1, m1', fg_c_1, fg_c_1, fg_c_1, eown]
              have ec7 : sC (s_act (s_addC (s_new (s_beg s own) (nI (sC s 2)) (s_runs (s_jrow s (nI i1) (nI i2) (nI i3)))) (nI (sC s 2)) (s_jcl s (nI i1) (nI i2) (nI i3))) (nI (sC s 2))) 7 = sC s 7 + (s_jcl s (nI i1) (nI i2) (nI i3)).length := by
                unfold s_act
                rw [sC_uF, sC_uC, if_neg (by decide), s_addC_C, if_pos rfl]
                rfl
              refine ⟨k4, _, _, y4, rfl, m2, ?_, ?_⟩
              · rw [ec7, m5, zC_UH.1, zC_UH.1]; omega
              · rw [ec7, m6, zC_UH.2, zC_UH.2]; omega
            · have c6' : ¬ nI (s_jcl s (nI i1) (nI i2) (nI i3)).length ≤ nI (12 - sC s 7) := fun w => by have := (n_le (a := (s_jcl s (nI i1) (nI i2) (nI i3)).length) (by omega) (by omega)).mp w; omega
              have yes : sC s 2 = 12 ∨ 24 < (s_runs (s_jrow s (nI i1) (nI i2) (nI i3))).length ∨ 12 < sC s 7 + (s_jcl s (nI i1) (nI i2) (nI i3)).length := by omega
              rw [fg_if_0 c6']
              simp only [fg_if_1 yes]
              exact ⟨k1, 0, 0, y, rfl, h1, by omega, by omega⟩
      · have cc : ¬ (q_in a (sC s 4) ∧ q_in b (sC s 4) ∧ q_in c (sC s 4)) := fun q => c3 q.2.2
        rw [fg_if_0 c3, fg_if_1 rfl]
        simp only [fg_if_0 cc]
        exact ⟨k, 0, 0, y, rfl, h, by omega, by omega⟩
    · have cc : ¬ (q_in a (sC s 4) ∧ q_in b (sC s 4) ∧ q_in c (sC s 4)) := fun q => c2 q.2.1
      rw [fg_if_0 c2, fg_if_1 rfl]
      simp only [fg_if_0 cc]
      exact ⟨k, 0, 0, y, rfl, h, by omega, by omega⟩
  · have cc : ¬ (q_in a (sC s 4) ∧ q_in b (sC s 4) ∧ q_in c (sC s 4)) := fun q => c1 q.1
    rw [fg_if_0 c1, fg_if_1 rfl]
    simp only [fg_if_0 cc]
    exact ⟨k, 0, 0, y, rfl, h, by omega, by omega⟩
end CJn
