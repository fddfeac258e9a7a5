section CPu
variable {k k2 k4 k5 : h_S} {s S : sA} {y : c_Y} {M : Nat}
theorem s_w1_n (c : Int32) (w : Nat) : sF (s_w1 S c w) 23 (sC S 3) = c ∧ sF (s_w1 S c w) 24 (sC S 3) = sF S 9 w ∧ sF (s_w1 S c w) 25 (sC S 3) = nI w ∧ sF (s_w1 S c w) 26 (sC S 3) = nI (sC S 0 + 1) ∧ sF (s_w1 S c w) 27 (sC S 3) = nI (s_nth S (h_ix (sF S 9 w)) (sC S 3)) := by
  unfold s_w1
  refine ⟨?_, ?_, ?_, ?_, ?_⟩ <;> rw [sF_uC] <;> simp [sF_uF]
/-- a word is kept -/
theorem cs_addW {q E2 w h0 : Nat} {c : Int32} (h : CBM k S M y) (gj : c_jk k k4) (eo : sF S 9 w = nI h0) (hh : h0 < 8) (hq : c_wd k4 q c (nI h0) (nI w) (nI (sC S 0 + 1)) (nI (s_nth S h0 (sC S 3)))) (hx : c_ADD k4 k5 18 (sC S 3) (yE y 18) E2 q (yA y 18)) : CBM (h_si k5 19 h0 (h_i k5 19 h0 + 1)) (s_w1 S c w) M (yUL y 18 E2 (fun i => if i = sC S 3 then q else yA y 18 i)) := by
  obtain ⟨h1, h2, h3, h4, d1, d2, d3, d4, d5, d6, d7, d8, d9, d10⟩ := h
  have ga := c_jk_ag gj
  have gb : c_ag ((List.range 60).filter (fun a => a != 18)) [1, 2, 3, 4, 5, 6, 8, 9, 10, 11, 12, 13, 14] k4 k5 := c_ADD_ag hx (by decide) (by decide) (by decide) (by decide)
  have gk5 : c_ag ((List.range 60).filter (fun a => a != 18)) [1, 2, 3, 4, 5, 6, 8, 9, 10, 11, 12, 13, 14] k k5 := c_agt (c_agm ga (fun a ha => (List.mem_filter.mp ha).1) (by decide)) gb
  have gc : c_ag ((List.range 60).filter (fun a => a != 18 && a != 19)) [1, 2, 3, 4, 5, 6, 8, 9, 10, 11, 12, 13, 14] k5 (h_si k5 19 h0 (h_i k5 19 h0 + 1)) := c_ag_si (by decide) (by decide)
  have gc7 : c_ag ((List.range 60).filter (fun a => a != 19)) [1, 2, 3, 4, 5, 6, 7, 8, 9, 10, 11, 12, 13, 14] k5 (h_si k5 19 h0 (h_i k5 19 h0 + 1)) := c_ag_si (by decide) (by decide)
  have gg : c_ag ((List.range 60).filter (fun a => a != 18 && a != 19)) [1, 2, 3, 4, 5, 6, 8, 9, 10, 11, 12, 13, 14] k (h_si k5 19 h0 (h_i k5 19 h0 + 1)) := c_agt (c_agm gk5 (by decide) (by decide)) gc
  have l4 : KL k4 S y := KL_fr d1 ga (by decide) (by decide) (fun _ _ => rfl)
  have fm : ∀ (l : List Nat), (∀ x, x ∈ l → x < 23 ∨ 27 < x) → ∀ x, x ∈ l → sF (s_w1 S c w) x = sF S x := fun l a x hx => s_w1_F _ _ x (a x hx)
  have l5 : KL k5 (s_w1 S c w) (yUL y 18 E2 (fun i => if i = sC S 3 then q else yA y 18 i)) := KL_add l4 (by decide) hx rfl (fun P hP hn => by
    simp only [c_Ls, List.mem_cons, List.not_mem_nil, or_false] at hP
    rcases hP with rfl | rfl | rfl | rfl | rfl
    · rfl
    · rfl
    · rfl
    · rfl
    · exact absurd rfl hn)
  refine ⟨hx.1, ?_, ?_, ?_, KL_fr l5 gc7 (by decide) (by decide) (fun _ _ => rfl), ?_, KV_fr d3 gg (by decide) (by decide) rfl (fm _ (by decide)) (fun _ _ => rfl), KC_fr d4 gg (by decide) (by decide) rfl (fm _ (by decide)) rfl, KK_fr d5 gg (by decide) (by decide) rfl (fm _ (by decide)), KR_fr d6 gg (by decide) rfl (fm _ (by decide)), KT_fr d7 gg (by decide) (fm _ (by decide)), KH_fr d8 gg (by decide) rfl (fm _ (by decide)), KP_fr d9 gg (by decide) (by decide) (by decide) (by decide) (by decide) rfl (Nat.le_refl _) rfl, KX_fr d10 gg (by decide) (by decide) (by decide) (Nat.le_refl _) (Nat.le_refl _) (fun _ _ _ _ _ _ => rfl)⟩
  · unfold KN at *
    rw [(gg.1 0 (by decide)).2.2.1, (gg.1 3 (by decide)).2.2.1]
    exact h2
  · refine ⟨?_, ?_, ?_⟩
    · rw [(gg.1 1 (by decide)).2.2.1, s_w1_F _ _ 2 (by decide)]; exact h3.1
    · rw [(gg.1 15 (by decide)).2.2.1, s_w1_F _ _ 9 (by decide)]; exact h3.2.1
    · rw [(gg.1 11 (by decide)).2.2.1, s_w1_F _ _ 104 (by decide)]; exact h3.2.2
  · unfold KG
    rw [(gg.1 2 (by decide)).2.2.1]
    exact h4
  · have ey : yA (yUL y 18 E2 (fun i => if i = sC S 3 then q else yA y 18 i)) 18 = fun i => if i = sC S 3 then q else yA y 18 i := by rw [yA_UL, if_pos rfl]
    obtain ⟨n1, n2, n3, n4, n5⟩ := s_w1_n (S := S) c w
    unfold KW
    rw [ey]
    refine ⟨fun i hi => ?_, fun j hj => ?_⟩
    · have hi : i < sC S 3 + 1 := hi
      by_cases e : i = sC S 3
      · subst e
        simp only [if_true, n1, n2, n3, n4, n5]
        rw [eo, q_nIx (by omega)]
        exact c_wd_fr (c_wd_fr hq gb (by decide)) gc (by decide)
      · simp only [if_neg e, s_w1_o (S := S) c w _ e]
        exact c_wd_fr (d2.1 i (by omega)) gg (by decide)
    · rw [s_w1_C, if_pos rfl]
      show _ = nI (s_nth (s_w1 S c w) j (sC S 3) + (if sF (s_w1 S c w) 24 (sC S 3) = nI j then 1 else 0))
      have i19 : h_i k5 19 = h_i k 19 := (gk5.1 19 (by decide)).2.2.1
      rw [s_nth_w1 _ _ _ _ (Nat.le_refl _), n2, eo, h_i_si, i19, d2.2 h0 hh]
      by_cases e : j = h0
      · rw [if_pos ⟨rfl, e⟩, e, if_pos rfl, n_p1]
      · rw [if_neg (fun z => e z.2), d2.2 j hj, if_neg (fun z => e ((n_eq (by omega) (by omega)).mp z).symm)]
        rfl
theorem ci_addWord {w h0 : Nat} {c : Int32} (h : CBM k S M y) (v : ivc S) (hw : w < sC S 2) (eo : sF S 9 w = nI h0) (hh : h0 < 8) : ∃ k2 y2 cc dd, fn_X7_addWord c (nI w) (nI (sC S 0 + 1)) k = some ((), k2, cc, dd) ∧ CBM k2 (s_w1 S c w) M y2 ∧ cc ≤ 2 ∧ dd ≤ 1005 ∧ zC y2 = zC y ∧ zD y2 = zD y := by
  have v3 := v.2.2.2.1
  have hF := h.1
  have q0 : h_k k (c_ad 6 k) = 0 := cf_z hF rfl
  have q6 : c_tg 6 (c_ad 6 k) := by unfold c_tg c_ad; omega
  have q8 := q6.1
  obtain ⟨q, eq⟩ : ∃ q, c_ad 6 k = q := ⟨_, rfl⟩
  unfold fn_X7_addWord
  rw [ci_ownerOf h v hw, fg_b_1, eo, show (8 : Int32) = nI 8 from rfl, ci_withinN _ (by decide), fg_b_1, q_b_if, fg_if_1 ((n_inI (by omega)).mpr hh), fg_let_1, fg_let_1, fg_g_1 ((n_vp (by omega)).mpr hh), q_nIx (by omega)]
  rw [eq] at q0 q6 q8 ⊢
  have i19 : h_i (h_nw k q 31 5) 19 h0 = nI (s_nth S h0 (sC S 3)) := by rw [h_i_nw, if_neg (by omega)]; exact h.2.2.2.2.2.1.2 h0 hh
  have k31 : h_k (h_nw k q 31 5) q = 31 := by rw [h_k_nw, if_pos rfl]
  have F1 : c_F (h_nw k q 31 5) := cf_nw hF eq.symm (by decide)
  obtain ⟨k4, e4⟩ : ∃ K, K = h_si (h_si (h_si (h_si (h_si (h_nw k q 31 5) q 0 c) q 1 (nI h0)) q 2 (nI w)) q 3 (nI (sC S 0 + 1))) q 4 (nI (s_nth S h0 (sC S 3))) := ⟨_, rfl⟩
  have ei : fn_X10_init q c (nI h0) (nI w) (nI (sC S 0 + 1)) (nI (s_nth S h0 (sC S 3))) (h_nw k q 31 5) = some ((), k4) := by
    unfold fn_X10_init
    rw [fg_g_1 k31, e4]
    rfl
  have F4 : c_F k4 := by rw [e4]; exact F1
  have hq : c_wd k4 q c (nI h0) (nI w) (nI (sC S 0 + 1)) (nI (s_nth S h0 (sC S 3))) := by
    rw [e4]
    refine ⟨q6, k31, ?_, ?_, ?_, ?_, ?_⟩ <;> simp [h_i_si]
  have gj : c_jk k k4 := fun a ha => by
    have na : a ≠ q := fun e => by
      rcases ha with z | z
      · exact z (by rw [e]; exact q0)
      · omega
    rw [e4]
    exact c_eqt (c_eqt (c_eqt (c_eqt (c_eqt (c_eq_nw na) (c_eq_si na)) (c_eq_si na)) (c_eq_si na)) (c_eq_si na)) (c_eq_si na)
  have h4 : CBM k4 S M y := CB_junk h F4 gj
  obtain ⟨k5, E2, cc, dd, a1, a2, a3, a4⟩ := ci_add F4 (by decide) (ck_18 F4) h4.2.2.2.2.1.2.2.2.2.1 (by omega) (fun i hi => by
    have := (h4.2.2.2.2.2.1.1 i hi).2.1
    rw [this]
    decide) (a := q) (by rw [hq.2.1]; decide)
  rw [i19, ei, fg_b_1, a1, fg_bc_1, fg_g_1 ((n_vp (by omega)).mpr hh), fg_g_1 ((n_vp (by omega)).mpr hh), fg_let_1, fg_c_1, fg_c_1]
  exact ⟨_, _, _, _, rfl, cs_addW h gj eo hh hq a2, by omega, by omega, rfl, rfl⟩
theorem ci_put_127 {w p i n z h0 : Nat} {F : Int32} (hp : p < 4) (hz : z ≤ 60) (hn : i + n ≤ z) (ez : sF s 110 p = nI z) (hw : w < sC s 2) (eo : sF s 9 w = nI h0) (hh : h0 < 8) : ∀ (d j N : Nat) (K : h_S) (S : sA) (Y : c_Y), j + d = n → d < N → CBM K S (sC s 0 + 1) Y → ivc S → ivg S → sC S 3 + d ≤ 500 → sC S 0 = sC s 0 → sC S 2 = sC s 2 → sF S 9 = sF s 9 → sF S 110 = sF s 110 → sF S 112 = sF s 112 → ∃ k2 c e y2, fn_X11_put_127 N (nI w) (nI p) (nI i) (nI n) F (nI j) K = some (F, k2, c, e) ∧ CB k2 (s_act (s_wl (s_cl s p i) w d j S) F) y2 ∧ c ≤ 2 * d ∧ e ≤ 1005 * d ∧ zC y2 = zC Y ∧ zD y2 = zD Y := by
  intro d
  induction d with
  | zero =>
    intro j N K S Y hj hN hK vS gS h3 h0e h2 h9 h110 h112
    obtain ⟨N, rfl⟩ : ∃ m, N = m + 1 := ⟨N - 1, by omega⟩
    show ∃ k2 c e y2, fn_X11_put_127b _ _ _ _ _ _ _ _ = _ ∧ CB k2 (s_act S F) y2 ∧ _
    unfold fn_X11_put_127b
    rw [fg_if_1 ((n_le (by omega) (by omega)).mpr (by omega)), ci_acted hK.2.1.1 vS.1, fg_b_1]
    exact ⟨_, 0, 0, Y, rfl, cs_act hK (by omega) gS F, by omega, by omega, rfl, rfl⟩
  | succ d ih =>
    intro j N K S Y hj hN hK vS gS h3 h0e h2 h9 h110 h112
    obtain ⟨N, rfl⟩ : ∃ m, N = m + 1 := ⟨N - 1, by omega⟩
    have ec : h_i K (56 + p) (i + j) = s_cl s p i j := by
      have := (CB_T hK p hp).2.2 (i + j) (by rw [h110, ez, q_nI (by omega)]; omega)
      rw [this, h112]
      unfold s_cl
      rw [Nat.add_assoc]
    obtain ⟨k2, y2, cc, dd, a1, a2, a3, a4, a5, a6⟩ := ci_addWord (c := s_cl s p i j) hK vS (w := w) (by omega) (by rw [h9]; exact eo) hh
    have vS2 : ivc (s_w1 S (s_cl s p i j) w) := ⟨vS.1, vS.2.1, vS.2.2.1, by rw [s_w1_C, if_pos rfl]; omega, vS.2.2.2.2⟩
    obtain ⟨k3, c3, e3, y3, b1, b2, b3, b4, b5, b6⟩ := ih (j + 1) N k2 (s_w1 S (s_cl s p i j) w) y2 (by omega) (by omega) a2 vS2 gS (by rw [s_w1_C, if_pos rfl]; omega) (by rw [s_w1_C, if_neg (by omega)]; exact h0e) (by rw [s_w1_C, if_neg (by omega)]; exact h2) (by rw [s_w1_F _ _ 9 (by omega)]; exact h9) (by rw [s_w1_F _ _ 110 (by omega)]; exact h110) (by rw [s_w1_F _ _ 112 (by omega)]; exact h112)
    show ∃ k2 c e y2, fn_X11_put_127b (fn_X11_put_127 N) _ _ _ _ _ _ _ = _ ∧ _
    unfold fn_X11_put_127b
    rw [fg_if_0 (fun z => by have := (n_le (a := n) (b := j) (by omega) (by omega)).mp z; omega), fg_g_1 ((n_vp (by omega)).mpr hp), q_nIx (by omega), (c_shf hK.1 hp).1, fg_o_1, fg_g_1 (c_shf hK.1 hp).2.1, n_add, ci_cellAt hK.1 hp (by omega), fg_b_1, ec, hK.2.1.1, n_p1, a1, fg_bc_1, n_p1, b1, fg_c_1]
    exact ⟨k3, _, _, y3, rfl, b2, by omega, by omega, by rw [b5, a5], by rw [b6, a6]⟩
theorem s_wl_C3 (C : Nat → Int32) (w : Nat) : ∀ (d j : Nat) (S : sA), sC (s_wl C w d j S) 3 = sC S 3 + d := by
  intro d
  induction d with
  | zero => intro j S; rfl
  | succ d ih =>
    intro j S
    show sC (s_wl C w d (j + 1) (s_w1 S (C j) w)) 3 = _
    rw [ih, s_w1_C, if_pos rfl]
    omega
theorem cs_put (h : CB k s y) (v : ivc s) (g : ivg s) (v0 : sC s 0 < 512) (vt : ivt s) (vp : ivp s) (vq : ivq s) (vx : ivx s) (vv : ivv s) (vo : ivo s) (vs : ivs s) (w a q l i n : Int32) : ∃ k2 c d y2, fn_X11_put w a q l i n k = some ((s_put s w a q l i n).1, k2, c, d) ∧ CB k2 (s_put s w a q l i n).2 y2 ∧ c + zC y2 + 2 * sC s 3 ≤ zC y + 5 + 2 * sC (s_put s w a q l i n).2 3 ∧ d + zD y2 + 1005 * sC s 3 ≤ zD y + 42 + 1005 * sC (s_put s w a q l i n).2 3 := by
  have h0 : CB (h_si k 0 18 0) (s_flt s 0) y := cs_flt (CB_M h) 0
  have v1 : ivc (s_flt s 0) := v
  have v3 := v.2.2.2.1
  have v2 := v.2.2.1
  have hS : (s_SH s w).length ≤ 300 := s_sh_300 _ _ _ _
  obtain ⟨K1, y1, x1, z1, a1, a2, a3, a4⟩ := ci_takesAhead h0 v1 vp vq w a
  have a1' : fn_X11_takesAhead w a (h_si k 0 18 0) = some (q_b (s_ahd s w a), K1, x1, z1) := a1
  unfold fn_X11_put s_put
  rw [fg_let_1, a1', fg_bc_1, q_b_if]
  by_cases c1 : s_ahd s w a
  · have ew4 : fn_X11_within q 4 K1 = some (q_b (q_in q ((4 : Nat) : Int)), K1) := ci_withinN q (n := 4) (by decide)
    rw [fg_if_1 c1, ew4, fg_b_1, q_b_if]
    by_cases c2 : q_in q 4
    · have c2' : q_in q ((4 : Nat) : Int) := c2
      have c : s_ahd s w a ∧ q_in q 4 := ⟨c1, c2⟩
      rw [fg_if_1 c2']
      simp only [fg_if_1 c]
      obtain ⟨e2, l2⟩ := n_in c2'
      generalize h_ix q = p at e2 l2
      subst e2
      rw [ci_refusedCells a2.1 (CB_T (CB_M a2)) vs l2]
      by_cases c3 : s_bf s p l i n = 0
      · have c3' : s_bf (s_flt s 0) p l i n = 0 := c3
        simp only [fg_if_1 c3, fg_if_1 c3', fg_b_1, fg_if_T]
        obtain ⟨z, hz, ez, ei, en, hl⟩ := s_bf0 vs l2 c3
        by_cases c4 : n = 0
        · have c : n = 0 ∨ ¬ s_cds (s_cl s p (h_ix i)) (h_ix n) := Or.inl c4
          simp only [fg_if_1 c4, fg_if_1 c, fg_c_1]
          exact ⟨K1, x1 + 0, z1 + 0, y1, rfl, a2, by show _ + _ + 2 * sC s 3 ≤ _ + _ + 2 * sC s 3; omega, by show _ + _ + 1005 * sC s 3 ≤ _ + _ + 1005 * sC s 3; omega⟩
        · have ea := ci_areCodes (CB_M a2) (p := p) (i := h_ix i) (n := h_ix n) l2 hz hl ez
          rw [← ei, ← en] at ea
          have ea' : fn_X5_areCodes (52 + p) i n K1 = some (q_b (s_cds (s_cl s p (h_ix i)) (h_ix n)), K1) := ea
          rw [fg_if_0 c4, fg_g_1 ((n_vp (by omega)).mpr l2), (c_shf a2.1 l2).1, fg_o_1, fg_g_1 (c_shf a2.1 l2).2.1, ea', fg_b_1, q_b_if]
          by_cases c5 : s_cds (s_cl s p (h_ix i)) (h_ix n)
          · have c : ¬ (n = 0 ∨ ¬ s_cds (s_cl s p (h_ix i)) (h_ix n)) := fun w => by
              rcases w with w | w
              · exact c4 w
              · exact w c5
            have ew : fn_X7_wordCount K1 = some (nI (sC s 3), K1) := ci_wordCount (s := s_flt s 0) (CB_M a2)
            rw [fg_if_1 c5, ew, fg_b_1]
            simp only [fg_if_0 c]
            have e5 : (500 : Int32) - nI (sC s 3) = nI (500 - sC s 3) := n_sub (a := 500) v3
            have e6 : (500 : Int32) - nI (sC s 3) < n ↔ 500 - sC s 3 < h_ix n := by
              rw [e5, en, q_nIx (by omega)]
              exact n_lt (by omega) (by omega)
            by_cases c6 : sC s 3 + h_ix n ≤ 500
            · have c6' : ¬ (500 : Int32) - nI (sC s 3) < n := fun w => by have := e6.mp w; omega
              rw [fg_if_0 c6', fg_let_1, fg_let_1]
              obtain ⟨r, er⟩ : ∃ r, c_ad 1 K1 = r := ⟨_, rfl⟩
              rw [er]
              obtain ⟨K2, f1, f2, f3, f4, _⟩ := ci_pnew a2.1 er 0 (nI (sC s 3)) n (-9) (-9)
              have hj := CB_junk (CB_M a2) f2 f4
              obtain ⟨e1, l1⟩ := n_in c1.1
              obtain ⟨e3, l3⟩ := n_in (n := (s_SH s w).length + 1) c1.2
              obtain ⟨k3, y3, cc, dd, g1, g2, g3, g4, g5⟩ := ci_bring hj v1 v0 vt vp vq vx vv (w := h_ix w) (a := h_ix a) l1 (by omega) f3
              rw [← e1, ← e3] at g1
              have g1' : fn_X7_bring w a (some r) (nI (sC s 0)) K2 = some (q_b ((s_brg s w (h_ix a) (0, nI (sC s 3), n, -9, -9)).length ≤ 24), k3, cc, dd) := g1
              have i0 : h_i K2 0 0 = nI (sC s 0) := hj.2.1.1
              rw [f1, fg_b_1, i0, g1', fg_bc_1, q_b_if]
              by_cases c7 : (s_brg s w (h_ix a) (0, nI (sC s 3), n, -9, -9)).length ≤ 24
              · have c : sC s 3 + h_ix n ≤ 500 ∧ (s_brg s w (h_ix a) (0, nI (sC s 3), n, -9, -9)).length ≤ 24 := ⟨c6, c7⟩
                rw [fg_if_1 c7]
                simp only [fg_if_1 c]
                rw [← e1] at g4
                obtain ⟨b1, _⟩ := g4 c7
                obtain ⟨h0, hh0, eo⟩ := vo (h_ix w) l1
                have v1' := v.2.1
                have ez' : sF (s_flt s 0) 110 p = nI z := ez
                have eo' : sF (s_flt s 0) 9 (h_ix w) = nI h0 := eo
                obtain ⟨k5, c5', e5', y5, m1, m2, m3, m4, m5, m6⟩ := ci_put_127 (s := s_flt s 0) (w := h_ix w) (p := p) (i := h_ix i) (n := h_ix n) (z := z) (F := nI (sC s 3)) l2 hz hl ez' l1 eo' (by omega) (h_ix n) 0 g_N k3 (s_new (s_flt s 0) w (s_brg (s_flt s 0) w (h_ix a) (0, nI (sC s 3), n, -9, -9))) y3 (by omega) (by have := g_N_le; omega) b1 v g (by show sC s 3 + h_ix n ≤ 500; exact c6) rfl rfl rfl rfl rfl
                rw [← e1, ← ei, ← en] at m1
                have m1' : fn_X11_put_127 g_N w (nI p) i n (nI (sC s 3)) 0 k3 = some (nI (sC s 3), k5, c5', e5') := m1
                have eS : s_act (s_wl (s_cl (s_flt s 0) p (h_ix i)) (h_ix w) (h_ix n) 0 (s_new (s_flt s 0) w (s_brg (s_flt s 0) w (h_ix a) (0, nI (sC s 3), n, -9, -9)))) (nI (sC s 3)) = s_flt (s_act (s_wl (s_cl s p (h_ix i)) (h_ix w) (h_ix n) 0 (s_new s w (s_brg s w (h_ix a) (0, nI (sC s 3), n, -9, -9)))) (nI (sC s 3))) 0 := by
                  show s_act (s_wl (s_cl s p (h_ix i)) (h_ix w) (h_ix n) 0 (s_flt (s_new s w (s_brg s w (h_ix a) (0, nI (sC s 3), n, -9, -9))) 0)) (nI (sC s 3)) = _
                  rw [s_wl_flt]
                  rfl
                rw [eS] at m2
                have e3' : sC (s_flt (s_act (s_wl (s_cl s p (h_ix i)) (h_ix w) (h_ix n) 0 (s_new s w (s_brg s w (h_ix a) (0, nI (sC s 3), n, -9, -9)))) (nI (sC s 3))) 0) 3 = sC s 3 + h_ix n := by
                  show sC (s_wl (s_cl s p (h_ix i)) (h_ix w) (h_ix n) 0 (s_new s w (s_brg s w (h_ix a) (0, nI (sC s 3), n, -9, -9)))) 3 = _
                  rw [s_wl_C3]
                  rfl
                rw [m1']
                simp only [fg_c_1]
                exact ⟨k5, _, _, y5, rfl, m2, by rw [e3']; omega, by rw [e3']; omega⟩
              · have c : ¬ (sC s 3 + h_ix n ≤ 500 ∧ (s_brg s w (h_ix a) (0, nI (sC s 3), n, -9, -9)).length ≤ 24) := fun q => c7 q.2
                rw [fg_if_0 c7]
                simp only [fg_if_0 c, fg_c_1]
                rw [← e1] at g5
                exact ⟨k3, _, _, y3, rfl, g5 c7, by show _ + _ + 2 * sC s 3 ≤ _ + _ + 2 * sC s 3; omega, by show _ + _ + 1005 * sC s 3 ≤ _ + _ + 1005 * sC s 3; omega⟩
            · have c6' : (500 : Int32) - nI (sC s 3) < n := e6.mpr (by omega)
              have c : ¬ (sC s 3 + h_ix n ≤ 500 ∧ (s_brg s w (h_ix a) (0, nI (sC s 3), n, -9, -9)).length ≤ 24) := fun q => c6 q.1
              simp only [fg_if_1 c6', fg_if_0 c, fg_c_1]
              exact ⟨K1, _, _, y1, rfl, a2, by show _ + _ + 2 * sC s 3 ≤ _ + _ + 2 * sC s 3; omega, by show _ + _ + 1005 * sC s 3 ≤ _ + _ + 1005 * sC s 3; omega⟩
          · have c : n = 0 ∨ ¬ s_cds (s_cl s p (h_ix i)) (h_ix n) := Or.inr c5
            simp only [fg_if_0 c5, fg_if_1 c, fg_c_1]
            exact ⟨K1, _, _, y1, rfl, a2, by show _ + _ + 2 * sC s 3 ≤ _ + _ + 2 * sC s 3; omega, by show _ + _ + 1005 * sC s 3 ≤ _ + _ + 1005 * sC s 3; omega⟩
      · have c3' : ¬ s_bf (s_flt s 0) p l i n = 0 := c3
        simp only [fg_if_0 c3, fg_if_0 c3']
        unfold s_br
        by_cases c4 : s_bf s p l i n = -2
        · have c4' : s_bf (s_flt s 0) p l i n = -2 := c4
          have c5 : ¬ (-2 : Int32) = 0 := by decide
          simp only [fg_if_1 c4, fg_if_1 c4', fg_b_1, fg_if_0 c5, fg_c_1]
          exact ⟨K1, _, _, y1, rfl, a2, by show _ + _ + 2 * sC s 3 ≤ _ + _ + 2 * sC s 3; omega, by show _ + _ + 1005 * sC s 3 ≤ _ + _ + 1005 * sC s 3; omega⟩
        · have c4' : ¬ s_bf (s_flt s 0) p l i n = -2 := c4
          have c5 : ¬ (-10 - s_bf s p l i n = 0) := by
            have : s_bf s p l i n = -2 ∨ s_bf s p l i n = 0 ∨ s_bf s p l i n = 1 ∨ s_bf s p l i n = 2 ∨ s_bf s p l i n = 3 ∨ s_bf s p l i n = 4 := by
              unfold s_bf
              unfold fg_if
              repeat' split
              all_goals simp
            rcases this with w | w | w | w | w | w
            · exact absurd w c4
            · exact absurd w c3
            all_goals rw [w]; decide
          have c5' : ¬ (-10 - s_bf (s_flt s 0) p l i n = 0) := c5
          have hf := cs_flt (CB_M a2) (s_bf s p l i n)
          rw [s_flt_flt] at hf
          simp only [fg_if_0 c4, fg_if_0 c4', fg_b_1, fg_if_0 c5', fg_c_1]
          exact ⟨_, _, _, y1, rfl, hf, by show _ + _ + 2 * sC s 3 ≤ _ + _ + 2 * sC s 3; omega, by show _ + _ + 1005 * sC s 3 ≤ _ + _ + 1005 * sC s 3; omega⟩
    · have c2' : ¬ q_in q ((4 : Nat) : Int) := c2
      have c : ¬ (s_ahd s w a ∧ q_in q 4) := fun q => c2 q.2
      rw [fg_if_0 c2']
      simp only [fg_if_0 c, fg_c_1]
      exact ⟨K1, _, _, y1, rfl, a2, by show _ + _ + 2 * sC s 3 ≤ _ + _ + 2 * sC s 3; omega, by show _ + _ + 1005 * sC s 3 ≤ _ + _ + 1005 * sC s 3; omega⟩
  · have c : ¬ (s_ahd s w a ∧ q_in q 4) := fun q => c1 q.1
    rw [fg_if_0 c1]
    simp only [fg_if_0 c, fg_c_1]
    exact ⟨K1, _, _, y1, rfl, a2, by show _ + _ + 2 * sC s 3 ≤ _ + _ + 2 * sC s 3; omega, by show _ + _ + 1005 * sC s 3 ≤ _ + _ + 1005 * sC s 3; omega⟩
end CPu
