section RV
variable {t : r_T} {s : sA}
theorem rs_length (h : RA t s) (v : ivc s) (vp : ivp s) (w m : Int32) : ∃ t2, fn_X12_length w m t = some ((s_length s w m).1, t2) ∧ RA t2 (s_length s w m).2 := by
  have v0 := v.1
  have v2 := v.2.2.1
  unfold fn_X12_length s_length
  simp only [ri_noWriting h v, ri_noMoment h v, fg_b_1, q_bn_if]
  by_cases c1 : q_in w (sC s 2)
  · simp only [fg_if_1 c1]
    by_cases c2 : q_in m ((sC s 0 : Nat) + 1)
    · obtain ⟨e1, l1⟩ := n_in c1
      obtain ⟨e2, l2⟩ := n_in (n := sC s 0 + 1) c2
      simp only [fg_if_1 c2]
      generalize h_ix w = w2 at e1 l1
      generalize h_ix m = m2 at e2 l2
      subst e1
      subst e2
      obtain ⟨t2, f1, f2, _, _, _, f3⟩ := ri_lay h v vp (w := w2) (m := m2) (by omega) (by omega)
      rw [f1, fg_b_1, f2]
      exact ⟨t2, rfl, f3⟩
    · simp only [fg_if_0 c2]
      exact ⟨t, rfl, h⟩
  · simp only [fg_if_0 c1]
    exact ⟨t, rfl, h⟩
/-- the i-th of what is laid -/
theorem ri_nth (w m : Nat) (h35 : t.1 35 = nI (s_sh (sR s) 4 w m).length) (h36 : l_out t (s_inf s w m)) (i : Int32) : fg_b (fn_X12_in (i.toInt64) (0 : Int64) (((t.1 35).toInt64) - (1 : Int64)) t) (fun p14 s13 => fg_if (p14 = 0) (some ((-1 : Int32), s13)) (fg_g (vp_in i 300) (some ((s13.2 36 (h_ix i)), s13)))) = some (s_get (s_sh (sR s) 4 w m) i, t) := by
  have hl := s_sh_300 (sR s) 4 w m
  rw [h35, ri_in, q_bc (q_in0n (by omega)), fg_b_1, q_b_if]
  by_cases c : q_in i (s_sh (sR s) 4 w m).length
  · obtain ⟨e, l⟩ := n_in c
    rw [fg_if_1 c]
    generalize h_ix i = j at e l
    subst e
    obtain ⟨x, x1, x2⟩ := s_get_in (l := s_sh (sR s) 4 w m) (by omega) l
    rw [fg_g_1 ((n_vp (by omega)).mpr (by omega)), l_out_w h36 x1, x2]
  · rw [fg_if_0 c]
    unfold s_get
    rw [fg_if_0 c]
theorem rs_shown (h : RA t s) (v : ivc s) (vp : ivp s) (w m i : Int32) : ∃ t2, fn_X12_shown w m i t = some ((s_shown s w m i).1, t2) ∧ RA t2 (s_shown s w m i).2 := by
  have v0 := v.1
  have v2 := v.2.2.1
  unfold fn_X12_shown s_shown
  simp only [ri_noWriting h v, ri_noMoment h v, fg_b_1, q_bn_if]
  by_cases c1 : q_in w (sC s 2)
  · simp only [fg_if_1 c1]
    by_cases c2 : q_in m ((sC s 0 : Nat) + 1)
    · obtain ⟨e1, l1⟩ := n_in c1
      obtain ⟨e2, l2⟩ := n_in (n := sC s 0 + 1) c2
      simp only [fg_if_1 c2]
      generalize h_ix w = w2 at e1 l1
      generalize h_ix m = m2 at e2 l2
      subst e1
      subst e2
      obtain ⟨t2, f1, f2, f4, _, _, f3⟩ := ri_lay h v vp (w := w2) (m := m2) (by omega) (by omega)
      rw [f1, fg_b_1, ri_nth w2 m2 f2 f4]
      exact ⟨t2, rfl, f3⟩
    · simp only [fg_if_0 c2]
      exact ⟨t, rfl, h⟩
  · simp only [fg_if_0 c1]
    exact ⟨t, rfl, h⟩
theorem ri_layVersion (h : RA t s) (v : ivc s) (vp : ivp s) (vv : ivv s) {x : Nat} (hx : x < sC s 4) : ∃ t2 w m, fn_X12_layVersion (nI x) t = some ((), t2) ∧ s_vs s x = s_sh (sR s) 4 w m ∧ t2.1 35 = nI (s_sh (sR s) 4 w m).length ∧ l_out t2 (s_inf s w m) ∧ RA t2 s := by
  have v0 := v.1
  have v2 := v.2.2.1
  have v4 := v.2.2.2.2.1
  obtain ⟨⟨w, m, hw, hm, e1, e2⟩, _⟩ := vv x hx
  obtain ⟨t2, f1, f2, f4, _, _, f3⟩ := ri_lay h v vp (w := w) (m := m) (by omega) (by omega)
  refine ⟨t2, w, m, ?_, ?_, f2, f4, f3⟩
  · unfold fn_X12_layVersion
    have g1 : vp_in (nI x) 16 := (n_vp (by omega)).mpr (by omega)
    rw [fg_g_1 g1, fg_g_1 g1, q_nIx (by omega), h.2.1 56 rfl, h.2.1 57 rfl, e1, e2, f1, fg_b_1]
  · unfold s_vs
    rw [e1, e2, q_nIx (by omega), q_nIx (by omega)]
theorem rs_at (h : RA t s) (v : ivc s) (vp : ivp s) (vv : ivv s) (x i : Int32) : ∃ t2, fn_X12_at x i t = some ((s_at s x i).1, t2) ∧ RA t2 (s_at s x i).2 := by
  unfold fn_X12_at s_at
  simp only [ri_noVersion h v, fg_b_1, q_bn_if]
  by_cases c1 : q_in x (sC s 4)
  · obtain ⟨e1, l1⟩ := n_in c1
    simp only [fg_if_1 c1]
    generalize h_ix x = x2 at e1 l1
    subst e1
    obtain ⟨t2, w, m, f1, f2, f3, f4, f5⟩ := ri_layVersion h v vp vv l1
    rw [f1, fg_b_1, ri_nth w m f3 f4, f2]
    exact ⟨t2, rfl, f5⟩
  · simp only [fg_if_0 c1]
    exact ⟨t, rfl, h⟩
theorem s_mn0 {x : Int32} (h : s_mn x) : x < 0 ↔ x = -9 := by
  rcases h with w | ⟨z, hz, w⟩
  · rw [w]; exact ⟨fun _ => rfl, fun _ => by decide⟩
  · rw [w]
    refine ⟨fun q => absurd q (n_neg (by omega)), fun q => ?_⟩
    have := congrArg Int32.toInt q
    rw [q_nI (by omega)] at this
    have e1 : (-9 : Int32).toInt = -9 := rfl
    omega
theorem ri_about_20 (h : RA t s) (v : ivc s) (vv : ivv s) {x : Nat} (hx : x < sC s 4) {w m : Nat} (hs : s_vs s x = s_sh (sR s) 4 w m) (h35 : t.1 35 = nI (s_sh (sR s) 4 w m).length) (h36 : l_out t (s_inf s w m)) (z : Int32) : ∀ (d j N g : Nat), j + d = (s_vs s x).length → d < N → fn_X12_about_20 N (nI x) z (nI g) (nI j) t = some (fg_if (z = 0) (s_kind s x) (fg_if (z = 1) (sF s 56 x) (fg_if (z = 2) (sF s 57 x) (fg_if (z = 3) (nI (s_vs s x).length) (fg_if (z = 4) (nI (g + s_gap ((s_vs s x).drop j))) (-2))))), t) := by
  have v4 := v.2.2.2.2.1
  have hl := s_vs_300 (s := s) x
  have g1 : vp_in (nI x) 16 := (n_vp (by omega)).mpr (by omega)
  obtain ⟨_, m1, m2, m3⟩ := vv x hx
  rw [← hs] at h35
  intro d
  induction d with
  | zero =>
    intro j N g hj hN
    obtain ⟨N, rfl⟩ : ∃ m, N = m + 1 := ⟨N - 1, by omega⟩
    show fn_X12_about_20b _ _ _ _ _ _ = _
    unfold fn_X12_about_20b
    have ek : fg_if (sF s 59 x < 0) (fg_if (sF s 58 x < 0) (0 : Int32) 1) 2 = s_kind s x := by
      unfold s_kind
      by_cases c1 : sF s 58 x = -9
      · rw [fg_if_1 c1, fg_if_1 ((s_mn0 m2).mpr (m3 c1)), fg_if_1 ((s_mn0 m1).mpr c1)]
      · rw [fg_if_0 c1]
        by_cases c2 : sF s 59 x = -9
        · rw [fg_if_1 c2, fg_if_1 ((s_mn0 m2).mpr c2), fg_if_0 (fun q => c1 ((s_mn0 m1).mp q))]
        · rw [fg_if_0 c2, fg_if_0 (fun q => c2 ((s_mn0 m2).mp q))]
    rw [h35, fg_if_1 ((n_le (by omega) (by omega)).mpr (by omega)), List.drop_eq_nil_of_le (by omega)]
    simp only [fg_g_1 g1, q_nIx (show x < 2 ^ 31 by omega), h.2.1 56 rfl, h.2.1 57 rfl, h.2.1 58 rfl, h.2.1 59 rfl, fg_if_some, ek]
    rfl
  | succ d ih =>
    intro j N g hj hN
    obtain ⟨N, rfl⟩ : ∃ m, N = m + 1 := ⟨N - 1, by omega⟩
    show fn_X12_about_20b (fn_X12_about_20 N) _ _ _ _ _ = _
    unfold fn_X12_about_20b
    have hj2 : j < (s_vs s x).length := by omega
    have ej : t.2 36 j = (s_vs s x)[j] := l_out_w h36 (by rw [← hs]; exact List.getElem?_eq_getElem hj2)
    rw [h35, fg_if_0 (fun q => by have := (n_le (a := (s_vs s x).length) (b := j) (by omega) (by omega)).mp q; omega), fg_g_1 ((n_vp (by omega)).mpr (by omega)), q_nIx (by omega), ej, Int32.add_zero, n_p1, n_p1, ih (j + 1) N _ (by omega) (by omega), ih (j + 1) N _ (by omega) (by omega), List.drop_eq_getElem_cons hj2]
    unfold s_gap
    by_cases c : (s_vs s x)[j] = -7
    · rw [fg_if_1 c, List.filter_cons_of_pos (by simp [c]), List.length_cons, Nat.add_right_comm g 1, Nat.add_assoc]
    · rw [fg_if_0 c, List.filter_cons_of_neg (by simp [c])]
theorem rs_about (h : RA t s) (v : ivc s) (vp : ivp s) (vv : ivv s) (x z : Int32) : ∃ t2, fn_X12_about x z t = some ((s_about s x z).1, t2) ∧ RA t2 (s_about s x z).2 := by
  unfold fn_X12_about s_about
  simp only [ri_noVersion h v, fg_b_1, q_bn_if]
  by_cases c1 : q_in x (sC s 4)
  · obtain ⟨e1, l1⟩ := n_in c1
    simp only [fg_if_1 c1]
    generalize h_ix x = x2 at e1 l1
    subst e1
    obtain ⟨t2, w, m, f1, f2, f3, f4, f5⟩ := ri_layVersion h v vp vv l1
    have hl := s_vs_300 (s := s) x2
    rw [f1, fg_b_1]
    refine ⟨t2, (ri_about_20 f5 v vv l1 f2 f3 f4 z (s_vs s x2).length 0 g_N 0 (by omega) (by have := g_N_le; omega)).trans ?_, f5⟩
    rw [Nat.zero_add]
    rfl
  · simp only [fg_if_0 c1]
    exact ⟨t, rfl, h⟩
theorem rs_give (h : RA t s) (v : ivc s) (vp : ivp s) (vv : ivv s) (x : Int32) : ∃ t2, fn_X12_give x t = some ((s_give s x).1, t2) ∧ RA t2 (s_give s x).2 := by
  have v0 := v.1
  have v4 := v.2.2.2.2.1
  unfold fn_X12_give s_give
  simp only [ri_noVersion h v, fg_b_1, q_bn_if]
  by_cases c1 : q_in x (sC s 4)
  · obtain ⟨e1, l1⟩ := n_in c1
    simp only [fg_if_1 c1]
    generalize h_ix x = x2 at e1 l1
    subst e1
    have g1 : vp_in (nI x2) 16 := (n_vp (by omega)).mpr (by omega)
    obtain ⟨_, m1, m2, m3⟩ := vv x2 l1
    simp only [fg_g_1 g1, h.2.1 58 rfl, h.1.1, n_p1, fg_let_1]
    by_cases c2 : sF s 58 x2 = -9
    · have ck : s_kind s x2 = 0 := by unfold s_kind; rw [fg_if_1 c2]
      have c3 : sF s 58 x2 < 0 := (s_mn0 m1).mpr c2
      simp only [fg_if_1 ck, fg_if_1 c3]
      have h2 := RA_A (k := 58) (i := x2) (v := nI (sC s 0 + 1)) h rfl
      have vv2 : ∀ i, i < sC s 4 → ∃ w m, w < sC s 2 ∧ m ≤ sC s 0 ∧ sF s 56 i = nI w ∧ sF s 57 i = nI m := fun i hi => (vv i hi).1
      obtain ⟨w, m, hw, hm, a1, a2⟩ := vv2 x2 l1
      have v2 := v.2.2.1
      obtain ⟨t2, f1, f2, _, _, _, f3⟩ := ri_lay h2 v vp (w := w) (m := m) (by omega) (by omega)
      have el : fn_X12_layVersion (nI x2) (rt_A t 58 x2 (nI (sC s 0 + 1))) = some ((), t2) := by
        unfold fn_X12_layVersion
        rw [fg_g_1 g1, fg_g_1 g1, q_nIx (by omega), h2.2.1 56 rfl, h2.2.1 57 rfl, sF_uF, sF_uF, if_neg (by decide), if_neg (by decide), a1, a2, f1, fg_b_1]
      have es : s_vs s x2 = s_sh (sR s) 4 w m := by unfold s_vs; rw [a1, a2, q_nIx (by omega), q_nIx (by omega)]
      rw [el, fg_b_1, f2, ri_acted f3 v, fg_b_1, es]
      exact ⟨_, rfl, rs_act f3 _⟩
    · have ck : ¬ s_kind s x2 = 0 := by
        unfold s_kind
        rw [fg_if_0 c2]
        by_cases c4 : sF s 59 x2 = -9
        · rw [fg_if_1 c4]; decide
        · rw [fg_if_0 c4]; decide
      have c3 : ¬ sF s 58 x2 < 0 := fun q => c2 ((s_mn0 m1).mp q)
      simp only [fg_if_0 ck, fg_if_0 c3]
      exact ⟨t, rfl, h⟩
  · simp only [fg_if_0 c1]
    exact ⟨t, rfl, h⟩
theorem rs_back (h : RA t s) (v : ivc s) (vp : ivp s) (vv : ivv s) (x : Int32) : ∃ t2, fn_X12_back x t = some ((s_back s x).1, t2) ∧ RA t2 (s_back s x).2 := by
  have v0 := v.1
  have v4 := v.2.2.2.2.1
  unfold fn_X12_back s_back
  simp only [ri_noVersion h v, fg_b_1, q_bn_if]
  by_cases c1 : q_in x (sC s 4)
  · obtain ⟨e1, l1⟩ := n_in c1
    simp only [fg_if_1 c1]
    generalize h_ix x = x2 at e1 l1
    subst e1
    have g1 : vp_in (nI x2) 16 := (n_vp (by omega)).mpr (by omega)
    obtain ⟨_, m1, m2, m3⟩ := vv x2 l1
    simp only [fg_g_1 g1, h.2.1 58 rfl, h.2.1 59 rfl, h.1.1, n_p1, fg_let_1]
    by_cases c2 : sF s 58 x2 = -9
    · have ck : ¬ s_kind s x2 = 1 := by unfold s_kind; rw [fg_if_1 c2]; decide
      have c3 : sF s 58 x2 < 0 := (s_mn0 m1).mpr c2
      simp only [fg_if_0 ck, fg_if_1 c3]
      exact ⟨t, rfl, h⟩
    · have c3 : ¬ sF s 58 x2 < 0 := fun q => c2 ((s_mn0 m1).mp q)
      simp only [fg_if_0 c3]
      by_cases c4 : sF s 59 x2 = -9
      · have ck : s_kind s x2 = 1 := by unfold s_kind; rw [fg_if_0 c2, fg_if_1 c4]
        have c5 : sF s 59 x2 < 0 := (s_mn0 m2).mpr c4
        simp only [fg_if_1 ck, fg_if_1 c5]
        have h2 := RA_A (k := 59) (i := x2) (v := nI (sC s 0 + 1)) h rfl
        obtain ⟨w, m, hw, hm, a1, a2⟩ := (vv x2 l1).1
        have v2 := v.2.2.1
        obtain ⟨t2, f1, f2, _, _, _, f3⟩ := ri_lay h2 v vp (w := w) (m := m) (by omega) (by omega)
        have el : fn_X12_layVersion (nI x2) (rt_A t 59 x2 (nI (sC s 0 + 1))) = some ((), t2) := by
          unfold fn_X12_layVersion
          rw [fg_g_1 g1, fg_g_1 g1, q_nIx (by omega), h2.2.1 56 rfl, h2.2.1 57 rfl, sF_uF, sF_uF, if_neg (by decide), if_neg (by decide), a1, a2, f1, fg_b_1]
        have es : s_vs s x2 = s_sh (sR s) 4 w m := by unfold s_vs; rw [a1, a2, q_nIx (by omega), q_nIx (by omega)]
        rw [el, fg_b_1, f2, ri_acted f3 v, fg_b_1, es]
        exact ⟨_, rfl, rs_act f3 _⟩
      · have ck : ¬ s_kind s x2 = 1 := by unfold s_kind; rw [fg_if_0 c2, fg_if_0 c4]; decide
        have c5 : ¬ sF s 59 x2 < 0 := fun q => c4 ((s_mn0 m2).mp q)
        simp only [fg_if_0 ck, fg_if_0 c5]
        exact ⟨t, rfl, h⟩
  · simp only [fg_if_0 c1]
    exact ⟨t, rfl, h⟩
theorem rs_version (h : RA t s) (v : ivc s) (x : Int32) : ∃ t2, fn_X12_version x t = some ((s_version s x).1, t2) ∧ RA t2 (s_version s x).2 := by
  have v0 := v.1
  have v4 := v.2.2.2.2.1
  unfold fn_X12_version s_version s_addV
  simp only [ri_noWriting h v, fg_b_1, q_bn_if]
  by_cases c1 : q_in x (sC s 2)
  · simp only [fg_if_1 c1, h.1.2.2.2.2.1, show (16 : Int32) = nI 16 from rfl, n_eq (show sC s 4 < 2 ^ 31 by omega) (show 16 < 2 ^ 31 by omega)]
    by_cases c2 : sC s 4 = 16
    · simp only [fg_if_1 c2]
      exact ⟨t, rfl, h⟩
    · have h2 := RA_A (k := 59) (i := sC s 4) (v := -9) (RA_A (k := 58) (i := sC s 4) (v := -9) (RA_A (k := 57) (i := sC s 4) (v := nI (sC s 0 + 1)) (RA_A (k := 56) (i := sC s 4) (v := x) h rfl) rfl) rfl) rfl
      have h3 : RA (rt_F (rt_A (rt_A (rt_A (rt_A t 56 (sC s 4) x) 57 (sC s 4) (nI (sC s 0 + 1))) 58 (sC s 4) (-9)) 59 (sC s 4) (-9)) 55 (nI (sC s 4 + 1))) (uC (uF (uF (uF (uF s 56 (sC s 4) x) 57 (sC s 4) (nI (sC s 0 + 1))) 58 (sC s 4) (-9)) 59 (sC s 4) (-9)) 4 (sC s 4 + 1)) := by
        refine RA_up h2 ?_ h2.2.1 rfl rfl (Nat.le_refl _) rfl rfl rfl rfl rfl rfl rfl rfl rfl (fun _ _ => rfl)
        have h1 := h2.1
        unfold RN at *
        simp only [rt_FF, sC_uC, sN_uC]
        simp [h1]
      have g1 : vp_in (nI (sC s 4)) 16 := (n_vp (by omega)).mpr (by omega)
      simp only [fg_if_0 c2, fg_g_1 g1, fg_let_1, rt_AF, rt_FF, if_true, h.1.2.2.2.2.1, h.1.1, n_p1, n_m1, q_nIx (k := sC s 4) (by omega)]
      rw [ri_acted h3 ⟨v.1, v.2.1, v.2.2.1, v.2.2.2.1, show sC s 4 + 1 ≤ 16 by omega, v.2.2.2.2.2⟩, fg_b_1]
      exact ⟨_, rfl, rs_act h3 _⟩
  · simp only [fg_if_0 c1]
    exact ⟨t, rfl, h⟩
end RV
