section CS9
variable {k k2 : h_S} {s : sA} {y y2 : c_Y} {M : Nat}
theorem KD_y (e1 : y2.1 = y.1) (e2 : y2.2.1 = y.2.1) (h : KL k s y ∧ KW k s y ∧ KV k s y ∧ KC k s y ∧ KK k s y ∧ KR k s y) : KL k s y2 ∧ KW k s y2 ∧ KV k s y2 ∧ KC k s y2 ∧ KK k s y2 ∧ KR k s y2 := by
  obtain ⟨a, b, c⟩ := y
  obtain ⟨a2, b2, c2⟩ := y2
  cases e1
  cases e2
  exact h
theorem CB_show (h : CBM k s M y) (v : ivc s) (vp : ivp s) (vq : ivq s) (hM : M ≤ 600) {w m : Nat} (hw : w < sC s 2) (hm : m ≤ M) : ∃ k2 y2 i c e, fn_X7_shownOf 6 (nI w) (nI m) 0 k = some (some (yS y2 i), k2, c, e) ∧ h_k k2 (yS y2 i) = 27 ∧ h_i k2 (yS y2 i) 1 = nI (s_sh (sR s) 4 w m).length ∧ (∃ b, h_r k2 (yS y2 i) 2 = some b ∧ c_tg 3 b ∧ h_k k2 b = 1 ∧ (s_sh (sR s) 4 w m).length ≤ h_n k2 b ∧ h_n k2 b ≤ 300 ∧ (∀ (j : Nat) (x : Int32), (s_sh (sR s) 4 w m)[j]? = some x → h_i k2 b j = x)) ∧ CBM k2 s M y2 ∧ y_le y y2 ∧ c + zC y2 ≤ zC y ∧ e + zD y2 ≤ zD y ∧ c_ag (c_fxS 4) c_tgS k k2 := by
  obtain ⟨h1, h2, h3, h4, d1, d2, d3, d4, d5, d6, d7, d8, d9, d10⟩ := h
  obtain ⟨k2, y2, i, c, e, f1, f2, f3, f4, f5, f6, f7, f8, f9, f10, g⟩ := ci_SH v vp vq hM 4 6 (by omega) (by omega) k y w m ⟨h1, h2.2.2.1, d9, d10⟩ hw hm
  obtain ⟨t1, t2, t3, t4⟩ := f7
  have hsl : c_sl k2 s M (yS y2 i) (yB y2 i) (yC y2 i) := by
    rcases t4.1 i f2 with ⟨q, _⟩ | ⟨_, _, q⟩
    · exact absurd q f3
    · exact q
  obtain ⟨a1, a2, a3, a4, a5, a6, a7, _⟩ := hsl
  refine ⟨k2, y2, i, c, e, f1, a2, f4, ⟨yB y2 i, a3, a4, a5, f5, a7, f6⟩, ⟨t1, ?_, ?_, ?_, ?_⟩, f8, f9, f10, g⟩
  · unfold KN at *
    rw [(g.1 0 (by decide)).2.2.1, (g.1 3 (by decide)).2.2.1]
    exact h2
  · refine ⟨?_, ?_, ?_⟩
    · rw [(g.1 1 (by decide)).2.2.1]; exact h3.1
    · rw [(g.1 15 (by decide)).2.2.1]; exact h3.2.1
    · rw [(g.1 11 (by decide)).2.2.1]; exact h3.2.2
  · unfold KG
    rw [(g.1 2 (by decide)).2.2.1]
    exact h4
  · obtain ⟨q1, q2, q3, q4, q5, q6⟩ := KD_y (k := k2) (s := s) (y := y) (y2 := y2) f8.1 f8.2.1 ⟨KL_fr d1 g (by decide) (by decide) (fun _ _ => rfl), KW_fr d2 g (by decide) (by decide) rfl (fun _ _ => rfl), KV_fr d3 g (by decide) (by decide) rfl (fun _ _ => rfl) (fun _ _ => rfl), KC_fr d4 g (by decide) (by decide) rfl (fun _ _ => rfl) rfl, KK_fr d5 g (by decide) (by decide) rfl (fun _ _ => rfl), KR_fr d6 g (by decide) rfl (fun _ _ => rfl)⟩
    exact ⟨q1, q2, q3, q4, q5, q6, KT_fr d7 g (by decide) (fun _ _ => rfl), KH_fr d8 g (by decide) rfl (fun _ _ => rfl), t3, t4⟩
theorem CB_size (h : CBM k s M y) (v : ivc s) (vp : ivp s) (vq : ivq s) (hM : M ≤ 600) {w m : Nat} (hw : w < sC s 2) (hm : m ≤ M) : ∃ k2 y2 c e, fn_X7_sizeAsOf (nI w) (nI m) k = some (nI (s_sh (sR s) 4 w m).length, k2, c, e) ∧ CBM k2 s M y2 ∧ y_le y y2 ∧ c + zC y2 ≤ zC y ∧ e + zD y2 ≤ zD y ∧ c_ag (c_fxS 4) c_tgS k k2 := by
  obtain ⟨k2, y2, i, c, e, f1, f2, f3, f4, f5, f6, f7, f8, f9⟩ := CB_show h v vp vq hM hw hm
  refine ⟨k2, y2, c + 0, e + 0, ?_, f5, f6, f7, f8, f9⟩
  unfold fn_X7_sizeAsOf
  rw [f1, fg_bc_1, fg_o_1, fg_g_1 f2, f3]
  rfl
theorem cs_length (h : CB k s y) (v : ivc s) (vp : ivp s) (vq : ivq s) (w m : Int32) : ∃ k2 c d y2, fn_X11_length w m k = some ((s_length s w m).1, k2, c, d) ∧ CB k2 (s_length s w m).2 y2 ∧ c + zC y2 ≤ zC y ∧ d + zD y2 ≤ zD y := by
  have v0 := v.1
  unfold fn_X11_length s_length
  simp only [ci_isWriting h.2.1 v, ci_isMoment h.2.1 v, fg_b_1, q_b_if]
  by_cases c1 : q_in w (sC s 2)
  · simp only [fg_if_1 c1]
    by_cases c2 : q_in m ((sC s 0 : Nat) + 1)
    · obtain ⟨e1, l1⟩ := n_in c1
      obtain ⟨e2, l2⟩ := n_in (n := sC s 0 + 1) c2
      simp only [fg_if_1 c2]
      generalize h_ix w = w2 at e1 l1
      generalize h_ix m = m2 at e2 l2
      subst e1
      subst e2
      obtain ⟨k2, y2, c, e, f1, f2, f3, f4, f5, f6⟩ := CB_size (CB_M h) v vp vq (by omega) l1 (show m2 ≤ sC s 0 by omega)
      rw [f1, fg_bc_1]
      exact ⟨k2, c + 0, e + 0, y2, rfl, f2, by omega, by omega⟩
    · simp only [fg_if_0 c2]
      exact ⟨k, 0, 0, y, rfl, h, by omega, by omega⟩
  · simp only [fg_if_0 c1]
    exact ⟨k, 0, 0, y, rfl, h, by omega, by omega⟩
theorem cs_shown (h : CB k s y) (v : ivc s) (vp : ivp s) (vq : ivq s) (w m i : Int32) : ∃ k2 c d y2, fn_X11_shown w m i k = some ((s_shown s w m i).1, k2, c, d) ∧ CB k2 (s_shown s w m i).2 y2 ∧ c + zC y2 ≤ zC y ∧ d + zD y2 ≤ zD y := by
  have v0 := v.1
  unfold fn_X11_shown s_shown
  simp only [ci_isWriting h.2.1 v, ci_isMoment h.2.1 v, fg_b_1, q_b_if]
  by_cases c1 : q_in w (sC s 2)
  · simp only [fg_if_1 c1]
    by_cases c2 : q_in m ((sC s 0 : Nat) + 1)
    · obtain ⟨e1, l1⟩ := n_in c1
      obtain ⟨e2, l2⟩ := n_in (n := sC s 0 + 1) c2
      simp only [fg_if_1 c2]
      generalize h_ix w = w2 at e1 l1
      generalize h_ix m = m2 at e2 l2
      subst e1
      subst e2
      obtain ⟨k2, y2, a, c, e, f1, f2, f3, ⟨b, g1, g2, g3, g4, g5, g6⟩, f5, f6, f7, f8, f9⟩ := CB_show (CB_M h) v vp vq (by omega) l1 (show m2 ≤ sC s 0 by omega)
      have hl := s_sh_300 (sR s) 4 w2 m2
      generalize s_sh (sR s) 4 w2 m2 = l at f3 g4 g6 hl
      rw [f1, fg_bc_1, fg_o_1, fg_g_1 f2, f3, ci_withinN _ (by omega), fg_b_1, q_b_if]
      refine ⟨k2, c + 0, e + 0, y2, ?_, f5, by omega, by omega⟩
      by_cases c3 : q_in i l.length
      · obtain ⟨e3, l3⟩ := n_in c3
        rw [fg_if_1 c3]
        generalize h_ix i = i2 at e3 l3
        subst e3
        obtain ⟨x, x1, x2⟩ := s_get_in (l := l) (by omega) l3
        rw [fg_o_1, fg_g_1 f2, g1, fg_o_1, fg_g_1 g3, fg_g_1 ((n_vp (by omega)).mpr (by omega)), g6 _ x x1]
        show _ = some (s_get l (nI i2), k2, c + 0, e + 0)
        rw [x2]
        rfl
      · rw [fg_if_0 c3]
        show _ = some (s_get l i, k2, c + 0, e + 0)
        unfold s_get
        rw [fg_if_0 c3]
        rfl
    · simp only [fg_if_0 c2]
      exact ⟨k, 0, 0, y, rfl, h, by omega, by omega⟩
  · simp only [fg_if_0 c1]
    exact ⟨k, 0, 0, y, rfl, h, by omega, by omega⟩
/-- versionAt(x) -/
theorem ci_versionAt (h : CBM k s M y) (v : ivc s) (x : Int32) : fn_X11_versionAt x k = some (fg_if (q_in x (sC s 4)) (some (yA y 4 (h_ix x))) none, k) := by
  have v1 := v.2.2.2.2.1
  have hl := h.2.2.2.2.1.1
  unfold fn_X11_versionAt
  rw [ci_size (ck_4 h.1) hl, fg_b_1, ci_withinN x (by omega), fg_b_1, q_b_if]
  by_cases c : q_in x (sC s 4)
  · obtain ⟨e, l⟩ := n_in c
    rw [fg_if_1 c, fg_if_1 c]
    generalize h_ix x = i at e l
    subst e
    rw [ci_get (ck_4 h.1) hl l, fg_b_1, fg_g_1]
    intro z hz
    cases hz
    exact (h.2.2.2.2.2.2.1.1 i l).2.1
  · rw [fg_if_0 c, fg_if_0 c]
theorem CB_ver (h : CBM k s M y) {i : Nat} (hi : i < sC s 4) : c_tg 8 (yA y 4 i) ∧ h_k k (yA y 4 i) = 29 ∧ h_i k (yA y 4 i) 0 = sF s 56 i ∧ h_i k (yA y 4 i) 1 = sF s 57 i ∧ h_i k (yA y 4 i) 3 = s_nv (sF s 58 i) ∧ h_i k (yA y 4 i) 4 = s_nv (sF s 59 i) ∧ ∃ b, h_r k (yA y 4 i) 2 = some b ∧ c_ar k 9 b (s_vs s i) := h.2.2.2.2.2.2.1.1 i hi
theorem ci_kind (h : CBM k s M y) (vv : ivv s) {i : Nat} (hi : i < sC s 4) : fn_X8_kind (yA y 4 i) k = some (s_kind s i, k) := by
  obtain ⟨_, w1, _, _, w2, w3, _⟩ := CB_ver h hi
  obtain ⟨_, m1, m2, _⟩ := vv i hi
  unfold fn_X8_kind s_kind
  rw [fg_g_1 w1, w2, w3]
  by_cases c1 : sF s 58 i = -9
  · rw [fg_if_1 c1, fg_if_1 ((s_nv_mn m1).mpr c1)]
  · rw [fg_if_0 c1, fg_if_0 (fun w => c1 ((s_nv_mn m1).mp w))]
    by_cases c2 : sF s 59 i = -9
    · rw [fg_if_1 c2, fg_if_1 ((s_nv_mn m2).mpr c2)]
    · rw [fg_if_0 c2, fg_if_0 (fun w => c2 ((s_nv_mn m2).mp w))]
theorem cs_at (h : CB k s y) (v : ivc s) (x i : Int32) : ∃ k2, fn_X11_at x i k = some ((s_at s x i).1, k2) ∧ CB k2 (s_at s x i).2 y := by
  refine ⟨k, ?_, h⟩
  unfold fn_X11_at s_at
  simp only [ci_versionAt (CB_M h) v, fg_b_1]
  by_cases c : q_in x (sC s 4)
  · obtain ⟨_, w1, _, _, _, _, b, w2, w3⟩ := CB_ver (CB_M h) (n_in c).2
    have n : ¬ (some (yA y 4 (h_ix x)) = none) := by simp
    have hl := s_vs_300 (s := s) (h_ix x)
    have en : Int32.ofNat (h_n k b) = nI (s_vs s (h_ix x)).length := by rw [w3.2.2.1]; rfl
    simp only [fg_if_1 c, fg_if_0 n, fg_o_1, fg_g_1 w1, w2, fg_g_1 w3.2.1, en, ci_withinN i (show (s_vs s (h_ix x)).length < 2 ^ 31 by omega), fg_b_1, q_b_if]
    by_cases c3 : q_in i (s_vs s (h_ix x)).length
    · obtain ⟨e3, l3⟩ := n_in c3
      rw [fg_if_1 c3]
      generalize h_ix i = i2 at e3 l3
      subst e3
      obtain ⟨z, x1, x2⟩ := s_get_in (l := s_vs s (h_ix x)) (by omega) l3
      rw [fg_g_1 ((n_vp (by omega)).mpr (by rw [w3.2.2.1]; exact l3)), w3.2.2.2 _ z x1, x2]
    · rw [fg_if_0 c3]
      unfold s_get
      rw [fg_if_0 c3]
  · simp only [fg_if_0 c, fg_if_T]
theorem ci_gaps_13 {b n : Nat} {l : List Int32} (hk : h_k k b = 1) (hn : h_n k b = n) (hl : l.length = n) (hn2 : n < 2 ^ 31) (hg : ∀ (j : Nat) (x : Int32), l[j]? = some x → h_i k b j = x) : ∀ (d j N g : Nat), j + d = n → d < N → fn_X8_gaps_13 N (nI g) (some b) (nI n) (nI j) k = some (nI (g + s_gap (l.drop j)), k) := by
  intro d
  induction d with
  | zero =>
    intro j N g hj hN
    obtain ⟨N, rfl⟩ : ∃ m, N = m + 1 := ⟨N - 1, by omega⟩
    show fn_X8_gaps_13b _ _ _ _ _ _ = _
    unfold fn_X8_gaps_13b
    rw [fg_if_1 ((n_le (by omega) (by omega)).mpr (by omega)), List.drop_eq_nil_of_le (by omega)]
    rfl
  | succ d ih =>
    intro j N g hj hN
    obtain ⟨N, rfl⟩ : ∃ m, N = m + 1 := ⟨N - 1, by omega⟩
    show fn_X8_gaps_13b (fn_X8_gaps_13 N) _ _ _ _ _ = _
    unfold fn_X8_gaps_13b
    have hj2 : j < l.length := by omega
    rw [fg_if_0 (fun w => by have := (n_le (a := n) (b := j) (by omega) (by omega)).mp w; omega), fg_o_1, fg_g_1 hk, fg_g_1 ((n_vp (by omega)).mpr (by omega)), q_nIx (by omega), hg j l[j] (List.getElem?_eq_getElem hj2), n_p1, n_p1, ih (j + 1) N _ (by omega) (by omega), ih (j + 1) N _ (by omega) (by omega), List.drop_eq_getElem_cons hj2]
    unfold s_gap
    by_cases c : l[j] = -7
    · rw [fg_if_1 c, List.filter_cons_of_pos (by simp [c]), List.length_cons]
      congr 3
      omega
    · rw [fg_if_0 c, List.filter_cons_of_neg (by simp [c])]
theorem cs_about (h : CB k s y) (v : ivc s) (vv : ivv s) (x z : Int32) : ∃ k2, fn_X11_about x z k = some ((s_about s x z).1, k2) ∧ CB k2 (s_about s x z).2 y := by
  refine ⟨k, ?_, h⟩
  unfold fn_X11_about s_about
  simp only [ci_versionAt (CB_M h) v, fg_b_1]
  by_cases c : q_in x (sC s 4)
  · obtain ⟨_, w1, w4, w5, _, _, b, w2, w3⟩ := CB_ver (CB_M h) (n_in c).2
    have n : ¬ (some (yA y 4 (h_ix x)) = none) := by simp
    have hl := s_vs_300 (s := s) (h_ix x)
    have en : Int32.ofNat (h_n k b) = nI (s_vs s (h_ix x)).length := by rw [w3.2.2.1]; rfl
    have eg : fn_X8_gaps (yA y 4 (h_ix x)) k = some (nI (s_gap (s_vs s (h_ix x))), k) := by
      unfold fn_X8_gaps
      rw [fg_g_1 w1, w2, fg_o_1, fg_g_1 w3.2.1, en, show (0 : Int32) = nI 0 from rfl, ci_gaps_13 w3.2.1 w3.2.2.1 rfl (by omega) w3.2.2.2 (s_vs s (h_ix x)).length 0 g_N 0 (by omega) (by have := g_N_le; omega), Nat.zero_add]
      rfl
    simp only [fg_if_1 c, fg_if_0 n, fg_o_1, fg_g_1 w1, w2, w4, w5, fg_g_1 w3.2.1, en, ci_kind (CB_M h) vv (n_in c).2, eg, fg_b_1, fg_if_some]
  · simp only [fg_if_0 c, fg_if_T]
theorem s_nvI {z : Nat} (hz : z ≤ 600) : s_nv (nI z) = nI z := by
  unfold s_nv
  rw [if_neg]
  intro w
  have := congrArg Int32.toInt w
  rw [q_nI (by omega)] at this
  have e1 : (-9 : Int32).toInt = -9 := rfl
  omega
theorem cs_given (h : CBM k s M y) {i f j z : Nat} (hi : i < sC s 4) (hf : (f = 58 ∧ j = 3) ∨ (f = 59 ∧ j = 4)) (hz : z ≤ 600) : CBM (h_si k (yA y 4 i) j (nI z)) (uF s f i (nI z)) M y := by
  obtain ⟨h1, h2, h3, h4, d1, d2, d3, d4, d5, d6, d7, d8, d9, d10⟩ := h
  have ht : c_tg 8 (yA y 4 i) := (d3.1 i hi).1
  have g : c_ag (List.range 60) [1, 2, 3, 4, 5, 6, 7, 9, 10, 11, 12, 13, 14] k (h_si k (yA y 4 i) j (nI z)) := c_ag_siT ht (by decide) (fun a ha => by have := List.mem_range.mp ha; omega)
  have ff : ∀ x, x ≠ 58 → x ≠ 59 → sF (uF s f i (nI z)) x = sF s x := by
    intro x a b
    funext q
    rw [sF_uF, if_neg (by omega)]
  have fm : ∀ (l : List Nat), 58 ∉ l → 59 ∉ l → ∀ x, x ∈ l → sF (uF s f i (nI z)) x = sF s x := fun l a b x hx => ff x (fun e => a (e ▸ hx)) (fun e => b (e ▸ hx))
  refine ⟨h1, ?_, ?_, ?_, KL_fr d1 g (by decide) (by decide) (fun _ _ => rfl), KW_fr d2 g (by decide) (by decide) rfl (fm _ (by decide) (by decide)), ?_, KC_fr d4 g (by decide) (by decide) rfl (fm _ (by decide) (by decide)) rfl, KK_fr d5 g (by decide) (by decide) rfl (fm _ (by decide) (by decide)), KR_fr d6 g (by decide) rfl (fm _ (by decide) (by decide)), KT_fr d7 g (by decide) (fm _ (by decide) (by decide)), KH_fr d8 g (by decide) rfl (fm _ (by decide) (by decide)), KP_fr d9 g (by decide) (by decide) (by decide) (by decide) (by decide) rfl (Nat.le_refl _) rfl, KX_fr d10 g (by decide) (by decide) (by decide) (Nat.le_refl _) (Nat.le_refl _) (fun _ _ _ _ _ _ => rfl)⟩
  · unfold KN at *
    rw [(g.1 0 (by decide)).2.2.1, (g.1 3 (by decide)).2.2.1]
    exact h2
  · refine ⟨?_, ?_, ?_⟩
    · rw [(g.1 1 (by decide)).2.2.1, ff 2 (by decide) (by decide)]; exact h3.1
    · rw [(g.1 15 (by decide)).2.2.1, ff 9 (by decide) (by decide)]; exact h3.2.1
    · rw [(g.1 11 (by decide)).2.2.1, ff 104 (by decide) (by decide)]; exact h3.2.2
  · unfold KG
    rw [(g.1 2 (by decide)).2.2.1]
    exact h4
  · refine ⟨fun q hq => ?_, d3.2⟩
    have hq : q < sC s 4 := hq
    obtain ⟨a1, a2, a3, a4, a5, a6, b, a7, a8⟩ := d3.1 q hq
    rw [ff 56 (by decide) (by decide), ff 57 (by decide) (by decide)]
    by_cases e : q = i
    · subst e
      refine ⟨a1, a2, ?_, ?_, ?_, ?_, b, a7, c_ar_fr a8 g (by decide)⟩
      · rw [h_i_si, if_neg (by omega)]; exact a3
      · rw [h_i_si, if_neg (by omega)]; exact a4
      · rw [h_i_si, sF_uF]
        rcases hf with ⟨e1, e2⟩ | ⟨e1, e2⟩
        · subst e1; subst e2
          rw [if_pos ⟨rfl, rfl⟩, if_pos rfl, if_pos rfl, s_nvI hz]
        · subst e1; subst e2
          rw [if_neg (by omega), if_neg (by omega)]; exact a5
      · rw [h_i_si, sF_uF]
        rcases hf with ⟨e1, e2⟩ | ⟨e1, e2⟩
        · subst e1; subst e2
          rw [if_neg (by omega), if_neg (by omega)]; exact a6
        · subst e1; subst e2
          rw [if_pos ⟨rfl, rfl⟩, if_pos rfl, if_pos rfl, s_nvI hz]
    · have ne : yA y 4 q ≠ yA y 4 i := fun w => e (d3.2 q i hq hi w)
      have ef : ∀ x, sF (uF s f i (nI z)) x q = sF s x q := by
        intro x
        rw [sF_uF, if_neg e]
        split <;> rfl
      rw [ef, ef, (c_eq_si ne).2.2.1]
      exact ⟨a1, a2, a3, a4, a5, a6, b, a7, c_ar_fr a8 g (by decide)⟩
theorem cs_give (h : CB k s y) (v : ivc s) (g : ivg s) (vv : ivv s) (x : Int32) : ∃ k2, fn_X11_give x k = some ((s_give s x).1, k2) ∧ CB k2 (s_give s x).2 y := by
  have v0 := v.1
  unfold fn_X11_give s_give
  simp only [ci_versionAt (CB_M h) v, fg_b_1]
  by_cases c : q_in x (sC s 4)
  · have hi := (n_in c).2
    obtain ⟨w0, w1, w4, w5, _, _, b, w2, w3⟩ := CB_ver (CB_M h) hi
    have n : ¬ (some (yA y 4 (h_ix x)) = none) := by simp
    have en : Int32.ofNat (h_n k b) = nI (s_vs s (h_ix x)).length := by rw [w3.2.2.1]; rfl
    simp only [fg_if_1 c, fg_if_0 n, fg_o_1, fg_g_1 w1, ci_kind (CB_M h) vv hi, fg_b_1]
    by_cases c2 : s_kind s (h_ix x) = 0
    · have hg := cs_given (CB_M h) hi (f := 58) (j := 3) (Or.inl ⟨rfl, rfl⟩) (show sC s 0 + 1 ≤ 600 by omega)
      have e1 : h_k (h_si k (yA y 4 (h_ix x)) 3 (nI (sC s 0 + 1))) (yA y 4 (h_ix x)) = 29 := w1
      have e2 : h_r (h_si k (yA y 4 (h_ix x)) 3 (nI (sC s 0 + 1))) (yA y 4 (h_ix x)) 2 = some b := w2
      have e3 : h_k (h_si k (yA y 4 (h_ix x)) 3 (nI (sC s 0 + 1))) b = 1 := w3.2.1
      have e4 : Int32.ofNat (h_n (h_si k (yA y 4 (h_ix x)) 3 (nI (sC s 0 + 1))) b) = nI (s_vs s (h_ix x)).length := en
      simp only [fg_if_1 c2, h.2.1.1, n_p1, fg_let_1, fg_g_1 e1, e2, fg_o_1, fg_g_1 e3, e4]
      rw [ci_acted hg.2.1.1 v0, fg_b_1]
      exact ⟨_, rfl, cs_act hg (by show sC s 0 ≤ sC s 0 + 1; omega) g _⟩
    · simp only [fg_if_0 c2]
      exact ⟨k, rfl, h⟩
  · simp only [fg_if_0 c, fg_if_T]
    exact ⟨k, rfl, h⟩
theorem cs_back (h : CB k s y) (v : ivc s) (g : ivg s) (vv : ivv s) (x : Int32) : ∃ k2, fn_X11_back x k = some ((s_back s x).1, k2) ∧ CB k2 (s_back s x).2 y := by
  have v0 := v.1
  unfold fn_X11_back s_back
  simp only [ci_versionAt (CB_M h) v, fg_b_1]
  by_cases c : q_in x (sC s 4)
  · have hi := (n_in c).2
    obtain ⟨w0, w1, w4, w5, _, _, b, w2, w3⟩ := CB_ver (CB_M h) hi
    have n : ¬ (some (yA y 4 (h_ix x)) = none) := by simp
    have en : Int32.ofNat (h_n k b) = nI (s_vs s (h_ix x)).length := by rw [w3.2.2.1]; rfl
    simp only [fg_if_1 c, fg_if_0 n, fg_o_1, fg_g_1 w1, ci_kind (CB_M h) vv hi, fg_b_1]
    by_cases c2 : s_kind s (h_ix x) = 1
    · have hg := cs_given (CB_M h) hi (f := 59) (j := 4) (Or.inr ⟨rfl, rfl⟩) (show sC s 0 + 1 ≤ 600 by omega)
      have e1 : h_k (h_si k (yA y 4 (h_ix x)) 4 (nI (sC s 0 + 1))) (yA y 4 (h_ix x)) = 29 := w1
      have e2 : h_r (h_si k (yA y 4 (h_ix x)) 4 (nI (sC s 0 + 1))) (yA y 4 (h_ix x)) 2 = some b := w2
      have e3 : h_k (h_si k (yA y 4 (h_ix x)) 4 (nI (sC s 0 + 1))) b = 1 := w3.2.1
      have e4 : Int32.ofNat (h_n (h_si k (yA y 4 (h_ix x)) 4 (nI (sC s 0 + 1))) b) = nI (s_vs s (h_ix x)).length := en
      simp only [fg_if_1 c2, h.2.1.1, n_p1, fg_let_1, fg_g_1 e1, e2, fg_o_1, fg_g_1 e3, e4]
      rw [ci_acted hg.2.1.1 v0, fg_b_1]
      exact ⟨_, rfl, cs_act hg (by show sC s 0 ≤ sC s 0 + 1; omega) g _⟩
    · simp only [fg_if_0 c2]
      exact ⟨k, rfl, h⟩
  · simp only [fg_if_0 c, fg_if_T]
    exact ⟨k, rfl, h⟩
end CS9
