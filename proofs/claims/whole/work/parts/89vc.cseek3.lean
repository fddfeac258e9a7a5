/-! seek of the class -/
def c_fxH : List Nat := [4, 5, 6, 8, 16, 17, 18, 19, 20, 52, 53, 54, 55, 56, 57, 58, 59]
section CSz
variable {k k2 : h_S} {s s2 : sA} {y : c_Y}
theorem KD_frH {M M2 : Nat} (h : KD k s M y) (g : c_ag c_fxH c_tags k k2) (hH : KH k2 s2) (hM : M ≤ M2) (hc : ∀ i, 2 ≤ i → i ≠ 8 → sC s2 i = sC s i) (hf : ∀ x, x ∈ ([23, 24, 25, 26, 27, 56, 57, 58, 59, 75, 78, 81, 82, 83, 84, 85, 86, 90, 91, 92, 93, 94, 95, 96, 97, 110, 111, 112] : List Nat) → sF s2 x = sF s x) (hr : sR s2 = sR s) (hk : sK s2 = sK s) (h0 : sC s 0 ≤ sC s2 0) : KD k2 s2 M2 y := by
  obtain ⟨h1, h2, h3, h4, h5, h6, h7, h8, h9, h10⟩ := h
  refine ⟨?_, ?_, ?_, ?_, ?_, ?_, ?_, ?_, ?_, ?_⟩
  · obtain ⟨b1, b2, b3, b4, b5, b6⟩ := h1
    refine ⟨?_, ?_, ?_, ?_, ?_, b6⟩
    · rw [hc 4 (by omega) (by omega)]; exact CL_7 b1 g (by decide) (by decide)
    · rw [hc 7 (by omega) (by omega)]; exact CL_7 b2 g (by decide) (by decide)
    · rw [hc 5 (by omega) (by omega)]; exact CL_7 b3 g (by decide) (by decide)
    · rw [hc 6 (by omega) (by omega)]; exact CL_7 b4 g (by decide) (by decide)
    · rw [hc 3 (by omega) (by omega)]; exact CL_7 b5 g (by decide) (by decide)
  · refine ⟨fun i hi => ?_, fun q hq => ?_⟩
    · rw [hc 3 (by omega) (by omega)] at hi
      rw [hf 23 (by decide), hf 24 (by decide), hf 25 (by decide), hf 26 (by decide), hf 27 (by decide)]
      exact c_wd_fr (h2.1 i hi) g (by decide)
    · have e : ∀ n, s_nth s2 q n = s_nth s q n := by
        intro n
        induction n with
        | zero => rfl
        | succ n ih => unfold s_nth; rw [ih, hf 24 (by decide)]
      rw [hc 3 (by omega) (by omega), e, (g.1 19 (by decide)).2.2.1]
      exact h2.2 q hq
  · refine ⟨fun i hi => ?_, fun i j hi hj => ?_⟩
    · rw [hc 4 (by omega) (by omega)] at hi
      obtain ⟨a1, a2, a3, a4, a5, a6, b, a7, a8⟩ := h3.1 i hi
      have e := c_agd g a1 (by decide) (by rw [a2]; decide)
      rw [hf 56 (by decide), hf 57 (by decide), hf 58 (by decide), hf 59 (by decide), hr, e.1, e.2.2.1, e.2.2.2]
      exact ⟨a1, a2, a3, a4, a5, a6, b, a7, c_ar_fr a8 g (by decide)⟩
    · rw [hc 4 (by omega) (by omega)] at hi hj
      exact h3.2 i j hi hj
  · refine ⟨fun i hi => ?_, fun i j hi hj => ?_⟩
    · rw [hc 7 (by omega) (by omega)] at hi
      obtain ⟨a1, a2, a3, a4, a5, b, a7, a8⟩ := h4.1 i hi
      have e := c_agd g a1 (by decide) (by rw [a2]; decide)
      rw [hf 75 (by decide), hf 78 (by decide), hk, e.1, e.2.2.1, e.2.2.2]
      exact ⟨a1, a2, a3, a4, a5, b, a7, c_ar_fr a8 g (by decide)⟩
    · rw [hc 7 (by omega) (by omega)] at hi hj
      exact h4.2 i j hi hj
  · intro i hi
    rw [hc 5 (by omega) (by omega)] at hi
    obtain ⟨a1, a2, a3, a4, ⟨b, a5, a6⟩, c, a7, a8⟩ := h5 i hi
    have e := c_agd g a1 (by decide) (by rw [a2]; decide)
    rw [hf 81 (by decide), hf 82 (by decide), hf 83 (by decide), hf 84 (by decide), hf 85 (by decide), hf 86 (by decide), e.1, e.2.2.1, e.2.2.2]
    exact ⟨a1, a2, a3, a4, ⟨b, a5, c_ar_fr a6 g (by decide)⟩, c, a7, c_ar_fr a8 g (by decide)⟩
  · refine ⟨fun i hi => ?_, fun i j hi hj => ?_⟩
    · rw [hc 6 (by omega) (by omega)] at hi
      have a := h6.1 i hi
      have e := c_agd g a.1 (by decide) (by rw [a.2.1]; decide)
      rw [hf 90 (by decide), hf 91 (by decide), hf 92 (by decide), hf 93 (by decide), hf 94 (by decide), hf 95 (by decide), hf 96 (by decide), hf 97 (by decide), e.1, e.2.2.1]
      exact a
    · rw [hc 6 (by omega) (by omega)] at hi hj
      exact h6.2 i j hi hj
  · intro q hq
    have e1 : c_eq k k2 (52 + q) := g.1 _ (by rcases (show q = 0 ∨ q = 1 ∨ q = 2 ∨ q = 3 by omega) with rfl | rfl | rfl | rfl <;> decide)
    have e2 : c_eq k k2 (56 + q) := g.1 _ (by rcases (show q = 0 ∨ q = 1 ∨ q = 2 ∨ q = 3 by omega) with rfl | rfl | rfl | rfl <;> decide)
    rw [hf 110 (by decide), hf 111 (by decide), hf 112 (by decide), e1.2.2.1, e2.2.2.1]
    exact h7 q hq
  · exact hH
  · intro w hw
    rw [hc 2 (by omega) (by omega)] at hw
    rw [hr, (g.1 16 (by decide)).2.2.2]
    exact ⟨⟨(h9 w hw).1.1, by have := (h9 w hw).1.2; omega⟩, c_ch_fr g (by decide) (by decide) (by decide) (by decide) _ _ (h9 w hw).2.1, (h9 w hw).2.2⟩
  · refine ⟨fun i hi => ?_, h10.2⟩
    rw [(g.1 20 (by decide)).2.2.2]
    rcases h10.1 i hi with a | ⟨a1, a2, a3⟩
    · exact Or.inl a
    · exact Or.inr ⟨a1, a2, c_sl_fr a3 g (by decide) (by decide) hM (by rw [hc 2 (by omega) (by omega)]; exact Nat.le_refl _) (fun f w m _ _ _ => by rw [hr])⟩
end CSz
section CSy
variable {k k2 : h_S} {s : sA} {y : c_Y} {M : Nat}
theorem CB_kept {H : List sH} {q : Nat} {k3 : h_S} (h : CBM k s M y) (hH : ∀ x, x ∈ H → s_hok x) (t : c_tg 15 q) (e : q = c_ad 15 k) (w : c_ww [13, q] (h_nw k q 1 26) k3) (h13 : ∀ (i : Nat) (x : sH), (s_srt 25 H)[i]? = some x → i < 200 → h_i k3 13 i = nI (s_hcd x)) : CBM (h_si k3 0 15 (nI (min H.length 200))) (s_kept s ((s_srt 25 H).take 200)) M y := by
  have hlen := s_srt_len (H := H) (fun x hx => (hH x hx).2.2)
  have el : ((s_srt 25 H).take 200).length = min H.length 200 := by rw [List.length_take, hlen, Nat.min_comm]
  have t1 := t.1
  have t2 := t.2
  have eqb : ∀ b, b ≠ 13 → b < 128 → c_eq k k3 b := fun b h1 h2 => c_eqt (c_eq_nw (by omega)) (w.2 b (by simp; omega))
  have ag : c_ag c_fxH c_tags k k3 := by
    refine ⟨fun b hb => eqb b ?_ ?_, fun b h1 h2 h3 => ?_⟩
    · intro z; rw [z] at hb; exact absurd hb (by decide)
    · unfold c_fxH at hb
      simp only [List.mem_cons, List.not_mem_nil, or_false] at hb
      omega
    · have nb : b ≠ q := fun z => h3 (by rw [z]; exact cf_z h.1 e)
      exact c_eqt (c_eq_nw nb) (w.2 b (by simp; omega))
  have ag2 : c_ag c_fxH c_tags k (h_si k3 0 15 (nI (min H.length 200))) := c_agt ag (c_ag_si (by decide) (by decide))
  obtain ⟨h1, h2, h3, h4, h5⟩ := h
  refine ⟨w.1, ?_, ⟨?_, ?_, ?_⟩, ?_, KD_frH h5 ag2 ?_ (Nat.le_refl _) (fun i _ h8 => ?_) (fun x hx => ?_) rfl rfl (Nat.le_refl _)⟩
  · unfold KN at *
    have e0 := (eqb 0 (by decide) (by decide)).2.2.1
    have e3 := (eqb 3 (by decide) (by decide)).2.2.1
    have z8 : sC (s_kept s ((s_srt 25 H).take 200)) 8 = min H.length 200 := el
    rw [z8]
    obtain ⟨b1, b2, b3, b4, b5, b6, b7⟩ := h2
    refine ⟨?_, ?_, ?_, ?_, ?_, ?_, ?_⟩
    · rw [h_i_si, if_neg (by omega), e0]; exact b1
    · rw [h_i_si, if_neg (by omega), e0]; exact b2
    · rw [h_i_si, if_neg (by omega), e3]; exact b3
    · rw [h_i_si, if_pos ⟨rfl, rfl⟩]
    · rw [h_i_si, if_neg (by omega), e0]; exact b5
    · rw [h_i_si, if_neg (by omega), e0]; exact b6
    · rw [h_i_si, if_neg (by omega), e0]; exact b7
  · intro i hi
    rw [h_i_si, if_neg (by omega), (eqb 1 (by decide) (by decide)).2.2.1]; exact h3.1 i hi
  · intro i hi
    rw [h_i_si, if_neg (by omega), (eqb 15 (by decide) (by decide)).2.2.1]; exact h3.2.1 i hi
  · intro i hi
    rw [h_i_si, if_neg (by omega), (eqb 11 (by decide) (by decide)).2.2.1]; exact h3.2.2 i hi
  · intro g hg m hm
    rw [h_i_si, if_neg (by omega), (eqb 2 (by decide) (by decide)).2.2.1]; exact h4 g hg m hm
  · intro i hi
    have hi : i < ((s_srt 25 H).take 200).length := hi
    have hx := List.getElem?_eq_getElem hi
    have hi2 : i < 200 := by have := List.length_take_le 200 (s_srt 25 H); omega
    have hx2 : (s_srt 25 H)[i]? = some ((s_srt 25 H).take 200)[i] := by
      rw [List.getElem?_take, if_pos hi2] at hx
      exact hx
    have o := hH _ (s_srt_l 25 H _ (List.mem_of_getElem? hx2)).2
    refine ⟨_, _, _, o.2.2, o.1, o.2.1, ?_, ?_, ?_, ?_⟩
    · show nI (((s_srt 25 H).take 200)[i]?.getD (0, 0, 0)).2.2 = _
      rw [hx]; rfl
    · show nI (((s_srt 25 H).take 200)[i]?.getD (0, 0, 0)).1 = _
      rw [hx]; rfl
    · show nI (((s_srt 25 H).take 200)[i]?.getD (0, 0, 0)).2.1 = _
      rw [hx]; rfl
    · rw [h_i_si, if_neg (by omega), h13 i _ hx2 hi2]
      rfl
  · show (if i = 8 then _ else sC s i) = _
    rw [if_neg h8]
  · have n6 : x ≠ 106 ∧ x ≠ 107 ∧ x ≠ 108 := by
      refine ⟨fun e => ?_, fun e => ?_, fun e => ?_⟩ <;> rw [e] at hx <;> exact absurd hx (by decide)
    funext i
    unfold s_kept
    rw [sF_uC, sF_uFf, if_neg n6.2.2, sF_uFf, if_neg n6.2.1, sF_uFf, if_neg n6.1]
theorem ci_seek_57 (h : CBM k s M y) (v : ivc s) (vr : ivr2 s) (vv : ivv s) (vd : ivd s) (vx : ivx s) (vm : ivm s) {a : Int32} {q i n z : Nat} (hq : q < 4) (hn : i + n ≤ z) (hz : z ≤ 60) (ez : sF s 110 q = nI z) (hn1 : 1 ≤ n) : ∀ (d u N : Nat) (H : List sH) (g : Nat → Int32), u + d = sC s 4 → d < N → H.length ≤ 300 * u → c_hl g H → ∃ g2, fn_X11_seek_57 N a (nI q) (nI i) (nI n) (nI H.length) (nI u) (h_af k 12 g) = fg_bc (fn_X11_keepHits (nI (H ++ s_hv s a q i n d u).length) (h_af k 12 g2)) (fun _ s8 => some (nI (H ++ s_hv s a q i n d u).length, s8, 0, 0)) ∧ c_hl g2 (H ++ s_hv s a q i n d u) ∧ (H ++ s_hv s a q i n d u).length ≤ 4800 := by
  have v4 := v.2.2.2.2.1
  intro d
  induction d with
  | zero =>
    intro u N H g hu hN hH hg
    obtain ⟨N, rfl⟩ : ∃ m, N = m + 1 := ⟨N - 1, by omega⟩
    have hK := CB_fnd h g
    refine ⟨g, ?_, ?_, ?_⟩
    · show fn_X11_seek_57b _ _ _ _ _ _ _ _ = fg_bc (fn_X11_keepHits (nI (H ++ []).length) _) (fun _ s8 => some (nI (H ++ []).length, s8, 0, 0))
      unfold fn_X11_seek_57b
      rw [ci_size (ck_4 hK.1) hK.2.2.2.2.1.1, fg_b_1, fg_if_1 ((n_le (by omega) (by omega)).mpr (by omega)), List.append_nil]
    · show c_hl g (H ++ [])
      rw [List.append_nil]; exact hg
    · show (H ++ []).length ≤ 4800
      rw [List.append_nil]; omega
  | succ d ih =>
    intro u N H g hu hN hH hg
    obtain ⟨N, rfl⟩ : ∃ m, N = m + 1 := ⟨N - 1, by omega⟩
    have hK := CB_fnd h g
    have hu2 : u < sC s 4 := by omega
    have hl := s_vs_300 (s := s) u
    have w1 := (CB_ver hK hu2).2.1
    have hgd : ∀ x, some (yA y 4 u) = some x → h_k (h_af k 12 g) x = 29 := fun x hx => by cases hx; exact w1
    obtain ⟨X, o1, o2⟩ := ci_openHomes hK v vr vv hu2 (m := sC s 0) (Nat.le_refl _) a
    obtain ⟨g1, m1, m2⟩ := ci_seek_99 h v vd vx vm hu2 hq hn hz ez hn1 o2 (K57 := fn_X11_seek_57 N) (s_vs s u).length 0 g_N H g (by omega) (by have := g_N_le; omega) (by omega) hg
    have hql := s_hq_l v (a := a) (q := q) (i := i) (n := n) (u := u) (d := (s_vs s u).length) (p := 0)
    obtain ⟨g2, p1, p2, p3⟩ := ih (u + 1) N (H ++ s_hq s a q i n u (s_vs s u).length 0) g1 (by omega) (by omega) (by rw [List.length_append]; omega) m2
    have es : s_hv s a q i n (d + 1) u = s_hq s a q i n u (s_vs s u).length 0 ++ s_hv s a q i n d (u + 1) := rfl
    rw [List.append_assoc, ← es] at p1 p2 p3
    refine ⟨g2, ?_, p2, p3⟩
    show fn_X11_seek_57b (fn_X11_seek_57 N) _ _ _ _ _ _ _ = _
    unfold fn_X11_seek_57b
    rw [ci_size (ck_4 hK.1) hK.2.2.2.2.1.1, fg_b_1, fg_if_0 (fun q => by have := (n_le (a := sC s 4) (b := u) (by omega) (by omega)).mp q; omega), ci_get (ck_4 hK.1) hK.2.2.2.2.1.1 hu2, fg_b_1, fg_g_1 hgd, hK.2.1.1, o1, fg_b_1]
    exact m1.trans p1
theorem cs_seek (h : CB k s y) (v : ivc s) (vr : ivr2 s) (vv : ivv s) (vd : ivd s) (vx : ivx s) (vm : ivm s) (vs : ivs s) (a q l i n : Int32) : ∃ k2 c d y2, fn_X11_seek a q l i n k = some ((s_seek s a q l i n).1, k2, c, d) ∧ CB k2 (s_seek s a q l i n).2 y2 ∧ c + zC y2 ≤ zC y + 1 ∧ d + zD y2 ≤ zD y + 26 := by
  have h0 : CB (h_si k 0 18 0) (s_flt s 0) y := cs_flt (CB_M h) 0
  have v0 : ivc (s_flt s 0) := v
  have e4 : fn_X11_within q 4 (h_si k 0 18 0) = some (q_b (q_in q ((4 : Nat) : Int)), h_si k 0 18 0) := ci_withinN q (n := 4) (by decide)
  have n1 : (s_flt s 0).1 = s.1 := rfl
  unfold fn_X11_seek s_seek
  rw [fg_let_1, ci_isHand h0.2.1 v0, fg_b_1, q_b_if]
  by_cases c1 : q_in a (sC s 1)
  · have c1' : q_in a (sC (s_flt s 0) 1) := c1
    rw [fg_if_1 c1', e4, fg_b_1, q_b_if]
    by_cases c2 : q_in q 4
    · have c2' : q_in q ((4 : Nat) : Int) := c2
      have c : q_in a (sC s 1) ∧ q_in q 4 := ⟨c1, c2⟩
      rw [fg_if_1 c2']
      simp only [fg_if_1 c]
      obtain ⟨e2, l2⟩ := n_in c2'
      generalize h_ix q = p at e2 l2
      subst e2
      by_cases c4 : s_bf s p l i n = 0
      · have c4' : s_bf (s_flt s 0) p l i n = 0 := c4
        simp only [fg_if_1 c4]
        obtain ⟨z, hz, ez, ei, en, hl⟩ := s_bf0 vs l2 c4
        rw [ci_refusedCells h0.1 (CB_T (CB_M h0)) vs l2, fg_if_1 c4', fg_b_1, fg_if_1 rfl]
        by_cases c5 : n = 0
        · simp only [fg_if_1 c5]
          exact ⟨_, 0, 0, y, rfl, h0, by omega, by omega⟩
        · simp only [fg_if_0 c5]
          have hn1 : 1 ≤ h_ix n := by
            rcases Nat.eq_zero_or_pos (h_ix n) with w | w
            · exact absurd (by rw [en, w]; rfl) c5
            · exact w
          obtain ⟨g2, m1, m2, m3⟩ := ci_seek_57 (CB_M h0) v0 vr vv vd vx vm (a := a) (q := p) (i := h_ix i) (n := h_ix n) (z := z) l2 hl hz ez hn1 (sC s 4) 0 g_N [] (h_i (h_si k 0 18 0) 12) (Nat.zero_add _) (by have := v.2.2.2.2.1; have := g_N_le; omega) (Nat.zero_le _) (fun j x hx => by cases hx)
          rw [h_af_self, List.nil_append, s_hv_f, ← ei, ← en] at m1
          rw [List.nil_append, s_hv_f] at m2 m3
          have hok := s_hv_ok v (a := a) (q := p) (i := h_ix i) (n := h_ix n) (sC s 4) 0 (by have := v.2.2.2.2.1; omega)
          have hK := CB_fnd (CB_M h0) g2
          have m2' : c_hl (h_i (h_af (h_si k 0 18 0) 12 g2) 12) (s_hv s a p (h_ix i) (h_ix n) (sC s 4) 0) := by
            rw [h_i_af, if_pos rfl]; exact m2
          obtain ⟨k3, r, a1, a2, a3, a4, a5, a6⟩ := ci_keepHits hK.1 hok m3 m2'
          have fin := CB_kept hK hok a2 a5 a4 a6
          have m1' : fn_X11_seek_57 g_N a (nI p) i n 0 0 (h_si k 0 18 0) = _ := m1
          rw [m1', a1, fg_bc_1, fg_c_1]
          exact ⟨_, 1, 26, y, rfl, fin, by omega, by omega⟩
      · simp only [fg_if_0 c4]
        obtain ⟨k2, b1, b2⟩ := ci_br h vs l2 l i n (F := fun T => fg_if (n = 0) (some (-2, T, 0, 0)) (fn_X11_seek_57 g_N a (nI p) i n 0 0 T)) c4
        exact ⟨k2, 0, 0, y, b1, b2, by omega, by omega⟩
    · have c2' : ¬ q_in q ((4 : Nat) : Int) := c2
      have c : ¬ (q_in a (sC s 1) ∧ q_in q 4) := fun w => c2 w.2
      rw [fg_if_0 c2']
      simp only [fg_if_0 c]
      exact ⟨_, 0, 0, y, rfl, h0, by omega, by omega⟩
  · have c1' : ¬ q_in a (sC (s_flt s 0) 1) := c1
    have c : ¬ (q_in a (sC s 1) ∧ q_in q 4) := fun w => c1 w.1
    rw [fg_if_0 c1']
    simp only [fg_if_0 c]
    exact ⟨_, 0, 0, y, rfl, h0, by omega, by omega⟩
end CSy
