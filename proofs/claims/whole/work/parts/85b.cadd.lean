section CAd
variable {k k2 : h_S} {s s2 : sA} {y : c_Y} {M : Nat}
/-- how many a list has -/
def s_ln (s : sA) (L : Nat) : Nat := if L = 4 then sC s 4 else if L = 5 then sC s 7 else if L = 6 then sC s 5 else if L = 8 then sC s 6 else sC s 3
def c_Ls : List Nat := [4, 5, 6, 8, 18]
theorem KL_iff : KL k s y ↔ (∀ L, L ∈ c_Ls → CL k L (s_ln s L) (yE y L) (yA y L)) ∧ (∀ L M, L ∈ c_Ls → M ∈ c_Ls → yE y L = yE y M → yE y L ≠ 7 → L = M) := by
  constructor
  · rintro ⟨b1, b2, b3, b4, b5, b6⟩
    refine ⟨fun L hL => ?_, b6⟩
    simp only [c_Ls, List.mem_cons, List.not_mem_nil, or_false] at hL
    rcases hL with rfl | rfl | rfl | rfl | rfl
    · exact b1
    · exact b2
    · exact b3
    · exact b4
    · exact b5
  · rintro ⟨h, b6⟩
    exact ⟨h 4 (by decide), h 5 (by decide), h 6 (by decide), h 8 (by decide), h 18 (by decide), b6⟩
/-- ghosts of a list anew -/
def yUL (y : c_Y) (L E : Nat) (f : Nat → Nat) : c_Y := ((fun M => if M = L then E else y.1 M), (fun M => if M = L then f else y.2.1 M), y.2.2)
theorem yE_UL (y : c_Y) (L E : Nat) (f : Nat → Nat) (P : Nat) : yE (yUL y L E f) P = if P = L then E else yE y P := rfl
theorem yA_UL (y : c_Y) (L E : Nat) (f : Nat → Nat) (P : Nat) : yA (yUL y L E f) P = if P = L then f else yA y P := by
  funext i
  show (if P = L then f else y.2.1 P) i = _
  split <;> rfl
theorem CL_E {L n E : Nat} {A : Nat → Nat} (h : CL k L n E A) : E = 7 ∨ h_k k E = 7 := by
  rcases h.2.2 with w | ⟨_, w, _⟩
  · exact Or.inl w.1
  · exact Or.inr w
/-- one more in the list L -/
theorem KL_add {L E2 a : Nat} (h : KL k s y) (hL : L ∈ c_Ls) (hx : c_ADD k k2 L (s_ln s L) (yE y L) E2 a (yA y L)) (h1 : s_ln s2 L = s_ln s L + 1) (h2 : ∀ P, P ∈ c_Ls → P ≠ L → s_ln s2 P = s_ln s P) : KL k2 s2 (yUL y L E2 (fun i => if i = s_ln s L then a else yA y L i)) := by
  rw [KL_iff] at h ⊢
  obtain ⟨hc, hi⟩ := h
  obtain ⟨x1, x2, x3, x4, x5⟩ := hx
  have hE : ∀ P, P ∈ c_Ls → P ≠ L → yE y P ≠ 7 → yE y P ≠ E2 := by
    intro P hP hPL h7 e
    rcases x4 with w | w
    · exact hPL (hi P L hP hL (e.trans w) h7)
    · rcases CL_E (hc P hP) with q | q
      · exact h7 q
      · rw [e, w] at q
        exact absurd q (by decide)
  have hE7 : E2 ≠ 7 := by have := x3.1; omega
  refine ⟨fun P hP => ?_, fun P Q hP hQ e n7 => ?_⟩
  · rw [yE_UL, yA_UL]
    by_cases c : P = L
    · rw [if_pos c, if_pos c, c, h1]; exact x2
    · rw [if_neg c, if_neg c, h2 P hP c]
      have hP8 : P < 128 := by
        simp only [c_Ls, List.mem_cons, List.not_mem_nil, or_false] at hP
        omega
      exact CL_fr (hc P hP) (x5 P c (by have := x3.1; omega)) (fun n => by
        refine x5 _ ?_ (hE P hP c n)
        intro e
        rcases (hc P hP).2.2 with w | ⟨w, _⟩
        · exact n w.1
        · have := w.1
          have hL8 : L < 128 := by
            simp only [c_Ls, List.mem_cons, List.not_mem_nil, or_false] at hL
            omega
          omega)
  · rw [yE_UL, yE_UL] at e
    rw [yE_UL] at n7
    by_cases c1 : P = L
    · by_cases c2 : Q = L
      · rw [c1, c2]
      · rw [if_pos c1, if_neg c2] at e
        exact absurd e.symm (hE Q hQ c2 (by rw [← e]; exact hE7))
    · by_cases c2 : Q = L
      · rw [if_neg c1, if_pos c2] at e
        rw [if_neg c1] at n7
        exact absurd e (hE P hP c1 n7)
      · rw [if_neg c1, if_neg c2] at e
        rw [if_neg c1] at n7
        exact hi P Q hP hQ e n7
/-- all but the list and its array -/
theorem c_ADD_ag {L n E E2 a : Nat} {A : Nat → Nat} {fx tg : List Nat} (hx : c_ADD k k2 L n E E2 a A) (hL : L ∉ fx) (hL8 : L < 128) (h7 : 7 ∉ tg) (hfx : ∀ a, a ∈ fx → a < 128) : c_ag fx tg k k2 := by
  obtain ⟨_, _, x3, _, x5⟩ := hx
  refine ⟨fun b hb => x5 b (fun e => hL (e ▸ hb)) (by have := hfx b hb; have := x3.1; omega), fun b hb ht _ => x5 b (by omega) (fun e => h7 (by rw [← x3.2, ← e]; exact ht))⟩
theorem h_k_cl {q a b : Nat} : h_k (h_cl k q a) b = if b = q then 1 else h_k k b := rfl
theorem h_n_cl {q a b : Nat} : h_n (h_cl k q a) b = if b = q then h_n k a else h_n k b := rfl
theorem h_i_cl {q a b : Nat} : h_i (h_cl k q a) b = if b = q then h_i k a else h_i k b := rfl
theorem c_eq_cl {q a b : Nat} (h : b ≠ q) : c_eq k (h_cl k q a) b := ⟨by rw [h_k_cl, if_neg h], by rw [h_n_cl, if_neg h], by rw [h_i_cl, if_neg h], by show (if b = q then _ else h_r k b) = _; rw [if_neg h]⟩
theorem ci_copyI {b : Nat} {l : List Int32} (hF : c_F k) (hk : h_k k b = 1) (hl : l.length ≤ h_n k b) (hn : h_n k b ≤ 300) (hg : ∀ (j : Nat) (x : Int32), l[j]? = some x → h_i k b j = x) : ∃ k2 d, fn_J7_copyOf_59c91 (some b) (nI l.length) k = some (some (c_ad 9 k), k2, 1, d) ∧ d ≤ 300 ∧ c_F k2 ∧ c_ar k2 9 (c_ad 9 k) l ∧ (∀ x, x ≠ c_ad 9 k → c_eq k k2 x) := by
  have hq : h_k k (c_ad 9 k) = 0 := cf_z hF rfl
  have hq8 : 128 ≤ c_ad 9 k ∧ c_ad 9 k % 16 = 9 := by unfold c_ad; omega
  have hbq : b ≠ c_ad 9 k := fun e => by rw [e, hq] at hk; exact absurd hk (by decide)
  unfold fn_J7_copyOf_59c91
  rw [fg_o_1, fg_g_1 hk]
  by_cases c : l.length = h_n k b
  · have e1 : h_k (h_cl k (c_ad 9 k) b) (c_ad 9 k) = 1 := by rw [h_k_cl, if_pos rfl]
    rw [fg_if_1 (show nI l.length = Int32.ofNat (h_n k b) by rw [c]; rfl), fg_o_1, fg_g_1 hk]
    simp only [fg_let_1, fg_g_1 e1, fg_c_1]
    refine ⟨_, _, rfl, by omega, cf_cl hF rfl (by decide), ⟨hq8, e1, ?_, fun j x hx => ?_⟩, fun x hx => c_eq_cl hx⟩
    · rw [h_n_cl, if_pos rfl]; exact c.symm
    · rw [h_i_cl, if_pos rfl]; exact hg j x hx
  · have ne : ¬ nI l.length = Int32.ofNat (h_n k b) := fun w => c ((n_eq (by omega) (by omega)).mp w)
    have e1 : h_k (h_nw k (c_ad 9 k) 1 l.length) (c_ad 9 k) = 1 := by rw [h_k_nw, if_pos rfl]
    have e2 : h_k (h_nw k (c_ad 9 k) 1 l.length) b = 1 := by rw [h_k_nw, if_neg hbq]; exact hk
    have e3 : h_n (h_nw k (c_ad 9 k) 1 l.length) b = h_n k b := by rw [h_n_nw, if_neg hbq]
    have e4 : h_n (h_nw k (c_ad 9 k) 1 l.length) (c_ad 9 k) = l.length := by rw [h_n_nw, if_pos rfl]
    have e5 : h_min (Int32.ofNat (h_n k b)) (nI l.length) = nI l.length := by
      show h_min (nI (h_n k b)) (nI l.length) = _
      rw [n_min _ _ (by omega) (by omega), Nat.min_eq_right hl]
    have e6 : h_ix (nI l.length) = l.length := q_nIx (by omega)
    have g1 : ¬ nI l.length < 0 := n_neg (by omega)
    have g2 : l.length * 4 ≤ 536870912 := by omega
    have g3 : ¬ (0 : Int32) < 0 := by decide
    have g4 : 0 + l.length ≤ h_n k b := by omega
    have g5 : 0 + l.length ≤ l.length := by omega
    rw [fg_if_0 ne]
    simp only [fg_g_1 g1, e6, fg_g_1 g2, fg_let_1, fg_o_1, fg_g_1 e2, fg_g_1 e1, fg_g_1 g3, e3, e4, e5, show h_ix (0 : Int32) = 0 from rfl, fg_g_1 g4, fg_g_1 g5, fg_c_1]
    refine ⟨_, _, rfl, by omega, cf_cp (cf_nw hF rfl (by decide)) _ _ _, ⟨hq8, e1, e4, fun j x hx => ?_⟩, fun x hx => c_eqt (c_eq_nw (kd := 1) (n := l.length) hx) ?_⟩
    · rw [h_cp_af, h_i_af, if_pos rfl]
      unfold va_cpy
      have hj : j < l.length := (List.getElem?_eq_some_iff.mp hx).1
      rw [if_pos (by omega), h_i_nw, if_neg hbq, show 0 + (j - 0) = j by omega]
      exact hg j x hx
    · rw [h_cp_af]; exact c_eq_af hx
/-- the version's object -/
def c_vi (k : h_S) (q : Nat) (x m : Int32) (b : Nat) : h_S := h_sr (h_si (h_si (h_si (h_si k q 3 2147483647) q 4 2147483647) q 0 x) q 1 m) q 2 (some b)
theorem ci_vinit {q b : Nat} {x m : Int32} (h : h_k k q = 29) : fn_X8_init q x m (some b) k = some ((), c_vi k q x m b) := by
  unfold fn_X8_init c_vi
  rw [fg_g_1 h]
  rfl
theorem c_vi_eq {q b x : Nat} {w m : Int32} (h : x ≠ q) : c_eq k (c_vi k q w m b) x := c_eqt (c_eqt (c_eqt (c_eqt (c_eq_si h) (c_eq_si h)) (c_eq_si h)) (c_eq_si h)) (c_eq_sr h)
theorem s_addV_F (w : Int32) (f : Nat) (hf : f ≠ 56 ∧ f ≠ 57 ∧ f ≠ 58 ∧ f ≠ 59) : sF (s_addV s w) f = sF s f := by
  funext i
  unfold s_addV
  rw [sF_uC, sF_uF, if_neg hf.2.2.2, sF_uF, if_neg hf.2.2.1, sF_uF, if_neg hf.2.1, sF_uF, if_neg hf.1]
theorem s_addV_o (w : Int32) (f : Nat) {i : Nat} (hi : i ≠ sC s 4) : sF (s_addV s w) f i = sF s f i := by
  unfold s_addV
  rw [sF_uC]
  simp only [sF_uF, if_neg hi, ite_self]
theorem s_addV_n (w : Int32) : sF (s_addV s w) 56 (sC s 4) = w ∧ sF (s_addV s w) 57 (sC s 4) = nI (sC s 0 + 1) ∧ sF (s_addV s w) 58 (sC s 4) = -9 ∧ sF (s_addV s w) 59 (sC s 4) = -9 := by
  unfold s_addV
  refine ⟨?_, ?_, ?_, ?_⟩ <;> rw [sF_uC] <;> simp [sF_uF]
/-- the version is kept -/
theorem cs_addV {q b E2 : Nat} {k4 k5 : h_S} {w : Nat} (h : CBM k s M y) (v : ivc s) (hM : sC s 0 + 1 ≤ 600) (hw : w < sC s 2) (g4 : ∀ x, h_k k x ≠ 0 ∨ x < 128 → c_eq k k4 x) (q0 : h_k k q = 0) (q8 : c_tg 8 q) (k29 : h_k k4 q = 29) (i0 : h_i k4 q 0 = nI w) (i1 : h_i k4 q 1 = nI (sC s 0 + 1)) (i3 : h_i k4 q 3 = 2147483647) (i4 : h_i k4 q 4 = 2147483647) (r2 : h_r k4 q 2 = some b) (har : c_ar k4 9 b (s_sh (sR s) 4 w (sC s 0 + 1))) (hx : c_ADD k4 k5 4 (sC s 4) (yE y 4) E2 q (yA y 4)) : CBM k5 (s_addV s (nI w)) M (yUL y 4 E2 (fun i => if i = sC s 4 then q else yA y 4 i)) := by
  obtain ⟨h1, h2, h3, h4, d1, d2, d3, d4, d5, d6, d7, d8, d9, d10⟩ := h
  have v2 := v.2.2.1
  have ga : c_ag (List.range 60) [1, 2, 3, 4, 5, 6, 7, 8, 9, 10, 11, 12, 13, 14] k k4 := ⟨fun a ha => g4 a (Or.inr (by have := List.mem_range.mp ha; omega)), fun a _ _ hk => g4 a (Or.inl hk)⟩
  have gb : c_ag ((List.range 60).filter (fun a => a != 4)) [1, 2, 3, 4, 5, 6, 8, 9, 10, 11, 12, 13, 14] k4 k5 := c_ADD_ag hx (by decide) (by decide) (by decide) (by decide)
  have g : c_ag ((List.range 60).filter (fun a => a != 4)) [1, 2, 3, 4, 5, 6, 8, 9, 10, 11, 12, 13, 14] k k5 := c_agt (c_agm ga (fun a ha => (List.mem_filter.mp ha).1) (by decide)) gb
  have l4 : KL k4 s y := KL_fr d1 ga (by decide) (by decide) (fun _ _ => rfl)
  have fm : ∀ (l : List Nat), 56 ∉ l → 57 ∉ l → 58 ∉ l → 59 ∉ l → ∀ f, f ∈ l → sF (s_addV s (nI w)) f = sF s f := fun l a b c d f hf => s_addV_F _ f ⟨fun e => a (e ▸ hf), fun e => b (e ▸ hf), fun e => c (e ▸ hf), fun e => d (e ▸ hf)⟩
  have hq5 : c_eq k4 k5 q := gb.2 q q8.1 (by rw [q8.2]; decide) (by rw [k29]; decide)
  refine ⟨hx.1, ?_, ?_, ?_, KL_add l4 (by decide) hx rfl (fun P hP hn => ?_), KW_fr d2 g (by decide) (by decide) rfl (fm _ (by decide) (by decide) (by decide) (by decide)), ?_, KC_fr d4 g (by decide) (by decide) rfl (fm _ (by decide) (by decide) (by decide) (by decide)) rfl, KK_fr d5 g (by decide) (by decide) rfl (fm _ (by decide) (by decide) (by decide) (by decide)), KR_fr d6 g (by decide) rfl (fm _ (by decide) (by decide) (by decide) (by decide)), KT_fr d7 g (by decide) (fm _ (by decide) (by decide) (by decide) (by decide)), KH_fr d8 g (by decide) rfl (fm _ (by decide) (by decide) (by decide) (by decide)), KP_fr d9 g (by decide) (by decide) (by decide) (by decide) (by decide) rfl (Nat.le_refl _) rfl, KX_fr d10 g (by decide) (by decide) (by decide) (Nat.le_refl _) (Nat.le_refl _) (fun _ _ _ _ _ _ => rfl)⟩
  · unfold KN at *
    rw [(g.1 0 (by decide)).2.2.1, (g.1 3 (by decide)).2.2.1]
    exact h2
  · refine ⟨?_, ?_, ?_⟩
    · rw [(g.1 1 (by decide)).2.2.1, s_addV_F _ 2 (by decide)]; exact h3.1
    · rw [(g.1 15 (by decide)).2.2.1, s_addV_F _ 9 (by decide)]; exact h3.2.1
    · rw [(g.1 11 (by decide)).2.2.1, s_addV_F _ 104 (by decide)]; exact h3.2.2
  · unfold KG
    rw [(g.1 2 (by decide)).2.2.1]
    exact h4
  · simp only [c_Ls, List.mem_cons, List.not_mem_nil, or_false] at hP
    rcases hP with rfl | rfl | rfl | rfl | rfl
    · exact absurd rfl hn
    · rfl
    · rfl
    · rfl
    · rfl
  · have ey : yA (yUL y 4 E2 (fun i => if i = sC s 4 then q else yA y 4 i)) 4 = fun i => if i = sC s 4 then q else yA y 4 i := by rw [yA_UL, if_pos rfl]
    unfold KV
    rw [ey]
    refine ⟨fun i hi => ?_, fun i j hi hj e => ?_⟩
    · have hi : i < sC s 4 + 1 := hi
      by_cases e : i = sC s 4
      · obtain ⟨n1, n2, n3, n4⟩ := s_addV_n (s := s) (nI w)
        subst e
        simp only [if_true, n1, n2, n3, n4]
        rw [hq5.1, hq5.2.2.1, hq5.2.2.2, q_nIx (show w < 2 ^ 31 by omega), q_nIx (show sC s 0 + 1 < 2 ^ 31 by omega)]
        exact ⟨q8, k29, i0, i1, i3, i4, b, r2, c_ar_fr har gb (by decide)⟩
      · simp only [if_neg e, s_addV_o (s := s) (nI w) _ e]
        obtain ⟨a1, a2, a3, a4, a5, a6, b, a7, a8⟩ := d3.1 i (by omega)
        have e := c_agd g a1 (by decide) (by rw [a2]; decide)
        rw [e.1, e.2.2.1, e.2.2.2]
        exact ⟨a1, a2, a3, a4, a5, a6, b, a7, c_ar_fr a8 g (by decide)⟩
    · have hi : i < sC s 4 + 1 := hi
      have hj : j < sC s 4 + 1 := hj
      have e : (if i = sC s 4 then q else yA y 4 i) = (if j = sC s 4 then q else yA y 4 j) := e
      have nq : ∀ i, i < sC s 4 → yA y 4 i ≠ q := fun i hi e => by
        have := (d3.1 i hi).2.1
        rw [e, q0] at this
        exact absurd this (by decide)
      by_cases ei : i = sC s 4
      · by_cases ej : j = sC s 4
        · omega
        · rw [if_pos ei, if_neg ej] at e
          exact absurd e.symm (nq j (by omega))
      · by_cases ej : j = sC s 4
        · rw [if_neg ei, if_pos ej] at e
          exact absurd e (nq i (by omega))
        · rw [if_neg ei, if_neg ej] at e
          exact d3.2 i j (by omega) (by omega) e
theorem cs_version (h : CB k s y) (v : ivc s) (g : ivg s) (vp : ivp s) (vq : ivq s) (x : Int32) : ∃ k2 c d y2, fn_X11_version x k = some ((s_version s x).1, k2, c, d) ∧ CB k2 (s_version s x).2 y2 ∧ c + zC y2 ≤ zC y + 3 ∧ d + zD y2 ≤ zD y + 1305 := by
  have v0 := v.1
  have v4 := v.2.2.2.2.1
  unfold fn_X11_version s_version
  simp only [ci_isWriting h.2.1 v, fg_b_1, q_b_if]
  by_cases c1 : q_in x (sC s 2)
  · obtain ⟨e1, l1⟩ := n_in c1
    simp only [fg_if_1 c1, ci_size (ck_4 h.1) h.2.2.2.2.1.1, fg_b_1]
    by_cases c2 : sC s 4 = 16
    · have c3 : ¬ nI (sC s 4) < 16 := fun w => by have := (n_lt (b := 16) (a := sC s 4) (by omega) (by omega)).mp w; omega
      simp only [fg_if_1 c2, fg_if_0 c3]
      exact ⟨k, 0, 0, y, rfl, h, by omega, by omega⟩
    · have c3 : nI (sC s 4) < 16 := (n_lt (b := 16) (a := sC s 4) (by omega) (by omega)).mpr (by omega)
      simp only [fg_if_0 c2, fg_if_1 c3, h.2.1.1, n_p1]
      generalize h_ix x = w at e1 l1
      subst e1
      have hM : CBM k s (sC s 0 + 1) y := ⟨h.1, h.2.1, h.2.2.1, h.2.2.2.1, KD_M h.2.2.2.2 (by omega)⟩
      obtain ⟨k1, y1, i, ca, da, f1, f2, f3, ⟨b, g1, g2, g3, g4, g5, g6⟩, f5, f6, f7, f8, f9⟩ := CB_show hM v vp vq (by omega) l1 (Nat.le_refl _)
      rw [f1, fg_bc_1]
      have hF1 := f5.1
      have q0 : h_k k1 (c_ad 8 k1) = 0 := cf_z hF1 rfl
      have q8 : c_tg 8 (c_ad 8 k1) := by unfold c_tg c_ad; omega
      have nS : yS y1 i ≠ c_ad 8 k1 := fun e => by rw [e, q0] at f2; exact absurd f2 (by decide)
      have nb : b ≠ c_ad 8 k1 := fun e => by rw [e, q0] at g3; exact absurd g3 (by decide)
      have hF2 : c_F (h_nw k1 (c_ad 8 k1) 29 5) := cf_nw hF1 rfl (by decide)
      have j1 : h_k (h_nw k1 (c_ad 8 k1) 29 5) (yS y1 i) = 27 := by rw [h_k_nw, if_neg nS]; exact f2
      have j2 : h_r (h_nw k1 (c_ad 8 k1) 29 5) (yS y1 i) 2 = some b := by rw [h_r_nw, if_neg nS]; exact g1
      have j3 : h_i (h_nw k1 (c_ad 8 k1) 29 5) (yS y1 i) 1 = nI (s_sh (sR s) 4 w (sC s 0 + 1)).length := by rw [h_i_nw, if_neg nS]; exact f3
      have j4 : h_i (h_nw k1 (c_ad 8 k1) 29 5) 0 0 = nI (sC s 0) := by rw [h_i_nw, if_neg (by have := q8.1; omega)]; exact f5.2.1.1
      have j5 : h_k (h_nw k1 (c_ad 8 k1) 29 5) (c_ad 8 k1) = 29 := by rw [h_k_nw, if_pos rfl]
      have w2 : ∀ x, x ≠ c_ad 8 k1 → c_eq k1 (h_nw k1 (c_ad 8 k1) 29 5) x := fun x hx => c_eq_nw hx
      obtain ⟨k3, d3, p1, p2, p3, p4, p5⟩ := ci_copyI (l := s_sh (sR s) 4 w (sC s 0 + 1)) (b := b) hF2 (by rw [(w2 b nb).1]; exact g3) (by rw [(w2 b nb).2.1]; exact g4) (by rw [(w2 b nb).2.1]; exact g5) (by rw [(w2 b nb).2.2.1]; exact g6)
      have z9 : h_k (h_nw k1 (c_ad 8 k1) 29 5) (c_ad 9 (h_nw k1 (c_ad 8 k1) 29 5)) = 0 := cf_z hF2 rfl
      have n9 : c_ad 8 k1 ≠ c_ad 9 (h_nw k1 (c_ad 8 k1) 29 5) := fun e => by rw [← e, j5] at z9; exact absurd z9 (by decide)
      have k3q : h_k k3 (c_ad 8 k1) = 29 := by rw [(p5 _ n9).1]; exact j5
      have g4' : ∀ x, h_k k1 x ≠ 0 ∨ x < 128 → c_eq k1 (c_vi k3 (c_ad 8 k1) (nI w) (nI (sC s 0 + 1)) (c_ad 9 (h_nw k1 (c_ad 8 k1) 29 5))) x := by
        intro x hx
        have n1 : x ≠ c_ad 8 k1 := fun e => by
          rcases hx with w | w
          · exact w (by rw [e]; exact q0)
          · have := q8.1; omega
        have n2 : x ≠ c_ad 9 (h_nw k1 (c_ad 8 k1) 29 5) := fun e => by
          rcases hx with w | w
          · rw [e] at w n1
            exact w (by rw [← (w2 _ n1).1]; exact z9)
          · have := p4.1.1; omega
        exact c_eqt (c_eqt (w2 x n1) (p5 x n2)) (c_vi_eq n1)
      have kF : c_F (c_vi k3 (c_ad 8 k1) (nI w) (nI (sC s 0 + 1)) (c_ad 9 (h_nw k1 (c_ad 8 k1) 29 5))) := cf_sr (k := h_si (h_si (h_si (h_si k3 (c_ad 8 k1) 3 2147483647) (c_ad 8 k1) 4 2147483647) (c_ad 8 k1) 0 (nI w)) (c_ad 8 k1) 1 (nI (sC s 0 + 1))) (kd := 29) p3 k3q (by decide) _
      have ar4 : c_ar (c_vi k3 (c_ad 8 k1) (nI w) (nI (sC s 0 + 1)) (c_ad 9 (h_nw k1 (c_ad 8 k1) 29 5))) 9 (c_ad 9 (h_nw k1 (c_ad 8 k1) 29 5)) (s_sh (sR s) 4 w (sC s 0 + 1)) := by
        have e := c_vi_eq (k := k3) (b := c_ad 9 (h_nw k1 (c_ad 8 k1) 29 5)) (w := nI w) (m := nI (sC s 0 + 1)) n9.symm
        unfold c_ar at *
        rw [e.1, e.2.1, e.2.2.1]
        exact p4
      have qk : h_k (c_vi k3 (c_ad 8 k1) (nI w) (nI (sC s 0 + 1)) (c_ad 9 (h_nw k1 (c_ad 8 k1) 29 5))) (c_ad 8 k1) = 29 := k3q
      have qi : ∀ j, h_i (c_vi k3 (c_ad 8 k1) (nI w) (nI (sC s 0 + 1)) (c_ad 9 (h_nw k1 (c_ad 8 k1) 29 5))) (c_ad 8 k1) j = if j = 1 then nI (sC s 0 + 1) else if j = 0 then nI w else if j = 4 then 2147483647 else if j = 3 then 2147483647 else h_i k3 (c_ad 8 k1) j := by
        intro j
        show h_i (h_si (h_si (h_si (h_si k3 (c_ad 8 k1) 3 2147483647) (c_ad 8 k1) 4 2147483647) (c_ad 8 k1) 0 (nI w)) (c_ad 8 k1) 1 (nI (sC s 0 + 1))) (c_ad 8 k1) j = _
        simp only [h_i_si, true_and]
      have qr : h_r (c_vi k3 (c_ad 8 k1) (nI w) (nI (sC s 0 + 1)) (c_ad 9 (h_nw k1 (c_ad 8 k1) 29 5))) (c_ad 8 k1) 2 = some (c_ad 9 (h_nw k1 (c_ad 8 k1) 29 5)) := by
        unfold c_vi
        rw [h_r_sr, if_pos ⟨rfl, rfl⟩]
      have ei : fn_X8_init (c_ad 8 k1) (nI w) (nI (sC s 0 + 1)) (some (c_ad 9 (h_nw k1 (c_ad 8 k1) 29 5))) k3 = some ((), c_vi k3 (c_ad 8 k1) (nI w) (nI (sC s 0 + 1)) (c_ad 9 (h_nw k1 (c_ad 8 k1) 29 5))) := ci_vinit k3q
      simp only [fg_let_1, fg_o_1, fg_g_1 j1, j2, j3, p1, fg_bc_1, j4, n_p1, ei, fg_b_1]
      generalize c_vi k3 (c_ad 8 k1) (nI w) (nI (sC s 0 + 1)) (c_ad 9 (h_nw k1 (c_ad 8 k1) 29 5)) = k4 at g4' kF ar4 qk qi qr
      have l4 : CL k4 4 (sC s 4) (yE y1 4) (yA y1 4) := by
        refine CL_fr f5.2.2.2.2.1.1 (g4' 4 (Or.inr (by decide))) (fun n => g4' _ (Or.inl ?_))
        rcases CL_E f5.2.2.2.2.1.1 with q | q
        · exact absurd q n
        · rw [q]; decide
      obtain ⟨k5, E2, cc, dd, a1, a2, a3, a4⟩ := ci_add kF (by decide) (ck_4 kF) l4 (by omega) (fun i hi => by
        have := CB_ver f5 hi
        rw [(g4' _ (Or.inl (by rw [this.2.1]; decide))).1, this.2.1]
        decide) (a := c_ad 8 k1) (by rw [qk]; decide)
      have hb := cs_addV f5 v (by omega) l1 g4' q0 q8 qk (by rw [qi]; rfl) (by rw [qi]; rfl) (by rw [qi]; rfl) (by rw [qi]; rfl) qr ar4 a2
      rw [a1, fg_bc_1, ci_size (ck_4 hb.1) hb.2.2.2.2.1.1, fg_b_1, show sC (s_addV s (nI w)) 4 = sC s 4 + 1 from rfl, n_m1, ci_acted hb.2.1.1 v0, fg_b_1]
      simp only [fg_c_1]
      refine ⟨_, _, _, _, rfl, cs_act hb (by show sC s 0 + 1 ≤ sC s 0 + 1; omega) g _, ?_, ?_⟩
      · have ez : zC (yUL y1 4 E2 (fun i => if i = sC s 4 then c_ad 8 k1 else yA y1 4 i)) = zC y1 := rfl
        rw [ez]
        omega
      · have ez : zD (yUL y1 4 E2 (fun i => if i = sC s 4 then c_ad 8 k1 else yA y1 4 i)) = zD y1 := rfl
        rw [ez]
        omega
  · simp only [fg_if_0 c1]
    exact ⟨k, 0, 0, y, rfl, h, by omega, by omega⟩
end CAd
