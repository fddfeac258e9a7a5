/-! each part of the heap, apart -/
section CF
variable {k k2 : h_S} {s s2 : sA} {y y2 : c_Y} {fx tg : List Nat}
theorem KL_fr (h : KL k s y) (g : c_ag fx tg k k2) (hfx : ∀ L, L ∈ ([4, 5, 6, 8, 18] : List Nat) → L ∈ fx) (h7 : 7 ∈ tg) (hc : ∀ i, i ∈ ([3, 4, 5, 6, 7] : List Nat) → sC s2 i = sC s i) : KL k2 s2 y := by
  obtain ⟨b1, b2, b3, b4, b5, b6⟩ := h
  refine ⟨?_, ?_, ?_, ?_, ?_, b6⟩
  · rw [hc 4 (by decide)]; exact CL_7 b1 g (hfx _ (by decide)) h7
  · rw [hc 7 (by decide)]; exact CL_7 b2 g (hfx _ (by decide)) h7
  · rw [hc 5 (by decide)]; exact CL_7 b3 g (hfx _ (by decide)) h7
  · rw [hc 6 (by decide)]; exact CL_7 b4 g (hfx _ (by decide)) h7
  · rw [hc 3 (by decide)]; exact CL_7 b5 g (hfx _ (by decide)) h7
theorem KW_fr (h : KW k s y) (g : c_ag fx tg k k2) (h19 : 19 ∈ fx) (h6 : 6 ∈ tg) (hc : sC s2 3 = sC s 3) (hf : ∀ x, x ∈ ([23, 24, 25, 26, 27] : List Nat) → sF s2 x = sF s x) : KW k2 s2 y := by
  refine ⟨fun i hi => ?_, fun q hq => ?_⟩
  · rw [hc] at hi
    rw [hf 23 (by decide), hf 24 (by decide), hf 25 (by decide), hf 26 (by decide), hf 27 (by decide)]
    exact c_wd_fr (h.1 i hi) g h6
  · have e : ∀ n, s_nth s2 q n = s_nth s q n := by
      intro n
      induction n with
      | zero => rfl
      | succ n ih => unfold s_nth; rw [ih, hf 24 (by decide)]
    rw [hc, e, (g.1 19 h19).2.2.1]
    exact h.2 q hq
theorem KV_fr (h : KV k s y) (g : c_ag fx tg k k2) (h8 : 8 ∈ tg) (h9 : 9 ∈ tg) (hc : sC s2 4 = sC s 4) (hf : ∀ x, x ∈ ([56, 57, 58, 59] : List Nat) → sF s2 x = sF s x) (hR : ∀ i, i < sC s 4 → s_sh (sR s2) 4 (h_ix (sF s 56 i)) (h_ix (sF s 57 i)) = s_sh (sR s) 4 (h_ix (sF s 56 i)) (h_ix (sF s 57 i))) : KV k2 s2 y := by
  refine ⟨fun i hi => ?_, by rw [hc]; exact h.2⟩
  rw [hc] at hi
  obtain ⟨a1, a2, a3, a4, a5, a6, b, a7, a8⟩ := h.1 i hi
  have e := c_agd g a1 h8 (by rw [a2]; decide)
  rw [hf 56 (by decide), hf 57 (by decide), hf 58 (by decide), hf 59 (by decide), hR i hi, e.1, e.2.2.1, e.2.2.2]
  exact ⟨a1, a2, a3, a4, a5, a6, b, a7, c_ar_fr a8 g h9⟩
theorem KC_fr (h : KC k s y) (g : c_ag fx tg k k2) (h10 : 10 ∈ tg) (h11 : 11 ∈ tg) (hc : sC s2 7 = sC s 7) (hf : ∀ x, x ∈ ([75, 78] : List Nat) → sF s2 x = sF s x) (hk : sK s2 = sK s) : KC k2 s2 y := by
  refine ⟨fun i hi => ?_, by rw [hc]; exact h.2⟩
  rw [hc] at hi
  obtain ⟨a1, a2, a3, a4, a5, b, a7, a8⟩ := h.1 i hi
  have e := c_agd g a1 h10 (by rw [a2]; decide)
  rw [hf 75 (by decide), hf 78 (by decide), hk, e.1, e.2.2.1, e.2.2.2]
  exact ⟨a1, a2, a3, a4, a5, b, a7, c_ar_fr a8 g h11⟩
theorem KK_fr (h : KK k s y) (g : c_ag fx tg k k2) (h12 : 12 ∈ tg) (h13 : 13 ∈ tg) (hc : sC s2 5 = sC s 5) (hf : ∀ x, x ∈ ([81, 82, 83, 84, 85, 86] : List Nat) → sF s2 x = sF s x) : KK k2 s2 y := by
  intro i hi
  rw [hc] at hi
  obtain ⟨a1, a2, a3, a4, ⟨b, a5, a6⟩, c, a7, a8⟩ := h i hi
  have e := c_agd g a1 h12 (by rw [a2]; decide)
  rw [hf 81 (by decide), hf 82 (by decide), hf 83 (by decide), hf 84 (by decide), hf 85 (by decide), hf 86 (by decide), e.1, e.2.2.1, e.2.2.2]
  exact ⟨a1, a2, a3, a4, ⟨b, a5, c_ar_fr a6 g h13⟩, c, a7, c_ar_fr a8 g h13⟩
theorem KR_fr (h : KR k s y) (g : c_ag fx tg k k2) (h14 : 14 ∈ tg) (hc : sC s2 6 = sC s 6) (hf : ∀ x, x ∈ ([90, 91, 92, 93, 94, 95, 96, 97] : List Nat) → sF s2 x = sF s x) : KR k2 s2 y := by
  refine ⟨fun i hi => ?_, by rw [hc]; exact h.2⟩
  rw [hc] at hi
  have a := h.1 i hi
  have e := c_agd g a.1 h14 (by rw [a.2.1]; decide)
  rw [hf 90 (by decide), hf 91 (by decide), hf 92 (by decide), hf 93 (by decide), hf 94 (by decide), hf 95 (by decide), hf 96 (by decide), hf 97 (by decide), e.1, e.2.2.1]
  exact a
theorem KT_fr (h : KT k s) (g : c_ag fx tg k k2) (hfx : ∀ L, L ∈ ([52, 53, 54, 55, 56, 57, 58, 59] : List Nat) → L ∈ fx) (hf : ∀ x, x ∈ ([110, 111, 112] : List Nat) → sF s2 x = sF s x) : KT k2 s2 := by
  intro q hq
  have e1 : c_eq k k2 (52 + q) := g.1 _ (hfx _ (by simp; omega))
  have e2 : c_eq k k2 (56 + q) := g.1 _ (hfx _ (by simp; omega))
  rw [hf 110 (by decide), hf 111 (by decide), hf 112 (by decide), e1.2.2.1, e2.2.2.1]
  exact h q hq
theorem KH_fr (h : KH k s) (g : c_ag fx tg k k2) (h13 : 13 ∈ fx) (hc : sC s2 8 = sC s 8) (hf : ∀ x, x ∈ ([106, 107, 108] : List Nat) → sF s2 x = sF s x) : KH k2 s2 := by
  intro i hi
  rw [hc] at hi
  rw [hf 106 (by decide), hf 107 (by decide), hf 108 (by decide), (g.1 13 h13).2.2.1]
  exact h i hi
theorem KP_fr {M M2 : Nat} (h : KP k s M y) (g : c_ag fx tg k k2) (h16 : 16 ∈ fx) (h17 : 17 ∈ fx) (h1 : 1 ∈ tg) (h4 : 4 ∈ tg) (h5 : 5 ∈ tg) (hc : sC s2 2 = sC s 2) (h0 : M ≤ M2) (hr : sR s2 = sR s) : KP k2 s2 M2 y := by
  intro w hw
  rw [hc] at hw
  rw [hr, (g.1 16 h16).2.2.2]
  exact ⟨⟨(h w hw).1.1, by have := (h w hw).1.2; omega⟩, c_ch_fr g h1 h5 h4 h17 _ _ (h w hw).2.1, (h w hw).2.2⟩
theorem KX_fr {M M2 : Nat} (h : KX k s M y) (g : c_ag fx tg k k2) (h20 : 20 ∈ fx) (h2 : 2 ∈ tg) (h3 : 3 ∈ tg) (hM : M ≤ M2) (hC : sC s 2 ≤ sC s2 2) (hR : ∀ f w m, f ≤ 4 → w < sC s 2 → m ≤ M → s_sh (sR s2) f w m = s_sh (sR s) f w m) : KX k2 s2 M2 y := by
  refine ⟨fun i hi => ?_, h.2⟩
  rw [(g.1 20 h20).2.2.2]
  rcases h.1 i hi with a | ⟨a1, a2, a3⟩
  · exact Or.inl a
  · exact Or.inr ⟨a1, a2, c_sl_fr a3 g h2 h3 hM hC hR⟩
/-- other histories -/
def yUH (y : c_Y) (w : Nat) (l : List (Nat × List sP)) : c_Y := (y.1, y.2.1, y.2.2.1, y.2.2.2.1, y.2.2.2.2.1, fun v => if v = w then l else y.2.2.2.2.2 v)
theorem yH_UH (y : c_Y) (w : Nat) (l : List (Nat × List sP)) (v : Nat) : yH (yUH y w l) v = if v = w then l else yH y v := rfl
end CF
