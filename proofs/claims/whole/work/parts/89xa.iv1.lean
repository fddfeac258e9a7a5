/-! THE BOUNDS STAY -/
def iR (s : sA) (N : Nat) : Prop := ∀ i, i < sC s 6 → ((sF s 95 i = -9 ∧ (∃ g, g < 4 ∧ sF s 91 i = nI g) ∧ ∃ u, u < 8 ∧ sF s 92 i = nI u) ∨ (∃ o, o < i ∧ sF s 95 i = nI o ∧ sF s 95 o = -9 ∧ (∃ h, h < 8 ∧ sF s 91 i = nI (8 + h)) ∧ ∃ u, u < 4 ∧ sF s 92 i = nI u)) ∧ (sF s 97 i = -9 ∨ ∃ z, z ≤ N ∧ sF s 97 i = nI z)
def iv1 (s : sA) (N : Nat) : Prop := N ≤ 512 ∧ sC s 1 ≤ 8 ∧ sC s 2 ≤ 12 ∧ sC s 3 ≤ 500 ∧ sC s 4 ≤ 16 ∧ sC s 5 ≤ 24 ∧ sC s 6 ≤ 20 ∧ sC s 7 ≤ 12 ∧ sC s 8 ≤ 200
def iv2 (s : sA) (N : Nat) : Prop := (∀ g m, N ≤ m → sG s g m = sG s g N) ∧ (∀ w m, N ≤ m → sR s w m = sR s w N)
def iv3 (s : sA) : Prop := ivs s ∧ ivl s ∧ ivn s ∧ ivm s
def iv4 (s : sA) : Prop := ivo s ∧ ivd s
def iv5 (s : sA) : Prop := (∀ w m, (sR s w m).length ≤ 24 ∧ ∀ p, p ∈ sR s w m → s_pk s p ∧ (p.1 = 2 → h_ix p.2.2.2.2 ≤ m)) ∧ ivw s
def iv6 (s : sA) (N : Nat) : Prop := ∀ i, i < sC s 4 → (∃ w m, w < sC s 2 ∧ m ≤ N ∧ sF s 56 i = nI w ∧ sF s 57 i = nI m) ∧ s_mn (sF s 58 i) ∧ s_mn (sF s 59 i) ∧ (sF s 58 i = -9 → sF s 59 i = -9)
def iv7 (s : sA) : Prop := ivK s ∧ ivz s
/-- all bounds, as of N -/
def IW (s : sA) (N : Nat) : Prop := iv1 s N ∧ iv2 s N ∧ iv3 s ∧ iv4 s ∧ iR s N ∧ iv5 s ∧ iv6 s N ∧ iv7 s
def IV (s : sA) : Prop := IW s (sC s 0)
section IVa
variable {s s2 S : sA} {N : Nat}
theorem IV_c (h : IV s) : ivc s := h.1
theorem IV_g (h : IV s) : ivg s := h.2.1.1
theorem IV_t (h : IV s) : ivt s := h.2.1.2
theorem IV_s (h : IV s) : ivs s := h.2.2.1.1
theorem IV_l (h : IV s) : ivl s := h.2.2.1.2.1
theorem IV_n (h : IV s) : ivn s := h.2.2.1.2.2.1
theorem IV_m (h : IV s) : ivm s := h.2.2.1.2.2.2
theorem IV_o (h : IV s) : ivo s := h.2.2.2.1.1
theorem IV_d (h : IV s) : ivd s := h.2.2.2.1.2
theorem IV_x (h : IV s) : ivx s := fun w m p hp => ((h.2.2.2.2.2.1.1 w m).2 p hp).1
theorem IV_p (h : IV s) : ivp s := fun w m => ⟨(h.2.2.2.2.2.1.1 w m).1, fun p hp => ((h.2.2.2.2.2.1.1 w m).2 p hp).1.1⟩
theorem IV_q (h : IV s) : ivq s := fun w m p hp => ((h.2.2.2.2.2.1.1 w m).2 p hp).2
theorem IV_w (h : IV s) : ivw s := h.2.2.2.2.2.1.2
theorem IV_v (h : IV s) : ivv s := h.2.2.2.2.2.2.1
theorem IV_K (h : IV s) : ivK s := h.2.2.2.2.2.2.2.1
theorem IV_z (h : IV s) : ivz s := h.2.2.2.2.2.2.2.2
theorem IV_mn (h : IV s) : ∀ i, i < sC s 6 → s_mn (sF s 97 i) := fun i hi => by
  have v0 := h.1.1
  rcases (h.2.2.2.2.1 i hi).2 with w | ⟨z, h1, h2⟩
  · exact Or.inl w
  · exact Or.inr ⟨z, by omega, h2⟩
theorem IV_r2 (h : IV s) : ivr2 s := fun i hi => by
  have v6 := h.1.2.2.2.2.2.2.1
  refine ⟨IV_mn h i hi, ?_⟩
  rcases (h.2.2.2.2.1 i hi).1 with w | ⟨o, h1, h2, _, h3, _⟩
  · exact Or.inl ⟨w.1, w.2.1⟩
  · exact Or.inr ⟨by rw [h2]; exact n_m9 (by omega), h3⟩
theorem IV_r (h : IV s) : ivr s := fun i hi => by
  rcases (IV_r2 h i hi).2 with w | w
  · exact Or.inl w.2
  · exact Or.inr w.2
theorem IV_k (h : IV s) : ivk s := fun i hi => by
  refine ⟨?_, (h.2.2.2.2.1 i hi).2⟩
  rcases (h.2.2.2.2.1 i hi).1 with w | ⟨o, h1, h2, h3, _⟩
  · exact Or.inl w.1
  · exact Or.inr ⟨o, h1, h2, h3⟩
theorem IV_u (h : IV s) : ∀ r, r < sC s 6 → ∃ u, u < 8 ∧ sF s 92 r = nI u := fun i hi => by
  rcases (h.2.2.2.2.1 i hi).1 with w | ⟨o, _, _, _, _, u, h1, h2⟩
  · exact w.2.2
  · exact ⟨u, by omega, h2⟩
def l_IV : List Nat := [9, 24, 25, 56, 57, 58, 59, 75, 78, 81, 82, 83, 84, 85, 91, 92, 95, 97, 110]
theorem IW_fr (h : IW s N) (hc : ∀ i, 1 ≤ i → i ≤ 7 → sC s2 i = sC s i) (h8 : sC s2 8 ≤ 200) (hf : ∀ f, f ∈ l_IV → sF s2 f = sF s f) (hn : sN s2 2 = sN s 2 ∧ sN s2 3 = sN s 3) (hg : sG s2 = sG s) (hr : sR s2 = sR s) (hk : sK s2 = sK s) : IW s2 N := by
  have c1 := hc 1 (by decide) (by decide)
  have c2 := hc 2 (by decide) (by decide)
  have c3 := hc 3 (by decide) (by decide)
  have c4 := hc 4 (by decide) (by decide)
  have c5 := hc 5 (by decide) (by decide)
  have c6 := hc 6 (by decide) (by decide)
  have c7 := hc 7 (by decide) (by decide)
  obtain ⟨⟨a1, a2, a3, a4, a5, a6, a7, a8, a9⟩, h2, h3, h4, h5, h6, h7, h9⟩ := h
  refine ⟨⟨a1, by rw [c1]; exact a2, by rw [c2]; exact a3, by rw [c3]; exact a4, by rw [c4]; exact a5, by rw [c5]; exact a6, by rw [c6]; exact a7, by rw [c7]; exact a8, h8⟩, ?_, ⟨?_, ?_, ?_, ?_⟩, ⟨?_, ?_⟩, ?_, ⟨?_, ?_⟩, ?_, ⟨?_, ?_⟩⟩
  · unfold iv2 at *; rw [hg, hr]; exact h2
  · unfold ivs; rw [hf 110 (by decide)]; exact h3.1
  · unfold ivl; rw [c5, hf 81 (by decide)]; exact h3.2.1
  · unfold ivn; rw [hn.1, hn.2]; exact h3.2.2.1
  · unfold ivm; rw [c5, hf 82 (by decide), hf 83 (by decide), hf 84 (by decide), hf 85 (by decide)]; exact h3.2.2.2
  · unfold ivo; rw [c1, c2, hf 9 (by decide)]; exact h4.1
  · unfold ivd; rw [c1, c2, c3, hf 24 (by decide), hf 25 (by decide)]; exact h4.2
  · unfold iR; rw [c6, hf 91 (by decide), hf 92 (by decide), hf 95 (by decide), hf 97 (by decide)]; exact h5
  · unfold s_pk; rw [hr, c2, c3]; exact h6.1
  · unfold ivw; rw [hr, c2]; exact h6.2
  · unfold iv6; rw [c2, c4, hf 56 (by decide), hf 57 (by decide), hf 58 (by decide), hf 59 (by decide)]; exact h7
  · unfold ivK; rw [c2, c7, hk, hf 75 (by decide), hf 78 (by decide)]; exact h9.1
  · unfold ivz; rw [c7, hf 78 (by decide)]; exact h9.2
theorem IW_1 (h : IW s N) (hN : N < 512) : IW s (N + 1) := by
  obtain ⟨h1, h2, h3, h4, h5, h6, h7, h9⟩ := h
  refine ⟨⟨by omega, h1.2⟩, ⟨fun g m hm => ?_, fun w m hm => ?_⟩, h3, h4, fun i hi => ⟨(h5 i hi).1, ?_⟩, h6, fun i hi => ?_, h9⟩
  · rw [h2.1 g m (by omega), h2.1 g (N + 1) (by omega)]
  · rw [h2.2 w m (by omega), h2.2 w (N + 1) (by omega)]
  · rcases (h5 i hi).2 with w | ⟨z, q1, q2⟩
    · exact Or.inl w
    · exact Or.inr ⟨z, by omega, q2⟩
  · obtain ⟨⟨w, m, q1, q2, q3⟩, q4⟩ := h7 i hi
    exact ⟨⟨w, m, q1, by omega, q3⟩, q4⟩
theorem IV_act {x : Int32} (h : IW S (sC S 0 + 1)) : IV (s_act S x) := by
  show IW (s_act S x) (sC S 0 + 1)
  refine IW_fr h (fun i h1 _ => ?_) h.1.2.2.2.2.2.2.2.2 (fun f hf => ?_) ⟨rfl, rfl⟩ rfl rfl rfl
  · show (if i = 0 then _ else sC S i) = _
    rw [if_neg (by omega)]
  · funext i
    show sF (uF (uC S 0 (sC S 0 + 1)) 2 (sC S 0 + 1) (q_mix (sF S 2 (sC S 0)) x)) f i = _
    rw [sF_uF, if_neg (fun e => by rw [e] at hf; exact absurd hf (by decide))]
    rfl
theorem IV_N {x : Int32} {i : Nat} (h : IW s N) (hi : i < 2) : IW (uN s i x) N := by
  refine IW_fr h (fun _ _ _ => rfl) h.1.2.2.2.2.2.2.2.2 (fun _ _ => rfl) ⟨?_, ?_⟩ rfl rfl rfl
  · rw [sN_uN, if_neg (by omega)]
  · rw [sN_uN, if_neg (by omega)]
theorem IV_flt (h : IV s) (x : Int32) : IV (s_flt s x) := IV_N h (by decide)
theorem IV_tr (h : IV s) (x : Int32) : IV (s_tr s x) := IV_N h (by decide)
theorem fg_if_P {α : Type} {P : α → Prop} {c : Prop} {a b : α} (h1 : c → P a) (h2 : ¬ c → P b) : P (fg_if c a b) := by
  by_cases q : c
  · rw [fg_if_1 q]; exact h1 q
  · rw [fg_if_0 q]; exact h2 q
/-- a field that the bounds don't speak of -/
theorem IW_F {f i : Nat} {x : Int32} (h : IW s N) (hf : f ∉ l_IV) : IW (uF s f i x) N := IW_fr h (fun _ _ _ => rfl) h.1.2.2.2.2.2.2.2.2 (fun g hg => by funext j; rw [sF_uF, if_neg (fun e => hf (by rw [← e]; exact hg))]) ⟨rfl, rfl⟩ rfl rfl rfl
theorem IW_Ff {f : Nat} {x : Nat → Int32} (h : IW s N) (hf : f ∉ l_IV) : IW (uFf s f x) N := IW_fr h (fun _ _ _ => rfl) h.1.2.2.2.2.2.2.2.2 (fun g hg => by funext j; rw [sF_uFf, if_neg (fun e => hf (by rw [← e]; exact hg))]) ⟨rfl, rfl⟩ rfl rfl rfl
theorem s_pok_m {W W2 : Nat} {p : sP} (h : s_pok W p) (hW : W ≤ W2) : s_pok W2 p := ⟨h.1, h.2.1, h.2.2.1, fun c => by
  obtain ⟨w, q1, q2⟩ := h.2.2.2.1 c
  exact ⟨w, by omega, q2⟩, h.2.2.2.2⟩
theorem s_pk_m {p : sP} (h : s_pk s p) (h2 : sC s 2 ≤ sC s2 2) (h3 : sC s 3 ≤ sC s2 3) : s_pk s2 p := ⟨s_pok_m h.1 h2, fun c => by have := h.2 c; omega⟩
theorem IW_beg {o : Int32} (h : IW s N) (hw : sC s 2 < 12) (ho : ∃ a, a < sC s 1 ∧ o = nI a) : IW (s_beg s o) N := by
  obtain ⟨⟨a1, a2, a3, a4, a5⟩, h2, h3, h4, h5, h6, h7, h9⟩ := h
  have f9 : ∀ f, f ≠ 9 → sF (s_beg s o) f = sF s f := fun f hf => by
    funext i
    show sF (uF s 9 (sC s 2) o) f i = _
    rw [sF_uF, if_neg hf]
  have c2 : sC (s_beg s o) 2 = sC s 2 + 1 := rfl
  refine ⟨⟨a1, a2, by rw [c2]; omega, a4, a5⟩, h2, ⟨?_, ?_, h3.2.2.1, ?_⟩, ⟨fun w hw2 => ?_, fun x hx => ?_⟩, ?_, ⟨fun w m => ⟨(h6.1 w m).1, fun p hp => ⟨s_pk_m ((h6.1 w m).2 p hp).1 (by rw [c2]; omega) (Nat.le_refl _), ((h6.1 w m).2 p hp).2⟩⟩, fun w m hw2 => h6.2 w m (by rw [c2] at hw2; omega)⟩, fun i hi => ?_, ⟨fun c hc => ?_, ?_⟩⟩
  · unfold ivs; rw [f9 110 (by decide)]; exact h3.1
  · unfold ivl; rw [f9 81 (by decide)]; exact h3.2.1
  · unfold ivm; rw [f9 82 (by decide), f9 83 (by decide), f9 84 (by decide), f9 85 (by decide)]; exact h3.2.2.2
  · rw [c2] at hw2
    show ∃ z, z < sC s 1 ∧ sF (uF s 9 (sC s 2) o) 9 w = nI z
    rw [sF_uF, if_pos rfl]
    by_cases e : w = sC s 2
    · rw [if_pos e]; exact ho
    · rw [if_neg e]; exact h4.1 w (by omega)
  · rw [f9 24 (by decide), f9 25 (by decide)]
    obtain ⟨⟨w, q1, q2⟩, q3⟩ := h4.2 x hx
    exact ⟨⟨w, by rw [c2]; omega, q2⟩, q3⟩
  · unfold iR; rw [f9 91 (by decide), f9 92 (by decide), f9 95 (by decide), f9 97 (by decide)]; exact h5
  · rw [f9 56 (by decide), f9 57 (by decide), f9 58 (by decide), f9 59 (by decide)]
    obtain ⟨⟨w, m, q1, q2⟩, q3⟩ := h7 i hi
    exact ⟨⟨w, m, by rw [c2]; omega, q2⟩, q3⟩
  · rw [f9 75 (by decide), f9 78 (by decide)]
    obtain ⟨⟨w, q1, q2⟩, q3⟩ := h9.1 c hc
    exact ⟨⟨w, by rw [c2]; omega, q2⟩, q3⟩
  · unfold ivz; rw [f9 78 (by decide)]; exact h9.2
theorem IW_new {w : Int32} {l : List sP} (h : IW s (sC s 0 + 1)) (hw : h_ix w < sC s 2) (hl : l.length ≤ 24) (hp : ∀ p, p ∈ l → s_pn s (sC s 0) p) : IW (s_new s w l) (sC s 0 + 1) := by
  obtain ⟨h1, h2, h3, h4, h5, h6, h7, h9⟩ := h
  have eR : ∀ j m, sR (s_new s w l) j m = if j = h_ix w ∧ sC s 0 + 1 ≤ m then l else sR s j m := fun _ _ => rfl
  refine ⟨h1, ⟨h2.1, fun j m hm => ?_⟩, h3, h4, h5, ⟨fun j m => ?_, fun j m hj => ?_⟩, h7, h9⟩
  · rw [eR, eR]
    by_cases c : j = h_ix w
    · rw [if_pos ⟨c, hm⟩, if_pos ⟨c, Nat.le_refl _⟩]
    · rw [if_neg (fun q => c q.1), if_neg (fun q => c q.1)]; exact h2.2 j m hm
  · rw [eR]
    by_cases c : j = h_ix w ∧ sC s 0 + 1 ≤ m
    · rw [if_pos c]
      exact ⟨hl, fun p q => ⟨(hp p q).1, fun e => by have := (hp p q).2 e; omega⟩⟩
    · rw [if_neg c]; exact h6.1 j m
  · have hj : sC s 2 ≤ j := hj
    rw [eR, if_neg (fun q => by omega)]
    exact h6.2 j m hj
theorem IV_keepS {w : Int32} {l : List sP} (h : IV s) (v0 : sC s 0 < 512) (hw : h_ix w < sC s 2) (hp : ∀ p, p ∈ l → s_pn s (sC s 0) p) : IV (s_keepS s w l).2 := by
  unfold s_keepS
  exact fg_if_P (P := fun r : Int32 × sA => IV r.2) (fun c => IV_act (IW_new (IW_1 h v0) hw c hp)) (fun _ => h)
theorem IV_keepP {w a : Int32} {l : List sP} (h : IV s) (v0 : sC s 0 < 512) (hw : h_ix w < sC s 2) (hp : ∀ p, p ∈ l → s_pn s (sC s 0) p) : IV (s_keepP s w l a).2 := by
  unfold s_keepP
  exact fg_if_P (P := fun r : Int32 × sA => IV r.2) (fun c => IV_act (IW_new (IW_1 h v0) hw c hp)) (fun _ => h)
/-! pieces that come -/
theorem q_nn {x : Int32} {n : Nat} (h : 0 ≤ x.toInt) (hn : x.toInt ≤ n) : ∃ z, z ≤ n ∧ x = nI z := ⟨h_ix x, by have := q_ix h; omega, n_of h⟩
theorem pn_words {k f n : Int32} {M : Nat} (hk : k = 0 ∨ k = 1) (v : sC s 3 ≤ 500) (hw : s_words s f n) : s_pn s M (k, f, n, -9, -9) := by
  obtain ⟨h1, h2, h3⟩ := hw
  have ef := q_ix h1
  have en := q_ix (x := n) (by omega)
  have k2 : k < 2 := by rcases hk with e | e <;> rw [e] <;> decide
  refine ⟨⟨⟨?_, ⟨h_ix n, by omega, by omega, n_of (x := n) (show 0 ≤ n.toInt by omega)⟩, ⟨h_ix f, by omega, n_of h1⟩, fun c => absurd k2 c, fun c => ?_⟩, fun _ => ?_⟩, fun c => ?_⟩
  · rcases hk with e | e
    · exact ⟨0, by decide, e⟩
    · exact ⟨1, by decide, e⟩
  · have c : k = 2 := c
    rw [c] at k2; exact absurd k2 (by decide)
  · show h_ix f + h_ix n ≤ sC s 3
    omega
  · have c : k = 2 := c
    rw [c] at k2; exact absurd k2 (by decide)
theorem pn_span {k a n o m : Int32} {M : Nat} (hk : k = 2 ∨ k = 3) (ha : q_in a 500) (hn1 : 1 ≤ n) (hn2 : n ≤ 500) (ho : q_in o (sC s 2)) (hm : k = 2 → q_in m ((M : Nat) + 1)) (hM : M ≤ 600) : s_pn s M (k, a, n, o, m) := by
  obtain ⟨ea, la⟩ := n_in (n := 500) ha
  obtain ⟨eo, lo⟩ := n_in ho
  have e1 : (1 : Int32).toInt = 1 := rfl
  have e5 : (500 : Int32).toInt = 500 := rfl
  rw [Int32.le_iff_toInt_le, e1] at hn1
  rw [Int32.le_iff_toInt_le, e5] at hn2
  have en := q_ix (x := n) (by omega)
  have k2 : ¬ k < 2 := by rcases hk with e | e <;> rw [e] <;> decide
  refine ⟨⟨⟨?_, ⟨h_ix n, by omega, by omega, n_of (x := n) (show 0 ≤ n.toInt by omega)⟩, ⟨h_ix a, by omega, ea⟩, fun _ => ⟨h_ix o, lo, eo⟩, fun c => ?_⟩, fun c => absurd c k2⟩, fun c => ?_⟩
  · rcases hk with e | e
    · exact ⟨2, by decide, e⟩
    · exact ⟨3, by decide, e⟩
  · obtain ⟨em, lm⟩ := n_in (n := M + 1) (hm c)
    exact ⟨h_ix m, by omega, em⟩
  · obtain ⟨em, lm⟩ := n_in (n := M + 1) (hm c)
    show h_ix m ≤ M
    omega
end IVa
