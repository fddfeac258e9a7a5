/-! THE BOUNDS STAY, call by call -/
section IVb
variable {s s2 S : sA} {N : Nat}
theorem i_hand (h : IV s) (v0 : sC s 0 < 512) : IV (s_hand s).2 := by
  unfold s_hand
  refine fg_if_P (P := fun r : Int32 × sA => IV r.2) (fun _ => h) (fun c => IV_act ?_)
  obtain ⟨⟨a1, a2, a3⟩, h2, h3, h4, h5, h6, h7, h9⟩ := IW_1 h v0
  have c1 : sC (uC s 1 (sC s 1 + 1)) 1 = sC s 1 + 1 := rfl
  refine ⟨⟨a1, by rw [c1]; omega, a3⟩, h2, h3, ⟨fun w hw => ?_, fun x hx => ?_⟩, h5, h6, h7, h9⟩
  · obtain ⟨z, q1, q2⟩ := h4.1 w hw
    exact ⟨z, by rw [c1]; omega, q2⟩
  · obtain ⟨q0, z, q1, q2⟩ := h4.2 x hx
    exact ⟨q0, z, by rw [c1]; omega, q2⟩
theorem i_group (h : IV s) (v0 : sC s 0 < 512) (g x : Int32) : IV (s_group s g x).2 := by
  unfold s_group
  refine fg_if_P (P := fun r : Int32 × sA => IV r.2) (fun _ => fg_if_P (P := fun r : Int32 × sA => IV r.2) (fun _ => ?_) (fun _ => h)) (fun _ => h)
  have ha : IV (s_act s (sG s (h_ix g) (sC s 0))) := IV_act (IW_1 h v0)
  generalize sG s (h_ix g) (sC s 0) = a at ha
  obtain ⟨h1, h2, h3, h4, h5, h6, h7, h9⟩ := ha
  have e0 : sC (s_act s a) 0 = sC s 0 + 1 := rfl
  refine ⟨h1, ⟨fun j m hm => ?_, h2.2⟩, h3, h4, h5, h6, h7, h9⟩
  have hm : sC s 0 + 1 ≤ m := hm
  show (if j = h_ix g ∧ sC s 0 + 1 ≤ m then x else sG (s_act s a) j m) = (if j = h_ix g ∧ sC s 0 + 1 ≤ sC s 0 + 1 then x else sG (s_act s a) j (sC s 0 + 1))
  by_cases c : j = h_ix g
  · rw [if_pos ⟨c, hm⟩, if_pos ⟨c, Nat.le_refl _⟩]
  · rw [if_neg (fun q => c q.1), if_neg (fun q => c q.1)]
    exact h2.1 j m hm
theorem i_writing (h : IV s) (v0 : sC s 0 < 512) (x : Int32) : IV (s_writing s x).2 := by
  have v2 := h.1.2.2.1
  unfold s_writing
  refine fg_if_P (P := fun r : Int32 × sA => IV r.2) (fun c1 => fg_if_P (P := fun r : Int32 × sA => IV r.2) (fun _ => h) (fun c => ?_)) (fun _ => h)
  obtain ⟨e, l⟩ := n_in c1
  exact IV_act (S := s_beg s x) (IW_beg (IW_1 h v0) (by omega) ⟨_, l, e⟩)
theorem i_br (h : IV s) (f : Int32) : IV (s_br s f).2 := by
  unfold s_br
  exact fg_if_P (P := fun r : Int32 × sA => IV r.2) (fun _ => IV_flt h _) (fun _ => IV_flt h _)
theorem i_seen (h : IV s) (v0 : sC s 0 < 512) (w a f n : Int32) : IV (s_seen s w a f n).2 := by
  unfold s_seen
  refine fg_if_P (P := fun r : Int32 × sA => IV r.2) (fun c1 => fg_if_P (P := fun r : Int32 × sA => IV r.2) (fun _ => h) (fun _ => fg_if_P (P := fun r : Int32 × sA => IV r.2) (fun c2 => fg_if_P (P := fun r : Int32 × sA => IV r.2) (fun _ => ?_) (fun _ => h)) (fun _ => h))) (fun _ => h)
  exact IV_keepS h v0 (n_in c1.1).2 (s_brg_pn (IV_c h) (IV_x h) (IV_q h) (pn_words (Or.inr rfl) h.1.2.2.2.1 c2))
theorem i_span (h : IV s) (v0 : sC s 0 < 512) (w at_ o m a n : Int32) : IV (s_span s w at_ o m a n).2 := by
  unfold s_span
  refine fg_if_P (P := fun r : Int32 × sA => IV r.2) (fun c1 => fg_if_P (P := fun r : Int32 × sA => IV r.2) (fun c2 => fg_if_P (P := fun r : Int32 × sA => IV r.2) (fun _ => ?_) (fun _ => h)) (fun _ => h)) (fun _ => h)
  exact IV_keepS h v0 (n_in c1.1.1).2 (s_brg_pn (IV_c h) (IV_x h) (IV_q h) (pn_span (Or.inl rfl) c2.1 c2.2.1 c2.2.2 c1.2.1 (fun _ => c1.2.2) (by omega)))
theorem i_live (h : IV s) (v0 : sC s 0 < 512) (w at_ o a n : Int32) : IV (s_live s w at_ o a n).2 := by
  unfold s_live
  refine fg_if_P (P := fun r : Int32 × sA => IV r.2) (fun c1 => fg_if_P (P := fun r : Int32 × sA => IV r.2) (fun c2 => fg_if_P (P := fun r : Int32 × sA => IV r.2) (fun _ => fg_if_P (P := fun r : Int32 × sA => IV r.2) (fun _ => ?_) (fun _ => h)) (fun _ => h)) (fun _ => h)) (fun _ => h)
  exact IV_keepS h v0 (n_in c1.1.1).2 (s_brg_pn (IV_c h) (IV_x h) (IV_q h) (pn_span (Or.inr rfl) c2.1 c2.2.1 c2.2.2 c1.2 (fun e => absurd e (by decide)) (by omega)))
theorem q_pos {n : Int32} (h : 1 ≤ n) : 0 < h_ix n := by
  have e1 : (1 : Int32).toInt = 1 := rfl
  rw [Int32.le_iff_toInt_le, e1] at h
  have := q_ix (x := n) (by omega)
  omega
theorem i_cut (h : IV s) (v0 : sC s 0 < 512) (w f n : Int32) : IV (s_cut s w f n).2 := by
  unfold s_cut
  refine fg_if_P (P := fun r : Int32 × sA => IV r.2) (fun c1 => fg_if_P (P := fun r : Int32 × sA => IV r.2) (fun c2 => ?_) (fun _ => h)) (fun _ => h)
  exact IV_keepS h v0 (n_in c1.1).2 (s_lift_pn (IV_c h) (IV_x h) (IV_q h) (q_pos c2.1)).2
theorem i_move (h : IV s) (v0 : sC s 0 < 512) (w f n o : Int32) : IV (s_move s w f n o).2 := by
  unfold s_move
  refine fg_if_P (P := fun r : Int32 × sA => IV r.2) (fun c1 => fg_if_P (P := fun r : Int32 × sA => IV r.2) (fun c2 => fg_if_P (P := fun r : Int32 × sA => IV r.2) (fun _ => h) (fun _ => ?_)) (fun _ => h)) (fun _ => h)
  refine IV_keepP h v0 (n_in c1.1).2 (fun p hp => ?_)
  obtain ⟨b1, b2⟩ := s_lift_pn (IV_c h) (IV_x h) (IV_q h) (w := h_ix w) (f := h_ix f) (n := h_ix n) (q_pos c2.1)
  obtain ⟨d1, d2⟩ := e_oa_pn (m := sC s 0) (IV_c h) b2 (if f < o then h_ix o - h_ix n else h_ix o) 0
  unfold s_mv at hp
  rcases List.mem_append.mp hp with z | z
  · exact d1 p z
  · rcases List.mem_append.mp z with z | z
    · exact b1 p z
    · exact d2 p z
theorem i_again (h : IV s) (v0 : sC s 0 < 512) (w m : Int32) : IV (s_again s w m).2 := by
  unfold s_again
  refine fg_if_P (P := fun r : Int32 × sA => IV r.2) (fun c1 => ?_) (fun _ => h)
  obtain ⟨em, lm⟩ := n_in (n := sC s 0 + 1) c1.2
  exact IV_keepP h v0 (n_in c1.1).2 (fun p hp => ⟨IV_x h _ _ p hp, fun e => by have := IV_q h _ _ p hp e; omega⟩)
theorem i_version (h : IV s) (v0 : sC s 0 < 512) (w : Int32) : IV (s_version s w).2 := by
  have v4 := h.1.2.2.2.2.1
  unfold s_version
  refine fg_if_P (P := fun r : Int32 × sA => IV r.2) (fun c1 => fg_if_P (P := fun r : Int32 × sA => IV r.2) (fun _ => h) (fun c => IV_act ?_)) (fun _ => h)
  obtain ⟨e, l⟩ := n_in c1
  obtain ⟨⟨a1, a2, a3, a4, a5, a6⟩, h2, h3, h4, h5, h6, h7, h9⟩ := IW_1 h v0
  have c4 : sC (s_addV s w) 4 = sC s 4 + 1 := rfl
  have fo : ∀ f, f ≠ 56 ∧ f ≠ 57 ∧ f ≠ 58 ∧ f ≠ 59 → sF (s_addV s w) f = sF s f := fun f hf => s_addV_F w f hf
  refine ⟨⟨a1, a2, a3, a4, by rw [c4]; omega, a6⟩, h2, ⟨?_, ?_, h3.2.2.1, ?_⟩, ⟨?_, ?_⟩, ?_, h6, fun i hi => ?_, ⟨?_, ?_⟩⟩
  · unfold ivs; rw [fo 110 (by decide)]; exact h3.1
  · unfold ivl; rw [fo 81 (by decide)]; exact h3.2.1
  · unfold ivm; rw [fo 82 (by decide), fo 83 (by decide), fo 84 (by decide), fo 85 (by decide)]; exact h3.2.2.2
  · unfold ivo; rw [fo 9 (by decide)]; exact h4.1
  · unfold ivd; rw [fo 24 (by decide), fo 25 (by decide)]; exact h4.2
  · unfold iR; rw [fo 91 (by decide), fo 92 (by decide), fo 95 (by decide), fo 97 (by decide)]; exact h5
  · rw [c4] at hi
    by_cases q : i = sC s 4
    · obtain ⟨n1, n2, n3, n4⟩ := s_addV_n (s := s) w
      rw [q, n1, n2, n3, n4]
      exact ⟨⟨h_ix w, sC s 0 + 1, l, Nat.le_refl _, e, rfl⟩, Or.inl rfl, Or.inl rfl, fun _ => rfl⟩
    · rw [s_addV_o w 56 q, s_addV_o w 57 q, s_addV_o w 58 q, s_addV_o w 59 q]
      exact h7 i (by omega)
  · unfold ivK; rw [fo 75 (by decide), fo 78 (by decide)]; exact h9.1
  · unfold ivz; rw [fo 78 (by decide)]; exact h9.2
/-- one of the fields of versions -/
theorem IW_v {f i : Nat} {x : Int32} (h : IW s N) (hf : f = 58 ∨ f = 59) (hv : ∀ j, j < sC s 4 → s_mn (sF (uF s f i x) 58 j) ∧ s_mn (sF (uF s f i x) 59 j) ∧ (sF (uF s f i x) 58 j = -9 → sF (uF s f i x) 59 j = -9)) : IW (uF s f i x) N := by
  obtain ⟨h1, h2, h3, h4, h5, h6, h7, h9⟩ := h
  have fo : ∀ g, g ≠ 58 ∧ g ≠ 59 → sF (uF s f i x) g = sF s g := fun g hg => by funext j; rw [sF_uF, if_neg (by omega)]
  refine ⟨h1, h2, ⟨?_, ?_, h3.2.2.1, ?_⟩, ⟨?_, ?_⟩, ?_, h6, fun j hj => ?_, ⟨?_, ?_⟩⟩
  · unfold ivs; rw [fo 110 (by decide)]; exact h3.1
  · unfold ivl; rw [fo 81 (by decide)]; exact h3.2.1
  · unfold ivm; rw [fo 82 (by decide), fo 83 (by decide), fo 84 (by decide), fo 85 (by decide)]; exact h3.2.2.2
  · unfold ivo; rw [fo 9 (by decide)]; exact h4.1
  · unfold ivd; rw [fo 24 (by decide), fo 25 (by decide)]; exact h4.2
  · unfold iR; rw [fo 91 (by decide), fo 92 (by decide), fo 95 (by decide), fo 97 (by decide)]; exact h5
  · rw [fo 56 (by decide), fo 57 (by decide)]
    exact ⟨(h7 j hj).1, hv j hj⟩
  · unfold ivK; rw [fo 75 (by decide), fo 78 (by decide)]; exact h9.1
  · unfold ivz; rw [fo 78 (by decide)]; exact h9.2
theorem i_give (h : IV s) (v0 : sC s 0 < 512) (v : Int32) : IV (s_give s v).2 := by
  unfold s_give
  refine fg_if_P (P := fun r : Int32 × sA => IV r.2) (fun c1 => fg_if_P (P := fun r : Int32 × sA => IV r.2) (fun _ => IV_act (IW_v (IW_1 h v0) (Or.inl rfl) (fun j hj => ?_))) (fun _ => h)) (fun _ => h)
  obtain ⟨_, q1, q2, q3⟩ := IV_v h j hj
  have e58 : sF (uF s 58 (h_ix v) (nI (sC s 0 + 1))) 58 j = if j = h_ix v then nI (sC s 0 + 1) else sF s 58 j := by rw [sF_uF, if_pos rfl]
  have e59 : sF (uF s 58 (h_ix v) (nI (sC s 0 + 1))) 59 j = sF s 59 j := by rw [sF_uF, if_neg (by decide)]
  rw [e58, e59]
  by_cases c : j = h_ix v
  · rw [if_pos c]
    exact ⟨Or.inr ⟨sC s 0 + 1, by omega, rfl⟩, q2, fun e => absurd e (n_m9 (by omega))⟩
  · rw [if_neg c]; exact ⟨q1, q2, q3⟩
theorem i_back (h : IV s) (v0 : sC s 0 < 512) (v : Int32) : IV (s_back s v).2 := by
  unfold s_back
  refine fg_if_P (P := fun r : Int32 × sA => IV r.2) (fun c1 => fg_if_P (P := fun r : Int32 × sA => IV r.2) (fun c2 => IV_act (IW_v (IW_1 h v0) (Or.inr rfl) (fun j hj => ?_))) (fun _ => h)) (fun _ => h)
  obtain ⟨_, q1, q2, q3⟩ := IV_v h j hj
  have e58 : sF (uF s 59 (h_ix v) (nI (sC s 0 + 1))) 58 j = sF s 58 j := by rw [sF_uF, if_neg (by decide)]
  have e59 : sF (uF s 59 (h_ix v) (nI (sC s 0 + 1))) 59 j = if j = h_ix v then nI (sC s 0 + 1) else sF s 59 j := by rw [sF_uF, if_pos rfl]
  rw [e58, e59]
  by_cases c : j = h_ix v
  · rw [if_pos c]
    refine ⟨q1, Or.inr ⟨sC s 0 + 1, by omega, rfl⟩, fun e => ?_⟩
    exfalso
    unfold s_kind at c2
    rw [← c, fg_if_1 e] at c2
    exact absurd c2 (by decide)
  · rw [if_neg c]; exact ⟨q1, q2, q3⟩
theorem i_settle (h : IV s) (v0 : sC s 0 < 512) (c w : Int32) : IV (s_settle s c w).2 := by
  unfold s_settle
  refine fg_if_P (P := fun r : Int32 × sA => IV r.2) (fun c1 => fg_if_P (P := fun r : Int32 × sA => IV r.2) (fun _ => fg_if_P (P := fun r : Int32 × sA => IV r.2) (fun c3 => fg_if_P (P := fun r : Int32 × sA => IV r.2) (fun c4 => ?_) (fun _ => h)) (fun _ => h)) (fun _ => h)) (fun _ => h)
  obtain ⟨e1, l1⟩ := n_in c1
  obtain ⟨⟨u, u1, u2⟩, k1, k2, k3, k4, k5⟩ := IV_K h (h_ix c) l1
  have v2 := h.1.2.2.1
  have hu : h_ix (sF s 75 (h_ix c)) < sC s 2 := by rw [u2, q_nIx (by omega)]; exact u1
  have hsn : 0 < s_sn s (h_ix c) w := by
    unfold s_sn
    exact fg_if_P (P := fun r : Nat => 0 < r) (fun _ => by omega) (fun _ => fg_if_P (P := fun r : Nat => 0 < r) (fun _ => by omega) (fun _ => by omega))
  have hs : IW (uF s 78 (h_ix c) 1) (sC s 0 + 1) := by
    obtain ⟨h1, h2, h3, h4, h5, h6, h7, h9⟩ := IW_1 h v0
    have fo : ∀ g, g ≠ 78 → sF (uF s 78 (h_ix c) 1) g = sF s g := fun g hg => by funext j; rw [sF_uF, if_neg hg]
    refine ⟨h1, h2, ⟨?_, ?_, h3.2.2.1, ?_⟩, ⟨?_, ?_⟩, ?_, h6, ?_, ⟨fun j hj => ?_, fun j hj => ?_⟩⟩
    · unfold ivs; rw [fo 110 (by decide)]; exact h3.1
    · unfold ivl; rw [fo 81 (by decide)]; exact h3.2.1
    · unfold ivm; rw [fo 82 (by decide), fo 83 (by decide), fo 84 (by decide), fo 85 (by decide)]; exact h3.2.2.2
    · unfold ivo; rw [fo 9 (by decide)]; exact h4.1
    · unfold ivd; rw [fo 24 (by decide), fo 25 (by decide)]; exact h4.2
    · unfold iR; rw [fo 91 (by decide), fo 92 (by decide), fo 95 (by decide), fo 97 (by decide)]; exact h5
    · unfold iv6; rw [fo 56 (by decide), fo 57 (by decide), fo 58 (by decide), fo 59 (by decide)]; exact h7
    · obtain ⟨q1, q2, q3, q4, q5, q6⟩ := h9.1 j hj
      rw [fo 75 (by decide), sF_uF, if_pos rfl]
      refine ⟨q1, q2, q3, q4, q5, ?_⟩
      by_cases e : j = h_ix c
      · rw [if_pos e]; exact Or.inr rfl
      · rw [if_neg e]; exact q6
    · have hj : sC s 7 ≤ j := hj
      rw [sF_uF, if_pos rfl, if_neg (by omega)]
      exact h9.2 j hj
  exact IV_act (S := s_new (uF s 78 (h_ix c) 1) (sF s 75 (h_ix c)) (s_sl s (h_ix c) w)) (IW_new hs hu c4 (s_lift_pn (IV_c h) (IV_x h) (IV_q h) hsn).2)
/-- links -/
theorem IW_K {x0 x1 x2 x3 x4 x5 : Int32} (h : IW s N) (h24 : sC s 5 < 24) (k0 : ∃ z, z ≤ 4 ∧ x0 = nI z) (k1 : ∃ a n, 1 ≤ n ∧ a + n ≤ 500 ∧ x1 = nI a ∧ x2 = nI n) (k2 : ∃ a n, 1 ≤ n ∧ a + n ≤ 500 ∧ x3 = nI a ∧ x4 = nI n) : IW (s_addK s x0 x1 x2 x3 x4 x5) N := by
  obtain ⟨⟨a1, a2, a3, a4, a5, a6, a7⟩, h2, h3, h4, h5, h6, h7, h9⟩ := h
  have c5 : sC (s_addK s x0 x1 x2 x3 x4 x5) 5 = sC s 5 + 1 := rfl
  have fo : ∀ f, f < 81 ∨ 86 < f → sF (s_addK s x0 x1 x2 x3 x4 x5) f = sF s f := fun f hf => s_addK_F _ _ _ _ _ _ f hf
  obtain ⟨n0, n1, n2, n3, n4, n5⟩ := s_addK_n (s := s) x0 x1 x2 x3 x4 x5
  refine ⟨⟨a1, a2, a3, a4, a5, by rw [c5]; omega, a7⟩, h2, ⟨?_, fun i hi => ?_, h3.2.2.1, fun i hi => ?_⟩, ⟨?_, ?_⟩, ?_, h6, ?_, ⟨?_, ?_⟩⟩
  · unfold ivs; rw [fo 110 (by decide)]; exact h3.1
  · rw [c5] at hi
    by_cases e : i = sC s 5
    · rw [e, n0]; exact k0
    · rw [s_addK_o x0 x1 x2 x3 x4 x5 81 e]; exact h3.2.1 i (by omega)
  · rw [c5] at hi
    by_cases e : i = sC s 5
    · rw [e, n1, n2, n3, n4]; exact ⟨k1, k2⟩
    · rw [s_addK_o x0 x1 x2 x3 x4 x5 82 e, s_addK_o x0 x1 x2 x3 x4 x5 83 e, s_addK_o x0 x1 x2 x3 x4 x5 84 e, s_addK_o x0 x1 x2 x3 x4 x5 85 e]; exact h3.2.2.2 i (by omega)
  · unfold ivo; rw [fo 9 (by decide)]; exact h4.1
  · unfold ivd; rw [fo 24 (by decide), fo 25 (by decide)]; exact h4.2
  · unfold iR; rw [fo 91 (by decide), fo 92 (by decide), fo 95 (by decide), fo 97 (by decide)]; exact h5
  · unfold iv6; rw [fo 56 (by decide), fo 57 (by decide), fo 58 (by decide), fo 59 (by decide)]; exact h7
  · unfold ivK; rw [fo 75 (by decide), fo 78 (by decide)]; exact h9.1
  · unfold ivz; rw [fo 78 (by decide)]; exact h9.2
theorem i_keepK {x0 x1 x2 x3 x4 x5 : Int32} (h : IV s) (v0 : sC s 0 < 512) (k0 : ∃ z, z ≤ 4 ∧ x0 = nI z) (k1 : ∃ a n, 1 ≤ n ∧ a + n ≤ 500 ∧ x1 = nI a ∧ x2 = nI n) (k2 : ∃ a n, 1 ≤ n ∧ a + n ≤ 500 ∧ x3 = nI a ∧ x4 = nI n) : IV (s_keepK s x0 x1 x2 x3 x4 x5).2 := by
  have v5 := h.1.2.2.2.2.2.1
  unfold s_keepK
  exact fg_if_P (P := fun r : Int32 × sA => IV r.2) (fun _ => h) (fun c => IV_act (IW_K (IW_1 h v0) (by omega) k0 k1 k2))
theorem wk_of {f n : Int32} (v : sC s 3 ≤ 500) (h : s_words s f n) : ∃ a m, 1 ≤ m ∧ a + m ≤ 500 ∧ f = nI a ∧ n = nI m := by
  obtain ⟨h1, h2, h3⟩ := h
  have ef := q_ix h1
  have en := q_ix (x := n) (by omega)
  exact ⟨h_ix f, h_ix n, by omega, by omega, n_of h1, n_of (by omega)⟩
theorem i_link (h : IV s) (v0 : sC s 0 < 512) (d f n g k : Int32) : IV (s_link s d f n g k).2 := by
  have v3 := h.1.2.2.2.1
  have h0 : IV (s_flt s 0) := IV_flt h 0
  unfold s_link
  refine fg_if_P (P := fun r : Int32 × sA => IV r.2) (fun c1 => fg_if_P (P := fun r : Int32 × sA => IV r.2) (fun c2 => fg_if_P (P := fun r : Int32 × sA => IV r.2) (fun c3 => fg_if_P (P := fun r : Int32 × sA => IV r.2) (fun c4 => fg_if_P (P := fun r : Int32 × sA => IV r.2) (fun _ => ?_) (fun _ => IV_flt h 2)) (fun _ => h0)) (fun _ => fg_if_P (P := fun r : Int32 × sA => IV r.2) (fun c4 => fg_if_P (P := fun r : Int32 × sA => IV r.2) (fun _ => h0) (fun _ => ?_)) (fun _ => h0))) (fun _ => h0)) (fun _ => h0)
  · exact i_keepK h0 v0 ⟨2, by decide, rfl⟩ (wk_of v3 c2) (IV_m h _ (n_in c4).2).1
  · obtain ⟨e, l⟩ := n_in (n := 5) c1.1
    exact i_keepK h0 v0 ⟨h_ix d, by omega, e⟩ (wk_of v3 c2) (wk_of v3 c4)
/-- rights -/
theorem IW_R {w g u f t o : Int32} (h : IW s N) (h20 : sC s 6 < 20) (hr : (o = -9 ∧ (∃ z, z < 4 ∧ g = nI z) ∧ ∃ z, z < 8 ∧ u = nI z) ∨ (∃ z, z < sC s 6 ∧ o = nI z ∧ sF s 95 z = -9 ∧ (∃ z, z < 8 ∧ g = nI (8 + z)) ∧ ∃ z, z < 4 ∧ u = nI z)) : IW (s_addR s w g u f t o) N := by
  obtain ⟨⟨a1, a2, a3, a4, a5, a6, a7, a8⟩, h2, h3, h4, h5, h6, h7, h9⟩ := h
  have c6 : sC (s_addR s w g u f t o) 6 = sC s 6 + 1 := rfl
  have fo : ∀ x, x < 90 ∨ 97 < x → sF (s_addR s w g u f t o) x = sF s x := fun x hx => s_addR_F _ _ _ _ _ _ x hx
  obtain ⟨n0, n1, n2, n3, n4, n5, n6, n7⟩ := s_addR_n (s := s) w g u f t o
  refine ⟨⟨a1, a2, a3, a4, a5, a6, by rw [c6]; omega, a8⟩, h2, ⟨?_, ?_, h3.2.2.1, ?_⟩, ⟨?_, ?_⟩, fun i hi => ?_, h6, ?_, ⟨?_, ?_⟩⟩
  · unfold ivs; rw [fo 110 (by decide)]; exact h3.1
  · unfold ivl; rw [fo 81 (by decide)]; exact h3.2.1
  · unfold ivm; rw [fo 82 (by decide), fo 83 (by decide), fo 84 (by decide), fo 85 (by decide)]; exact h3.2.2.2
  · unfold ivo; rw [fo 9 (by decide)]; exact h4.1
  · unfold ivd; rw [fo 24 (by decide), fo 25 (by decide)]; exact h4.2
  · rw [c6] at hi
    by_cases e : i = sC s 6
    · rw [e, n1, n2, n5, n7]
      refine ⟨?_, Or.inl rfl⟩
      rcases hr with q | ⟨z, q1, q2, q3, q4⟩
      · exact Or.inl q
      · exact Or.inr ⟨z, q1, q2, by rw [s_addR_o w g u f t o 95 (show z ≠ sC s 6 by omega)]; exact q3, q4⟩
    · rw [s_addR_o w g u f t o 91 e, s_addR_o w g u f t o 92 e, s_addR_o w g u f t o 95 e, s_addR_o w g u f t o 97 e]
      obtain ⟨q1, q2⟩ := h5 i (by omega)
      refine ⟨?_, q2⟩
      rcases q1 with q | ⟨z, q1, q2, q3, q4⟩
      · exact Or.inl q
      · exact Or.inr ⟨z, q1, q2, by rw [s_addR_o w g u f t o 95 (show z ≠ sC s 6 by omega)]; exact q3, q4⟩
  · unfold iv6; rw [fo 56 (by decide), fo 57 (by decide), fo 58 (by decide), fo 59 (by decide)]; exact h7
  · unfold ivK; rw [fo 75 (by decide), fo 78 (by decide)]; exact h9.1
  · unfold ivz; rw [fo 78 (by decide)]; exact h9.2
theorem s_tok0 : s_tok (0, 0, 0, 0, 0, 0) := ⟨⟨0, by decide, rfl, 0, by decide, rfl, fun _ => rfl, fun h => absurd h (by decide)⟩, 0, by decide, rfl⟩
theorem i_right (h : IV s) (v0 : sC s 0 < 512) (w k l i n : Int32) : IV (s_right s w k l i n).2 := by
  have v6 := h.1.2.2.2.2.2.2.1
  have h0 : IV (s_flt s 0) := IV_flt h 0
  unfold s_right
  refine fg_if_P (P := fun r : Int32 × sA => IV r.2) (fun c1 => fg_if_P (P := fun r : Int32 × sA => IV r.2) (fun c2 => fg_if_P (P := fun r : Int32 × sA => IV r.2) (fun c3 => fg_if_P (P := fun r : Int32 × sA => IV r.2) (fun _ => h0) (fun c4 => ?_)) (fun _ => h0)) (fun _ => i_br h _)) (fun _ => h0)
  obtain ⟨e2, l2⟩ := n_in (n := 4) c1.2
  obtain ⟨z, hz, ez, ei, en, hl⟩ := s_bf0 (IV_s h) l2 c2
  obtain ⟨⟨⟨a, a1, a2, _, _, _, _, a3⟩, u, u1, u2⟩, _, t3⟩ := s_rd_ok (fun j => sF s 112 (60 * h_ix k + h_ix i + j)) (h_ix n) 0 (0, 0, 0, 0, 0, 0) s_tok0
  have e4 := t3 (by omega) c3
  have ha : a = 4 := by
    rw [a2] at e4
    exact (n_eq (b := 4) (by omega) (by omega)).mp e4
  exact IV_act (S := s_addR (s_flt s 0) w _ _ _ _ (-9)) (IW_R (IW_1 h0 v0) (show sC s 6 < 20 by omega) (Or.inl ⟨rfl, a3 (by omega), u, u1, u2⟩))
theorem u_and3 : ∀ u : Fin 8, ∃ v : Fin 4, nI u &&& 3 = nI v := by decide
theorem u_bit2 : ∀ u : Fin 4, ¬ ((nI u >>> ((2 : Int32) &&& 31)) &&& 1) = 1 := by decide
theorem i_lend (h : IV s) (v0 : sC s 0 < 512) (r x o : Int32) : IV (s_lend s r x o).2 := by
  have v6 := h.1.2.2.2.2.2.2.1
  have v1 := h.1.2.1
  unfold s_lend
  refine fg_if_P (P := fun r : Int32 × sA => IV r.2) (fun c1 => fg_if_P (P := fun r : Int32 × sA => IV r.2) (fun _ => h) (fun _ => fg_if_P (P := fun r : Int32 × sA => IV r.2) (fun c3 => fg_if_P (P := fun r : Int32 × sA => IV r.2) (fun _ => h) (fun c4 => IV_act ?_)) (fun _ => h))) (fun _ => h)
  obtain ⟨er, lr⟩ := n_in c1.1
  obtain ⟨eo, lo⟩ := n_in c1.2.2
  refine IW_R (IW_1 h v0) (by omega) (Or.inr ⟨h_ix r, lr, er, ?_, ⟨h_ix o, by omega, ?_⟩, ?_⟩)
  · rcases (h.2.2.2.2.1 (h_ix r) lr).1 with q | ⟨z, _, _, _, _, u, u1, u2⟩
    · exact q.1
    · have b := c3.2.2.2
      unfold s_bit at b
      rw [u2] at b
      exact absurd b (u_bit2 ⟨u, u1⟩)
  · rw [eo, show (8 : Int32) = nI 8 from rfl, n_add, q_nIx (by omega)]
  · obtain ⟨u, u1, u2⟩ := IV_u h (h_ix r) lr
    obtain ⟨v, hv⟩ := u_and3 ⟨u, u1⟩
    exact ⟨v, v.2, by rw [u2]; exact hv⟩
theorem i_take (h : IV s) (v0 : sC s 0 < 512) (r : Int32) : IV (s_take s r).2 := by
  unfold s_take
  refine fg_if_P (P := fun r : Int32 × sA => IV r.2) (fun c1 => fg_if_P (P := fun r : Int32 × sA => IV r.2) (fun _ => IV_act ?_) (fun _ => h)) (fun _ => h)
  obtain ⟨h1, h2, h3, h4, h5, h6, h7, h9⟩ := IW_1 h v0
  have fo : ∀ g, g ≠ 97 → sF (uFf s 97 (s_tkF s (h_ix r) (sC s 0 + 1) (sC s 6))) g = sF s g := fun g hg => by funext j; rw [sF_uFf, if_neg hg]
  refine ⟨h1, h2, ⟨?_, ?_, h3.2.2.1, ?_⟩, ⟨?_, ?_⟩, fun i hi => ?_, h6, ?_, ⟨?_, ?_⟩⟩
  · unfold ivs; rw [fo 110 (by decide)]; exact h3.1
  · unfold ivl; rw [fo 81 (by decide)]; exact h3.2.1
  · unfold ivm; rw [fo 82 (by decide), fo 83 (by decide), fo 84 (by decide), fo 85 (by decide)]; exact h3.2.2.2
  · unfold ivo; rw [fo 9 (by decide)]; exact h4.1
  · unfold ivd; rw [fo 24 (by decide), fo 25 (by decide)]; exact h4.2
  · rw [fo 91 (by decide), fo 92 (by decide), fo 95 (by decide), sF_uFf, if_pos rfl]
    obtain ⟨q1, q2⟩ := h5 i hi
    refine ⟨q1, ?_⟩
    unfold s_tkF
    exact fg_if_P (P := fun z : Int32 => z = -9 ∨ ∃ y, y ≤ sC s 0 + 1 ∧ z = nI y) (fun _ => Or.inr ⟨sC s 0 + 1, Nat.le_refl _, rfl⟩) (fun _ => q2)
  · unfold iv6; rw [fo 56 (by decide), fo 57 (by decide), fo 58 (by decide), fo 59 (by decide)]; exact h7
  · unfold ivK; rw [fo 75 (by decide), fo 78 (by decide)]; exact h9.1
  · unfold ivz; rw [fo 78 (by decide)]; exact h9.2
theorem i_rule (h : IV s) (v0 : sC s 0 < 512) (p q : Int32) : IV (s_rule s p q).2 := by
  unfold s_rule
  refine fg_if_P (P := fun r : Int32 × sA => IV r.2) (fun c1 => IV_act ?_) (fun _ => h)
  obtain ⟨h1, h2, h3, h4, h5, h6, h7, h9⟩ := IW_1 h v0
  obtain ⟨ep, lp⟩ := n_in (n := 100) c1.1
  obtain ⟨eq, lq⟩ := n_in (n := 11) c1.2
  exact ⟨h1, h2, ⟨h3.1, h3.2.1, ⟨⟨h_ix p, by omega, ep⟩, ⟨h_ix q, by omega, eq⟩⟩, h3.2.2.2⟩, h4, h5, h6, h7, h9⟩
theorem s_dbt_rl (a o : Int32) : ∀ (l : List Int32) (z : sA × Nat × Int32), s_dbt s z.1 → s_dbt s (s_rl s a o l z).1 := by
  intro l
  induction l with
  | nil => intro z h; exact h
  | cons x l ih =>
    intro z h
    unfold s_rl
    refine ih _ ?_
    exact fg_if_P (P := fun r : sA × Nat × Int32 => s_dbt s r.1) (fun _ => fg_if_P (P := fun r : sA × Nat × Int32 => s_dbt s r.1) (fun _ => h) (fun _ => s_dbt_owe h _ _ _)) (fun _ => h)
theorem IW_dbt (h : IW s N) (d : s_dbt s S) : IW S N := by
  have ec : ∀ i, sC S i = sC s i := fun i => by unfold sC; rw [d.1]
  refine IW_fr h (fun i _ _ => ec i) (by rw [ec]; exact h.1.2.2.2.2.2.2.2.2) (fun f hf => d.2.2.2 f (fun e => by rw [e] at hf; exact absurd hf (by decide))) ⟨?_, ?_⟩ ?_ ?_ ?_
  · unfold sN; rw [d.2.1]
  · unfold sN; rw [d.2.1]
  · unfold sG; rw [d.2.2.1]
  · unfold sR; rw [d.2.2.1]
  · unfold sK; rw [d.2.2.1]
theorem i_read (h : IV s) (v0 : sC s 0 < 512) (a x : Int32) : IV (s_read s a x).2 := by
  unfold s_read
  refine fg_if_P (P := fun r : Int32 × sA => IV r.2) (fun c1 => fg_if_P (P := fun r : Int32 × sA => IV r.2) (fun _ => h) (fun _ => IV_act ?_)) (fun _ => h)
  have d : s_dbt s (s_rlo s a (h_ix x)).1 := by
    unfold s_rlo
    exact fg_if_P (P := fun r : sA × Nat × Int32 => s_dbt s r.1) (fun _ => s_dbt_rl _ _ _ _ s_dbt0) (fun _ => s_dbt0)
  have e0 : sC (s_rlo s a (h_ix x)).1 0 = sC s 0 := by unfold sC; rw [d.1]
  rw [e0]
  exact IW_dbt (IW_1 h v0) d
theorem i_pay (h : IV s) (v0 : sC s 0 < 512) (x y a : Int32) : IV (s_pay s x y a).2 := by
  unfold s_pay
  exact fg_if_P (P := fun r : Int32 × sA => IV r.2) (fun _ => fg_if_P (P := fun r : Int32 × sA => IV r.2) (fun _ => h) (fun _ => fg_if_P (P := fun r : Int32 × sA => IV r.2) (fun _ => h) (fun _ => IV_act (IW_F (IW_1 h v0) (by decide))))) (fun _ => h)
theorem i_seek (h : IV s) (a k l i n : Int32) : IV (s_seek s a k l i n).2 := by
  have h0 : IV (s_flt s 0) := IV_flt h 0
  unfold s_seek
  refine fg_if_P (P := fun r : Int32 × sA => IV r.2) (fun _ => fg_if_P (P := fun r : Int32 × sA => IV r.2) (fun _ => fg_if_P (P := fun r : Int32 × sA => IV r.2) (fun _ => h0) (fun _ => IV_flt ?_ 0)) (fun _ => i_br h _)) (fun _ => h0)
  generalize s_srt 25 (s_hv s a (h_ix k) (h_ix i) (h_ix n) (sC s 4) 0) = H
  show IW (s_kept s (H.take 200)) (sC s 0)
  refine IW_fr h (fun j h1 h7 => ?_) (List.length_take_le _ _) (fun f hf => ?_) ⟨rfl, rfl⟩ rfl rfl rfl
  · show (if j = 8 then _ else sC s j) = _
    rw [if_neg (by omega)]
  · have n6 : f ≠ 106 ∧ f ≠ 107 ∧ f ≠ 108 := by
      refine ⟨fun e => ?_, fun e => ?_, fun e => ?_⟩ <;> rw [e] at hf <;> exact absurd hf (by decide)
    funext i
    unfold s_kept
    rw [sF_uC, sF_uFf, if_neg n6.2.2, sF_uFf, if_neg n6.2.1, sF_uFf, if_neg n6.1]
/-- sheets -/
theorem IW_sh {k : Nat} {x : Int32} (h : IW s N) (hx : x = -1 ∨ ∃ z, z ≤ 60 ∧ x = nI z) : IW (uF s 110 k x) N := by
  obtain ⟨h1, h2, h3, h4, h5, h6, h7, h9⟩ := h
  have fo : ∀ g, g ≠ 110 → sF (uF s 110 k x) g = sF s g := fun g hg => by funext j; rw [sF_uF, if_neg hg]
  refine ⟨h1, h2, ⟨fun j hj => ?_, ?_, h3.2.2.1, ?_⟩, ⟨?_, ?_⟩, ?_, h6, ?_, ⟨?_, ?_⟩⟩
  · rw [sF_uF, if_pos rfl]
    by_cases e : j = k
    · rw [if_pos e]; exact hx
    · rw [if_neg e]; exact h3.1 j hj
  · unfold ivl; rw [fo 81 (by decide)]; exact h3.2.1
  · unfold ivm; rw [fo 82 (by decide), fo 83 (by decide), fo 84 (by decide), fo 85 (by decide)]; exact h3.2.2.2
  · unfold ivo; rw [fo 9 (by decide)]; exact h4.1
  · unfold ivd; rw [fo 24 (by decide), fo 25 (by decide)]; exact h4.2
  · unfold iR; rw [fo 91 (by decide), fo 92 (by decide), fo 95 (by decide), fo 97 (by decide)]; exact h5
  · unfold iv6; rw [fo 56 (by decide), fo 57 (by decide), fo 58 (by decide), fo 59 (by decide)]; exact h7
  · unfold ivK; rw [fo 75 (by decide), fo 78 (by decide)]; exact h9.1
  · unfold ivz; rw [fo 78 (by decide)]; exact h9.2
theorem i_sheet (h : IV s) (k l n : Int32) : IV (s_sheet s k l n).2 := by
  unfold s_sheet
  refine fg_if_P (P := fun r : Int32 × sA => IV r.2) (fun _ => fg_if_P (P := fun r : Int32 × sA => IV r.2) (fun c2 => fg_if_P (P := fun r : Int32 × sA => IV r.2) (fun _ => IV_flt h 4) (fun c3 => IV_flt ?_ 0)) (fun _ => IV_flt h 0)) (fun _ => IV_flt h 0)
  have e0 : (0 : Int32).toInt = 0 := rfl
  have e6 : (60 : Int32).toInt = 60 := rfl
  have c2' := c2.2
  rw [Int32.le_iff_toInt_le, e6] at c2'
  have c3' := Int32.not_lt.mp c3
  rw [Int32.le_iff_toInt_le, e0] at c3'
  have h1 : IW (uF s 110 (h_ix k) n) (sC s 0) := IW_sh h (Or.inr (q_nn c3' c2'))
  have h2 : IW (uF (uF s 110 (h_ix k) n) 111 (h_ix k) l) (sC s 0) := IW_F h1 (by decide)
  exact IW_Ff h2 (by decide)
theorem i_lose (h : IV s) (k : Int32) : IV (s_lose s k).2 := by
  unfold s_lose
  exact fg_if_P (P := fun r : Int32 × sA => IV r.2) (fun _ => IW_sh h (Or.inl rfl)) (fun _ => h)
theorem i_set (h : IV s) (k i v : Int32) : IV (s_set s k i v).2 := by
  unfold s_set
  exact fg_if_P (P := fun r : Int32 × sA => IV r.2) (fun _ => fg_if_P (P := fun r : Int32 × sA => IV r.2) (fun _ => IV_flt h 1) (fun _ => fg_if_P (P := fun r : Int32 × sA => IV r.2) (fun _ => IV_flt (s := uF s 112 _ _) (IW_F h (by decide)) 0) (fun _ => IV_flt h 3))) (fun _ => IV_flt h 0)
theorem i_cell (h : IV s) (k i l : Int32) : IV (s_cell s k i l).2 := by
  unfold s_cell
  exact fg_if_P (P := fun r : Int64 × sA => IV r.2) (fun _ => fg_if_P (P := fun r : Int64 × sA => IV r.2) (fun _ => IV_flt h 1) (fun _ => fg_if_P (P := fun r : Int64 × sA => IV r.2) (fun _ => fg_if_P (P := fun r : Int64 × sA => IV r.2) (fun _ => IV_flt h 0) (fun _ => IV_flt h 3)) (fun _ => IV_flt h 2))) (fun _ => IV_flt h 0)
theorem i_copy (h : IV s) (k i o j n : Int32) : IV (s_copy s k i o j n).2 := by
  unfold s_copy
  exact fg_if_P (P := fun r : Int32 × sA => IV r.2) (fun _ => fg_if_P (P := fun r : Int32 × sA => IV r.2) (fun _ => IV_flt h 1) (fun _ => fg_if_P (P := fun r : Int32 × sA => IV r.2) (fun _ => fg_if_P (P := fun r : Int32 × sA => IV r.2) (fun _ => IV_flt (s := uFf s 112 _) (IW_Ff h (by decide)) 0) (fun _ => IV_flt h 3)) (fun _ => IV_flt h 2))) (fun _ => IV_flt h 0)
theorem i_tell (h : IV s) (l : Int32) : IV (s_tell s l).2 := by
  unfold s_tell
  exact fg_if_P (P := fun r : Int32 × sA => IV r.2) (fun _ => fg_if_P (P := fun r : Int32 × sA => IV r.2) (fun _ => IV_tr h 1) (fun _ => fg_if_P (P := fun r : Int32 × sA => IV r.2) (fun _ => IV_tr (IV_tr h 2) 1) (fun _ => fg_if_P (P := fun r : Int32 × sA => IV r.2) (fun _ => IV_tr (IV_tr (IV_tr (IV_tr h 3) 2) 1) 1) (fun _ => fg_if_P (P := fun r : Int32 × sA => IV r.2) (fun _ => IV_tr (IV_tr h 4) 1) (fun _ => IV_tr (IV_tr (IV_tr (IV_tr h 5) 4) 1) 1))))) (fun _ => h)
theorem i_name (h : IV s) (l : Int32) : IV (s_name s l).2 := by
  unfold s_name
  exact fg_if_P (P := fun r : Int32 × sA => IV r.2) (fun _ => fg_if_P (P := fun r : Int32 × sA => IV r.2) (fun _ => IV_tr h 7) (fun _ => IV_tr h 6)) (fun _ => h)
theorem i_as (h : IV s) (l d : Int32) : IV (s_as s l d).2 := by
  unfold s_as
  exact fg_if_P (P := fun r : Int32 × sA => IV r.2) (fun _ => fg_if_P (P := fun r : Int32 × sA => IV r.2) (fun _ => fg_if_P (P := fun r : Int32 × sA => IV r.2) (fun _ => IV_flt h 0) (fun _ => IV_flt h 2)) (fun _ => IV_flt h 0)) (fun _ => IV_flt h 0)
theorem i_prove (h : IV s) (x a c p m k l i : Int32) : IV (s_prove s x a c p m k l i).2 := by
  unfold s_prove
  exact fg_if_P (P := fun r : Int32 × sA => IV r.2) (fun _ => fg_if_P (P := fun r : Int32 × sA => IV r.2) (fun _ => IV_flt h 0) (fun _ => i_br h _)) (fun _ => IV_flt h 0)
theorem i_owes (h : IV s) (x y : Int32) : IV (s_owes s x y).2 := by
  unfold s_owes
  exact fg_if_P (P := fun r : Int32 × sA => IV r.2) (fun _ => h) (fun _ => h)
end IVb
