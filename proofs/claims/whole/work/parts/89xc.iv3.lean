/-! THE BOUNDS STAY: put, join -/
section IVc
variable {s s2 S : sA} {N : Nat}
theorem s_w1_25 (c : Int32) (w : Nat) : sF (s_w1 S c w) 25 (sC S 3) = nI w := by
  unfold s_w1
  rw [sF_uC]
  simp [sF_uF]
theorem IW_w1 {w : Nat} {c : Int32} (h : IW S N) (hw : w < sC S 2) (h5 : sC S 3 < 500) : IW (s_w1 S c w) N := by
  obtain ⟨⟨a1, a2, a3, a4, a5⟩, h2, h3, h4, hr, h6, h7, h9⟩ := h
  have c3 : sC (s_w1 S c w) 3 = sC S 3 + 1 := rfl
  have fo : ∀ f, f < 23 ∨ 27 < f → sF (s_w1 S c w) f = sF S f := fun f hf => s_w1_F c w f hf
  refine ⟨⟨a1, a2, a3, by rw [c3]; omega, a5⟩, h2, ⟨?_, ?_, h3.2.2.1, ?_⟩, ⟨?_, fun x hx => ?_⟩, ?_, ⟨fun w m => ⟨(h6.1 w m).1, fun p hp => ⟨s_pk_m ((h6.1 w m).2 p hp).1 (Nat.le_refl _) (by rw [c3]; omega), ((h6.1 w m).2 p hp).2⟩⟩, h6.2⟩, ?_, ⟨?_, ?_⟩⟩
  · unfold ivs; rw [fo 110 (by decide)]; exact h3.1
  · unfold ivl; rw [fo 81 (by decide)]; exact h3.2.1
  · unfold ivm; rw [fo 82 (by decide), fo 83 (by decide), fo 84 (by decide), fo 85 (by decide)]; exact h3.2.2.2
  · unfold ivo; rw [fo 9 (by decide)]; exact h4.1
  · rw [c3] at hx
    by_cases e : x = sC S 3
    · rw [e, s_w1_24, s_w1_25]
      exact ⟨⟨w, hw, rfl⟩, h4.1 w hw⟩
    · rw [s_w1_o c w 24 e, s_w1_o c w 25 e]
      exact h4.2 x (by omega)
  · unfold iR; rw [fo 91 (by decide), fo 92 (by decide), fo 95 (by decide), fo 97 (by decide)]; exact hr
  · unfold iv6; rw [fo 56 (by decide), fo 57 (by decide), fo 58 (by decide), fo 59 (by decide)]; exact h7
  · unfold ivK; rw [fo 75 (by decide), fo 78 (by decide)]; exact h9.1
  · unfold ivz; rw [fo 78 (by decide)]; exact h9.2
theorem IW_wl {C : Nat → Int32} {w : Nat} : ∀ (d j : Nat) (S : sA), IW S N → w < sC S 2 → sC S 3 + d ≤ 500 → IW (s_wl C w d j S) N := by
  intro d
  induction d with
  | zero => intro j S h _ _; exact h
  | succ d ih =>
    intro j S h hw h5
    exact ih (j + 1) _ (IW_w1 h hw (by omega)) hw (by show sC S 3 + 1 + d ≤ 500; omega)
theorem s_wl_C {C : Nat → Int32} {w i : Nat} (hi : i ≠ 3) : ∀ (d j : Nat) (S : sA), sC (s_wl C w d j S) i = sC S i := by
  intro d
  induction d with
  | zero => intro j S; rfl
  | succ d ih =>
    intro j S
    show sC (s_wl C w d (j + 1) (s_w1 S (C j) w)) i = _
    rw [ih, s_w1_C, if_neg hi]
theorem i_put (h : IV s) (v0 : sC s 0 < 512) (w a k l i n : Int32) : IV (s_put s w a k l i n).2 := by
  have h0 : IV (s_flt s 0) := IV_flt h 0
  unfold s_put
  refine fg_if_P (P := fun r : Int32 × sA => IV r.2) (fun c1 => fg_if_P (P := fun r : Int32 × sA => IV r.2) (fun c2 => fg_if_P (P := fun r : Int32 × sA => IV r.2) (fun _ => h0) (fun c3 => fg_if_P (P := fun r : Int32 × sA => IV r.2) (fun c4 => IV_flt (IV_act ?_) 0) (fun _ => h0))) (fun _ => i_br h _)) (fun _ => h0)
  obtain ⟨e1, l1⟩ := n_in c1.1.1
  obtain ⟨_, l2⟩ := n_in (n := 4) c1.2
  obtain ⟨z, hz, ez, ei, en, hl⟩ := s_bf0 (IV_s h) l2 c2
  have hn : 1 ≤ h_ix n := by
    rcases Nat.eq_zero_or_pos (h_ix n) with q | q
    · exact absurd (Or.inl (by rw [en, q]; rfl)) c3
    · exact q
  obtain ⟨W, hW⟩ : ∃ W, W = s_wl (s_cl s (h_ix k) (h_ix i)) (h_ix w) (h_ix n) 0 s := ⟨_, rfl⟩
  have w0 : sC W 0 = sC s 0 := by rw [hW]; exact s_wl_C (by decide) _ _ _
  have w2 : sC W 2 = sC s 2 := by rw [hW]; exact s_wl_C (by decide) _ _ _
  have w3 : sC W 3 = sC s 3 + h_ix n := by rw [hW]; exact s_wl_C3 _ _ _ _ _
  have hI : IW W (sC s 0 + 1) := by rw [hW]; exact IW_wl _ _ _ (IW_1 h v0) l1 c4.1
  have eS : s_wl (s_cl s (h_ix k) (h_ix i)) (h_ix w) (h_ix n) 0 (s_new s w (s_brg s w (h_ix a) (0, nI (sC s 3), n, -9, -9))) = s_new W w (s_brg s w (h_ix a) (0, nI (sC s 3), n, -9, -9)) := by
    unfold s_new
    rw [← s_wl_R, ← hW, w0]
  rw [eS]
  show IW (s_new W w _) (sC W 0 + 1)
  rw [← w0] at hI
  refine IW_new hI (by rw [w2]; exact l1) c4.2 (fun p hp => ?_)
  obtain ⟨d1, d2⟩ := e_oa_pn (m := sC s 0) (IV_c h) (s_row_pn (IV_x h) (IV_q h) (h_ix w)) (h_ix a) 0
  have up : s_pn s (sC s 0) p → s_pn W (sC W 0) p := fun q => ⟨s_pk_m q.1 (by rw [w2]; exact Nat.le_refl _) (by rw [w3]; omega), by rw [w0]; exact q.2⟩
  rcases List.mem_append.mp (show p ∈ (e_oa (e_z s (sC s 0)) (h_ix a) 0 (s_row s w)).1 ++ (0, nI (sC s 3), n, -9, -9) :: (e_oa (e_z s (sC s 0)) (h_ix a) 0 (s_row s w)).2 from hp) with q | q
  · exact up (d1 p q)
  · rcases List.mem_cons.mp q with q | q
    · rw [q]
      have v3 := h.1.2.2.2.1
      refine pn_words (Or.inl rfl) hI.1.2.2.2.1 ⟨?_, ?_, ?_⟩
      · rw [q_nI (by omega)]; omega
      · rw [en, q_nI (by omega)]; omega
      · rw [q_nI (by omega), en, q_nI (by omega), w3]; omega
    · exact up (d2 p q)
/-! join -/
theorem IW_C1 {u : Nat} {x : List Int32 × List Int32} (h : IW S N) (hu : u < sC S 2) (h12 : sC S 7 < 12) (hx : 1 ≤ x.1.length ∧ 1 ≤ x.2.length ∧ x.1.length ≤ 300 ∧ x.2.length ≤ 300) : IW (uC (uK (uF S 75 (sC S 7) (nI u)) (sC S 7) x) 7 (sC S 7 + 1)) N := by
  obtain ⟨⟨a1, a2, a3, a4, a5, a6, a7, a8, a9⟩, h2, h3, h4, hr, h6, h7, h9⟩ := h
  obtain ⟨W, hW⟩ : ∃ W, W = uC (uK (uF S 75 (sC S 7) (nI u)) (sC S 7) x) 7 (sC S 7 + 1) := ⟨_, rfl⟩
  have cc : ∀ i, i ≠ 7 → sC W i = sC S i := fun i hi => by rw [hW, sC_uC, if_neg hi]; rfl
  have c7 : sC W 7 = sC S 7 + 1 := by rw [hW, sC_uC, if_pos rfl]
  have fo : ∀ f, f ≠ 75 → sF W f = sF S f := fun f hf => by funext i; rw [hW, sF_uC, sF_uK, sF_uF, if_neg hf]
  have f75 : ∀ i, sF W 75 i = if i = sC S 7 then nI u else sF S 75 i := fun i => by rw [hW, sF_uC, sF_uK, sF_uF, if_pos rfl]
  have fK : ∀ i, sK W i = if i = sC S 7 then x else sK S i := fun i => by rw [hW]; rfl
  have fG : sG W = sG S := by rw [hW]; rfl
  have fR : sR W = sR S := by rw [hW]; rfl
  have fN : ∀ i, sN W i = sN S i := fun i => by rw [hW]; rfl
  rw [← hW]
  refine ⟨⟨a1, by rw [cc 1 (by decide)]; exact a2, by rw [cc 2 (by decide)]; exact a3, by rw [cc 3 (by decide)]; exact a4, by rw [cc 4 (by decide)]; exact a5, by rw [cc 5 (by decide)]; exact a6, by rw [cc 6 (by decide)]; exact a7, by rw [c7]; omega, by rw [cc 8 (by decide)]; exact a9⟩, ?_, ⟨?_, ?_, ?_, ?_⟩, ⟨?_, ?_⟩, ?_, ⟨?_, ?_⟩, ?_, ⟨fun i hi => ?_, fun i hi => ?_⟩⟩
  · unfold iv2; rw [fG, fR]; exact h2
  · unfold ivs; rw [fo 110 (by decide)]; exact h3.1
  · unfold ivl; rw [fo 81 (by decide), cc 5 (by decide)]; exact h3.2.1
  · unfold ivn; rw [fN, fN]; exact h3.2.2.1
  · unfold ivm; rw [cc 5 (by decide), fo 82 (by decide), fo 83 (by decide), fo 84 (by decide), fo 85 (by decide)]; exact h3.2.2.2
  · unfold ivo; rw [cc 1 (by decide), cc 2 (by decide), fo 9 (by decide)]; exact h4.1
  · unfold ivd; rw [cc 1 (by decide), cc 2 (by decide), cc 3 (by decide), fo 24 (by decide), fo 25 (by decide)]; exact h4.2
  · unfold iR; rw [cc 6 (by decide), fo 91 (by decide), fo 92 (by decide), fo 95 (by decide), fo 97 (by decide)]; exact hr
  · unfold s_pk; rw [fR, cc 2 (by decide), cc 3 (by decide)]; exact h6.1
  · unfold ivw; rw [fR, cc 2 (by decide)]; exact h6.2
  · unfold iv6; rw [cc 2 (by decide), cc 4 (by decide), fo 56 (by decide), fo 57 (by decide), fo 58 (by decide), fo 59 (by decide)]; exact h7
  · rw [c7] at hi
    rw [f75, fK, fo 78 (by decide), cc 2 (by decide)]
    by_cases e : i = sC S 7
    · rw [if_pos e, if_pos e]
      exact ⟨⟨u, hu, rfl⟩, hx.1, hx.2.1, hx.2.2.1, hx.2.2.2, Or.inl (h9.2 i (by omega))⟩
    · rw [if_neg e, if_neg e]
      exact h9.1 i (by omega)
  · rw [c7] at hi
    rw [fo 78 (by decide)]
    exact h9.2 i (by omega)
theorem IW_addC {u : Nat} : ∀ (L : List (List Int32 × List Int32)) (S : sA), IW S N → u < sC S 2 → sC S 7 + L.length ≤ 12 → (∀ x, x ∈ L → 1 ≤ x.1.length ∧ 1 ≤ x.2.length ∧ x.1.length ≤ 300 ∧ x.2.length ≤ 300) → IW (s_addC S (nI u) L) N := by
  intro L
  induction L with
  | nil => intro S h _ _ _; exact h
  | cons x L ih =>
    intro S h hu h12 hx
    rw [List.length_cons] at h12
    exact ih _ (IW_C1 h hu (by omega) (hx x List.mem_cons_self)) hu (by rw [sC_uC, if_pos rfl]; omega) (fun y hy => hx y (List.mem_cons_of_mem _ hy))
theorem rr_pn {W : Nat} (hW : W ≤ 500) : ∀ (l : List Int32) (z n : Nat), 1 ≤ n → z + n ≤ W → (∀ y, y ∈ l → ∃ v, v < W ∧ y = nI v) → ∀ q, q ∈ s_rr (nI z) n (nI (z + n - 1)) l → ∃ v m, 1 ≤ m ∧ v + m ≤ W ∧ q = (1, nI v, nI m, -9, -9) := by
  intro l
  induction l with
  | nil =>
    intro z n h1 h2 _ q hq
    rw [List.mem_singleton.mp hq]
    exact ⟨z, n, h1, h2, rfl⟩
  | cons y l ih =>
    intro z n h1 h2 hl q hq
    obtain ⟨v, hv, ev⟩ := hl y List.mem_cons_self
    have hl2 : ∀ y, y ∈ l → ∃ v, v < W ∧ y = nI v := fun y hy => hl y (List.mem_cons_of_mem _ hy)
    unfold s_rr at hq
    by_cases c : y = nI (z + n - 1) + 1
    · rw [if_pos c] at hq
      rw [n_p1, show z + n - 1 + 1 = z + n by omega] at c
      have e : v = z + n := by
        rw [ev] at c
        exact (n_eq (by omega) (by omega)).mp c
      rw [c] at hq
      have := ih z (n + 1) (by omega) (by omega) hl2 q (by rw [show z + (n + 1) - 1 = z + n by omega]; exact hq)
      exact this
    · rw [if_neg c] at hq
      rcases List.mem_cons.mp hq with w | w
      · rw [w]; exact ⟨z, n, h1, h2, rfl⟩
      · rw [ev] at w
        exact ih v 1 (Nat.le_refl _) (by omega) hl2 q (by rw [show v + 1 - 1 = v by omega]; exact w)
theorem runs_pn {W : Nat} (hW : W ≤ 500) {J : List Int32} (hJ : ∀ y, y ∈ J → ∃ v, v < W ∧ y = nI v) : ∀ q, q ∈ s_runs J → ∃ v m, 1 ≤ m ∧ v + m ≤ W ∧ q = (1, nI v, nI m, -9, -9) := by
  cases J with
  | nil => intro q hq; cases hq
  | cons x l =>
    obtain ⟨v, hv, ev⟩ := hJ x List.mem_cons_self
    intro q hq
    have hq : q ∈ s_rr x 1 x l := hq
    rw [ev] at hq
    exact rr_pn hW l v 1 (Nat.le_refl _) (by omega) (fun y hy => hJ y (List.mem_cons_of_mem _ hy)) q (by rw [show v + 1 - 1 = v by omega]; exact hq)
theorem w_sg_mem {R : List Int32} {f t : Nat} {x : Int32} (h : x ∈ w_sg R f t) : x ∈ R := List.mem_of_mem_drop (List.mem_of_mem_take h)
theorem j_one_mem {P Q : List Int32} {x : Int32} (h : x ∈ (j_one P Q).1) : x ∈ P ∨ x ∈ Q := by
  unfold j_one at h
  by_cases c1 : P = []
  · rw [fg_if_1 c1] at h; exact Or.inr h
  · rw [fg_if_0 c1] at h
    by_cases c2 : Q = [] ∨ s_lx P Q = 0
    · rw [fg_if_1 c2] at h; exact Or.inl h
    · rw [fg_if_0 c2] at h
      by_cases c3 : s_lx P Q = 1
      · rw [fg_if_1 c3] at h; exact List.mem_append.mp h
      · rw [fg_if_0 c3] at h; exact (List.mem_append.mp h).symm
theorem j_row_mem {C A B : List Int32} {x : Int32} : ∀ d i, x ∈ j_row C A B d i → x ∈ C ∨ x ∈ A ∨ x ∈ B := by
  intro d
  induction d with
  | zero => intro i h; cases h
  | succ d ih =>
    intro i h
    unfold j_row at h
    rcases List.mem_append.mp h with w | w
    · rcases j_one_mem w with q | q
      · exact Or.inr (Or.inl (w_sg_mem q))
      · exact Or.inr (Or.inr (w_sg_mem q))
    · rcases List.mem_append.mp w with q | q
      · unfold j_b at q
        by_cases c : w_kp C A i ∧ w_kp C B i
        · rw [fg_if_1 c] at q
          rw [List.mem_singleton.mp q]
          exact Or.inl (List.mem_of_getElem? (w_c_in c.1.1))
        · rw [fg_if_0 c] at q; cases q
      · exact ih (i + 1) q
theorem s_jC_w (vx : ivx s) {c x : Int32} (h : x ∈ s_jC s c) : ∃ z, z < sC s 3 ∧ x = nI z := by
  unfold s_jC s_kp at h
  rw [if_pos rfl] at h
  obtain ⟨m1, m2⟩ := List.mem_filter.mp h
  rcases s_vs_w vx m1 with e | e
  · rw [e] at m2; exact absurd m2 (by decide)
  · exact e
theorem i_join (h : IV s) (v0 : sC s 0 < 512) (a b c : Int32) : IV (s_join s a b c).2 := by
  have v2 := h.1.2.2.1
  have v3 := h.1.2.2.2.1
  unfold s_join
  refine fg_if_P (P := fun r : Int32 × sA => IV r.2) (fun c1 => fg_if_P (P := fun r : Int32 × sA => IV r.2) (fun _ => h) (fun c2 => IV_act ?_)) (fun _ => h)
  obtain ⟨e1, l1⟩ := n_in c1.1
  obtain ⟨⟨w, m, hw, hm, y1, _⟩, _⟩ := IV_v h (h_ix a) l1
  have ho : ∃ z, z < sC s 1 ∧ sF s 9 (h_ix (sF s 56 (h_ix a))) = nI z := by
    rw [y1, q_nIx (by omega)]
    exact IV_o h w hw
  generalize sF s 9 (h_ix (sF s 56 (h_ix a))) = own at ho
  have c12 : sC s 2 < 12 := by omega
  have hb : IW (s_beg s own) (sC s 0 + 1) := IW_beg (IW_1 h v0) c12 ho
  have ecl : ∀ x, x ∈ s_jcl s a b c → 1 ≤ x.1.length ∧ 1 ≤ x.2.length ∧ x.1.length ≤ 300 ∧ x.2.length ≤ 300 := fun x hx => by
    obtain ⟨q1, q2, q3, q4⟩ := j_cl_ok _ _ x hx
    have l1 := s_jC_l (s := s) a
    have l2 := s_jC_l (s := s) b
    exact ⟨q1, q2, by omega, by omega⟩
  have hn : IW (s_new (s_beg s own) (nI (sC s 2)) (s_runs (s_jrow s a b c))) (sC s 0 + 1) := by
    refine IW_new (s := s_beg s own) hb (by rw [q_nIx (by omega)]; show sC s 2 < sC s 2 + 1; omega) (by omega) (fun p hp => ?_)
    obtain ⟨v, m, q1, q2, q3⟩ := runs_pn v3 (fun y hy => by
      rcases j_row_mem _ _ hy with q | q | q
      · exact s_jC_w (IV_x h) q
      · exact s_jC_w (IV_x h) q
      · exact s_jC_w (IV_x h) q) p hp
    rw [q3]
    refine pn_words (s := s_beg s own) (Or.inr rfl) v3 ⟨?_, ?_, ?_⟩
    · rw [q_nI (by omega)]; omega
    · rw [q_nI (by omega)]; omega
    · rw [q_nI (by omega), q_nI (by omega)]; show (v : Int) + m ≤ (sC s 3 : Nat); omega
  have e0 : sC (s_addC (s_new (s_beg s own) (nI (sC s 2)) (s_runs (s_jrow s a b c))) (nI (sC s 2)) (s_jcl s a b c)) 0 = sC s 0 := by
    rw [s_addC_C, if_neg (by decide)]; rfl
  rw [e0]
  exact IW_addC _ _ hn (show sC s 2 < sC s 2 + 1 by omega) (show sC s 7 + _ ≤ 12 by omega) ecl
end IVc
