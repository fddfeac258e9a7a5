section CQu
variable {k k2 : h_S} {s : sA} {y : c_Y} {M : Nat}
theorem ci_livesOf_4 (h : CBM k s M y) (v : ivc s) (vt : ivt s) (vp : ivp s) (vx : ivx s) {w : Nat} (hw : w < sC s 2) : ∀ (d j N : Nat) (X : Int32) (Q : Nat → Prop), j + d = (sR s w (sC s 0)).length → d < N → b_set X Q → ∃ X2, fn_X7_livesOf_4 N (nI w) X (nI j) k = some (X2, k) ∧ b_set X2 (fun u => Q u ∨ ∃ p, p ∈ (sR s w (sC s 0)).drop j ∧ s_pe s 1 p u) := by
  have v2 := v.2.2.1
  have hl := (vp w (sC s 0)).1
  obtain ⟨a, b, g1, g2, g3, g4⟩ := CB_head h v vt hw
  have i1 : vp_in (nI w) 12 := (n_vp (by omega)).mpr (by omega)
  intro d
  induction d with
  | zero =>
    intro j N X Q hj hN hX
    obtain ⟨N, rfl⟩ : ∃ m, N = m + 1 := ⟨N - 1, by omega⟩
    refine ⟨X, ?_, b_set_c hX (fun u _ => ⟨fun q => Or.inl q, fun q => q.elim id (fun ⟨p, hp, _⟩ => by rw [List.drop_eq_nil_of_le (by omega)] at hp; cases hp)⟩)⟩
    show fn_X7_livesOf_4b _ _ _ _ _ = _
    unfold fn_X7_livesOf_4b
    rw [ci_pieceCount h v vt hw, fg_b_1, fg_if_1 ((n_le (by omega) (by omega)).mpr (by omega))]
  | succ d ih =>
    intro j N X Q hj hN hX
    obtain ⟨N, rfl⟩ : ∃ m, N = m + 1 := ⟨N - 1, by omega⟩
    have hj2 : j < (sR s w (sC s 0)).length := by omega
    have hp1 : s_pk s (sR s w (sC s 0))[j] := vx _ _ _ (List.getElem_mem hj2)
    obtain ⟨c, p1, p2⟩ := g4.2.2.2 j _ (List.getElem?_eq_getElem hj2)
    have hdr := List.drop_eq_getElem_cons hj2
    generalize (sR s w (sC s 0))[j] = p at hp1 p2 hdr
    have i2 : vp_in (nI j) (h_n k b) := (n_vp (by omega)).mpr (by rw [g4.2.2.1]; exact hj2)
    show ∃ X2, fn_X7_livesOf_4b (fn_X7_livesOf_4 N) _ _ _ _ = _ ∧ _
    unfold fn_X7_livesOf_4b
    rw [ci_pieceCount h v vt hw, fg_b_1, fg_if_0 (fun q => by have := (n_le (a := (sR s w (sC s 0)).length) (b := j) (by omega) (by omega)).mp q; omega)]
    simp only [fg_g_1 i1, q_nIx (show w < 2 ^ 31 by omega), g1, fg_o_1, fg_g_1 g2, g3, fg_g_1 g4.2.1, fg_g_1 i2, q_nIx (show j < 2 ^ 31 by omega), p1, fg_g_1 p2.2.1, p2.2.2.1, p2.2.2.2.2.2.1, fg_let_1, n_p1]
    by_cases c3 : p.1 = 3
    · obtain ⟨u0, u1, u2⟩ := hp1.1.2.2.2.1 (by rw [c3]; decide)
      obtain ⟨X2, f1, f2⟩ := ih (j + 1) N (X ||| (1 <<< (nI u0 &&& 31))) _ (by omega) (by omega) (b_set_or hX (show u0 < 32 by omega))
      rw [fg_if_1 c3, u2]
      refine ⟨X2, f1, b_set_c f2 (fun u hu => ?_)⟩
      rw [hdr]
      constructor
      · rintro ((q | q) | ⟨p3, q1, q2⟩)
        · exact Or.inl q
        · exact Or.inr ⟨p, List.mem_cons_self, Or.inr ⟨Or.inl c3, by rw [u2, q]⟩⟩
        · exact Or.inr ⟨p3, List.mem_cons_of_mem _ q1, q2⟩
      · rintro (q | ⟨p3, q1, q2⟩)
        · exact Or.inl (Or.inl q)
        · rcases List.mem_cons.mp q1 with z | z
          · rw [z] at q2
            rcases q2 with ⟨q3, _⟩ | ⟨_, q3⟩
            · exact absurd q3 (by decide)
            · rw [u2] at q3
              exact Or.inl (Or.inr ((n_eq (by omega) (by omega)).mp q3).symm)
          · exact Or.inr ⟨p3, z, q2⟩
    · obtain ⟨X2, f1, f2⟩ := ih (j + 1) N X Q (by omega) (by omega) hX
      rw [fg_if_0 c3]
      refine ⟨X2, f1, b_set_c f2 (fun u hu => ?_)⟩
      rw [hdr]
      constructor
      · rintro (q | ⟨p3, q1, q2⟩)
        · exact Or.inl q
        · exact Or.inr ⟨p3, List.mem_cons_of_mem _ q1, q2⟩
      · rintro (q | ⟨p3, q1, q2⟩)
        · exact Or.inl q
        · rcases List.mem_cons.mp q1 with z | z
          · rw [z] at q2
            rcases q2 with ⟨q3, _⟩ | ⟨q3 | ⟨q3, _⟩, _⟩
            · exact absurd q3 (by decide)
            · exact absurd q3 c3
            · exact absurd q3 (by decide)
          · exact Or.inr ⟨p3, z, q2⟩
theorem ci_quotedBy_4 (h : CBM k s M y) (v : ivc s) (vt : ivt s) (vp : ivp s) (vx : ivx s) (vd : ivd s) {w : Nat} (hw : w < sC s 2) : ∀ (d j N : Nat) (X : Int32) (Q : Nat → Prop), j + d = (sR s w (sC s 0)).length → d < N → b_set X Q → ∃ X2, fn_X7_quotedBy_4 N (nI w) X (nI j) k = some (X2, k) ∧ b_set X2 (fun u => Q u ∨ ∃ p, p ∈ (sR s w (sC s 0)).drop j ∧ s_pe s 0 p u) := by
  have v2 := v.2.2.1
  have v3 := v.2.2.2.1
  have hl := (vp w (sC s 0)).1
  obtain ⟨a, b, g1, g2, g3, g4⟩ := CB_head h v vt hw
  have i1 : vp_in (nI w) 12 := (n_vp (by omega)).mpr (by omega)
  intro d
  induction d with
  | zero =>
    intro j N X Q hj hN hX
    obtain ⟨N, rfl⟩ : ∃ m, N = m + 1 := ⟨N - 1, by omega⟩
    refine ⟨X, ?_, b_set_c hX (fun u _ => ⟨fun q => Or.inl q, fun q => q.elim id (fun ⟨p, hp, _⟩ => by rw [List.drop_eq_nil_of_le (by omega)] at hp; cases hp)⟩)⟩
    show fn_X7_quotedBy_4b _ _ _ _ _ = _
    unfold fn_X7_quotedBy_4b
    rw [ci_pieceCount h v vt hw, fg_b_1, fg_if_1 ((n_le (by omega) (by omega)).mpr (by omega))]
  | succ d ih =>
    intro j N X Q hj hN hX
    obtain ⟨N, rfl⟩ : ∃ m, N = m + 1 := ⟨N - 1, by omega⟩
    have hj2 : j < (sR s w (sC s 0)).length := by omega
    have hp1 : s_pk s (sR s w (sC s 0))[j] := vx _ _ _ (List.getElem_mem hj2)
    obtain ⟨c, p1, p2⟩ := g4.2.2.2 j _ (List.getElem?_eq_getElem hj2)
    have hdr := List.drop_eq_getElem_cons hj2
    generalize (sR s w (sC s 0))[j] = p at hp1 p2 hdr
    have i2 : vp_in (nI j) (h_n k b) := (n_vp (by omega)).mpr (by rw [g4.2.2.1]; exact hj2)
    have ehw := ci_hasWords p2 hp1.1
    -- what the piece p leads to, of a set Z that has been laid besides
    have fin : ∀ (X3 : Int32) (Z : Nat → Prop), b_set X3 (fun u => Q u ∨ Z u) → (∀ u, u < 32 → (Z u ↔ s_pe s 0 p u)) → ∃ X2, fn_X7_quotedBy_4 N (nI w) X3 (nI (j + 1)) k = some (X2, k) ∧ b_set X2 (fun u => Q u ∨ ∃ p, p ∈ (sR s w (sC s 0)).drop j ∧ s_pe s 0 p u) := by
      intro X3 Z hX3 hZ
      obtain ⟨X2, f1, f2⟩ := ih (j + 1) N X3 _ (by omega) (by omega) hX3
      refine ⟨X2, f1, b_set_c f2 (fun u hu => ?_)⟩
      rw [hdr, hZ u hu]
      constructor
      · rintro ((q | q) | ⟨p3, q1, q2⟩)
        · exact Or.inl q
        · exact Or.inr ⟨p, List.mem_cons_self, q⟩
        · exact Or.inr ⟨p3, List.mem_cons_of_mem _ q1, q2⟩
      · rintro (q | ⟨p3, q1, q2⟩)
        · exact Or.inl (Or.inl q)
        · rcases List.mem_cons.mp q1 with z | z
          · rw [z] at q2; exact Or.inl (Or.inr q2)
          · exact Or.inr ⟨p3, z, q2⟩
    show ∃ X2, fn_X7_quotedBy_4b (fn_X7_quotedBy_4 N) _ _ _ _ = _ ∧ _
    unfold fn_X7_quotedBy_4b
    rw [ci_pieceCount h v vt hw, fg_b_1, fg_if_0 (fun q => by have := (n_le (a := (sR s w (sC s 0)).length) (b := j) (by omega) (by omega)).mp q; omega)]
    simp only [fg_g_1 i1, q_nIx (show w < 2 ^ 31 by omega), g1, fg_o_1, fg_g_1 g2, g3, fg_g_1 g4.2.1, fg_g_1 i2, q_nIx (show j < 2 ^ 31 by omega), p1, fg_g_1 p2.2.1, p2.2.2.1, p2.2.2.2.1, p2.2.2.2.2.1, p2.2.2.2.2.2.1, fg_let_1, n_p1, ehw, fg_b_1, q_b_if]
    obtain ⟨⟨⟨d0, d1, d2⟩, ⟨n, n1, n2, n3⟩, ⟨f, a1, a2⟩, hw2, _⟩, hk⟩ := hp1
    by_cases c3 : p.1 = 1
    · have hk := hk (by rw [c3]; decide)
      rw [n3, a2, q_nIx (by omega), q_nIx (by omega)] at hk
      obtain ⟨X3, m1, m2⟩ := ci_homesOf h v vd hk
      rw [fg_if_1 c3, n3, a2, m1, fg_b_1]
      refine fin _ _ (b_set_orS hX m2) (fun u hu => ?_)
      unfold s_pe
      rw [n3, a2, q_nIx (by omega), q_nIx (by omega)]
      constructor
      · rintro ⟨z, z1, z2⟩; exact Or.inl ⟨rfl, c3, z, z1, z2⟩
      · rintro (⟨_, _, z, z1, z2⟩ | ⟨q | ⟨_, q⟩, _⟩)
        · exact ⟨z, z1, z2⟩
        · rw [c3] at q; exact absurd q (by decide)
        · rw [c3] at q; exact absurd q (by decide)
    · rw [fg_if_0 c3]
      by_cases c4 : p.1 < 2
      · rw [fg_if_1 c4]
        refine fin X (fun _ => False) (b_set_c hX (fun u _ => ⟨fun q => Or.inl q, fun q => q.elim id (fun z => z.elim)⟩)) (fun u hu => ?_)
        constructor
        · exact fun q => q.elim
        · rintro (⟨_, q, _⟩ | ⟨q | ⟨_, q⟩, _⟩)
          · exact absurd q c3
          · rw [q] at c4; exact absurd c4 (by decide)
          · rw [q] at c4; exact absurd c4 (by decide)
      · obtain ⟨u0, u1, u2⟩ := hw2 c4
        rw [fg_if_0 c4, u2]
        refine fin _ (fun i => i = u0) (b_set_or hX (show u0 < 32 by omega)) (fun u hu => ?_)
        have c5 : p.1 = 3 ∨ p.1 = 2 := by
          rw [d2] at c3 c4 ⊢
          rcases (show d0 = 0 ∨ d0 = 1 ∨ d0 = 2 ∨ d0 = 3 by omega) with e | e | e | e
          · rw [e] at c4; exact absurd (by decide) c4
          · rw [e] at c3; exact absurd rfl c3
          · rw [e]; exact Or.inr rfl
          · rw [e]; exact Or.inl rfl
        constructor
        · intro q
          exact Or.inr ⟨c5.imp id (fun z => ⟨rfl, z⟩), by rw [u2, q]⟩
        · rintro (⟨_, q, _⟩ | ⟨_, q⟩)
          · exact absurd q c3
          · rw [u2] at q
            exact ((n_eq (by omega) (by omega)).mp q).symm
theorem ci_edges (h : CBM k s M y) (v : ivc s) (vt : ivt s) (vp : ivp s) (vx : ivx s) (vd : ivd s) {w : Nat} (hw : w < sC s 2) : (∃ X2, fn_X7_livesOf (nI w) k = some (X2, k) ∧ b_set X2 (fun u => s_eg s 1 w u)) ∧ (∃ X2, fn_X7_quotedBy (nI w) k = some (X2, k) ∧ b_set X2 (fun u => s_eg s 0 w u)) := by
  have hl := (vp w (sC s 0)).1
  constructor
  · obtain ⟨X2, f1, f2⟩ := ci_livesOf_4 h v vt vp vx hw (sR s w (sC s 0)).length 0 g_N 0 (fun _ => False) (by omega) (by have := g_N_le; omega) b_set0
    exact ⟨X2, f1, b_set_c f2 (fun u _ => ⟨fun q => q.elim (fun z => z.elim) id, fun q => Or.inr q⟩)⟩
  · obtain ⟨X2, f1, f2⟩ := ci_quotedBy_4 h v vt vp vx vd hw (sR s w (sC s 0)).length 0 g_N 0 (fun _ => False) (by omega) (by have := g_N_le; omega) b_set0
    exact ⟨X2, f1, b_set_c f2 (fun u _ => ⟨fun q => q.elim (fun z => z.elim) id, fun q => Or.inr q⟩)⟩
theorem ci_steps_38 (h : CBM k s M y) (v : ivc s) (vt : ivt s) (vp : ivp s) (vx : ivx s) (vd : ivd s) {b : Int32} (hb : b = 0 ∨ b = 1) {D : Nat → Int32} {F R x2 : Int32} {r : Nat} (hF : b_set F (fun u => D u = nI r)) {K : Int32 → Int32 → Int32 → Int32 → Int32 → h_S → Option ((Int32) × h_S)} : ∀ (d j N : Nat) (X : Int32), j + d = sC s 2 → d < N → b_set X (fun u => ∃ w, w < j ∧ D w = nI r ∧ s_eg s b w u) → ∃ X2, fn_X7_stepsBetween_38 K N x2 b R F (nI r) X (nI j) k = K x2 b (R ||| (X2 &&& (R ^^^ (-1)))) (X2 &&& (R ^^^ (-1))) (nI (r + 1)) k ∧ b_set X2 (fun u => ∃ w, w < sC s 2 ∧ D w = nI r ∧ s_eg s b w u) := by
  have v2 := v.2.2.1
  intro d
  induction d with
  | zero =>
    intro j N X hj hN hX
    obtain ⟨N, rfl⟩ : ∃ m, N = m + 1 := ⟨N - 1, by omega⟩
    have ej : j = sC s 2 := by omega
    refine ⟨X, ?_, by rw [ej] at hX; exact hX⟩
    show fn_X7_stepsBetween_38b _ _ _ _ _ _ _ _ _ _ = _
    unfold fn_X7_stepsBetween_38b
    rw [h.2.1.2.2.1, fg_if_1 ((n_le (by omega) (by omega)).mpr (by omega)), fg_let_1, n_p1]
  | succ d ih =>
    intro j N X hj hN hX
    obtain ⟨N, rfl⟩ : ∃ m, N = m + 1 := ⟨N - 1, by omega⟩
    obtain ⟨⟨L, l1, l2⟩, ⟨P, q1, q2⟩⟩ := ci_edges h v vt vp vx vd (show j < sC s 2 by omega)
    show ∃ X2, fn_X7_stepsBetween_38b K (fn_X7_stepsBetween_38 K N) _ _ _ _ _ _ _ _ = _ ∧ _
    unfold fn_X7_stepsBetween_38b
    rw [h.2.1.2.2.1, fg_if_0 (fun q => by have := (n_le (a := sC s 2) (b := j) (by omega) (by omega)).mp q; omega), fg_if_c (b_set_bit hF (show j < 32 by omega)), l1, q1, fg_b_1, fg_b_1, n_p1]
    by_cases c : D j = nI r
    · have st : ∀ E : Int32, b_set E (fun u => s_eg s b j u) → ∃ X2, fn_X7_stepsBetween_38 K N x2 b R F (nI r) (X ||| E) (nI (j + 1)) k = K x2 b (R ||| (X2 &&& (R ^^^ (-1)))) (X2 &&& (R ^^^ (-1))) (nI (r + 1)) k ∧ b_set X2 (fun u => ∃ w, w < sC s 2 ∧ D w = nI r ∧ s_eg s b w u) := by
        intro E hE
        refine ih (j + 1) N _ (by omega) (by omega) (b_set_c (b_set_orS hX hE) (fun u _ => ?_))
        constructor
        · rintro (⟨w, w1, w2, w3⟩ | q)
          · exact ⟨w, by omega, w2, w3⟩
          · exact ⟨j, by omega, c, q⟩
        · rintro ⟨w, w1, w2, w3⟩
          by_cases e : w = j
          · rw [e] at w3; exact Or.inr w3
          · exact Or.inl ⟨w, by omega, w2, w3⟩
      rw [fg_if_1 c]
      rcases hb with rfl | rfl
      · rw [fg_if_1 rfl]
        exact st P q2
      · rw [fg_if_0 (by decide)]
        exact st L l2
    · rw [fg_if_0 c]
      refine ih (j + 1) N X (by omega) (by omega) (b_set_c hX (fun u _ => ?_))
      constructor
      · rintro ⟨w, w1, w2, w3⟩; exact ⟨w, by omega, w2, w3⟩
      · rintro ⟨w, w1, w2, w3⟩
        by_cases e : w = j
        · rw [e] at w2; exact absurd w2 c
        · exact ⟨w, by omega, w2, w3⟩
theorem ci_steps_12 (h : CBM k s M y) (v : ivc s) (vt : ivt s) (vp : ivp s) (vx : ivx s) (vd : ivd s) {b : Int32} (hb : b = 0 ∨ b = 1) {f u : Nat} (hu : u < sC s 2) : ∀ (d r N : Nat) (R F : Int32), r + d = 12 → d < N → b_set R (fun i => ¬ s_dd s b f r i = -9) → b_set F (fun i => s_dd s b f r i = nI r) → fn_X7_stepsBetween_12 N (nI u) b R F (nI r) k = some (s_fi s b f u d r, k) := by
  have v2 := v.2.2.1
  intro d
  induction d with
  | zero =>
    intro r N R F hr hN hR hF
    obtain ⟨N, rfl⟩ : ∃ m, N = m + 1 := ⟨N - 1, by omega⟩
    show fn_X7_stepsBetween_12b _ _ _ _ _ _ _ = _
    unfold fn_X7_stepsBetween_12b
    have c : (12 : Int32) ≤ nI r := (n_le (a := 12) (b := r) (by omega) (by omega)).mpr (by omega)
    rw [fg_if_1 c]
    rfl
  | succ d ih =>
    intro r N R F hr hN hR hF
    obtain ⟨N, rfl⟩ : ∃ m, N = m + 1 := ⟨N - 1, by omega⟩
    have c : ¬ (12 : Int32) ≤ nI r := fun q => by have := (n_le (a := 12) (b := r) (by omega) (by omega)).mp q; omega
    obtain ⟨X2, f1, f2⟩ := ci_steps_38 h v vt vp vx vd hb (D := s_dd s b f r) (R := R) (x2 := nI u) hF (K := fn_X7_stepsBetween_12 N) (sC s 2) 0 g_N 0 (by omega) (by have := g_N_le; omega) (b_set_c b_set0 (fun i _ => ⟨fun q => q.elim, fun ⟨w, h, _⟩ => absurd h (Nat.not_lt_zero _)⟩))
    have f1' : fn_X7_stepsBetween_38 (fn_X7_stepsBetween_12 N) g_N (nI u) b R F (nI r) 0 0 k = _ := f1
    show fn_X7_stepsBetween_12b (fn_X7_stepsBetween_12 N) _ _ _ _ _ _ = _
    unfold fn_X7_stepsBetween_12b s_fi
    rw [fg_if_0 c, fg_if_c (b_set_bit hF (show u < 32 by omega)), f1']
    have e1 : ∀ i, s_dd s b f (r + 1) i = fg_if (s_dd s b f r i = -9 ∧ ∃ w, w < sC s 2 ∧ s_dd s b f r w = nI r ∧ s_eg s b w i) (nI (r + 1)) (s_dd s b f r i) := fun i => rfl
    have hF2 : b_set (X2 &&& (R ^^^ (-1))) (fun i => s_dd s b f (r + 1) i = nI (r + 1)) := by
      refine b_set_c (b_set_an f2 hR) (fun i _ => ?_)
      rw [e1]
      by_cases q : s_dd s b f r i = -9 ∧ ∃ w, w < sC s 2 ∧ s_dd s b f r w = nI r ∧ s_eg s b w i
      · rw [fg_if_1 q]
        exact ⟨fun _ => rfl, fun _ => ⟨q.2, fun z => z q.1⟩⟩
      · rw [fg_if_0 q]
        constructor
        · rintro ⟨q1, q2⟩
          exact absurd ⟨Classical.byContradiction q2, q1⟩ q
        · intro z
          rcases s_dd_v (s := s) (b := b) (f := f) r i (by omega) with p | ⟨p, p1, p2, _⟩
          · rw [p] at z; exact absurd z.symm (n_i9 (by omega))
          · rw [p2] at z
            have := (n_eq (by omega) (by omega)).mp z
            omega
    have hR2 : b_set (R ||| (X2 &&& (R ^^^ (-1)))) (fun i => ¬ s_dd s b f (r + 1) i = -9) := by
      refine b_set_c (b_set_orS hR hF2) (fun i _ => ?_)
      rw [e1]
      by_cases q : s_dd s b f r i = -9 ∧ ∃ w, w < sC s 2 ∧ s_dd s b f r w = nI r ∧ s_eg s b w i
      · rw [fg_if_1 q]
        exact ⟨fun _ => n_i9 (by omega), fun _ => Or.inr rfl⟩
      · rw [fg_if_0 q]
        constructor
        · rintro (z | z)
          · exact z
          · rw [z]; exact n_i9 (by omega)
        · exact fun z => Or.inl z
    by_cases c2 : s_dd s b f r u = nI r
    · rw [fg_if_1 c2, fg_if_1 c2]
    · rw [fg_if_0 c2, fg_if_0 c2]
      exact ih (r + 1) N _ _ (by omega) (by omega) hR2 hF2
theorem ci_stepsBetween (h : CBM k s M y) (v : ivc s) (vt : ivt s) (vp : ivp s) (vx : ivx s) (vd : ivd s) {b : Int32} (hb : b = 0 ∨ b = 1) {f u : Nat} (hf : f < sC s 2) (hu : u < sC s 2) : fn_X7_stepsBetween (nI f) (nI u) b k = some (s_dd s b f (sC s 2) u, k) := by
  have v2 := v.2.2.1
  have h1 : b_set ((1 : Int32) <<< (nI f &&& 31)) (fun i => i = f) := by
    have := b_set_c (b_set_or b_set0 (show f < 32 by omega)) (Q := fun i => i = f) (fun i _ => ⟨fun q => q.elim (fun z => z.elim) id, fun q => Or.inr q⟩)
    rw [show (0 : Int32) ||| ((1 : Int32) <<< (nI f &&& 31)) = (1 : Int32) <<< (nI f &&& 31) from Int32.zero_or] at this
    exact this
  have e0 : ∀ i, s_dd s b f 0 i = if i = f then (0 : Int32) else -9 := fun i => rfl
  unfold fn_X7_stepsBetween
  rw [fg_let_1]
  have := ci_steps_12 h v vt vp vx vd hb (f := f) hu 12 0 g_N ((1 : Int32) <<< (nI f &&& 31)) ((1 : Int32) <<< (nI f &&& 31)) (by omega) (by have := g_N_le; omega) (b_set_c h1 (fun i _ => by
    rw [e0]
    by_cases c : i = f
    · rw [if_pos c]; simp [c]
    · rw [if_neg c]; simp [c])) (b_set_c h1 (fun i _ => by
    rw [e0]
    by_cases c : i = f
    · rw [if_pos c]; simp [c]; rfl
    · rw [if_neg c]; simp [c]; decide))
  rw [s_fi_dd v hu] at this
  exact this
theorem cs_quotes (h : CB k s y) (v : ivc s) (vt : ivt s) (vp : ivp s) (vx : ivx s) (vd : ivd s) (w u : Int32) : ∃ k2, fn_X11_quotes w u k = some ((s_quotes s w u).1, k2) ∧ CB k2 (s_quotes s w u).2 y := by
  refine ⟨k, ?_, h⟩
  unfold fn_X11_quotes s_quotes
  rw [ci_isWriting h.2.1 v, fg_b_1, q_b_if]
  by_cases c1 : q_in w (sC s 2)
  · rw [fg_if_1 c1, ci_isWriting h.2.1 v, fg_b_1, q_b_if]
    by_cases c2 : q_in u (sC s 2)
    · obtain ⟨e1, l1⟩ := n_in c1
      obtain ⟨e2, l2⟩ := n_in c2
      have := ci_stepsBetween (CB_M h) v vt vp vx vd (Or.inl rfl) l1 l2
      rw [← e1, ← e2] at this
      rw [fg_if_1 c2, this, fg_b_1, fg_if_1 ⟨c1, c2⟩]
    · rw [fg_if_0 c2, fg_if_0 (fun q => c2 q.2)]
  · rw [fg_if_0 c1, fg_if_0 (fun q => c1 q.1)]
theorem ci_isStretch (b n : Int32) : fn_X11_isStretch b n k = some (q_b (q_in b 500 ∧ 1 ≤ n ∧ n ≤ 500), k) := by
  unfold fn_X11_isStretch
  rw [show (500 : Int32) = nI 500 from rfl, ci_withinN _ (by decide), fg_b_1, q_b_if]
  by_cases d1 : q_in b 500
  · have d1' : q_in b ((500 : Nat) : Int) := d1
    rw [fg_if_1 d1']
    by_cases d2 : n < 1
    · rw [fg_if_1 d2, q_b0 (fun q => Int32.not_le.mpr d2 q.2.1)]
    · rw [fg_if_0 d2]
      by_cases d3 : nI 500 < n
      · rw [fg_if_1 d3, q_b0 (fun q => Int32.not_le.mpr d3 q.2.2)]
      · rw [fg_if_0 d3, q_b1 ⟨d1, Int32.not_lt.mp d2, Int32.not_lt.mp d3⟩]
  · have d1' : ¬ q_in b ((500 : Nat) : Int) := d1
    rw [fg_if_0 d1', q_b0 (fun q => d1 q.1)]
theorem cs_live (h : CB k s y) (v : ivc s) (g : ivg s) (v0 : sC s 0 < 512) (vt : ivt s) (vp : ivp s) (vq : ivq s) (vx : ivx s) (vv : ivv s) (vr : ivr2 s) (vd : ivd s) (w a o b n : Int32) : ∃ k2 c d y2, fn_X11_live w a o b n k = some ((s_live s w a o b n).1, k2, c, d) ∧ CB k2 (s_live s w a o b n).2 y2 ∧ c + zC y2 ≤ zC y + 5 ∧ d + zD y2 ≤ zD y + 42 := by
  have v2 := v.2.2.1
  obtain ⟨K1, y1, x1, z1, a1, a2, a3, a4⟩ := ci_takesAhead h v vp vq w a
  unfold fn_X11_live s_live
  rw [a1, fg_bc_1, q_b_if]
  by_cases c1 : s_ahd s w a
  · rw [fg_if_1 c1, ci_isWriting a2.2.1 v, fg_b_1, q_b_if]
    by_cases c2 : q_in o (sC s 2)
    · have c : s_ahd s w a ∧ q_in o (sC s 2) := ⟨c1, c2⟩
      rw [fg_if_1 c2, ci_isStretch, fg_b_1, q_b_if]
      simp only [fg_if_1 c]
      by_cases c4 : q_in b 500 ∧ 1 ≤ n ∧ n ≤ 500
      · simp only [fg_if_1 c4]
        obtain ⟨e1, l1⟩ := n_in c1.1
        obtain ⟨e2, l2⟩ := n_in c2
        obtain ⟨e3, l3⟩ := n_in (n := (s_SH s w).length + 1) c1.2
        obtain ⟨e5, l5⟩ := n_in (n := 500) c4.1
        have hS : (s_SH s w).length ≤ 300 := s_sh_300 _ _ _ _
        have ho := ci_ownerOf (CB_M a2) v l1
        rw [← e1] at ho
        have hm := ci_mayUse (CB_M a2) v vr l2 (m := sC s 0) (u := 1) (Nat.le_refl _) (by omega) (sF s 9 (h_ix w))
        rw [← e2] at hm
        have hm' : fn_X11_mayUse (sF s 9 (h_ix w)) o 1 (nI (sC s 0)) K1 = some (q_b (s_qt s w o), K1) := hm
        rw [ho, fg_b_1, a2.2.1.1, hm', fg_b_1, q_b_if]
        by_cases c5 : s_qt s w o
        · simp only [fg_if_1 c5]
          have hsb := ci_stepsBetween (CB_M a2) v vt vp vx vd (b := 1) (Or.inr rfl) l2 l1
          rw [← e1, ← e2] at hsb
          rw [hsb, fg_b_1]
          by_cases c8 : s_dd s 1 (h_ix o) (sC s 2) (h_ix w) = -9
          · simp only [fg_if_1 c8]
            have n1 := c4.2.1
            have n2 := c4.2.2
            rw [Int32.le_iff_toInt_le] at n1 n2
            have q1 : (1 : Int32).toInt = 1 := rfl
            have q5 : (500 : Int32).toInt = 500 := rfl
            have e6 := n_of (x := n) (by omega)
            have e7 := q_ix (x := n) (by omega)
            have hp : s_pn s (sC s 0) ((3, b, n, o, -9) : sP) := ⟨⟨⟨⟨3, by omega, rfl⟩, ⟨h_ix n, by omega, by omega, e6⟩, ⟨h_ix b, by omega, e5⟩, fun _ => ⟨h_ix o, l2, e2⟩, fun q => absurd q (by show ¬ (3 : Int32) = 2; decide)⟩, fun q => absurd q (by show ¬ (3 : Int32) < 2; decide)⟩, fun q => absurd q (by show ¬ (3 : Int32) = 2; decide)⟩
            obtain ⟨k2, cc, dd, y2, f1, f2, f3, f4⟩ := ci_newShows a2 v g v0 vt vp vq vx vv l1 (a := h_ix a) (by omega) hp
            rw [← e1, ← e3] at f1
            rw [← e1] at f2
            have f1' := f1
            dsimp only at f1'
            rw [f1', fg_c_1]
            exact ⟨k2, _, _, y2, rfl, f2, by omega, by omega⟩
          · simp only [fg_if_0 c8, fg_c_1]
            exact ⟨K1, _, _, y1, rfl, a2, by omega, by omega⟩
        · simp only [fg_if_0 c5, fg_c_1]
          exact ⟨K1, _, _, y1, rfl, a2, by omega, by omega⟩
      · simp only [fg_if_0 c4, fg_c_1]
        exact ⟨K1, _, _, y1, rfl, a2, by omega, by omega⟩
    · have c : ¬ (s_ahd s w a ∧ q_in o (sC s 2)) := fun q => c2 q.2
      rw [fg_if_0 c2]
      simp only [fg_if_0 c, fg_c_1]
      exact ⟨K1, _, _, y1, rfl, a2, by omega, by omega⟩
  · have c : ¬ (s_ahd s w a ∧ q_in o (sC s 2)) := fun q => c1 q.1
    rw [fg_if_0 c1]
    simp only [fg_if_0 c, fg_c_1]
    exact ⟨K1, _, _, y1, rfl, a2, by omega, by omega⟩
end CQu
