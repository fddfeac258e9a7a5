/-! steps from writing to writing -/
/-- the piece p leads to u; b = 0: by quotes, else by lives alone -/
def s_pe (s : sA) (b : Int32) (p : sP) (u : Nat) : Prop := (b = 0 ∧ p.1 = 1 ∧ ∃ a, a < h_ix p.2.2.1 ∧ sF s 25 (h_ix p.2.1 + a) = nI u) ∨ ((p.1 = 3 ∨ (b = 0 ∧ p.1 = 2)) ∧ p.2.2.2.1 = nI u)
def s_eg (s : sA) (b : Int32) (w u : Nat) : Prop := ∃ p, p ∈ sR s w (sC s 0) ∧ s_pe s b p u
/-- what is reached in the round r besides, by a set -/
noncomputable def g_D (D : Nat → Int32) (r : Nat) (Q : Nat → Prop) (u : Nat) : Int32 := fg_if (D u = -9 ∧ Q u) (nI (r + 1)) (D u)
noncomputable def s_dd (s : sA) (b : Int32) (f : Nat) : Nat → Nat → Int32
  | 0 => fun u => if u = f then 0 else -9
  | r + 1 => g_D (s_dd s b f r) r (fun u => ∃ w, w < sC s 2 ∧ s_dd s b f r w = nI r ∧ s_eg s b w u)
noncomputable def s_quotes (s : sA) (w u : Int32) : Int32 × sA := (fg_if (q_in w (sC s 2) ∧ q_in u (sC s 2)) (s_dd s 0 (h_ix w) (sC s 2) (h_ix u)) (-1), s)
noncomputable def s_live (s : sA) (w at_ o a n : Int32) : Int32 × sA := fg_if (s_ahd s w at_ ∧ q_in o (sC s 2)) (fg_if (q_in a 500 ∧ 1 ≤ n ∧ n ≤ 500) (fg_if (s_qt s w o) (fg_if (s_dd s 1 (h_ix o) (sC s 2) (h_ix w) = -9) (s_keepS s w (s_brg s w (h_ix at_) (3, a, n, o, -9))) (-100 - s_dd s 1 (h_ix o) (sC s 2) (h_ix w), s)) (-3, s)) (-2, s)) (-1, s)
section SDd
variable {s : sA} {b : Int32} {f : Nat}
theorem n_i9 {q : Nat} (hq : q < 2 ^ 31) : ¬ nI q = -9 := fun w => by
  have := congrArg Int32.toInt w
  rw [q_nI hq] at this
  have e1 : (-9 : Int32).toInt = -9 := rfl
  omega
theorem s_dd_v : ∀ (r u : Nat), r ≤ 1000 → s_dd s b f r u = -9 ∨ ∃ i, i ≤ r ∧ s_dd s b f r u = nI i ∧ s_dd s b f i u = nI i := by
  intro r
  induction r with
  | zero =>
    intro u _
    by_cases c : u = f
    · have e : s_dd s b f 0 u = nI 0 := by show (if u = f then (0 : Int32) else -9) = _; rw [if_pos c]; rfl
      exact Or.inr ⟨0, Nat.le_refl _, e, e⟩
    · left
      show (if u = f then (0 : Int32) else -9) = _
      rw [if_neg c]
  | succ r ih =>
    intro u hr
    by_cases c : s_dd s b f r u = -9 ∧ ∃ w, w < sC s 2 ∧ s_dd s b f r w = nI r ∧ s_eg s b w u
    · have e : s_dd s b f (r + 1) u = nI (r + 1) := fg_if_1 c
      exact Or.inr ⟨r + 1, Nat.le_refl _, e, e⟩
    · have e : s_dd s b f (r + 1) u = s_dd s b f r u := fg_if_0 c
      rw [e]
      rcases ih u (by omega) with h | ⟨i, h1, h2, h3⟩
      · exact Or.inl h
      · exact Or.inr ⟨i, by omega, h2, h3⟩
theorem s_dd_k {i r u : Nat} (hi : i ≤ 1000) (h : s_dd s b f r u = nI i) : ∀ e, s_dd s b f (r + e) u = nI i := by
  intro e
  induction e with
  | zero => exact h
  | succ e ih =>
    show g_D (s_dd s b f (r + e)) (r + e) _ u = _
    unfold g_D
    rw [fg_if_0 (fun q => by rw [ih] at q; exact n_i9 (by omega) q.1), ih]
noncomputable def s_ct (D : Nat → Int32) : Nat → Nat
  | 0 => 0
  | n + 1 => s_ct D n + fg_if (D n = -9) 0 1
theorem s_ct_le (D : Nat → Int32) : ∀ n, s_ct D n ≤ n := by
  intro n
  induction n with
  | zero => exact Nat.le_refl _
  | succ n ih =>
    unfold s_ct
    by_cases c : D n = -9
    · rw [fg_if_1 c]; omega
    · rw [fg_if_0 c]; omega
theorem s_ct_m {D E : Nat → Int32} (h : ∀ i, ¬ D i = -9 → ¬ E i = -9) : ∀ n, s_ct D n ≤ s_ct E n := by
  intro n
  induction n with
  | zero => exact Nat.le_refl _
  | succ n ih =>
    unfold s_ct
    by_cases c : D n = -9
    · rw [fg_if_1 c]; omega
    · rw [fg_if_0 c, fg_if_0 (h n c)]; omega
theorem s_ct_s {D E : Nat → Int32} (h : ∀ i, ¬ D i = -9 → ¬ E i = -9) {u : Nat} (h1 : D u = -9) (h2 : ¬ E u = -9) : ∀ n, u < n → s_ct D n + 1 ≤ s_ct E n := by
  intro n
  induction n with
  | zero => intro hu; omega
  | succ n ih =>
    intro hu
    unfold s_ct
    by_cases e : u = n
    · rw [← e, fg_if_1 h1, fg_if_0 h2]
      have := s_ct_m h u
      omega
    · have := ih (by omega)
      by_cases c : D n = -9
      · rw [fg_if_1 c]; omega
      · rw [fg_if_0 c, fg_if_0 (h n c)]; omega
theorem s_dd_ct : ∀ (r u : Nat), r ≤ 1000 → u < sC s 2 → s_dd s b f r u = nI r → r + 1 ≤ s_ct (s_dd s b f r) (sC s 2) := by
  intro r
  induction r with
  | zero =>
    intro u _ hu h
    have hf : s_dd s b f 0 u = nI 0 := h
    have := s_ct_s (D := fun _ => -9) (E := s_dd s b f 0) (fun i q => absurd rfl q) (u := u) rfl (by rw [hf]; decide) (sC s 2) hu
    omega
  | succ r ih =>
    intro u hr hu h
    have mono : ∀ i, ¬ s_dd s b f r i = -9 → ¬ s_dd s b f (r + 1) i = -9 := by
      intro i q
      show ¬ g_D (s_dd s b f r) r _ i = -9
      unfold g_D
      rw [fg_if_0 (fun z => q z.1)]
      exact q
    by_cases c : s_dd s b f r u = -9 ∧ ∃ w, w < sC s 2 ∧ s_dd s b f r w = nI r ∧ s_eg s b w u
    · obtain ⟨c1, w, w1, w2, w3⟩ := c
      have h1 := ih w (by omega) w1 w2
      have h2 := s_ct_s mono c1 (by rw [h]; exact n_i9 (by omega)) (sC s 2) hu
      omega
    · have e : s_dd s b f (r + 1) u = s_dd s b f r u := fg_if_0 c
      rw [e] at h
      rcases s_dd_v (s := s) (b := b) (f := f) r u (by omega) with q | ⟨i, i1, i2, _⟩
      · rw [q] at h; exact absurd h.symm (n_i9 (by omega))
      · rw [i2] at h
        have := (n_eq (by omega) (by omega)).mp h
        omega
/-- the first round in which it is reached -/
noncomputable def s_fi (s : sA) (b : Int32) (f u : Nat) : Nat → Nat → Int32
  | 0, _ => -9
  | d + 1, r => fg_if (s_dd s b f r u = nI r) (nI r) (s_fi s b f u d (r + 1))
theorem s_fi_9 {u : Nat} (h : ∀ i, i < 12 → ¬ s_dd s b f i u = nI i) : ∀ (d r : Nat), r + d = 12 → s_fi s b f u d r = -9 := by
  intro d
  induction d with
  | zero => intro r _; rfl
  | succ d ih =>
    intro r hr
    unfold s_fi
    rw [fg_if_0 (h r (by omega)), ih (r + 1) (by omega)]
theorem s_fi_i {u i : Nat} (hi : i < 12) (h : s_dd s b f i u = nI i) : ∀ (d r : Nat), r + d = 12 → r ≤ i → s_fi s b f u d r = nI i := by
  intro d
  induction d with
  | zero => intro r hr h2; omega
  | succ d ih =>
    intro r hr h2
    unfold s_fi
    by_cases c : s_dd s b f r u = nI r
    · have := s_dd_k (by omega) c (i - r)
      rw [show r + (i - r) = i by omega, h] at this
      rw [fg_if_1 c, ← this]
    · rw [fg_if_0 c]
      refine ih (r + 1) (by omega) ?_
      rcases Nat.lt_or_ge r i with q | q
      · exact q
      · exact absurd (by rw [show r = i by omega]; exact h) c
theorem s_fi_dd (v : ivc s) {u : Nat} (hu : u < sC s 2) : s_fi s b f u 12 0 = s_dd s b f (sC s 2) u := by
  have v2 := v.2.2.1
  by_cases c : ∃ i, i < 12 ∧ s_dd s b f i u = nI i
  · obtain ⟨i, i1, i2⟩ := c
    have h1 := s_dd_ct i u (by omega) hu i2
    have h2 := s_ct_le (s_dd s b f i) (sC s 2)
    rw [s_fi_i i1 i2 12 0 (by omega) (by omega)]
    have := s_dd_k (by omega) i2 (sC s 2 - i)
    rw [show i + (sC s 2 - i) = sC s 2 by omega] at this
    exact this.symm
  · rw [s_fi_9 (fun i hi q => c ⟨i, hi, q⟩) 12 0 (by omega)]
    rcases s_dd_v (s := s) (b := b) (f := f) (sC s 2) u (by omega) with q | ⟨i, i1, i2, i3⟩
    · exact q.symm
    · have h1 := s_dd_ct i u (by omega) hu i3
      have h2 := s_ct_le (s_dd s b f i) (sC s 2)
      exact absurd ⟨i, by omega, i3⟩ c
theorem s_pe_in (v : ivc s) (vd : ivd s) {p : sP} (hp : s_pk s p) {u : Nat} (hu : u < 2 ^ 31) (h : s_pe s b p u) : u < sC s 2 := by
  have v2 := v.2.2.1
  obtain ⟨⟨⟨d, d1, d2⟩, ⟨n, n1, n2, n3⟩, ⟨a, a1, a2⟩, hw, _⟩, hk⟩ := hp
  rcases h with ⟨_, h2, z, z1, z2⟩ | ⟨h2, h3⟩
  · have hk := hk (by rw [h2]; decide)
    obtain ⟨⟨w, w1, w2⟩, _⟩ := vd (h_ix p.2.1 + z) (by omega)
    rw [w2] at z2
    have := (n_eq (by omega) hu).mp z2
    omega
  · obtain ⟨w, w1, w2⟩ := hw (by
      rcases h2 with q | ⟨_, q⟩
      · rw [q]; decide
      · rw [q]; decide)
    rw [w2] at h3
    have := (n_eq (by omega) hu).mp h3
    omega
end SDd
section RQu
variable {t T : r_T} {s : sA} {b : Int32}
theorem g_D_c {D : Nat → Int32} {r u : Nat} {Q Q2 : Nat → Prop} (h : Q u ↔ Q2 u) : g_D D r Q u = g_D D r Q2 u := by
  unfold g_D
  exact fg_if_c (by rw [h])
/-- what stands of the round -/
def r_d (T : r_T) (n : Nat) (D : Nat → Int32) (r : Nat) (Q : Nat → Prop) : Prop := ∀ u, u < n → T.2 54 u = g_D D r Q u
theorem r_d_c {n r : Nat} {D : Nat → Int32} {Q Q2 : Nat → Prop} (h : r_d T n D r Q) (e : ∀ u, u < n → (Q u ↔ Q2 u)) : r_d T n D r Q2 := fun u hu => (h u hu).trans (g_D_c (e u hu))
theorem ri_come2 {n r u0 : Nat} {D : Nat → Int32} {Q : Nat → Prop} (hn : n ≤ 12) (hr : r ≤ 100) (hu : u0 < n) (h : r_d T n D r Q) : ∃ T2, fn_X12_come2 (nI u0) (nI (r + 1)) T = some ((), T2) ∧ r_fr [54] T T2 ∧ r_d T2 n D r (fun u => Q u ∨ u = u0) := by
  have g1 : vp_in (nI u0) 12 := (n_vp (by omega)).mpr (by omega)
  unfold fn_X12_come2 fn_X12_come2_26
  simp only [fg_g_1 g1, q_nIx (show u0 < 2 ^ 31 by omega), fg_let_1]
  by_cases c : T.2 54 u0 = -9
  · rw [fg_if_1 c]
    refine ⟨_, rfl, r_frA (by decide), fun u hu2 => ?_⟩
    rw [h u0 hu] at c
    rw [rt_AA, if_pos rfl]
    unfold g_D at c ⊢
    by_cases e : u = u0
    · subst e
      rw [if_pos rfl]
      by_cases d : D u = -9 ∧ Q u
      · rw [fg_if_1 d] at c
        exact absurd c (n_i9 (by omega))
      · rw [fg_if_0 d] at c
        rw [fg_if_1 ⟨c, Or.inr rfl⟩]
    · rw [if_neg e, h u hu2]
      unfold g_D
      exact fg_if_c (by simp [e])
  · rw [fg_if_0 c]
    refine ⟨_, rfl, r_frA (by decide), fun u hu2 => ?_⟩
    rw [rt_AA, if_pos rfl]
    rw [h u0 hu] at c ⊢
    unfold g_D at c ⊢
    by_cases e : u = u0
    · subst e
      rw [if_pos rfl]
      by_cases d : D u = -9 ∧ Q u
      · rw [fg_if_1 d, fg_if_1 ⟨d.1, Or.inl d.2⟩]
      · rw [fg_if_0 d] at c
        rw [fg_if_0 d, fg_if_0 (fun q => c q.1)]
    · rw [if_neg e, h u hu2]
      unfold g_D
      exact fg_if_c (by simp [e])
/-- the words of a seen piece -/
theorem ri_goFrom_84 {r x a : Nat} {D : Nat → Int32} {p : sP} (h : RA T s) (v : ivc s) (vd : ivd s) (hr : r ≤ 100) (hx : x < 28800) (hp : s_pk s p) (hpc : r_pc T x = p) {K : Int32 → Int32 → Int32 → Int32 → r_T → Option (Unit × r_T)} {x4 x5 : Int32} : ∀ (d j N : Nat) (T2 : r_T) (Q : Nat → Prop), j + d = h_ix p.2.2.1 → d < N → r_fr [54] T T2 → r_d T2 (sC s 2) D r Q → ∃ T3, fn_X12_goFrom_84 K N (nI (r + 1)) b x4 x5 (nI x) (nI j) T2 = K (nI (r + 1)) b x4 (x5 + 1) T3 ∧ r_fr [54] T T3 ∧ r_d T3 (sC s 2) D r (fun u => Q u ∨ (b = 0 ∧ p.1 = 1 ∧ ∃ z, j ≤ z ∧ z < h_ix p.2.2.1 ∧ sF s 25 (h_ix p.2.1 + z) = nI u)) := by
  have v2 := v.2.2.1
  have v3 := v.2.2.2.1
  obtain ⟨⟨⟨d0, d1, d2⟩, ⟨n, n1, n2, n3⟩, ⟨a, a1, a2⟩, hw, _⟩, hk⟩ := hp
  have eN : h_ix p.2.2.1 = n := by rw [n3, q_nIx (by omega)]
  have eA : h_ix p.2.1 = a := by rw [a2, q_nIx (by omega)]
  have g1 : vp_in (nI x) 28800 := (n_vp (by omega)).mpr hx
  have p0 : T.2 17 x = p.1 := by rw [← hpc]; rfl
  have p1 : T.2 18 x = nI a := by rw [← a2, ← hpc]; rfl
  have p2 : T.2 19 x = nI n := by rw [← n3, ← hpc]; rfl
  rw [eN]
  intro d
  induction d with
  | zero =>
    intro j N T2 Q hj hN hf hd
    obtain ⟨N, rfl⟩ : ∃ m, N = m + 1 := ⟨N - 1, by omega⟩
    refine ⟨T2, ?_, hf, r_d_c hd (fun u _ => ⟨fun q => Or.inl q, fun q => q.elim id (fun ⟨_, _, z, z1, z2, _⟩ => by omega)⟩)⟩
    show fn_X12_goFrom_84b _ _ _ _ _ _ _ _ _ = _
    unfold fn_X12_goFrom_84b
    rw [fg_g_1 g1, q_nIx (by omega), hf.2 19 (by decide), p2, fg_if_1 ((n_le (by omega) (by omega)).mpr (by omega))]
  | succ d ih =>
    intro j N T2 Q hj hN hf hd
    obtain ⟨N, rfl⟩ : ∃ m, N = m + 1 := ⟨N - 1, by omega⟩
    show ∃ T3, fn_X12_goFrom_84b K (fn_X12_goFrom_84 K N) _ _ _ _ _ _ _ = _ ∧ _
    unfold fn_X12_goFrom_84b
    rw [fg_g_1 g1, q_nIx (show x < 2 ^ 31 by omega), hf.2 19 (by decide), p2, fg_if_0 (fun q => by have := (n_le (a := n) (b := j) (by omega) (by omega)).mp q; omega), fg_g_1 g1, hf.2 17 (by decide), p0]
    by_cases c1 : p.1 = 1
    · rw [fg_if_1 c1]
      by_cases c2 : b = 0
      · have hk := hk (by rw [c1]; decide)
        rw [eN, eA] at hk
        obtain ⟨⟨w, w1, w2⟩, _⟩ := vd (a + j) (by omega)
        have e25 : T2.2 25 (a + j) = nI w := by rw [hf.2 25 (by decide), h.2.1 25 rfl, w2]
        obtain ⟨T3, f1, f2, f3⟩ := ri_come2 v2 hr w1 hd
        obtain ⟨T4, g2, g3, g4⟩ := ih (j + 1) N T3 _ (by omega) (by omega) (r_frt hf f2) f3
        rw [fg_if_1 c2, fg_g_1 g1, hf.2 18 (by decide), p1, n_add, fg_g_1 ((n_vp (by omega)).mpr (by omega)), q_nIx (by omega), e25, f1, fg_b_1, n_p1]
        refine ⟨T4, g2, g3, r_d_c g4 (fun u hu => ?_)⟩
        rw [eA]
        constructor
        · rintro ((q | q) | ⟨q1, q2, z, z1, z2, z3⟩)
          · exact Or.inl q
          · exact Or.inr ⟨c2, c1, j, Nat.le_refl _, by omega, by rw [w2, q]⟩
          · exact Or.inr ⟨q1, q2, z, by omega, z2, z3⟩
        · rintro (q | ⟨q1, q2, z, z1, z2, z3⟩)
          · exact Or.inl (Or.inl q)
          · by_cases e : z = j
            · rw [e, w2] at z3
              exact Or.inl (Or.inr ((n_eq (by omega) (by omega)).mp z3).symm)
            · exact Or.inr ⟨q1, q2, z, by omega, z2, z3⟩
      · rw [fg_if_0 c2]
        exact ⟨T2, rfl, hf, r_d_c hd (fun u _ => ⟨fun q => Or.inl q, fun q => q.elim id (fun z => absurd z.1 c2)⟩)⟩
    · rw [fg_if_0 c1]
      exact ⟨T2, rfl, hf, r_d_c hd (fun u _ => ⟨fun q => Or.inl q, fun q => q.elim id (fun z => absurd z.2.1 c1)⟩)⟩
/-- a writing's pieces -/
theorem ri_goFrom_14 {r x a0 : Nat} {D : Nat → Int32} {l : List sP} (h : RA T s) (v : ivc s) (vd : ivd s) (hr : r ≤ 100) (hx : x < 1200) (e15 : T.2 15 x = nI l.length) (e14 : T.2 14 x = nI a0) (hb : a0 + l.length ≤ 28800) (hl : l.length ≤ 60) (hpc : ∀ i, i < l.length → l[i]? = some (r_pc T (a0 + i))) (hp : ∀ p, p ∈ l → s_pk s p) : ∀ (d j N : Nat) (T2 : r_T) (Q : Nat → Prop), j + d = l.length → d < N → r_fr [54] T T2 → r_d T2 (sC s 2) D r Q → ∃ T3, fn_X12_goFrom_14 N (nI (r + 1)) b (nI x) (nI j) T2 = some ((), T3) ∧ r_fr [54] T T3 ∧ r_d T3 (sC s 2) D r (fun u => Q u ∨ ∃ p, p ∈ l.drop j ∧ s_pe s b p u) := by
  have v2 := v.2.2.1
  have g1 : vp_in (nI x) 1200 := (n_vp (by omega)).mpr hx
  have nx : ¬ nI x < 0 := n_neg (by omega)
  intro d
  induction d with
  | zero =>
    intro j N T2 Q hj hN hf hd
    obtain ⟨N, rfl⟩ : ∃ m, N = m + 1 := ⟨N - 1, by omega⟩
    refine ⟨T2, ?_, hf, r_d_c hd (fun u _ => ⟨fun q => Or.inl q, fun q => q.elim id (fun ⟨p, hp, _⟩ => by rw [List.drop_eq_nil_of_le (by omega)] at hp; cases hp)⟩)⟩
    show fn_X12_goFrom_14b _ _ _ _ _ _ = _
    unfold fn_X12_goFrom_14b
    rw [fg_if_0 nx, fg_g_1 g1, q_nIx (by omega), hf.2 15 (by decide), e15, fg_if_1 ((n_le (by omega) (by omega)).mpr (by omega))]
  | succ d ih =>
    intro j N T2 Q hj hN hf hd
    obtain ⟨N, rfl⟩ : ∃ m, N = m + 1 := ⟨N - 1, by omega⟩
    have hj2 : j < l.length := by omega
    have hp1 : s_pk s l[j] := hp _ (List.getElem_mem hj2)
    have hpc1 : r_pc T (a0 + j) = l[j] := by
      have := hpc j hj2
      rw [List.getElem?_eq_getElem hj2] at this
      injection this with this
      exact this.symm
    have hdr : l.drop j = l[j] :: l.drop (j + 1) := List.drop_eq_getElem_cons hj2
    generalize hq : l[j] = p at hp1 hpc1 hdr
    have g2 : vp_in (nI (a0 + j)) 28800 := (n_vp (by omega)).mpr (by omega)
    have p0 : T.2 17 (a0 + j) = p.1 := by rw [← hpc1]; rfl
    have p3 : T.2 20 (a0 + j) = p.2.2.2.1 := by rw [← hpc1]; rfl
    show ∃ T3, fn_X12_goFrom_14b (fn_X12_goFrom_14 N) _ _ _ _ _ = _ ∧ _
    unfold fn_X12_goFrom_14b
    rw [fg_if_0 nx, fg_g_1 g1, q_nIx (show x < 2 ^ 31 by omega), hf.2 15 (by decide), e15, fg_if_0 (fun q => by have := (n_le (a := l.length) (b := j) (by omega) (by omega)).mp q; omega), fg_g_1 g1, hf.2 14 (by decide), e14, n_add, fg_g_1 g2, q_nIx (show a0 + j < 2 ^ 31 by omega), hf.2 17 (by decide), p0, fg_g_1 g2]
    have e81 : ∀ (T3 : r_T) (Q2 : Nat → Prop), r_fr [54] T T3 → r_d T3 (sC s 2) D r Q2 → (∀ u, u < sC s 2 → (Q2 u ∨ (b = 0 ∧ p.1 = 1 ∧ ∃ z, 0 ≤ z ∧ z < h_ix p.2.2.1 ∧ sF s 25 (h_ix p.2.1 + z) = nI u) ↔ Q u ∨ s_pe s b p u)) → ∃ T4, fn_X12_goFrom_81 (fn_X12_goFrom_14 N) (nI (r + 1)) b (nI x) (nI j) (nI (a0 + j)) T3 = some ((), T4) ∧ r_fr [54] T T4 ∧ r_d T4 (sC s 2) D r (fun u => Q u ∨ ∃ p, p ∈ l.drop j ∧ s_pe s b p u) := by
      intro T3 Q2 hf3 hd3 he
      have hn5 := hp1.1.2.1
      obtain ⟨n5, n51, n52, n53⟩ := hn5
      obtain ⟨T4, k1, k2, k3⟩ := ri_goFrom_84 (b := b) (a := 0) h v vd hr (show a0 + j < 28800 by omega) hp1 hpc1 (K := fn_X12_goFrom_14 N) (x4 := nI x) (x5 := nI j) (h_ix p.2.2.1) 0 g_N T3 Q2 (by omega) (by rw [n53, q_nIx (by omega)]; have := g_N_le; omega) hf3 hd3
      obtain ⟨T5, m1, m2, m3⟩ := ih (j + 1) N T4 _ (by omega) (by omega) k2 k3
      refine ⟨T5, ?_, m2, r_d_c m3 (fun u hu => ?_)⟩
      · unfold fn_X12_goFrom_81
        refine k1.trans ?_
        rw [n_p1]
        exact m1
      · rw [he u hu, hdr]
        constructor
        · rintro ((q | q) | ⟨p2, q1, q2⟩)
          · exact Or.inl q
          · exact Or.inr ⟨p, List.mem_cons_self, q⟩
          · exact Or.inr ⟨p2, List.mem_cons_of_mem _ q1, q2⟩
        · rintro (q | ⟨p2, q1, q2⟩)
          · exact Or.inl (Or.inl q)
          · rcases List.mem_cons.mp q1 with w | w
            · rw [w] at q2; exact Or.inl (Or.inr q2)
            · exact Or.inr ⟨p2, w, q2⟩
    have e69 : (p.1 = 3 ∨ (b = 0 ∧ p.1 = 2)) → ∃ T4, fn_X12_goFrom_69 (fn_X12_goFrom_14 N) (nI (r + 1)) b (nI x) (nI j) (nI (a0 + j)) T2 = some ((), T4) ∧ r_fr [54] T T4 ∧ r_d T4 (sC s 2) D r (fun u => Q u ∨ ∃ p, p ∈ l.drop j ∧ s_pe s b p u) := by
      intro hk
      obtain ⟨w, w1, w2⟩ := hp1.1.2.2.2.1 (by
        rcases hk with q | ⟨_, q⟩
        · rw [q]; decide
        · rw [q]; decide)
      obtain ⟨T3, f1, f2, f3⟩ := ri_come2 v2 hr w1 hd
      obtain ⟨T4, k1, k2, k3⟩ := e81 T3 _ (r_frt hf f2) f3 (fun u hu => by
        have n1 : ¬ p.1 = 1 := by
          rcases hk with q | ⟨_, q⟩
          · rw [q]; decide
          · rw [q]; decide
        constructor
        · rintro ((q | q) | ⟨_, q, _⟩)
          · exact Or.inl q
          · exact Or.inr (Or.inr ⟨hk, by rw [w2, q]⟩)
          · exact absurd q n1
        · rintro (q | ⟨_, q, _⟩ | ⟨_, q⟩)
          · exact Or.inl (Or.inl q)
          · exact absurd q n1
          · rw [w2] at q
            exact Or.inl (Or.inr ((n_eq (by omega) (by omega)).mp q).symm))
      refine ⟨T4, ?_, k2, k3⟩
      unfold fn_X12_goFrom_69
      rw [fg_g_1 g2, q_nIx (by omega), hf.2 20 (by decide), p3, w2, f1, fg_b_1]
      exact k1
    have e81' : ¬ (p.1 = 3 ∨ (b = 0 ∧ p.1 = 2)) → ∃ T4, fn_X12_goFrom_81 (fn_X12_goFrom_14 N) (nI (r + 1)) b (nI x) (nI j) (nI (a0 + j)) T2 = some ((), T4) ∧ r_fr [54] T T4 ∧ r_d T4 (sC s 2) D r (fun u => Q u ∨ ∃ p, p ∈ l.drop j ∧ s_pe s b p u) := fun hk => e81 T2 Q hf hd (fun u hu => by
      constructor
      · rintro (q | ⟨q1, q2, z, _, z2, z3⟩)
        · exact Or.inl q
        · exact Or.inr (Or.inl ⟨q1, q2, z, z2, z3⟩)
      · rintro (q | ⟨q1, q2, z, z2, z3⟩ | ⟨q, _⟩)
        · exact Or.inl q
        · exact Or.inr ⟨q1, q2, z, Nat.zero_le _, z2, z3⟩
        · exact absurd q hk)
    by_cases c3 : p.1 = 3
    · rw [fg_if_1 c3]
      exact e69 (Or.inl c3)
    · rw [fg_if_0 c3]
      by_cases c4 : p.1 = 2
      · rw [fg_if_1 c4]
        by_cases c5 : b = 0
        · rw [fg_if_1 c5]
          exact e69 (Or.inr ⟨c5, c4⟩)
        · rw [fg_if_0 c5]
          exact e81' (fun q => q.elim c3 (fun z => c5 z.1))
      · rw [fg_if_0 c4]
        exact e81' (fun q => q.elim c3 (fun z => c4 z.2))
end RQu
