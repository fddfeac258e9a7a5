/-! parts of an end: where they begin, how long they are -/
section PTS
variable (H : Int32 → Prop) (G : Nat → Int32) (n : Nat)
noncomputable def p_run : Nat → Nat → Nat
  | 0, i => i
  | d + 1, i => fg_if (H (G i) ∧ G i = G (i - 1) + 1) (p_run d (i + 1)) i
noncomputable def p_pts : Nat → Nat → List (Nat × Nat)
  | 0, _ => []
  | f + 1, i => fg_if (i < n) (fg_if (H (G i)) ((i, p_run H G (n - (i + 1)) (i + 1) - i) :: p_pts f (p_run H G (n - (i + 1)) (i + 1))) (p_pts f (i + 1))) []
end PTS
section PTT
variable {H : Int32 → Prop} {G : Nat → Int32} {n : Nat}
theorem p_run_b : ∀ (d i : Nat), i ≤ p_run H G d i ∧ p_run H G d i ≤ i + d := by
  intro d
  induction d with
  | zero => intro i; exact ⟨Nat.le_refl _, Nat.le_refl _⟩
  | succ d ih =>
    intro i
    unfold p_run
    by_cases c : H (G i) ∧ G i = G (i - 1) + 1
    · rw [fg_if_1 c]; have := ih (i + 1); omega
    · rw [fg_if_0 c]; omega
theorem p_pts_nil {f i : Nat} (h : n ≤ i) : p_pts H G n f i = [] := by
  cases f with
  | zero => rfl
  | succ f => unfold p_pts; rw [fg_if_0 (by omega)]
theorem p_pts_len : ∀ (f i : Nat), i ≤ n → i + (p_pts H G n f i).length ≤ n := by
  intro f
  induction f with
  | zero => intro i h; exact h
  | succ f ih =>
    intro i h
    unfold p_pts
    by_cases c : i < n
    · rw [fg_if_1 c]
      have b := p_run_b (H := H) (G := G) (n - (i + 1)) (i + 1)
      by_cases c2 : H (G i)
      · rw [fg_if_1 c2, List.length_cons]
        have := ih (p_run H G (n - (i + 1)) (i + 1)) (by omega)
        omega
      · rw [fg_if_0 c2]
        have := ih (i + 1) (by omega)
        omega
    · rw [fg_if_0 c]; exact h
theorem p_pts_f : ∀ (f g i : Nat), n ≤ i + f → n ≤ i + g → p_pts H G n f i = p_pts H G n g i := by
  intro f
  induction f with
  | zero => intro g i h h2; rw [p_pts_nil (f := g) (by omega)]; rfl
  | succ f ih =>
    intro g i h h2
    cases g with
    | zero => rw [p_pts_nil (f := f + 1) (by omega)]; rfl
    | succ g =>
      unfold p_pts
      have b := p_run_b (H := H) (G := G) (n - (i + 1)) (i + 1)
      rw [ih g (p_run H G (n - (i + 1)) (i + 1)) (by omega) (by omega), ih g (i + 1) (by omega) (by omega)]
theorem p_pts_cons : ∀ (f i q z : Nat) (l : List (Nat × Nat)), n ≤ i + f → p_pts H G n f i = (q, z) :: l → i ≤ q ∧ q < n ∧ H (G q) ∧ q + z = p_run H G (n - (q + 1)) (q + 1) ∧ 1 ≤ z ∧ q + z ≤ n ∧ ∃ g, n ≤ q + z + g ∧ g ≤ f ∧ l = p_pts H G n g (q + z) := by
  intro f
  induction f with
  | zero => intro i q z l _ h; cases h
  | succ f ih =>
    intro i q z l hn h
    unfold p_pts at h
    by_cases c : i < n
    · rw [fg_if_1 c] at h
      by_cases c2 : H (G i)
      · rw [fg_if_1 c2] at h
        have b := p_run_b (H := H) (G := G) (n - (i + 1)) (i + 1)
        injection h with h1 h2
        injection h1 with h3 h4
        subst h3
        have e : i + z = p_run H G (n - (i + 1)) (i + 1) := by omega
        exact ⟨Nat.le_refl _, c, c2, e, by omega, by omega, f, by omega, by omega, by rw [e]; exact h2.symm⟩
      · rw [fg_if_0 c2] at h
        obtain ⟨a1, a2, a3, a4, a5, a6, g, a7, a8, a9⟩ := ih (i + 1) q z l (by omega) h
        exact ⟨by omega, a2, a3, a4, a5, a6, g, a7, by omega, a9⟩
    · rw [fg_if_0 c] at h; cases h
end PTT
/-- the ends of a link: words -/
def ivm (s : sA) : Prop := ∀ l, l < sC s 5 → (∃ a n, 1 ≤ n ∧ a + n ≤ 500 ∧ sF s 82 l = nI a ∧ sF s 83 l = nI n) ∧ (∃ a n, 1 ≤ n ∧ a + n ≤ 500 ∧ sF s 84 l = nI a ∧ sF s 85 l = nI n)
/-- one of n words from a on -/
def s_hl (a n : Nat) (x : Int32) : Prop := ∃ z, a ≤ z ∧ z < a + n ∧ x = nI z
noncomputable def s_e1 (s : sA) (l : Nat) (e : Int32) : Nat := h_ix (fg_if (e = 0) (sF s 82 l) (sF s 84 l))
noncomputable def s_e2 (s : sA) (l : Nat) (e : Int32) : Nat := h_ix (fg_if (e = 0) (sF s 83 l) (sF s 85 l))
def s_vg (s : sA) (v i : Nat) : Int32 := (s_vs s v)[i]?.getD 0
noncomputable def s_pts (s : sA) (l : Nat) (e : Int32) (v : Nat) : List (Nat × Nat) := p_pts (s_hl (s_e1 s l e) (s_e2 s l e)) (s_vg s v) (s_vs s v).length 300 0
noncomputable def s_ends (s : sA) (l e v : Int32) : Int32 × sA := (fg_if (q_in l (sC s 5) ∧ q_in v (sC s 4)) (fg_if (q_in e 2) (nI (s_pts s (h_ix l) e (h_ix v)).length) (-2)) (-1), s)
noncomputable def s_ptw (G : Nat → Int32) (p : Nat × Nat) (w : Int32) : Int32 := fg_if (w = 0) (nI p.1) (fg_if (w = 1) (G p.1) (nI p.2))
noncomputable def s_part (s : sA) (l e v i w : Int32) : Int32 × sA := (fg_if (q_in l (sC s 5) ∧ q_in v (sC s 4) ∧ 0 ≤ i) (fg_if (q_in e 2 ∧ q_in w 3) (fg_if (h_ix i < (s_pts s (h_ix l) e (h_ix v)).length) (s_ptw (s_vg s (h_ix v)) ((s_pts s (h_ix l) e (h_ix v))[h_ix i]?.getD (0, 0)) w) (-1)) (-2)) (-1), s)
section RPs
variable {t T : r_T} {s : sA}
theorem s_hl_i {a m : Nat} (hm : 1 ≤ m) (ha : a + m ≤ 500) (x : Int32) : (nI a ≤ x ∧ x ≤ nI (a + m - 1)) ↔ s_hl a m x := by
  unfold s_hl
  rw [Int32.le_iff_toInt_le, Int32.le_iff_toInt_le, q_nI (by omega), q_nI (by omega)]
  constructor
  · intro h
    have e := q_ix (x := x) (by omega)
    exact ⟨h_ix x, by omega, by omega, n_of (by omega)⟩
  · rintro ⟨z, h1, h2, e⟩
    rw [e, q_nI (by omega)]
    omega
theorem s_hl_7 (a m : Nat) (ha : a + m ≤ 500) : ¬ s_hl a m (-7) := by
  rintro ⟨z, h1, h2, e⟩
  have := congrArg Int32.toInt e
  rw [q_nI (by omega)] at this
  have e7 : (-7 : Int32).toInt = -7 := rfl
  omega
/-- what findPart keeps of the part that is sought -/
noncomputable def p_st (x : Int32) : Nat → List (Nat × Nat) → r_T → r_T
  | _, [], T => T
  | c, (q, z) :: l, T => p_st x (c + 1) l (fg_if (nI c = x) (rt_F (rt_F T 87 (nI q)) 88 (nI z)) T)
theorem p_st_fr (x : Int32) : ∀ (l : List (Nat × Nat)) (c : Nat) (T : r_T), r_fr [87, 88] T (p_st x c l T) := by
  intro l
  induction l with
  | nil => intro c T; exact r_fr0
  | cons p l ih =>
    intro c T
    obtain ⟨q, z⟩ := p
    refine r_frt ?_ (ih (c + 1) _)
    by_cases e : nI c = x
    · rw [fg_if_1 e]; exact r_frt (r_frF (by decide)) (r_frF (by decide))
    · rw [fg_if_0 e]; exact r_fr0
theorem p_st_k (x : Int32) : ∀ (l : List (Nat × Nat)) (c : Nat) (T : r_T), (∀ j, j < l.length → nI (c + j) ≠ x) → p_st x c l T = T := by
  intro l
  induction l with
  | nil => intro c T _; rfl
  | cons p l ih =>
    intro c T h
    obtain ⟨q, z⟩ := p
    show p_st x (c + 1) l _ = T
    have h0 : ¬ nI c = x := h 0 (by simp)
    rw [fg_if_0 h0, ih]
    intro j hj
    have := h (j + 1) (by simp; omega)
    rwa [show c + 1 + j = c + (j + 1) by omega]
theorem p_st_g : ∀ (l : List (Nat × Nat)) (c j q z : Nat) (T : r_T), c + l.length ≤ 1000 → l[j]? = some (q, z) → (p_st (nI (c + j)) c l T).1 87 = nI q ∧ (p_st (nI (c + j)) c l T).1 88 = nI z := by
  intro l
  induction l with
  | nil => intro c j q z T _ h; cases h
  | cons p l ih =>
    intro c j q z T hc h
    obtain ⟨q2, z2⟩ := p
    rw [List.length_cons] at hc
    cases j with
    | zero =>
      have h' : some (q2, z2) = some (q, z) := h
      injection h' with h'
      injection h' with h1 h2
      subst h1 h2
      show (p_st (nI (c + 0)) (c + 1) l _).1 87 = _ ∧ (p_st (nI (c + 0)) (c + 1) l _).1 88 = _
      have e0 : nI c = nI (c + 0) := rfl
      rw [fg_if_1 e0, p_st_k _ _ _ _ (fun j hj e => by have := (n_eq (by omega) (by omega)).mp e; omega)]
      simp [rt_FF]
    | succ j =>
      have h' : l[j]? = some (q, z) := h
      have hj := (List.getElem?_eq_some_iff.mp h').1
      have := ih (c + 1) j q z (fg_if (nI c = nI (c + (j + 1))) (rt_F (rt_F T 87 (nI q2)) 88 (nI z2)) T) (by omega) h'
      rw [show c + 1 + j = c + (j + 1) by omega] at this
      exact this
variable {G : Nat → Int32} {n a m : Nat}
theorem ri_findPart_101 (hm : 1 ≤ m) (ha : a + m ≤ 500) (hn : n ≤ 300) (h35 : T.1 35 = nI n) (h36 : ∀ i, i < n → T.2 36 i = G i) {K : Int32 → Int32 → Int32 → Int32 → Int32 → r_T → Option (Int32 × r_T)} {x3 x6 : Int32} {p : Nat} : ∀ (d i N : Nat), i + d = n → d < N → 1 ≤ i → s_hl a m (G (i - 1)) → fn_X12_findPart_101 K N x3 (nI a) (nI (a + m - 1)) x6 (nI i) (nI p) T = fn_X12_findPart_149 K x3 (nI a) (nI (a + m - 1)) x6 (nI (p_run (s_hl a m) G d i)) (nI p) T := by
  intro d
  induction d with
  | zero =>
    intro i N hi hN _ _
    obtain ⟨N, rfl⟩ : ∃ m, N = m + 1 := ⟨N - 1, by omega⟩
    show fn_X12_findPart_101b _ _ _ _ _ _ _ _ _ = _
    unfold fn_X12_findPart_101b
    rw [h35, fg_if_1 ((n_le (by omega) (by omega)).mpr (by omega))]
    rfl
  | succ d ih =>
    intro i N hi hN h1 hl
    obtain ⟨N, rfl⟩ : ∃ m, N = m + 1 := ⟨N - 1, by omega⟩
    show fn_X12_findPart_101b _ (fn_X12_findPart_101 K N) _ _ _ _ _ _ _ = _
    unfold fn_X12_findPart_101b p_run
    obtain ⟨j, rfl⟩ : ∃ j, i = j + 1 := ⟨i - 1, by omega⟩
    obtain ⟨z, z1, z2, z3⟩ := hl
    have z3' : G j = nI z := z3
    rw [h35, fg_if_0 (fun q => by have := (n_le (a := n) (b := j + 1) (by omega) (by omega)).mp q; omega), fg_g_1 ((n_vp (by omega)).mpr (by omega)), n_m1, fg_g_1 ((n_vp (by omega)).mpr (by omega)), fg_g_1 ((n_vp (by omega)).mpr (by omega)), q_nIx (by omega), q_nIx (by omega), h36 _ (by omega), h36 _ (by omega), n_p1, Nat.add_sub_cancel]
    by_cases c : G (j + 1) = G j + 1
    · rw [fg_if_1 c]
      by_cases c2 : nI (a + m - 1) < G (j + 1)
      · rw [fg_if_1 c2, fg_if_0 (fun q => Int32.not_le.mpr c2 ((s_hl_i hm ha _).mpr q.1).2)]
      · have c3 : s_hl a m (G (j + 1)) := by
          refine (s_hl_i hm ha _).mp ⟨?_, Int32.not_lt.mp c2⟩
          rw [c, z3', n_p1]
          exact (n_le (by omega) (by omega)).mpr (by omega)
        rw [fg_if_0 c2, fg_if_1 ⟨c3, c⟩]
        exact ih (j + 1 + 1) N (by omega) (by omega) (by omega) c3
    · rw [fg_if_0 c, fg_if_0 (fun q => c q.2)]
theorem ri_findPart_53 (hm : 1 ≤ m) (ha : a + m ≤ 500) (hn : n ≤ 300) {x3 : Int32} : ∀ (f i N c : Nat) (T : r_T), T.1 35 = nI n → (∀ i, i < n → T.2 36 i = G i) → n ≤ i + f → f < N → i ≤ n → fn_X12_findPart_53 N x3 (nI a) (nI (a + m - 1)) (nI c) (nI i) T = some (nI (c + (p_pts (s_hl a m) G n f i).length), p_st x3 c (p_pts (s_hl a m) G n f i) T) := by
  intro f
  induction f with
  | zero =>
    intro i N c T h35 h36 hi hN hin
    obtain ⟨N, rfl⟩ : ∃ m, N = m + 1 := ⟨N - 1, by omega⟩
    show fn_X12_findPart_53b _ _ _ _ _ _ _ = _
    unfold fn_X12_findPart_53b
    rw [h35, fg_if_1 ((n_le (by omega) (by omega)).mpr (by omega))]
    rfl
  | succ f ih =>
    intro i N c T h35 h36 hi hN hin
    obtain ⟨N, rfl⟩ : ∃ m, N = m + 1 := ⟨N - 1, by omega⟩
    show fn_X12_findPart_53b (fn_X12_findPart_53 N) _ _ _ _ _ _ = _
    unfold fn_X12_findPart_53b p_pts
    by_cases ci : i < n
    · have e64 : ((nI a).toInt64 ≤ (G i).toInt64 ∧ (G i).toInt64 ≤ (nI (a + m - 1)).toInt64) ↔ s_hl a m (G i) := (q_c64 _ _ _ rfl rfl).trans (s_hl_i hm ha _)
      rw [h35, fg_if_0 (fun q => by have := (n_le (a := n) (b := i) (by omega) (by omega)).mp q; omega), fg_g_1 ((n_vp (by omega)).mpr (by omega)), fg_g_1 ((n_vp (by omega)).mpr (by omega)), q_nIx (by omega), h36 _ ci, fg_if_1 ci, n_p1]
      have sk : ¬ s_hl a m (G i) → fn_X12_findPart_53 N x3 (nI a) (nI (a + m - 1)) (nI c) (nI (i + 1)) T = some (nI (c + (p_pts (s_hl a m) G n f (i + 1)).length), p_st x3 c (p_pts (s_hl a m) G n f (i + 1)) T) := fun _ => ih (i + 1) N c T h35 h36 (by omega) (by omega) (by omega)
      by_cases c7 : G i = -7
      · have c2 : ¬ s_hl a m (G i) := by rw [c7]; exact s_hl_7 a m ha
        rw [fg_if_1 c7, fg_if_0 c2, sk c2]
      · rw [fg_if_0 c7, ri_in, fg_b_1, q_bc e64, q_b_if]
        by_cases c2 : s_hl a m (G i)
        · have b := p_run_b (H := s_hl a m) (G := G) (n - (i + 1)) (i + 1)
          rw [fg_if_1 c2, fg_if_1 c2, ri_findPart_101 hm ha hn h35 h36 (n - (i + 1)) (i + 1) g_N (by omega) (by have := g_N_le; omega) (by omega) c2]
          unfold fn_X12_findPart_149
          rw [n_sub (by omega), n_p1, List.length_cons]
          have e : ∀ T2 : r_T, T2.1 35 = nI n → (∀ i, i < n → T2.2 36 i = G i) → fn_X12_findPart_53 N x3 (nI a) (nI (a + m - 1)) (nI (c + 1)) (nI (p_run (s_hl a m) G (n - (i + 1)) (i + 1))) T2 = some (nI (c + 1 + (p_pts (s_hl a m) G n f (p_run (s_hl a m) G (n - (i + 1)) (i + 1))).length), p_st x3 (c + 1) (p_pts (s_hl a m) G n f (p_run (s_hl a m) G (n - (i + 1)) (i + 1))) T2) := by
            intro T2 u1 u2
            exact ih _ N (c + 1) T2 u1 u2 (by omega) (by omega) (by omega)
          show _ = some (_, p_st x3 (c + 1) _ (fg_if (nI c = x3) (rt_F (rt_F T 87 (nI i)) 88 (nI (p_run (s_hl a m) G (n - (i + 1)) (i + 1) - i))) T))
          by_cases c3 : nI c = x3
          · rw [fg_if_1 c3, fg_if_1 c3, fg_let_1, fg_let_1, e (rt_F (rt_F T 87 (nI i)) 88 (nI (p_run (s_hl a m) G (n - (i + 1)) (i + 1) - i))) h35 h36]
            congr 3
            omega
          · rw [fg_if_0 c3, fg_if_0 c3, e _ h35 h36]
            congr 3
            omega
        · rw [fg_if_0 c2, fg_if_0 c2, sk c2]
    · rw [h35, fg_if_1 ((n_le (by omega) (by omega)).mpr (by omega)), fg_if_0 ci]
      rfl
theorem s_vg_in {v i : Nat} (h : i < (s_vs s v).length) : (s_vs s v)[i]? = some (s_vg s v i) := by
  unfold s_vg
  rw [List.getElem?_eq_getElem h]
  rfl
theorem s_end {l : Nat} (vm : ivm s) (hl : l < sC s 5) (e : Int32) : ∃ a n, 1 ≤ n ∧ a + n ≤ 500 ∧ s_e1 s l e = a ∧ s_e2 s l e = n ∧ fg_if (e = 0) (sF s 82 l) (sF s 84 l) = nI a ∧ fg_if (e = 0) (sF s 83 l) (sF s 85 l) = nI n := by
  obtain ⟨⟨a, n, h1, h2, h3, h4⟩, b, m, g1, g2, g3, g4⟩ := vm l hl
  unfold s_e1 s_e2
  by_cases c : e = 0
  · simp only [fg_if_1 c]
    exact ⟨a, n, h1, h2, by rw [h3, q_nIx (by omega)], by rw [h4, q_nIx (by omega)], h3, h4⟩
  · simp only [fg_if_0 c]
    exact ⟨b, m, g1, g2, by rw [g3, q_nIx (by omega)], by rw [g4, q_nIx (by omega)], g3, g4⟩
theorem ri_findPart (h : RA T s) (v : ivc s) (vm : ivm s) {l x : Nat} (hl : l < sC s 5) {w z : Nat} (hs : s_vs s x = s_sh (sR s) 4 w z) (h35 : T.1 35 = nI (s_sh (sR s) 4 w z).length) (h36 : l_out T (s_inf s w z)) (e x3 : Int32) : fn_X12_findPart (nI l) e x3 T = some (nI (s_pts s l e x).length, p_st x3 0 (s_pts s l e x) T) := by
  have v5 := v.2.2.2.2.2.1
  obtain ⟨a, n, h1, h2, h3, h4, h5, h6⟩ := s_end vm hl e
  have hn := s_vs_300 (s := s) x
  have g1 : vp_in (nI l) 24 := (n_vp (by omega)).mpr (by omega)
  have e53 := ri_findPart_53 (G := s_vg s x) (n := (s_vs s x).length) (a := a) (m := n) h1 h2 hn (x3 := x3) 300 0 g_N 0 T (by rw [hs]; exact h35) (fun i hi => l_out_w h36 (by rw [← hs]; exact s_vg_in hi)) (by omega) (by have := g_N_le; omega) (by omega)
  have e42 : fn_X12_findPart_42 x3 (nI a) (nI n) (nI a) T = some (nI (s_pts s l e x).length, p_st x3 0 (s_pts s l e x) T) := by
    unfold fn_X12_findPart_42 s_pts
    rw [n_add, show a + n = a + n - 1 + 1 by omega, n_m1, h3, h4]
    rw [Nat.zero_add] at e53
    exact e53
  unfold fn_X12_findPart fn_X12_findPart_19
  by_cases c : e = 0
  · simp only [fg_if_1 c] at h5 h6
    simp only [fg_if_1 c, fg_g_1 g1, q_nIx (show l < 2 ^ 31 by omega), h.2.1 82 rfl, h.2.1 83 rfl, h5, h6]
    exact e42
  · simp only [fg_if_0 c] at h5 h6
    simp only [fg_if_0 c, fg_g_1 g1, q_nIx (show l < 2 ^ 31 by omega), h.2.1 84 rfl, h.2.1 85 rfl, h5, h6]
    exact e42
theorem q_in64 (x : Int32) {A : Int64} {n : Nat} (hn : n < 1000) (hA : A = (nI n).toInt64) : ((0 : Int64) ≤ x.toInt64 ∧ x.toInt64 ≤ A) ↔ q_in x ((n : Int) + 1) := by
  rw [hA, q_in1, q_nI (by omega)]
theorem rs_ends (h : RA t s) (v : ivc s) (vp : ivp s) (vv : ivv s) (vm : ivm s) (l e x : Int32) : ∃ t2, fn_X12_ends l e x t = some ((s_ends s l e x).1, t2) ∧ RA t2 (s_ends s l e x).2 := by
  unfold fn_X12_ends s_ends
  rw [ri_noLink h v, fg_b_1, q_bn_if]
  by_cases c1 : q_in l (sC s 5)
  · rw [fg_if_1 c1, ri_noVersion h v, fg_b_1, q_bn_if]
    by_cases c2 : q_in x (sC s 4)
    · have c : q_in l (sC s 5) ∧ q_in x (sC s 4) := ⟨c1, c2⟩
      have ee : ((0 : Int64) ≤ e.toInt64 ∧ e.toInt64 ≤ 1) ↔ q_in e 2 := q_in64 e (n := 1) (by decide) rfl
      rw [fg_if_1 c2, ri_in, fg_b_1, q_bc ee, q_b_if]
      simp only [fg_if_1 c]
      by_cases c3 : q_in e 2
      · obtain ⟨e1, l1⟩ := n_in c1
        obtain ⟨e2, l2⟩ := n_in c2
        obtain ⟨t2, w, z, f1, f2, f3, f4, f5⟩ := ri_layVersion h v vp vv l2
        have ef := ri_findPart f5 v vm l1 f2 f3 f4 e (-1)
        rw [← e2] at f1
        rw [← e1] at ef
        rw [fg_if_1 c3, f1, fg_b_1, ef, fg_b_1, fg_if_1 c3]
        exact ⟨_, rfl, RA_fr f5 (p_st_fr _ _ _ _) (by decide)⟩
      · rw [fg_if_0 c3, fg_if_0 c3]
        exact ⟨t, rfl, h⟩
    · have c : ¬ (q_in l (sC s 5) ∧ q_in x (sC s 4)) := fun q => c2 q.2
      rw [fg_if_0 c2]
      simp only [fg_if_0 c]
      exact ⟨t, rfl, h⟩
  · have c : ¬ (q_in l (sC s 5) ∧ q_in x (sC s 4)) := fun q => c1 q.1
    rw [fg_if_0 c1]
    simp only [fg_if_0 c]
    exact ⟨t, rfl, h⟩
theorem s_pts_len {l x : Nat} (e : Int32) : (s_pts s l e x).length ≤ (s_vs s x).length := by
  have := p_pts_len (H := s_hl (s_e1 s l e) (s_e2 s l e)) (G := s_vg s x) (n := (s_vs s x).length) 300 0 (Nat.zero_le _)
  unfold s_pts
  omega
theorem p_pts_in {H : Int32 → Prop} {n : Nat} : ∀ (f i q z : Nat), (q, z) ∈ p_pts H G n f i → q < n := by
  intro f
  induction f with
  | zero => intro i q z h; cases h
  | succ f ih =>
    intro i q z h
    unfold p_pts at h
    by_cases c : i < n
    · rw [fg_if_1 c] at h
      by_cases c2 : H (G i)
      · rw [fg_if_1 c2] at h
        rcases List.mem_cons.mp h with w | w
        · injection w with w1 w2; omega
        · exact ih _ _ _ w
      · rw [fg_if_0 c2] at h
        exact ih _ _ _ h
    · rw [fg_if_0 c] at h; cases h
theorem rs_part (h : RA t s) (v : ivc s) (vp : ivp s) (vv : ivv s) (vm : ivm s) (l e x i u : Int32) : ∃ t2, fn_X12_part l e x i u t = some ((s_part s l e x i u).1, t2) ∧ RA t2 (s_part s l e x i u).2 := by
  unfold fn_X12_part s_part
  rw [ri_noLink h v, fg_b_1, q_bn_if]
  by_cases c1 : q_in l (sC s 5)
  · rw [fg_if_1 c1, ri_noVersion h v, fg_b_1, q_bn_if]
    by_cases c2 : q_in x (sC s 4)
    · rw [fg_if_1 c2]
      by_cases c3 : 0 ≤ i
      · have c : q_in l (sC s 5) ∧ q_in x (sC s 4) ∧ 0 ≤ i := ⟨c1, c2, c3⟩
        have ee : ((0 : Int64) ≤ e.toInt64 ∧ e.toInt64 ≤ 1) ↔ q_in e 2 := q_in64 e (n := 1) (by decide) rfl
        have eu : ((0 : Int64) ≤ u.toInt64 ∧ u.toInt64 ≤ 2) ↔ q_in u 3 := q_in64 u (n := 2) (by decide) rfl
        rw [fg_if_1 c3, ri_in, fg_b_1, q_bc ee, q_b_if]
        simp only [fg_if_1 c]
        by_cases c4 : q_in e 2
        · rw [fg_if_1 c4, ri_in, fg_b_1, q_bc eu, q_b_if]
          by_cases c5 : q_in u 3
          · have cc : q_in e 2 ∧ q_in u 3 := ⟨c4, c5⟩
            obtain ⟨e1, l1⟩ := n_in c1
            obtain ⟨e2, l2⟩ := n_in c2
            obtain ⟨t2, w, z, f1, f2, f3, f4, f5⟩ := ri_layVersion h v vp vv l2
            have hi0 : 0 ≤ i.toInt := Int32.le_iff_toInt_le.mp c3
            have e3 := n_of hi0
            have i31 := n_ixlt i
            have ef := ri_findPart f5 v vm l1 f2 f3 f4 e i
            have hlen := s_pts_len (s := s) (l := h_ix l) (x := h_ix x) e
            have h300 := s_vs_300 (s := s) (h_ix x)
            rw [← e2] at f1
            rw [← e1] at ef
            have hR : RA (p_st i 0 (s_pts s (h_ix l) e (h_ix x)) t2) s := RA_fr f5 (p_st_fr _ _ _ _) (by decide)
            have h36 : (p_st i 0 (s_pts s (h_ix l) e (h_ix x)) t2).2 36 = t2.2 36 := (p_st_fr i (s_pts s (h_ix l) e (h_ix x)) 0 t2).2 36 (by decide)
            have elt : i < nI (s_pts s (h_ix l) e (h_ix x)).length ↔ h_ix i < (s_pts s (h_ix l) e (h_ix x)).length := by
              rw [e3, q_nIx i31]
              exact n_lt i31 (by omega)
            rw [fg_if_1 c5, f1, fg_b_1, ef, fg_b_1, fg_if_c elt]
            simp only [fg_if_1 cc]
            by_cases c6 : h_ix i < (s_pts s (h_ix l) e (h_ix x)).length
            · rw [fg_if_1 c6, fg_if_1 c6]
              have hg := List.getElem?_eq_getElem c6
              have hmem := List.getElem_mem c6
              generalize (s_pts s (h_ix l) e (h_ix x))[h_ix i] = p at hg hmem
              obtain ⟨q, z⟩ := p
              have hq := p_pts_in _ _ _ _ hmem
              obtain ⟨g1, g2⟩ := p_st_g (s_pts s (h_ix l) e (h_ix x)) 0 (h_ix i) q z t2 (by omega) hg
              rw [Nat.zero_add, ← e3] at g1 g2
              have e36 : t2.2 36 q = s_vg s (h_ix x) q := l_out_w f4 (by rw [← f2]; exact s_vg_in hq)
              rw [g1, g2, h36, fg_g_1 ((n_vp (by omega)).mpr (by omega)), q_nIx (by omega), e36, hg]
              unfold s_ptw
              simp only [fg_if_some]
              exact ⟨_, rfl, hR⟩
            · rw [fg_if_0 c6, fg_if_0 c6]
              exact ⟨_, rfl, hR⟩
          · have cc : ¬ (q_in e 2 ∧ q_in u 3) := fun q => c5 q.2
            rw [fg_if_0 c5]
            simp only [fg_if_0 cc]
            exact ⟨t, rfl, h⟩
        · have cc : ¬ (q_in e 2 ∧ q_in u 3) := fun q => c4 q.1
          rw [fg_if_0 c4]
          simp only [fg_if_0 cc]
          exact ⟨t, rfl, h⟩
      · have c : ¬ (q_in l (sC s 5) ∧ q_in x (sC s 4) ∧ 0 ≤ i) := fun q => c3 q.2.2
        rw [fg_if_0 c3]
        simp only [fg_if_0 c]
        exact ⟨t, rfl, h⟩
    · have c : ¬ (q_in l (sC s 5) ∧ q_in x (sC s 4) ∧ 0 ≤ i) := fun q => c2 q.2.1
      rw [fg_if_0 c2]
      simp only [fg_if_0 c]
      exact ⟨t, rfl, h⟩
  · have c : ¬ (q_in l (sC s 5) ∧ q_in x (sC s 4) ∧ 0 ≤ i) := fun q => c1 q.1
    rw [fg_if_0 c1]
    simp only [fg_if_0 c]
    exact ⟨t, rfl, h⟩
end RPs
