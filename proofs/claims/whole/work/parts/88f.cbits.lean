/-- a set of numbers below 32, as bits -/
def b_set (X : Int32) (P : Nat → Prop) : Prop := ∀ i, i < 32 → (X.toBitVec.getLsbD i = true ↔ P i)
section CBi
variable {k k2 k3 : h_S} {s : sA} {y : c_Y} {M : Nat}
theorem b_set0 : b_set 0 (fun _ => False) := fun i _ => by rw [b_0]; simp
theorem b_set_or {X : Int32} {P : Nat → Prop} {w : Nat} (h : b_set X P) (hw : w < 32) : b_set (X ||| (1 <<< (nI w &&& 31))) (fun i => P i ∨ i = w) := by
  intro i hi
  rw [Int32.toBitVec_or, BitVec.getLsbD_or, b_shl 1 hw, BitVec.getLsbD_shiftLeft, b_1, Bool.or_eq_true, h i hi]
  have : (decide (i < 32) && !decide (i < w) && decide (i - w < 1)) = true ↔ i = w := by
    simp only [Bool.and_eq_true, decide_eq_true_eq, Bool.not_eq_true', decide_eq_false_iff_not]
    omega
  rw [this]
theorem b_set_orS {X Y : Int32} {P Q : Nat → Prop} (h : b_set X P) (h2 : b_set Y Q) : b_set (X ||| Y) (fun i => P i ∨ Q i) := by
  intro i hi
  rw [Int32.toBitVec_or, BitVec.getLsbD_or, Bool.or_eq_true, h i hi, h2 i hi]
theorem b_set_c {X : Int32} {P Q : Nat → Prop} (h : b_set X P) (e : ∀ i, i < 32 → (P i ↔ Q i)) : b_set X Q := fun i hi => (h i hi).trans (e i hi)
theorem b_set_an {X Y : Int32} {P Q : Nat → Prop} (h : b_set X P) (h2 : b_set Y Q) : b_set (X &&& (Y ^^^ (-1))) (fun i => P i ∧ ¬ Q i) := by
  intro i hi
  rw [Int32.toBitVec_and, BitVec.getLsbD_and, Int32.toBitVec_xor, BitVec.getLsbD_xor, b_m1 hi, Bool.and_eq_true, h i hi]
  have := h2 i hi
  cases e : Y.toBitVec.getLsbD i
  · simp [e] at this; simp [this]
  · simp [e] at this; simp [this]
theorem b_set_z {X : Int32} {P : Nat → Prop} (h : b_set X P) : X = 0 ↔ ∀ i, i < 32 → ¬ P i := by
  constructor
  · intro e i hi hP
    have := (h i hi).mpr hP
    rw [e, b_0] at this
    exact absurd this (by decide)
  · intro e
    apply b_ext
    intro i hi
    rw [b_0]
    cases q : X.toBitVec.getLsbD i
    · rfl
    · exact absurd ((h i hi).mp q) (e i hi)
theorem b_set_bit {X : Int32} {P : Nat → Prop} {n : Nat} (h : b_set X P) (hn : n < 32) : ((X >>> (nI n &&& 31)) &&& 1) = 1 ↔ P n := (b_sbit X hn).trans (h n hn)
theorem CB_wd (h : CBM k s M y) {x : Nat} (hx : x < sC s 3) : c_wd k (yA y 18 x) (sF s 23 x) (sF s 24 x) (sF s 25 x) (sF s 26 x) (sF s 27 x) := h.2.2.2.2.2.1.1 x hx
theorem ci_homesOf_5 (h : CBM k s M y) (v : ivc s) (vd : ivd s) {f n : Nat} (hf : f + n ≤ sC s 3) : ∀ (d j N : Nat) (X : Int32), j + d = n → d < N → b_set X (fun i => ∃ a, a < j ∧ sF s 25 (f + a) = nI i) → ∃ X2, fn_X7_homesOf_5 N (nI f) (nI n) X (nI j) k = some (X2, k) ∧ b_set X2 (fun i => ∃ a, a < n ∧ sF s 25 (f + a) = nI i) := by
  have v3 := v.2.2.2.1
  have v2 := v.2.2.1
  intro d
  induction d with
  | zero =>
    intro j N X hj hN hX
    obtain ⟨N, rfl⟩ : ∃ m, N = m + 1 := ⟨N - 1, by omega⟩
    obtain rfl : j = n := by omega
    refine ⟨X, ?_, hX⟩
    show fn_X7_homesOf_5b _ _ _ _ _ _ = _
    unfold fn_X7_homesOf_5b
    rw [fg_if_1 (Int32.le_refl _)]
  | succ d ih =>
    intro j N X hj hN hX
    obtain ⟨N, rfl⟩ : ∃ m, N = m + 1 := ⟨N - 1, by omega⟩
    obtain ⟨⟨w, hw, ew⟩, _⟩ := vd (f + j) (by omega)
    have wd := CB_wd h (x := f + j) (by omega)
    have nn : ¬ (some (yA y 18 (f + j)) = none) := by simp
    show ∃ X2, fn_X7_homesOf_5b (fn_X7_homesOf_5 N) _ _ _ _ _ = _ ∧ _
    unfold fn_X7_homesOf_5b
    rw [fg_if_0 (fun z => by have := (n_le (a := n) (b := j) (by omega) (by omega)).mp z; omega), n_add, ci_wordAt h v, fg_if_1 ((n_inI (by omega)).mpr (by omega)), fg_b_1, q_nIx (by omega), fg_if_0 nn, fg_o_1, fg_g_1 wd.2.1, fg_let_1, wd.2.2.2.2.1, ew, n_p1]
    refine ih (j + 1) N _ (by omega) (by omega) (b_set_c (b_set_or hX (by omega)) (fun i hi => ?_))
    constructor
    · rintro (⟨a, h1, h2⟩ | rfl)
      · exact ⟨a, by omega, h2⟩
      · exact ⟨j, by omega, ew⟩
    · rintro ⟨a, h1, h2⟩
      by_cases e : a = j
      · right
        rw [e, ew] at h2
        exact ((n_eq (by omega) (by omega)).mp h2).symm
      · exact Or.inl ⟨a, by omega, h2⟩
theorem ci_homesOf (h : CBM k s M y) (v : ivc s) (vd : ivd s) {f n : Nat} (hf : f + n ≤ sC s 3) : ∃ X2, fn_X7_homesOf (nI f) (nI n) k = some (X2, k) ∧ b_set X2 (fun i => ∃ a, a < n ∧ sF s 25 (f + a) = nI i) := by
  have v3 := v.2.2.2.1
  exact ci_homesOf_5 h v vd hf n 0 g_N 0 (by omega) (by have := g_N_le; omega) (b_set_c b_set0 (fun i _ => ⟨fun q => q.elim, fun ⟨a, h, _⟩ => absurd h (Nat.not_lt_zero _)⟩))
theorem ci_usable_6 (h : CBM k s M y) (v : ivc s) (vr : ivr2 s) {m u : Nat} (hm : m ≤ sC s 0) (hu : u < 32) (x : Int32) : ∀ (d j N : Nat) (X : Int32), j + d = sC s 2 → d < N → b_set X (fun i => i < j ∧ ¬ s_whyOf s x (nI i) (nI u) (nI m) = -9) → ∃ X2, fn_X11_usable_6 N x (nI u) (nI m) X (nI j) k = some (X2, k) ∧ b_set X2 (fun i => i < sC s 2 ∧ ¬ s_whyOf s x (nI i) (nI u) (nI m) = -9) := by
  have v2 := v.2.2.1
  intro d
  induction d with
  | zero =>
    intro j N X hj hN hX
    obtain ⟨N, rfl⟩ : ∃ m, N = m + 1 := ⟨N - 1, by omega⟩
    have ej : j = sC s 2 := by omega
    rw [ej] at hX
    refine ⟨X, ?_, hX⟩
    show fn_X11_usable_6b _ _ _ _ _ _ _ = _
    unfold fn_X11_usable_6b
    rw [h.2.1.2.2.1, fg_if_1 ((n_le (by omega) (by omega)).mpr (by omega))]
  | succ d ih =>
    intro j N X hj hN hX
    obtain ⟨N, rfl⟩ : ∃ m, N = m + 1 := ⟨N - 1, by omega⟩
    show ∃ X2, fn_X11_usable_6b (fn_X11_usable_6 N) _ _ _ _ _ _ = _ ∧ _
    unfold fn_X11_usable_6b
    rw [h.2.1.2.2.1, fg_if_0 (fun z => by have := (n_le (a := sC s 2) (b := j) (by omega) (by omega)).mp z; omega), ci_mayUse h v vr (w := j) (by omega) hm hu x, fg_b_1, q_b_if, fg_let_1, n_p1]
    by_cases c : ¬ s_whyOf s x (nI j) (nI u) (nI m) = -9
    · rw [fg_if_1 c]
      refine ih (j + 1) N _ (by omega) (by omega) (b_set_c (b_set_or hX (by omega)) (fun i hi => ?_))
      constructor
      · rintro (⟨h1, h2⟩ | rfl)
        · exact ⟨by omega, h2⟩
        · exact ⟨by omega, c⟩
      · rintro ⟨h1, h2⟩
        by_cases e : i = j
        · exact Or.inr e
        · exact Or.inl ⟨by omega, h2⟩
    · rw [fg_if_0 c]
      refine ih (j + 1) N _ (by omega) (by omega) (b_set_c hX (fun i hi => ?_))
      constructor
      · rintro ⟨h1, h2⟩; exact ⟨by omega, h2⟩
      · rintro ⟨h1, h2⟩
        by_cases e : i = j
        · rw [e] at h2; exact absurd h2 c
        · exact ⟨by omega, h2⟩
theorem ci_usable (h : CBM k s M y) (v : ivc s) (vr : ivr2 s) {m u : Nat} (hm : m ≤ sC s 0) (hu : u < 32) (x : Int32) : ∃ X2, fn_X11_usable x (nI u) (nI m) k = some (X2, k) ∧ b_set X2 (fun i => i < sC s 2 ∧ ¬ s_whyOf s x (nI i) (nI u) (nI m) = -9) := by
  have v2 := v.2.2.1
  exact ci_usable_6 h v vr hm hu x (sC s 2) 0 g_N 0 (by omega) (by have := g_N_le; omega) (b_set_c b_set0 (fun i _ => ⟨fun q => q.elim, fun q => absurd q.1 (Nat.not_lt_zero _)⟩))
theorem cs_seen (h : CB k s y) (v : ivc s) (g : ivg s) (v0 : sC s 0 < 512) (vt : ivt s) (vp : ivp s) (vq : ivq s) (vx : ivx s) (vv : ivv s) (vr : ivr2 s) (vd : ivd s) (w a f n : Int32) : ∃ k2 c d y2, fn_X11_seen w a f n k = some ((s_seen s w a f n).1, k2, c, d) ∧ CB k2 (s_seen s w a f n).2 y2 ∧ c + zC y2 ≤ zC y + 5 ∧ d + zD y2 ≤ zD y + 42 := by
  have v2 := v.2.2.1
  have v3 := v.2.2.2.1
  obtain ⟨K1, y1, x1, z1, a1, a2, a3, a4⟩ := ci_takesAhead h v vp vq w a
  unfold fn_X11_seen s_seen
  rw [a1, fg_bc_1, q_b_if]
  by_cases c1 : s_ahd s w a
  · rw [fg_if_1 c1]
    simp only [fg_if_1 c1]
    by_cases c2 : n < 1
    · rw [fg_if_0 (Int32.not_le.mpr c2)]
      simp only [fg_if_1 c2, fg_c_1]
      exact ⟨K1, _, _, y1, rfl, a2, by omega, by omega⟩
    · rw [fg_if_1 (Int32.not_lt.mp c2), ci_areWords (CB_M a2) v, fg_b_1, q_b_if]
      simp only [fg_if_0 c2]
      by_cases c3 : s_words s f n
      · simp only [fg_if_1 c3]
        obtain ⟨e1, l1⟩ := n_in c1.1
        obtain ⟨e3, l3⟩ := n_in (n := (s_SH s w).length + 1) c1.2
        have hS : (s_SH s w).length ≤ 300 := s_sh_300 _ _ _ _
        obtain ⟨e4, e5, l4, l5⟩ := s_wordsN c3
        obtain ⟨X, p1, p2⟩ := ci_homesOf (CB_M a2) v vd l5
        rw [← e4, ← e5] at p1
        have ho := ci_ownerOf (CB_M a2) v l1
        rw [← e1] at ho
        obtain ⟨U, u1, u2⟩ := ci_usable (CB_M a2) v vr (m := sC s 0) (u := 1) (Nat.le_refl _) (by omega) (sF s 9 (h_ix w))
        have u1' : fn_X11_usable (sF s 9 (h_ix w)) 1 (nI (sC s 0)) K1 = some (U, K1) := u1
        have ec : (X &&& (U ^^^ (-1))) = 0 ↔ (∀ i, i < h_ix n → s_qt s w (sF s 25 (h_ix f + i))) := by
          rw [b_set_z (b_set_an p2 u2)]
          constructor
          · intro q i hi
            obtain ⟨⟨z, hz, ez⟩, _⟩ := vd (h_ix f + i) (by omega)
            unfold s_qt
            rw [ez]
            exact Classical.byContradiction (fun r => q z (by omega) ⟨⟨i, hi, ez⟩, fun r2 => r r2.2⟩)
          · rintro q i hi ⟨⟨b, hb, eb⟩, r⟩
            have := q b hb
            unfold s_qt at this
            rw [eb] at this
            obtain ⟨⟨z, hz, ez⟩, _⟩ := vd (h_ix f + b) (by omega)
            rw [eb] at ez
            have : i = z := (n_eq (by omega) (by omega)).mp ez
            exact r ⟨by omega, ‹_›⟩
        rw [p1, fg_b_1, ho, fg_b_1, a2.2.1.1, u1', fg_b_1, fg_if_c ec]
        by_cases c4 : ∀ i, i < h_ix n → s_qt s w (sF s 25 (h_ix f + i))
        · simp only [fg_if_1 c4]
          have hp : s_pn s (sC s 0) ((1, f, n, -9, -9) : sP) := ⟨⟨⟨⟨1, by omega, rfl⟩, ⟨h_ix n, l4, by omega, e5⟩, ⟨h_ix f, by omega, e4⟩, fun q => absurd (show (1 : Int32) < 2 by decide) q, fun q => absurd q (by show ¬ (1 : Int32) = 2; decide)⟩, fun _ => l5⟩, fun q => absurd q (by show ¬ (1 : Int32) = 2; decide)⟩
          obtain ⟨k2, cc, dd, y2, f1, f2, f3, f4⟩ := ci_newShows a2 v g v0 vt vp vq vx vv l1 (a := h_ix a) (by omega) hp
          rw [← e1, ← e3] at f1
          rw [← e1] at f2
          have f1' := f1
          dsimp only at f1'
          rw [f1', fg_c_1]
          exact ⟨k2, _, _, y2, rfl, f2, by omega, by omega⟩
        · simp only [fg_if_0 c4, fg_c_1]
          exact ⟨K1, _, _, y1, rfl, a2, by omega, by omega⟩
      · simp only [fg_if_0 c3, fg_c_1]
        exact ⟨K1, _, _, y1, rfl, a2, by omega, by omega⟩
  · rw [fg_if_0 c1]
    simp only [fg_if_0 c1, fg_c_1]
    exact ⟨K1, _, _, y1, rfl, a2, by omega, by omega⟩
end CBi
