/-! join of the reference: the ways -/
section RWy
variable {t T : r_T} {s : sA} {C R A B : List Int32}
/-- the way of a side lies there -/
def r_wy (T : r_T) (e : Nat) (C R : List Int32) (m : Nat) : Prop := ∀ i, i < m → T.2 68 (302 * e + i) = nI (w_fr C R i) ∧ T.2 70 (302 * e + i) = nI (w_en C R i) ∧ T.2 69 (301 * e + i) = q_b (¬ w_kp C R i)
def r_ww (T : r_T) (e : Nat) (R : List Int32) (m : Nat) : Prop := ∀ y, y < m → T.2 66 (300 * e + y) = w_c R y
/-- what lies ahead of the side's places stays -/
def r_lo (e : Nat) (T T2 : r_T) : Prop := ∀ x, (x < 302 * e → T2.2 68 x = T.2 68 x ∧ T2.2 70 x = T.2 70 x) ∧ (x < 301 * e → T2.2 69 x = T.2 69 x) ∧ (x < 300 * e → T2.2 66 x = T.2 66 x)
theorem r_lo0 {e : Nat} : r_lo e T T := fun _ => ⟨fun _ => ⟨rfl, rfl⟩, fun _ => rfl, fun _ => rfl⟩
theorem r_lot {e : Nat} {T2 T3 : r_T} (h : r_lo e T T2) (h2 : r_lo e T2 T3) : r_lo e T T3 := fun x => ⟨fun q => ⟨((h2 x).1 q).1.trans ((h x).1 q).1, ((h2 x).1 q).2.trans ((h x).1 q).2⟩, fun q => ((h2 x).2.1 q).trans ((h x).2.1 q), fun q => ((h2 x).2.2 q).trans ((h x).2.2 q)⟩
theorem w_in {a b i : Nat} {L : List Int32} (h : r_in a b T L) (hi : i < L.length) : T.2 b i = w_c L i := h.2 i _ (w_c_in hi)
/-- behind what is put ahead -/
theorem ri_way_t {e i j : Nat} (he : e < 2) (hC : C.length ≤ 300) (hR : R.length ≤ 300) (hi : i ≤ C.length) (hj : j ≤ R.length) (h1 : r_in 60 62 T C) (h2 : r_in 61 63 T R) {K59 : Int32 → Int32 → Int32 → r_T → Option (Unit × r_T)} (M : Nat) : fn_X12_layWay_85 K59 (M + 1) (nI e) (nI j) (nI i) 0 T = K59 (nI e) (nI (fg_if (w_sm C R i j) (j + 1) j)) (nI (i + 1)) (rt_A (rt_A T 70 (302 * e + i) (nI j)) 69 (301 * e + i) (q_b (¬ w_sm C R i j))) := by
  have e2 : (302 : Int32) * nI e + nI i = nI (302 * e + i) := by rw [show (302 : Int32) = nI 302 from rfl, n_mul, n_add]
  have e1 : (301 : Int32) * nI e + nI i = nI (301 * e + i) := by rw [show (301 : Int32) = nI 301 from rfl, n_mul, n_add]
  have g1 : vp_in (nI (302 * e + i)) 604 := (n_vp (by omega)).mpr (by omega)
  have g2 : vp_in (nI (301 * e + i)) 602 := (n_vp (by omega)).mpr (by omega)
  have b0 : h_bt 0 := Or.inl rfl
  have b1 : h_bt 1 := Or.inr rfl
  have n1 : ¬ (1 : Int32) = 0 := by decide
  have x60 : (rt_A T 70 (302 * e + i) (nI j)).1 60 = nI C.length := h1.1
  have x61 : (rt_A T 70 (302 * e + i) (nI j)).1 61 = nI R.length := h2.1
  have x62 : (rt_A T 70 (302 * e + i) (nI j)).2 62 i = T.2 62 i := by rw [rt_AA, if_neg (by decide)]
  have x63 : (rt_A T 70 (302 * e + i) (nI j)).2 63 j = T.2 63 j := by rw [rt_AA, if_neg (by decide)]
  have no : ¬ w_sm C R i j → fn_X12_layWay_231 K59 (nI e) (nI j) (nI i) 0 (rt_A T 70 (302 * e + i) (nI j)) = K59 (nI e) (nI (fg_if (w_sm C R i j) (j + 1) j)) (nI (i + 1)) (rt_A (rt_A T 70 (302 * e + i) (nI j)) 69 (301 * e + i) (q_b (¬ w_sm C R i j))) := by
    intro c
    unfold fn_X12_layWay_231 fn_X12_layWay_255
    rw [fg_if_1 rfl, e1, fg_g_1 g2, fg_g_1 b1, fg_let_1, fg_if_1 rfl, Int32.add_zero, q_nIx (by omega), n_p1, fg_if_0 c, q_b1 c]
  show fn_X12_layWay_85b K59 (fn_X12_layWay_85 K59 M) _ _ _ _ _ = _
  unfold fn_X12_layWay_85b
  rw [fg_if_1 rfl, e2, fg_g_1 g1, fg_let_1, q_nIx (show 302 * e + i < 2 ^ 31 by omega), x60, x61]
  by_cases c1 : C.length ≤ i
  · rw [fg_if_1 ((n_le (by omega) (by omega)).mpr c1)]
    exact no (fun w => by have := w.1; omega)
  · rw [fg_if_0 (fun w => c1 ((n_le (by omega) (by omega)).mp w))]
    by_cases c2 : R.length ≤ j
    · rw [fg_if_1 ((n_le (by omega) (by omega)).mpr c2)]
      exact no (fun w => by have := w.2.1; omega)
    · rw [fg_if_0 (fun w => c2 ((n_le (by omega) (by omega)).mp w)), fg_g_1 ((n_vp (by omega)).mpr (by omega)), fg_g_1 ((n_vp (by omega)).mpr (by omega)), q_nIx (show i < 2 ^ 31 by omega), q_nIx (show j < 2 ^ 31 by omega), x62, x63, w_in h1 (by omega), w_in h2 (by omega)]
      by_cases c3 : w_c C i = w_c R j
      · have c : w_sm C R i j := ⟨by omega, by omega, c3⟩
        rw [fg_if_1 c3]
        unfold fn_X12_layWay_231 fn_X12_layWay_255
        rw [fg_if_0 n1, e1, fg_g_1 g2, fg_g_1 b0, fg_let_1, fg_if_0 n1, q_nIx (show 301 * e + i < 2 ^ 31 by omega), n_p1, n_p1, fg_if_1 c, q_b0 (fun w => w c)]
      · rw [fg_if_0 c3]
        exact no (fun w => c3 w.2.2)
theorem ri_way_85 {e i : Nat} (he : e < 2) (hC : C.length ≤ 300) (hR : R.length ≤ 300) (hi : i ≤ C.length) (h1 : r_in 60 62 T C) (h2 : r_in 61 63 T R) (h64 : ∀ a b, a ≤ C.length → b ≤ R.length → T.2 64 (301 * a + b) = nI (s_T C R a b)) {K59 : Int32 → Int32 → Int32 → r_T → Option (Unit × r_T)} : ∀ (d j N : Nat), j + d = R.length → d + 1 < N → ∃ z, z = (if i < C.length then w_go C R i d j else R.length) ∧ fn_X12_layWay_85 K59 N (nI e) (nI j) (nI i) 1 T = K59 (nI e) (nI (fg_if (w_sm C R i z) (z + 1) z)) (nI (i + 1)) (rt_A (rt_A T 70 (302 * e + i) (nI z)) 69 (301 * e + i) (q_b (¬ w_sm C R i z))) := by
  have n1 : ¬ (1 : Int32) = 0 := by decide
  intro d
  induction d with
  | zero =>
    intro j N hj hN
    obtain ⟨N, rfl⟩ : ∃ m, N = m + 1 + 1 := ⟨N - 2, by omega⟩
    have ez : (if i < C.length then w_go C R i 0 j else R.length) = j := by
      by_cases c : i < C.length
      · rw [if_pos c]; rfl
      · rw [if_neg c]; omega
    refine ⟨j, ez.symm, ?_⟩
    refine Eq.trans ?_ (ri_way_t he hC hR hi (show j ≤ R.length by omega) h1 h2 N)
    show fn_X12_layWay_85b K59 (fn_X12_layWay_85 K59 (N + 1)) _ _ _ _ _ = _
    unfold fn_X12_layWay_85b
    rw [fg_if_0 n1, h2.1, fg_if_1 ((n_le (by omega) (by omega)).mpr (by omega))]
    unfold fn_X12_layWay_160 fn_X12_layWay_161
    rw [fg_if_1 rfl, Int32.add_zero]
  | succ d ih =>
    intro j N hj hN
    obtain ⟨N, rfl⟩ : ∃ m, N = m + 1 + 1 := ⟨N - 2, by omega⟩
    have go : fn_X12_layWay_156 K59 (fn_X12_layWay_85 K59 (N + 1)) (nI e) (nI j) (nI i) T = fn_X12_layWay_85 K59 (N + 1) (nI e) (nI (j + 1)) (nI i) 1 T := by
      unfold fn_X12_layWay_156 fn_X12_layWay_161
      rw [fg_if_0 n1, n_p1]
    have stop : fn_X12_layWay_160 K59 (fn_X12_layWay_85 K59 (N + 1)) (nI e) (nI j) (nI i) T = fn_X12_layWay_85 K59 (N + 1) (nI e) (nI j) (nI i) 0 T := by
      unfold fn_X12_layWay_160 fn_X12_layWay_161
      rw [fg_if_1 rfl, Int32.add_zero]
    show ∃ z, _ ∧ fn_X12_layWay_85b K59 (fn_X12_layWay_85 K59 (N + 1)) _ _ _ _ _ = _
    unfold fn_X12_layWay_85b
    rw [fg_if_0 n1, h2.1, fg_if_0 (fun w => by have := (n_le (a := R.length) (b := j) (by omega) (by omega)).mp w; omega), h1.1, go, stop]
    by_cases c1 : i = C.length
    · obtain ⟨z, z1, z2⟩ := ih (j + 1) (N + 1) (by omega) (by omega)
      rw [if_neg (by omega)] at z1
      refine ⟨z, by rw [if_neg (by omega)]; exact z1, ?_⟩
      rw [fg_if_1 (by rw [c1])]
      exact z2
    · have hi2 : i < C.length := by omega
      have q1 : (301 : Int32) * (nI i + 1) + nI j = nI (301 * (i + 1) + j) := by rw [show (301 : Int32) = nI 301 from rfl, n_p1, n_mul, n_add]
      have q2 : (301 : Int32) * nI i + nI j + 1 = nI (301 * i + (j + 1)) := by rw [show (301 : Int32) = nI 301 from rfl, n_mul, n_add, n_p1]; rfl
      have t1 := s_T_le (A := C) (B := R) (i + 1) j
      have t2 := s_T_le (A := C) (B := R) i (j + 1)
      rw [fg_if_0 (fun w => c1 ((n_eq (by omega) (by omega)).mp w)), fg_g_1 ((n_vp (by omega)).mpr (by omega)), fg_g_1 ((n_vp (by omega)).mpr (by omega)), q_nIx (show i < 2 ^ 31 by omega), q_nIx (show j < 2 ^ 31 by omega), w_in h1 hi2, w_in h2 (by omega), q1, q2, fg_g_1 ((n_vp (by omega)).mpr (by omega)), fg_g_1 ((n_vp (by omega)).mpr (by omega)), q_nIx (by omega), q_nIx (by omega), h64 _ _ (by omega) (by omega), h64 _ _ (by omega) (by omega)]
      simp only [if_pos hi2]
      unfold w_go
      by_cases c2 : w_c C i = w_c R j
      · rw [fg_if_1 c2, fg_if_0 (fun w : w_on C R i j => w.2.1 c2)]
        exact ⟨j, rfl, ri_way_t he hC hR hi (by omega) h1 h2 N⟩
      · rw [fg_if_0 c2]
        by_cases c3 : s_T C R (i + 1) j < s_T C R i (j + 1)
        · have con : w_on C R i j := ⟨by omega, c2, c3⟩
          have c3' : ¬ nI (s_T C R i (j + 1)) ≤ nI (s_T C R (i + 1) j) := fun w => by have := (n_le (by omega) (by omega)).mp w; omega
          rw [fg_if_0 c3', fg_if_1 con]
          obtain ⟨z, z1, z2⟩ := ih (j + 1) (N + 1) (by omega) (by omega)
          rw [if_pos hi2] at z1
          exact ⟨z, z1, z2⟩
        · have c3' : nI (s_T C R i (j + 1)) ≤ nI (s_T C R (i + 1) j) := (n_le (by omega) (by omega)).mpr (by omega)
          rw [fg_if_1 c3', fg_if_0 (fun w : w_on C R i j => c3 w.2.2)]
          exact ⟨j, rfl, ri_way_t he hC hR hi (by omega) h1 h2 N⟩
theorem ri_way_59 {e : Nat} (he : e < 2) (hC : C.length ≤ 300) (hR : R.length ≤ 300) : ∀ (d i N : Nat) (T : r_T), i + d = C.length + 1 → d < N → r_in 60 62 T C → r_in 61 63 T R → (∀ a b, a ≤ C.length → b ≤ R.length → T.2 64 (301 * a + b) = nI (s_T C R a b)) → r_wy T e C R i → ∃ T2, fn_X12_layWay_59 N (nI e) (nI (w_fr C R i)) (nI i) T = some ((), T2) ∧ r_fr [68, 69, 70] T T2 ∧ r_wy T2 e C R (C.length + 1) ∧ r_lo e T T2 := by
  intro d
  induction d with
  | zero =>
    intro i N T hi hN h1 h2 h3 h4
    obtain ⟨N, rfl⟩ : ∃ m, N = m + 1 := ⟨N - 1, by omega⟩
    refine ⟨T, ?_, r_fr0, by rw [← hi]; exact h4, r_lo0⟩
    show fn_X12_layWay_59b _ _ _ _ _ = _
    unfold fn_X12_layWay_59b
    rw [h1.1, fg_if_1 ((n_lt (by omega) (by omega)).mpr (by omega))]
  | succ d ih =>
    intro i N T hi hN h1 h2 h3 h4
    obtain ⟨N, rfl⟩ : ∃ m, N = m + 1 := ⟨N - 1, by omega⟩
    have e2 : (302 : Int32) * nI e + nI i = nI (302 * e + i) := by rw [show (302 : Int32) = nI 302 from rfl, n_mul, n_add]
    have hf := w_fr_le (C := C) (R := R) i
    obtain ⟨T1, hT1⟩ : ∃ T1, T1 = rt_A T 68 (302 * e + i) (nI (w_fr C R i)) := ⟨_, rfl⟩
    have f1 : r_fr [68, 69, 70] T T1 := by rw [hT1]; exact r_frA (by decide)
    have in1 : r_in 60 62 T1 C := ⟨by rw [f1.1 60 (by decide)]; exact h1.1, fun a x hx => by rw [f1.2 62 (by decide)]; exact h1.2 a x hx⟩
    have in2 : r_in 61 63 T1 R := ⟨by rw [f1.1 61 (by decide)]; exact h2.1, fun a x hx => by rw [f1.2 63 (by decide)]; exact h2.2 a x hx⟩
    obtain ⟨z, z1, z2⟩ := ri_way_85 (T := T1) he hC hR (show i ≤ C.length by omega) in1 in2 (by rw [f1.2 64 (by decide)]; exact h3) (K59 := fn_X12_layWay_59 N) (R.length - w_fr C R i) (w_fr C R i) g_N (by omega) (by have := g_N_le; omega)
    have ez : z = w_en C R i := z1
    have en : fg_if (w_sm C R i z) (z + 1) z = w_fr C R (i + 1) := by rw [ez]; rfl
    obtain ⟨T2, hT2⟩ : ∃ T2, T2 = rt_A (rt_A T1 70 (302 * e + i) (nI z)) 69 (301 * e + i) (q_b (¬ w_sm C R i z)) := ⟨_, rfl⟩
    have f2 : r_fr [68, 69, 70] T T2 := by rw [hT2]; exact r_frt f1 (r_frt (r_frA (by decide)) (r_frA (by decide)))
    have x68 : ∀ x, T2.2 68 x = if x = 302 * e + i then nI (w_fr C R i) else T.2 68 x := fun x => by rw [hT2, hT1]; simp [rt_AA]
    have x70 : ∀ x, T2.2 70 x = if x = 302 * e + i then nI z else T.2 70 x := fun x => by rw [hT2, hT1]; simp [rt_AA]
    have x69 : ∀ x, T2.2 69 x = if x = 301 * e + i then q_b (¬ w_sm C R i z) else T.2 69 x := fun x => by rw [hT2, hT1]; simp [rt_AA]
    have lo : r_lo e T T2 := fun x => ⟨fun q => ⟨by rw [x68, if_neg (by omega)], by rw [x70, if_neg (by omega)]⟩, fun q => by rw [x69, if_neg (by omega)], fun q => by rw [f2.2 66 (by decide)]⟩
    obtain ⟨T3, m1, m2, m3, m4⟩ := ih (i + 1) N T2 (by omega) (by omega) ⟨by rw [f2.1 60 (by decide)]; exact h1.1, fun a x hx => by rw [f2.2 62 (by decide)]; exact h1.2 a x hx⟩ ⟨by rw [f2.1 61 (by decide)]; exact h2.1, fun a x hx => by rw [f2.2 63 (by decide)]; exact h2.2 a x hx⟩ (by rw [f2.2 64 (by decide)]; exact h3) (fun a ha => by
      rw [x68, x70, x69]
      by_cases c : a = i
      · rw [if_pos (by omega), if_pos (by omega), if_pos (by omega), c, ez]
        exact ⟨rfl, rfl, rfl⟩
      · rw [if_neg (by omega), if_neg (by omega), if_neg (by omega)]
        exact h4 a (by omega))
    refine ⟨T3, ?_, r_frt f2 m2, m3, r_lot lo m4⟩
    show fn_X12_layWay_59b (fn_X12_layWay_59 N) _ _ _ _ = _
    unfold fn_X12_layWay_59b
    rw [h1.1, fg_if_0 (fun w => by have := (n_lt (a := C.length) (b := i) (by omega) (by omega)).mp w; omega), e2, fg_g_1 ((n_vp (by omega)).mpr (by omega)), fg_let_1, q_nIx (by omega), ← hT1, z2, en, ← hT2]
    exact m1
theorem ri_way_22 {e : Nat} (he : e < 2) (hR : R.length ≤ 300) : ∀ (d j N : Nat) (T : r_T), j + d = R.length → d < N → r_in 61 63 T R → r_ww T e R j → ∃ T2, fn_X12_layWay_22 N (nI e) (nI j) T = fn_X12_layWay_59 g_N (nI e) 0 0 T2 ∧ r_fr [66] T T2 ∧ r_ww T2 e R R.length ∧ r_lo e T T2 := by
  intro d
  induction d with
  | zero =>
    intro j N T hj hN h2 h4
    obtain ⟨N, rfl⟩ : ∃ m, N = m + 1 := ⟨N - 1, by omega⟩
    refine ⟨T, ?_, r_fr0, by rw [← hj]; exact h4, r_lo0⟩
    show fn_X12_layWay_22b _ _ _ _ = _
    unfold fn_X12_layWay_22b
    rw [h2.1, fg_if_1 ((n_le (by omega) (by omega)).mpr (by omega))]
  | succ d ih =>
    intro j N T hj hN h2 h4
    obtain ⟨N, rfl⟩ : ∃ m, N = m + 1 := ⟨N - 1, by omega⟩
    have e2 : (300 : Int32) * nI e + nI j = nI (300 * e + j) := by rw [show (300 : Int32) = nI 300 from rfl, n_mul, n_add]
    have f1 : r_fr [66] T (rt_A T 66 (300 * e + j) (w_c R j)) := r_frA (by decide)
    obtain ⟨T2, m1, m2, m3, m4⟩ := ih (j + 1) N (rt_A T 66 (300 * e + j) (w_c R j)) (by omega) (by omega) ⟨h2.1, fun a x hx => by rw [f1.2 63 (by decide)]; exact h2.2 a x hx⟩ (fun y hy => by
      rw [rt_AA, if_pos rfl]
      by_cases c : y = j
      · rw [if_pos (by omega), c]
      · rw [if_neg (by omega)]; exact h4 y (by omega))
    refine ⟨T2, ?_, r_frt f1 m2, m3, r_lot (fun x => ⟨fun _ => ⟨by rw [f1.2 68 (by decide)], by rw [f1.2 70 (by decide)]⟩, fun _ => by rw [f1.2 69 (by decide)], fun q => by rw [rt_AA, if_pos rfl, if_neg (by omega)]⟩) m4⟩
    show fn_X12_layWay_22b (fn_X12_layWay_22 N) _ _ _ = _
    unfold fn_X12_layWay_22b
    rw [h2.1, fg_if_0 (fun w => by have := (n_le (a := R.length) (b := j) (by omega) (by omega)).mp w; omega), fg_g_1 ((n_vp (by omega)).mpr (by omega)), e2, fg_g_1 ((n_vp (by omega)).mpr (by omega)), fg_let_1, q_nIx (by omega), q_nIx (by omega), w_in h2 (by omega), n_p1]
    exact m1
def l_V8 : List Nat := 64 :: 66 :: 67 :: 68 :: 69 :: 70 :: l_V7
theorem ri_layWay (h : RA t s) (v : ivc s) (vp : ivp s) (vv : ivv s) {x e : Nat} (he : e < 2) (hx : x < sC s 4) (hC : C.length ≤ 300) (h1 : r_in 60 62 t C) : ∃ T2, fn_X12_layWay (nI e) (nI x) t = some ((), T2) ∧ r_fr l_V8 t T2 ∧ RA T2 s ∧ r_wy T2 e C (s_jC s (nI x)) (C.length + 1) ∧ r_ww T2 e (s_jC s (nI x)) (s_jC s (nI x)).length ∧ r_lo e t T2 := by
  have v4 := v.2.2.2.2.1
  have hl := s_vs_300 (s := s) x
  have hlen := s_kp_len 0 (s_vs s x)
  have eJ : s_jC s (nI x) = s_kp 0 (s_vs s x) := by unfold s_jC; rw [q_nIx (by omega)]
  rw [eJ]
  obtain ⟨T1, a1, a2, a3, a4⟩ := ri_takeTwo h v vp vv hx 0
  have in1 : r_in 60 62 T1 C := ⟨by rw [a2.1 60 (by decide)]; exact h1.1, fun a x hx => by rw [a2.2 62 (by decide)]; exact h1.2 a x hx⟩
  obtain ⟨T2, b1, b2, b3⟩ := ri_layShared hC (by omega) in1 a4
  obtain ⟨T3, hT3⟩ : ∃ T3, T3 = rt_A T2 67 e (T2.1 61) := ⟨_, rfl⟩
  have f3 : r_fr [64, 67] T1 T3 := by rw [hT3]; exact r_frt (r_frS b2 (by decide)) (r_frA (by decide))
  have in3 : r_in 61 63 T3 (s_kp 0 (s_vs s x)) := ⟨by rw [f3.1 61 (by decide)]; exact a4.1, fun a x hx => by rw [f3.2 63 (by decide)]; exact a4.2 a x hx⟩
  obtain ⟨T4, c1, c2, c3, c4⟩ := ri_way_22 he (R := s_kp 0 (s_vs s x)) (by omega) _ 0 g_N T3 (Nat.zero_add _) (by have := g_N_le; omega) in3 (fun y hy => by omega)
  have f4 : r_fr [64, 66, 67] T1 T4 := r_frt (r_frS f3 (by decide)) (r_frS c2 (by decide))
  obtain ⟨T5, d1, d2, d3, d4⟩ := ri_way_59 (C := C) (R := s_kp 0 (s_vs s x)) he hC (by omega) (C.length + 1) 0 g_N T4 (by omega) (by have := g_N_le; omega) ⟨by rw [f4.1 60 (by decide)]; exact in1.1, fun a x hx => by rw [f4.2 62 (by decide)]; exact in1.2 a x hx⟩ ⟨by rw [f4.1 61 (by decide)]; exact a4.1, fun a x hx => by rw [f4.2 63 (by decide)]; exact a4.2 a x hx⟩ (fun a b ha hb => by
    rw [c2.2 64 (by decide), hT3, rt_AA, if_neg (by decide)]
    exact b3 a b ha hb) (fun i hi => by omega)
  have f5 : r_fr l_V8 t T5 := r_frt (r_frS a2 (by decide)) (r_frt (r_frS f4 (by decide)) (r_frS d2 (by decide)))
  refine ⟨T5, ?_, f5, RA_fr h f5 (by decide), d3, fun y hy => by rw [d2.2 66 (by decide)]; exact c3 y hy, fun z => ?_⟩
  · unfold fn_X12_layWay
    rw [a1, fg_b_1, b1, fg_b_1, fg_g_1 ((n_vp (by omega)).mpr (by omega)), fg_let_1, q_nIx (by omega), ← hT3]
    exact c1.trans d1
  · have l13 : ∀ k, k = 66 ∨ k = 68 ∨ k = 69 ∨ k = 70 → T3.2 k = t.2 k := fun k hk => by
      rw [f3.2 k (by simp; omega), a2.2 k (by unfold l_V7 l_V5 l_S; simp; omega)]
    refine ⟨fun q => ⟨?_, ?_⟩, fun q => ?_, fun q => ?_⟩
    · rw [((d4 z).1 q).1, ((c4 z).1 q).1, l13 68 (by simp)]
    · rw [((d4 z).1 q).2, ((c4 z).1 q).2, l13 70 (by simp)]
    · rw [(d4 z).2.1 q, (c4 z).2.1 q, l13 69 (by simp)]
    · rw [(d4 z).2.2 q, (c4 z).2.2 q, l13 66 (by simp)]
end RWy
