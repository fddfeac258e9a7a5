/-! join of the reference: rows, clashes -/
section RJa
variable {t T : r_T} {s : sA} {C R A B F G : List Int32}
/-- words alone -/
def j_wd (R : List Int32) : Prop := ∀ y, y < R.length → ∃ z, z < 500 ∧ w_c R y = nI z
theorem ri_joinRow {e f u : Nat} (he : e < 2) (hR : R.length ≤ 300) (hu : u ≤ R.length) : ∀ (d y N : Nat) (T : r_T) (acc : List Int32), y + d = u → d < N → r_ww T e R R.length → r_in 71 72 T acc → acc.length + d ≤ 600 → ∃ T2, fn_X12_joinRow_3 N (nI e) (nI u) (nI y) T = some ((), T2) ∧ r_fr [71, 72] T T2 ∧ r_in 71 72 T2 (acc ++ w_sg R y u) := by
  intro d
  induction d with
  | zero =>
    intro y N T acc hy hN hw hi hr
    obtain ⟨N, rfl⟩ : ∃ m, N = m + 1 := ⟨N - 1, by omega⟩
    refine ⟨T, ?_, r_fr0, by rw [w_sg_n (by omega), List.append_nil]; exact hi⟩
    show fn_X12_joinRow_3b _ _ _ _ _ = _
    unfold fn_X12_joinRow_3b
    rw [fg_if_1 ((n_le (by omega) (by omega)).mpr (by omega))]
  | succ d ih =>
    intro y N T acc hy hN hw hi hr
    obtain ⟨N, rfl⟩ : ∃ m, N = m + 1 := ⟨N - 1, by omega⟩
    have e2 : (300 : Int32) * nI e + nI y = nI (300 * e + y) := by rw [show (300 : Int32) = nI 300 from rfl, n_mul, n_add]
    have f1 : r_fr [71, 72] T (rt_F (rt_A T 72 acc.length (w_c R y)) 71 (nI (acc.length + 1))) := r_frt (r_frA (by decide)) (r_frF (by decide))
    obtain ⟨T2, m1, m2, m3⟩ := ih (y + 1) N _ (acc ++ [w_c R y]) (by omega) (by omega) (fun z hz => by rw [f1.2 66 (by decide)]; exact hw z hz) (r_in_sn hi (by omega) trivial) (by rw [List.length_append, List.length_cons, List.length_nil]; omega)
    refine ⟨T2, ?_, r_frt f1 m2, ?_⟩
    · show fn_X12_joinRow_3b (fn_X12_joinRow_3 N) _ _ _ _ = _
      unfold fn_X12_joinRow_3b
      rw [fg_if_0 (fun w => by have := (n_le (a := u) (b := y) (by omega) (by omega)).mp w; omega), e2, fg_g_1 ((n_vp (by omega)).mpr (by omega)), hi.1, fg_g_1 ((n_vp (by omega)).mpr (by omega)), fg_let_1, fg_let_1, q_nIx (by omega), q_nIx (by omega), hw y (by omega), rt_AF, hi.1, n_p1, n_p1]
      exact m1
    · rw [w_sg_c (by omega) hu]
      rw [List.append_assoc] at m3
      exact m3
theorem i_sub500 {a b : Nat} (ha : a < 500) (hb : b < 500) : (nI a - nI b = 0 ↔ nI a = nI b) ∧ (nI a - nI b < 0 ↔ nI a < nI b) := by
  have e : (nI a - nI b).toInt = (a : Int) - b := by rw [q_sub (by rw [q_nI (by omega), q_nI (by omega)]; omega) (by rw [q_nI (by omega), q_nI (by omega)]; omega), q_nI (by omega), q_nI (by omega)]
  have z : (0 : Int32).toInt = 0 := rfl
  constructor
  · rw [← Int32.toInt_inj, ← Int32.toInt_inj, e, q_nI (by omega), q_nI (by omega), z]; omega
  · rw [Int32.lt_iff_toInt_lt, Int32.lt_iff_toInt_lt, e, q_nI (by omega), q_nI (by omega), z]; omega
theorem ri_compareRows {b d : Nat} (hA : A.length ≤ 300) (hB : B.length ≤ 300) (hb : b ≤ A.length) (hd : d ≤ B.length) (wA : j_wd A) (wB : j_wd B) (w0 : r_ww T 0 A A.length) (w1 : r_ww T 1 B B.length) : ∀ (n x y N : Nat), x + n = b → n < N → y ≤ d → ∃ p, fn_X12_compareRows_6 N (nI b) (nI d) (nI x) (nI y) T = some (p, T) ∧ (p = 0 ↔ s_lx (w_sg A x b) (w_sg B y d) = 0) ∧ (p < 0 ↔ s_lx (w_sg A x b) (w_sg B y d) = 1) := by
  intro n
  induction n with
  | zero =>
    intro x y N hx hN hy
    obtain ⟨N, rfl⟩ : ∃ m, N = m + 1 := ⟨N - 1, by omega⟩
    have c0 : nI b ≤ nI x := (n_le (by omega) (by omega)).mpr (by omega)
    show ∃ p, fn_X12_compareRows_6b _ _ _ _ _ _ = _ ∧ _
    unfold fn_X12_compareRows_6b fn_X12_compareRows_57
    rw [fg_if_1 c0, fg_if_1 c0, w_sg_n (show b ≤ x by omega)]
    by_cases c : d ≤ y
    · rw [fg_if_1 ((n_le (by omega) (by omega)).mpr c), w_sg_n c]
      exact ⟨0, rfl, by decide, by decide⟩
    · rw [fg_if_0 (fun w => c ((n_le (by omega) (by omega)).mp w)), w_sg_c (show y < d by omega) hd]
      refine ⟨-1, rfl, ?_, ?_⟩
      · exact ⟨fun h => absurd h (by decide), fun h => absurd h (show ¬ (1 : Nat) = 0 by decide)⟩
      · exact ⟨fun _ => rfl, fun _ => by decide⟩
  | succ n ih =>
    intro x y N hx hN hy
    obtain ⟨N, rfl⟩ : ∃ m, N = m + 1 := ⟨N - 1, by omega⟩
    have c0 : ¬ nI b ≤ nI x := fun w => by have := (n_le (a := b) (b := x) (by omega) (by omega)).mp w; omega
    show ∃ p, fn_X12_compareRows_6b (fn_X12_compareRows_6 N) _ _ _ _ _ = _ ∧ _
    unfold fn_X12_compareRows_6b fn_X12_compareRows_57
    rw [fg_if_0 c0, w_sg_c (show x < b by omega) hb]
    by_cases c : d ≤ y
    · rw [fg_if_1 ((n_le (by omega) (by omega)).mpr c), fg_if_0 c0, w_sg_n c]
      exact ⟨1, rfl, ⟨fun h => absurd h (by decide), fun h => absurd h (show ¬ (2 : Nat) = 0 by decide)⟩, ⟨fun h => absurd h (by decide), fun h => absurd h (show ¬ (2 : Nat) = 1 by decide)⟩⟩
    · have e2 : (300 : Int32) + nI y = nI (300 + y) := by rw [show (300 : Int32) = nI 300 from rfl, n_add]
      have x0 : T.2 66 x = w_c A x := by have := w0 x (by omega); rw [Nat.mul_zero, Nat.zero_add] at this; exact this
      have x1 : T.2 66 (300 + y) = w_c B y := by have := w1 y (by omega); rw [Nat.mul_one] at this; exact this
      obtain ⟨za, ha, ea⟩ := wA x (by omega)
      obtain ⟨zb, hbz, eb⟩ := wB y (by omega)
      obtain ⟨s1, s2⟩ := i_sub500 ha hbz
      rw [fg_if_0 (fun w => c ((n_le (by omega) (by omega)).mp w)), fg_g_1 ((n_vp (by omega)).mpr (by omega)), e2, fg_g_1 ((n_vp (by omega)).mpr (by omega)), fg_let_1, q_nIx (by omega), q_nIx (by omega), x0, x1, w_sg_c (show y < d by omega) hd, ea, eb]
      unfold s_lx
      by_cases c1 : nI za = nI zb
      · rw [fg_if_1 (s1.mpr c1), n_p1, n_p1]
        simp only [if_pos c1]
        exact ih (x + 1) (y + 1) N (by omega) (by omega) (by omega)
      · rw [fg_if_0 (fun w => c1 (s1.mp w))]
        simp only [if_neg c1]
        refine ⟨nI za - nI zb, rfl, ⟨fun h => absurd (s1.mp h) c1, fun h => ?_⟩, ?_⟩
        · split at h <;> cases h
        · rw [s2]
          by_cases c2 : nI za < nI zb
          · rw [if_pos c2]; exact ⟨fun _ => rfl, fun _ => c2⟩
          · rw [if_neg c2]; exact ⟨fun h => absurd h c2, fun h => absurd h (by decide)⟩
/-- clashes behind the first c -/
def r_kc (T : r_T) (c : Nat) (L : List (List Int32 × List Int32)) : Prop := T.1 74 = nI c ∧ T.1 73 = nI L.length ∧ ∀ (k : Nat) (P Q : List Int32), L[k]? = some (P, Q) → c + k < 12 → (P.length ≤ 300 ∧ Q.length ≤ 300) ∧ T.2 76 (c + k) = nI P.length ∧ T.2 77 (c + k) = nI Q.length ∧ ∀ (j : Nat) (x : Int32), (P ++ Q)[j]? = some x → T.2 79 (600 * (c + k) + j) = x
def r_kl (c : Nat) (T T2 : r_T) : Prop := (∀ x, x < c → T2.2 76 x = T.2 76 x ∧ T2.2 77 x = T.2 77 x) ∧ ∀ x, x < 600 * c → T2.2 79 x = T.2 79 x
theorem r_kl0 {c : Nat} : r_kl c T T := ⟨fun _ _ => ⟨rfl, rfl⟩, fun _ _ => rfl⟩
theorem r_klt {c : Nat} {T2 T3 : r_T} (h : r_kl c T T2) (h2 : r_kl c T2 T3) : r_kl c T T3 := ⟨fun x hx => ⟨(h2.1 x hx).1.trans (h.1 x hx).1, (h2.1 x hx).2.trans (h.1 x hx).2⟩, fun x hx => (h2.2 x hx).trans (h.2 x hx)⟩
theorem ri_kc_148 {e e' K n f u : Nat} (he : e < 2) (ee : e' = 1 - e) (hK : K < 12) (hn : n ≤ 300) (hG : G.length ≤ 300) (hu : u ≤ G.length) (hf : f ≤ u) : ∀ (d y N : Nat) (T : r_T), y + d = u → f ≤ y → d < N → r_ww T e' G G.length → T.2 76 K = nI n → ∃ T2, fn_X12_keepClash_148 N (nI e) (nI K) (nI f) (nI u) (nI y) T = some ((), T2) ∧ r_fr [73, 79] T T2 ∧ T2.1 73 = T.1 73 + 1 ∧ ∀ x, T2.2 79 x = if 600 * K + n + (y - f) ≤ x ∧ x < 600 * K + n + (u - f) then w_c G (f + (x - (600 * K + n))) else T.2 79 x := by
  have e1 : (1 : Int32) - nI e = nI e' := by rw [ee, show (1 : Int32) = nI 1 from rfl, n_sub (by omega)]
  intro d
  induction d with
  | zero =>
    intro y N T hy hfy hN hw h76
    obtain ⟨N, rfl⟩ : ∃ m, N = m + 1 := ⟨N - 1, by omega⟩
    refine ⟨rt_F T 73 (T.1 73 + 1), ?_, r_frF (by decide), by rw [rt_FF, if_pos rfl], fun x => by rw [if_neg (by omega)]; rfl⟩
    show fn_X12_keepClash_148b _ _ _ _ _ _ _ = _
    unfold fn_X12_keepClash_148b fn_X12_keepClash_201
    rw [fg_if_1 ((n_le (by omega) (by omega)).mpr (by omega)), fg_let_1]
  | succ d ih =>
    intro y N T hy hfy hN hw h76
    obtain ⟨N, rfl⟩ : ∃ m, N = m + 1 := ⟨N - 1, by omega⟩
    have e2 : (300 : Int32) * nI e' + nI y = nI (300 * e' + y) := by rw [show (300 : Int32) = nI 300 from rfl, n_mul, n_add]
    have e3 : (600 : Int32) * nI K + nI n + nI y - nI f = nI (600 * K + n + (y - f)) := by rw [show (600 : Int32) = nI 600 from rfl, n_mul, n_add, n_add, n_sub (by omega)]; congr 1; omega
    have f1 : r_fr [73, 79] T (rt_A T 79 (600 * K + n + (y - f)) (w_c G y)) := r_frA (by decide)
    obtain ⟨T2, m1, m2, m3, m4⟩ := ih (y + 1) N (rt_A T 79 (600 * K + n + (y - f)) (w_c G y)) (by omega) (by omega) (by omega) (fun z hz => by rw [f1.2 66 (by decide)]; exact hw z hz) (by rw [f1.2 76 (by decide)]; exact h76)
    refine ⟨T2, ?_, r_frt f1 m2, m3, fun x => ?_⟩
    · show fn_X12_keepClash_148b (fn_X12_keepClash_148 N) _ _ _ _ _ _ = _
      unfold fn_X12_keepClash_148b
      rw [fg_if_0 (fun w => by have := (n_le (a := u) (b := y) (by omega) (by omega)).mp w; omega), fg_g_1 ((n_vp (by omega)).mpr hK), e1, e2, fg_g_1 ((n_vp (by omega)).mpr (by omega)), q_nIx (show K < 2 ^ 31 by omega), h76, e3, fg_g_1 ((n_vp (by omega)).mpr (by omega)), fg_let_1, q_nIx (by omega), q_nIx (by omega), hw y (by omega), n_p1]
      exact m1
    · rw [m4, rt_AA, if_pos rfl]
      by_cases c : x = 600 * K + n + (y - f)
      · rw [if_neg (by omega), if_pos c, if_pos (by omega)]
        congr 1
        omega
      · by_cases c2 : 600 * K + n + (y + 1 - f) ≤ x ∧ x < 600 * K + n + (u - f)
        · rw [if_pos c2, if_pos (by omega)]
        · rw [if_neg c2, if_neg c, if_neg (by omega)]
theorem ri_kc_65 {e K f u : Nat} {xa xb xc xd : Int32} (he : e < 2) (hK : K < 12) (hF : F.length ≤ 300) (hu : u ≤ F.length) (hf : f ≤ u) : ∀ (d y N : Nat) (T : r_T), y + d = u → f ≤ y → d < N → r_ww T e F F.length → ∃ T2, fn_X12_keepClash_65 N (nI e) xa xb xc xd (nI K) (nI f) (nI u) (nI y) T = fg_if (nI e = 0) (fn_X12_keepClash_118 (nI e) xb xd (nI K) xc T2) (fn_X12_keepClash_118 (nI e) xb xd (nI K) xa T2) ∧ r_fr [79] T T2 ∧ ∀ x, T2.2 79 x = if 600 * K + (y - f) ≤ x ∧ x < 600 * K + (u - f) then w_c F (f + (x - 600 * K)) else T.2 79 x := by
  intro d
  induction d with
  | zero =>
    intro y N T hy hfy hN hw
    obtain ⟨N, rfl⟩ : ∃ m, N = m + 1 := ⟨N - 1, by omega⟩
    refine ⟨T, ?_, r_fr0, fun x => by rw [if_neg (by omega)]⟩
    show fn_X12_keepClash_65b _ _ _ _ _ _ _ _ _ _ _ = _
    unfold fn_X12_keepClash_65b
    rw [fg_if_1 ((n_le (by omega) (by omega)).mpr (by omega))]
  | succ d ih =>
    intro y N T hy hfy hN hw
    obtain ⟨N, rfl⟩ : ∃ m, N = m + 1 := ⟨N - 1, by omega⟩
    have e2 : (300 : Int32) * nI e + nI y = nI (300 * e + y) := by rw [show (300 : Int32) = nI 300 from rfl, n_mul, n_add]
    have e3 : (600 : Int32) * nI K + nI y - nI f = nI (600 * K + (y - f)) := by rw [show (600 : Int32) = nI 600 from rfl, n_mul, n_add, n_sub (by omega)]; congr 1; omega
    have f1 : r_fr [79] T (rt_A T 79 (600 * K + (y - f)) (w_c F y)) := r_frA (by decide)
    obtain ⟨T2, m1, m2, m4⟩ := ih (y + 1) N (rt_A T 79 (600 * K + (y - f)) (w_c F y)) (by omega) (by omega) (by omega) (fun z hz => by rw [f1.2 66 (by decide)]; exact hw z hz)
    refine ⟨T2, ?_, r_frt f1 m2, fun x => ?_⟩
    · show fn_X12_keepClash_65b (fn_X12_keepClash_65 N) _ _ _ _ _ _ _ _ _ _ = _
      unfold fn_X12_keepClash_65b
      rw [fg_if_0 (fun w => by have := (n_le (a := u) (b := y) (by omega) (by omega)).mp w; omega), e2, fg_g_1 ((n_vp (by omega)).mpr (by omega)), e3, fg_g_1 ((n_vp (by omega)).mpr (by omega)), fg_let_1, q_nIx (by omega), q_nIx (by omega), hw y (by omega), n_p1]
      exact m1
    · rw [m4, rt_AA, if_pos rfl]
      by_cases c : x = 600 * K + (y - f)
      · rw [if_neg (by omega), if_pos c, if_pos (by omega)]
        congr 1
        omega
      · by_cases c2 : 600 * K + (y + 1 - f) ≤ x ∧ x < 600 * K + (u - f)
        · rw [if_pos c2, if_pos (by omega)]
        · rw [if_neg c2, if_neg c, if_neg (by omega)]
/-- both rows of a clash -/
theorem ri_kc_47 {e K f u f2 u2 : Nat} {xa xb xc xd : Int32} (he : e < 2) (hK : K < 12) (hF : F.length ≤ 300) (hG : G.length ≤ 300) (hu : u ≤ F.length) (hf : f ≤ u) (hu2 : u2 ≤ G.length) (hf2 : f2 ≤ u2) (hk : ∀ T, fg_if (nI e = 0) (fn_X12_keepClash_118 (nI e) xb xd (nI K) xc T) (fn_X12_keepClash_118 (nI e) xb xd (nI K) xa T) = fn_X12_keepClash_130 (nI e) (nI K) (nI f2) (nI u2) T) (w0 : r_ww T e F F.length) (w1 : r_ww T (1 - e) G G.length) : ∃ T2, fn_X12_keepClash_47 (nI e) xa xb xc xd (nI K) (nI f) (nI u) T = some ((), T2) ∧ r_fr [73, 76, 77, 79] T T2 ∧ T2.1 73 = T.1 73 + 1 ∧ (∀ x, T2.2 76 x = if x = K then nI (u - f) else T.2 76 x) ∧ (∀ x, T2.2 77 x = if x = K then nI (u2 - f2) else T.2 77 x) ∧ (∀ (j : Nat) (x : Int32), (w_sg F f u ++ w_sg G f2 u2)[j]? = some x → T2.2 79 (600 * K + j) = x) ∧ ∀ x, x < 600 * K → T2.2 79 x = T.2 79 x := by
  obtain ⟨T1, hT1⟩ : ∃ T1, T1 = rt_A T 76 K (nI (u - f)) := ⟨_, rfl⟩
  have f1 : r_fr [73, 76, 77, 79] T T1 := by rw [hT1]; exact r_frA (by decide)
  obtain ⟨T2, a1, a2, a3⟩ := ri_kc_65 (F := F) (xa := xa) (xb := xb) (xc := xc) (xd := xd) he hK hF hu hf (u - f) f g_N T1 (by omega) (Nat.le_refl _) (by have := g_N_le; omega) (fun z hz => by rw [f1.2 66 (by decide)]; exact w0 z hz)
  have f2' : r_fr [73, 76, 77, 79] T T2 := r_frt f1 (r_frS a2 (by decide))
  obtain ⟨T3, hT3⟩ : ∃ T3, T3 = rt_A T2 77 K (nI (u2 - f2)) := ⟨_, rfl⟩
  have f3 : r_fr [73, 76, 77, 79] T T3 := by rw [hT3]; exact r_frt f2' (r_frA (by decide))
  have x76 : ∀ x, T3.2 76 x = if x = K then nI (u - f) else T.2 76 x := fun x => by
    rw [hT3, rt_AA, if_neg (by decide), a2.2 76 (by decide), hT1, rt_AA, if_pos rfl]
  obtain ⟨T4, b1, b2, b3, b4⟩ := ri_kc_148 (G := G) he rfl hK (n := u - f) (by omega) hG hu2 hf2 (u2 - f2) f2 g_N T3 (by omega) (Nat.le_refl _) (by have := g_N_le; omega) (fun z hz => by rw [f3.2 66 (by decide)]; exact w1 z hz) (by rw [x76, if_pos rfl])
  have y79 : ∀ x, T3.2 79 x = if 600 * K + (f - f) ≤ x ∧ x < 600 * K + (u - f) then w_c F (f + (x - 600 * K)) else T.2 79 x := fun x => by
    have e79 : T1.2 79 x = T.2 79 x := by rw [hT1, rt_AA, if_neg (by decide)]
    rw [hT3, rt_AA, if_neg (by decide), a3, e79]
  refine ⟨T4, ?_, r_frt f3 (r_frS b2 (by decide)), ?_, fun x => ?_, fun x => ?_, fun j x hx => ?_, fun x hx => ?_⟩
  · unfold fn_X12_keepClash_47
    rw [fg_g_1 ((n_vp (by omega)).mpr hK), fg_let_1, n_sub hf, q_nIx (by omega), ← hT1, a1, hk]
    unfold fn_X12_keepClash_130
    rw [fg_g_1 ((n_vp (by omega)).mpr hK), fg_let_1, n_sub hf2, q_nIx (by omega), ← hT3]
    exact b1
  · rw [b3, hT3, rt_AF, a2.1 73 (by decide), hT1, rt_AF]
  · rw [b2.2 76 (by decide), x76]
  · have e77 : T2.2 77 x = T.2 77 x := by rw [a2.2 77 (by decide), hT1, rt_AA, if_neg (by decide)]
    rw [b2.2 77 (by decide), hT3, rt_AA, if_pos rfl, e77]
  · have lf := w_sg_len (R := F) (f := f) hu
    have lg := w_sg_len (R := G) (f := f2) hu2
    rw [b4, y79]
    by_cases c : j < u - f
    · rw [List.getElem?_append_left (by omega), w_sg_at (by omega) hu] at hx
      rw [if_neg (by omega), if_pos (by omega), show f + (600 * K + j - 600 * K) = f + j by omega]
      exact Option.some.inj hx
    · rw [List.getElem?_append_right (by omega), lf] at hx
      have hj := (List.getElem?_eq_some_iff.mp hx).1
      rw [w_sg_at (by omega) hu2] at hx
      rw [if_pos (by omega), show f2 + (600 * K + j - (600 * K + (u - f))) = f2 + (j - (u - f)) by omega]
      exact Option.some.inj hx
  · rw [b4, if_neg (by omega), y79, if_neg (by omega)]
theorem r_kc_s {c : Nat} {L : List (List Int32 × List Int32)} {P Q : List Int32} {T2 : r_T} (h : r_kc T c L) (hP : P.length ≤ 300) (hQ : Q.length ≤ 300) (hf : r_fr [73, 76, 77, 79] T T2) (h73 : T2.1 73 = T.1 73 + 1) (h76 : ∀ x, T2.2 76 x = if x = c + L.length then nI P.length else T.2 76 x) (h77 : ∀ x, T2.2 77 x = if x = c + L.length then nI Q.length else T.2 77 x) (h79 : ∀ (j : Nat) (x : Int32), (P ++ Q)[j]? = some x → T2.2 79 (600 * (c + L.length) + j) = x) (lo : ∀ x, x < 600 * (c + L.length) → T2.2 79 x = T.2 79 x) : r_kc T2 c (L ++ [(P, Q)]) ∧ r_kl c T T2 := by
  refine ⟨⟨by rw [hf.1 74 (by decide)]; exact h.1, by rw [h73, h.2.1, n_p1, List.length_append]; rfl, fun k P2 Q2 hk hc => ?_⟩, fun x hx => ⟨by rw [h76, if_neg (by omega)], by rw [h77, if_neg (by omega)]⟩, fun x hx => lo x (by omega)⟩
  by_cases c1 : k < L.length
  · rw [List.getElem?_append_left c1] at hk
    obtain ⟨⟨l1, l2⟩, a1, a2, a3⟩ := h.2.2 k P2 Q2 hk hc
    refine ⟨⟨l1, l2⟩, by rw [h76, if_neg (by omega)]; exact a1, by rw [h77, if_neg (by omega)]; exact a2, fun j x hx => ?_⟩
    have hj := (List.getElem?_eq_some_iff.mp hx).1
    rw [List.length_append] at hj
    rw [lo _ (by omega)]
    exact a3 j x hx
  · have hj := (List.getElem?_eq_some_iff.mp hk).1
    rw [List.length_append, List.length_cons, List.length_nil] at hj
    have e : k = L.length := by omega
    rw [List.getElem?_append_right (by omega), e, Nat.sub_self] at hk
    have e2 : (P, Q) = (P2, Q2) := Option.some.inj hk
    injection e2 with e3 e4
    subst e3 e4
    rw [e]
    exact ⟨⟨hP, hQ⟩, by rw [h76, if_pos rfl], by rw [h77, if_pos rfl], h79⟩
theorem r_kc_n {c : Nat} {L : List (List Int32 × List Int32)} {x : List Int32 × List Int32} (h : r_kc T c L) (h12 : 12 ≤ c + L.length) : r_kc (rt_F T 73 (T.1 73 + 1)) c (L ++ [x]) := by
  refine ⟨by rw [rt_FF, if_neg (by decide)]; exact h.1, by rw [rt_FF, if_pos rfl, h.2.1, n_p1, List.length_append]; rfl, fun k P2 Q2 hk hc => ?_⟩
  rw [List.getElem?_append_left (by omega)] at hk
  exact h.2.2 k P2 Q2 hk hc
end RJa
