section CLs
variable {k k2 : h_S}
theorem n_shr1 {n : Nat} (hn : n < 2 ^ 31) : nI n >>> ((1 : Int32) &&& 31) = nI (n / 2) := by
  apply Int32.toInt_inj.mp
  rw [q_nI (by omega)]
  show (nI n >>> (nI 1 &&& 31)).toBitVec.toInt = _
  rw [Int32.toBitVec_shiftRight, BitVec.sshiftRight_eq', b_s32 ⟨1, by decide⟩, BitVec.toInt_sshiftRight, Int.shiftRight_eq_div_pow]
  have e : (nI n).toBitVec.toInt = n := q_nI hn
  rw [e]
  rfl
/-- the element is set -/
def c_put (k : h_S) (L E n a : Nat) : h_S := h_si (h_sr k E n (some a)) L 2 (nI (n + 1))
theorem ci_add_11 {L E n a : Nat} (hk : h_k k L = 20) (hE : h_k k E = 7) (hn : n < h_n k E) (hn2 : n < 2 ^ 31) (ha : 20 ≤ h_k k a ∧ h_k k a < 34) : fn_Jx4a65c_add_72be8_11 L (some a) (some E) (nI n) k = some ((), c_put k L E n a, 0, 0) := by
  unfold fn_Jx4a65c_add_72be8_11 c_put
  have e : h_k (h_sr k E n (some a)) L = 20 := hk
  rw [fg_o_1, fg_g_1 hE, fg_g_1 ((n_vp hn2).mpr hn), fg_o_1, fg_g_1 ha, q_nIx hn2, fg_let_1, fg_g_1 e, fg_let_1, n_p1]
theorem c_put_eq {L E n a b : Nat} (h1 : b ≠ L) (h2 : b ≠ E) : c_eq k (c_put k L E n a) b := c_eqt (c_eq_sr h2) (c_eq_si h1)
theorem c_put_F {L E n a : Nat} (hF : c_F k) (hE : h_k k E = 7) : c_F (c_put k L E n a) := cf_sr (k := k) hF hE (by decide) _
/-- with room for one more -/
theorem c_put_CL {L E n a : Nat} {A : Nat → Nat} (hLE : L ≠ E) (h2 : h_r k L 1 = some E) (t : c_tg 7 E) (h4 : h_k k E = 7) (h5 : n < h_n k E) (h6 : h_n k E ≤ 1000) (h7 : ∀ i, i < n → h_r k E i = some (A i)) (h8 : ∀ i, n ≤ i → h_r k E i = none) : CL (c_put k L E n a) L (n + 1) E (fun i => if i = n then a else A i) := by
  unfold c_put
  refine ⟨?_, ?_, Or.inr ⟨t, h4, h5, h6, fun i hi => ?_, fun i hi => ?_⟩⟩
  · rw [h_i_si, if_pos ⟨rfl, rfl⟩]
  · show h_r (h_sr k E n (some a)) L 1 = some E
    rw [h_r_sr, if_neg (fun q => hLE q.1)]; exact h2
  · show h_r (h_sr k E n (some a)) E i = some (if i = n then a else A i)
    rw [h_r_sr]
    by_cases e : i = n
    · rw [if_pos ⟨rfl, e⟩, if_pos e]
    · rw [if_neg (fun q => e q.2), if_neg e]; exact h7 i (by omega)
  · show h_r (h_sr k E n (some a)) E i = _
    rw [h_r_sr, if_neg (by omega)]; exact h8 i (by omega)
theorem ci_newLength {n : Nat} (hn : n ≤ 600) : fn_J8_newLength_cabcc (nI n) (nI (n + 1) - nI n) (nI n >>> ((1 : Int32) &&& 31)) k = some (nI (n + max 1 (n / 2)), k, 0, 0) := by
  unfold fn_J8_newLength_cabcc
  rw [n_shr1 (by omega), n_sub (by omega), show n + 1 - n = 1 by omega, n_max _ _ (by omega) (by omega), n_add]
  rw [fg_if_0 (fun w => by have := (n_le (b := 0) (a := n + max 1 (n / 2)) (by omega) (by omega)).mp w; omega), fg_if_0]
  intro w
  rw [Int32.lt_iff_toInt_lt, q_nI (by omega)] at w
  have e1 : (2147483639 : Int32).toInt = 2147483639 := rfl
  omega
/-- the array is copied into a longer one -/
theorem ci_copyOf {E n z : Nat} {A : Nat → Nat} (hF : c_F k) (hz : z ≤ 1000) (hnz : n ≤ z) (t : c_tg 7 E) (hE : h_k k E = 7) (hn : h_n k E = n) (h7 : ∀ i, i < n → h_r k E i = some (A i)) (hA : ∀ i, i < n → 20 ≤ h_k k (A i) ∧ h_k k (A i) < 34) : fn_J7_copyOf_1904c (some E) (nI z) k = some (some (c_ad 7 k), h_cpR (h_nw k (c_ad 7 k) 7 z) E 0 (c_ad 7 k) 0 n, 1, z) := by
  have hq : h_k k (c_ad 7 k) = 0 := cf_z hF rfl
  have hEq : E ≠ c_ad 7 k := fun e => by rw [e, hq] at hE; exact absurd hE (by decide)
  unfold fn_J7_copyOf_1904c fn_J7_copyOf_6403c
  have e1 : h_k (h_nw k (c_ad 7 k) 7 z) E = 7 := by rw [h_k_nw, if_neg hEq]; exact hE
  have e2 : h_k (h_nw k (c_ad 7 k) 7 z) (c_ad 7 k) = 7 := by rw [h_k_nw, if_pos rfl]
  have e3 : h_n (h_nw k (c_ad 7 k) 7 z) E = n := by rw [h_n_nw, if_neg hEq]; exact hn
  have e4 : h_n (h_nw k (c_ad 7 k) 7 z) (c_ad 7 k) = z := by rw [h_n_nw, if_pos rfl]
  have e5 : h_ln7 (7, 0, 0) (h_nw k (c_ad 7 k) 7 z) (some E) = nI n := by
    unfold h_ln7
    rw [if_neg (fun w => by have := t.1; cases w; omega)]
    show Int32.ofNat (h_n (h_nw k (c_ad 7 k) 7 z) E) = _
    rw [e3]; rfl
  have e6 : h_ix (nI z) = z := q_nIx (by omega)
  have e7 : h_min (nI n) (nI z) = nI n := by rw [n_min _ _ (by omega) (by omega), Nat.min_eq_left hnz]
  have e8 : h_ix (nI n) = n := q_nIx (by omega)
  have g1 : ¬ nI z < 0 := n_neg (by omega)
  have g2 : ¬ nI n < 0 := n_neg (by omega)
  have g3 : ¬ (0 : Int32) < 0 := by decide
  have g4 : z * 4 ≤ 536870912 := by omega
  have g5 : (some E = some 7 ∨ ∃ a, some E = some a ∧ h_k (h_nw k (c_ad 7 k) 7 z) a = 7) := Or.inr ⟨E, rfl, e1⟩
  have g6 : 0 + n ≤ n := by omega
  have g7 : 0 + n ≤ z := by omega
  have g8 : ∀ i, i < n → ∀ y, h_r (h_nw k (c_ad 7 k) 7 z) E (0 + i) = some y → 20 ≤ h_k (h_nw k (c_ad 7 k) 7 z) y ∧ h_k (h_nw k (c_ad 7 k) 7 z) y < 34 := by
    intro i hi y hy
    rw [h_r_nw, if_neg hEq, Nat.zero_add, h7 i hi] at hy
    cases hy
    have := hA i hi
    rw [h_k_nw, if_neg (fun e => by rw [e, hq] at this; omega)]
    exact this
  rw [fg_o_1, fg_g_1 hE]
  simp only [e6, e5, e7, e8, fg_g_1 g1, fg_g_1 g4, fg_let_1, fg_g_1 g5, fg_g_1 e2, fg_o_1, fg_g_1 e1, fg_g_1 g3, fg_g_1 g2, e3, e4, show h_ix (0 : Int32) = 0 from rfl, fg_g_1 g6, fg_g_1 g7, fg_g_1 g8]
  rfl
/-- what one more element leaves -/
def c_ADD (k k2 : h_S) (L n E E2 a : Nat) (A : Nat → Nat) : Prop := c_F k2 ∧ CL k2 L (n + 1) E2 (fun i => if i = n then a else A i) ∧ c_tg 7 E2 ∧ (E2 = E ∨ h_k k E2 = 0) ∧ (∀ b, b ≠ L → b ≠ E2 → c_eq k k2 b)
theorem ci_grow20 {L n E z : Nat} {A : Nat → Nat} (hF : c_F k) (hk : h_k k L = 20) (hn : n ≤ 600) (h2 : h_r k L 1 = some E) (t : c_tg 7 E) (hE : h_k k E = 7) (hnE : h_n k E = n) (hz : z = n + max 1 (n / 2)) (h7 : ∀ i, i < n → h_r k E i = some (A i)) (hA : ∀ i, i < n → 20 ≤ h_k k (A i) ∧ h_k k (A i) < 34) : fn_Jx4a65c_grow_92f84_20 L (nI (n + 1)) (nI n) k = some (some (c_ad 7 k), h_sr (h_cpR (h_nw k (c_ad 7 k) 7 z) E 0 (c_ad 7 k) 0 n) L 1 (some (c_ad 7 k)), 1, z) := by
  unfold fn_Jx4a65c_grow_92f84_20
  rw [ci_newLength hn, fg_bc_1, fg_g_1 hk, h2, ← hz, ci_copyOf hF (by omega) (by omega) t hE hnE h7 hA, fg_bc_1, fg_let_1, fg_c_1, fg_c_1]
  congr 4 <;> omega
theorem ci_add {L n E a : Nat} {A : Nat → Nat} (hF : c_F k) (hL : L < 128) (hk : h_k k L = 20) (h : CL k L n E A) (hn : n ≤ 600) (hA : ∀ i, i < n → 20 ≤ h_k k (A i) ∧ h_k k (A i) < 34) (ha : 20 ≤ h_k k a ∧ h_k k a < 34) : ∃ k2 E2 c d, fn_Jx4a65c_add_9ea2d L (some a) k = some (1, k2, c, d) ∧ c_ADD k k2 L n E E2 a A ∧ c ≤ 1 ∧ d ≤ 1000 := by
  obtain ⟨h1, h2, h3⟩ := h
  unfold fn_Jx4a65c_add_9ea2d fn_Jx4a65c_add_72be8
  have hF1 : c_F (h_si k L 0 (h_i k L 0 + 1)) := hF
  have hk1 : h_k (h_si k L 0 (h_i k L 0 + 1)) L = 20 := hk
  have i1 : h_i (h_si k L 0 (h_i k L 0 + 1)) L 2 = nI n := by rw [h_i_si, if_neg (by omega)]; exact h1
  have r1 : h_r (h_si k L 0 (h_i k L 0 + 1)) L 1 = some E := h2
  have c1 : ∀ b, b ≠ L → c_eq k (h_si k L 0 (h_i k L 0 + 1)) b := fun b hb => c_eq_si hb
  have a1 : 20 ≤ h_k (h_si k L 0 (h_i k L 0 + 1)) a ∧ h_k (h_si k L 0 (h_i k L 0 + 1)) a < 34 := ha
  rw [fg_g_1 hk, fg_let_1, i1, r1]
  generalize hK : h_si k L 0 (h_i k L 0 + 1) = K at hF1 hk1 i1 r1 c1 a1
  have hKk : ∀ b, h_k K b = h_k k b := fun b => by rw [← hK]; rfl
  have hKn : ∀ b, h_n K b = h_n k b := fun b => by rw [← hK]; rfl
  have hKr : ∀ b j, h_r K b j = h_r k b j := fun b j => by rw [← hK]; rfl
  have hq : h_k K (c_ad 7 K) = 0 := cf_z hF1 rfl
  have hq8 : 128 ≤ c_ad 7 K ∧ c_ad 7 K % 16 = 7 := by unfold c_ad; omega
  have hqL : L ≠ c_ad 7 K := by omega
  have hqa : a ≠ c_ad 7 K := fun e => by rw [e, hq] at a1; omega
  rcases h3 with ⟨eE, en⟩ | ⟨t, h4, h5, h6, h7, h8⟩
  · -- the first
    subst eE
    subst en
    have g1 : (some 7 = some 7 ∨ ∃ a, some 7 = some a ∧ h_k K a = 7) := Or.inl rfl
    have eln : h_ln7 (7, 0, 0) K (some 7) = nI 0 := rfl
    have n0 : ¬ (0 : Int32) < nI 0 := by decide
    have em : h_max (10 : Int32) (nI 0 + 1) = nI 10 := by decide
    have e10 : h_ix (nI 10) = 10 := q_nIx (by omega)
    have g2 : ¬ nI 10 < 0 := n_neg (by omega)
    have g3 : 10 * 4 ≤ 536870912 := by decide
    have f1 : c_F (h_sr (h_nw K (c_ad 7 K) 7 10) L 1 (some (c_ad 7 K))) := cf_sr (kd := 20) (cf_nw hF1 rfl (by decide)) (by rw [h_k_nw, if_neg hqL]; exact hk1) (by decide) _
    have f2 : h_k (h_sr (h_nw K (c_ad 7 K) 7 10) L 1 (some (c_ad 7 K))) L = 20 := by show h_k (h_nw K (c_ad 7 K) 7 10) L = 20; rw [h_k_nw, if_neg hqL]; exact hk1
    have f3 : h_k (h_sr (h_nw K (c_ad 7 K) 7 10) L 1 (some (c_ad 7 K))) (c_ad 7 K) = 7 := by show h_k (h_nw K (c_ad 7 K) 7 10) (c_ad 7 K) = 7; rw [h_k_nw, if_pos rfl]
    have f4 : h_n (h_sr (h_nw K (c_ad 7 K) 7 10) L 1 (some (c_ad 7 K))) (c_ad 7 K) = 10 := by show h_n (h_nw K (c_ad 7 K) 7 10) (c_ad 7 K) = 10; rw [h_n_nw, if_pos rfl]
    have f5 : 20 ≤ h_k (h_sr (h_nw K (c_ad 7 K) 7 10) L 1 (some (c_ad 7 K))) a ∧ h_k (h_sr (h_nw K (c_ad 7 K) 7 10) L 1 (some (c_ad 7 K))) a < 34 := by
      show 20 ≤ h_k (h_nw K (c_ad 7 K) 7 10) a ∧ h_k (h_nw K (c_ad 7 K) 7 10) a < 34
      rw [h_k_nw, if_neg hqa]; exact a1
    have f6 : h_r (h_sr (h_nw K (c_ad 7 K) 7 10) L 1 (some (c_ad 7 K))) L 1 = some (c_ad 7 K) := by rw [h_r_sr, if_pos ⟨rfl, rfl⟩]
    have f7 : ∀ i, h_r (h_sr (h_nw K (c_ad 7 K) 7 10) L 1 (some (c_ad 7 K))) (c_ad 7 K) i = none := by
      intro i
      rw [h_r_sr, if_neg (fun q => hqL q.1.symm), h_r_nw, if_pos rfl]
    have eg : fn_Jx4a65c_grow_d5877 L K = some (some (c_ad 7 K), h_sr (h_nw K (c_ad 7 K) 7 10) L 1 (some (c_ad 7 K)), 1, 10) := by
      unfold fn_Jx4a65c_grow_d5877 fn_Jx4a65c_grow_92f84
      rw [i1, r1, fg_g_1 hk1, fg_g_1 hk1, fg_g_1 g1, eln, fg_if_0 n0, fg_if_1 rfl, em, e10, fg_g_1 g2, fg_g_1 g3]
      simp only [fg_let_1, fg_c_1, fg_bc_1]
    rw [fg_g_1 g1, eln, fg_if_1 rfl, fg_g_1 hk1, eg, fg_bc_1, ci_add_11 f2 f3 (by rw [f4]; decide) (by decide) f5, fg_c_1, fg_bc_1, fg_c_1]
    refine ⟨_, c_ad 7 K, _, _, rfl, ⟨c_put_F f1 f3, c_put_CL hqL f6 hq8 f3 (by rw [f4]; decide) (by rw [f4]; decide) (fun i hi => by omega) (fun i _ => f7 i), hq8, Or.inr (by rw [← hKk]; exact hq), fun b hb hb2 => ?_⟩, by omega, by omega⟩
    exact c_eqt (c1 b hb) (c_eqt (c_eqt (c_eq_nw hb2) (c_eq_sr hb)) (c_put_eq hb hb2))
  · have g1 : (some E = some 7 ∨ ∃ a, some E = some a ∧ h_k K a = 7) := Or.inr ⟨E, rfl, by rw [hKk]; exact h4⟩
    have hE7 : ¬ (some E = some 7) := fun w => by have := t.1; cases w; omega
    have eln : h_ln7 (7, 0, 0) K (some E) = nI (h_n k E) := by
      unfold h_ln7
      rw [if_neg hE7]
      show Int32.ofNat (h_n K E) = _
      rw [hKn]; rfl
    have hLE : L ≠ E := by have := t.1; omega
    rw [fg_g_1 g1, eln]
    by_cases c : n = h_n k E
    · -- a longer array
      obtain ⟨z, hz⟩ : ∃ z, z = n + max 1 (n / 2) := ⟨_, rfl⟩
      have hEq : E ≠ c_ad 7 K := fun e => by rw [← hKk, e, hq] at h4; exact absurd h4 (by decide)
      have eg : fn_Jx4a65c_grow_d5877 L K = some (some (c_ad 7 K), h_sr (h_cpR (h_nw K (c_ad 7 K) 7 z) E 0 (c_ad 7 K) 0 n) L 1 (some (c_ad 7 K)), 1, z) := by
        unfold fn_Jx4a65c_grow_d5877 fn_Jx4a65c_grow_92f84
        rw [i1, r1, fg_g_1 hk1, fg_g_1 hk1, fg_g_1 g1, eln, fg_if_0 hE7, ← c, n_p1, ci_grow20 hF1 hk1 hn r1 t (by rw [hKk]; exact h4) (by rw [hKn]; exact c.symm) hz (fun i hi => by rw [hKr]; exact h7 i hi) (fun i hi => by rw [hKk]; exact hA i hi)]
        by_cases q : (0 : Int32) < nI n
        · rw [fg_if_1 q, fg_bc_1, fg_c_1]
          rfl
        · rw [fg_if_0 q, fg_bc_1, fg_c_1]
          rfl
      have w1 : h_k (h_cpR (h_nw K (c_ad 7 K) 7 z) E 0 (c_ad 7 K) 0 n) (c_ad 7 K) = 7 := by show h_k (h_nw K (c_ad 7 K) 7 z) (c_ad 7 K) = 7; rw [h_k_nw, if_pos rfl]
      have w0 : c_F (h_cpR (h_nw K (c_ad 7 K) 7 z) E 0 (c_ad 7 K) 0 n) := cf_cpR (cf_nw hF1 rfl (by decide)) (by rw [h_k_nw, if_pos rfl]) _ _ _
      have w2 : h_k (h_cpR (h_nw K (c_ad 7 K) 7 z) E 0 (c_ad 7 K) 0 n) L = 20 := by show h_k (h_nw K (c_ad 7 K) 7 z) L = 20; rw [h_k_nw, if_neg hqL]; exact hk1
      have w4 : h_n (h_cpR (h_nw K (c_ad 7 K) 7 z) E 0 (c_ad 7 K) 0 n) (c_ad 7 K) = z := by show h_n (h_nw K (c_ad 7 K) 7 z) (c_ad 7 K) = z; rw [h_n_nw, if_pos rfl]
      have w5 : 20 ≤ h_k (h_cpR (h_nw K (c_ad 7 K) 7 z) E 0 (c_ad 7 K) 0 n) a ∧ h_k (h_cpR (h_nw K (c_ad 7 K) 7 z) E 0 (c_ad 7 K) 0 n) a < 34 := by
        show 20 ≤ h_k (h_nw K (c_ad 7 K) 7 z) a ∧ h_k (h_nw K (c_ad 7 K) 7 z) a < 34
        rw [h_k_nw, if_neg hqa]; exact a1
      have w7 : ∀ i, h_r (h_cpR (h_nw K (c_ad 7 K) 7 z) E 0 (c_ad 7 K) 0 n) (c_ad 7 K) i = if i < n then h_r k E i else none := by
        intro i
        rw [h_r_cpR1]
        unfold va_cpy
        by_cases q : i < n
        · rw [if_pos (by omega), if_pos q, h_r_nw, if_neg hEq, hKr]
          congr 1
          omega
        · rw [if_neg (by omega), if_neg q, h_r_nw, if_pos rfl]
      have w8 : ∀ b, b ≠ c_ad 7 K → c_eq K (h_cpR (h_nw K (c_ad 7 K) 7 z) E 0 (c_ad 7 K) 0 n) b := fun b hb => c_eqt (c_eq_nw hb) ⟨rfl, rfl, rfl, h_r_cpR2 _ _ _ _ _ hb⟩
      generalize h_cpR (h_nw K (c_ad 7 K) 7 z) E 0 (c_ad 7 K) 0 n = W at eg w0 w1 w2 w4 w5 w7 w8
      have f1 : c_F (h_sr W L 1 (some (c_ad 7 K))) := cf_sr w0 w2 (by decide) _
      have f2 : h_k (h_sr W L 1 (some (c_ad 7 K))) L = 20 := w2
      have f3 : h_k (h_sr W L 1 (some (c_ad 7 K))) (c_ad 7 K) = 7 := w1
      have f4 : h_n (h_sr W L 1 (some (c_ad 7 K))) (c_ad 7 K) = z := w4
      have f6 : h_r (h_sr W L 1 (some (c_ad 7 K))) L 1 = some (c_ad 7 K) := by rw [h_r_sr, if_pos ⟨rfl, rfl⟩]
      have f7 : ∀ i, h_r (h_sr W L 1 (some (c_ad 7 K))) (c_ad 7 K) i = if i < n then h_r k E i else none := by
        intro i
        rw [h_r_sr, if_neg (fun q => hqL q.1.symm)]
        exact w7 i
      rw [fg_if_1 (by rw [c]), fg_g_1 hk1, eg, fg_bc_1, ci_add_11 f2 f3 (by rw [f4]; omega) (by omega) w5, fg_c_1, fg_bc_1, fg_c_1]
      refine ⟨_, c_ad 7 K, _, _, rfl, ⟨c_put_F f1 f3, c_put_CL hqL f6 hq8 f3 (by rw [f4]; omega) (by rw [f4]; omega) (fun i hi => by rw [f7, if_pos hi]; exact h7 i hi) (fun i hi => by rw [f7, if_neg (by omega)]), hq8, Or.inr (by rw [← hKk]; exact hq), fun b hb hb2 => ?_⟩, by omega, by omega⟩
      exact c_eqt (c1 b hb) (c_eqt (c_eqt (w8 b hb2) (c_eq_sr hb)) (c_put_eq hb hb2))
    · have ne : ¬ nI n = nI (h_n k E) := fun w => c ((n_eq (by omega) (by omega)).mp w)
      rw [fg_if_0 ne, ci_add_11 hk1 (by rw [hKk]; exact h4) (by rw [hKn]; omega) (by omega) a1, fg_bc_1, fg_c_1]
      refine ⟨_, E, _, _, rfl, ⟨c_put_F hF1 (by rw [hKk]; exact h4), c_put_CL hLE r1 t (by rw [hKk]; exact h4) (by rw [hKn]; omega) (by rw [hKn]; exact h6) (fun i hi => by rw [hKr]; exact h7 i hi) (fun i hi => by rw [hKr]; exact h8 i hi), t, Or.inl rfl, fun b hb hb2 => ?_⟩, by omega, by omega⟩
      exact c_eqt (c1 b hb) (c_put_eq hb hb2)
end CLs
