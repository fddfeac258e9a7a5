section CS7
theorem b_255 (i : Nat) : (255 : Int32).toBitVec.getLsbD i = decide (i < 8) := Nat.testBit_two_pow_sub_one 8 i
theorem b_u32 : ∀ n : Fin 32, ((nI n).toUInt32 &&& Int32.toUInt32 31).toNat % 32 = n := by decide
theorem b_s32 : ∀ n : Fin 32, ((nI n &&& 31).toBitVec.smod 32).toNat = n := by decide
theorem b_ushr (x : Int32) {n : Nat} (hn : n < 32) : (h_ushr x (nI n)).toBitVec = x.toBitVec >>> n := by
  unfold h_ushr
  show (x.toUInt32 >>> ((nI n).toUInt32 &&& Int32.toUInt32 31)).toBitVec = _
  apply BitVec.eq_of_toNat_eq
  show (x.toUInt32 >>> ((nI n).toUInt32 &&& Int32.toUInt32 31)).toNat = _
  rw [UInt32.toNat_shiftRight, b_u32 ⟨n, hn⟩, BitVec.toNat_ushiftRight]
  rfl
theorem b_shl (x : Int32) {n : Nat} (hn : n < 32) : (x <<< (nI n &&& 31)).toBitVec = x.toBitVec <<< n := by
  rw [Int32.toBitVec_shiftLeft, BitVec.shiftLeft_eq', b_s32 ⟨n, hn⟩]
theorem b_ext {x z : Int32} (h : ∀ i, i < 32 → x.toBitVec.getLsbD i = z.toBitVec.getLsbD i) : x = z := Int32.toBitVec_inj.mp (BitVec.eq_of_getLsbD_eq h)
theorem b_small {x : Int32} {c i : Nat} (h : q_in x (2 ^ c)) (hi : c ≤ i) : x.toBitVec.getLsbD i = false := by
  have e : x.toBitVec.toNat < 2 ^ c := by
    have e1 : x.toInt = x.toBitVec.toInt := rfl
    have e2 : (0 : Int) ≤ x.toBitVec.toInt := e1 ▸ h.1
    have e3 : x.toBitVec.toInt = x.toBitVec.toNat := BitVec.toInt_eq_toNat_of_msb (by rw [BitVec.msb_eq_false_iff_two_mul_lt]; rw [BitVec.toInt_eq_toNat_cond] at e2; split at e2 <;> omega)
    have := h.2
    rw [e1, e3] at this
    exact_mod_cast this
  exact Nat.testBit_lt_two_pow (Nat.lt_of_lt_of_le e (Nat.pow_le_pow_right (by decide) hi))
theorem b_zero (x : Int32) {c : Nat} (hc : c ≤ 8) : h_ushr x (nI c) = 0 ↔ q_in x (2 ^ c) := by
  constructor
  · intro w
    have e := congrArg (fun z : Int32 => z.toBitVec.toNat) w
    simp only [b_ushr x (show c < 32 by omega), BitVec.toNat_ushiftRight, Nat.shiftRight_eq_div_pow] at e
    have e0 : (0 : Int32).toBitVec.toNat = 0 := rfl
    rw [e0] at e
    have hp : 0 < 2 ^ c := Nat.pow_pos (by decide)
    have hp2 : 2 ^ c ≤ 2 ^ 8 := Nat.pow_le_pow_right (by decide) hc
    have l : x.toBitVec.toNat < 2 ^ c := by
      rcases Nat.div_eq_zero_iff.mp e with w | w
      · omega
      · exact w
    have e3 : x.toInt = x.toBitVec.toNat := BitVec.toInt_eq_toNat_of_msb (by rw [BitVec.msb_eq_false_iff_two_mul_lt]; omega)
    refine ⟨by omega, ?_⟩
    rw [e3]
    exact_mod_cast l
  · intro w
    apply b_ext
    intro i _
    rw [b_ushr x (by omega), BitVec.getLsbD_ushiftRight, b_small w (by omega)]
    exact (Nat.zero_testBit i).symm
theorem b_m1 {i : Nat} (hi : i < 32) : (-1 : Int32).toBitVec.getLsbD i = true := by
  have e : (-1 : Int32).toBitVec = BitVec.allOnes 32 := by decide
  rw [e, BitVec.getLsbD_allOnes, decide_eq_true hi]
theorem b_grp (W : Int32) {x : Int32} {g g2 : Nat} (hg : g < 4) (hg2 : g2 < 4) (hx : q_in x (2 ^ 8)) : h_ushr ((W &&& ((255 <<< (nI (8 * g) &&& 31)) ^^^ (-1))) ||| (x <<< (nI (8 * g) &&& 31))) (nI (8 * g2)) &&& 255 = if g2 = g then x else h_ushr W (nI (8 * g2)) &&& 255 := by
  apply b_ext
  intro i hi
  rw [Int32.toBitVec_and, BitVec.getLsbD_and, b_255, b_ushr _ (by omega), BitVec.getLsbD_ushiftRight]
  by_cases c : i < 8
  · rw [decide_eq_true c, Bool.and_true, Int32.toBitVec_or, BitVec.getLsbD_or, Int32.toBitVec_and, BitVec.getLsbD_and, Int32.toBitVec_xor, BitVec.getLsbD_xor, b_m1 (by omega), b_shl _ (by omega), b_shl _ (by omega), BitVec.getLsbD_shiftLeft, BitVec.getLsbD_shiftLeft, b_255, decide_eq_true (show 8 * g2 + i < 32 by omega)]
    by_cases e : g2 = g
    · subst e
      rw [if_pos rfl, decide_eq_false (show ¬ 8 * g2 + i < 8 * g2 by omega), show 8 * g2 + i - 8 * g2 = i by omega, decide_eq_true c]
      simp
    · rw [if_neg e, Int32.toBitVec_and, BitVec.getLsbD_and, b_255, decide_eq_true c, b_ushr _ (by omega), BitVec.getLsbD_ushiftRight]
      by_cases l : 8 * g2 + i < 8 * g
      · rw [decide_eq_true l]
        simp
      · rw [decide_eq_false l, decide_eq_false (show ¬ 8 * g2 + i - 8 * g < 8 by omega), b_small hx (by omega)]
        simp
  · rw [decide_eq_false c, Bool.and_false]
    by_cases e : g2 = g
    · rw [if_pos e, b_small hx (by omega)]
    · rw [if_neg e, Int32.toBitVec_and, BitVec.getLsbD_and, b_255, decide_eq_false c, Bool.and_false]
variable {k k2 : h_S} {s : sA} {y : c_Y} {M : Nat}
theorem ci_groupAsOf (h : CBM k s M y) (v : ivc s) {g m : Nat} (hg : g < 4) (hm : m ≤ sC s 0) : fn_X11_groupAsOf (nI g) (nI m) k = some (sG s g m, k) := by
  have v0 := v.1
  unfold fn_X11_groupAsOf
  rw [ci_within, fg_b_1, q_b_if, fg_if_1 (show q_in (nI m) (Int32.toInt 600) from (n_inI (n := 600) (by omega)).mpr (by omega)), fg_g_1 ((n_vp (by omega)).mpr (by omega)), q_nIx (by omega), show (8 : Int32) = nI 8 from rfl, n_mul, h.2.2.2.1 g hg m hm]
theorem cs_grp (h : CB k s y) {n g : Nat} (hn : sC s 0 = n) (hg : g < 4) {x : Int32} (hx : q_in x (2 ^ 8)) (W : Int32) (hW : ∀ q, q < 4 → h_ushr W (nI (8 * q)) &&& 255 = sG s q n) : CB (h_si k 2 n ((W &&& ((255 <<< (nI (8 * g) &&& 31)) ^^^ (-1))) ||| (x <<< (nI (8 * g) &&& 31)))) (uG s g n x) y := by
  have hM : CBM k s (sC s 0) y := h
  show CBM _ (uG s g n x) (sC s 0) y
  refine CB_up (s := s) hM h.1 (c_ag_si (by decide) (by decide)) ?_ ?_ ?_ (fun _ _ => rfl) (fun _ _ => rfl) rfl rfl (Nat.le_refl _)
  · have h1 := h.2.1
    unfold KN at *
    simp [h_i_si, h1, sC_uG, sN_uG]
  · refine ⟨fun i hi => ?_, fun i hi => ?_, fun i hi => ?_⟩
    · simp [h_i_si]; exact h.2.2.1.1 i hi
    · simp [h_i_si]; exact h.2.2.1.2.1 i hi
    · simp [h_i_si]; exact h.2.2.1.2.2 i hi
  · intro q hq m hm
    have hm : m ≤ n := by rw [← hn]; exact hm
    rw [h_i_si, sG_uG]
    by_cases e : m = n
    · rw [if_pos ⟨rfl, e⟩, b_grp _ hg hq hx]
      by_cases e2 : q = g
      · rw [if_pos e2, if_pos ⟨e2, by omega⟩]
      · rw [if_neg e2, if_neg (fun w => e2 w.1), e]
        exact hW q hq
    · rw [if_neg (fun w => e w.2), if_neg (by omega)]
      exact h.2.2.2.1 q hq m (by omega)
theorem cs_group (h : CB k s y) (v : ivc s) (vg : ivg s) (g x : Int32) : ∃ k2, fn_X11_group g x k = some ((s_group s g x).1, k2) ∧ CB k2 (s_group s g x).2 y := by
  have v0 := v.1
  have v1 := v.2.1
  unfold fn_X11_group s_group
  rw [ci_within, fg_b_1, q_b_if, show (4 : Int32).toInt = 4 from rfl]
  by_cases c1 : q_in g 4
  · obtain ⟨e1, l1⟩ := n_in (n := 4) c1
    generalize h_ix g = g2 at e1 l1
    subst e1
    simp only [fg_if_1 c1, h.2.1.2.1]
    by_cases c2 : q_in x (2 ^ sC s 1)
    · have c2' := (b_zero x v1).mpr c2
      have hx : q_in x (2 ^ 8) := ⟨c2.1, by
        have h1 : (2 : Nat) ^ sC s 1 ≤ 2 ^ 8 := Nat.pow_le_pow_right (by decide) v1
        have h2 : ((2 : Int) ^ sC s 1) ≤ 2 ^ 8 := by exact_mod_cast h1
        have := c2.2
        omega⟩
      have g1 : vp_in (nI (sC s 0)) 600 := (n_vp (by omega)).mpr (by omega)
      have ha := cs_act (CB_M h) (by omega) vg (sG s g2 (sC s 0))
      have i0 : h_i (c_act k (sC s 0) (sG s g2 (sC s 0))) 0 0 = nI (sC s 0 + 1) := ha.2.1.1
      have g3 : vp_in (nI (sC s 0 + 1)) 600 := (n_vp (by omega)).mpr (by omega)
      simp only [fg_if_1 c2, fg_if_1 c2', h.2.1.1, ci_groupAsOf (CB_M h) v l1 (Nat.le_refl _), fg_b_1, fg_g_1 g1, fg_let_1]
      rw [ci_acted h.2.1.1 v0, fg_b_1, i0, fg_g_1 g3, q_nIx (by omega), q_nIx (by omega), show (8 : Int32) = nI 8 from rfl, n_mul]
      refine ⟨_, rfl, ?_⟩
      refine cs_grp ha (n := sC s 0 + 1) rfl l1 hx _ (fun q hq => ?_)
      rw [h.2.2.2.1 q hq _ (Nat.le_refl _)]
      exact (vg q (sC s 0 + 1) (by omega)).symm
    · have c2' : ¬ h_ushr x (nI (sC s 1)) = 0 := fun w => c2 ((b_zero x v1).mp w)
      simp only [fg_if_0 c2, fg_if_0 c2']
      exact ⟨k, rfl, h⟩
  · simp only [fg_if_0 c1]
    exact ⟨k, rfl, h⟩
end CS7
