section CS8
theorem b_1 (i : Nat) : (1 : Int32).toBitVec.getLsbD i = decide (i < 1) := Nat.testBit_two_pow_sub_one 1 i
theorem b_0 (i : Nat) : (0 : Int32).toBitVec.getLsbD i = false := Nat.zero_testBit i
theorem b_sbit (x : Int32) {n : Nat} (hn : n < 32) : s_bit x (nI n) ↔ x.toBitVec.getLsbD n = true := by
  unfold s_bit
  have e : ∀ i, ((x >>> (nI n &&& 31)) &&& 1).toBitVec.getLsbD i = ((x >>> (nI n &&& 31)).toBitVec.getLsbD i && decide (i < 1)) := by
    intro i
    rw [Int32.toBitVec_and, BitVec.getLsbD_and, b_1]
  have e0 : (x >>> (nI n &&& 31)).toBitVec.getLsbD 0 = x.toBitVec.getLsbD n := by
    rw [Int32.toBitVec_shiftRight, BitVec.sshiftRight_eq', b_s32 ⟨n, hn⟩, BitVec.getLsbD_sshiftRight]
    simp [hn]
  constructor
  · intro w
    have := e 0
    rw [w, b_1, e0] at this
    simpa using this.symm
  · intro w
    apply b_ext
    intro i _
    rw [e, b_1]
    by_cases c : i < 1
    · have : i = 0 := by omega
      subst this
      rw [e0, w]
      rfl
    · rw [decide_eq_false c, Bool.and_false]
theorem b_mask (x : Int32) {n : Nat} (hn : n < 32) : (x &&& (1 <<< (nI n &&& 31))) = 0 ↔ ¬ s_bit x (nI n) := by
  rw [b_sbit x hn]
  have e : ∀ i, i < 32 → (x &&& (1 <<< (nI n &&& 31))).toBitVec.getLsbD i = (x.toBitVec.getLsbD i && decide (i = n)) := by
    intro i hi
    rw [Int32.toBitVec_and, BitVec.getLsbD_and, b_shl _ hn, BitVec.getLsbD_shiftLeft, b_1]
    by_cases c : i = n
    · subst c
      simp [hi]
    · by_cases c2 : i < n
      · simp [c, c2]
      · rw [decide_eq_false (show ¬ i - n < 1 by omega)]
        simp [c]
  constructor
  · intro w q
    have := e n hn
    rw [w, b_0, q] at this
    simp at this
  · intro w
    apply b_ext
    intro i hi
    rw [e i hi, b_0]
    by_cases c : i = n
    · subst c
      simp at w
      rw [w]
      rfl
    · simp [c]
/-- rights as they may be -/
def ivr2 (s : sA) : Prop := ∀ r, r < sC s 6 → (sF s 97 r = -9 ∨ ∃ z, z ≤ 600 ∧ sF s 97 r = nI z) ∧ ((sF s 95 r = -9 ∧ ∃ g, g < 4 ∧ sF s 91 r = nI g) ∨ (sF s 95 r ≠ -9 ∧ ∃ h, h < 8 ∧ sF s 91 r = nI (8 + h)))
variable {k k2 : h_S} {s : sA} {y : c_Y} {M : Nat}
theorem CB_rt (h : CBM k s M y) {i : Nat} (hi : i < sC s 6) : h_k k (yA y 8 i) = 24 ∧ h_i k (yA y 8 i) 0 = sF s 90 i ∧ h_i k (yA y 8 i) 1 = sF s 96 i ∧ h_i k (yA y 8 i) 2 = s_nv (sF s 97 i) ∧ h_i k (yA y 8 i) 3 = sF s 91 i ∧ h_i k (yA y 8 i) 4 = sF s 92 i ∧ h_i k (yA y 8 i) 5 = sF s 93 i ∧ h_i k (yA y 8 i) 6 = sF s 94 i ∧ h_i k (yA y 8 i) 7 = sF s 95 i := (h.2.2.2.2.2.2.2.2.2.1.1 i hi).2
theorem ci_holdsAt (h : CBM k s M y) (vr : ivr2 s) {r m : Nat} (hr : r < sC s 6) (hm : m ≤ 600) : fn_X3_holdsAt (yA y 8 r) (nI m) k = some (q_b ((sF s 96 r ≤ nI m ∧ (sF s 97 r = -9 ∨ nI m < sF s 97 r)) ∧ (sF s 93 r ≤ nI m ∧ nI m ≤ sF s 94 r)), k) := by
  obtain ⟨w1, w2, w3, w4, w5, w6, w7, w8, w9⟩ := CB_rt h hr
  unfold fn_X3_holdsAt
  rw [fg_g_1 w1, w3, w4, w7, w8]
  have en : s_nv (sF s 97 r) ≤ nI m ↔ ¬ (sF s 97 r = -9 ∨ nI m < sF s 97 r) := by
    unfold s_nv
    by_cases c : sF s 97 r = -9
    · rw [if_pos c]
      refine ⟨fun w => absurd w ?_, fun w => absurd (Or.inl c) w⟩
      rw [Int32.le_iff_toInt_le, q_nI (by omega)]
      have e1 : (2147483647 : Int32).toInt = 2147483647 := rfl
      omega
    · rw [if_neg c]
      exact ⟨fun w q => q.elim c (fun z => Int32.not_le.mpr z w), fun w => Int32.not_lt.mp (fun z => w (Or.inr z))⟩
  by_cases c1 : nI m < sF s 96 r
  · rw [fg_if_1 c1, q_b0 (fun w => Int32.not_le.mpr c1 w.1.1)]
  · rw [fg_if_0 c1]
    by_cases c2 : s_nv (sF s 97 r) ≤ nI m
    · rw [fg_if_1 c2, q_b0 (fun w => en.mp c2 w.1.2)]
    · rw [fg_if_0 c2]
      by_cases c3 : nI m < sF s 93 r
      · rw [fg_if_1 c3, q_b0 (fun w => Int32.not_le.mpr c3 w.2.1)]
      · rw [fg_if_0 c3]
        by_cases c4 : sF s 94 r < nI m
        · rw [fg_if_1 c4, q_b0 (fun w => Int32.not_le.mpr c4 w.2.2)]
        · rw [fg_if_0 c4, q_b1]
          exact ⟨⟨Int32.not_lt.mp c1, Classical.byContradiction (fun w => c2 (en.mpr w))⟩, Int32.not_lt.mp c3, Int32.not_lt.mp c4⟩
theorem ci_isLent (h : CBM k s M y) {r : Nat} (hr : r < sC s 6) : fn_X3_isLent (yA y 8 r) k = some (q_b (¬ sF s 95 r = -9), k) := by
  obtain ⟨w1, w2, w3, w4, w5, w6, w7, w8, w9⟩ := CB_rt h hr
  unfold fn_X3_isLent
  rw [fg_g_1 w1, w9]
  by_cases c : sF s 95 r = -9
  · rw [fg_if_1 c, q_b0 (fun w => w c)]
  · rw [fg_if_0 c, q_b1 c]
theorem ci_allows (h : CBM k s M y) (v : ivc s) (vr : ivr2 s) {r m u : Nat} (hr : r < sC s 6) (hm : m ≤ sC s 0) (hu : u < 32) (x : Int32) : fn_X11_allows (some (yA y 8 r)) x (nI u) (nI m) k = some (q_b (s_mine s r x (nI m) ∧ s_hold s r (nI u) (nI m)), k) := by
  have v0 := v.1
  obtain ⟨w1, w2, w3, w4, w5, w6, w7, w8, w9⟩ := CB_rt h hr
  unfold fn_X11_allows s_hold
  simp only [fg_o_1, fg_g_1 w1, ci_holdsAt h vr hr (show m ≤ 600 by omega), fg_b_1, q_b_if, w6, b_mask _ hu, fg_if_not]
  by_cases c1 : (sF s 96 r ≤ nI m ∧ (sF s 97 r = -9 ∨ nI m < sF s 97 r)) ∧ (sF s 93 r ≤ nI m ∧ nI m ≤ sF s 94 r)
  · rw [fg_if_1 c1]
    by_cases c2 : s_bit (sF s 92 r) (nI u)
    · have c3 : (s_mine s r x (nI m) ∧ (sF s 96 r ≤ nI m ∧ (sF s 97 r = -9 ∨ nI m < sF s 97 r)) ∧ (sF s 93 r ≤ nI m ∧ nI m ≤ sF s 94 r) ∧ s_bit (sF s 92 r) (nI u)) = s_mine s r x (nI m) := propext ⟨fun w => w.1, fun w => ⟨w, c1.1, c1.2, c2⟩⟩
      rw [fg_if_1 c2, ci_isLent h hr, fg_b_1, q_b_if, fg_if_not, c3, w5]
      unfold s_mine
      rcases (vr r hr).2 with ⟨a1, g, hg, a2⟩ | ⟨a1, q, hq, a2⟩
      · rw [fg_if_1 a1, a2, if_pos (show nI g < 8 from (n_lt (b := 8) (by omega) (by omega)).mpr (by omega)), ci_groupAsOf h v hg hm, fg_b_1, q_nIx (by omega), q_nIx (by omega)]
        by_cases c4 : s_bit (sG s g m) x
        · rw [q_b1 c4, fg_g_1 w1, fg_if_1 (show (sG s g m >>> (x &&& 31) &&& 1) = 1 from c4)]
        · rw [q_b0 c4, fg_g_1 w1, fg_if_0 (show ¬ (sG s g m >>> (x &&& 31) &&& 1) = 1 from c4)]
      · rw [fg_if_0 a1, a2, if_neg (show ¬ nI (8 + q) < 8 from fun w => by have := (n_lt (a := 8 + q) (b := 8) (by omega) (by omega)).mp w; omega)]
        have e8 : nI (8 + q) - 8 = x ↔ nI (8 + q) = 8 + x := by
          constructor
          · intro w
            rw [← w, Int32.add_comm, Int32.sub_add_cancel]
          · intro w
            rw [w, Int32.add_comm, Int32.add_sub_cancel]
        by_cases c4 : nI (8 + q) - 8 = x
        · rw [q_b1 c4, fg_g_1 w1, fg_if_1 (e8.mp c4)]
        · rw [q_b0 c4, fg_g_1 w1, fg_if_0 (fun w => c4 (e8.mpr w))]
    · rw [fg_if_0 c2, q_b0 (fun w => c2 w.2.2.2)]
  · rw [fg_if_0 c1, q_b0 (fun w => c1 ⟨w.2.1, w.2.2.1⟩)]
theorem ci_reason_18 (h : CBM k s M y) (v : ivc s) (vr : ivr2 s) {m u : Nat} (hm : m ≤ sC s 0) (hu : u < 32) (x w : Int32) : ∀ (d j N : Nat), j + d = sC s 6 → d < N → fn_X11_reason_18 N x w (nI u) (nI m) (nI j) k = some (s_whr s x w (nI u) (nI m) d j, k) := by
  have v1 := v.2.2.2.2.2.2.1
  have hl := h.2.2.2.2.1.2.2.2.1
  intro d
  induction d with
  | zero =>
    intro j N hj hN
    obtain ⟨N, rfl⟩ : ∃ m, N = m + 1 := ⟨N - 1, by omega⟩
    show fn_X11_reason_18b _ _ _ _ _ _ _ = _
    unfold fn_X11_reason_18b
    rw [ci_size (ck_8 h.1) hl, fg_b_1, fg_if_1 ((n_le (by omega) (by omega)).mpr (by omega))]
    rfl
  | succ d ih =>
    intro j N hj hN
    obtain ⟨N, rfl⟩ : ∃ m, N = m + 1 := ⟨N - 1, by omega⟩
    show fn_X11_reason_18b (fn_X11_reason_18 N) _ _ _ _ _ _ = _
    unfold fn_X11_reason_18b s_whr
    have hr : j < sC s 6 := by omega
    obtain ⟨w1, w2, _⟩ := CB_rt h hr
    have hg : ∀ x, some (yA y 8 j) = some x → h_k k x = 24 := by
      intro z hz
      cases hz
      exact w1
    rw [ci_size (ck_8 h.1) hl, fg_b_1, fg_if_0 (fun q => by have := (n_le (a := sC s 6) (b := j) (by omega) (by omega)).mp q; omega), ci_get (ck_8 h.1) hl hr, fg_b_1, fg_g_1 hg, fg_o_1, fg_g_1 w1, w2, ci_allows h v vr hr hm hu, fg_b_1, q_b_if, n_p1, ih (j + 1) N (by omega) (by omega)]
    by_cases c1 : sF s 90 j = w
    · rw [fg_if_1 c1]
      by_cases c2 : s_mine s j x (nI m) ∧ s_hold s j (nI u) (nI m)
      · rw [fg_if_1 c2, fg_if_1 ⟨c1, c2⟩]
      · rw [fg_if_0 c2, fg_if_0 (fun q => c2 q.2)]
    · rw [fg_if_0 c1, fg_if_0 (fun q => c1 q.1)]
theorem ci_ownerOf (h : CBM k s M y) (v : ivc s) {w : Nat} (hw : w < sC s 2) : fn_X7_ownerOf (nI w) k = some (sF s 9 w, k) := by
  have v2 := v.2.2.1
  unfold fn_X7_ownerOf
  rw [h.2.1.2.2.1, ci_withinN _ (by omega), fg_b_1, q_b_if, fg_if_1 ((n_inI (by omega)).mpr hw), fg_g_1 ((n_vp (by omega)).mpr (by omega)), q_nIx (by omega), h.2.2.1.2.1 w hw]
theorem ci_reason (h : CBM k s M y) (v : ivc s) (vr : ivr2 s) {w m u : Nat} (hw : w < sC s 2) (hm : m ≤ sC s 0) (hu : u < 32) (x : Int32) : fn_X11_reason x (nI w) (nI u) (nI m) k = some (s_whyOf s x (nI w) (nI u) (nI m), k) := by
  have v2 := v.2.2.1
  have v6 := v.2.2.2.2.2.2.1
  unfold fn_X11_reason s_whyOf
  rw [ci_ownerOf h v hw, fg_b_1, q_nIx (by omega), show (0 : Int32) = nI 0 from rfl, ci_reason_18 h v vr hm hu x (nI w) (sC s 6) 0 g_N (by omega) (by have := g_N_le; omega), fg_if_some]
theorem cs_why (h : CB k s y) (v : ivc s) (vr : ivr2 s) (x w u m : Int32) : ∃ k2, fn_X11_why x w u m k = some ((s_why s x w u m).1, k2) ∧ CB k2 (s_why s x w u m).2 y := by
  have v0 := v.1
  refine ⟨k, ?_, h⟩
  unfold fn_X11_why s_why
  simp only [ci_isHand h.2.1 v, ci_isWriting h.2.1 v, ci_isMoment h.2.1 v, ci_within, fg_b_1, q_b_if, show (3 : Int32).toInt = 3 from rfl]
  by_cases c1 : q_in x (sC s 1)
  · rw [fg_if_1 c1]
    by_cases c2 : q_in w (sC s 2)
    · rw [fg_if_1 c2]
      by_cases c3 : q_in m ((sC s 0 : Nat) + 1)
      · have c : q_in x (sC s 1) ∧ q_in w (sC s 2) ∧ q_in m ((sC s 0 : Nat) + 1) := ⟨c1, c2, c3⟩
        rw [fg_if_1 c3, fg_if_1 c]
        by_cases c4 : q_in u 3
        · obtain ⟨e2, l2⟩ := n_in c2
          obtain ⟨e3, l3⟩ := n_in (n := sC s 0 + 1) c3
          obtain ⟨e4, l4⟩ := n_in (n := 3) c4
          rw [fg_if_1 c4, fg_if_1 c4]
          generalize h_ix w = w2 at e2 l2
          generalize h_ix m = m2 at e3 l3
          generalize h_ix u = u2 at e4 l4
          subst e2
          subst e3
          subst e4
          rw [ci_reason (CB_M h) v vr l2 (by omega) (by omega), fg_b_1]
        · rw [fg_if_0 c4, fg_if_0 c4]
      · have c : ¬ (q_in x (sC s 1) ∧ q_in w (sC s 2) ∧ q_in m ((sC s 0 : Nat) + 1)) := fun q => c3 q.2.2
        rw [fg_if_0 c3, fg_if_0 c]
    · rw [fg_if_0 c2, fg_if_0 (fun q => c2 q.2.1)]
  · rw [fg_if_0 c1, fg_if_0 (fun q => c1 q.1)]
theorem ci_mayUse (h : CBM k s M y) (v : ivc s) (vr : ivr2 s) {w m u : Nat} (hw : w < sC s 2) (hm : m ≤ sC s 0) (hu : u < 32) (x : Int32) : fn_X11_mayUse x (nI w) (nI u) (nI m) k = some (q_b (¬ s_whyOf s x (nI w) (nI u) (nI m) = -9), k) := by
  unfold fn_X11_mayUse
  rw [ci_reason h v vr hw hm hu, fg_b_1]
  by_cases c : s_whyOf s x (nI w) (nI u) (nI m) = -9
  · rw [fg_if_1 c, q_b0 (fun w => w c)]
  · rw [fg_if_0 c, q_b1 c]
theorem cs_may (h : CB k s y) (v : ivc s) (vr : ivr2 s) (x w u m : Int32) : ∃ k2, fn_X11_may x w u m k = some ((s_may s x w u m).1, k2) ∧ CB k2 (s_may s x w u m).2 y := by
  have v0 := v.1
  refine ⟨k, ?_, h⟩
  unfold fn_X11_may s_may
  simp only [ci_isHand h.2.1 v, ci_isWriting h.2.1 v, ci_isMoment h.2.1 v, ci_within, fg_b_1, q_b_if, show (3 : Int32).toInt = 3 from rfl]
  by_cases c1 : q_in x (sC s 1)
  · rw [fg_if_1 c1]
    by_cases c2 : q_in w (sC s 2)
    · rw [fg_if_1 c2]
      by_cases c3 : q_in m ((sC s 0 : Nat) + 1)
      · have c : q_in x (sC s 1) ∧ q_in w (sC s 2) ∧ q_in m ((sC s 0 : Nat) + 1) := ⟨c1, c2, c3⟩
        rw [fg_if_1 c3, fg_if_1 c]
        by_cases c4 : q_in u 3
        · obtain ⟨e2, l2⟩ := n_in c2
          obtain ⟨e3, l3⟩ := n_in (n := sC s 0 + 1) c3
          obtain ⟨e4, l4⟩ := n_in (n := 3) c4
          rw [fg_if_1 c4, fg_if_1 c4]
          generalize h_ix w = w2 at e2 l2
          generalize h_ix m = m2 at e3 l3
          generalize h_ix u = u2 at e4 l4
          subst e2
          subst e3
          subst e4
          rw [ci_mayUse (CB_M h) v vr l2 (by omega) (by omega), fg_b_1, q_b_if, fg_if_not, fg_if_some]
        · rw [fg_if_0 c4, fg_if_0 c4]
      · have c : ¬ (q_in x (sC s 1) ∧ q_in w (sC s 2) ∧ q_in m ((sC s 0 : Nat) + 1)) := fun q => c3 q.2.2
        rw [fg_if_0 c3, fg_if_0 c]
    · rw [fg_if_0 c2, fg_if_0 (fun q => c2 q.2.1)]
  · rw [fg_if_0 c1, fg_if_0 (fun q => c1 q.1)]
end CS8
