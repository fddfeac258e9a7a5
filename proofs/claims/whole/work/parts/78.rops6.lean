section RO6
variable {t : r_T} {s : sA}
theorem ri_groupAt_7 (g m : Int32) : ∀ (n N : Nat), n ≤ 1200 → n < N → fn_X12_groupAt_7 N g m (nI n - 1) t = some (r_grp t g m n, t) := by
  intro n
  induction n with
  | zero =>
    intro N _ hN
    obtain ⟨N, rfl⟩ : ∃ m, N = m + 1 := ⟨N - 1, by omega⟩
    show fn_X12_groupAt_7b _ _ _ _ _ = _
    unfold fn_X12_groupAt_7b
    rw [fg_if_1 (by decide)]
    rfl
  | succ n ih =>
    intro N hn hN
    obtain ⟨N, rfl⟩ : ∃ m, N = m + 1 := ⟨N - 1, by omega⟩
    show fn_X12_groupAt_7b (fn_X12_groupAt_7 N) _ _ _ _ = _
    unfold fn_X12_groupAt_7b
    rw [q_nI1, fg_if_0 (n_neg (by omega)), fg_g_1 ((n_vp (by omega)).mpr (by omega)), q_nIx (by omega)]
    rw [q_nIm, ih N (by omega) (by omega)]
    have e : r_grp t g m (n + 1) = if t.2 5 n = g ∧ t.2 7 n ≤ m then t.2 6 n else r_grp t g m n := rfl
    by_cases c1 : t.2 5 n = g
    · rw [fg_if_1 c1, fg_g_1 ((n_vp (by omega)).mpr (by omega))]
      by_cases c2 : t.2 7 n ≤ m
      · rw [fg_if_0 (Int32.not_lt.mpr c2), fg_g_1 ((n_vp (by omega)).mpr (by omega)), e, if_pos ⟨c1, c2⟩]
      · rw [fg_if_1 (Int32.not_le.mp c2), e, if_neg (fun w => c2 w.2)]
    · rw [fg_if_0 c1, e, if_neg (fun w => c1 w.1)]
theorem ri_groupAt (h : RA t s) (v : ivc s) {g m : Nat} (hg : g < 4) (hm : m < 2 ^ 31) : fn_X12_groupAt (nI g) (nI m) t = some (sG s g m, t) := by
  obtain ⟨n, h1, h2, h3⟩ := h.2.2.2.1
  have := v.1
  unfold fn_X12_groupAt
  rw [h2, ri_groupAt_7 _ _ n g_N (by omega) (by have := g_N_le; omega), h3 g hg m hm]
/-- the state with one row more of groups -/
def rt_gr (t : r_T) (n : Nat) (g x m : Int32) : r_T := rt_F (rt_A (rt_A (rt_A t 5 n g) 6 n x) 7 n m) 4 (nI (n + 1))
theorem rt_gr5 (n : Nat) (g x m : Int32) (j : Nat) : (rt_gr t n g x m).2 5 j = if j = n then g else t.2 5 j := by
  unfold rt_gr; simp only [rt_FA, rt_AA]; simp
theorem rt_gr6 (n : Nat) (g x m : Int32) (j : Nat) : (rt_gr t n g x m).2 6 j = if j = n then x else t.2 6 j := by
  unfold rt_gr; simp only [rt_FA, rt_AA]; simp
theorem rt_gr7 (n : Nat) (g x m : Int32) (j : Nat) : (rt_gr t n g x m).2 7 j = if j = n then m else t.2 7 j := by
  unfold rt_gr; simp only [rt_FA, rt_AA]; simp
theorem rt_grF (n : Nat) (g x m : Int32) {k : Nat} (hk : k ≠ 4) : (rt_gr t n g x m).1 k = t.1 k := by
  unfold rt_gr; rw [rt_FF, if_neg hk]; rfl
theorem rt_grA (n : Nat) (g x m : Int32) {k : Nat} (h5 : k ≠ 5) (h6 : k ≠ 6) (h7 : k ≠ 7) : (rt_gr t n g x m).2 k = t.2 k := by
  funext j; unfold rt_gr; simp only [rt_FA, rt_AA]; rw [if_neg h7, if_neg h6, if_neg h5]
theorem rt_gr4 (n : Nat) (g x m : Int32) : (rt_gr t n g x m).1 4 = nI (n + 1) := by unfold rt_gr; rw [rt_FF, if_pos rfl]
theorem r_grp_gr (n : Nat) (g2 x m2 g m : Int32) : r_grp (rt_gr t n g2 x m2) g m (n + 1) = if g2 = g ∧ m2 ≤ m then x else r_grp t g m n := by
  have e0 : ∀ j, j ≤ n → r_grp (rt_gr t n g2 x m2) g m j = r_grp t g m j := by
    intro j
    induction j with
    | zero => intro _; rfl
    | succ j ih =>
      intro hj
      have hn : ¬ j = n := by omega
      unfold r_grp
      rw [ih (by omega), rt_gr5, rt_gr6, rt_gr7]
      simp only [if_neg hn]
  have e1 : r_grp (rt_gr t n g2 x m2) g m (n + 1) = if (rt_gr t n g2 x m2).2 5 n = g ∧ (rt_gr t n g2 x m2).2 7 n ≤ m then (rt_gr t n g2 x m2).2 6 n else r_grp (rt_gr t n g2 x m2) g m n := rfl
  rw [e1, e0 n (Nat.le_refl _), rt_gr5, rt_gr6, rt_gr7, if_pos rfl, if_pos rfl, if_pos rfl]
theorem rs_gr (h : RA t s) {n : Nat} (hn : n < sC s 0) (h4 : t.1 4 = nI n) (hg : ∀ g, g < 4 → ∀ m, m < 2 ^ 31 → sG s g m = r_grp t (nI g) (nI m) n) {g : Nat} (hgg : g < 4) {m : Nat} (hm : m < 2 ^ 31) (x : Int32) : RA (rt_gr t n (nI g) x (nI m)) (uG s g m x) := by
  obtain ⟨a1, a2, a3, a4, a5, a6⟩ := h
  refine ⟨?_, ?_, ?_, ?_, ?_, ?_⟩
  · unfold RN at *
    rw [rt_grF _ _ _ _ (by decide), rt_grF _ _ _ _ (by decide), rt_grF _ _ _ _ (by decide), rt_grF _ _ _ _ (by decide), rt_grF _ _ _ _ (by decide), rt_grF _ _ _ _ (by decide), rt_grF _ _ _ _ (by decide), rt_grF _ _ _ _ (by decide), rt_grF _ _ _ _ (by decide), rt_grF _ _ _ _ (by decide), rt_grF _ _ _ _ (by decide), rt_grF _ _ _ _ (by decide), rt_grF _ _ _ _ (by decide)]
    exact a1
  · intro k hk i
    rw [rt_grA _ _ _ _ (fun e => by rw [e] at hk; exact absurd hk (by decide)) (fun e => by rw [e] at hk; exact absurd hk (by decide)) (fun e => by rw [e] at hk; exact absurd hk (by decide))]
    exact a2 k hk i
  · unfold RH at *
    rw [rt_grA _ _ _ _ (by decide) (by decide) (by decide), rt_grA _ _ _ _ (by decide) (by decide) (by decide), rt_grA _ _ _ _ (by decide) (by decide) (by decide)]
    exact a3
  · refine ⟨n + 1, hn, rt_gr4 _ _ _ _, fun g2 hg2 m2 hm2 => ?_⟩
    rw [r_grp_gr, sG_uG]
    simp only [n_eq (show g < 2 ^ 31 by omega) (show g2 < 2 ^ 31 by omega), n_le hm hm2]
    by_cases c : g2 = g ∧ m ≤ m2
    · rw [if_pos c, if_pos ⟨c.1.symm, c.2⟩]
    · rw [if_neg c, if_neg (fun w => c ⟨w.1.symm, w.2⟩)]
      exact hg g2 hg2 m2 hm2
  · exact RW_c a5 rfl (Nat.le_refl _) (rt_grF _ _ _ _ (by decide)) (rt_grF _ _ _ _ (by decide)) (rt_grA _ _ _ _ (by decide) (by decide) (by decide)) (rt_grA _ _ _ _ (by decide) (by decide) (by decide)) (rt_grA _ _ _ _ (by decide) (by decide) (by decide)) (rt_grA _ _ _ _ (by decide) (by decide) (by decide)) (rt_grA _ _ _ _ (by decide) (by decide) (by decide)) (rt_grA _ _ _ _ (by decide) (by decide) (by decide)) (rt_grA _ _ _ _ (by decide) (by decide) (by decide)) (rt_grA _ _ _ _ (by decide) (by decide) (by decide)) (rt_grA _ _ _ _ (by decide) (by decide) (by decide)) (rt_grA _ _ _ _ (by decide) (by decide) (by decide))
  · exact RK_c a6 rfl rfl (rt_grA _ _ _ _ (by decide) (by decide) (by decide)) (rt_grA _ _ _ _ (by decide) (by decide) (by decide)) (rt_grA _ _ _ _ (by decide) (by decide) (by decide))
theorem rt_ext {a b : r_T} (h1 : ∀ k, a.1 k = b.1 k) (h2 : ∀ k i, a.2 k i = b.2 k i) : a = b := by
  obtain ⟨a1, a2⟩ := a
  obtain ⟨b1, b2⟩ := b
  congr 1
  · funext k; exact h1 k
  · funext k i; exact h2 k i
theorem rt_gr_act (n : Nat) (g x m : Int32) (v w : Int32) (i : Nat) : rt_A (rt_F (rt_gr t n g x m) 1 v) 2 i w = rt_gr (rt_A (rt_F t 1 v) 2 i w) n g x m := by
  apply rt_ext
  · intro k
    unfold rt_gr
    simp only [rt_FF, rt_AF]
    by_cases e : k = 1
    · subst e; rfl
    · by_cases e2 : k = 4 <;> simp [e, e2]
  · intro k i2
    unfold rt_gr
    simp only [rt_FA, rt_AA]
    by_cases e : k = 2
    · subst e; rfl
    · rw [if_neg e]
      by_cases e7 : k = 7
      · subst e7; rfl
      · by_cases e6 : k = 6
        · subst e6; rfl
        · by_cases e5 : k = 5
          · subst e5; rfl
          · rw [if_neg e7, if_neg e6, if_neg e5, if_neg e7, if_neg e6, if_neg e5, if_neg e]
theorem rs_group (h : RA t s) (v : ivc s) (g x : Int32) : ∃ t2, fn_X12_group g x t = some ((s_group s g x).1, t2) ∧ RA t2 (s_group s g x).2 := by
  have v0 := v.1
  have v1 := v.2.1
  unfold fn_X12_group s_group
  simp only [ri_inC g 3 (n := 4) rfl, fg_b_1, q_b_if, h.1.2.1, ri_inC x _ (q_setE v1)]
  by_cases c1 : q_in g 4
  · simp only [fg_if_1 c1]
    by_cases c2 : q_in x (2 ^ sC s 1)
    · simp only [fg_if_1 c2]
      obtain ⟨e1, l1⟩ := n_in (n := 4) c1
      generalize h_ix g = g2 at e1 l1
      subst e1
      obtain ⟨n, h1, h2, h3⟩ := id h.2.2.2.1
      simp only [h.1.1, ri_groupAt h v l1 (show sC s 0 < 2 ^ 31 by omega), fg_b_1, h2, fg_g_1 ((n_vp (k := n) (n := 1200) (by omega)).mpr (by omega)), fg_let_1, rt_AF, q_nIx (k := n) (by omega), n_p1]
      generalize sG s g2 (sC s 0) = w
      have ea : fn_X12_acted w (rt_gr t n (nI g2) x (nI (sC s 0 + 1))) = some (w, rt_gr (rt_A (rt_F t 1 (nI (sC s 0 + 1))) 2 (sC s 0 + 1) (q_mix (sF s 2 (sC s 0)) w)) n (nI g2) x (nI (sC s 0 + 1))) := by
        rw [← rt_gr_act]
        unfold fn_X12_acted
        simp only [fg_let_1, rt_FF, if_true, rt_grF n (nI g2) x (nI (sC s 0 + 1)) (show 1 ≠ 4 by decide), h.1.1, n_p1, n_m1, rt_FA, ri_mix, fg_b_1]
        rw [fg_g_1 ((n_vp (by omega)).mpr (by omega)), fg_g_1 ((n_vp (by omega)).mpr (by omega)), q_nIx (by omega), q_nIx (by omega), rt_grA _ _ _ _ (by decide) (by decide) (by decide), h.2.1 2 rfl]
      have ea2 : fn_X12_acted w (rt_F (rt_A (rt_A (rt_A t 5 n (nI g2)) 6 n x) 7 n (nI (sC s 0 + 1))) 4 (nI (n + 1))) = _ := ea
      rw [ea2, fg_b_1]
      refine ⟨_, rfl, ?_⟩
      exact rs_gr (rs_act h w) (show n < sC s 0 + 1 by omega) h2 (fun g hg m hm => (h3 g hg m hm).trans (r_grp_c (t := t) (t2 := rt_A (rt_F t 1 (nI (sC s 0 + 1))) 2 (sC s 0 + 1) (q_mix (sF s 2 (sC s 0)) w)) rfl rfl rfl n).symm) l1 (by omega) x
    · simp only [fg_if_0 c2]
      exact ⟨t, rfl, h⟩
  · simp only [fg_if_0 c1]
    exact ⟨t, rfl, h⟩
theorem ri_hasBit (x k : Int32) : fn_X12_hasBit x k t = some (q_b (s_bit x k), t) := by
  unfold fn_X12_hasBit s_bit
  by_cases c : ((x >>> (k &&& 31)) &&& 1) = 1
  · rw [fg_if_1 c, q_b1 c]
  · rw [fg_if_0 c, q_b0 c]
theorem ri_isThere (h : RA t s) {r : Nat} (hr : r < 20) (m : Int32) : fn_X12_isThere (nI r) m t = some (q_b (sF s 96 r ≤ m ∧ (sF s 97 r = -9 ∨ m < sF s 97 r)), t) := by
  unfold fn_X12_isThere
  have i1 : vp_in (nI r) 20 := (n_vp (by omega)).mpr hr
  simp only [fg_g_1 i1, h.2.1 96 rfl, h.2.1 97 rfl, q_nIx (show r < 2 ^ 31 by omega)]
  by_cases c1 : m < sF s 96 r
  · rw [fg_if_1 c1, q_b0 (fun w => Int32.not_le.mpr c1 w.1)]
  · rw [fg_if_0 c1]
    by_cases c2 : sF s 97 r = -9
    · rw [fg_if_1 c2, q_b1 ⟨Int32.not_lt.mp c1, Or.inl c2⟩]
    · rw [fg_if_0 c2]
      by_cases c3 : sF s 97 r ≤ m
      · rw [fg_if_1 c3, q_b0 (fun w => w.2.elim c2 (fun q => Int32.not_le.mpr q c3))]
      · rw [fg_if_0 c3, q_b1 ⟨Int32.not_lt.mp c1, Or.inr (Int32.not_le.mp c3)⟩]
theorem q_le64 (x y : Int32) : (x.toInt64 ≤ y.toInt64) ↔ x ≤ y := by rw [Int64.le_iff_toInt_le, Int32.le_iff_toInt_le, Int32.toInt_toInt64, Int32.toInt_toInt64]
theorem ri_allows_44 (h : RA t s) {r : Nat} (hr : r < 20) (u m : Int32) (p : Prop) : fn_X12_allows_44 (nI r) u m (q_b p) t = some (q_b (p ∧ s_hold s r u m), t) := by
  unfold fn_X12_allows_44
  have i1 : vp_in (nI r) 20 := (n_vp (by omega)).mpr hr
  simp only [q_b_if, ri_isThere h hr, fg_b_1, fg_g_1 i1, h.2.1 92 rfl, h.2.1 93 rfl, h.2.1 94 rfl, q_nIx (show r < 2 ^ 31 by omega), ri_in, ri_hasBit, q_le64]
  by_cases c1 : p
  · rw [fg_if_1 c1]
    by_cases c2 : sF s 96 r ≤ m ∧ (sF s 97 r = -9 ∨ m < sF s 97 r)
    · rw [fg_if_1 c2]
      by_cases c3 : sF s 93 r ≤ m ∧ m ≤ sF s 94 r
      · rw [fg_if_1 c3]
        by_cases c4 : s_bit (sF s 92 r) u
        · rw [fg_if_1 c4, q_b1 ⟨c1, c2, c3, c4⟩]
        · rw [fg_if_0 c4, q_b0 (fun w => c4 w.2.2.2)]
      · rw [fg_if_0 c3, q_b0 (fun w => c3 w.2.2.1)]
    · rw [fg_if_0 c2, q_b0 (fun w => c2 w.2.1)]
  · rw [fg_if_0 c1, q_b0 (fun w => c1 w.1)]
theorem ri_allows (h : RA t s) (v : ivc s) (vr : ivr s) {r : Nat} (hr : r < sC s 6) (x u : Int32) {m : Nat} (hm : m < 2 ^ 31) : fn_X12_allows (nI r) x u (nI m) t = some (q_b (s_mine s r x (nI m) ∧ s_hold s r u (nI m)), t) := by
  have v6 := v.2.2.2.2.2.2.1
  unfold fn_X12_allows s_mine
  rw [fg_g_1 ((n_vp (by omega)).mpr (by omega)), q_nIx (show r < 2 ^ 31 by omega), h.2.1 91 rfl]
  rcases vr r hr with ⟨g, hg, e⟩ | ⟨g, hg, e⟩
  · have c : nI g < 8 := (n_lt (b := 8) (by omega) (by omega)).mpr (by omega)
    rw [e, fg_if_1 c, ri_groupAt h v hg hm, fg_b_1, ri_hasBit, fg_b_1, ri_allows_44 h (by omega), if_pos c, q_nIx (by omega), q_nIx hm]
  · have c : ¬ nI (8 + g) < 8 := fun w => by have := (n_lt (b := 8) (show 8 + g < 2 ^ 31 by omega) (by omega)).mp w; omega
    rw [e, fg_if_0 c, if_neg c]
    by_cases c2 : nI (8 + g) - 8 = x
    · have := ri_allows_44 h (show r < 20 by omega) u (nI m) True
      rw [q_b1 trivial] at this
      rw [fg_if_1 c2, this]
      congr 2
      exact q_bc ⟨fun w => ⟨c2, w.2⟩, fun w => ⟨trivial, w.2⟩⟩
    · have := ri_allows_44 h (show r < 20 by omega) u (nI m) False
      rw [q_b0 (fun q => q)] at this
      rw [fg_if_0 c2, this]
      congr 2
      exact q_bc ⟨fun w => w.1.elim, fun w => (c2 w.1).elim⟩
theorem ri_whyOf_16 (h : RA t s) (v : ivc s) (vr : ivr s) (x w u : Int32) {m : Nat} (hm : m < 2 ^ 31) : ∀ (n j N : Nat), j + n = sC s 6 → n < N → fn_X12_whyOf_16 N x w u (nI m) (nI j) t = some (s_whr s x w u (nI m) n j, t) := by
  have v6 := v.2.2.2.2.2.2.1
  intro n
  induction n with
  | zero =>
    intro j N hj hN
    obtain ⟨N, rfl⟩ : ∃ m, N = m + 1 := ⟨N - 1, by omega⟩
    show fn_X12_whyOf_16b _ _ _ _ _ _ _ = _
    unfold fn_X12_whyOf_16b
    rw [h.1.2.2.2.2.2.2.1, fg_if_1 ((n_le (by omega) (by omega)).mpr (by omega))]
    rfl
  | succ n ih =>
    intro j N hj hN
    obtain ⟨N, rfl⟩ : ∃ m, N = m + 1 := ⟨N - 1, by omega⟩
    show fn_X12_whyOf_16b (fn_X12_whyOf_16 N) _ _ _ _ _ _ = _
    unfold fn_X12_whyOf_16b
    rw [h.1.2.2.2.2.2.2.1, fg_if_0 (fun q => by have := (n_le (a := sC s 6) (b := j) (by omega) (by omega)).mp q; omega), fg_g_1 ((n_vp (by omega)).mpr (by omega)), q_nIx (show j < 2 ^ 31 by omega), h.2.1 90 rfl, n_p1, ih (j + 1) N (by omega) (by omega), ri_allows h v vr (show j < sC s 6 by omega) x u hm, fg_b_1, q_b_if]
    have e : s_whr s x w u (nI m) (n + 1) j = fg_if (sF s 90 j = w ∧ s_mine s j x (nI m) ∧ s_hold s j u (nI m)) (nI j) (s_whr s x w u (nI m) n (j + 1)) := rfl
    rw [e]
    by_cases c1 : sF s 90 j = w
    · rw [fg_if_1 c1]
      by_cases c2 : s_mine s j x (nI m) ∧ s_hold s j u (nI m)
      · rw [fg_if_1 c2, fg_if_1 ⟨c1, c2⟩]
      · have c3 : ¬ (sF s 90 j = w ∧ s_mine s j x (nI m) ∧ s_hold s j u (nI m)) := fun q => c2 q.2
        rw [fg_if_0 c2, fg_if_0 c3]
        exact ih (j + 1) N (by omega) (by omega)
    · have c3 : ¬ (sF s 90 j = w ∧ s_mine s j x (nI m) ∧ s_hold s j u (nI m)) := fun q => c1 q.1
      rw [fg_if_0 c1, fg_if_0 c3]
theorem ri_whyOf (h : RA t s) (v : ivc s) (vr : ivr s) (x u : Int32) {w m : Nat} (hw : w < 12) (hm : m < 2 ^ 31) : fn_X12_whyOf x (nI w) u (nI m) t = some (s_whyOf s x (nI w) u (nI m), t) := by
  have v6 := v.2.2.2.2.2.2.1
  unfold fn_X12_whyOf s_whyOf
  rw [fg_g_1 ((n_vp (by omega)).mpr (by omega)), q_nIx (show w < 2 ^ 31 by omega), h.2.1 9 rfl]
  by_cases c : sF s 9 w = x
  · rw [fg_if_1 c, fg_if_1 c]
  · rw [fg_if_0 c, fg_if_0 c]
    exact ri_whyOf_16 h v vr x (nI w) u hm (sC s 6) 0 g_N (by omega) (by have := g_N_le; omega)
theorem rs_why (h : RA t s) (v : ivc s) (vr : ivr s) (x w u m : Int32) : fn_X12_why x w u m t = some ((s_why s x w u m).1, t) := by
  have v0 := v.1
  have v2 := v.2.2.1
  unfold fn_X12_why s_why
  simp only [ri_noHand h v, ri_noWriting h v, ri_noMoment h v, ri_inC u 2 (n := 3) rfl, fg_b_1, q_b_if, fg_if_not]
  by_cases c1 : q_in x (sC s 1)
  · rw [fg_if_1 c1]
    by_cases c2 : q_in w (sC s 2)
    · rw [fg_if_1 c2]
      by_cases c3 : q_in m ((sC s 0 : Nat) + 1)
      · have c : q_in x (sC s 1) ∧ q_in w (sC s 2) ∧ q_in m ((sC s 0 : Nat) + 1) := ⟨c1, c2, c3⟩
        rw [fg_if_1 c3, fg_if_1 c]
        by_cases c4 : q_in u 3
        · rw [fg_if_1 c4, fg_if_1 c4]
          obtain ⟨e1, l1⟩ := n_in c2
          obtain ⟨e2, l2⟩ := n_in (n := sC s 0 + 1) c3
          generalize h_ix w = w2 at e1 l1
          generalize h_ix m = m2 at e2 l2
          subst e1 e2
          rw [ri_whyOf h v vr x u (by omega) (by omega), fg_b_1]
        · rw [fg_if_0 c4, fg_if_0 c4]
      · have c : ¬ (q_in x (sC s 1) ∧ q_in w (sC s 2) ∧ q_in m ((sC s 0 : Nat) + 1)) := fun q => c3 q.2.2
        rw [fg_if_0 c3, fg_if_0 c]
    · have c : ¬ (q_in x (sC s 1) ∧ q_in w (sC s 2) ∧ q_in m ((sC s 0 : Nat) + 1)) := fun q => c2 q.2.1
      rw [fg_if_0 c2, fg_if_0 c]
  · have c : ¬ (q_in x (sC s 1) ∧ q_in w (sC s 2) ∧ q_in m ((sC s 0 : Nat) + 1)) := fun q => c1 q.1
    rw [fg_if_0 c1, fg_if_0 c]
end RO6
