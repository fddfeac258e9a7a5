section RRt
variable {t : r_T} {s : sA}
def l_T : List Nat := [98, 99, 100, 101]
def r_tx (T : r_T) (q : sT) : Prop := (q.1 ≠ 0 → T.1 98 = q.2.2.1) ∧ T.1 99 = q.2.2.2.1 ∧ T.1 100 = q.2.2.2.2.1 ∧ T.1 101 = q.2.2.2.2.2
theorem u_bit : ∀ (u : Fin 8) (m : Fin 3), (((nI u >>> (nI m &&& 31)) &&& 1) = 1 ↔ ¬ (nI u &&& nI (2 ^ m.val) = 0)) ∧ (1 <<< (nI m &&& 31) : Int32) = nI (2 ^ m.val) := by decide
theorem u_pos : ∀ u : Fin 8, (nI u ≤ 0 ↔ nI u = 0) := by decide
theorem ri_step {K : Int32 → Int32 → Int32 → Int32 → Int32 → r_T → Option (Int32 × r_T)} {b n j : Nat} {T : r_T} {q : sT} (hj : j < n) (hn : n ≤ 60) (hb : b + n ≤ 240) (ok : s_tok q) (hr : r_tx T q) : (s_tx q (T.2 112 (b + j)) = none ∧ fn_X12_readText_23b K (nI b) (nI n) q.1 q.2.1 (nI j) T = some (nI j, T)) ∨ (∃ q2 T2, s_tx q (T.2 112 (b + j)) = some q2 ∧ fn_X12_readText_23b K (nI b) (nI n) q.1 q.2.1 (nI j) T = K (nI b) (nI n) q2.1 q2.2.1 (nI (j + 1)) T2 ∧ r_fr l_T T T2 ∧ r_tx T2 q2) := by
  obtain ⟨⟨a, ha, ea, d, hd, ed, had, _⟩, u, hu, eu⟩ := ok
  obtain ⟨q1, q21, q3, q4, q5, q6⟩ := q
  obtain ⟨h98, h99, h100, h101⟩ := hr
  dsimp only at ea ed eu h98 h99 h100 h101
  subst ea ed eu
  unfold fn_X12_readText_23b
  dsimp only
  rw [fg_if_0 (fun q => by have := (n_le (a := n) (b := j) (by omega) (by omega)).mp q; omega), n_add, fg_g_1 ((n_vp (by omega)).mpr (by omega)), q_nIx (by omega)]
  generalize T.2 112 (b + j) = c
  have ec : ((48 : Int64) ≤ c.toInt64 ∧ c.toInt64 ≤ 57) ↔ (48 ≤ c ∧ c ≤ 57) := q_c64 c 48 57 (by decide) (by decide)
  have eg : ((48 : Int64) ≤ c.toInt64 ∧ c.toInt64 ≤ 51) ↔ (48 ≤ c ∧ c ≤ 51) := q_c64 c 48 51 (by decide) (by decide)
  have euse : fn_X12_useOf c T = some (fg_if (c = 114) 0 (fg_if (c = 113) 1 (fg_if (c = 108) 2 (-1))), T) := by
    unfold fn_X12_useOf
    simp only [fg_if_some]
  rw [ri_in, q_bc ec, fg_b_1, euse, fg_b_1]
  unfold s_tx
  rcases (show a = 0 ∨ a = 1 ∨ a = 2 ∨ a = 3 ∨ a = 4 by omega) with rfl | rfl | rfl | rfl | rfl
  · rw [fg_if_1 (show nI 0 = 0 by decide), ri_in, q_bc eg, fg_b_1, q_b_if]
    simp only [if_pos (show nI 0 = 0 by decide)]
    by_cases c1 : 48 ≤ c ∧ c ≤ 51
    · rw [if_pos c1, fg_if_1 c1, fg_let_1, n_p1]
      refine Or.inr ⟨_, _, rfl, rfl, r_frF (by decide), fun _ => ?_, ?_, ?_, ?_⟩
      · rw [rt_FF, if_pos rfl]
      · exact h99
      · exact h100
      · exact h101
    · rw [if_neg c1, fg_if_0 c1]
      left
      refine ⟨rfl, ?_⟩
      unfold fn_X12_readText_94 fn_X12_readText_111 fn_X12_readText_149 fn_X12_readText_176 fn_X12_readText_215 fn_X12_readText_240
      simp only [fg_if_0 (show ¬ nI 0 = 1 by decide), fg_if_0 (show ¬ nI 0 = 2 by decide), fg_if_0 (show ¬ nI 0 = 3 by decide), fg_if_0 (show ¬ nI 0 = 4 by decide)]
  · rw [fg_if_0 (show ¬ nI 1 = 0 by decide)]
    simp only [if_neg (show ¬ nI 1 = 0 by decide), if_pos (show nI 1 = 1 by decide)]
    unfold fn_X12_readText_94
    rw [fg_if_1 (show nI 1 = 1 by decide)]
    by_cases c1 : c = 58
    · rw [if_pos c1, fg_if_1 c1, n_p1]
      exact Or.inr ⟨_, T, rfl, rfl, r_fr0, fun _ => h98 (by decide), h99, h100, h101⟩
    · rw [if_neg c1, fg_if_0 c1]
      left
      refine ⟨rfl, ?_⟩
      unfold fn_X12_readText_111 fn_X12_readText_149 fn_X12_readText_176 fn_X12_readText_215 fn_X12_readText_240
      simp only [fg_if_0 (show ¬ nI 1 = 2 by decide), fg_if_0 (show ¬ nI 1 = 3 by decide), fg_if_0 (show ¬ nI 1 = 4 by decide)]
  · rw [fg_if_0 (show ¬ nI 2 = 0 by decide)]
    simp only [if_neg (show ¬ nI 2 = 0 by decide), if_neg (show ¬ nI 2 = 1 by decide), if_pos (show nI 2 = 2 by decide)]
    unfold fn_X12_readText_94 fn_X12_readText_111
    rw [fg_if_0 (show ¬ nI 2 = 1 by decide), fg_if_1 (show nI 2 = 2 by decide), ri_hasBit, fg_b_1, q_b_if, h99]
    have e149 : s_um c = 0 ∨ ¬ (nI u &&& s_um c = 0) → ((if c = 64 ∧ nI u ≠ 0 then some ((3 : Int32), nI d, q3, nI u, q5, q6) else none) = none ∧ fn_X12_readText_149 K (nI b) (nI n) (nI 2) (nI d) (nI j) c (q_b (48 ≤ c ∧ c ≤ 57)) T = some (nI j, T)) ∨ (∃ q2 T2, (if c = 64 ∧ nI u ≠ 0 then some ((3 : Int32), nI d, q3, nI u, q5, q6) else none) = some q2 ∧ fn_X12_readText_149 K (nI b) (nI n) (nI 2) (nI d) (nI j) c (q_b (48 ≤ c ∧ c ≤ 57)) T = K (nI b) (nI n) q2.1 q2.2.1 (nI (j + 1)) T2 ∧ r_fr l_T T T2 ∧ r_tx T2 q2) := by
      intro _
      unfold fn_X12_readText_149 fn_X12_readText_176 fn_X12_readText_215 fn_X12_readText_240
      rw [h99, fg_if_1 (show nI 2 = 2 by decide), fg_if_0 (show ¬ nI 2 = 3 by decide), fg_if_0 (show ¬ nI 2 = 3 by decide), fg_if_0 (show ¬ nI 2 = 4 by decide)]
      by_cases c2 : c = 64 ∧ nI u ≠ 0
      · rw [if_pos c2, fg_if_1 c2.1, fg_if_0 (fun w => c2.2 ((u_pos ⟨u, hu⟩).mp w)), n_p1]
        have hd0 : d = 0 := had (by omega)
        subst hd0
        exact Or.inr ⟨_, T, rfl, rfl, r_fr0, fun _ => h98 (by decide), h99, h100, h101⟩
      · rw [if_neg c2]
        left
        refine ⟨rfl, ?_⟩
        by_cases c3 : c = 64
        · have c4 : nI u = 0 := Classical.byContradiction (fun w => c2 ⟨c3, w⟩)
          rw [fg_if_1 c3, fg_if_1 ((u_pos ⟨u, hu⟩).mpr c4)]
        · rw [fg_if_0 c3]
    rcases s_um_c c with ⟨w1, w⟩ | ⟨w1, w⟩ | ⟨w1, w⟩ | ⟨w1, w2, w3, w⟩
    · obtain ⟨b1, b2⟩ := u_bit ⟨u, hu⟩ 0
      rw [fg_if_1 w1, fg_if_0 (by decide)]
      by_cases c2 : nI u &&& s_um c = 0
      · have c3 : ¬ s_bit (nI u) 0 := fun q => b1.mp q (by rw [w] at c2; exact c2)
        rw [fg_if_0 c3, fg_let_1, n_p1, if_pos ⟨by rw [w]; decide, c2⟩]
        refine Or.inr ⟨_, _, rfl, rfl, r_frF (by decide), fun _ => h98 (by decide), ?_, h100, h101⟩
        rw [rt_FF, if_pos rfl]
        dsimp only
        rw [w]
        exact congrArg (nI u ||| ·) b2
      · have c3 : s_bit (nI u) 0 := b1.mpr (fun q => c2 (by rw [w]; exact q))
        rw [fg_if_1 c3, if_neg (fun q => c2 q.2)]
        exact e149 (Or.inr c2)
    · obtain ⟨b1, b2⟩ := u_bit ⟨u, hu⟩ 1
      rw [fg_if_0 (show ¬ c = 114 by rw [w1]; decide), fg_if_1 w1, fg_if_0 (by decide)]
      by_cases c2 : nI u &&& s_um c = 0
      · have c3 : ¬ s_bit (nI u) 1 := fun q => b1.mp q (by rw [w] at c2; exact c2)
        rw [fg_if_0 c3, fg_let_1, n_p1, if_pos ⟨by rw [w]; decide, c2⟩]
        refine Or.inr ⟨_, _, rfl, rfl, r_frF (by decide), fun _ => h98 (by decide), ?_, h100, h101⟩
        rw [rt_FF, if_pos rfl]
        dsimp only
        rw [w]
        exact congrArg (nI u ||| ·) b2
      · have c3 : s_bit (nI u) 1 := b1.mpr (fun q => c2 (by rw [w]; exact q))
        rw [fg_if_1 c3, if_neg (fun q => c2 q.2)]
        exact e149 (Or.inr c2)
    · obtain ⟨b1, b2⟩ := u_bit ⟨u, hu⟩ 2
      rw [fg_if_0 (show ¬ c = 114 by rw [w1]; decide), fg_if_0 (show ¬ c = 113 by rw [w1]; decide), fg_if_1 w1, fg_if_0 (by decide)]
      by_cases c2 : nI u &&& s_um c = 0
      · have c3 : ¬ s_bit (nI u) 2 := fun q => b1.mp q (by rw [w] at c2; exact c2)
        rw [fg_if_0 c3, fg_let_1, n_p1, if_pos ⟨by rw [w]; decide, c2⟩]
        refine Or.inr ⟨_, _, rfl, rfl, r_frF (by decide), fun _ => h98 (by decide), ?_, h100, h101⟩
        rw [rt_FF, if_pos rfl]
        dsimp only
        rw [w]
        exact congrArg (nI u ||| ·) b2
      · have c3 : s_bit (nI u) 2 := b1.mpr (fun q => c2 (by rw [w]; exact q))
        rw [fg_if_1 c3, if_neg (fun q => c2 q.2)]
        exact e149 (Or.inr c2)
    · rw [fg_if_0 w1, fg_if_0 w2, fg_if_0 w3, fg_if_1 (by decide), if_neg (fun q => q.1 w)]
      exact e149 (Or.inl w)
  · rw [fg_if_0 (show ¬ nI 3 = 0 by decide)]
    simp only [if_neg (show ¬ nI 3 = 0 by decide), if_neg (show ¬ nI 3 = 1 by decide), if_neg (show ¬ nI 3 = 2 by decide), if_pos (show nI 3 = 3 by decide)]
    unfold fn_X12_readText_94 fn_X12_readText_111 fn_X12_readText_149 fn_X12_readText_176 fn_X12_readText_215 fn_X12_readText_240
    simp only [fg_if_0 (show ¬ nI 3 = 1 by decide), fg_if_0 (show ¬ nI 3 = 2 by decide), fg_if_1 (show nI 3 = 3 by decide), fg_if_0 (show ¬ nI 3 = 4 by decide), q_b_if, fg_let_1, n_p1, h100]
    by_cases c1 : (48 ≤ c ∧ c ≤ 57) ∧ nI d < 4
    · rw [if_pos c1, fg_if_1 c1.1, fg_if_0 (Int32.not_le.mpr c1.2)]
      exact Or.inr ⟨_, _, rfl, rfl, r_frF (by decide), fun _ => h98 (by decide), h99, by rw [rt_FF, if_pos rfl], h101⟩
    · rw [if_neg c1]
      have e : fg_if (48 ≤ c ∧ c ≤ 57) (fg_if (4 ≤ nI d) (fg_if (c = 45) (fg_if (nI d ≤ 0) (some (nI j, T)) (K (nI b) (nI n) 4 0 (nI (j + 1)) T)) (some (nI j, T))) (K (nI b) (nI n) (nI 3) (nI (d + 1)) (nI (j + 1)) (rt_F T 100 (10 * q5 + c - 48)))) (fg_if (c = 45) (fg_if (nI d ≤ 0) (some (nI j, T)) (K (nI b) (nI n) 4 0 (nI (j + 1)) T)) (some (nI j, T))) = fg_if (c = 45) (fg_if (nI d ≤ 0) (some (nI j, T)) (K (nI b) (nI n) 4 0 (nI (j + 1)) T)) (some (nI j, T)) := by
        by_cases c2 : 48 ≤ c ∧ c ≤ 57
        · rw [fg_if_1 c2, fg_if_1 (Int32.not_lt.mp (fun w => c1 ⟨c2, w⟩))]
        · rw [fg_if_0 c2]
      rw [e]
      by_cases c2 : c = 45 ∧ 0 < nI d
      · rw [if_pos c2, fg_if_1 c2.1, fg_if_0 (Int32.not_le.mpr c2.2)]
        exact Or.inr ⟨_, T, rfl, rfl, r_fr0, fun _ => h98 (by decide), h99, h100, h101⟩
      · rw [if_neg c2]
        left
        refine ⟨rfl, ?_⟩
        by_cases c3 : c = 45
        · rw [fg_if_1 c3, fg_if_1 (Int32.not_lt.mp (fun w => c2 ⟨c3, w⟩))]
        · rw [fg_if_0 c3]
  · rw [fg_if_0 (show ¬ nI 4 = 0 by decide)]
    simp only [if_neg (show ¬ nI 4 = 0 by decide), if_neg (show ¬ nI 4 = 1 by decide), if_neg (show ¬ nI 4 = 2 by decide), if_neg (show ¬ nI 4 = 3 by decide)]
    unfold fn_X12_readText_94 fn_X12_readText_111 fn_X12_readText_149 fn_X12_readText_176 fn_X12_readText_215 fn_X12_readText_240
    simp only [fg_if_0 (show ¬ nI 4 = 1 by decide), fg_if_0 (show ¬ nI 4 = 2 by decide), fg_if_0 (show ¬ nI 4 = 3 by decide), fg_if_1 (show nI 4 = 4 by decide), q_b_if, fg_let_1, n_p1, h101]
    by_cases c1 : (48 ≤ c ∧ c ≤ 57) ∧ nI d < 4
    · rw [if_pos c1, fg_if_1 c1.1, fg_if_0 (Int32.not_le.mpr c1.2)]
      exact Or.inr ⟨_, _, rfl, rfl, r_frF (by decide), fun _ => h98 (by decide), h99, h100, by rw [rt_FF, if_pos rfl]⟩
    · rw [if_neg c1]
      left
      refine ⟨rfl, ?_⟩
      by_cases c2 : 48 ≤ c ∧ c ≤ 57
      · rw [fg_if_1 c2, fg_if_1 (Int32.not_lt.mp (fun w => c1 ⟨c2, w⟩))]
      · rw [fg_if_0 c2]
theorem ri_readText_23 {b n : Nat} (hn : n ≤ 60) (hb : b + n ≤ 240) : ∀ (d j N : Nat) (T : r_T) (q : sT), j + d = n → d < N → s_tok q → r_fr l_T t T → r_tx T q → ∃ T2, fn_X12_readText_23 N (nI b) (nI n) q.1 q.2.1 (nI j) T = some ((s_rd (fun j => t.2 112 (b + j)) d j q).1, T2) ∧ r_fr l_T t T2 ∧ r_tx T2 (s_rd (fun j => t.2 112 (b + j)) d j q).2 := by
  intro d
  induction d with
  | zero =>
    intro j N T q hj hN ok hf hr
    obtain ⟨N, rfl⟩ : ∃ m, N = m + 1 := ⟨N - 1, by omega⟩
    refine ⟨T, ?_, hf, hr⟩
    show fn_X12_readText_23b _ _ _ _ _ _ _ = _
    unfold fn_X12_readText_23b s_rd
    rw [fg_if_1 ((n_le (by omega) (by omega)).mpr (by omega))]
    have en : n = j := by omega
    subst en
    by_cases c : q.1 = 4 ∧ 0 < q.2.1
    · rw [if_pos c, fg_if_1 c.1, fg_if_0 (Int32.not_le.mpr c.2)]
    · rw [if_neg c]
      by_cases c2 : q.1 = 4
      · rw [fg_if_1 c2, fg_if_1 (Int32.not_lt.mp (fun w => c ⟨c2, w⟩))]
      · rw [fg_if_0 c2]
  | succ d ih =>
    intro j N T q hj hN ok hf hr
    obtain ⟨N, rfl⟩ : ∃ m, N = m + 1 := ⟨N - 1, by omega⟩
    have e112 : T.2 112 = t.2 112 := hf.2 112 (by decide)
    have st := ri_step (K := fn_X12_readText_23 N) (b := b) (n := n) (j := j) (by omega) hn hb ok hr
    show ∃ T2, fn_X12_readText_23b (fn_X12_readText_23 N) _ _ _ _ _ _ = _ ∧ _
    unfold s_rd
    rw [e112] at st
    rcases st with ⟨s1, s2⟩ | ⟨q2, T2, s1, s2, s3, s4⟩
    · rw [s1, s2]
      exact ⟨T, rfl, hf, hr⟩
    · rw [s1, s2]
      exact ih (j + 1) N T2 q2 (by omega) (by omega) (s_tx_ok ok s1) (r_frt hf s3) s4
theorem s_bf0 (vs : ivs s) {k : Nat} (hk : k < 4) {l i n : Int32} (h : s_bf s k l i n = 0) : ∃ z, z ≤ 60 ∧ sF s 110 k = nI z ∧ i = nI (h_ix i) ∧ n = nI (h_ix n) ∧ h_ix i + h_ix n ≤ z := by
  unfold s_bf at h
  by_cases c1 : q_in l 3
  · rw [fg_if_1 c1] at h
    by_cases c2 : sF s 110 k < 0
    · rw [fg_if_1 c2] at h; exact absurd h (by decide)
    · rw [fg_if_0 c2] at h
      by_cases c3 : sF s 111 k = l
      · rw [fg_if_1 c3] at h
        by_cases c4 : n < 0
        · rw [fg_if_1 c4] at h; exact absurd h (by decide)
        · rw [fg_if_0 c4] at h
          by_cases c5 : s_ok i n (sF s 110 k)
          · obtain ⟨z, hz, ez⟩ := (s_sz vs hk).2 c2
            refine ⟨z, hz, ez, ?_⟩
            obtain ⟨p1, p2, p3⟩ := c5
            rw [ez, q_nI (by omega)] at p3
            have e1 := q_ix p1
            have e2 := q_ix p2
            exact ⟨n_of p1, n_of p2, by omega⟩
          · rw [fg_if_0 c5] at h; exact absurd h (by decide)
      · rw [fg_if_0 c3] at h; exact absurd h (by decide)
  · rw [fg_if_0 c1] at h; exact absurd h (by decide)
theorem s_bfv (s : sA) (k : Nat) (l i n : Int32) : s_bf s k l i n = 0 ∨ s_bf s k l i n = 1 ∨ s_bf s k l i n = 2 ∨ s_bf s k l i n = 3 ∨ s_bf s k l i n = 4 ∨ s_bf s k l i n = -2 := by
  unfold s_bf
  by_cases c1 : q_in l 3
  · rw [fg_if_1 c1]
    by_cases c2 : sF s 110 k < 0
    · rw [fg_if_1 c2]; decide
    · rw [fg_if_0 c2]
      by_cases c3 : sF s 111 k = l
      · rw [fg_if_1 c3]
        by_cases c4 : n < 0
        · rw [fg_if_1 c4]; decide
        · rw [fg_if_0 c4]
          by_cases c5 : s_ok i n (sF s 110 k)
          · rw [fg_if_1 c5]; decide
          · rw [fg_if_0 c5]; decide
      · rw [fg_if_0 c3]; decide
  · rw [fg_if_0 c1]; decide
/-- a barred call ends -/
theorem ri_br (h : RA t s) {k : Int32} (hk : q_in k 4) (l i n : Int32) {F : Int32 → r_T → Option (Int32 × r_T)} (hb : ¬ s_bf s (h_ix k) l i n = 0) : ∃ t2, fg_b (fn_X12_barred k l i n t) (fun p T => fg_if (0 ≤ p) (F p T) (some (p, T))) = some ((s_br s (s_bf s (h_ix k) l i n)).1, t2) ∧ RA t2 (s_br s (s_bf s (h_ix k) l i n)).2 := by
  rw [ri_barred h hk, fg_if_0 hb]
  unfold s_br
  by_cases c : s_bf s (h_ix k) l i n = -2
  · simp only [fg_if_1 c]
    rw [fg_b_1, fg_if_0 (by decide)]
    exact ⟨_, rfl, rs_flt h 0⟩
  · simp only [fg_if_0 c]
    rw [fg_b_1]
    have nn : ¬ 0 ≤ (-10 - s_bf s (h_ix k) l i n) := by
      rcases s_bfv s (h_ix k) l i n with w | w | w | w | w | w
      · exact absurd w hb
      · rw [w]; decide
      · rw [w]; decide
      · rw [w]; decide
      · rw [w]; decide
      · exact absurd w c
    rw [fg_if_0 nn]
    exact ⟨_, rfl, rs_flt h _⟩
theorem rs_right (h : RA t s) (v : ivc s) (vs : ivs s) (w k l i n : Int32) : ∃ t2, fn_X12_right w k l i n t = some ((s_right s w k l i n).1, t2) ∧ RA t2 (s_right s w k l i n).2 := by
  have v6 := v.2.2.2.2.2.2.1
  have e15 : fn_X12_right_15 t = some (-1, rt_F t 0 0) := rfl
  unfold fn_X12_right s_right
  rw [ri_noWriting h v, fg_b_1, q_bn_if]
  by_cases c1 : q_in w (sC s 2)
  · rw [fg_if_1 c1, ri_noSheet, fg_b_1, q_bn_if]
    by_cases c2 : q_in k 4
    · have c : q_in w (sC s 2) ∧ q_in k 4 := ⟨c1, c2⟩
      rw [fg_if_1 c2]
      simp only [fg_if_1 c]
      by_cases c3 : s_bf s (h_ix k) l i n = 0
      · simp only [fg_if_1 c3]
        rw [ri_barred h c2, fg_if_1 c3, fg_b_1, fg_if_1 (by decide)]
        obtain ⟨z, hz, ez, ei, en, hl⟩ := s_bf0 vs (n_in (n := 4) c2).2 c3
        obtain ⟨ek, hk⟩ := n_in (n := 4) c2
        have eb : 60 * k + i = nI (60 * h_ix k + h_ix i) := by
          rw [show (60 : Int32) * k + i = nI 60 * nI (h_ix k) + nI (h_ix i) by rw [← ek, ← ei]; rfl, n_mul, n_add]
        rw [eb]
        unfold s_txt
        obtain ⟨T2, f1, f2, f3⟩ := ri_readText_23 (t := t) (b := 60 * h_ix k + h_ix i) (n := h_ix n) (by omega) (by omega) (h_ix n) 0 g_N (rt_F (rt_F (rt_F t 99 0) 100 0) 101 0) (0, 0, 0, 0, 0, 0) (by omega) (by have := g_N_le; omega) ⟨⟨0, by omega, rfl, 0, by omega, rfl, fun _ => rfl, fun w => by omega⟩, 0, by omega, rfl⟩ (r_frt (r_frt (r_frF (by decide)) (r_frF (by decide))) (r_frF (by decide))) ⟨fun w => absurd rfl w, rfl, rfl, rfl⟩
        obtain ⟨k1, k2, k3⟩ := s_rd_ok (fun j => sF s 112 (60 * h_ix k + h_ix i + j)) (h_ix n) 0 (0, 0, 0, 0, 0, 0) ⟨⟨0, by omega, rfl, 0, by omega, rfl, fun _ => rfl, fun w => by omega⟩, 0, by omega, rfl⟩
        have e112 : (fun j => t.2 112 (60 * h_ix k + h_ix i + j)) = (fun j => sF s 112 (60 * h_ix k + h_ix i + j)) := funext (fun j => h.2.1 112 rfl _)
        rw [e112] at f1 f3
        unfold fn_X12_readText
        rw [fg_let_1, fg_let_1, fg_let_1, en]
        rw [← en, ← en] at *
        have f1' : fn_X12_readText_23 g_N (nI (60 * h_ix k + h_ix i)) n 0 0 0 (rt_F (rt_F (rt_F t 99 0) 100 0) 101 0) = some ((s_rd (fun j => sF s 112 (60 * h_ix k + h_ix i + j)) (h_ix n) 0 (0, 0, 0, 0, 0, 0)).1, T2) := by
          rw [← en] at f1
          exact f1
        rw [f1', fg_b_1]
        have hT : RA T2 s := RA_fr h f2 (by decide)
        generalize s_rd (fun j => sF s 112 (60 * h_ix k + h_ix i + j)) (h_ix n) 0 (0, 0, 0, 0, 0, 0) = R at k1 k2 k3 f3
        by_cases c4 : R.1 = -1
        · have c5 : R.1 < 0 := by rw [c4]; decide
          rw [fg_if_1 c5]
          simp only [fg_if_1 c4]
          rw [hT.1.2.2.2.2.2.2.1]
          by_cases c6 : sC s 6 = 20
          · rw [fg_if_1 (show nI (sC s 6) = 20 by rw [c6]; rfl), ri_refused, fg_b_1]
            simp only [fg_if_1 c6]
            exact ⟨_, rfl, rs_flt hT 0⟩
          · have h4 : R.2.1 ≠ 0 := by rw [k3 (by omega) c4]; decide
            rw [fg_if_0 (show ¬ nI (sC s 6) = 20 from fun w => c6 ((n_eq (b := 20) (by omega) (by omega)).mp w)), f3.1 h4, f3.2.1, f3.2.2.1, f3.2.2.2]
            simp only [fg_if_0 c6]
            obtain ⟨t3, a1, a2, h2⟩ := ri_addRight hT v (by omega) w R.2.2.2.1 R.2.2.2.2.1 R.2.2.2.2.2.1 R.2.2.2.2.2.2 (-9)
            rw [a1, fg_b_1, a2, n_m1, ri_acted h2 ⟨v.1, v.2.1, v.2.2.1, v.2.2.2.1, v.2.2.2.2.1, v.2.2.2.2.2.1, show sC s 6 + 1 ≤ 20 by omega, v.2.2.2.2.2.2.2⟩, fg_b_1, ri_refused, fg_b_1]
            exact ⟨_, rfl, rs_flt (rs_act h2 _) 0⟩
        · have c5 : ¬ R.1 < 0 := by
            rcases k2 with w | ⟨i2, hi2, w⟩
            · exact absurd w c4
            · rw [w]; exact n_neg (by omega)
          rw [fg_if_0 c5, ri_refused, fg_b_1]
          simp only [fg_if_0 c4]
          exact ⟨_, rfl, rs_flt hT 0⟩
      · simp only [fg_if_0 c3]
        exact ri_br h c2 l i n c3
    · have c : ¬ (q_in w (sC s 2) ∧ q_in k 4) := fun w => c2 w.2
      rw [fg_if_0 c2, e15]
      simp only [fg_if_0 c]
      exact ⟨_, rfl, rs_flt h 0⟩
  · have c : ¬ (q_in w (sC s 2) ∧ q_in k 4) := fun w => c1 w.1
    rw [fg_if_0 c1, e15]
    simp only [fg_if_0 c]
    exact ⟨_, rfl, rs_flt h 0⟩
end RRt
