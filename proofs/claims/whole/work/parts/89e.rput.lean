section RPu
variable {t T : r_T} {s : sA}
theorem ri_put_54 (h : RA t s) (v : ivc s) (v0 : sC s 0 < 512) (vp : ivp s) (vo : ivo s) {w a k i n : Nat} (hw : w < sC s 2) (ha : a ≤ 300) (hk : k < 4) (hi : i + n ≤ 60) : ∀ (d j N : Nat), j + d = n → d < N → (∀ x, x < j → 1 ≤ s_cl s k i x ∧ s_cl s k i x ≤ 99) → ∃ t2, fn_X12_put_54 N (nI w) (nI a) (nI k) (nI i) (nI n) (nI j) t = some ((fg_if (nI n = 0 ∨ ¬ s_cds (s_cl s k i) n) ((-2 : Int32), s_flt s 0) (fg_if (sC s 3 + n ≤ 500 ∧ (s_brg s (nI w) a (0, nI (sC s 3), nI n, -9, -9)).length ≤ 24) (nI (sC s 3), s_flt (s_act (s_wl (s_cl s k i) w n 0 (s_new s (nI w) (s_brg s (nI w) a (0, nI (sC s 3), nI n, -9, -9)))) (nI (sC s 3))) 0) (-4, s_flt s 0))).1, t2) ∧ RA t2 (fg_if (nI n = 0 ∨ ¬ s_cds (s_cl s k i) n) ((-2 : Int32), s_flt s 0) (fg_if (sC s 3 + n ≤ 500 ∧ (s_brg s (nI w) a (0, nI (sC s 3), nI n, -9, -9)).length ≤ 24) (nI (sC s 3), s_flt (s_act (s_wl (s_cl s k i) w n 0 (s_new s (nI w) (s_brg s (nI w) a (0, nI (sC s 3), nI n, -9, -9)))) (nI (sC s 3))) 0) (-4, s_flt s 0))).2 := by
  have v3 := v.2.2.2.1
  have v2 := v.2.2.1
  have v1 := v.2.1
  intro d
  induction d with
  | zero =>
    intro j N hj hN hC
    obtain ⟨N, rfl⟩ : ∃ m, N = m + 1 := ⟨N - 1, by omega⟩
    obtain rfl : j = n := by omega
    show ∃ t2, fn_X12_put_54b _ _ _ _ _ _ _ _ = _ ∧ _
    unfold fn_X12_put_54b fn_X12_put_150
    rw [fg_if_1 (Int32.le_refl _)]
    by_cases c0 : nI j = 0
    · have c : nI j = 0 ∨ ¬ s_cds (s_cl s k i) j := Or.inl c0
      rw [fg_if_1 c0, ri_refused, fg_b_1]
      simp only [fg_if_1 c]
      exact ⟨_, rfl, rs_flt h 0⟩
    · have c : ¬ (nI j = 0 ∨ ¬ s_cds (s_cl s k i) j) := fun q => by
        rcases q with q | q
        · exact c0 q
        · exact q hC
      rw [fg_if_0 c0]
      simp only [fg_if_0 c]
      obtain ⟨T1, a1, a2, a3, a4, a5, a6, a7⟩ := ri_open h v vp (w := w) (by omega)
      rw [a1, fg_b_1, a7.1.2.2.2.1, n_add]
      by_cases c1 : sC s 3 + j ≤ 500
      · rw [fg_if_0 (show ¬ (500 : Int32) < nI (sC s 3 + j) from fun z => by have := (n_lt (a := 500) (by omega) (by omega)).mp z; omega)]
        obtain ⟨T2, b1, b2, b3⟩ := ri_come a7 v v0 vp (w := w) (at_ := a) (by omega) ha (0, nI (sC s 3), nI j, -9, -9) a4 a5 a6
        dsimp only at b1
        rw [b1, fg_b_1, q_b_if]
        by_cases c2 : (s_brg s (nI w) a (0, nI (sC s 3), nI j, -9, -9)).length ≤ 24
        · have cc : sC s 3 + j ≤ 500 ∧ (s_brg s (nI w) a (0, nI (sC s 3), nI j, -9, -9)).length ≤ 24 := ⟨c1, c2⟩
          rw [fg_if_1 c2]
          simp only [fg_if_1 cc]
          obtain ⟨h0, hh, eh⟩ := vo w hw
          have hR := b2 c2
          unfold s_new at hR ⊢
          rw [q_nIx (by omega)] at hR ⊢
          rw [fg_g_1 ((n_vp (by omega)).mpr (by omega)), hR.2.1 9 rfl, eh]
          have := ri_put_171 v v0 (by omega) hk hi c1 eh (by omega) hR (sC s 3) 0 g_N (by omega) (by have := g_N_le; omega)
          rw [s_wl_R] at this
          exact this
        · have cc : ¬ (sC s 3 + j ≤ 500 ∧ (s_brg s (nI w) a (0, nI (sC s 3), nI j, -9, -9)).length ≤ 24) := fun q => c2 q.2
          rw [fg_if_0 c2, ri_refused, fg_b_1]
          simp only [fg_if_0 cc]
          exact ⟨_, rfl, rs_flt (b3 c2) 0⟩
      · have cc : ¬ (sC s 3 + j ≤ 500 ∧ (s_brg s (nI w) a (0, nI (sC s 3), nI j, -9, -9)).length ≤ 24) := fun q => c1 q.1
        rw [fg_if_1 (show (500 : Int32) < nI (sC s 3 + j) from (n_lt (a := 500) (by omega) (by omega)).mpr (by omega)), ri_refused, fg_b_1]
        simp only [fg_if_0 cc]
        exact ⟨_, rfl, rs_flt a7 0⟩
  | succ d ih =>
    intro j N hj hN hC
    obtain ⟨N, rfl⟩ : ∃ m, N = m + 1 := ⟨N - 1, by omega⟩
    show ∃ t2, fn_X12_put_54b (fn_X12_put_54 N) _ _ _ _ _ _ _ = _ ∧ _
    unfold fn_X12_put_54b
    have en : ((1 : Int64) ≤ (s_cl s k i j).toInt64 ∧ (s_cl s k i j).toInt64 ≤ 99) ↔ (1 ≤ s_cl s k i j ∧ s_cl s k i j ≤ 99) := q_c64 _ 1 99 (by decide) (by decide)
    have ec : t.2 112 (60 * k + i + j) = s_cl s k i j := h.2.1 112 rfl _
    rw [fg_if_0 (fun z => by have := (n_le (a := n) (b := j) (by omega) (by omega)).mp z; omega), show (60 : Int32) = nI 60 from rfl, n_mul, n_add, n_add, fg_g_1 ((n_vp (by omega)).mpr (by omega)), q_nIx (by omega), ec, ri_in, q_bc en, fg_b_1, q_b_if, ri_refused, fg_b_1, n_p1]
    by_cases c1 : 1 ≤ s_cl s k i j ∧ s_cl s k i j ≤ 99
    · rw [fg_if_1 c1]
      exact ih (j + 1) N (by omega) (by omega) (fun x hx => by
        by_cases e : x = j
        · rw [e]; exact c1
        · exact hC x (by omega))
    · have c : nI n = 0 ∨ ¬ s_cds (s_cl s k i) n := Or.inr (fun q => c1 (q j (by omega)))
      rw [fg_if_0 c1]
      simp only [fg_if_1 c]
      exact ⟨_, rfl, rs_flt h 0⟩
theorem rs_put (h : RA t s) (v : ivc s) (v0 : sC s 0 < 512) (vp : ivp s) (vo : ivo s) (vs : ivs s) (w a k l i n : Int32) : ∃ t2, fn_X12_put w a k l i n t = some ((s_put s w a k l i n).1, t2) ∧ RA t2 (s_put s w a k l i n).2 := by
  have v2 := v.2.2.1
  have e24 : ∀ T : r_T, fn_X12_put_24 T = some (-1, rt_F T 0 0) := fun _ => rfl
  unfold fn_X12_put s_put
  rw [ri_noWriting h v, fg_b_1, q_bn_if]
  by_cases c1 : q_in w (sC s 2)
  · rw [fg_if_1 c1, ri_noSheet, fg_b_1, q_bn_if]
    by_cases c2 : q_in k 4
    · obtain ⟨e1, l1⟩ := n_in c1
      obtain ⟨T1, a1, a2⟩ := ri_noPlaceAhead h v vp (w := h_ix w) (by omega) a
      rw [← e1] at a1
      rw [fg_if_1 c2, a1, fg_b_1, q_bn_if]
      by_cases c3 : q_in a ((s_SH s w).length + 1)
      · have c : s_ahd s w a ∧ q_in k 4 := ⟨⟨c1, c3⟩, c2⟩
        rw [fg_if_1 c3]
        simp only [fg_if_1 c]
        by_cases c4 : s_bf s (h_ix k) l i n = 0
        · simp only [fg_if_1 c4]
          obtain ⟨e2, l2⟩ := n_in (n := 4) c2
          obtain ⟨e3, l3⟩ := n_in (n := (s_SH s w).length + 1) c3
          have hS : (s_SH s w).length ≤ 300 := s_sh_300 _ _ _ _
          obtain ⟨z, hz, ez, ei, en, hl⟩ := s_bf0 vs l2 c4
          have := ri_put_54 a2 v v0 vp vo l1 (a := h_ix a) (k := h_ix k) (i := h_ix i) (n := h_ix n) (by omega) l2 (by omega) (h_ix n) 0 g_N (by omega) (by have := g_N_le; omega) (fun x hx => absurd hx (Nat.not_lt_zero _))
          rw [← e1, ← e2, ← e3, ← ei, ← en] at this
          rw [ri_barred a2 c2, fg_if_1 c4, fg_b_1, fg_if_1 (by decide)]
          exact this
        · simp only [fg_if_0 c4]
          exact ri_br a2 c2 l i n c4
      · have c : ¬ (s_ahd s w a ∧ q_in k 4) := fun q => c3 q.1.2
        rw [fg_if_0 c3, e24]
        simp only [fg_if_0 c]
        exact ⟨_, rfl, rs_flt a2 0⟩
    · have c : ¬ (s_ahd s w a ∧ q_in k 4) := fun q => c2 q.2
      rw [fg_if_0 c2, e24]
      simp only [fg_if_0 c]
      exact ⟨_, rfl, rs_flt h 0⟩
  · have c : ¬ (s_ahd s w a ∧ q_in k 4) := fun q => c1 q.1.1
    rw [fg_if_0 c1, e24]
    simp only [fg_if_0 c]
    exact ⟨_, rfl, rs_flt h 0⟩
end RPu
