section RO5
variable {t : r_T} {s : sA}
theorem ri_copy_144 {o j n : Nat} (ho : o < 4) (hj : j + n ≤ 60) : ∀ (d x N : Nat) (f : Nat → Int32), x + d = n → d < N → fn_X12_copy_144 N (nI o) (nI j) (nI n) (nI x) (rt_Af t 112 f) = some (nI n, rt_F (rt_Af t 112 (fun y => if 60 * o + j + x ≤ y ∧ y < 60 * o + j + n then t.2 113 (y - (60 * o + j)) else f y)) 0 0) := by
  intro d
  induction d with
  | zero =>
    intro x N f hx hN
    obtain ⟨N, rfl⟩ : ∃ m, N = m + 1 := ⟨N - 1, by omega⟩
    show fn_X12_copy_144b _ _ _ _ _ _ = _
    unfold fn_X12_copy_144b
    rw [fg_if_1 ((n_le (by omega) (by omega)).mpr (by omega)), ri_refused, fg_b_1]
    congr 4
    funext y
    rw [if_neg (by omega)]
  | succ d ih =>
    intro x N f hx hN
    obtain ⟨N, rfl⟩ : ∃ m, N = m + 1 := ⟨N - 1, by omega⟩
    show fn_X12_copy_144b (fn_X12_copy_144 N) _ _ _ _ _ = _
    unfold fn_X12_copy_144b
    rw [fg_if_0 (fun w => by have := (n_le (a := n) (b := x) (by omega) (by omega)).mp w; omega), fg_g_1 ((n_vp (by omega)).mpr (by omega)), show (60 : Int32) = nI 60 from rfl, n_mul, n_add, n_add, fg_g_1 ((n_vp (by omega)).mpr (by omega)), fg_let_1, n_p1, q_nIx (by omega), q_nIx (by omega), rt_A_Af, ih (x + 1) N _ (by omega) (by omega)]
    congr 4
    funext y
    have e113 : (rt_Af t 112 f).2 113 = t.2 113 := rfl
    by_cases e : y = 60 * o + j + x
    · have e9 : y - (60 * o + j) = x := by omega
      rw [if_neg (by omega), if_pos e, if_pos (by omega), e113, e9]
    · by_cases e2 : 60 * o + j + (x + 1) ≤ y ∧ y < 60 * o + j + n
      · rw [if_pos e2, if_pos (by omega)]
      · rw [if_neg e2, if_neg e, if_neg (by omega)]
theorem ri_copy_107 {k i n : Nat} {o j : Int32} (hk : k < 4) (hi : i + n ≤ 60) : ∀ (d x N : Nat) (f : Nat → Int32), x + d = n → d < N → fn_X12_copy_107 N (nI k) (nI i) o j (nI n) (nI x) (rt_Af t 113 f) = fn_X12_copy_144 g_N o j (nI n) 0 (rt_Af t 113 (fun y => if x ≤ y ∧ y < n then t.2 112 (60 * k + i + y) else f y)) := by
  intro d
  induction d with
  | zero =>
    intro x N f hx hN
    obtain ⟨N, rfl⟩ : ∃ m, N = m + 1 := ⟨N - 1, by omega⟩
    show fn_X12_copy_107b _ _ _ _ _ _ _ _ = _
    unfold fn_X12_copy_107b
    rw [fg_if_1 ((n_le (by omega) (by omega)).mpr (by omega))]
    congr 2
    funext y
    rw [if_neg (by omega)]
  | succ d ih =>
    intro x N f hx hN
    obtain ⟨N, rfl⟩ : ∃ m, N = m + 1 := ⟨N - 1, by omega⟩
    show fn_X12_copy_107b (fn_X12_copy_107 N) _ _ _ _ _ _ _ = _
    unfold fn_X12_copy_107b
    rw [fg_if_0 (fun w => by have := (n_le (a := n) (b := x) (by omega) (by omega)).mp w; omega), show (60 : Int32) = nI 60 from rfl, n_mul, n_add, n_add, fg_g_1 ((n_vp (by omega)).mpr (by omega)), fg_g_1 ((n_vp (by omega)).mpr (by omega)), fg_let_1, n_p1, q_nIx (by omega), q_nIx (by omega), rt_A_Af, ih (x + 1) N _ (by omega) (by omega)]
    congr 2
    funext y
    have e112 : (rt_Af t 113 f).2 112 = t.2 112 := rfl
    by_cases e : y = x
    · rw [if_neg (by omega), if_pos e, if_pos (by omega), e112, e]
    · by_cases e2 : x + 1 ≤ y ∧ y < n
      · rw [if_pos e2, if_pos (by omega)]
      · rw [if_neg e2, if_neg e, if_neg (by omega)]
/-- cells that are there, as numbers -/
theorem s_okn (vs : ivs s) {k : Nat} (hk : k < 4) {i n : Int32} (h : s_ok i n (sF s 110 k)) : i = nI (h_ix i) ∧ n = nI (h_ix n) ∧ h_ix i + h_ix n ≤ 60 := by
  obtain ⟨h1, h2, h3⟩ := h
  have hz : (sF s 110 k).toInt ≤ 60 := by
    rcases vs k hk with e | ⟨z, hz, e⟩
    · rw [e]; decide
    · rw [e, q_nI (by omega)]; omega
  have a1 := q_ix h1
  have a2 := q_ix h2
  exact ⟨n_of h1, n_of h2, by omega⟩
theorem rs_copy (h : RA t s) (vs : ivs s) (k i o j n : Int32) : ∃ t2, fn_X12_copy k i o j n t = some ((s_copy s k i o j n).1, t2) ∧ RA t2 (s_copy s k i o j n).2 := by
  unfold fn_X12_copy fn_X12_copy_14 fn_X12_copy_38 fn_X12_copy_98 s_copy
  simp only [ri_noSheet, fg_b_1, q_b_if, fg_if_not, ri_refused, ri_failed]
  by_cases c1 : q_in k 4
  · by_cases c2 : q_in o 4
    · have c : q_in k 4 ∧ q_in o 4 := ⟨c1, c2⟩
      have i1 : vp_in k 4 := (q_vin _ _).mpr c1
      have io : vp_in o 4 := (q_vin _ _).mpr c2
      simp only [fg_if_1 c1, fg_if_1 c2, fg_if_1 c, fg_g_1 i1, fg_g_1 io, h.2.1 110 rfl, h.2.1 111 rfl, ri_isBeyond, fg_b_1, q_b_if, fg_if_not]
      by_cases d1 : sF s 110 (h_ix k) < 0
      · have w : sF s 110 (h_ix k) < 0 ∨ sF s 110 (h_ix o) < 0 := Or.inl d1
        simp only [fg_if_1 d1, fg_if_1 w]
        exact ⟨_, rfl, rs_flt h 1⟩
      · simp only [fg_if_0 d1]
        by_cases d2 : sF s 110 (h_ix o) < 0
        · have w : sF s 110 (h_ix k) < 0 ∨ sF s 110 (h_ix o) < 0 := Or.inr d2
          have d2' : ¬ 0 ≤ sF s 110 (h_ix o) := fun q => Int32.not_le.mpr d2 q
          simp only [fg_if_0 d2', fg_if_1 w]
          exact ⟨_, rfl, rs_flt h 1⟩
        · have w : ¬ (sF s 110 (h_ix k) < 0 ∨ sF s 110 (h_ix o) < 0) := fun w => w.elim d1 d2
          have d2' : 0 ≤ sF s 110 (h_ix o) := Int32.not_lt.mp d2
          simp only [fg_if_1 d2', fg_if_0 w]
          by_cases d3 : sF s 111 (h_ix k) = sF s 111 (h_ix o)
          · simp only [fg_if_1 d3]
            by_cases d4 : s_ok i n (sF s 110 (h_ix k))
            · simp only [fg_if_1 d4]
              by_cases d5 : s_ok j n (sF s 110 (h_ix o))
              · have d6 : s_ok i n (sF s 110 (h_ix k)) ∧ s_ok j n (sF s 110 (h_ix o)) := ⟨d4, d5⟩
                simp only [fg_if_1 d5, fg_if_1 d6]
                obtain ⟨e1, l1⟩ := n_in (n := 4) c1
                obtain ⟨e2, l2⟩ := n_in (n := 4) c2
                obtain ⟨e3, e4, l3⟩ := s_okn vs l1 d4
                obtain ⟨e5, _, l4⟩ := s_okn vs l2 d5
                generalize h_ix k = k2 at e1 l1
                generalize h_ix o = o2 at e2 l2
                generalize h_ix i = i2 at e3 l3
                generalize h_ix n = n2 at e4 l3 l4
                generalize h_ix j = j2 at e5 l4
                subst e1 e2 e3 e4 e5
                have a1 := ri_copy_107 (t := t) (o := nI o2) (j := nI j2) l1 l3 n2 0 g_N (t.2 113) (by omega) (by have := g_N_le; omega)
                rw [rt_Af_self] at a1
                have a2 := ri_copy_144 (t := rt_Af t 113 (fun y => if 0 ≤ y ∧ y < n2 then t.2 112 (60 * k2 + i2 + y) else t.2 113 y)) l2 l4 n2 0 g_N (t.2 112) (by omega) (by have := g_N_le; omega)
                have a3 : rt_Af (rt_Af t 113 (fun y => if 0 ≤ y ∧ y < n2 then t.2 112 (60 * k2 + i2 + y) else t.2 113 y)) 112 (t.2 112) = rt_Af t 113 (fun y => if 0 ≤ y ∧ y < n2 then t.2 112 (60 * k2 + i2 + y) else t.2 113 y) := rt_Af_self (t := rt_Af t 113 (fun y => if 0 ≤ y ∧ y < n2 then t.2 112 (60 * k2 + i2 + y) else t.2 113 y)) 112
                rw [a3] at a2
                refine ⟨_, a1.trans a2, ?_⟩
                have h1 : RA (rt_Af t 113 (fun y => if 0 ≤ y ∧ y < n2 then t.2 112 (60 * k2 + i2 + y) else t.2 113 y)) s := by
                  refine RA_fr (S := [113]) h ⟨fun _ _ => rfl, fun z hz => ?_⟩ (by decide)
                  rw [rt_Af_A, if_neg (by simpa using hz)]
                have e4 : t.2 112 = sF s 112 := funext (h.2.1 112 rfl)
                have h2 := rs_flt (RA_Af (k := 112) (f := fun y => if 60 * o2 + j2 ≤ y ∧ y < 60 * o2 + j2 + n2 then sF s 112 (60 * k2 + i2 + (y - (60 * o2 + j2))) else sF s 112 y) h1 rfl) 0
                have e5 : (fun y => if 60 * o2 + j2 + 0 ≤ y ∧ y < 60 * o2 + j2 + n2 then (rt_Af t 113 (fun y => if 0 ≤ y ∧ y < n2 then t.2 112 (60 * k2 + i2 + y) else t.2 113 y)).2 113 (y - (60 * o2 + j2)) else t.2 112 y) = (fun y => if 60 * o2 + j2 ≤ y ∧ y < 60 * o2 + j2 + n2 then sF s 112 (60 * k2 + i2 + (y - (60 * o2 + j2))) else sF s 112 y) := by
                  funext y
                  rw [e4]
                  by_cases e : 60 * o2 + j2 ≤ y ∧ y < 60 * o2 + j2 + n2
                  · rw [if_pos (show 60 * o2 + j2 + 0 ≤ y ∧ y < 60 * o2 + j2 + n2 by omega), if_pos e, rt_Af_A, if_pos rfl, if_pos (by omega)]
                  · rw [if_neg (show ¬ (60 * o2 + j2 + 0 ≤ y ∧ y < 60 * o2 + j2 + n2) by omega), if_neg e]
                rw [e5]
                exact h2
              · have d6 : ¬ (s_ok i n (sF s 110 (h_ix k)) ∧ s_ok j n (sF s 110 (h_ix o))) := fun w => d5 w.2
                simp only [fg_if_0 d5, fg_if_0 d6]
                exact ⟨_, rfl, rs_flt h 3⟩
            · have d6 : ¬ (s_ok i n (sF s 110 (h_ix k)) ∧ s_ok j n (sF s 110 (h_ix o))) := fun w => d4 w.1
              simp only [fg_if_0 d4, fg_if_0 d6]
              exact ⟨_, rfl, rs_flt h 3⟩
          · simp only [fg_if_0 d3]
            exact ⟨_, rfl, rs_flt h 2⟩
    · have c : ¬ (q_in k 4 ∧ q_in o 4) := fun w => c2 w.2
      simp only [fg_if_1 c1, fg_if_0 c2, fg_if_0 c]
      exact ⟨_, rfl, rs_flt h 0⟩
  · have c : ¬ (q_in k 4 ∧ q_in o 4) := fun w => c1 w.1
    simp only [fg_if_0 c1, fg_if_0 c]
    exact ⟨_, rfl, rs_flt h 0⟩
end RO5
