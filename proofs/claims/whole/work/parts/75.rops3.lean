/-- an array becomes f -/
def rt_Af (t : r_T) (k : Nat) (f : Nat → Int32) : r_T := (t.1, fun j => if j = k then f else t.2 j)
section RO3
variable {t : r_T} {s : sA}
theorem rt_Af_F (k : Nat) (f : Nat → Int32) : (rt_Af t k f).1 = t.1 := rfl
theorem rt_Af_A (k : Nat) (f : Nat → Int32) (j : Nat) : (rt_Af t k f).2 j = if j = k then f else t.2 j := rfl
theorem rt_A_Af (k i : Nat) (f : Nat → Int32) (v : Int32) : rt_A (rt_Af t k f) k i v = rt_Af t k (fun x => if x = i then v else f x) := by
  unfold rt_A rt_Af
  congr 1
  funext j
  by_cases h : j = k
  · simp [h]
  · simp [h]
theorem rt_Af_self (k : Nat) : rt_Af t k (t.2 k) = t := by
  unfold rt_Af
  have : (fun j => if j = k then t.2 k else t.2 j) = t.2 := by
    funext j
    by_cases h : j = k
    · simp [h]
    · simp [h]
  rw [this]
theorem RA_Af {k : Nat} {f : Nat → Int32} (h : RA t s) (hk : rla k = true) : RA (rt_Af t k f) (uFf s k f) := by
  refine RA_up h ?_ ?_ rfl rfl (Nat.le_refl _) rfl rfl rfl ?_ ?_ ?_ rfl rfl rfl (fun x hx => ?_)
  · exact h.1
  · intro j hj x
    rw [rt_Af_A, sF_uFf]
    by_cases e : j = k
    · rw [if_pos e, if_pos e]
    · rw [if_neg e, if_neg e]; exact h.2.1 j hj x
  · funext x; rw [sF_uFf, if_neg (fun e => by rw [← e] at hk; exact absurd hk (by decide))]
  · funext x; rw [sF_uFf, if_neg (fun e => by rw [← e] at hk; exact absurd hk (by decide))]
  · funext x; rw [sF_uFf, if_neg (fun e => by rw [← e] at hk; exact absurd hk (by decide))]
  · rw [rt_Af_A, if_neg]
    intro e
    rw [e] at hx
    have : ∀ y, y ∈ ([5, 6, 7, 11, 12, 13, 14, 15, 17, 18, 19, 20, 21, 76, 77, 79, 106, 107, 108] : List Nat) → rla y = false := by decide
    rw [this k hx] at hk
    exact absurd hk (by decide)
theorem q_cmp_le (x y : Int64) : lg_cmp x y ≤ 0 ↔ x ≤ y := by
  rw [← Int32.not_lt, q_cmp_gt, Int64.not_lt]
theorem ri_isBeyond (i n z : Int32) : fn_X12_isBeyond i n.toInt64 z t = some (q_b (¬ s_ok i n z), t) := by
  unfold fn_X12_isBeyond
  have a1 := i.le_toInt
  have a2 := i.toInt_lt
  have a3 := n.le_toInt
  have a4 := n.toInt_lt
  have e0 : (0 : Int32).toInt = 0 := rfl
  by_cases c1 : i < 0
  · rw [fg_if_1 c1, q_b1]
    intro q
    rw [Int32.lt_iff_toInt_lt] at c1
    have := q.1
    omega
  · rw [fg_if_0 c1]
    rw [Int32.lt_iff_toInt_lt] at c1
    by_cases c2 : lg_cmp n.toInt64 0 < 0
    · rw [fg_if_1 c2, q_b1]
      intro q
      rw [q_cmp_lt, Int64.lt_iff_toInt_lt, Int32.toInt_toInt64] at c2
      have := q.2.1
      have : (0 : Int64).toInt = 0 := rfl
      omega
    · rw [fg_if_0 c2]
      rw [q_cmp_lt, Int64.lt_iff_toInt_lt, Int32.toInt_toInt64] at c2
      have e1 : (0 : Int64).toInt = 0 := rfl
      have e2 : (i.toInt64 + n.toInt64).toInt = i.toInt + n.toInt := by
        rw [Int64.toInt_add, Int32.toInt_toInt64, Int32.toInt_toInt64, Int.bmod_eq_of_le] <;> omega
      by_cases c3 : lg_cmp (i.toInt64 + n.toInt64) z.toInt64 ≤ 0
      · rw [fg_if_1 c3, q_b0]
        rw [q_cmp_le, Int64.le_iff_toInt_le, e2, Int32.toInt_toInt64] at c3
        exact fun w => w ⟨by omega, by omega, c3⟩
      · rw [fg_if_0 c3, q_b1]
        rw [q_cmp_le, Int64.le_iff_toInt_le, e2, Int32.toInt_toInt64] at c3
        exact fun q => c3 q.2.2
/-- barred: what it answers -/
theorem ri_barred (h : RA t s) {k : Int32} (hk : q_in k 4) (l i n : Int32) : fn_X12_barred k l i n t = fg_if (s_bf s (h_ix k) l i n = 0) (some (0, t)) (fg_if (s_bf s (h_ix k) l i n = -2) (some (-2, rt_F t 0 0)) (some (-10 - s_bf s (h_ix k) l i n, rt_F t 0 (s_bf s (h_ix k) l i n)))) := by
  have i1 : vp_in k 4 := (q_vin _ _).mpr hk
  unfold fn_X12_barred fn_X12_barred_44 s_bf
  simp only [ri_inC l 2 (n := 3) rfl, fg_b_1, q_b_if, fg_g_1 i1, h.2.1 110 rfl, h.2.1 111 rfl, ri_refused, ri_failed, ri_isBeyond, fg_if_not]
  by_cases c1 : q_in l 3
  · simp only [fg_if_1 c1]
    by_cases c2 : sF s 110 (h_ix k) < 0
    · have c2' : ¬ 0 ≤ sF s 110 (h_ix k) := fun q => Int32.not_le.mpr c2 q
      have d1 : ¬ ((1 : Int32) = 0) := by decide
      have d2 : ¬ ((1 : Int32) = -2) := by decide
      simp only [fg_if_1 c2, fg_if_0 c2', fg_if_0 d1, fg_if_0 d2]
    · have c2' : 0 ≤ sF s 110 (h_ix k) := Int32.not_lt.mp c2
      simp only [fg_if_0 c2, fg_if_1 c2']
      by_cases c3 : sF s 111 (h_ix k) = l
      · simp only [fg_if_1 c3]
        by_cases c4 : n < 0
        · have c4' : ¬ 0 ≤ n := fun q => Int32.not_le.mpr c4 q
          have d1 : ¬ ((4 : Int32) = 0) := by decide
          have d2 : ¬ ((4 : Int32) = -2) := by decide
          simp only [fg_if_1 c4, fg_if_0 c4', fg_if_0 d1, fg_if_0 d2]
        · have c4' : 0 ≤ n := Int32.not_lt.mp c4
          simp only [fg_if_0 c4, fg_if_1 c4']
          by_cases c5 : s_ok i n (sF s 110 (h_ix k))
          · simp only [fg_if_1 c5, fg_if_1]
          · have d1 : ¬ ((3 : Int32) = 0) := by decide
            have d2 : ¬ ((3 : Int32) = -2) := by decide
            simp only [fg_if_0 c5, fg_if_0 d1, fg_if_0 d2]
      · have d1 : ¬ ((2 : Int32) = 0) := by decide
        have d2 : ¬ ((2 : Int32) = -2) := by decide
        simp only [fg_if_0 c3, fg_if_0 d1, fg_if_0 d2]
  · have d1 : ¬ ((-2 : Int32) = 0) := by decide
    simp only [fg_if_0 c1, fg_if_0 d1, fg_if_1]
theorem ri_sheet_65 {q n : Nat} (hq : q < 4) (hn : n ≤ 60) : ∀ (d j N : Nat) (f : Nat → Int32), j + d = n → d < N → fn_X12_sheet_65 N (nI q) (nI n) (nI j) (rt_Af t 112 f) = some (1, rt_F (rt_Af t 112 (fun x => if 60 * q + j ≤ x ∧ x < 60 * q + n then 0 else f x)) 0 0) := by
  intro d
  induction d with
  | zero =>
    intro j N f hj hN
    obtain ⟨N, rfl⟩ : ∃ m, N = m + 1 := ⟨N - 1, by omega⟩
    show fn_X12_sheet_65b _ _ _ _ _ = _
    unfold fn_X12_sheet_65b
    rw [fg_if_1 ((n_le (by omega) (by omega)).mpr (by omega)), ri_refused, fg_b_1]
    congr 4
    funext x
    rw [if_neg (by omega)]
  | succ d ih =>
    intro j N f hj hN
    obtain ⟨N, rfl⟩ : ∃ m, N = m + 1 := ⟨N - 1, by omega⟩
    show fn_X12_sheet_65b (fn_X12_sheet_65 N) _ _ _ _ = _
    unfold fn_X12_sheet_65b
    rw [fg_if_0 (fun w => by have := (n_le (a := n) (b := j) (by omega) (by omega)).mp w; omega), show (60 : Int32) = nI 60 from rfl, n_mul, n_add, fg_g_1 ((n_vp (by omega)).mpr (by omega)), fg_let_1, n_p1, q_nIx (by omega), rt_A_Af, ih (j + 1) N _ (by omega) (by omega)]
    congr 4
    funext x
    by_cases e : x = 60 * q + j
    · rw [if_neg (by omega), if_pos e, if_pos (by omega)]
    · by_cases e2 : 60 * q + (j + 1) ≤ x ∧ x < 60 * q + n
      · rw [if_pos e2, if_pos (by omega)]
      · rw [if_neg e2, if_neg e, if_neg (by omega)]
theorem rs_sheet (h : RA t s) (k l n : Int32) : ∃ t2, fn_X12_sheet k l n t = some ((s_sheet s k l n).1, t2) ∧ RA t2 (s_sheet s k l n).2 := by
  unfold fn_X12_sheet fn_X12_sheet_31 s_sheet
  simp only [ri_noSheet, ri_inC l 2 (n := 3) rfl, fg_b_1, q_b_if, fg_if_not, ri_refused, ri_failed]
  by_cases c1 : q_in k 4
  · have i1 : vp_in k 4 := (q_vin _ _).mpr c1
    simp only [fg_if_1 c1]
    by_cases c2 : q_in l 3
    · simp only [fg_if_1 c2]
      by_cases c3 : n ≤ 60
      · have c : q_in l 3 ∧ n ≤ 60 := ⟨c2, c3⟩
        simp only [fg_if_1 c3, fg_if_1 c]
        by_cases c4 : n < 0
        · have c4' : ¬ 0 ≤ n := fun q => Int32.not_le.mpr c4 q
          simp only [fg_if_1 c4, fg_if_0 c4']
          exact ⟨_, rfl, rs_flt h 4⟩
        · have c4' : 0 ≤ n := Int32.not_lt.mp c4
          simp only [fg_if_0 c4, fg_if_1 c4', fg_g_1 i1, fg_let_1]
          obtain ⟨e1, l1⟩ := n_in (n := 4) c1
          have c3i := Int32.le_iff_toInt_le.mp c3
          have c4i := Int32.le_iff_toInt_le.mp c4'
          obtain ⟨e2, l2⟩ := n_in (x := n) (n := 61) ⟨by simpa using c4i, by have : (60 : Int32).toInt = 60 := rfl; omega⟩
          generalize h_ix k = q at e1 l1
          generalize h_ix n = z at e2 l2
          subst e1
          subst e2
          have e := ri_sheet_65 (t := rt_A (rt_A t 110 q (nI z)) 111 q l) l1 (show z ≤ 60 by omega) z 0 g_N (t.2 112) (by omega) (by have := g_N_le; omega)
          have e3 : rt_Af (rt_A (rt_A t 110 q (nI z)) 111 q l) 112 (t.2 112) = rt_A (rt_A t 110 q (nI z)) 111 q l := rt_Af_self (t := rt_A (rt_A t 110 q (nI z)) 111 q l) 112
          rw [e3] at e
          refine ⟨_, e, ?_⟩
          have h2 := RA_Af (k := 112) (f := fun x => if 60 * q + 0 ≤ x ∧ x < 60 * q + z then 0 else t.2 112 x) (RA_A (k := 111) (i := q) (v := l) (RA_A (k := 110) (i := q) (v := nI z) h rfl) rfl) rfl
          have e4 : t.2 112 = sF s 112 := funext (h.2.1 112 rfl)
          rw [e4] at h2
          rw [e4]
          exact rs_flt h2 0
      · have c : ¬ (q_in l 3 ∧ n ≤ 60) := fun w => c3 w.2
        simp only [fg_if_0 c3, fg_if_0 c]
        exact ⟨_, rfl, rs_flt h 0⟩
    · have c : ¬ (q_in l 3 ∧ n ≤ 60) := fun w => c2 w.1
      simp only [fg_if_0 c2, fg_if_0 c]
      exact ⟨_, rfl, rs_flt h 0⟩
  · simp only [fg_if_0 c1]
    exact ⟨_, rfl, rs_flt h 0⟩
end RO3
