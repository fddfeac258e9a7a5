section RO4
variable {t : r_T} {s : sA}
theorem rs_ofLink (h : RA t s) (v : ivc s) (x w : Int32) : ∃ t2, fn_X12_ofLink x w t = some ((s_ofLink s x w).1, t2) ∧ RA t2 (s_ofLink s x w).2 := by
  have v1 := v.2.2.2.2.2.1
  unfold fn_X12_ofLink s_ofLink
  simp only [ri_noLink h v, fg_b_1, q_bn_if]
  by_cases c : q_in x (sC s 5)
  · have i1 : vp_in x 24 := (q_vin _ _).mpr (by unfold q_in at *; omega)
    simp only [fg_if_1 c, fg_g_1 i1, fg_if_some, h.2.1 81 rfl, h.2.1 82 rfl, h.2.1 83 rfl, h.2.1 84 rfl, h.2.1 85 rfl, h.2.1 86 rfl]
    exact ⟨t, rfl, h⟩
  · simp only [fg_if_0 c]
    exact ⟨t, rfl, h⟩
theorem rs_ofRight (h : RA t s) (v : ivc s) (x w : Int32) : ∃ t2, fn_X12_ofRight x w t = some ((s_ofRight s x w).1, t2) ∧ RA t2 (s_ofRight s x w).2 := by
  have v1 := v.2.2.2.2.2.2.1
  unfold fn_X12_ofRight s_ofRight
  simp only [ri_noRight h v, fg_b_1, q_bn_if]
  by_cases c : q_in x (sC s 6)
  · have i1 : vp_in x 20 := (q_vin _ _).mpr (by unfold q_in at *; omega)
    simp only [fg_if_1 c, fg_g_1 i1, fg_if_some, h.2.1 90 rfl, h.2.1 91 rfl, h.2.1 92 rfl, h.2.1 93 rfl, h.2.1 94 rfl, h.2.1 95 rfl, h.2.1 97 rfl]
    exact ⟨t, rfl, h⟩
  · simp only [fg_if_0 c]
    exact ⟨t, rfl, h⟩
theorem rs_clash (h : RA t s) (v : ivc s) (x w : Int32) : ∃ t2, fn_X12_clash x w t = some ((s_clash s x w).1, t2) ∧ RA t2 (s_clash s x w).2 := by
  have v1 := v.2.2.2.2.2.2.2.1
  unfold fn_X12_clash s_clash
  simp only [h.1.2.2.2.2.2.2.2.1, ri_in, q_bc (q_in0n (show sC s 7 < 2 ^ 31 by omega)), fg_b_1, q_b_if]
  by_cases c : q_in x (sC s 7)
  · have i1 : vp_in x 12 := (q_vin _ _).mpr (by unfold q_in at *; omega)
    obtain ⟨e1, e2, _⟩ := h.2.2.2.2.2 (h_ix x) (n_in c).2
    simp only [fg_if_1 c, fg_g_1 i1, fg_if_some, h.2.1 75 rfl, h.2.1 78 rfl, e1, e2]
    exact ⟨t, rfl, h⟩
  · simp only [fg_if_0 c]
    exact ⟨t, rfl, h⟩
theorem rs_tr (h : RA t s) (n : Int32) : RA (rt_F t 114 (31 * t.1 114 + n)) (s_tr s n) := by
  refine RA_up h ?_ h.2.1 rfl rfl (Nat.le_refl _) rfl rfl rfl rfl rfl rfl rfl rfl rfl (fun _ _ => rfl)
  have h1 := h.1
  unfold RN at *
  simp only [s_tr, rt_FF, sC_uN, sN_uN]
  simp [h1]
theorem ri_traced (n : Int32) : fn_X12_traced n t = some ((), rt_F t 114 (31 * t.1 114 + n)) := rfl
theorem rs_tell (h : RA t s) (v : ivc s) (vl : ivl s) (x : Int32) : ∃ t2, fn_X12_tell x t = some ((s_tell s x).1, t2) ∧ RA t2 (s_tell s x).2 := by
  have v1 := v.2.2.2.2.2.1
  unfold fn_X12_tell s_tell
  simp only [ri_noLink h v, fg_b_1, q_bn_if]
  by_cases c : q_in x (sC s 5)
  · have i1 : vp_in x 24 := (q_vin _ _).mpr (by unfold q_in at *; omega)
    obtain ⟨z, hz, e⟩ := vl (h_ix x) (n_in c).2
    unfold fn_X12_tell_27 fn_X12_tell_37 fn_X12_tell_42 fn_X12_tell_52 fn_X12_tell_62 fn_X12_tell_77 fn_X12_tell_82
    simp only [fg_if_1 c, fg_g_1 i1, ri_traced, fg_b_1, rt_FA, h.2.1 81 rfl, h.2.1 83 rfl, h.2.1 85 rfl, e]
    rcases (show z = 0 ∨ z = 1 ∨ z = 2 ∨ z = 3 ∨ z = 4 by omega) with rfl | rfl | rfl | rfl | rfl
    · simp only [show (nI 0 = 2) = False by decide, show (nI 0 = 1) = False by decide, show (nI 0 = 4) = False by decide, show (nI 0 ≤ 2) = True by decide, show (nI 0 = 0) = True by decide, fg_if_T, fg_if_F]
      exact ⟨_, rfl, rs_tr h _⟩
    · simp only [show (nI 1 = 2) = False by decide, show (nI 1 = 1) = True by decide, show (nI 1 = 4) = False by decide, show (nI 1 ≤ 2) = True by decide, show (nI 1 = 0) = False by decide, fg_if_T, fg_if_F]
      exact ⟨_, rfl, rs_tr (rs_tr h _) _⟩
    · simp only [show (nI 2 = 2) = True by decide, show (nI 2 = 1) = False by decide, show (nI 2 = 4) = False by decide, show (nI 2 ≤ 2) = True by decide, show (nI 2 = 0) = False by decide, fg_if_T, fg_if_F]
      exact ⟨_, rfl, rs_tr (rs_tr (rs_tr (rs_tr h _) _) _) _⟩
    · simp only [show (nI 3 = 2) = False by decide, show (nI 3 = 1) = False by decide, show (nI 3 = 4) = False by decide, show (nI 3 ≤ 2) = False by decide, show (nI 3 = 0) = False by decide, show (nI 3 = 3) = True by decide, fg_if_T, fg_if_F]
      exact ⟨_, rfl, rs_tr (rs_tr h _) _⟩
    · simp only [show (nI 4 = 2) = False by decide, show (nI 4 = 1) = False by decide, show (nI 4 = 4) = True by decide, show (nI 4 ≤ 2) = False by decide, show (nI 4 = 0) = False by decide, show (nI 4 = 3) = False by decide, fg_if_T, fg_if_F]
      exact ⟨_, rfl, rs_tr (rs_tr (rs_tr (rs_tr h _) _) _) _⟩
  · simp only [fg_if_0 c]
    exact ⟨t, rfl, h⟩
theorem rs_name (h : RA t s) (v : ivc s) (x : Int32) : ∃ t2, fn_X12_name x t = some ((s_name s x).1, t2) ∧ RA t2 (s_name s x).2 := by
  have v1 := v.2.2.2.2.2.1
  unfold fn_X12_name fn_X12_name_28 s_name
  simp only [ri_noLink h v, fg_b_1, q_bn_if]
  by_cases c : q_in x (sC s 5)
  · have i1 : vp_in x 24 := (q_vin _ _).mpr (by unfold q_in at *; omega)
    simp only [fg_if_1 c, fg_g_1 i1, ri_traced, fg_b_1, rt_FA, h.2.1 81 rfl]
    by_cases c2 : sF s 81 (h_ix x) = 4
    · simp only [fg_if_1 c2]
      exact ⟨_, rfl, rs_tr h _⟩
    · simp only [fg_if_0 c2]
      exact ⟨_, rfl, rs_tr h _⟩
  · simp only [fg_if_0 c]
    exact ⟨t, rfl, h⟩
theorem rs_as (h : RA t s) (v : ivc s) (x d : Int32) : ∃ t2, fn_X12_as x d t = some ((s_as s x d).1, t2) ∧ RA t2 (s_as s x d).2 := by
  have v1 := v.2.2.2.2.2.1
  unfold fn_X12_as fn_X12_as_59 fn_X12_as_73 fn_X12_as_69 fn_X12_as_74 s_as
  have d1 : ¬ ((1 : Int32) = 0) := by decide
  simp only [ri_noLink h v, ri_inC d 4 (n := 5) rfl, fg_b_1, q_b_if, fg_if_not, ri_refused, ri_failed, fg_if_0 d1, fg_if_1]
  by_cases c : q_in x (sC s 5)
  · have i1 : vp_in x 24 := (q_vin _ _).mpr (by unfold q_in at *; omega)
    simp only [fg_if_1 c, fg_g_1 i1, h.2.1 81 rfl]
    by_cases c2 : q_in d 5
    · simp only [fg_if_1 c2]
      by_cases e1 : d = 0
      · rw [fg_if_1 e1, fg_if_1 (Or.inl e1)]; exact ⟨_, rfl, rs_flt h 0⟩
      · rw [fg_if_0 e1]
        by_cases e2 : d = sF s 81 (h_ix x)
        · rw [fg_if_1 e2, fg_if_1 (Or.inr (Or.inl e2))]; exact ⟨_, rfl, rs_flt h 0⟩
        · rw [fg_if_0 e2]
          by_cases e3 : d = 1
          · rw [fg_if_1 e3]
            by_cases e4 : sF s 81 (h_ix x) = 2
            · rw [fg_if_1 e4, fg_if_1 (Or.inr (Or.inr (Or.inl ⟨e3, e4⟩)))]; exact ⟨_, rfl, rs_flt h 0⟩
            · have n3 : ¬ d = 3 := by rw [e3]; decide
              rw [fg_if_0 e4, fg_if_0 n3, fg_if_0 (fun w => w.elim e1 (fun w => w.elim e2 (fun w => w.elim (fun w => e4 w.2) (fun w => n3 w.1))))]
              exact ⟨_, rfl, rs_flt h 2⟩
          · rw [fg_if_0 e3]
            by_cases e5 : d = 3
            · rw [fg_if_1 e5]
              by_cases e6 : sF s 81 (h_ix x) = 4
              · rw [fg_if_1 e6, fg_if_1 (Or.inr (Or.inr (Or.inr ⟨e5, e6⟩)))]; exact ⟨_, rfl, rs_flt h 0⟩
              · rw [fg_if_0 e6, fg_if_0 (fun w => w.elim e1 (fun w => w.elim e2 (fun w => w.elim (fun w => e3 w.1) (fun w => e6 w.2))))]
                exact ⟨_, rfl, rs_flt h 2⟩
            · rw [fg_if_0 e5, fg_if_0 (fun w => w.elim e1 (fun w => w.elim e2 (fun w => w.elim (fun w => e3 w.1) (fun w => e5 w.1))))]
              exact ⟨_, rfl, rs_flt h 2⟩
    · simp only [fg_if_0 c2]
      exact ⟨_, rfl, rs_flt h 0⟩
  · simp only [fg_if_0 c]
    exact ⟨_, rfl, rs_flt h 0⟩
theorem ri_noCell (h : RA t s) {k : Int32} (hk : q_in k 4) (i : Int32) : fn_X12_noCell k i t = some (fg_if (sF s 110 (h_ix k) < 0) 1 (fg_if (q_in i (sF s 110 (h_ix k)).toInt) 0 3), t) := by
  have i1 : vp_in k 4 := (q_vin _ _).mpr hk
  unfold fn_X12_noCell
  simp only [fg_g_1 i1, h.2.1 110 rfl, ri_in, q_bc (q_in0 _ _), fg_b_1, q_b_if, fg_if_some]
  by_cases c : sF s 110 (h_ix k) < 0
  · rw [fg_if_1 c, fg_if_0 (fun q => Int32.not_le.mpr c q)]
  · rw [fg_if_0 c, fg_if_1 (Int32.not_lt.mp c)]
/-- the place of a cell -/
theorem q_60s (vs : ivs s) {k i : Int32} (hk : q_in k 4) (hi : q_in i (sF s 110 (h_ix k)).toInt) : 60 * k + i = nI (60 * h_ix k + h_ix i) ∧ 60 * h_ix k + h_ix i < 240 := by
  obtain ⟨_, l1⟩ := n_in (n := 4) hk
  have hi60 : q_in i 60 := by
    rcases vs (h_ix k) l1 with e | ⟨z, hz, e⟩
    · rw [e] at hi
      have : (-1 : Int32).toInt = -1 := rfl
      have := hi.1
      have := hi.2
      omega
    · rw [e, q_nI (by omega)] at hi
      exact ⟨hi.1, by have := hi.2; omega⟩
  have := (n_in (n := 60) hi60).2
  exact ⟨q_60 hk hi60, by omega⟩
theorem rs_set (h : RA t s) (vs : ivs s) (k i v : Int32) : ∃ t2, fn_X12_set k i v t = some ((s_set s k i v).1, t2) ∧ RA t2 (s_set s k i v).2 := by
  unfold fn_X12_set fn_X12_set_73 s_set
  simp only [ri_noSheet, fg_b_1, q_b_if, fg_if_not, ri_refused, ri_failed]
  by_cases c : q_in k 4
  · have i1 : vp_in k 4 := (q_vin _ _).mpr c
    simp only [fg_if_1 c, ri_noCell h c, fg_b_1, fg_g_1 i1]
    by_cases c1 : sF s 110 (h_ix k) < 0
    · have d : ¬ ((1 : Int32) ≤ 0) := by decide
      simp only [fg_if_1 c1, fg_if_0 d]
      exact ⟨_, rfl, rs_flt h 1⟩
    · simp only [fg_if_0 c1]
      by_cases c2 : q_in i (sF s 110 (h_ix k)).toInt
      · have d : (0 : Int32) ≤ 0 := by decide
        obtain ⟨e1, e2⟩ := q_60s vs c c2
        simp only [fg_if_1 c2, fg_if_1 d, h.2.1 111 rfl, e1, fg_g_1 ((n_vp (k := 60 * h_ix k + h_ix i) (n := 240) (by omega)).mpr e2), fg_let_1, q_nIx (k := 60 * h_ix k + h_ix i) (by omega), fg_b_1]
        refine ⟨_, ?_, rs_flt (RA_A (k := 112) (i := 60 * h_ix k + h_ix i) (v := s_cutl (sF s 111 (h_ix k)) v) h rfl) 0⟩
        unfold s_cutl
        by_cases f1 : sF s 111 (h_ix k) = 0
        · rw [fg_if_1 f1, fg_if_1 f1]
        · rw [fg_if_0 f1, fg_if_0 f1]
          by_cases f2 : sF s 111 (h_ix k) = 1
          · rw [fg_if_1 f2, fg_if_1 f2]
          · rw [fg_if_0 f2, fg_if_0 f2]
      · have d : ¬ ((3 : Int32) ≤ 0) := by decide
        simp only [fg_if_0 c2, fg_if_0 d]
        exact ⟨_, rfl, rs_flt h 3⟩
  · simp only [fg_if_0 c]
    exact ⟨_, rfl, rs_flt h 0⟩
theorem rs_cell (h : RA t s) (vs : ivs s) (k i l : Int32) : ∃ t2, fn_X12_cell k i l t = some ((s_cell s k i l).1, t2) ∧ RA t2 (s_cell s k i l).2 := by
  have h0 := rs_flt h 0
  unfold fn_X12_cell fn_X12_cell_24 fn_X12_cell_53 fn_X12_failedLong fn_X12_lost s_cell
  simp only [fg_let_1, ri_noSheet, ri_inC l 2 (n := 3) rfl, fg_b_1, q_b_if, fg_if_not]
  by_cases c : q_in k 4
  · have i1 : vp_in k 4 := (q_vin _ _).mpr c
    simp only [fg_if_1 c]
    by_cases cl : q_in l 3
    · have cc : q_in k 4 ∧ q_in l 3 := ⟨c, cl⟩
      simp only [fg_if_1 cl, fg_if_1 cc, fg_g_1 i1, rt_FA, h.2.1 110 rfl, h.2.1 111 rfl, ri_noCell h0 c, fg_b_1]
      have e0 : sF (s_flt s 0) 110 = sF s 110 := rfl
      simp only [e0]
      by_cases c1 : sF s 110 (h_ix k) < 0
      · have d : ¬ ((1 : Int32) ≤ 0) := by decide
        simp only [fg_if_1 c1, fg_if_0 d]
        exact ⟨_, rfl, by have := rs_flt h0 1; exact RA_up h (rs_flt h 1).1 h.2.1 rfl rfl (Nat.le_refl _) rfl rfl rfl rfl rfl rfl rfl rfl rfl (fun _ _ => rfl)⟩
      · simp only [fg_if_0 c1]
        by_cases c3 : sF s 111 (h_ix k) = l
        · simp only [fg_if_1 c3]
          by_cases c2 : q_in i (sF s 110 (h_ix k)).toInt
          · have d : (0 : Int32) ≤ 0 := by decide
            obtain ⟨e1, e2⟩ := q_60s vs c c2
            simp only [fg_if_1 c2, fg_if_1 d, e1, fg_g_1 ((n_vp (k := 60 * h_ix k + h_ix i) (n := 240) (by omega)).mpr e2), q_nIx (k := 60 * h_ix k + h_ix i) (by omega), h.2.1 112 rfl]
            exact ⟨_, rfl, h0⟩
          · have d : ¬ ((3 : Int32) ≤ 0) := by decide
            simp only [fg_if_0 c2, fg_if_0 d]
            exact ⟨_, rfl, RA_up h (rs_flt h 3).1 h.2.1 rfl rfl (Nat.le_refl _) rfl rfl rfl rfl rfl rfl rfl rfl rfl (fun _ _ => rfl)⟩
        · simp only [fg_if_0 c3]
          exact ⟨_, rfl, RA_up h (rs_flt h 2).1 h.2.1 rfl rfl (Nat.le_refl _) rfl rfl rfl rfl rfl rfl rfl rfl rfl (fun _ _ => rfl)⟩
    · have cc : ¬ (q_in k 4 ∧ q_in l 3) := fun w => cl w.2
      simp only [fg_if_0 cl, fg_if_0 cc]
      exact ⟨_, rfl, h0⟩
  · have cc : ¬ (q_in k 4 ∧ q_in l 3) := fun w => c w.1
    simp only [fg_if_0 c, fg_if_0 cc]
    exact ⟨_, rfl, h0⟩
end RO4
