/-! sheets -/
def s_ok (i n z : Int32) : Prop := 0 ≤ i.toInt ∧ 0 ≤ n.toInt ∧ i.toInt + n.toInt ≤ z.toInt
/-- the fault that taking n cells from i on of the sheet k as a row of the lane l comes to (0: none; -2: no such lane) -/
noncomputable def s_bf (s : sA) (k : Nat) (l i n : Int32) : Int32 := fg_if (q_in l 3) (fg_if (sF s 110 k < 0) 1 (fg_if (sF s 111 k = l) (fg_if (n < 0) 4 (fg_if (s_ok i n (sF s 110 k)) 0 3)) 2)) (-2)
/-- what a barred call answers, and the state -/
noncomputable def s_br (s : sA) (f : Int32) : Int32 × sA := fg_if (f = -2) (-2, s_flt s 0) (-10 - f, s_flt s f)
noncomputable def s_sheet (s : sA) (k l n : Int32) : Int32 × sA := fg_if (q_in k 4) (fg_if (q_in l 3 ∧ n ≤ 60) (fg_if (n < 0) (-14, s_flt s 4) (1, s_flt (uFf (uF (uF s 110 (h_ix k) n) 111 (h_ix k) l) 112 (fun x => if 60 * h_ix k ≤ x ∧ x < 60 * h_ix k + h_ix n then 0 else sF s 112 x)) 0)) (-2, s_flt s 0)) (-1, s_flt s 0)
noncomputable def s_cutl (l v : Int32) : Int32 := fg_if (l = 0) v.toInt8.toInt32 (fg_if (l = 1) v.toInt16.toInt32 v)
noncomputable def s_set (s : sA) (k i v : Int32) : Int32 × sA := fg_if (q_in k 4) (fg_if (sF s 110 (h_ix k) < 0) (-11, s_flt s 1) (fg_if (q_in i (sF s 110 (h_ix k)).toInt) (1, s_flt (uF s 112 (60 * h_ix k + h_ix i) (s_cutl (sF s 111 (h_ix k)) v)) 0) (-13, s_flt s 3))) (-1, s_flt s 0)
noncomputable def s_cell (s : sA) (k i l : Int32) : Int64 × sA := fg_if (q_in k 4 ∧ q_in l 3) (fg_if (sF s 110 (h_ix k) < 0) (-9223372036854775808, s_flt s 1) (fg_if (sF s 111 (h_ix k) = l) (fg_if (q_in i (sF s 110 (h_ix k)).toInt) ((sF s 112 (60 * h_ix k + h_ix i)).toInt64, s_flt s 0) (-9223372036854775808, s_flt s 3)) (-9223372036854775808, s_flt s 2))) (-9223372036854775808, s_flt s 0)
noncomputable def s_copy (s : sA) (k i o j n : Int32) : Int32 × sA := fg_if (q_in k 4 ∧ q_in o 4) (fg_if (sF s 110 (h_ix k) < 0 ∨ sF s 110 (h_ix o) < 0) (-11, s_flt s 1) (fg_if (sF s 111 (h_ix k) = sF s 111 (h_ix o)) (fg_if (s_ok i n (sF s 110 (h_ix k)) ∧ s_ok j n (sF s 110 (h_ix o))) (n, s_flt (uFf s 112 (fun x => if 60 * h_ix o + h_ix j ≤ x ∧ x < 60 * h_ix o + h_ix j + h_ix n then sF s 112 (60 * h_ix k + h_ix i + (x - (60 * h_ix o + h_ix j))) else sF s 112 x)) 0) (-13, s_flt s 3)) (-12, s_flt s 2))) (-1, s_flt s 0)
/-- sheets: nothing, or up to 60 cells -/
def ivs (s : sA) : Prop := ∀ k, k < 4 → sF s 110 k = -1 ∨ ∃ z, z ≤ 60 ∧ sF s 110 k = nI z
/-! links, rights, clashes: what is kept -/
noncomputable def s_ofLink (s : sA) (l w : Int32) : Int32 × sA := (fg_if (q_in l (sC s 5)) (fg_if (w = 0) (sF s 81 (h_ix l)) (fg_if (w = 1) (sF s 82 (h_ix l)) (fg_if (w = 2) (sF s 83 (h_ix l)) (fg_if (w = 3) (sF s 84 (h_ix l)) (fg_if (w = 4) (sF s 85 (h_ix l)) (fg_if (w = 5) (sF s 86 (h_ix l)) (-2))))))) (-1), s)
noncomputable def s_clash (s : sA) (c w : Int32) : Int32 × sA := (fg_if (q_in c (sC s 7)) (fg_if (w = 0) (sF s 75 (h_ix c)) (fg_if (w = 1) (nI (sK s (h_ix c)).1.length) (fg_if (w = 2) (nI (sK s (h_ix c)).2.length) (fg_if (w = 3) (fg_if (sF s 78 (h_ix c) = 0) 0 1) (-2))))) (-1), s)
noncomputable def s_ofRight (s : sA) (r w : Int32) : Int32 × sA := (fg_if (q_in r (sC s 6)) (fg_if (w = 0) (sF s 90 (h_ix r)) (fg_if (w = 1) (sF s 91 (h_ix r)) (fg_if (w = 2) (sF s 92 (h_ix r)) (fg_if (w = 3) (sF s 93 (h_ix r)) (fg_if (w = 4) (sF s 94 (h_ix r)) (fg_if (w = 5) (sF s 95 (h_ix r)) (fg_if (w = 6) (fg_if (sF s 97 (h_ix r) = -9) 1 0) (-2)))))))) (-1), s)
def s_tr (s : sA) (n : Int32) : sA := uN s 1 (31 * sN s 1 + n)
noncomputable def s_tell (s : sA) (l : Int32) : Int32 × sA := fg_if (q_in l (sC s 5)) (fg_if (sF s 81 (h_ix l) = 0) (sF s 83 (h_ix l), s_tr s 1) (fg_if (sF s 81 (h_ix l) = 1) (sF s 83 (h_ix l) + sF s 85 (h_ix l), s_tr (s_tr s 2) 1) (fg_if (sF s 81 (h_ix l) = 2) (2 * sF s 83 (h_ix l) + sF s 85 (h_ix l), s_tr (s_tr (s_tr (s_tr s 3) 2) 1) 1) (fg_if (sF s 81 (h_ix l) = 3) (sF s 83 (h_ix l) + 100, s_tr (s_tr s 4) 1) (2 * sF s 83 (h_ix l) + 100, s_tr (s_tr (s_tr (s_tr s 5) 4) 1) 1))))) (-1, s)
noncomputable def s_name (s : sA) (l : Int32) : Int32 × sA := fg_if (q_in l (sC s 5)) (fg_if (sF s 81 (h_ix l) = 4) (40, s_tr s 7) (l, s_tr s 6)) (-1, s)
noncomputable def s_as (s : sA) (l d : Int32) : Int32 × sA := fg_if (q_in l (sC s 5)) (fg_if (q_in d 5) (fg_if (d = 0 ∨ d = sF s 81 (h_ix l) ∨ (d = 1 ∧ sF s 81 (h_ix l) = 2) ∨ (d = 3 ∧ sF s 81 (h_ix l) = 4)) (1, s_flt s 0) (-12, s_flt s 2)) (-2, s_flt s 0)) (-1, s_flt s 0)
/-- kinds of links -/
def ivl (s : sA) : Prop := ∀ i, i < sC s 5 → ∃ z, z ≤ 4 ∧ sF s 81 i = nI z
