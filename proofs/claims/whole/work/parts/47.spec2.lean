/-! sheets -/
def s_ok (i n z : Int32) : Prop := 0 ≤ i.toInt ∧ 0 ≤ n.toInt ∧ i.toInt + n.toInt ≤ z.toInt
/-- the fault that taking n cells from i on of the sheet k as a row of the lane l comes to (0: none; -2: no such lane) -/
noncomputable def s_bf (s : sA) (k : Nat) (l i n : Int32) : Int32 := fg_if (q_in l 3) (fg_if (sF s 110 k < 0) 1 (fg_if (sF s 111 k = l) (fg_if (n < 0) 4 (fg_if (s_ok i n (sF s 110 k)) 0 3)) 2)) (-2)
/-- what a barred call answers, and the state -/
noncomputable def s_br (s : sA) (f : Int32) : Int32 × sA := fg_if (f = -2) (-2, s_flt s 0) (-10 - f, s_flt s f)
noncomputable def s_sheet (s : sA) (k l n : Int32) : Int32 × sA := fg_if (q_in k 4) (fg_if (q_in l 3 ∧ n ≤ 60) (fg_if (n < 0) (-14, s_flt s 4) (1, s_flt (uFf (uF (uF s 110 (h_ix k) n) 111 (h_ix k) l) 112 (fun x => if 60 * h_ix k ≤ x ∧ x < 60 * h_ix k + h_ix n then 0 else sF s 112 x)) 0)) (-2, s_flt s 0)) (-1, s_flt s 0)
noncomputable def s_cutl (l v : Int32) : Int32 := fg_if (l = 0) v.toInt8.toInt32 (fg_if (l = 1) v.toInt16.toInt32 v)
noncomputable def s_set (s : sA) (k i v : Int32) : Int32 × sA := fg_if (q_in k 4) (fg_if (sF s 110 (h_ix k) < 0) (-11, s_flt s 1) (fg_if (q_in i (sF s 110 (h_ix k)).toInt) (1, s_flt (uF s 112 (60 * h_ix k + h_ix i) (s_cutl (sF s 111 (h_ix k)) v)) 0) (-13, s_flt s 3))) (-1, s_flt s 0)
noncomputable def s_cell (s : sA) (k i l : Int32) : Int64 × sA := fg_if (q_in k 4 ∧ q_in l 3) (fg_if (sF s 110 (h_ix k) < 0) (-9223372036854775808, s_flt s 1) (fg_if (sF s 111 (h_ix k) = l) (fg_if (q_in i (sF s 110 (h_ix k)).toInt) ((sF s 112 (60 * h_ix k + h_ix i)).toInt64, s_flt s 0) (-9223372036854775808, s_flt s 3)) (-9223372036854775808, s_flt s 2))) (-9223372036854775808, s_flt s 0)
noncomputable def s_copy (s : sA) (k i o j n : Int32) : Int32 × sA := fg_if (q_in k 4 ∧ q_in o 4) (fg_if (sF s 110 (h_ix k) < 0 ∨ sF s 110 (h_ix o) < 0) (-11, s_flt s 1) (fg_if (sF s 111 (h_ix k) = sF s 111 (h_ix o)) (fg_if (s_ok i n (sF s 110 (h_ix k)) ∧ s_ok j n (sF s 110 (h_ix o))) (n, s_flt (uFf s 112 (fun x => if 60 * h_ix o + h_ix j ≤ x ∧ x < 60 * h_ix o + h_ix j + h_ix n then sF s 112 (60 * h_ix k + h_ix i + (x - (60 * h_ix o + h_ix j))) else sF s 112 x)) 0) (-13, s_flt s 3)) (-12, s_flt s 2))) (-1, s_flt s 0)
/-- sheets: nothing, or up to 60 cells -/
def ivs (s : sA) : Prop := ∀ k, k < 4 → sF s 110 k = -1 ∨ ∃ z, z ≤ 60 ∧ sF s 110 k = nI z
