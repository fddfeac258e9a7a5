/-! links -/
def s_addK (s : sA) (x0 x1 x2 x3 x4 x5 : Int32) : sA := uC (uF (uF (uF (uF (uF (uF s 81 (sC s 5) x0) 82 (sC s 5) x1) 83 (sC s 5) x2) 84 (sC s 5) x3) 85 (sC s 5) x4) 86 (sC s 5) x5) 5 (sC s 5 + 1)
/-- a link is kept -/
noncomputable def s_keepK (s : sA) (x0 x1 x2 x3 x4 x5 : Int32) : Int32 × sA := fg_if (sC s 5 = 24) (-4, s) (nI (sC s 5), s_act (s_addK s x0 x1 x2 x3 x4 x5) (nI (sC s 5)))
/-- n words from a on -/
def s_words (s : sA) (a n : Int32) : Prop := 0 ≤ a.toInt ∧ 1 ≤ n.toInt ∧ a.toInt + n.toInt ≤ sC s 3
