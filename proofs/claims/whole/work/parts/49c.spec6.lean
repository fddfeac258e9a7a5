/-! pieces -/
noncomputable def s_fd (p : sP) (x : Int32) : Int32 := fg_if (x = 0) p.1 (fg_if (x = 1) p.2.1 (fg_if (x = 2) p.2.2.1 (fg_if (x = 3) p.2.2.2.1 (fg_if (x = 4) p.2.2.2.2 (-2)))))
noncomputable def s_pieces (s : sA) (w : Int32) : Int32 × sA := (fg_if (q_in w (sC s 2)) (nI (sR s (h_ix w) (sC s 0)).length) (-1), s)
noncomputable def s_piece (s : sA) (w i x : Int32) : Int32 × sA := (fg_if (q_in w (sC s 2)) (fg_if (q_in i (sR s (h_ix w) (sC s 0)).length) (s_fd ((sR s (h_ix w) (sC s 0))[h_ix i]?.getD (0, 0, 0, 0, 0)) x) (-1)) (-1), s)
/-- as of later moments the rows are as they are now -/
def ivt (s : sA) : Prop := ∀ w m, sC s 0 ≤ m → sR s w m = sR s w (sC s 0)
