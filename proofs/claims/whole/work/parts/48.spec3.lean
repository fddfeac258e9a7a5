/-! groups, rights -/
noncomputable def s_group (s : sA) (g x : Int32) : Int32 × sA := fg_if (q_in g 4) (fg_if (q_in x (2 ^ sC s 1)) (sG s (h_ix g) (sC s 0), uG (s_act s (sG s (h_ix g) (sC s 0))) (h_ix g) (sC s 0 + 1) x) (-2, s)) (-1, s)
def s_bit (x k : Int32) : Prop := ((x >>> (k &&& 31)) &&& 1) = 1
/-- the hand h is of the group, or the hand, that the right r is for, as of m -/
def s_mine (s : sA) (r : Nat) (h m : Int32) : Prop := if sF s 91 r < 8 then s_bit (sG s (h_ix (sF s 91 r)) (h_ix m)) h else sF s 91 r - 8 = h
/-- what the right r must have besides -/
def s_hold (s : sA) (r : Nat) (u m : Int32) : Prop := (sF s 96 r ≤ m ∧ (sF s 97 r = -9 ∨ m < sF s 97 r)) ∧ (sF s 93 r ≤ m ∧ m ≤ sF s 94 r) ∧ s_bit (sF s 92 r) u
/-- the first right from j on, of n, by which the hand h has the use u in the writing w as of m -/
noncomputable def s_whr (s : sA) (h w u m : Int32) : Nat → Nat → Int32
  | 0, _ => -9
  | n + 1, j => fg_if (sF s 90 j = w ∧ s_mine s j h m ∧ s_hold s j u m) (nI j) (s_whr s h w u m n (j + 1))
noncomputable def s_whyOf (s : sA) (h w u m : Int32) : Int32 := fg_if (sF s 9 (h_ix w) = h) 99 (s_whr s h w u m (sC s 6) 0)
noncomputable def s_why (s : sA) (h w u m : Int32) : Int32 × sA := (fg_if (q_in h (sC s 1) ∧ q_in w (sC s 2) ∧ q_in m ((sC s 0 : Nat) + 1)) (fg_if (q_in u 3) (s_whyOf s h w u m) (-2)) (-1), s)
noncomputable def s_may (s : sA) (h w u m : Int32) : Int32 × sA := (fg_if (q_in h (sC s 1) ∧ q_in w (sC s 2) ∧ q_in m ((sC s 0 : Nat) + 1)) (fg_if (q_in u 3) (fg_if (s_whyOf s h w u m = -9) 0 1) (-2)) (-1), s)
/-- a right's group, or the hand it is lent to -/
def ivr (s : sA) : Prop := ∀ r, r < sC s 6 → (∃ g, g < 4 ∧ sF s 91 r = nI g) ∨ (∃ h, h < 8 ∧ sF s 91 r = nI (8 + h))
/-- one more right -/
def s_addR (s : sA) (w g u f t o : Int32) : sA := uC (uF (uF (uF (uF (uF (uF (uF (uF s 90 (sC s 6) w) 91 (sC s 6) g) 92 (sC s 6) u) 93 (sC s 6) f) 94 (sC s 6) t) 95 (sC s 6) o) 96 (sC s 6) (nI (sC s 0 + 1))) 97 (sC s 6) (-9)) 6 (sC s 6 + 1)
noncomputable def s_lend (s : sA) (r h o : Int32) : Int32 × sA := fg_if (q_in r (sC s 6) ∧ q_in h (sC s 1) ∧ q_in o (sC s 1)) (fg_if (h = o) (-2, s) (fg_if (s_mine s (h_ix r) h (nI (sC s 0)) ∧ s_hold s (h_ix r) 2 (nI (sC s 0))) (fg_if (sC s 6 = 20) (-4, s) (nI (sC s 6), s_act (s_addR s (sF s 90 (h_ix r)) (8 + o) (sF s 92 (h_ix r) &&& 3) (sF s 93 (h_ix r)) (sF s 94 (h_ix r)) r) (nI (sC s 6)))) (-3, s))) (-1, s)
