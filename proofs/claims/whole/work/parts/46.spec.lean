/-! WHAT BOTH SPEAK OF: counts (as many() has them), numbers, arrays (by the reference's field numbers), groups and rows as of moments, clashes' words -/
abbrev sP : Type := Int32 × Int32 × Int32 × Int32 × Int32
abbrev sA : Type := (Nat → Nat) × (Nat → Int32) × (Nat → Nat → Int32) × (Nat → Nat → Int32) × (Nat → Nat → List sP) × (Nat → List Int32 × List Int32)
def sC (s : sA) (i : Nat) : Nat := s.1 i
def sN (s : sA) (i : Nat) : Int32 := s.2.1 i
def sF (s : sA) (k i : Nat) : Int32 := s.2.2.1 k i
def sG (s : sA) (g m : Nat) : Int32 := s.2.2.2.1 g m
def sR (s : sA) (w m : Nat) : List sP := s.2.2.2.2.1 w m
def sK (s : sA) (c : Nat) : List Int32 × List Int32 := s.2.2.2.2.2 c
def uC (s : sA) (i v : Nat) : sA := (fun j => if j = i then v else s.1 j, s.2)
def uN (s : sA) (i : Nat) (v : Int32) : sA := (s.1, fun j => if j = i then v else s.2.1 j, s.2.2)
def uF (s : sA) (k i : Nat) (v : Int32) : sA := (s.1, s.2.1, fun j => if j = k then (fun x => if x = i then v else s.2.2.1 j x) else s.2.2.1 j, s.2.2.2)
def uFf (s : sA) (k : Nat) (f : Nat → Int32) : sA := (s.1, s.2.1, fun j => if j = k then f else s.2.2.1 j, s.2.2.2)
def uG (s : sA) (g m : Nat) (v : Int32) : sA := (s.1, s.2.1, s.2.2.1, fun j x => if j = g ∧ m ≤ x then v else s.2.2.2.1 j x, s.2.2.2.2)
def uR (s : sA) (w m : Nat) (v : List sP) : sA := (s.1, s.2.1, s.2.2.1, s.2.2.2.1, fun j x => if j = w ∧ m ≤ x then v else s.2.2.2.2.1 j x, s.2.2.2.2.2)
def uK (s : sA) (c : Nat) (v : List Int32 × List Int32) : sA := (s.1, s.2.1, s.2.2.1, s.2.2.2.1, s.2.2.2.2.1, fun j => if j = c then v else s.2.2.2.2.2 j)
section SA
variable (s : sA)
theorem sC_uC (i v j : Nat) : sC (uC s i v) j = if j = i then v else sC s j := rfl
theorem sC_uN (i : Nat) (v : Int32) (j : Nat) : sC (uN s i v) j = sC s j := rfl
theorem sC_uF (k i : Nat) (v : Int32) (j : Nat) : sC (uF s k i v) j = sC s j := rfl
theorem sC_uFf (k : Nat) (f : Nat → Int32) (j : Nat) : sC (uFf s k f) j = sC s j := rfl
theorem sC_uG (g m : Nat) (v : Int32) (j : Nat) : sC (uG s g m v) j = sC s j := rfl
theorem sC_uR (w m : Nat) (v : List sP) (j : Nat) : sC (uR s w m v) j = sC s j := rfl
theorem sC_uK (c : Nat) (v : List Int32 × List Int32) (j : Nat) : sC (uK s c v) j = sC s j := rfl
theorem sN_uC (i v j : Nat) : sN (uC s i v) j = sN s j := rfl
theorem sN_uN (i : Nat) (v : Int32) (j : Nat) : sN (uN s i v) j = if j = i then v else sN s j := rfl
theorem sN_uF (k i : Nat) (v : Int32) (j : Nat) : sN (uF s k i v) j = sN s j := rfl
theorem sN_uFf (k : Nat) (f : Nat → Int32) (j : Nat) : sN (uFf s k f) j = sN s j := rfl
theorem sN_uG (g m : Nat) (v : Int32) (j : Nat) : sN (uG s g m v) j = sN s j := rfl
theorem sN_uR (w m : Nat) (v : List sP) (j : Nat) : sN (uR s w m v) j = sN s j := rfl
theorem sN_uK (c : Nat) (v : List Int32 × List Int32) (j : Nat) : sN (uK s c v) j = sN s j := rfl
theorem sF_uC (i v : Nat) : sF (uC s i v) = sF s := rfl
theorem sF_uN (i : Nat) (v : Int32) : sF (uN s i v) = sF s := rfl
theorem sF_uF (k i : Nat) (v : Int32) (j x : Nat) : sF (uF s k i v) j x = if j = k then (if x = i then v else sF s j x) else sF s j x := by
  show (if j = k then (fun x => if x = i then v else s.2.2.1 j x) else s.2.2.1 j) x = _
  split <;> rfl
theorem sF_uFf (k : Nat) (f : Nat → Int32) (j x : Nat) : sF (uFf s k f) j x = if j = k then f x else sF s j x := by
  show (if j = k then f else s.2.2.1 j) x = _
  split <;> rfl
theorem sF_uG (g m : Nat) (v : Int32) : sF (uG s g m v) = sF s := rfl
theorem sF_uR (w m : Nat) (v : List sP) : sF (uR s w m v) = sF s := rfl
theorem sF_uK (c : Nat) (v : List Int32 × List Int32) : sF (uK s c v) = sF s := rfl
theorem sG_uC (i v : Nat) : sG (uC s i v) = sG s := rfl
theorem sG_uN (i : Nat) (v : Int32) : sG (uN s i v) = sG s := rfl
theorem sG_uF (k i : Nat) (v : Int32) : sG (uF s k i v) = sG s := rfl
theorem sG_uFf (k : Nat) (f : Nat → Int32) : sG (uFf s k f) = sG s := rfl
theorem sG_uG (g m : Nat) (v : Int32) (j x : Nat) : sG (uG s g m v) j x = if j = g ∧ m ≤ x then v else sG s j x := rfl
theorem sG_uR (w m : Nat) (v : List sP) : sG (uR s w m v) = sG s := rfl
theorem sG_uK (c : Nat) (v : List Int32 × List Int32) : sG (uK s c v) = sG s := rfl
theorem sR_uC (i v : Nat) : sR (uC s i v) = sR s := rfl
theorem sR_uN (i : Nat) (v : Int32) : sR (uN s i v) = sR s := rfl
theorem sR_uF (k i : Nat) (v : Int32) : sR (uF s k i v) = sR s := rfl
theorem sR_uFf (k : Nat) (f : Nat → Int32) : sR (uFf s k f) = sR s := rfl
theorem sR_uG (g m : Nat) (v : Int32) : sR (uG s g m v) = sR s := rfl
theorem sR_uR (w m : Nat) (v : List sP) (j x : Nat) : sR (uR s w m v) j x = if j = w ∧ m ≤ x then v else sR s j x := rfl
theorem sR_uK (c : Nat) (v : List Int32 × List Int32) : sR (uK s c v) = sR s := rfl
theorem sK_uC (i v : Nat) : sK (uC s i v) = sK s := rfl
theorem sK_uN (i : Nat) (v : Int32) : sK (uN s i v) = sK s := rfl
theorem sK_uF (k i : Nat) (v : Int32) : sK (uF s k i v) = sK s := rfl
theorem sK_uFf (k : Nat) (f : Nat → Int32) : sK (uFf s k f) = sK s := rfl
theorem sK_uG (g m : Nat) (v : Int32) : sK (uG s g m v) = sK s := rfl
theorem sK_uR (w m : Nat) (v : List sP) : sK (uR s w m v) = sK s := rfl
theorem sK_uK (c : Nat) (v : List Int32 × List Int32) (j : Nat) : sK (uK s c v) j = if j = c then v else sK s j := rfl
end SA
/-- an act that answers x -/
def s_act (s : sA) (x : Int32) : sA := uF (uC s 0 (sC s 0 + 1)) 2 (sC s 0 + 1) (q_mix (sF s 2 (sC s 0)) x)
def s_flt (s : sA) (x : Int32) : sA := uN s 0 x
noncomputable def s_hand (s : sA) : Int32 × sA := fg_if (sC s 1 = 8) (-4, s) (nI (sC s 1), s_act (uC s 1 (sC s 1 + 1)) (nI (sC s 1)))
noncomputable def s_rule (s : sA) (p t : Int32) : Int32 × sA := fg_if (q_in p 100 ∧ q_in t 11) (100 * sN s 2 + sN s 3, s_act (uN (uN s 2 p) 3 t) (100 * sN s 2 + sN s 3)) (-2, s)
noncomputable def s_owes (s : sA) (h t : Int32) : Int32 × sA := fg_if (q_in h (sC s 1) ∧ q_in t (sC s 1)) (sF s 104 (8 * h_ix h + h_ix t), s) (-1, s)
noncomputable def s_pay (s : sA) (h t a : Int32) : Int32 × sA := fg_if (q_in h (sC s 1) ∧ q_in t (sC s 1)) (fg_if (a < 1) (-2, s) (fg_if (sF s 104 (8 * h_ix h + h_ix t) < a) (-3, s) (sF s 104 (8 * h_ix h + h_ix t) - a, s_act (uF s 104 (8 * h_ix h + h_ix t) (sF s 104 (8 * h_ix h + h_ix t) - a)) (sF s 104 (8 * h_ix h + h_ix t) - a)))) (-1, s)
noncomputable def s_stamp (s : sA) (m : Int32) : Int32 × sA := (fg_if (q_in m ((sC s 0 : Nat) + 1)) (sF s 2 (h_ix m)) 0, s)
def s_fault (s : sA) : Int32 × sA := (sN s 0, s)
def s_trace (s : sA) : Int32 × sA := (sN s 1, s)
noncomputable def s_many (s : sA) (x : Int32) : Int32 × sA := (fg_if (x = 0) (nI (sC s 0)) (fg_if (x = 1) (nI (sC s 1)) (fg_if (x = 2) (nI (sC s 2)) (fg_if (x = 3) (nI (sC s 3)) (fg_if (x = 4) (nI (sC s 4)) (fg_if (x = 5) (nI (sC s 5)) (fg_if (x = 6) (nI (sC s 6)) (fg_if (x = 7) (nI (sC s 7)) (fg_if (x = 8) (nI (sC s 8)) (-2))))))))), s)
noncomputable def s_lose (s : sA) (k : Int32) : Int32 × sA := fg_if (q_in k 4) (fg_if (sF s 110 (h_ix k) < 0) 0 1, uF s 110 (h_ix k) (-1)) (-1, s)
noncomputable def s_writing (s : sA) (h : Int32) : Int32 × sA := fg_if (q_in h (sC s 1)) (fg_if (sC s 2 = 12) (-4, s) (nI (sC s 2), s_act (uC (uF s 9 (sC s 2) h) 2 (sC s 2 + 1)) (nI (sC s 2)))) (-1, s)
/-- bounds of the counts -/
def ivc (s : sA) : Prop := sC s 0 ≤ 512 ∧ sC s 1 ≤ 8 ∧ sC s 2 ≤ 12 ∧ sC s 3 ≤ 500 ∧ sC s 4 ≤ 16 ∧ sC s 5 ≤ 24 ∧ sC s 6 ≤ 20 ∧ sC s 7 ≤ 12 ∧ sC s 8 ≤ 200
noncomputable def s_word (s : sA) (x y : Int32) : Int32 × sA := (fg_if (q_in x (sC s 3)) (fg_if (y = 0) (sF s 23 (h_ix x)) (fg_if (y = 1) (sF s 24 (h_ix x)) (fg_if (y = 2) (sF s 25 (h_ix x)) (fg_if (y = 3) (sF s 26 (h_ix x)) (fg_if (y = 4) (sF s 27 (h_ix x)) (-2)))))) (-1), s)
noncomputable def s_hit (s : sA) (x y : Int32) : Int32 × sA := (fg_if (q_in x (sC s 8)) (fg_if (y = 0) (sF s 106 (h_ix x)) (fg_if (y = 1) (sF s 107 (h_ix x)) (fg_if (y = 2) (sF s 108 (h_ix x)) (-2)))) (-1), s)
/-! what is shown -/
def s_ws (a : Int32) (n : Nat) : List Int32 := (List.range n).map (fun i => a + nI i)
def s_sh (R : Nat → Nat → List sP) : Nat → Nat → Nat → List Int32
  | 0, w, m => ((R w m).flatMap (fun p => if p.1 < 2 then s_ws p.2.1 (h_ix p.2.2.1) else [-7])).take 300
  | f + 1, w, m => ((R w m).flatMap (fun p => if p.1 < 2 then s_ws p.2.1 (h_ix p.2.2.1) else ((s_sh R f (h_ix p.2.2.2.1) (if p.1 = 2 then h_ix p.2.2.2.2 else m)).drop (h_ix p.2.1)).take (h_ix p.2.2.1))).take 300
/-- what a history is as of a moment -/
def s_lk : List (Nat × List sP) → Nat → List sP
  | [], _ => []
  | (a, p) :: t, m => if a ≤ m then p else s_lk t m
/-- -9 as never -/
def s_nv (x : Int32) : Int32 := if x = -9 then 2147483647 else x
