/-! length, shown; versions -/
def s_wm (s : sA) (w m : Int32) : Prop := q_in w (sC s 2) ∧ q_in m ((sC s 0 : Nat) + 1)
noncomputable def s_length (s : sA) (w m : Int32) : Int32 × sA := (fg_if (q_in w (sC s 2)) (fg_if (q_in m ((sC s 0 : Nat) + 1)) (nI (s_sh (sR s) 4 (h_ix w) (h_ix m)).length) (-1)) (-1), s)
/-- the i-th of a list, or nothing -/
noncomputable def s_get (l : List Int32) (i : Int32) : Int32 := fg_if (q_in i l.length) (l[h_ix i]?.getD 0) (-1)
noncomputable def s_shown (s : sA) (w m i : Int32) : Int32 × sA := (fg_if (q_in w (sC s 2)) (fg_if (q_in m ((sC s 0 : Nat) + 1)) (s_get (s_sh (sR s) 4 (h_ix w) (h_ix m)) i) (-1)) (-1), s)
/-- what the version v shows -/
def s_vs (s : sA) (v : Nat) : List Int32 := s_sh (sR s) 4 (h_ix (sF s 56 v)) (h_ix (sF s 57 v))
def s_gap (l : List Int32) : Nat := (l.filter (fun x => decide (x = -7))).length
noncomputable def s_kind (s : sA) (v : Nat) : Int32 := fg_if (sF s 58 v = -9) 0 (fg_if (sF s 59 v = -9) 1 2)
noncomputable def s_at (s : sA) (v i : Int32) : Int32 × sA := (fg_if (q_in v (sC s 4)) (s_get (s_vs s (h_ix v)) i) (-1), s)
noncomputable def s_about (s : sA) (v x : Int32) : Int32 × sA := (fg_if (q_in v (sC s 4)) (fg_if (x = 0) (s_kind s (h_ix v)) (fg_if (x = 1) (sF s 56 (h_ix v)) (fg_if (x = 2) (sF s 57 (h_ix v)) (fg_if (x = 3) (nI (s_vs s (h_ix v)).length) (fg_if (x = 4) (nI (s_gap (s_vs s (h_ix v)))) (-2)))))) (-1), s)
noncomputable def s_give (s : sA) (v : Int32) : Int32 × sA := fg_if (q_in v (sC s 4)) (fg_if (s_kind s (h_ix v) = 0) (nI (s_vs s (h_ix v)).length, s_act (uF s 58 (h_ix v) (nI (sC s 0 + 1))) (nI (s_vs s (h_ix v)).length)) (-3, s)) (-1, s)
noncomputable def s_back (s : sA) (v : Int32) : Int32 × sA := fg_if (q_in v (sC s 4)) (fg_if (s_kind s (h_ix v) = 1) (nI (s_vs s (h_ix v)).length, s_act (uF s 59 (h_ix v) (nI (sC s 0 + 1))) (nI (s_vs s (h_ix v)).length)) (-3, s)) (-1, s)
def s_addV (s : sA) (w : Int32) : sA := uC (uF (uF (uF (uF s 56 (sC s 4) w) 57 (sC s 4) (nI (sC s 0 + 1))) 58 (sC s 4) (-9)) 59 (sC s 4) (-9)) 4 (sC s 4 + 1)
noncomputable def s_version (s : sA) (w : Int32) : Int32 × sA := fg_if (q_in w (sC s 2)) (fg_if (sC s 4 = 16) (-4, s) (nI (sC s 4), s_act (s_addV s w) (nI (sC s 4)))) (-1, s)
/-- a moment, or never -/
def s_mn (x : Int32) : Prop := x = -9 ∨ ∃ z, z ≤ 600 ∧ x = nI z
def ivv (s : sA) : Prop := ∀ i, i < sC s 4 → (∃ w m, w < sC s 2 ∧ m ≤ sC s 0 ∧ sF s 56 i = nI w ∧ sF s 57 i = nI m) ∧ s_mn (sF s 58 i) ∧ s_mn (sF s 59 i) ∧ (sF s 58 i = -9 → sF s 59 i = -9)
theorem s_nv_mn {x : Int32} (h : s_mn x) : s_nv x = 2147483647 ↔ x = -9 := by
  unfold s_nv
  by_cases c : x = -9
  · rw [if_pos c]; exact ⟨fun _ => c, fun _ => rfl⟩
  · rw [if_neg c]
    rcases h with w | ⟨z, hz, w⟩
    · exact absurd w c
    · refine ⟨fun q => ?_, fun q => absurd q c⟩
      rw [w] at q
      have := congrArg Int32.toInt q
      rw [q_nI (by omega)] at this
      have e1 : (2147483647 : Int32).toInt = 2147483647 := rfl
      omega
theorem s_get_in {l : List Int32} {i : Nat} (hl : l.length < 2 ^ 31) (hi : i < l.length) : ∃ x, l[i]? = some x ∧ s_get l (nI i) = x := by
  refine ⟨l[i], List.getElem?_eq_getElem hi, ?_⟩
  unfold s_get
  rw [fg_if_1 ((n_inI (by omega)).mpr hi), q_nIx (by omega), List.getElem?_eq_getElem hi]
  rfl
theorem s_sh_300 (R : Nat → Nat → List sP) (f w m : Nat) : (s_sh R f w m).length ≤ 300 := by
  cases f with
  | zero => unfold s_sh; exact Nat.le_trans (List.length_take_le _ _) (Nat.le_refl _)
  | succ f => unfold s_sh; exact Nat.le_trans (List.length_take_le _ _) (Nat.le_refl _)
theorem s_vs_300 {s : sA} (i : Nat) : (s_vs s i).length ≤ 300 := s_sh_300 _ _ _ _
