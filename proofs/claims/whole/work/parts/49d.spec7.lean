/-! take -/
def s_tk (s : sA) (r i : Nat) : Prop := (i = r ∨ sF s 95 i = nI r) ∧ sF s 97 i = -9
noncomputable def s_tkF (s : sA) (r z j : Nat) : Nat → Int32 := fun i => fg_if (i < j ∧ s_tk s r i) (nI z) (sF s 97 i)
noncomputable def s_tkN (s : sA) (r : Nat) : Nat → Nat
  | 0 => 0
  | j + 1 => s_tkN s r j + fg_if (s_tk s r j) 1 0
noncomputable def s_take (s : sA) (r : Int32) : Int32 × sA := fg_if (q_in r (sC s 6)) (fg_if (sF s 97 (h_ix r) = -9) (nI (s_tkN s (h_ix r) (sC s 6)), s_act (uFf s 97 (s_tkF s (h_ix r) (sC s 0 + 1) (sC s 6))) (nI (s_tkN s (h_ix r) (sC s 6)))) (-3, s)) (-1, s)
section TK
variable {s : sA} {r z j : Nat}
theorem s_tkF_0 : uFf s 97 (s_tkF s r z 0) = s := by
  unfold uFf s_tkF
  refine Prod.ext rfl (Prod.ext rfl (Prod.ext ?_ rfl))
  funext a
  show (if a = 97 then _ else _) = _
  by_cases e : a = 97
  · rw [if_pos e]
    funext i
    rw [fg_if_0 (by omega), e]
    rfl
  · rw [if_neg e]
theorem s_tkF_n (h : ¬ s_tk s r j) : s_tkF s r z (j + 1) = s_tkF s r z j := by
  funext i
  unfold s_tkF
  by_cases e : i < j + 1 ∧ s_tk s r i
  · by_cases e2 : i = j
    · rw [e2] at e; exact absurd e.2 h
    · rw [fg_if_1 e, fg_if_1 ⟨by omega, e.2⟩]
  · rw [fg_if_0 e, fg_if_0 (fun w => e ⟨by omega, w.2⟩)]
theorem s_tkF_y (h : s_tk s r j) : uF (uFf s 97 (s_tkF s r z j)) 97 j (nI z) = uFf s 97 (s_tkF s r z (j + 1)) := by
  unfold uF uFf
  refine Prod.ext rfl (Prod.ext rfl (Prod.ext ?_ rfl))
  funext a
  show (if a = 97 then _ else _) = (if a = 97 then _ else _)
  by_cases e : a = 97
  · rw [if_pos e, if_pos e]
    funext i
    show (if i = j then nI z else (if a = 97 then s_tkF s r z j else s.2.2.1 a) i) = _
    rw [if_pos e]
    unfold s_tkF
    by_cases e2 : i = j
    · rw [if_pos e2, fg_if_1 ⟨by omega, by rw [e2]; exact h⟩]
    · rw [if_neg e2]
      by_cases e3 : i < j ∧ s_tk s r i
      · rw [fg_if_1 e3, fg_if_1 ⟨by omega, e3.2⟩]
      · rw [fg_if_0 e3, fg_if_0 (fun w => e3 ⟨by omega, w.2⟩)]
  · rw [if_neg e, if_neg e]
    show (if a = 97 then _ else _) = _
    rw [if_neg e]
end TK
