/-! THE REFERENCE's OBJECT AND ITS ARRAYS as a structured state: numbers F k (field k), A k i (place i of the array in field k) -/
abbrev r_T : Type := (Nat → Int32) × (Nat → Nat → Int32)
/-- how many places the array in the field k has (0: a number) -/
def r_len (k : Nat) : Nat := ([0, 0, 1201, 0, 0, 1200, 1200, 1200, 0, 12, 0, 12, 1200, 1200, 1200, 1200, 0, 28800, 28800, 28800, 28800, 28800, 0, 500, 500, 500, 500, 500, 5, 5, 5, 5, 5, 5, 5, 0, 300, 300, 300, 1500, 0, 60, 60, 60, 60, 60, 60, 60, 0, 60, 60, 60, 60, 60, 12, 0, 16, 16, 16, 16, 0, 0, 300, 300, 90601, 500, 600, 2, 604, 602, 604, 0, 3000, 0, 0, 12, 12, 12, 12, 7200, 0, 24, 24, 24, 24, 24, 24, 0, 0, 0, 20, 20, 20, 20, 20, 20, 20, 20, 0, 0, 0, 0, 0, 0, 64, 0, 200, 200, 200, 1024, 4, 4, 240, 60, 0] : List Nat).getD k 0
/-- the kind of the array in the field k -/
def r_kd (k : Nat) : Nat := if k = 69 ∨ k = 78 then 2 else 1
def rt_F (τ : r_T) (k : Nat) (v : Int32) : r_T := (fun j => if j = k then v else τ.1 j, τ.2)
def rt_A (τ : r_T) (k i : Nat) (v : Int32) : r_T := (τ.1, fun j => if j = k then (fun x => if x = i then v else τ.2 j x) else τ.2 j)
theorem rt_FF (τ : r_T) (k : Nat) (v : Int32) (j : Nat) : (rt_F τ k v).1 j = if j = k then v else τ.1 j := rfl
theorem rt_FA (τ : r_T) (k : Nat) (v : Int32) : (rt_F τ k v).2 = τ.2 := rfl
theorem rt_AF (τ : r_T) (k i : Nat) (v : Int32) : (rt_A τ k i v).1 = τ.1 := rfl
theorem rt_AA (τ : r_T) (k i : Nat) (v : Int32) (j x : Nat) : (rt_A τ k i v).2 j x = if j = k then (if x = i then v else τ.2 j x) else τ.2 j x := by
  show (if j = k then (fun x => if x = i then v else τ.2 j x) else τ.2 j) x = _
  split <;> rfl
/-- which field's array lies at a -/
def r_inv (ra : Nat → Nat) (a : Nat) : Option Nat := (List.range 115).find? (fun k => r_len k != 0 && ra k == a)
def r_emb (s : h_S) (o : Nat) (ra : Nat → Nat) (τ : r_T) : h_S := (s.1, s.2.1, s.2.2.1, (fun a => if a = o then τ.1 else match r_inv ra a with
  | some k => τ.2 k
  | none => s.2.2.2.1 a), s.2.2.2.2)
/-- o is the object, ra k the array in its field k -/
def r_ok (o : Nat) (ra : Nat → Nat) (s : h_S) : Prop := h_k s o = 33 ∧ (∀ k, k < 115 → r_len k ≠ 0 → h_r s o k = some (ra k) ∧ h_k s (ra k) = r_kd k ∧ h_n s (ra k) = r_len k) ∧ ∀ j k, j < 115 → k < 115 → r_len j ≠ 0 → r_len k ≠ 0 → ra j = ra k → j = k
theorem r_len_lt {k : Nat} (h : r_len k ≠ 0) : k < 115 := by
  rcases Nat.lt_or_ge k 115 with h1 | h1
  · exact h1
  · exfalso
    apply h
    unfold r_len
    rw [List.getD_eq_getElem?_getD, List.getElem?_eq_none (by simpa using h1)]
    rfl
theorem r_kd_lt (k : Nat) : r_kd k < 3 := by unfold r_kd; split <;> decide
section RE
variable {o : Nat} {ra : Nat → Nat} {s : h_S} {τ : r_T}
theorem r_ne (hok : r_ok o ra s) {k : Nat} (hk : r_len k ≠ 0) : ¬ ra k = o := by
  intro e
  have h1 := (hok.2.1 k (r_len_lt hk) hk).2.1
  rw [e, hok.1] at h1
  have := r_kd_lt k
  omega
theorem r_inv_eq (hok : r_ok o ra s) {k : Nat} (hk : r_len k ≠ 0) : r_inv ra (ra k) = some k := by
  unfold r_inv
  cases hf : (List.range 115).find? (fun j => r_len j != 0 && ra j == ra k) with
  | none =>
    have := List.find?_eq_none.mp hf k (List.mem_range.mpr (r_len_lt hk))
    simp [hk] at this
  | some j =>
    have h1 := List.find?_some hf
    have h2 := List.mem_range.mp (List.mem_of_find?_eq_some hf)
    simp at h1
    rw [hok.2.2 j k h2 (r_len_lt hk) h1.1 hk h1.2]
theorem e_k (a : Nat) : h_k (r_emb s o ra τ) a = h_k s a := rfl
theorem e_n (a : Nat) : h_n (r_emb s o ra τ) a = h_n s a := rfl
theorem e_r (a k : Nat) : h_r (r_emb s o ra τ) a k = h_r s a k := rfl
theorem e_rr (hok : r_ok o ra s) {k : Nat} (hk : r_len k ≠ 0) : h_r s o k = some (ra k) := (hok.2.1 k (r_len_lt hk) hk).1
theorem e_kk (hok : r_ok o ra s) {k : Nat} (hk : r_len k ≠ 0) : h_k s (ra k) = r_kd k := (hok.2.1 k (r_len_lt hk) hk).2.1
theorem e_nn (hok : r_ok o ra s) {k : Nat} (hk : r_len k ≠ 0) : h_n s (ra k) = r_len k := (hok.2.1 k (r_len_lt hk) hk).2.2
theorem e_io (j : Nat) : h_i (r_emb s o ra τ) o j = τ.1 j := by
  show (if o = o then τ.1 else _) j = _
  rw [if_pos rfl]
theorem e_ia (hok : r_ok o ra s) {k : Nat} (hk : r_len k ≠ 0) (j : Nat) : h_i (r_emb s o ra τ) (ra k) j = τ.2 k j := by
  show (if ra k = o then τ.1 else match r_inv ra (ra k) with
    | some k => τ.2 k
    | none => s.2.2.2.1 (ra k)) j = _
  rw [if_neg (r_ne hok hk), r_inv_eq hok hk]
theorem e_ext {x y : h_S} (h1 : x.1 = y.1) (h2 : x.2.1 = y.2.1) (h3 : x.2.2.1 = y.2.2.1) (h4 : x.2.2.2.1 = y.2.2.2.1) (h5 : x.2.2.2.2 = y.2.2.2.2) : x = y := by
  obtain ⟨a, b, c, d, e⟩ := x
  obtain ⟨a2, b2, c2, d2, e2⟩ := y
  simp at *
  exact ⟨h1, h2, h3, h4, h5⟩
theorem e_so (j : Nat) (v : Int32) : h_si (r_emb s o ra τ) o j v = r_emb s o ra (rt_F τ j v) := by
  refine e_ext rfl rfl rfl ?_ rfl
  funext a x
  show h_up (fun a => if a = o then τ.1 else match r_inv ra a with
    | some k => τ.2 k
    | none => s.2.2.2.1 a) o j v a x = (if a = o then (rt_F τ j v).1 else match r_inv ra a with
    | some k => (rt_F τ j v).2 k
    | none => s.2.2.2.1 a) x
  unfold h_up
  by_cases h : a = o
  · simp only [if_pos h]
    rfl
  · simp only [if_neg h, rt_FA]
theorem e_sa (hok : r_ok o ra s) {k : Nat} (hk : r_len k ≠ 0) (j : Nat) (v : Int32) : h_si (r_emb s o ra τ) (ra k) j v = r_emb s o ra (rt_A τ k j v) := by
  refine e_ext rfl rfl rfl ?_ rfl
  funext a x
  show h_up (fun a => if a = o then τ.1 else match r_inv ra a with
    | some k => τ.2 k
    | none => s.2.2.2.1 a) (ra k) j v a x = (if a = o then (rt_A τ k j v).1 else match r_inv ra a with
    | some k2 => (rt_A τ k j v).2 k2
    | none => s.2.2.2.1 a) x
  unfold h_up
  by_cases h : a = ra k
  · subst h
    simp only [if_neg (r_ne hok hk), r_inv_eq hok hk, rt_AA, if_true]
  · simp only [if_neg h]
    by_cases h2 : a = o
    · simp only [if_pos h2, rt_AF]
    · simp only [if_neg h2]
      cases hi : r_inv ra a with
      | none => rfl
      | some k2 =>
        have h1 := List.find?_some hi
        simp at h1
        have hne : ¬ k2 = k := fun e => h (by rw [← h1.2, e])
        simp only [rt_AA, if_neg hne]
end RE
theorem r_lens : r_len 2 = 1201 ∧ r_len 5 = 1200 ∧ r_len 6 = 1200 ∧ r_len 7 = 1200 ∧ r_len 9 = 12 ∧ r_len 11 = 12 ∧ r_len 12 = 1200 ∧ r_len 13 = 1200 ∧ r_len 14 = 1200 ∧ r_len 15 = 1200 ∧ r_len 17 = 28800 ∧ r_len 18 = 28800 ∧ r_len 19 = 28800 ∧ r_len 20 = 28800 ∧ r_len 21 = 28800 ∧ r_len 23 = 500 ∧ r_len 24 = 500 ∧ r_len 25 = 500 ∧ r_len 26 = 500 ∧ r_len 27 = 500 ∧ r_len 28 = 5 ∧ r_len 29 = 5 ∧ r_len 30 = 5 ∧ r_len 31 = 5 ∧ r_len 32 = 5 ∧ r_len 33 = 5 ∧ r_len 34 = 5 ∧ r_len 36 = 300 ∧ r_len 37 = 300 ∧ r_len 38 = 300 ∧ r_len 39 = 1500 ∧ r_len 41 = 60 ∧ r_len 42 = 60 ∧ r_len 43 = 60 ∧ r_len 44 = 60 ∧ r_len 45 = 60 ∧ r_len 46 = 60 ∧ r_len 47 = 60 ∧ r_len 49 = 60 ∧ r_len 50 = 60 ∧ r_len 51 = 60 ∧ r_len 52 = 60 ∧ r_len 53 = 60 ∧ r_len 54 = 12 ∧ r_len 56 = 16 ∧ r_len 57 = 16 ∧ r_len 58 = 16 ∧ r_len 59 = 16 ∧ r_len 62 = 300 ∧ r_len 63 = 300 ∧ r_len 64 = 90601 ∧ r_len 65 = 500 ∧ r_len 66 = 600 ∧ r_len 67 = 2 ∧ r_len 68 = 604 ∧ r_len 69 = 602 ∧ r_len 70 = 604 ∧ r_len 72 = 3000 ∧ r_len 75 = 12 ∧ r_len 76 = 12 ∧ r_len 77 = 12 ∧ r_len 78 = 12 ∧ r_len 79 = 7200 ∧ r_len 81 = 24 ∧ r_len 82 = 24 ∧ r_len 83 = 24 ∧ r_len 84 = 24 ∧ r_len 85 = 24 ∧ r_len 86 = 24 ∧ r_len 90 = 20 ∧ r_len 91 = 20 ∧ r_len 92 = 20 ∧ r_len 93 = 20 ∧ r_len 94 = 20 ∧ r_len 95 = 20 ∧ r_len 96 = 20 ∧ r_len 97 = 20 ∧ r_len 104 = 64 ∧ r_len 106 = 200 ∧ r_len 107 = 200 ∧ r_len 108 = 200 ∧ r_len 109 = 1024 ∧ r_len 110 = 4 ∧ r_len 111 = 4 ∧ r_len 112 = 240 ∧ r_len 113 = 60 := ⟨rfl, rfl, rfl, rfl, rfl, rfl, rfl, rfl, rfl, rfl, rfl, rfl, rfl, rfl, rfl, rfl, rfl, rfl, rfl, rfl, rfl, rfl, rfl, rfl, rfl, rfl, rfl, rfl, rfl, rfl, rfl, rfl, rfl, rfl, rfl, rfl, rfl, rfl, rfl, rfl, rfl, rfl, rfl, rfl, rfl, rfl, rfl, rfl, rfl, rfl, rfl, rfl, rfl, rfl, rfl, rfl, rfl, rfl, rfl, rfl, rfl, rfl, rfl, rfl, rfl, rfl, rfl, rfl, rfl, rfl, rfl, rfl, rfl, rfl, rfl, rfl, rfl, rfl, rfl, rfl, rfl, rfl, rfl, rfl, rfl, rfl⟩
theorem r_kds : r_kd 2 = 1 ∧ r_kd 5 = 1 ∧ r_kd 6 = 1 ∧ r_kd 7 = 1 ∧ r_kd 9 = 1 ∧ r_kd 11 = 1 ∧ r_kd 12 = 1 ∧ r_kd 13 = 1 ∧ r_kd 14 = 1 ∧ r_kd 15 = 1 ∧ r_kd 17 = 1 ∧ r_kd 18 = 1 ∧ r_kd 19 = 1 ∧ r_kd 20 = 1 ∧ r_kd 21 = 1 ∧ r_kd 23 = 1 ∧ r_kd 24 = 1 ∧ r_kd 25 = 1 ∧ r_kd 26 = 1 ∧ r_kd 27 = 1 ∧ r_kd 28 = 1 ∧ r_kd 29 = 1 ∧ r_kd 30 = 1 ∧ r_kd 31 = 1 ∧ r_kd 32 = 1 ∧ r_kd 33 = 1 ∧ r_kd 34 = 1 ∧ r_kd 36 = 1 ∧ r_kd 37 = 1 ∧ r_kd 38 = 1 ∧ r_kd 39 = 1 ∧ r_kd 41 = 1 ∧ r_kd 42 = 1 ∧ r_kd 43 = 1 ∧ r_kd 44 = 1 ∧ r_kd 45 = 1 ∧ r_kd 46 = 1 ∧ r_kd 47 = 1 ∧ r_kd 49 = 1 ∧ r_kd 50 = 1 ∧ r_kd 51 = 1 ∧ r_kd 52 = 1 ∧ r_kd 53 = 1 ∧ r_kd 54 = 1 ∧ r_kd 56 = 1 ∧ r_kd 57 = 1 ∧ r_kd 58 = 1 ∧ r_kd 59 = 1 ∧ r_kd 62 = 1 ∧ r_kd 63 = 1 ∧ r_kd 64 = 1 ∧ r_kd 65 = 1 ∧ r_kd 66 = 1 ∧ r_kd 67 = 1 ∧ r_kd 68 = 1 ∧ r_kd 69 = 2 ∧ r_kd 70 = 1 ∧ r_kd 72 = 1 ∧ r_kd 75 = 1 ∧ r_kd 76 = 1 ∧ r_kd 77 = 1 ∧ r_kd 78 = 2 ∧ r_kd 79 = 1 ∧ r_kd 81 = 1 ∧ r_kd 82 = 1 ∧ r_kd 83 = 1 ∧ r_kd 84 = 1 ∧ r_kd 85 = 1 ∧ r_kd 86 = 1 ∧ r_kd 90 = 1 ∧ r_kd 91 = 1 ∧ r_kd 92 = 1 ∧ r_kd 93 = 1 ∧ r_kd 94 = 1 ∧ r_kd 95 = 1 ∧ r_kd 96 = 1 ∧ r_kd 97 = 1 ∧ r_kd 104 = 1 ∧ r_kd 106 = 1 ∧ r_kd 107 = 1 ∧ r_kd 108 = 1 ∧ r_kd 109 = 1 ∧ r_kd 110 = 1 ∧ r_kd 111 = 1 ∧ r_kd 112 = 1 ∧ r_kd 113 = 1 := ⟨rfl, rfl, rfl, rfl, rfl, rfl, rfl, rfl, rfl, rfl, rfl, rfl, rfl, rfl, rfl, rfl, rfl, rfl, rfl, rfl, rfl, rfl, rfl, rfl, rfl, rfl, rfl, rfl, rfl, rfl, rfl, rfl, rfl, rfl, rfl, rfl, rfl, rfl, rfl, rfl, rfl, rfl, rfl, rfl, rfl, rfl, rfl, rfl, rfl, rfl, rfl, rfl, rfl, rfl, rfl, rfl, rfl, rfl, rfl, rfl, rfl, rfl, rfl, rfl, rfl, rfl, rfl, rfl, rfl, rfl, rfl, rfl, rfl, rfl, rfl, rfl, rfl, rfl, rfl, rfl, rfl, rfl, rfl, rfl, rfl, rfl⟩
