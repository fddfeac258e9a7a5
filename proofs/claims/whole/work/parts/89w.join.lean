/-! join: ways from the base to a side, the joined row, its clashes, its runs -/
def w_c (L : List Int32) (i : Nat) : Int32 := L[i]?.getD 0
/-- at the place i of the base the side's place j is put ahead -/
def w_on (C R : List Int32) (i j : Nat) : Prop := j < R.length ∧ ¬ w_c C i = w_c R j ∧ s_T C R (i + 1) j < s_T C R i (j + 1)
noncomputable def w_go (C R : List Int32) (i : Nat) : Nat → Nat → Nat
  | 0, j => j
  | d + 1, j => fg_if (w_on C R i j) (w_go C R i d (j + 1)) j
noncomputable def w_to (C R : List Int32) (i j : Nat) : Nat := if i < C.length then w_go C R i (R.length - j) j else R.length
def w_sm (C R : List Int32) (i j : Nat) : Prop := i < C.length ∧ j < R.length ∧ w_c C i = w_c R j
noncomputable def w_fr (C R : List Int32) : Nat → Nat
  | 0 => 0
  | i + 1 => fg_if (w_sm C R i (w_to C R i (w_fr C R i))) (w_to C R i (w_fr C R i) + 1) (w_to C R i (w_fr C R i))
noncomputable def w_en (C R : List Int32) (i : Nat) : Nat := w_to C R i (w_fr C R i)
/-- the side keeps the place i of the base -/
def w_kp (C R : List Int32) (i : Nat) : Prop := w_sm C R i (w_en C R i)
def w_sg (R : List Int32) (f t : Nat) : List Int32 := (R.drop f).take (t - f)
noncomputable def j_P (C R : List Int32) (i : Nat) : List Int32 := w_sg R (w_fr C R i) (w_en C R i)
/-- 0: the same; 1: the first is the lesser; 2: the second -/
def s_lx : List Int32 → List Int32 → Nat
  | [], [] => 0
  | [], _ :: _ => 1
  | _ :: _, [] => 2
  | x :: xs, y :: ys => if x = y then s_lx xs ys else if x < y then 1 else 2
/-- what two sides put: the row, its clash -/
noncomputable def j_one (P Q : List Int32) : List Int32 × List (List Int32 × List Int32) := fg_if (P = []) (Q, []) (fg_if (Q = [] ∨ s_lx P Q = 0) (P, []) (fg_if (s_lx P Q = 1) (P ++ Q, [(P, Q)]) (Q ++ P, [(Q, P)])))
noncomputable def j_b (C A B : List Int32) (i : Nat) : List Int32 := fg_if (w_kp C A i ∧ w_kp C B i) [w_c C i] []
noncomputable def j_row (C A B : List Int32) : Nat → Nat → List Int32
  | 0, _ => []
  | d + 1, i => (j_one (j_P C A i) (j_P C B i)).1 ++ (j_b C A B i ++ j_row C A B d (i + 1))
noncomputable def j_cl (C A B : List Int32) : Nat → Nat → List (List Int32 × List Int32)
  | 0, _ => []
  | d + 1, i => (j_one (j_P C A i) (j_P C B i)).2 ++ j_cl C A B d (i + 1)
def s_rr (x : Int32) (n : Nat) (p : Int32) : List Int32 → List sP
  | [] => [(1, x, nI n, -9, -9)]
  | y :: l => if y = p + 1 then s_rr x (n + 1) y l else (1, x, nI n, -9, -9) :: s_rr y 1 y l
def s_runs : List Int32 → List sP
  | [] => []
  | x :: l => s_rr x 1 x l
def s_jC (s : sA) (c : Int32) : List Int32 := s_kp 0 (s_vs s (h_ix c))
noncomputable def s_jrow (s : sA) (v u c : Int32) : List Int32 := j_row (s_jC s c) (s_jC s v) (s_jC s u) ((s_jC s c).length + 1) 0
noncomputable def s_jcl (s : sA) (v u c : Int32) : List (List Int32 × List Int32) := j_cl (s_jC s c) (s_jC s v) (s_jC s u) ((s_jC s c).length + 1) 0
/-- clashes of the writing w are kept -/
def s_addC (s : sA) (w : Int32) : List (List Int32 × List Int32) → sA
  | [] => s
  | x :: l => s_addC (uC (uK (uF s 75 (sC s 7) w) (sC s 7) x) 7 (sC s 7 + 1)) w l
/-- a writing begins -/
def s_beg (s : sA) (h : Int32) : sA := uC (uF s 9 (sC s 2) h) 2 (sC s 2 + 1)
noncomputable def s_join (s : sA) (v u c : Int32) : Int32 × sA := fg_if (q_in v (sC s 4) ∧ q_in u (sC s 4) ∧ q_in c (sC s 4)) (fg_if (sC s 2 = 12 ∨ 24 < (s_runs (s_jrow s v u c)).length ∨ 12 < sC s 7 + (s_jcl s v u c).length) (-4, s) (nI (sC s 2), s_act (s_addC (s_new (s_beg s (sF s 9 (h_ix (sF s 56 (h_ix v))))) (nI (sC s 2)) (s_runs (s_jrow s v u c))) (nI (sC s 2)) (s_jcl s v u c)) (nI (sC s 2)))) (-1, s)
/-- clashes that aren't yet aren't settled -/
def ivz (s : sA) : Prop := ∀ i, sC s 7 ≤ i → sF s 78 i = 0
section SJn
variable {C R A B : List Int32}
theorem w_c_in {L : List Int32} {i : Nat} (h : i < L.length) : L[i]? = some (w_c L i) := by
  unfold w_c
  rw [List.getElem?_eq_getElem h]
  rfl
theorem w_go_b {i : Nat} : ∀ d j, j + d ≤ R.length → j ≤ w_go C R i d j ∧ w_go C R i d j ≤ R.length := by
  intro d
  induction d with
  | zero => intro j h; exact ⟨Nat.le_refl _, by show j ≤ _; omega⟩
  | succ d ih =>
    intro j h
    unfold w_go
    by_cases c : w_on C R i j
    · rw [fg_if_1 c]
      have := ih (j + 1) (by omega)
      omega
    · rw [fg_if_0 c]; omega
theorem w_to_b {i j : Nat} (hj : j ≤ R.length) : j ≤ w_to C R i j ∧ w_to C R i j ≤ R.length := by
  unfold w_to
  by_cases c : i < C.length
  · rw [if_pos c]; exact w_go_b _ _ (by omega)
  · rw [if_neg c]; exact ⟨hj, Nat.le_refl _⟩
theorem w_fr_le : ∀ i, w_fr C R i ≤ R.length := by
  intro i
  induction i with
  | zero => exact Nat.zero_le _
  | succ i ih =>
    unfold w_fr
    have := (w_to_b (C := C) (i := i) ih).2
    by_cases c : w_sm C R i (w_to C R i (w_fr C R i))
    · rw [fg_if_1 c]; have := c.2.1; omega
    · rw [fg_if_0 c]; exact this
theorem w_en_b (i : Nat) : w_fr C R i ≤ w_en C R i ∧ w_en C R i ≤ R.length := w_to_b (w_fr_le i)
theorem w_fr_s (i : Nat) : w_fr C R (i + 1) = fg_if (w_kp C R i) (w_en C R i + 1) (w_en C R i) := rfl
theorem w_sg_len {f t : Nat} (h : t ≤ R.length) : (w_sg R f t).length = t - f := by
  unfold w_sg
  rw [List.length_take, List.length_drop]
  omega
theorem w_sg_at {f t i : Nat} (h : f + i < t) (ht : t ≤ R.length) : (w_sg R f t)[i]? = some (w_c R (f + i)) := by
  unfold w_sg
  rw [List.getElem?_take, if_pos (by omega), List.getElem?_drop]
  exact w_c_in (by omega)
theorem w_sg_c {f t : Nat} (h : f < t) (ht : t ≤ R.length) : w_sg R f t = w_c R f :: w_sg R (f + 1) t := by
  unfold w_sg
  have hf : f < R.length := by omega
  rw [List.drop_eq_getElem_cons hf, show t - f = (t - (f + 1)) + 1 by omega, List.take_succ_cons]
  congr 1
  unfold w_c
  rw [List.getElem?_eq_getElem hf]
  rfl
theorem w_sg_n {f t : Nat} (h : t ≤ f) : w_sg R f t = [] := by
  unfold w_sg
  rw [show t - f = 0 by omega, List.take_zero]
theorem w_sg_nil {f t : Nat} (h : f ≤ t) (ht : t ≤ R.length) : w_sg R f t = [] ↔ f = t := by
  constructor
  · intro e
    have := w_sg_len (R := R) (f := f) ht
    rw [e] at this
    have : 0 = t - f := this
    omega
  · intro e; exact w_sg_n (by omega)
theorem j_P_len (i : Nat) : (j_P C R i).length = w_en C R i - w_fr C R i := w_sg_len (w_en_b i).2
theorem j_one_len (P Q : List Int32) : (j_one P Q).1.length ≤ P.length + Q.length := by
  unfold j_one
  by_cases c1 : P = []
  · rw [fg_if_1 c1]; exact Nat.le_add_left _ _
  · rw [fg_if_0 c1]
    by_cases c2 : Q = [] ∨ s_lx P Q = 0
    · rw [fg_if_1 c2]; exact Nat.le_add_right _ _
    · rw [fg_if_0 c2]
      by_cases c3 : s_lx P Q = 1
      · rw [fg_if_1 c3]; show (P ++ Q).length ≤ _; rw [List.length_append]; exact Nat.le_refl _
      · rw [fg_if_0 c3]; show (Q ++ P).length ≤ _; rw [List.length_append, Nat.add_comm]; exact Nat.le_refl _
/-- the joined row has room -/
theorem j_row_len : ∀ d i, (j_row C A B d i).length + w_fr C A i + w_fr C B i ≤ A.length + B.length := by
  intro d
  induction d with
  | zero => intro i; have := w_fr_le (C := C) (R := A) i; have := w_fr_le (C := C) (R := B) i; show 0 + _ + _ ≤ _; omega
  | succ d ih =>
    intro i
    have h1 := ih (i + 1)
    have a1 := w_en_b (C := C) (R := A) i
    have b1 := w_en_b (C := C) (R := B) i
    have o := j_one_len (j_P C A i) (j_P C B i)
    rw [j_P_len, j_P_len] at o
    unfold j_row
    rw [List.length_append, List.length_append]
    rw [w_fr_s, w_fr_s] at h1
    unfold j_b
    by_cases c1 : w_kp C A i
    · rw [fg_if_1 c1] at h1
      by_cases c2 : w_kp C B i
      · rw [fg_if_1 c2] at h1
        rw [fg_if_1 ⟨c1, c2⟩]
        show _ + (1 + _) + _ + _ ≤ _
        omega
      · rw [fg_if_0 c2] at h1
        rw [fg_if_0 (fun z => c2 z.2)]
        show _ + (0 + _) + _ + _ ≤ _
        omega
    · rw [fg_if_0 c1] at h1
      rw [fg_if_0 (fun z => c1 z.1)]
      by_cases c2 : w_kp C B i
      · rw [fg_if_1 c2] at h1
        show _ + (0 + _) + _ + _ ≤ _
        omega
      · rw [fg_if_0 c2] at h1
        show _ + (0 + _) + _ + _ ≤ _
        omega
theorem j_one_cl (P Q : List Int32) : (j_one P Q).2.length ≤ 1 ∧ ∀ x, x ∈ (j_one P Q).2 → 1 ≤ x.1.length ∧ 1 ≤ x.2.length ∧ (x = (P, Q) ∨ x = (Q, P)) := by
  unfold j_one
  have ne : ∀ L : List Int32, ¬ L = [] → 1 ≤ L.length := fun L h => by cases L with
    | nil => exact absurd rfl h
    | cons => simp
  by_cases c1 : P = []
  · rw [fg_if_1 c1]; exact ⟨Nat.zero_le _, fun x hx => by cases hx⟩
  · rw [fg_if_0 c1]
    by_cases c2 : Q = [] ∨ s_lx P Q = 0
    · rw [fg_if_1 c2]; exact ⟨Nat.zero_le _, fun x hx => by cases hx⟩
    · rw [fg_if_0 c2]
      have q := ne Q (fun z => c2 (Or.inl z))
      have p := ne P c1
      by_cases c3 : s_lx P Q = 1
      · rw [fg_if_1 c3]; exact ⟨Nat.le_refl _, fun x hx => by rw [List.mem_singleton.mp hx]; exact ⟨p, q, Or.inl rfl⟩⟩
      · rw [fg_if_0 c3]; exact ⟨Nat.le_refl _, fun x hx => by rw [List.mem_singleton.mp hx]; exact ⟨q, p, Or.inr rfl⟩⟩
theorem j_cl_len : ∀ d i, (j_cl C A B d i).length ≤ d := by
  intro d
  induction d with
  | zero => intro i; exact Nat.le_refl _
  | succ d ih =>
    intro i
    unfold j_cl
    rw [List.length_append]
    have := ih (i + 1)
    have := (j_one_cl (j_P C A i) (j_P C B i)).1
    omega
theorem j_cl_ok : ∀ d i x, x ∈ j_cl C A B d i → 1 ≤ x.1.length ∧ 1 ≤ x.2.length ∧ x.1.length ≤ max A.length B.length ∧ x.2.length ≤ max A.length B.length := by
  intro d
  induction d with
  | zero => intro i x hx; cases hx
  | succ d ih =>
    intro i x hx
    unfold j_cl at hx
    rcases List.mem_append.mp hx with w | w
    · obtain ⟨h1, h2, h3⟩ := (j_one_cl (j_P C A i) (j_P C B i)).2 x w
      have a1 := w_en_b (C := C) (R := A) i
      have b1 := w_en_b (C := C) (R := B) i
      have la := j_P_len (C := C) (R := A) i
      have lb := j_P_len (C := C) (R := B) i
      rcases h3 with e | e <;> rw [e] at h1 h2 ⊢ <;> refine ⟨h1, h2, ?_, ?_⟩ <;> simp only <;> omega
    · exact ih (i + 1) x w
/-- how many runs begin -/
def s_brk : Int32 → List Int32 → Nat
  | _, [] => 0
  | p, y :: l => (if y = p + 1 then 0 else 1) + s_brk y l
theorem s_rr_len : ∀ (l : List Int32) (x : Int32) (n : Nat) (p : Int32), (s_rr x n p l).length = 1 + s_brk p l := by
  intro l
  induction l with
  | nil => intro x n p; rfl
  | cons y l ih =>
    intro x n p
    unfold s_rr s_brk
    by_cases c : y = p + 1
    · rw [if_pos c, if_pos c, ih]; omega
    · rw [if_neg c, if_neg c, List.length_cons, ih]; omega
theorem s_lx_0 : ∀ P Q : List Int32, s_lx P Q = 0 ↔ P = Q := by
  intro P
  induction P with
  | nil =>
    intro Q
    cases Q with
    | nil => exact ⟨fun _ => rfl, fun _ => rfl⟩
    | cons y Q => exact ⟨fun h => absurd h (by unfold s_lx; decide), fun h => by cases h⟩
  | cons x P ih =>
    intro Q
    cases Q with
    | nil => exact ⟨fun h => absurd h (by unfold s_lx; decide), fun h => by cases h⟩
    | cons y Q =>
      unfold s_lx
      by_cases c : x = y
      · rw [if_pos c, ih, c]
        exact ⟨fun h => by rw [h], fun h => by injection h⟩
      · rw [if_neg c]
        constructor
        · intro h; split at h <;> cases h
        · intro h; injection h with h1 h2; exact absurd h1 c
theorem s_lx_v (P Q : List Int32) : s_lx P Q = 0 ∨ s_lx P Q = 1 ∨ s_lx P Q = 2 := by
  induction P generalizing Q with
  | nil => cases Q with
    | nil => exact Or.inl rfl
    | cons y Q => exact Or.inr (Or.inl rfl)
  | cons x P ih => cases Q with
    | nil => exact Or.inr (Or.inr rfl)
    | cons y Q =>
      unfold s_lx
      by_cases c : x = y
      · rw [if_pos c]; exact ih Q
      · rw [if_neg c]
        split
        · exact Or.inr (Or.inl rfl)
        · exact Or.inr (Or.inr rfl)
end SJn
