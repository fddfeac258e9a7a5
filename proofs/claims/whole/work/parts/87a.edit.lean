/-! EDITING A ROW: places, parting -/
def e_z (s : sA) (m : Nat) (p : sP) : Nat := (s_pp (sR s) 4 m p).length
def e_hd (p : sP) (k : Nat) : sP := (p.1, p.2.1, nI k, p.2.2.2)
def e_tl (p : sP) (k : Nat) : sP := (p.1, p.2.1 + nI k, p.2.2.1 - nI k, p.2.2.2)
/-- sizes of a piece and of its parts -/
def e_ok (z : sP → Nat) (p : sP) : Prop := (∃ n, n ≤ 500 ∧ p.2.2.1 = nI n ∧ z p ≤ n) ∧ (∀ k, k < z p → z (e_hd p k) = k ∧ z (e_tl p k) = z p - k ∧ (∃ n, n ≤ 500 ∧ (e_tl p k).2.2.1 = nI n ∧ z (e_tl p k) ≤ n) ∧ ∀ j, j < z p - k → z (e_hd (e_tl p k) j) = j ∧ z (e_tl (e_tl p k) j) = z p - k - j)
def e_oa (z : sP → Nat) (at_ : Nat) : Nat → List sP → List sP × List sP
  | _, [] => ([], [])
  | st, p :: l => if at_ < min 300 (st + z p) then (if st < at_ then ([e_hd p (at_ - st)], e_tl p (at_ - st) :: l) else ([], p :: l)) else (p :: (e_oa z at_ (min 300 (st + z p)) l).1, (e_oa z at_ (min 300 (st + z p)) l).2)
def e_ob (z : sP → Nat) (at_ : Nat) : Nat → List sP → List sP × List sP
  | _, [] => ([], [])
  | st, p :: l => if min 300 (st + z p) < at_ then (p :: (e_ob z at_ (min 300 (st + z p)) l).1, (e_ob z at_ (min 300 (st + z p)) l).2) else if min 300 (st + z p) ≤ at_ then ([p], l) else ([e_hd p (at_ - st)], e_tl p (at_ - st) :: l)
def e_end (z : sP → Nat) : Nat → List sP → Nat
  | st, [] => st
  | st, p :: l => e_end z (min 300 (st + z p)) l
/-- what leaves, what is left -/
def e_lift (z : sP → Nat) (f n : Nat) (l : List sP) : List sP × List sP := ((e_ob z (f + n) f (e_oa z f 0 l).2).1, (e_oa z f 0 l).1 ++ (e_ob z (f + n) f (e_oa z f 0 l).2).2)
def e_tk (z : sP → Nat) (f o : Nat) : Nat → List sP → List sP × List sP
  | _, [] => ([], [])
  | st, p :: l => if min 300 (st + z p) ≤ f ∨ o ≤ st then (p :: (e_tk z f o (min 300 (st + z p)) l).1, (e_tk z f o (min 300 (st + z p)) l).2) else ((if st < f then [e_hd p (f - st)] else []) ++ (if o < min 300 (st + z p) then [e_tl p (o - st)] else []) ++ (e_tk z f o (min 300 (st + z p)) l).1, (p.1, p.2.1 + nI (f - st), (if o < min 300 (st + z p) then nI (o - st) else p.2.2.1) - nI (f - st), p.2.2.2) :: (e_tk z f o (min 300 (st + z p)) l).2)
section ED
variable {z : sP → Nat}
theorem e_end_app : ∀ (a b : List sP) (st : Nat), e_end z st (a ++ b) = e_end z (e_end z st a) b := by
  intro a
  induction a with
  | nil => intro b st; rfl
  | cons p a ih => intro b st; exact ih b _
theorem e_end_ge : ∀ (a : List sP) (st : Nat), st ≤ 300 → st ≤ e_end z st a ∧ e_end z st a ≤ 300 := by
  intro a
  induction a with
  | nil => intro st h; exact ⟨Nat.le_refl _, h⟩
  | cons p a ih =>
    intro st h
    have := ih (min 300 (st + z p)) (by omega)
    exact ⟨by show st ≤ e_end z (min 300 (st + z p)) a; omega, this.2⟩
theorem i_sub0 (x : Int32) : x - nI 0 = x := by
  show x - 0 = x
  exact Int32.sub_zero _
theorem i_add0 (x : Int32) : x + nI 0 = x := by
  show x + 0 = x
  exact Int32.add_zero _
theorem e_tk3 (f o : Nat) : ∀ (l : List sP) (st : Nat), st ≤ 300 → o ≤ st → e_tk z f o st l = (l, []) := by
  intro l
  induction l with
  | nil => intro st _ _; rfl
  | cons p l ih =>
    intro st h1 h2
    unfold e_tk
    rw [if_pos (Or.inr h2), ih _ (by omega) (by omega)]
theorem e_tk2 {f o : Nat} : ∀ (l : List sP) (st : Nat), st ≤ 300 → f < st → st < o → e_tk z f o st l = ((e_ob z o st l).2, (e_ob z o st l).1) := by
  intro l
  induction l with
  | nil => intro st _ _ _; rfl
  | cons p l ih =>
    intro st h1 h2 h3
    unfold e_tk e_ob
    rw [if_neg (by omega), if_neg (show ¬ st < f by omega), show f - st = 0 by omega]
    by_cases c1 : min 300 (st + z p) < o
    · rw [if_pos c1, if_neg (show ¬ o < min 300 (st + z p) by omega), if_neg (show ¬ o < min 300 (st + z p) by omega), ih _ (by omega) (by omega) c1, i_add0, i_sub0]
      rfl
    · rw [if_neg c1, e_tk3 f o l _ (by omega) (by omega)]
      by_cases c2 : min 300 (st + z p) ≤ o
      · rw [if_pos c2, if_neg (show ¬ o < min 300 (st + z p) by omega), if_neg (show ¬ o < min 300 (st + z p) by omega), i_add0, i_sub0]
        rfl
      · rw [if_neg c2, if_pos (show o < min 300 (st + z p) by omega), if_pos (show o < min 300 (st + z p) by omega), i_add0, i_sub0]
        rfl
theorem i_addn (x : Int32) (a b : Nat) : x + nI a + nI b = x + nI (a + b) := by rw [Int32.add_assoc, n_add]
theorem i_subn (x : Int32) (a b : Nat) : x - nI a - nI b = x - nI (a + b) := by
  rw [← n_add, Int32.sub_eq_add_neg, Int32.sub_eq_add_neg, Int32.sub_eq_add_neg, Int32.neg_add, Int32.sub_eq_add_neg, Int32.add_assoc]
theorem e_tk1 {f o : Nat} (hfo : f < o) : ∀ (l : List sP) (st : Nat), (∀ p, p ∈ l → e_ok z p) → st ≤ f → f ≤ 300 → e_tk z f o st l = ((e_oa z f st l).1 ++ (e_ob z o f (e_oa z f st l).2).2, (e_ob z o f (e_oa z f st l).2).1) := by
  intro l
  induction l with
  | nil => intro st _ _ _; rfl
  | cons p l ih =>
    intro st hok h1 h2
    have okp := hok p (List.mem_cons_self)
    unfold e_tk e_oa
    by_cases c1 : min 300 (st + z p) ≤ f
    · rw [if_pos (Or.inl c1), if_neg (show ¬ f < min 300 (st + z p) by omega), ih _ (fun q hq => hok q (List.mem_cons_of_mem _ hq)) c1 h2]
      rfl
    · rw [if_neg (by omega), if_pos (show f < min 300 (st + z p) by omega)]
      by_cases c2 : st < f
      · rw [if_pos c2, if_pos c2]
        obtain ⟨z1, z2, _, z4⟩ := okp.2 (f - st) (by omega)
        have ee : min 300 (f + z (e_tl p (f - st))) = min 300 (st + z p) := by rw [z2]; omega
        show _ = ([e_hd p (f - st)] ++ (e_ob z o f (e_tl p (f - st) :: l)).2, (e_ob z o f (e_tl p (f - st) :: l)).1)
        unfold e_ob
        rw [ee]
        by_cases c3 : min 300 (st + z p) < o
        · rw [if_pos c3, if_neg (show ¬ o < min 300 (st + z p) by omega), if_neg (show ¬ o < min 300 (st + z p) by omega), e_tk2 l _ (by omega) (by omega) c3]
          rfl
        · rw [if_neg c3, e_tk3 f o l _ (by omega) (by omega)]
          by_cases c4 : min 300 (st + z p) ≤ o
          · rw [if_pos c4, if_neg (show ¬ o < min 300 (st + z p) by omega), if_neg (show ¬ o < min 300 (st + z p) by omega)]
            rfl
          · rw [if_neg c4, if_pos (show o < min 300 (st + z p) by omega), if_pos (show o < min 300 (st + z p) by omega)]
            have e1 : e_tl (e_tl p (f - st)) (o - f) = e_tl p (o - st) := by
              unfold e_tl
              show (p.1, p.2.1 + nI (f - st) + nI (o - f), p.2.2.1 - nI (f - st) - nI (o - f), p.2.2.2) = _
              rw [i_addn, i_subn, show f - st + (o - f) = o - st by omega]
            have e2 : e_hd (e_tl p (f - st)) (o - f) = (p.1, p.2.1 + nI (f - st), nI (o - st) - nI (f - st), p.2.2.2) := by
              unfold e_hd e_tl
              rw [n_sub (by omega), show o - st - (f - st) = o - f by omega]
            rw [e1, e2]
            rfl
      · obtain rfl : st = f := by omega
        rw [if_neg c2, if_neg c2]
        show _ = ([] ++ (e_ob z o st (p :: l)).2, (e_ob z o st (p :: l)).1)
        unfold e_ob
        rw [show st - st = 0 by omega, i_add0]
        by_cases c3 : min 300 (st + z p) < o
        · rw [if_pos c3, if_neg (show ¬ o < min 300 (st + z p) by omega), if_neg (show ¬ o < min 300 (st + z p) by omega), e_tk2 l _ (by omega) (by omega) c3, i_sub0]
          rfl
        · rw [if_neg c3, e_tk3 st o l _ (by omega) (by omega)]
          by_cases c4 : min 300 (st + z p) ≤ o
          · rw [if_pos c4, if_neg (show ¬ o < min 300 (st + z p) by omega), if_neg (show ¬ o < min 300 (st + z p) by omega), i_sub0]
            rfl
          · rw [if_neg c4, if_pos (show o < min 300 (st + z p) by omega), if_pos (show o < min 300 (st + z p) by omega), i_sub0]
            rfl
/-- the end of what is ahead -/
theorem e_oa_end {at_ : Nat} : ∀ (l : List sP) (st : Nat), (∀ p, p ∈ l → e_ok z p) → st ≤ at_ → at_ ≤ 300 → at_ < e_end z st l → e_end z st (e_oa z at_ st l).1 = at_ := by
  intro l
  induction l with
  | nil => intro st _ h1 _ h2; exact absurd (show at_ < st from h2) (by omega)
  | cons p l ih =>
    intro st hok h1 h2 h3
    unfold e_oa
    by_cases c1 : at_ < min 300 (st + z p)
    · rw [if_pos c1]
      by_cases c2 : st < at_
      · rw [if_pos c2]
        show min 300 (st + z (e_hd p (at_ - st))) = at_
        rw [((hok p (List.mem_cons_self)).2 (at_ - st) (by omega)).1]
        omega
      · rw [if_neg c2]
        show st = at_
        omega
    · rw [if_neg c1]
      exact ih _ (fun q hq => hok q (List.mem_cons_of_mem _ hq)) (by omega) h2 h3
theorem e_ob_app {at_ : Nat} (b : List sP) : ∀ (a : List sP) (st : Nat), st ≤ 300 → e_end z st a < at_ → e_ob z at_ st (a ++ b) = (a ++ (e_ob z at_ (e_end z st a) b).1, (e_ob z at_ (e_end z st a) b).2) := by
  intro a
  induction a with
  | nil => intro st _ _; rfl
  | cons p a ih =>
    intro st h1 h2
    have h3 : e_end z (min 300 (st + z p)) a < at_ := h2
    have := (e_end_ge (z := z) a (min 300 (st + z p)) (by omega)).1
    show e_ob z at_ st (p :: (a ++ b)) = _
    rw [e_ob, if_pos (by omega), ih _ (by omega) h3]
    rfl
theorem e_oa_all : ∀ (l : List sP) (at_ st : Nat), ((e_oa z at_ st l).1.length + (e_oa z at_ st l).2.length ≤ l.length + 1) ∧ l.length ≤ (e_oa z at_ st l).1.length + (e_oa z at_ st l).2.length := by
  intro l
  induction l with
  | nil => intro at_ st; exact ⟨by show 0 + 0 ≤ 0 + 1; omega, by show 0 ≤ 0 + 0; omega⟩
  | cons p l ih =>
    intro at_ st
    unfold e_oa
    by_cases c1 : at_ < min 300 (st + z p)
    · rw [if_pos c1]
      by_cases c2 : st < at_
      · rw [if_pos c2]; exact ⟨by show 1 + (l.length + 1) ≤ l.length + 1 + 1; omega, by show l.length + 1 ≤ 1 + (l.length + 1); omega⟩
      · rw [if_neg c2]; exact ⟨by show 0 + (l.length + 1) ≤ l.length + 1 + 1; omega, by show l.length + 1 ≤ 0 + (l.length + 1); omega⟩
    · rw [if_neg c1]
      have := ih at_ (min 300 (st + z p))
      constructor
      · show (e_oa z at_ (min 300 (st + z p)) l).1.length + 1 + (e_oa z at_ (min 300 (st + z p)) l).2.length ≤ l.length + 1 + 1
        omega
      · show l.length + 1 ≤ (e_oa z at_ (min 300 (st + z p)) l).1.length + 1 + (e_oa z at_ (min 300 (st + z p)) l).2.length
        omega
theorem e_ob_all : ∀ (l : List sP) (at_ st : Nat), ((e_ob z at_ st l).1.length + (e_ob z at_ st l).2.length ≤ l.length + 1) := by
  intro l
  induction l with
  | nil => intro at_ st; show 0 + 0 ≤ 0 + 1; omega
  | cons p l ih =>
    intro at_ st
    unfold e_ob
    by_cases c1 : min 300 (st + z p) < at_
    · rw [if_pos c1]
      have := ih at_ (min 300 (st + z p))
      show (e_ob z at_ (min 300 (st + z p)) l).1.length + 1 + (e_ob z at_ (min 300 (st + z p)) l).2.length ≤ l.length + 1 + 1
      omega
    · rw [if_neg c1]
      by_cases c2 : min 300 (st + z p) ≤ at_
      · rw [if_pos c2]; show 1 + l.length ≤ l.length + 1 + 1; omega
      · rw [if_neg c2]; show 1 + (l.length + 1) ≤ l.length + 1 + 1; omega
/-- what holds of a piece and its parts holds of all -/
theorem e_oa_P {P : sP → Prop} : ∀ (l : List sP) (at_ st : Nat), (∀ p, p ∈ l → P p ∧ ∀ k, 0 < k → k < z p → P (e_hd p k) ∧ P (e_tl p k)) → (∀ p, p ∈ (e_oa z at_ st l).1 → P p) ∧ (∀ p, p ∈ (e_oa z at_ st l).2 → P p) := by
  intro l
  induction l with
  | nil => intro at_ st _; exact ⟨fun p hp => absurd hp List.not_mem_nil, fun p hp => absurd hp List.not_mem_nil⟩
  | cons p l ih =>
    intro at_ st h
    have hp := h p (List.mem_cons_self)
    have hl : ∀ q, q ∈ l → P q ∧ ∀ k, 0 < k → k < z q → P (e_hd q k) ∧ P (e_tl q k) := fun q hq => h q (List.mem_cons_of_mem _ hq)
    unfold e_oa
    by_cases c1 : at_ < min 300 (st + z p)
    · rw [if_pos c1]
      by_cases c2 : st < at_
      · rw [if_pos c2]
        have := hp.2 (at_ - st) (by omega) (by omega)
        refine ⟨fun q hq => ?_, fun q hq => ?_⟩
        · rw [List.mem_singleton] at hq; rw [hq]; exact this.1
        · rcases List.mem_cons.mp hq with w | w
          · rw [w]; exact this.2
          · exact (hl q w).1
      · rw [if_neg c2]
        refine ⟨fun q hq => absurd hq List.not_mem_nil, fun q hq => ?_⟩
        exact (h q hq).1
    · rw [if_neg c1]
      obtain ⟨i1, i2⟩ := ih at_ (min 300 (st + z p)) hl
      refine ⟨fun q hq => ?_, i2⟩
      rcases List.mem_cons.mp hq with w | w
      · rw [w]; exact hp.1
      · exact i1 q w
theorem e_ob_P {P : sP → Prop} : ∀ (l : List sP) (at_ st : Nat), st < at_ → (∀ p, p ∈ l → P p ∧ ∀ k, 0 < k → k < z p → P (e_hd p k) ∧ P (e_tl p k)) → (∀ p, p ∈ (e_ob z at_ st l).1 → P p) ∧ (∀ p, p ∈ (e_ob z at_ st l).2 → P p) := by
  intro l
  induction l with
  | nil => intro at_ st _ _; exact ⟨fun p hp => absurd hp List.not_mem_nil, fun p hp => absurd hp List.not_mem_nil⟩
  | cons p l ih =>
    intro at_ st hs h
    have hp := h p (List.mem_cons_self)
    have hl : ∀ q, q ∈ l → P q ∧ ∀ k, 0 < k → k < z q → P (e_hd q k) ∧ P (e_tl q k) := fun q hq => h q (List.mem_cons_of_mem _ hq)
    unfold e_ob
    by_cases c1 : min 300 (st + z p) < at_
    · rw [if_pos c1]
      obtain ⟨i1, i2⟩ := ih at_ (min 300 (st + z p)) c1 hl
      refine ⟨fun q hq => ?_, i2⟩
      rcases List.mem_cons.mp hq with w | w
      · rw [w]; exact hp.1
      · exact i1 q w
    · rw [if_neg c1]
      by_cases c2 : min 300 (st + z p) ≤ at_
      · rw [if_pos c2]
        exact ⟨fun q hq => by rw [List.mem_singleton] at hq; rw [hq]; exact hp.1, fun q hq => (hl q hq).1⟩
      · rw [if_neg c2]
        have := hp.2 (at_ - st) (by omega) (by omega)
        refine ⟨fun q hq => ?_, fun q hq => ?_⟩
        · rw [List.mem_singleton] at hq; rw [hq]; exact this.1
        · rcases List.mem_cons.mp hq with w | w
          · rw [w]; exact this.2
          · exact (hl q w).1
end ED
