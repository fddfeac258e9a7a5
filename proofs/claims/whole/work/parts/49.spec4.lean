/-! what is shown, with chains -/
def s_it (R : Nat → Nat → List sP) : Nat → Nat → Nat → List (Int32 × List Int32)
  | 0, w, m => (R w m).flatMap (fun p => if p.1 < 2 then (s_ws p.2.1 (h_ix p.2.2.1)).map (fun x => (x, [nI w])) else [(-7, [nI w])])
  | f + 1, w, m => (R w m).flatMap (fun p => if p.1 < 2 then (s_ws p.2.1 (h_ix p.2.2.1)).map (fun x => (x, [nI w])) else ((((s_it R f (h_ix p.2.2.2.1) (if p.1 = 2 then h_ix p.2.2.2.2 else m)).take 300).drop (h_ix p.2.1)).take (h_ix p.2.2.1)).map (fun y => (y.1, nI w :: y.2)))
/-- of one piece -/
def s_ip (R : Nat → Nat → List sP) (f w m : Nat) (p : sP) : List (Int32 × List Int32) := if p.1 < 2 then (s_ws p.2.1 (h_ix p.2.2.1)).map (fun x => (x, [nI w])) else match f with
  | 0 => [(-7, [nI w])]
  | f + 1 => ((((s_it R f (h_ix p.2.2.2.1) (if p.1 = 2 then h_ix p.2.2.2.2 else m)).take 300).drop (h_ix p.2.1)).take (h_ix p.2.2.1)).map (fun y => (y.1, nI w :: y.2))
theorem s_it_ip (R : Nat → Nat → List sP) (f w m : Nat) : s_it R f w m = (R w m).flatMap (s_ip R f w m) := by
  cases f with
  | zero => unfold s_it s_ip; rfl
  | succ f => unfold s_it s_ip; rfl
theorem s_it_sh (R : Nat → Nat → List sP) : ∀ f w m, ((s_it R f w m).map (fun y => y.1)).take 300 = s_sh R f w m := by
  intro f
  induction f with
  | zero =>
    intro w m
    unfold s_it s_sh
    rw [List.map_flatMap]
    congr 2
    funext p
    by_cases c : p.1 < 2
    · rw [if_pos c, if_pos c, List.map_map]
      exact List.map_id _
    · rw [if_neg c, if_neg c]; rfl
  | succ f ih =>
    intro w m
    unfold s_it s_sh
    rw [List.map_flatMap]
    congr 2
    funext p
    by_cases c : p.1 < 2
    · rw [if_pos c, if_pos c, List.map_map]
      exact List.map_id _
    · rw [if_neg c, if_neg c, List.map_map, ← ih]
      show List.map (fun y : Int32 × List Int32 => y.1) _ = _
      rw [List.map_take, List.map_drop, List.map_take]
/-- a piece as it may be: kinds, words, a writing, a moment -/
def s_pok (W : Nat) (p : sP) : Prop := (∃ k, k ≤ 3 ∧ p.1 = nI k) ∧ (∃ n, 1 ≤ n ∧ n ≤ 500 ∧ p.2.2.1 = nI n) ∧ (∃ a, a ≤ 499 ∧ p.2.1 = nI a) ∧ (¬ p.1 < 2 → ∃ w, w < W ∧ p.2.2.2.1 = nI w) ∧ (p.1 = 2 → ∃ m, m ≤ 600 ∧ p.2.2.2.2 = nI m)
/-- rows: at most 24 pieces, as they may be -/
def ivp (s : sA) : Prop := ∀ w m, (sR s w m).length ≤ 24 ∧ ∀ p, p ∈ sR s w m → s_pok (sC s 2) p
theorem s_sh_le (R : Nat → Nat → List sP) (f w m : Nat) : (s_sh R f w m).length ≤ 300 := by cases f <;> unfold s_sh <;> exact List.length_take_le _ _
