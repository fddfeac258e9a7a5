/-! FUNCTIONAL FORMS: the words that they are made of -/
noncomputable def fg_if {α : Type} (c : Prop) (a b : α) : α := @ite α c (Classical.propDecidable c) a b
noncomputable def fg_g {α : Type} (c : Prop) (a : Option α) : Option α := fg_if c a none
def fg_o {α β : Type} (e : Option α) (f : α → Option β) : Option β := match e with
  | some a => f a
  | none => none
def fg_let {α β : Type} (e : α) (f : α → β) : β := f e
def fg_b {ρ S β : Type} (m : Option (ρ × S)) (f : ρ → S → Option β) : Option β := match m with
  | some x => f x.1 x.2
  | none => none
abbrev fg_R (ρ S : Type) : Type := Option (ρ × S × Nat × Nat)
def fg_c {ρ S : Type} (c d : Nat) (m : fg_R ρ S) : fg_R ρ S := match m with
  | some y => some (y.1, y.2.1, c + y.2.2.1, d + y.2.2.2)
  | none => none
def fg_bc {ρ S ρ2 S2 : Type} (m : fg_R ρ S) (f : ρ → S → fg_R ρ2 S2) : fg_R ρ2 S2 := match m with
  | some x => fg_c x.2.2.1 x.2.2.2 (f x.1 x.2.1)
  | none => none
/-- fuel for every loop -/
theorem g_Nex : ∃ n : Nat, 1000000000 ≤ n := ⟨_, Nat.le_refl _⟩
noncomputable def g_N : Nat := Classical.choose g_Nex
theorem g_N_le : 1000000000 ≤ g_N := Classical.choose_spec g_Nex
section FG
variable {α β ρ S ρ2 S2 : Type}
theorem fg_if_1 {c : Prop} {a b : α} (h : c) : fg_if c a b = a := by unfold fg_if; rw [if_pos h]
theorem fg_if_0 {c : Prop} {a b : α} (h : ¬ c) : fg_if c a b = b := by unfold fg_if; rw [if_neg h]
theorem fg_if_T {a b : α} : fg_if True a b = a := fg_if_1 trivial
theorem fg_if_F {a b : α} : fg_if False a b = b := fg_if_0 id
theorem fg_g_1 {c : Prop} {a : Option α} (h : c) : fg_g c a = a := fg_if_1 h
theorem fg_g_T {a : Option α} : fg_g True a = a := fg_if_1 trivial
theorem fg_o_1 {a : α} {f : α → Option β} : fg_o (some a) f = f a := rfl
theorem fg_let_1 {e : α} {f : α → β} : fg_let e f = f e := rfl
theorem fg_b_1 {r : ρ} {s : S} {f : ρ → S → Option β} : fg_b (some (r, s)) f = f r s := rfl
theorem fg_c_1 {r : ρ} {s : S} {c d c2 d2 : Nat} : fg_c c d (some (r, s, c2, d2)) = some (r, s, c + c2, d + d2) := rfl
theorem fg_bc_1 {r : ρ} {s : S} {c d : Nat} {f : ρ → S → fg_R ρ2 S2} : fg_bc (some (r, s, c, d)) f = fg_c c d (f r s) := rfl
theorem fg_g_s {c : Prop} {a : Option α} {x : α} (h : fg_g c a = some x) : c ∧ a = some x := by
  by_cases hc : c
  · exact ⟨hc, by rwa [fg_g_1 hc] at h⟩
  · unfold fg_g at h
    rw [fg_if_0 hc] at h
    cases h
theorem fg_o_s {e : Option α} {f : α → Option β} {x : β} (h : fg_o e f = some x) : ∃ a, e = some a ∧ f a = some x := by
  cases e with
  | none => cases h
  | some a => exact ⟨a, rfl, h⟩
theorem fg_let_s {e : α} {f : α → β} {x : β} (h : fg_let e f = x) : ∃ v, v = e ∧ f v = x := ⟨e, rfl, h⟩
theorem fg_b_s {m : Option (ρ × S)} {f : ρ → S → Option β} {x : β} (h : fg_b m f = some x) : ∃ r s, m = some (r, s) ∧ f r s = some x := by
  cases m with
  | none => cases h
  | some a => exact ⟨a.1, a.2, rfl, h⟩
theorem fg_c_s {c d : Nat} {m : fg_R ρ S} {r : ρ} {s : S} {C D : Nat} (h : fg_c c d m = some (r, s, C, D)) : ∃ c2 d2, m = some (r, s, c2, d2) ∧ C = c + c2 ∧ D = d + d2 := by
  cases m with
  | none => cases h
  | some y =>
    obtain ⟨y1, y2, y3, y4⟩ := y
    have h2 : some (y1, y2, c + y3, d + y4) = some (r, s, C, D) := h
    cases h2
    exact ⟨y3, y4, rfl, rfl, rfl⟩
theorem fg_bc_s {m : fg_R ρ S} {f : ρ → S → fg_R ρ2 S2} {r2 : ρ2} {s2 : S2} {C D : Nat} (h : fg_bc m f = some (r2, s2, C, D)) : ∃ r s c d c2 d2, m = some (r, s, c, d) ∧ f r s = some (r2, s2, c2, d2) ∧ C = c + c2 ∧ D = d + d2 := by
  cases m with
  | none => cases h
  | some x =>
    obtain ⟨x1, x2, x3, x4⟩ := x
    obtain ⟨c2, d2, h1, h2, h3⟩ := fg_c_s (show fg_c x3 x4 (f x1 x2) = some (r2, s2, C, D) from h)
    exact ⟨x1, x2, x3, x4, c2, d2, rfl, h1, h2, h3⟩
theorem fg_sp {C c c2 B : Nat} (e : C = c + c2) (h : C ≤ B) : c ≤ B ∧ c2 ≤ B - c := by omega
theorem fg_if_t {c : Prop} {a b x : α} (hc : c) (h : fg_if c a b = x) : a = x := by rwa [fg_if_1 hc] at h
theorem fg_if_e {c : Prop} {a b x : α} (hc : ¬ c) (h : fg_if c a b = x) : b = x := by rwa [fg_if_0 hc] at h
theorem fg_ret {a r : ρ} {s s2 : S} (h : some (a, s) = some (r, s2)) : a = r ∧ s = s2 := by cases h; exact ⟨rfl, rfl⟩
theorem fg_retc {a r : ρ} {s s2 : S} {C D : Nat} (h : some (a, s, 0, 0) = some (r, s2, C, D)) : a = r ∧ s = s2 := by cases h; exact ⟨rfl, rfl⟩
theorem fg_none {a : α} {P : Prop} (h : none = some a) : P := by cases h
theorem fg_ite {c c2 A B : Prop} {D : Decidable c2} (i : c2 ↔ c) (h1 : c → A) (h2 : ¬ c → B) : @ite Prop c2 D A B := by
  by_cases h : c
  · rw [if_pos (i.mpr h)]; exact h1 h
  · rw [if_neg (fun q => h (i.mp q))]; exact h2 h
end FG
