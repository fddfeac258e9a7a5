/-! THE PURE STATE: addresses, kinds (0: nothing there; 1 int[], 2 boolean[], 3 .. 19 arrays of references, 20 + c objects of the class c of vwCl), lengths, numbers, references -/
abbrev h_S : Type := List Nat × (Nat → Nat) × (Nat → Nat) × (Nat → Nat → Int32) × (Nat → Nat → Option Nat)
def h_k (σ : h_S) (a : Nat) : Nat := σ.2.1 a
def h_n (σ : h_S) (a : Nat) : Nat := σ.2.2.1 a
def h_i (σ : h_S) (a k : Nat) : Int32 := σ.2.2.2.1 a k
def h_r (σ : h_S) (a k : Nat) : Option Nat := σ.2.2.2.2 a k
def h_up {α : Type} (f : Nat → Nat → α) (a k : Nat) (v : α) : Nat → Nat → α := fun b => if b = a then (fun j => if j = k then v else f b j) else f b
def h_si (σ : h_S) (a k : Nat) (v : Int32) : h_S := (σ.1, σ.2.1, σ.2.2.1, h_up σ.2.2.2.1 a k v, σ.2.2.2.2)
def h_sr (σ : h_S) (a k : Nat) (v : Option Nat) : h_S := (σ.1, σ.2.1, σ.2.2.1, σ.2.2.2.1, h_up σ.2.2.2.2 a k v)
def h_nw (σ : h_S) (q kind len : Nat) : h_S := (σ.1 ++ [q], (fun b => if b = q then kind else σ.2.1 b), (fun b => if b = q then len else σ.2.2.1 b), (fun b => if b = q then (fun _ => 0) else σ.2.2.2.1 b), (fun b => if b = q then (fun _ => none) else σ.2.2.2.2 b))
theorem h_k_si (σ : h_S) (a k : Nat) (v : Int32) (b : Nat) : h_k (h_si σ a k v) b = h_k σ b := rfl
theorem h_n_si (σ : h_S) (a k : Nat) (v : Int32) (b : Nat) : h_n (h_si σ a k v) b = h_n σ b := rfl
theorem h_r_si (σ : h_S) (a k : Nat) (v : Int32) (b j : Nat) : h_r (h_si σ a k v) b j = h_r σ b j := rfl
theorem h_i_si (σ : h_S) (a k : Nat) (v : Int32) (b j : Nat) : h_i (h_si σ a k v) b j = if b = a ∧ j = k then v else h_i σ b j := by
  show h_up σ.2.2.2.1 a k v b j = _
  unfold h_up
  by_cases h1 : b = a
  · by_cases h2 : j = k
    · simp [h1, h2]
    · simp [h1, h2, h_i]
  · simp [h1, h_i]
theorem h_k_sr (σ : h_S) (a k : Nat) (v : Option Nat) (b : Nat) : h_k (h_sr σ a k v) b = h_k σ b := rfl
theorem h_n_sr (σ : h_S) (a k : Nat) (v : Option Nat) (b : Nat) : h_n (h_sr σ a k v) b = h_n σ b := rfl
theorem h_i_sr (σ : h_S) (a k : Nat) (v : Option Nat) (b j : Nat) : h_i (h_sr σ a k v) b j = h_i σ b j := rfl
theorem h_r_sr (σ : h_S) (a k : Nat) (v : Option Nat) (b j : Nat) : h_r (h_sr σ a k v) b j = if b = a ∧ j = k then v else h_r σ b j := by
  show h_up σ.2.2.2.2 a k v b j = _
  unfold h_up
  by_cases h1 : b = a
  · by_cases h2 : j = k
    · simp [h1, h2]
    · simp [h1, h2, h_r]
  · simp [h1, h_r]
theorem h_k_nw (σ : h_S) (q kind len b : Nat) : h_k (h_nw σ q kind len) b = if b = q then kind else h_k σ b := rfl
theorem h_n_nw (σ : h_S) (q kind len b : Nat) : h_n (h_nw σ q kind len) b = if b = q then len else h_n σ b := rfl
theorem h_i_nw (σ : h_S) (q kind len b j : Nat) : h_i (h_nw σ q kind len) b j = if b = q then 0 else h_i σ b j := by
  show (if b = q then (fun _ => 0) else σ.2.2.2.1 b) j = _
  by_cases h1 : b = q <;> simp [h1, h_i]
theorem h_r_nw (σ : h_S) (q kind len b j : Nat) : h_r (h_nw σ q kind len) b j = if b = q then none else h_r σ b j := by
  show (if b = q then (fun _ => none) else σ.2.2.2.2 b) j = _
  by_cases h1 : b = q <;> simp [h1, h_r]
abbrev h_G : Type := Nat × Nat × Nat
/-- the length of an array of Objects, the empty one outside too -/
def h_ln7 (g : h_G) (σ : h_S) (r : Option Nat) : Int32 := if r = some g.1 then 0 else match r with
  | some a => Int32.ofNat (h_n σ a)
  | none => 0
def h_abv : Nat → Int32
  | 0 => -9
  | 1 => 0
  | 2 => 1
  | 3 => 0
  | _ => 3
/-- System.arraycopy between arrays of ints -/
def h_cp (σ : h_S) (a0 sp a dp n : Nat) : h_S := (σ.1, σ.2.1, σ.2.2.1, (fun b => if b = a then va_cpy (σ.2.2.2.1 a0) (σ.2.2.2.1 a) sp dp n else σ.2.2.2.1 b), σ.2.2.2.2)
/-- and of references -/
def h_cpR (σ : h_S) (a0 sp a dp n : Nat) : h_S := (σ.1, σ.2.1, σ.2.2.1, σ.2.2.2.1, (fun b => if b = a then va_cpy (σ.2.2.2.2 a0) (σ.2.2.2.2 a) sp dp n else σ.2.2.2.2 b))
/-- a clone of an array of ints -/
def h_cl (σ : h_S) (q a : Nat) : h_S := (σ.1 ++ [q], (fun b => if b = q then 1 else σ.2.1 b), (fun b => if b = q then σ.2.2.1 a else σ.2.2.1 b), (fun b => if b = q then σ.2.2.2.1 a else σ.2.2.2.1 b), (fun b => if b = q then (fun _ => none) else σ.2.2.2.2 b))
theorem h_r_cpR1 (σ : h_S) (a0 sp a dp n : Nat) : h_r (h_cpR σ a0 sp a dp n) a = va_cpy (h_r σ a0) (h_r σ a) sp dp n := by
  funext j
  show (if a = a then va_cpy (σ.2.2.2.2 a0) (σ.2.2.2.2 a) sp dp n else σ.2.2.2.2 a) j = _
  rw [if_pos rfl]
  rfl
theorem h_r_cpR2 (σ : h_S) (a0 sp dp n : Nat) {a b : Nat} (h : ¬ b = a) : h_r (h_cpR σ a0 sp a dp n) b = h_r σ b := by
  funext j
  show (if b = a then va_cpy (σ.2.2.2.2 a0) (σ.2.2.2.2 a) sp dp n else σ.2.2.2.2 b) j = _
  rw [if_neg h]
  rfl
/-- new int[N][k]: the outer array at q, the inner ones at r 0, r 1 .. -/
def h_mn (σ : h_S) (q : Nat) (r : Nat → Nat) (k N : Nat) : Nat → h_S
  | 0 => h_nw σ q 8 N
  | i + 1 => h_sr (h_nw (h_mn σ q r k N i) (r i) 1 k) q i (some (r i))
/-- an index as a place -/
abbrev h_ix (i : Int32) : Nat := i.toNatClampNeg
/-- a shift to the right that brings in zeros -/
def h_ushr (x y : Int32) : Int32 := (x.toUInt32 >>> (y.toUInt32 &&& Int32.toUInt32 31)).toInt32
def h_lshl (x : Int64) (y : Int32) : Int64 := x <<< (y.toInt64 &&& 63)
def h_min (x y : Int32) : Int32 := if y < x then y else x
def h_max (x y : Int32) : Int32 := if x < y then y else x
def h_bt (x : Int32) : Prop := x = 0 ∨ x = 1
theorem h_T {c : Prop} [Decidable c] {P Q : Prop} (hc : c) (h : if c then P else Q) : P := by rwa [if_pos hc] at h
theorem h_E {c : Prop} [Decidable c] {P Q : Prop} (hc : ¬ c) (h : if c then P else Q) : Q := by rwa [if_neg hc] at h
