/-! THE CLASS's HEAP BY OTHER ADDRESSES: k the heap that the proof speaks of, s the machine's; b from the one's addresses to the other's -/
def c_R (E : h_S) (g : h_G) (b : Nat → Nat) (k s : h_S) : Prop := (∀ a, h_k k a ≠ 0 → h_k s (b a) = h_k k a ∧ h_n s (b a) = h_n k a ∧ (∀ j, h_i s (b a) j = h_i k a j) ∧ (∀ j, h_r s (b a) j = (h_r k a j).map b) ∧ (∀ j c, h_r k a j = some c → h_k k c ≠ 0)) ∧ (∀ a c, h_k k a ≠ 0 → h_k k c ≠ 0 → b a = b c → a = c) ∧ (h_k k 7 = 19 ∧ b 7 = g.1) ∧ (∀ A, h_k E A ≠ 0 → h_k s A = h_k E A ∧ h_n s A = h_n E A ∧ (∀ j, h_i s A j = h_i E A j) ∧ (∀ j, h_r s A j = h_r E A j) ∧ (∀ a, h_k k a ≠ 0 → b a ≠ A))
def c_at (b : Nat → Nat) (k : h_S) (a A : Nat) : Prop := h_k k a ≠ 0 ∧ b a = A
def c_ao (b : Nat → Nat) (k : h_S) (r R : Option Nat) : Prop := R = r.map b ∧ ∀ a, r = some a → h_k k a ≠ 0
def c_ext (b : Nat → Nat) (k : h_S) (b2 : Nat → Nat) (k2 : h_S) : Prop := ∀ a, h_k k a ≠ 0 → h_k k2 a = h_k k a ∧ b2 a = b a
/-- where the next object comes (t: what it is for) -/
def c_ad (t : Nat) (k : h_S) : Nat := 128 + 16 * k.1.length + t
/-- the fixed objects: kinds, lengths, references -/
def c_fk (a : Nat) : Nat := ([32, 1, 1, 28, 20, 20, 20, 19, 20, 5, 30, 1, 1, 1, 1, 1, 4, 3, 20, 1, 6, 8, 1, 1, 1, 1, 1, 3, 3, 1, 8, 1, 1, 1, 1, 1, 8, 1, 1, 1, 8, 1, 1, 8, 1, 1, 2, 1, 1, 1, 1, 0, 26, 26, 26, 26, 1, 1, 1, 1] : List Nat).getD a 0
def c_fn (a : Nat) : Nat := ([19, 600, 600, 13, 3, 3, 3, 0, 3, 4, 16, 64, 4800, 200, 1024, 12, 12, 0, 3, 8, 1024, 5, 300, 300, 300, 300, 300, 32, 32, 6, 2, 301, 301, 3000, 500, 300, 2, 300, 300, 2, 2, 301, 301, 2, 301, 301, 300, 600, 12, 12, 12, 0, 3, 3, 3, 3, 60, 60, 60, 60] : List Nat).getD a 0
def c_fr (a j : Nat) : Option Nat := (([(0, 2, 1), (0, 3, 2), (0, 4, 3), (0, 5, 4), (0, 6, 5), (0, 7, 6), (0, 8, 8), (0, 9, 9), (0, 10, 10), (0, 11, 11), (0, 13, 12), (0, 14, 13), (0, 16, 14), (3, 1, 15), (3, 2, 16), (3, 3, 17), (3, 4, 18), (3, 5, 19), (3, 6, 20), (3, 7, 21), (3, 8, 27), (3, 10, 28), (3, 12, 29), (9, 0, 52), (9, 1, 53), (9, 2, 54), (9, 3, 55), (10, 0, 30), (10, 1, 33), (10, 2, 34), (10, 3, 35), (10, 5, 36), (10, 6, 39), (10, 7, 40), (10, 8, 43), (10, 9, 46), (10, 10, 47), (10, 12, 48), (10, 13, 49), (10, 14, 50), (21, 0, 22), (21, 1, 23), (21, 2, 24), (21, 3, 25), (21, 4, 26), (30, 0, 31), (30, 1, 32), (36, 0, 37), (36, 1, 38), (40, 0, 41), (40, 1, 42), (43, 0, 44), (43, 1, 45), (52, 2, 56), (53, 2, 57), (54, 2, 58), (55, 2, 59)] : List (Nat × Nat × Nat)).find? (fun x => x.1 == a && x.2.1 == j)).map (fun x => x.2.2)
def c_nf (kd : Nat) : Bool := kd != 32 && kd != 28 && kd != 30 && kd != 26 && kd != 5 && kd != 8
def c_F (k : h_S) : Prop := (∀ a, c_fk a ≠ 0 → h_k k a = c_fk a ∧ h_n k a = c_fn a) ∧ (∀ a j r, c_fr a j = some r → h_r k a j = some r) ∧ (∀ a, 128 + 16 * k.1.length ≤ a → h_k k a = 0)
section CR
variable {E : h_S} {g : h_G} {b b2 b3 : Nat → Nat} {k k2 k3 s : h_S} {a A c : Nat} {r R : Option Nat}
theorem cr_xr : c_ext b k b k := fun _ _ => ⟨rfl, rfl⟩
theorem cr_xt (x : c_ext b k b2 k2) (y : c_ext b2 k2 b3 k3) : c_ext b k b3 k3 := fun a h => by
  obtain ⟨h1, h2⟩ := x a h
  obtain ⟨h3, h4⟩ := y a (by rw [h1]; exact h)
  exact ⟨h3.trans h1, h4.trans h2⟩
theorem cr_atx (h : c_at b k a A) (x : c_ext b k b2 k2) : c_at b2 k2 a A := ⟨by rw [(x a h.1).1]; exact h.1, (x a h.1).2.trans h.2⟩
theorem cr_mapx (h : ∀ a, r = some a → h_k k a ≠ 0) (x : c_ext b k b2 k2) : r.map b2 = r.map b := by
  cases r with
  | none => rfl
  | some y => simp [(x y (h y rfl)).2]
theorem cr_aox (h : c_ao b k r R) (x : c_ext b k b2 k2) : c_ao b2 k2 r R := ⟨by rw [cr_mapx h.2 x]; exact h.1, fun a e => by rw [(x a (h.2 a e)).1]; exact h.2 a e⟩
theorem cr_kx {kd : Nat} (h : h_k k a = kd) (h2 : c_at b k a A) (x : c_ext b k b2 k2) : h_k k2 a = kd := (x a h2.1).1.trans h
theorem cr_k (hR : c_R E g b k s) (h : c_at b k a A) : h_k s A = h_k k a := by rw [← h.2]; exact (hR.1 a h.1).1
theorem cr_n (hR : c_R E g b k s) (h : c_at b k a A) : h_n s A = h_n k a := by rw [← h.2]; exact (hR.1 a h.1).2.1
theorem cr_i (hR : c_R E g b k s) (h : c_at b k a A) (j : Nat) : h_i s A j = h_i k a j := by rw [← h.2]; exact (hR.1 a h.1).2.2.1 j
theorem cr_r (hR : c_R E g b k s) (h : c_at b k a A) (j : Nat) : c_ao b k (h_r k a j) (h_r s A j) := ⟨by rw [← h.2]; exact (hR.1 a h.1).2.2.2.1 j, fun c e => (hR.1 a h.1).2.2.2.2 j c e⟩
theorem cr_aos (h : c_ao b k r R) (e : r = some a) : ∃ A, R = some A ∧ c_at b k a A := ⟨b a, by rw [h.1, e]; rfl, h.2 a e, rfl⟩
theorem cr_none : c_ao b k none none := ⟨rfl, fun _ e => by cases e⟩
theorem cr_some (h : c_at b k a A) : c_ao b k (some a) (some A) := ⟨by rw [← h.2]; rfl, fun c e => by cases e; exact h.1⟩
theorem cr_g (hR : c_R E g b k s) : c_at b k 7 g.1 := ⟨by rw [hR.2.2.1.1]; decide, hR.2.2.1.2⟩
theorem cr_isn (h : c_ao b k r R) : R = none ↔ r = none := by rw [h.1]; cases r <;> simp
theorem cr_eq (hR : c_R E g b k s) (h : c_ao b k r R) (h2 : c_at b k a A) : R = some A ↔ r = some a := by
  rw [h.1, ← h2.2]
  cases hr : r with
  | none => simp
  | some y =>
    simp
    exact ⟨fun e => hR.2.1 y a (h.2 y hr) h2.1 e, fun e => by rw [e]⟩
theorem cr_vp {x : Int32} {n m l : Nat} (e1 : l = m) (e2 : m = n) (h : vp_in x n) : vp_in x l := by rw [e1, e2]; exact h
theorem cr_cast {kd : Nat} (hR : c_R E g b k s) (h : c_ao b k r R) (c : ∀ x, r = some x → h_k k x = kd) : ∀ x, R = some x → h_k s x = kd := by
  intro x e
  rw [h.1] at e
  cases hr : r with
  | none => rw [hr] at e; cases e
  | some y =>
    rw [hr] at e
    have e2 : b y = x := by simpa using e
    rw [← e2, (hR.1 y (h.2 y hr)).1]
    exact c y hr
theorem cr_is7 (hR : c_R E g b k s) (h : c_ao b k r R) (c : r = some 7 ∨ ∃ a, r = some a ∧ h_k k a = 7) : R = some g.1 ∨ ∃ a, R = some a ∧ h_k s a = 7 := by
  rcases c with c | ⟨a, c, d⟩
  · exact Or.inl ((cr_eq hR h (cr_g hR)).mpr c)
  · obtain ⟨A, e, f⟩ := cr_aos h c
    exact Or.inr ⟨A, e, (cr_k hR f).trans d⟩
theorem cr_ln7 (hR : c_R E g b k s) (h : c_ao b k r R) : h_ln7 g s R = h_ln7 (7, 0, 0) k r := by
  unfold h_ln7
  by_cases c : r = some 7
  · rw [if_pos ((cr_eq hR h (cr_g hR)).mpr c), if_pos c]
  · rw [if_neg (fun q => c ((cr_eq hR h (cr_g hR)).mp q)), if_neg c, h.1]
    cases hr : r with
    | none => rfl
    | some y =>
      show Int32.ofNat (h_n s (b y)) = _
      rw [(hR.1 y (h.2 y hr)).2.1]
theorem cr_elems (hR : c_R E g b k s) (h : c_at b k a A) {n : Nat} {p : Nat} (c : ∀ i, i < n → ∀ y, h_r k a (p + i) = some y → 20 ≤ h_k k y ∧ h_k k y < 34) : ∀ i, i < n → ∀ y, h_r s A (p + i) = some y → 20 ≤ h_k s y ∧ h_k s y < 34 := by
  intro i hi y e
  have h2 := cr_r hR h (p + i)
  rw [h2.1] at e
  cases hr : h_r k a (p + i) with
  | none => rw [hr] at e; cases e
  | some z =>
    rw [hr] at e
    have e2 : b z = y := by simpa using e
    rw [← e2, (hR.1 z (h2.2 z hr)).1]
    exact c i hi z hr
theorem cr_bA (hR : c_R E g b k s) (h : c_at b k a A) (h2 : h_k k c ≠ 0) : b c = A ↔ c = a := ⟨fun e => hR.2.1 c a h2 h.1 (e.trans h.2.symm), fun e => by rw [e]; exact h.2⟩
theorem cr_si (hR : c_R E g b k s) (h : c_at b k a A) (j : Nat) (v : Int32) : c_R E g b (h_si k a j v) (h_si s A j v) := by
  refine ⟨fun c hc => ?_, hR.2.1, hR.2.2.1, fun B hB => ?_⟩
  rotate_left
  · obtain ⟨h1, h2, h3, h4, h5⟩ := hR.2.2.2 B hB
    refine ⟨h1, h2, fun i => ?_, h4, h5⟩
    rw [h_i_si, if_neg (fun q => h5 a h.1 (h.2.trans q.1.symm))]
    exact h3 i
  obtain ⟨h1, h2, h3, h4, h5⟩ := hR.1 c hc
  refine ⟨h1, h2, fun i => ?_, h4, h5⟩
  rw [h_i_si, h_i_si, h3]
  simp only [cr_bA hR h hc]
theorem cx_si (j : Nat) (v : Int32) : c_ext b k b (h_si k a j v) := fun _ _ => ⟨rfl, rfl⟩
theorem cr_sr (hR : c_R E g b k s) (h : c_at b k a A) (j : Nat) (hr : c_ao b k r R) : c_R E g b (h_sr k a j r) (h_sr s A j R) := by
  refine ⟨fun c hc => ?_, hR.2.1, hR.2.2.1, fun B hB => ?_⟩
  rotate_left
  · obtain ⟨h1, h2, h3, h4, h5⟩ := hR.2.2.2 B hB
    refine ⟨h1, h2, h3, fun i => ?_, h5⟩
    rw [h_r_sr, if_neg (fun q => h5 a h.1 (h.2.trans q.1.symm))]
    exact h4 i
  obtain ⟨h1, h2, h3, h4, h5⟩ := hR.1 c hc
  refine ⟨h1, h2, h3, fun i => ?_, fun i d e => ?_⟩
  · rw [h_r_sr, h_r_sr, h4]
    simp only [cr_bA hR h hc]
    by_cases q : c = a ∧ i = j
    · rw [if_pos q, if_pos q]; exact hr.1
    · rw [if_neg q, if_neg q]
  · rw [h_r_sr] at e
    by_cases q : c = a ∧ i = j
    · rw [if_pos q] at e; exact hr.2 d e
    · rw [if_neg q] at e; exact h5 i d e
theorem cx_sr (j : Nat) : c_ext b k b (h_sr k a j r) := fun _ _ => ⟨rfl, rfl⟩
def c_up (b : Nat → Nat) (q Q : Nat) : Nat → Nat := fun a => if a = q then Q else b a
theorem cx_new {q Q kd n : Nat} (z : h_k k q = 0) : c_ext b k (c_up b q Q) (h_nw k q kd n) := fun a h => by
  have hq : ¬ a = q := fun e => h (by rw [e]; exact z)
  exact ⟨by rw [h_k_nw, if_neg hq], by show (if a = q then Q else b a) = _; rw [if_neg hq]⟩
theorem cr_nw {q Q kd n : Nat} (hR : c_R E g b k s) (z : h_k k q = 0) (Z : h_k s Q = 0) (hkd : kd ≠ 0) : c_R E g (c_up b q Q) (h_nw k q kd n) (h_nw s Q kd n) := by
  have hb : ∀ a, h_k k a ≠ 0 → ¬ a = q := fun a h e => h (by rw [e]; exact z)
  have hB : ∀ a, h_k k a ≠ 0 → ¬ b a = Q := fun a h e => h (by rw [← (hR.1 a h).1, e]; exact Z)
  have hu : ∀ a, h_k k a ≠ 0 → c_up b q Q a = b a := fun a h => if_neg (hb a h)
  have hq : c_up b q Q q = Q := if_pos rfl
  refine ⟨fun a ha => ?_, fun a c ha hc e => ?_, ?_, fun B hB2 => ?_⟩
  · rw [h_k_nw] at ha
    by_cases e : a = q
    · subst e
      rw [hq]
      refine ⟨by rw [h_k_nw, h_k_nw, if_pos rfl, if_pos rfl], by rw [h_n_nw, h_n_nw, if_pos rfl, if_pos rfl], fun j => by rw [h_i_nw, h_i_nw, if_pos rfl, if_pos rfl], fun j => by rw [h_r_nw, h_r_nw, if_pos rfl, if_pos rfl]; rfl, fun j c h => by rw [h_r_nw, if_pos rfl] at h; cases h⟩
    · rw [if_neg e] at ha
      obtain ⟨h1, h2, h3, h4, h5⟩ := hR.1 a ha
      rw [hu a ha]
      refine ⟨by rw [h_k_nw, h_k_nw, if_neg e, if_neg (hB a ha), h1], by rw [h_n_nw, h_n_nw, if_neg e, if_neg (hB a ha), h2], fun j => by rw [h_i_nw, h_i_nw, if_neg e, if_neg (hB a ha), h3], fun j => ?_, fun j c h => ?_⟩
      · rw [h_r_nw, h_r_nw, if_neg e, if_neg (hB a ha), h4]
        exact (cr_mapx (h5 j) (cx_new (kd := kd) (n := n) (Q := Q) z)).symm
      · rw [h_r_nw, if_neg e] at h
        have := h5 j c h
        rw [h_k_nw, if_neg (hb c this)]
        exact this
  · rw [h_k_nw] at ha hc
    by_cases e1 : a = q
    · by_cases e2 : c = q
      · rw [e1, e2]
      · rw [if_neg e2] at hc
        rw [e1, hq, hu c hc] at e
        exact absurd e.symm (hB c hc)
    · rw [if_neg e1] at ha
      by_cases e2 : c = q
      · rw [e2, hq, hu a ha] at e
        exact absurd e (hB a ha)
      · rw [if_neg e2] at hc
        rw [hu a ha, hu c hc] at e
        exact hR.2.1 a c ha hc e
  · have h7 : h_k k 7 ≠ 0 := (cr_g hR).1
    exact ⟨by rw [h_k_nw, if_neg (hb 7 h7)]; exact hR.2.2.1.1, by rw [hu 7 h7]; exact hR.2.2.1.2⟩
  · obtain ⟨h1, h2, h3, h4, h5⟩ := hR.2.2.2 B hB2
    have hBQ : ¬ B = Q := fun e => hB2 (by rw [← h1, e]; exact Z)
    refine ⟨by rw [h_k_nw, if_neg hBQ]; exact h1, by rw [h_n_nw, if_neg hBQ]; exact h2, fun j => by rw [h_i_nw, if_neg hBQ]; exact h3 j, fun j => by rw [h_r_nw, if_neg hBQ]; exact h4 j, fun a ha => ?_⟩
    rw [h_k_nw] at ha
    by_cases e : a = q
    · rw [e, hq]; exact fun w => hBQ w.symm
    · rw [if_neg e] at ha
      rw [hu a ha]; exact h5 a ha
theorem ca_nw {q Q kd n : Nat} (hkd : kd ≠ 0) : c_at (c_up b q Q) (h_nw k q kd n) q Q := ⟨by rw [h_k_nw, if_pos rfl]; exact hkd, if_pos rfl⟩
theorem cr_cp (hR : c_R E g b k s) (h0 : c_at b k c A) {d D : Nat} (h : c_at b k d D) (sp dp n : Nat) : c_R E g b (h_cp k c sp d dp n) (h_cp s A sp D dp n) := by
  refine ⟨fun e he => ?_, hR.2.1, hR.2.2.1, fun B hB => ?_⟩
  rotate_left
  · obtain ⟨h1, h2, h3, h4, h5⟩ := hR.2.2.2 B hB
    refine ⟨h1, h2, fun j => ?_, h4, h5⟩
    show (if B = D then va_cpy (h_i s A) (h_i s D) sp dp n else h_i s B) j = _
    rw [if_neg (fun q => h5 d h.1 (h.2.trans q.symm))]
    exact h3 j
  obtain ⟨h1, h2, h3, h4, h5⟩ := hR.1 e he
  refine ⟨h1, h2, fun j => ?_, h4, h5⟩
  show (if b e = D then va_cpy (h_i s A) (h_i s D) sp dp n else h_i s (b e)) j = (if e = d then va_cpy (h_i k c) (h_i k d) sp dp n else h_i k e) j
  by_cases q : e = d
  · rw [if_pos q, if_pos ((cr_bA hR h he).mpr q), funext (cr_i hR h0), funext (cr_i hR h)]
  · rw [if_neg q, if_neg (fun w => q ((cr_bA hR h he).mp w))]
    exact h3 j
theorem cx_cp (sp : Nat) {d : Nat} (dp n : Nat) : c_ext b k b (h_cp k c sp d dp n) := fun _ _ => ⟨rfl, rfl⟩
theorem cr_cpyR (hR : c_R E g b k s) (h0 : c_at b k c A) {d D : Nat} (h : c_at b k d D) (sp dp n j : Nat) : va_cpy (h_r s A) (h_r s D) sp dp n j = (va_cpy (h_r k c) (h_r k d) sp dp n j).map b ∧ ∀ y, va_cpy (h_r k c) (h_r k d) sp dp n j = some y → h_k k y ≠ 0 := by
  unfold va_cpy
  split
  · exact ⟨(cr_r hR h0 _).1, (cr_r hR h0 _).2⟩
  · exact ⟨(cr_r hR h _).1, (cr_r hR h _).2⟩
theorem cr_cpR (hR : c_R E g b k s) (h0 : c_at b k c A) {d D : Nat} (h : c_at b k d D) (sp dp n : Nat) : c_R E g b (h_cpR k c sp d dp n) (h_cpR s A sp D dp n) := by
  refine ⟨fun e he => ?_, hR.2.1, hR.2.2.1, fun B hB => ?_⟩
  rotate_left
  · obtain ⟨h1, h2, h3, h4, h5⟩ := hR.2.2.2 B hB
    refine ⟨h1, h2, h3, fun j => ?_, h5⟩
    show (if B = D then va_cpy (h_r s A) (h_r s D) sp dp n else h_r s B) j = _
    rw [if_neg (fun q => h5 d h.1 (h.2.trans q.symm))]
    exact h4 j
  obtain ⟨h1, h2, h3, h4, h5⟩ := hR.1 e he
  refine ⟨h1, h2, h3, fun j => ?_, fun j y => ?_⟩
  · show (if b e = D then va_cpy (h_r s A) (h_r s D) sp dp n else h_r s (b e)) j = Option.map b ((if e = d then va_cpy (h_r k c) (h_r k d) sp dp n else h_r k e) j)
    by_cases q : e = d
    · rw [if_pos q, if_pos ((cr_bA hR h he).mpr q)]
      exact (cr_cpyR hR h0 h sp dp n j).1
    · rw [if_neg q, if_neg (fun w => q ((cr_bA hR h he).mp w))]
      exact h4 j
  · show (if e = d then va_cpy (h_r k c) (h_r k d) sp dp n else h_r k e) j = some y → _
    by_cases q : e = d
    · rw [if_pos q]
      exact (cr_cpyR hR h0 h sp dp n j).2 y
    · rw [if_neg q]
      exact h5 j y
theorem cx_cpR (sp : Nat) {d : Nat} (dp n : Nat) : c_ext b k b (h_cpR k c sp d dp n) := fun _ _ => ⟨rfl, rfl⟩
theorem cx_cl {q Q : Nat} (z : h_k k q = 0) : c_ext b k (c_up b q Q) (h_cl k q a) := fun e h => by
  have hq : ¬ e = q := fun w => h (by rw [w]; exact z)
  exact ⟨by show (if e = q then 1 else h_k k e) = _; rw [if_neg hq], by show (if e = q then Q else b e) = _; rw [if_neg hq]⟩
theorem ca_cl {q Q : Nat} : c_at (c_up b q Q) (h_cl k q a) q Q := ⟨by show (if q = q then 1 else h_k k q) ≠ 0; rw [if_pos rfl]; decide, if_pos rfl⟩
theorem cr_cl {q Q : Nat} (hR : c_R E g b k s) (h : c_at b k a A) (z : h_k k q = 0) (Z : h_k s Q = 0) : c_R E g (c_up b q Q) (h_cl k q a) (h_cl s Q A) := by
  have hb : ∀ a, h_k k a ≠ 0 → ¬ a = q := fun a h e => h (by rw [e]; exact z)
  have hB : ∀ a, h_k k a ≠ 0 → ¬ b a = Q := fun a h e => h (by rw [← (hR.1 a h).1, e]; exact Z)
  have hu : ∀ a, h_k k a ≠ 0 → c_up b q Q a = b a := fun a h => if_neg (hb a h)
  have hq : c_up b q Q q = Q := if_pos rfl
  have hk : ∀ e, h_k (h_cl k q a) e = if e = q then 1 else h_k k e := fun _ => rfl
  refine ⟨fun e he => ?_, fun c d hc hd e => ?_, ?_, fun B hB2 => ?_⟩
  · rw [hk] at he
    by_cases w : e = q
    · subst w
      rw [hq]
      refine ⟨by show (if Q = Q then 1 else h_k s Q) = (if e = e then 1 else h_k k e); rw [if_pos rfl, if_pos rfl], by show (if Q = Q then h_n s A else h_n s Q) = (if e = e then h_n k a else h_n k e); rw [if_pos rfl, if_pos rfl]; exact cr_n hR h, fun j => ?_, fun j => ?_, fun j c => ?_⟩
      · show (if Q = Q then h_i s A else h_i s Q) j = (if e = e then h_i k a else h_i k e) j
        rw [if_pos rfl, if_pos rfl]; exact cr_i hR h j
      · show (if Q = Q then (fun _ => none) else h_r s Q) j = Option.map _ ((if e = e then (fun _ => none) else h_r k e) j)
        rw [if_pos rfl, if_pos rfl]; rfl
      · show (if e = e then (fun _ => none) else h_r k e) j = some c → _
        rw [if_pos rfl]; intro h; cases h
    · rw [if_neg w] at he
      obtain ⟨h1, h2, h3, h4, h5⟩ := hR.1 e he
      rw [hu e he]
      refine ⟨by show (if b e = Q then 1 else h_k s (b e)) = (if e = q then 1 else h_k k e); rw [if_neg w, if_neg (hB e he), h1], by show (if b e = Q then h_n s A else h_n s (b e)) = (if e = q then h_n k a else h_n k e); rw [if_neg w, if_neg (hB e he), h2], fun j => by show (if b e = Q then h_i s A else h_i s (b e)) j = (if e = q then h_i k a else h_i k e) j; rw [if_neg w, if_neg (hB e he), h3], fun j => ?_, fun j c => ?_⟩
      · show (if b e = Q then (fun _ => none) else h_r s (b e)) j = Option.map _ ((if e = q then (fun _ => none) else h_r k e) j)
        rw [if_neg w, if_neg (hB e he), h4]
        exact (cr_mapx (h5 j) (cx_cl (a := a) (Q := Q) z)).symm
      · show (if e = q then (fun _ => none) else h_r k e) j = some c → _
        rw [if_neg w]
        intro h
        have := h5 j c h
        rw [hk, if_neg (hb c this)]
        exact this
  · rw [hk] at hc hd
    by_cases e1 : c = q
    · by_cases e2 : d = q
      · rw [e1, e2]
      · rw [if_neg e2] at hd
        rw [e1, hq, hu d hd] at e
        exact absurd e.symm (hB d hd)
    · rw [if_neg e1] at hc
      by_cases e2 : d = q
      · rw [e2, hq, hu c hc] at e
        exact absurd e (hB c hc)
      · rw [if_neg e2] at hd
        rw [hu c hc, hu d hd] at e
        exact hR.2.1 c d hc hd e
  · have h7 : h_k k 7 ≠ 0 := (cr_g hR).1
    exact ⟨by rw [hk, if_neg (hb 7 h7)]; exact hR.2.2.1.1, by rw [hu 7 h7]; exact hR.2.2.1.2⟩
  · obtain ⟨h1, h2, h3, h4, h5⟩ := hR.2.2.2 B hB2
    have hBQ : ¬ B = Q := fun e => hB2 (by rw [← h1, e]; exact Z)
    refine ⟨by show (if B = Q then 1 else h_k s B) = _; rw [if_neg hBQ]; exact h1, by show (if B = Q then h_n s A else h_n s B) = _; rw [if_neg hBQ]; exact h2, fun j => by show (if B = Q then h_i s A else h_i s B) j = _; rw [if_neg hBQ]; exact h3 j, fun j => by show (if B = Q then (fun _ => none) else h_r s B) j = _; rw [if_neg hBQ]; exact h4 j, fun a ha => ?_⟩
    rw [hk] at ha
    by_cases e : a = q
    · rw [e, hq]; exact fun w => hBQ w.symm
    · rw [if_neg e] at ha
      rw [hu a ha]; exact h5 a ha
/-- new int[N][n] -/
theorem cr_mn {q Q n N : Nat} {p : Nat → Nat} {J : Nat → Nat} (hR : c_R E g b k s) (z : h_k k q = 0) (Z : h_k s Q = 0) (zp : ∀ i, i < N → h_k k (p i) = 0 ∧ p i ≠ q) (zJ : ∀ i, i < N → h_k s (J i) = 0 ∧ J i ≠ Q) (ip : ∀ i j, i < N → j < N → p i = p j → i = j) (iJ : ∀ i j, i < N → j < N → J i = J j → i = j) : ∀ m, m ≤ N → ∃ b2, c_R E g b2 (h_mn k q p n N m) (h_mn s Q J n N m) ∧ c_ext b k b2 (h_mn k q p n N m) ∧ c_at b2 (h_mn k q p n N m) q Q ∧ (∀ a, h_k (h_mn k q p n N m) a ≠ 0 → h_k k a ≠ 0 ∨ a = q ∨ ∃ i, i < m ∧ a = p i) ∧ (∀ a, h_k (h_mn s Q J n N m) a ≠ 0 → h_k s a ≠ 0 ∨ a = Q ∨ ∃ i, i < m ∧ a = J i) := by
  intro m
  induction m with
  | zero =>
    intro _
    refine ⟨c_up b q Q, cr_nw hR z Z (by decide), cx_new z, ca_nw (by decide), fun a h => ?_, fun a h => ?_⟩
    · have h : h_k (h_nw k q 8 N) a ≠ 0 := h
      rw [h_k_nw] at h
      by_cases e : a = q
      · exact Or.inr (Or.inl e)
      · rw [if_neg e] at h; exact Or.inl h
    · have h : h_k (h_nw s Q 8 N) a ≠ 0 := h
      rw [h_k_nw] at h
      by_cases e : a = Q
      · exact Or.inr (Or.inl e)
      · rw [if_neg e] at h; exact Or.inl h
  | succ m ih =>
    intro hm
    obtain ⟨b2, h1, h2, h3, h4, h5⟩ := ih (by omega)
    have z2 : h_k (h_mn k q p n N m) (p m) = 0 := by
      apply Classical.byContradiction
      intro h
      rcases h4 _ h with h | h | ⟨i, hi, h⟩
      · exact h (zp m (by omega)).1
      · exact (zp m (by omega)).2 h
      · have := ip m i (by omega) (by omega) h; omega
    have Z2 : h_k (h_mn s Q J n N m) (J m) = 0 := by
      apply Classical.byContradiction
      intro h
      rcases h5 _ h with h | h | ⟨i, hi, h⟩
      · exact h (zJ m (by omega)).1
      · exact (zJ m (by omega)).2 h
      · have := iJ m i (by omega) (by omega) h; omega
    have hR2 := cr_nw (n := n) h1 z2 Z2 (show 1 ≠ 0 by decide)
    have x2 : c_ext b2 _ _ _ := cx_new (b := b2) (k := h_mn k q p n N m) (q := p m) (Q := J m) (kd := 1) (n := n) z2
    refine ⟨c_up b2 (p m) (J m), cr_sr hR2 (cr_atx h3 x2) m (cr_some (ca_nw (by decide))), cr_xt h2 (cr_xt x2 (cx_sr m)), cr_atx (cr_atx h3 x2) (cx_sr m), fun a h => ?_, fun a h => ?_⟩
    · have h : h_k (h_nw (h_mn k q p n N m) (p m) 1 n) a ≠ 0 := h
      rw [h_k_nw] at h
      by_cases e : a = p m
      · exact Or.inr (Or.inr ⟨m, by omega, e⟩)
      · rw [if_neg e] at h
        rcases h4 _ h with h | h | ⟨i, hi, h⟩
        · exact Or.inl h
        · exact Or.inr (Or.inl h)
        · exact Or.inr (Or.inr ⟨i, by omega, h⟩)
    · have h : h_k (h_nw (h_mn s Q J n N m) (J m) 1 n) a ≠ 0 := h
      rw [h_k_nw] at h
      by_cases e : a = J m
      · exact Or.inr (Or.inr ⟨m, by omega, e⟩)
      · rw [if_neg e] at h
        rcases h5 _ h with h | h | ⟨i, hi, h⟩
        · exact Or.inl h
        · exact Or.inr (Or.inl h)
        · exact Or.inr (Or.inr ⟨i, by omega, h⟩)
/-! the fixed objects -/
theorem cf_frk : ∀ x ∈ ([(0, 2, 1), (0, 3, 2), (0, 4, 3), (0, 5, 4), (0, 6, 5), (0, 7, 6), (0, 8, 8), (0, 9, 9), (0, 10, 10), (0, 11, 11), (0, 13, 12), (0, 14, 13), (0, 16, 14), (3, 1, 15), (3, 2, 16), (3, 3, 17), (3, 4, 18), (3, 5, 19), (3, 6, 20), (3, 7, 21), (3, 8, 27), (3, 10, 28), (3, 12, 29), (9, 0, 52), (9, 1, 53), (9, 2, 54), (9, 3, 55), (10, 0, 30), (10, 1, 33), (10, 2, 34), (10, 3, 35), (10, 5, 36), (10, 6, 39), (10, 7, 40), (10, 8, 43), (10, 9, 46), (10, 10, 47), (10, 12, 48), (10, 13, 49), (10, 14, 50), (21, 0, 22), (21, 1, 23), (21, 2, 24), (21, 3, 25), (21, 4, 26), (30, 0, 31), (30, 1, 32), (36, 0, 37), (36, 1, 38), (40, 0, 41), (40, 1, 42), (43, 0, 44), (43, 1, 45), (52, 2, 56), (53, 2, 57), (54, 2, 58), (55, 2, 59)] : List (Nat × Nat × Nat)), c_fk x.1 ≠ 0 ∧ c_nf (c_fk x.1) = false := by decide +kernel
theorem cf_frk2 {a j y : Nat} (h : c_fr a j = some y) : c_fk a ≠ 0 ∧ c_nf (c_fk a) = false := by
  unfold c_fr at h
  obtain ⟨x, h1, h2⟩ := Option.map_eq_some_iff.mp h
  have h3 := List.find?_some h1
  have h4 := cf_frk x (List.mem_of_find?_eq_some h1)
  simp at h3
  rw [h3.1] at h4
  exact h4
theorem cf_k {kd : Nat} (hF : c_F k) (e : c_fk a = kd) (h : kd ≠ 0) : h_k k a = kd := by rw [← e] at h ⊢; exact (hF.1 a h).1
theorem cf_n {kd n : Nat} (hF : c_F k) (e : c_fk a = kd) (h : kd ≠ 0) (e2 : c_fn a = n) : h_n k a = n := by rw [← e] at h; rw [← e2]; exact (hF.1 a h).2
theorem cf_r {j y : Nat} (hF : c_F k) (e : c_fr a j = some y) : h_r k a j = some y := hF.2.1 a j y e
theorem cf_si (hF : c_F k) (j : Nat) (v : Int32) : c_F (h_si k a j v) := hF
theorem cf_cp (hF : c_F k) (sp : Nat) {d : Nat} (dp n : Nat) : c_F (h_cp k a sp d dp n) := hF
theorem cf_sr {kd : Nat} (hF : c_F k) (h : h_k k a = kd) (hn : c_nf kd = true) (j : Nat) : c_F (h_sr k a j r) := by
  refine ⟨hF.1, fun c i y e => ?_, hF.2.2⟩
  have h1 := cf_frk2 e
  have : ¬ (c = a ∧ i = j) := fun q => by
    have h2 := (hF.1 c h1.1).1
    rw [q.1, h] at h2
    rw [q.1, ← h2, hn] at h1
    exact absurd h1.2 (by decide)
  rw [h_r_sr, if_neg this]
  exact hF.2.1 c i y e
theorem cf_cpR {d : Nat} (hF : c_F k) (h : h_k k d = 7) (sp dp n : Nat) : c_F (h_cpR k a sp d dp n) := by
  refine ⟨hF.1, fun c i y e => ?_, hF.2.2⟩
  have h1 := cf_frk2 e
  have : ¬ c = d := fun q => by
    have h2 := (hF.1 c h1.1).1
    rw [q, h] at h2
    rw [q, ← h2] at h1
    exact absurd h1.2 (by decide)
  rw [h_r_cpR2 _ _ _ _ _ this]
  exact hF.2.1 c i y e
theorem cf_z {q t : Nat} (hF : c_F k) (e : q = c_ad t k) : h_k k q = 0 := hF.2.2 q (by rw [e]; unfold c_ad; omega)
theorem cf_nw {q t kd n : Nat} (hF : c_F k) (e : q = c_ad t k) (ht : t < 16) : c_F (h_nw k q kd n) := by
  have z := cf_z hF e
  have hb : ∀ a, c_fk a ≠ 0 → ¬ a = q := fun a h w => h (by rw [← (hF.1 a h).1, w]; exact z)
  refine ⟨fun a h => by rw [h_k_nw, h_n_nw, if_neg (hb a h), if_neg (hb a h)]; exact hF.1 a h, fun a j y h => ?_, fun a h => ?_⟩
  · rw [h_r_nw, if_neg (hb a (cf_frk2 h).1)]
    exact hF.2.1 a j y h
  · have h : 128 + 16 * (k.1 ++ [q]).length ≤ a := h
    rw [List.length_append] at h
    have : ¬ a = q := fun w => by rw [w, e] at h; unfold c_ad at h; simp at h; omega
    rw [h_k_nw, if_neg this]
    exact hF.2.2 a (by simp at h; omega)
theorem cf_cl {q t : Nat} (hF : c_F k) (e : q = c_ad t k) (ht : t < 16) : c_F (h_cl k q a) := by
  have z := cf_z hF e
  have hb : ∀ a, c_fk a ≠ 0 → ¬ a = q := fun a h w => h (by rw [← (hF.1 a h).1, w]; exact z)
  refine ⟨fun c h => ?_, fun c j y h => ?_, fun c h => ?_⟩
  · show (if c = q then 1 else h_k k c) = _ ∧ (if c = q then h_n k a else h_n k c) = _
    rw [if_neg (hb c h), if_neg (hb c h)]; exact hF.1 c h
  · show (if c = q then (fun _ => none) else h_r k c) j = _
    rw [if_neg (hb c (cf_frk2 h).1)]
    exact hF.2.1 c j y h
  · have h : 128 + 16 * (k.1 ++ [q]).length ≤ c := h
    rw [List.length_append] at h
    have : ¬ c = q := fun w => by rw [w, e] at h; unfold c_ad at h; simp at h; omega
    show (if c = q then 1 else h_k k c) = 0
    rw [if_neg this]
    exact hF.2.2 c (by simp at h; omega)
end CR
