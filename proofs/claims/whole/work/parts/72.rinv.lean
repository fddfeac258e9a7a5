/-! THE REFERENCE's STATE AGAINST WHAT BOTH SPEAK OF -/
/-- arrays that last, place for place -/
def rla (k : Nat) : Bool := ([2, 9, 23, 24, 25, 26, 27, 56, 57, 58, 59, 75, 78, 81, 82, 83, 84, 85, 86, 90, 91, 92, 93, 94, 95, 96, 97, 104, 110, 111, 112] : List Nat).contains k
def RN (t : r_T) (s : sA) : Prop := t.1 1 = nI (sC s 0) ∧ t.1 3 = nI (sC s 1) ∧ t.1 8 = nI (sC s 2) ∧ t.1 22 = nI (sC s 3) ∧ t.1 55 = nI (sC s 4) ∧ t.1 80 = nI (sC s 5) ∧ t.1 89 = nI (sC s 6) ∧ t.1 74 = nI (sC s 7) ∧ t.1 105 = nI (sC s 8) ∧ t.1 0 = sN s 0 ∧ t.1 114 = sN s 1 ∧ t.1 102 = sN s 2 ∧ t.1 103 = sN s 3
def RF (t : r_T) (s : sA) : Prop := ∀ k, rla k = true → ∀ i, t.2 k i = sF s k i
def RH (t : r_T) (s : sA) : Prop := ∀ i, i < sC s 8 → t.2 106 i = sF s 106 i ∧ t.2 107 i = sF s 107 i ∧ t.2 108 i = sF s 108 i
/-- which hands the group g held as of m, by the first k rows -/
def r_grp (t : r_T) (g m : Int32) : Nat → Int32
  | 0 => 0
  | k + 1 => if t.2 5 k = g ∧ t.2 7 k ≤ m then t.2 6 k else r_grp t g m k
def RG (t : r_T) (s : sA) : Prop := ∃ n, n ≤ sC s 0 ∧ t.1 4 = nI n ∧ ∀ g, g < 4 → ∀ m, m < 2 ^ 31 → sG s g m = r_grp t (nI g) (nI m) n
/-- the newest log from x back that stood as of m -/
def r_log (t : r_T) (m : Int32) : Nat → Int32 → Int32
  | 0, _ => -1
  | n + 1, x => if x < 0 then x else if t.2 13 (h_ix x) ≤ m then x else r_log t m n (t.2 12 (h_ix x))
def r_pc (t : r_T) (x : Nat) : sP := (t.2 17 x, t.2 18 x, t.2 19 x, t.2 20 x, t.2 21 x)
def r_row (t : r_T) (x : Int32) : List sP := if x < 0 then [] else (List.range (h_ix (t.2 15 (h_ix x)))).map (fun i => r_pc t (h_ix (t.2 14 (h_ix x)) + i))
/-- a log's number below l, or none -/
def r_lg (x : Int32) (l : Nat) : Prop := x = -1 ∨ ∃ y, y < l ∧ x = nI y
def RW (t : r_T) (s : sA) : Prop := ∃ L P, L ≤ sC s 0 ∧ P ≤ 24 * L ∧ t.1 10 = nI L ∧ t.1 16 = nI P ∧ (∀ w, w < 12 → r_lg (t.2 11 w) L) ∧ (∀ l, l < L → r_lg (t.2 12 l) l ∧ ∃ a n, t.2 14 l = nI a ∧ t.2 15 l = nI n ∧ n ≤ 24 ∧ a + n ≤ P) ∧ ∀ w, w < 12 → ∀ m, m < 2 ^ 31 → sR s w m = r_row t (r_log t (nI m) 1200 (t.2 11 w))
def RK (t : r_T) (s : sA) : Prop := ∀ c, c < sC s 7 → t.2 76 c = nI (sK s c).1.length ∧ t.2 77 c = nI (sK s c).2.length ∧ ∀ j x, ((sK s c).1 ++ (sK s c).2)[j]? = some x → t.2 79 (600 * c + j) = x
def RA (t : r_T) (s : sA) : Prop := RN t s ∧ RF t s ∧ RH t s ∧ RG t s ∧ RW t s ∧ RK t s
/-- fields that an act of reading may use as it likes -/
def rsc (k : Nat) : Bool := !rla k && !(([0, 1, 3, 8, 22, 55, 80, 89, 74, 105, 114, 102, 103, 4, 5, 6, 7, 10, 11, 12, 13, 14, 15, 16, 17, 18, 19, 20, 21, 76, 77, 79, 106, 107, 108] : List Nat).contains k)
/-- t2 differs from t in fields of the list alone -/
def r_fr (S : List Nat) (t t2 : r_T) : Prop := (∀ k, k ∉ S → t2.1 k = t.1 k) ∧ (∀ k, k ∉ S → t2.2 k = t.2 k)
section RI
variable {t t2 t3 : r_T} {s : sA} {S : List Nat}
theorem r_fr0 : r_fr S t t := ⟨fun _ _ => rfl, fun _ _ => rfl⟩
theorem r_frt (h : r_fr S t t2) (h2 : r_fr S t2 t3) : r_fr S t t3 := ⟨fun k hk => (h2.1 k hk).trans (h.1 k hk), fun k hk => (h2.2 k hk).trans (h.2 k hk)⟩
theorem r_frF {k : Nat} {v : Int32} (h : k ∈ S) : r_fr S t (rt_F t k v) := ⟨fun j hj => by rw [rt_FF, if_neg (fun e => hj (by rw [e]; exact h))], fun _ _ => rfl⟩
theorem r_frA {k i : Nat} {v : Int32} (h : k ∈ S) : r_fr S t (rt_A t k i v) := ⟨fun _ _ => rfl, fun j hj => by
  show (if j = k then (fun x => if x = i then v else t.2 j x) else t.2 j) = t.2 j
  rw [if_neg (fun e => hj (by rw [e]; exact h))]⟩
theorem r_frS {S2 : List Nat} (h : r_fr S t t2) (hs : ∀ k, k ∈ S → k ∈ S2) : r_fr S2 t t2 := ⟨fun k hk => h.1 k (fun q => hk (hs k q)), fun k hk => h.2 k (fun q => hk (hs k q))⟩
theorem r_grp_c {g m : Int32} (h5 : t2.2 5 = t.2 5) (h6 : t2.2 6 = t.2 6) (h7 : t2.2 7 = t.2 7) : ∀ n, r_grp t2 g m n = r_grp t g m n := by
  intro n
  induction n with
  | zero => rfl
  | succ n ih => unfold r_grp; rw [h5, h6, h7, ih]
theorem r_log_c {m : Int32} (h12 : t2.2 12 = t.2 12) (h13 : t2.2 13 = t.2 13) : ∀ n x, r_log t2 m n x = r_log t m n x := by
  intro n
  induction n with
  | zero => intro _; rfl
  | succ n ih => intro x; unfold r_log; rw [h12, h13, ih]
theorem r_row_c (h14 : t2.2 14 = t.2 14) (h15 : t2.2 15 = t.2 15) (h17 : t2.2 17 = t.2 17) (h18 : t2.2 18 = t.2 18) (h19 : t2.2 19 = t.2 19) (h20 : t2.2 20 = t.2 20) (h21 : t2.2 21 = t.2 21) (x : Int32) : r_row t2 x = r_row t x := by
  unfold r_row r_pc
  rw [h14, h15, h17, h18, h19, h20, h21]
theorem RG_c {s2 : sA} (h : RG t s) (hs : sG s2 = sG s) (hc : sC s 0 ≤ sC s2 0) (h4 : t2.1 4 = t.1 4) (h5 : t2.2 5 = t.2 5) (h6 : t2.2 6 = t.2 6) (h7 : t2.2 7 = t.2 7) : RG t2 s2 := by
  obtain ⟨n, h1, h2, h3⟩ := h
  exact ⟨n, Nat.le_trans h1 hc, h4.trans h2, fun g hg m hm => by rw [hs, r_grp_c h5 h6 h7]; exact h3 g hg m hm⟩
theorem RW_c {s2 : sA} (h : RW t s) (hs : sR s2 = sR s) (hc : sC s 0 ≤ sC s2 0) (h10 : t2.1 10 = t.1 10) (h16 : t2.1 16 = t.1 16) (h11 : t2.2 11 = t.2 11) (h12 : t2.2 12 = t.2 12) (h13 : t2.2 13 = t.2 13) (h14 : t2.2 14 = t.2 14) (h15 : t2.2 15 = t.2 15) (h17 : t2.2 17 = t.2 17) (h18 : t2.2 18 = t.2 18) (h19 : t2.2 19 = t.2 19) (h20 : t2.2 20 = t.2 20) (h21 : t2.2 21 = t.2 21) : RW t2 s2 := by
  obtain ⟨L, P, a1, a2, a3, a4, a5, a6, a7⟩ := h
  refine ⟨L, P, Nat.le_trans a1 hc, a2, h10.trans a3, h16.trans a4, by rw [h11]; exact a5, by rw [h12, h14, h15]; exact a6, fun w hw m hm => ?_⟩
  rw [hs, h11, r_log_c h12 h13, r_row_c h14 h15 h17 h18 h19 h20 h21]
  exact a7 w hw m hm
theorem RK_c {s2 : sA} (h : RK t s) (hs : sK s2 = sK s) (hc : sC s2 7 = sC s 7) (h76 : t2.2 76 = t.2 76) (h77 : t2.2 77 = t.2 77) (h79 : t2.2 79 = t.2 79) : RK t2 s2 := by
  unfold RK at *
  rw [hs, hc, h76, h77, h79]
  exact h
theorem RH_c {s2 : sA} (h : RH t s) (hc : sC s2 8 = sC s 8) (h106 : t2.2 106 = t.2 106) (h107 : t2.2 107 = t.2 107) (h108 : t2.2 108 = t.2 108) (e1 : sF s2 106 = sF s 106) (e2 : sF s2 107 = sF s 107) (e3 : sF s2 108 = sF s 108) : RH t2 s2 := by
  unfold RH at *
  rw [hc, h106, h107, h108, e1, e2, e3]
  exact h
/-- what is used as one likes doesn't matter -/
theorem RA_fr (h : RA t s) (f : r_fr S t t2) (hs : ∀ k, k ∈ S → rsc k = true) : RA t2 s := by
  have n : ∀ k, rsc k = false → k ∉ S := fun k hk hm => by rw [hs k hm] at hk; exact absurd hk (by decide)
  have e1 : ∀ k, rsc k = false → t2.1 k = t.1 k := fun k hk => f.1 k (n k hk)
  have e2 : ∀ k, rsc k = false → t2.2 k = t.2 k := fun k hk => f.2 k (n k hk)
  obtain ⟨h1, h2, h3, h4, h5, h6⟩ := h
  refine ⟨?_, fun k hk i => ?_, ?_, ?_, ?_, ?_⟩
  · unfold RN at *
    rw [e1 1 rfl, e1 3 rfl, e1 8 rfl, e1 22 rfl, e1 55 rfl, e1 80 rfl, e1 89 rfl, e1 74 rfl, e1 105 rfl, e1 0 rfl, e1 114 rfl, e1 102 rfl, e1 103 rfl]
    exact h1
  · rw [e2 k (by unfold rsc; rw [hk]; rfl)]
    exact h2 k hk i
  · unfold RH at *
    rw [e2 106 rfl, e2 107 rfl, e2 108 rfl]
    exact h3
  · exact RG_c h4 rfl (Nat.le_refl _) (e1 4 rfl) (e2 5 rfl) (e2 6 rfl) (e2 7 rfl)
  · exact RW_c h5 rfl (Nat.le_refl _) (e1 10 rfl) (e1 16 rfl) (e2 11 rfl) (e2 12 rfl) (e2 13 rfl) (e2 14 rfl) (e2 15 rfl) (e2 17 rfl) (e2 18 rfl) (e2 19 rfl) (e2 20 rfl) (e2 21 rfl)
  · unfold RK at *
    rw [e2 76 rfl, e2 77 rfl, e2 79 rfl]
    exact h6
theorem RF_A {k i : Nat} {v : Int32} (h : RF t s) : RF (rt_A t k i v) (uF s k i v) := fun j hj x => by
  rw [rt_AA, sF_uF, h j hj x]
/-- a step that leaves groups, rows, clashes' words, hits as they are -/
theorem RA_up {s2 : sA} (h : RA t s) (n : RN t2 s2) (f : RF t2 s2) (h8 : sC s2 8 = sC s 8) (h7 : sC s2 7 = sC s 7) (h0 : sC s 0 ≤ sC s2 0) (g : sG s2 = sG s) (r : sR s2 = sR s) (k : sK s2 = sK s) (e106 : sF s2 106 = sF s 106) (e107 : sF s2 107 = sF s 107) (e108 : sF s2 108 = sF s 108) (a4 : t2.1 4 = t.1 4) (a10 : t2.1 10 = t.1 10) (a16 : t2.1 16 = t.1 16) (e : ∀ x, x ∈ ([5, 6, 7, 11, 12, 13, 14, 15, 17, 18, 19, 20, 21, 76, 77, 79, 106, 107, 108] : List Nat) → t2.2 x = t.2 x) : RA t2 s2 := by
  obtain ⟨_, _, b3, b4, b5, b6⟩ := h
  exact ⟨n, f, RH_c b3 h8 (e _ (by decide)) (e _ (by decide)) (e _ (by decide)) e106 e107 e108, RG_c b4 g h0 a4 (e _ (by decide)) (e _ (by decide)) (e _ (by decide)), RW_c b5 r h0 a10 a16 (e _ (by decide)) (e _ (by decide)) (e _ (by decide)) (e _ (by decide)) (e _ (by decide)) (e _ (by decide)) (e _ (by decide)) (e _ (by decide)) (e _ (by decide)) (e _ (by decide)), RK_c b6 k h7 (e _ (by decide)) (e _ (by decide)) (e _ (by decide))⟩
theorem RF_F {k : Nat} {v : Int32} (h : RF t s) : RF (rt_F t k v) s := h
/-- a count grows: of 1 (now), 3 .. -/
theorem rs_act (h : RA t s) (x : Int32) : RA (rt_A (rt_F t 1 (nI (sC s 0 + 1))) 2 (sC s 0 + 1) (q_mix (sF s 2 (sC s 0)) x)) (s_act s x) := by
  obtain ⟨h1, h2, h3, h4, h5, h6⟩ := h
  refine ⟨?_, RF_A h2, ?_, ?_, ?_, ?_⟩
  · unfold RN at *
    simp only [s_act, rt_AF, rt_FF, sC_uF, sC_uC, sN_uF, sN_uC]
    simp [h1]
  · intro i hi
    exact h3 i hi
  · exact RG_c h4 rfl (show sC s 0 ≤ sC s 0 + 1 by omega) rfl rfl rfl rfl
  · exact RW_c h5 rfl (show sC s 0 ≤ sC s 0 + 1 by omega) rfl rfl rfl rfl rfl rfl rfl rfl rfl rfl rfl rfl
  · exact h6
end RI
