/-! the start, and the law as a whole -/
def s_0 : sA := ((fun _ => 0), (fun j => if j = 2 then 10 else if j = 3 then 3 else 0), t_0.2, (fun _ _ => 0), (fun _ _ => []), (fun _ => ([], [])))
def y_0 : c_Y := ((fun _ => 7), (fun _ _ => 0), (fun _ => 0), (fun _ => 0), (fun _ => 0), (fun _ => []))
section STa
theorem RA_0 : RA t_0 s_0 := by
  refine ⟨⟨rfl, rfl, rfl, rfl, rfl, rfl, rfl, rfl, rfl, rfl, rfl, rfl, rfl⟩, fun k _ i => rfl, fun i hi => absurd hi (Nat.not_lt_zero _), ⟨0, Nat.le_refl _, rfl, fun g _ m _ => rfl⟩, ⟨0, 0, Nat.le_refl _, Nat.le_refl _, rfl, rfl, fun w hw => Or.inl ?_, fun l hl => absurd hl (Nat.not_lt_zero _), fun w hw m hm => ?_⟩, fun c hc => absurd hc (Nat.not_lt_zero _)⟩
  · show (if 0 ≤ w ∧ w < 12 then (-1 : Int32) else 0) = -1
    rw [if_pos ⟨Nat.zero_le _, hw⟩]
  · have e : t_0.2 11 w = -1 := by
      show (if 0 ≤ w ∧ w < 12 then (-1 : Int32) else 0) = -1
      rw [if_pos ⟨Nat.zero_le _, hw⟩]
    rw [e]
    show ([] : List sP) = r_row t_0 (r_log t_0 (nI m) (1199 + 1) (-1))
    unfold r_log
    rw [if_pos (by decide)]
    unfold r_row
    rw [if_pos (by decide)]
theorem IV_0 : IV s_0 := by
  refine ⟨⟨by decide, by decide, by decide, by decide, by decide, by decide, by decide, by decide, by decide⟩, ⟨fun _ _ _ => rfl, fun _ _ _ => rfl⟩, ⟨fun k hk => Or.inl ?_, fun i hi => absurd hi (Nat.not_lt_zero _), ⟨⟨10, by decide, rfl⟩, ⟨3, by decide, rfl⟩⟩, fun l hl => absurd hl (Nat.not_lt_zero _)⟩, ⟨fun w hw => absurd hw (Nat.not_lt_zero _), fun x hx => absurd hx (Nat.not_lt_zero _)⟩, fun i hi => absurd hi (Nat.not_lt_zero _), ⟨fun w m => ⟨Nat.zero_le _, fun p hp => by cases hp⟩, fun w m _ => rfl⟩, fun i hi => absurd hi (Nat.not_lt_zero _), ⟨fun c hc => absurd hc (Nat.not_lt_zero _), fun i _ => rfl⟩⟩
  show (if 0 ≤ k ∧ k < 4 then (-1 : Int32) else 0) = -1
  rw [if_pos ⟨Nat.zero_le _, hk⟩]
theorem z_sum_k (c : Nat) : ∀ n, z_sum (fun _ => c) n = n * c := by
  intro n
  induction n with
  | zero => rw [Nat.zero_mul]; rfl
  | succ n ih => unfold z_sum; rw [ih, Nat.succ_mul]
theorem zC_0 : zC y_0 = 310272 ∧ zD y_0 = 924672 := by
  constructor
  · show z_sum (fun _ => 303) 1024 = _
    rw [z_sum_k]
  · show z_sum (fun _ => 903) 1024 = _
    rw [z_sum_k]
theorem c_fk_lt {a : Nat} (h : c_fk a ≠ 0) : a < 60 := by
  rcases Nat.lt_or_ge a 60 with h1 | h1
  · exact h1
  · exfalso
    apply h
    unfold c_fk
    rw [List.getD_eq_getElem?_getD, List.getElem?_eq_none (by simpa using h1)]
    rfl
theorem cf_fr20 : ∀ x ∈ ([(0, 2, 1), (0, 3, 2), (0, 4, 3), (0, 5, 4), (0, 6, 5), (0, 7, 6), (0, 8, 8), (0, 9, 9), (0, 10, 10), (0, 11, 11), (0, 13, 12), (0, 14, 13), (0, 16, 14), (3, 1, 15), (3, 2, 16), (3, 3, 17), (3, 4, 18), (3, 5, 19), (3, 6, 20), (3, 7, 21), (3, 8, 27), (3, 10, 28), (3, 12, 29), (9, 0, 52), (9, 1, 53), (9, 2, 54), (9, 3, 55), (10, 0, 30), (10, 1, 33), (10, 2, 34), (10, 3, 35), (10, 5, 36), (10, 6, 39), (10, 7, 40), (10, 8, 43), (10, 9, 46), (10, 10, 47), (10, 12, 48), (10, 13, 49), (10, 14, 50), (21, 0, 22), (21, 1, 23), (21, 2, 24), (21, 3, 25), (21, 4, 26), (30, 0, 31), (30, 1, 32), (36, 0, 37), (36, 1, 38), (40, 0, 41), (40, 1, 42), (43, 0, 44), (43, 1, 45), (52, 2, 56), (53, 2, 57), (54, 2, 58), (55, 2, 59)] : List (Nat × Nat × Nat)), x.2.1 < 20 := by decide
theorem c_fr_j {a j y : Nat} (h : c_fr a j = some y) : j < 20 := by
  unfold c_fr at h
  obtain ⟨x, h1, h2⟩ := Option.map_eq_some_iff.mp h
  have h3 := List.find?_some h1
  have h4 := cf_fr20 x (List.mem_of_find?_eq_some h1)
  simp at h3
  rw [h3.2] at h4
  exact h4
theorem CB_0 {t : h_S} (F1 : ∀ a, a < 60 → h_k t a = c_fk a ∧ (c_fk a ≠ 0 → h_n t a = c_fn a)) (F2 : ∀ a, a < 60 → ∀ j, j < 20 → c_fr a j ≠ none → h_r t a j = c_fr a j) (F3 : ∀ a, 60 ≤ a → h_k t a = 0) (F4 : ∀ j, j < 19 → h_i t 0 j = if j = 12 then 1003 else 0) (F5 : h_i t 3 0 = 0 ∧ h_i t 1 0 = 0 ∧ h_i t 2 0 = 0) (F6 : ∀ i, i < 64 → h_i t 11 i = 0) (F7 : ∀ L, L ∈ ([4, 5, 6, 8, 18] : List Nat) → h_i t L 2 = 0 ∧ h_r t L 1 = some 7) (F8 : ∀ i, i < 8 → h_i t 19 i = 0) (F9 : ∀ q, q < 4 → h_i t (52 + q) 0 = 0 ∧ h_i t (52 + q) 1 = -1) (F10 : ∀ i, i < 1024 → h_r t 20 i = none) : CB t s_0 y_0 := by
  have cl : ∀ L, L ∈ ([4, 5, 6, 8, 18] : List Nat) → CL t L 0 7 (fun _ => 0) := fun L hL => ⟨(F7 L hL).1, (F7 L hL).2, Or.inl ⟨rfl, rfl⟩⟩
  refine ⟨⟨fun a ha => ?_, fun a j r e => ?_, fun a ha => F3 a (by omega)⟩, ⟨?_, ?_, F5.1, ?_, ?_, ?_, ?_⟩, ⟨fun i hi => ?_, fun i hi => absurd hi (Nat.not_lt_zero _), fun i hi => F6 i hi⟩, fun g hg m hm => ?_, ⟨cl 4 (by decide), cl 5 (by decide), cl 6 (by decide), cl 8 (by decide), cl 18 (by decide), fun L M _ _ _ h => absurd rfl h⟩, ⟨fun i hi => absurd hi (Nat.not_lt_zero _), fun h hh => F8 h hh⟩, ⟨fun i hi => absurd hi (Nat.not_lt_zero _), fun i j hi => absurd hi (Nat.not_lt_zero _)⟩, ⟨fun i hi => absurd hi (Nat.not_lt_zero _), fun i j hi => absurd hi (Nat.not_lt_zero _)⟩, fun i hi => absurd hi (Nat.not_lt_zero _), ⟨fun i hi => absurd hi (Nat.not_lt_zero _), fun i j hi => absurd hi (Nat.not_lt_zero _)⟩, fun q hq => ?_, fun i hi => absurd hi (Nat.not_lt_zero _), fun w hw => absurd hw (Nat.not_lt_zero _), ⟨fun i hi => Or.inl ⟨rfl, F10 i hi⟩, fun i j _ _ h => absurd rfl h⟩⟩
  · have h1 := c_fk_lt ha
    exact ⟨(F1 a h1).1, (F1 a h1).2 ha⟩
  · have h1 := c_fk_lt (cf_frk2 e).1
    rw [F2 a h1 j (c_fr_j e) (by rw [e]; simp), e]
  · exact F4 0 (by decide)
  · exact F4 1 (by decide)
  · exact F4 15 (by decide)
  · exact F4 18 (by decide)
  · exact F4 17 (by decide)
  · rw [F4 12 (by decide), if_pos rfl]; rfl
  · have e : i = 0 := Nat.le_zero.mp hi
    rw [e, F5.2.1]; rfl
  · have e : m = 0 := Nat.le_zero.mp hm
    rw [e, F5.2.2]
    show h_ushr 0 (nI (8 * g)) &&& 255 = 0
    rcases (show g = 0 ∨ g = 1 ∨ g = 2 ∨ g = 3 by omega) with rfl | rfl | rfl | rfl <;> decide
  · obtain ⟨q1, q2⟩ := F9 q hq
    have e1 : sF s_0 110 q = -1 := by
      show (if 0 ≤ q ∧ q < 4 then (-1 : Int32) else 0) = -1
      rw [if_pos ⟨Nat.zero_le _, hq⟩]
    refine ⟨q1, by rw [e1]; exact q2, fun i hi => ?_⟩
    rw [e1] at hi
    have e2 : (-1 : Int32).toInt = -1 := rfl
    omega
/-- a new object apart leaves the class's part -/
theorem cR_nw {g : h_G} {b : Nat → Nat} {k S : h_S} {q kd n : Nat} (h : c_R c_Em g b k S) (hq : h_k S q = 0) : c_R c_Em g b k (h_nw S q kd n) ∧ ∀ a, h_k k a ≠ 0 → b a ≠ q := by
  have bq : ∀ a, h_k k a ≠ 0 → b a ≠ q := fun a ha e => ha (by rw [← (h.1 a ha).1, e]; exact hq)
  refine ⟨⟨fun a ha => ?_, h.2.1, h.2.2.1, fun A hA => absurd rfl hA⟩, bq⟩
  obtain ⟨q1, q2, q3, q4, q5⟩ := h.1 a ha
  have nb := bq a ha
  exact ⟨by rw [h_k_nw, if_neg nb]; exact q1, by rw [h_n_nw, if_neg nb]; exact q2, fun i => by rw [h_i_nw, if_neg nb]; exact q3 i, fun i => by rw [h_r_nw, if_neg nb]; exact q4 i, q5⟩
/-- the heap at the law's start -/
def h_00 (g : h_G) : h_S := ([], (fun a => if a = g.1 then 19 else 0), (fun _ => 0), (fun _ _ => 0), (fun _ _ => none))
theorem cR_0 (g : h_G) : c_R c_Em g (fun _ => g.1) c_k0 (h_00 g) := by
  have h7 : ∀ a, h_k c_k0 a ≠ 0 → a = 7 := fun a ha => by
    rcases Nat.decEq a 7 with e | e
    · exact absurd (show (if a = 7 then 19 else 0) = 0 by rw [if_neg e]) ha
    · exact e
  refine ⟨fun a ha => ⟨?_, rfl, fun _ => rfl, fun _ => rfl, fun j c e => by cases e⟩, fun a c ha hc _ => by rw [h7 a ha, h7 c hc], ⟨rfl, rfl⟩, fun A hA => absurd rfl hA⟩
  rw [h7 a ha]
  show (if g.1 = g.1 then 19 else 0) = 19
  rw [if_pos rfl]
theorem pure_law0 (g : h_G) (b L : Nat) (xs : Nat → Int32) (hL : L ≤ 4608) : w_L_law g b L xs b (h_00 g) 600000 7302249 (fun _ _ => True) := by
  obtain ⟨t, C, D, e, ⟨hC, hD⟩, F1, F2, F3, F4, F5, F6, F7, F8, F9, F10⟩ := ex_init
  have hCB := CB_0 F1 F2 F3 F4 F5 F6 F7 F8 F9 F10
  refine ⟨by decide, by decide, fun q1 hq1 => ⟨C, D, by omega, by omega, ?_⟩⟩
  have R1 : c_R c_Em g (c_up (fun _ => g.1) 0 q1) c_k1 (h_nw (h_00 g) q1 32 19) := cr_nw (cR_0 g) (by decide) hq1 (by decide)
  have A1 : c_at (c_up (fun _ => g.1) 0 q1) c_k1 0 q1 := ca_nw (by decide)
  refine ft_X11_init R1 A1 e (fun b2 S2 x2 R2 => ?_) (Nat.le_refl _) (Nat.le_refl _)
  refine ⟨by omega, by omega, fun q2 hq2 => ⟨86, 266017, by omega, by omega, ?_⟩⟩
  obtain ⟨R3, nb⟩ := cR_nw (kd := 33) (n := 115) R2 hq2
  refine ri_init (g := g) (b := b2) (k := t) (ra := fun _ => 0) ⟨R3, by rw [h_k_nw, if_pos rfl], fun a ha => ⟨nb a ha, fun j hj => absurd hj List.not_mem_nil⟩, fun j hj => absurd hj List.not_mem_nil, fun i j hi => absurd hi List.not_mem_nil, fun i => by rw [h_i_nw, if_pos rfl]⟩ (Nat.le_refl _) (Nat.le_refl _) (fun S4 ra4 r1 r2 r3 => ⟨514, ?_⟩)
  obtain ⟨z1, z2⟩ := zC_0
  have hI : LI g q1 q2 0 (r_emb S4 q2 ra4 t_0) (600000 - 1 - C - 1 - 86) (7302249 - 19 - D - 115 - 266017) := by
    refine ⟨t, b2, ra4, t_0, s_0, y_0, r3, cr_atx A1 x2, r1, r2, hCB, RA_0, IV_0, Nat.le_refl _, ?_, ?_⟩
    · rw [z1]
      show 310272 + 40 * (512 - 0) + 2 * (500 - 0) + 3 * (12 - 0) ≤ _
      omega
    · rw [z2]
      show 924672 + 1400 * (512 - 0) + 1005 * (500 - 0) + 1604 * (12 - 0) ≤ _
      omega
  exact l_18 (n := 0) hL 512 0 _ _ _ (by omega) hI (by omega)
end STa
