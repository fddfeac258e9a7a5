/-! SHOWN in the class: slots that hold what has been laid out -/
/-- sums of room that slots may still take -/
def z_sum (f : Nat → Nat) : Nat → Nat
  | 0 => 0
  | n + 1 => z_sum f n + f n
theorem z_sum_c {f g : Nat → Nat} : ∀ n, (∀ i, i < n → f i = g i) → z_sum f n = z_sum g n := by
  intro n
  induction n with
  | zero => intro _; rfl
  | succ n ih => intro h; unfold z_sum; rw [ih (fun i hi => h i (by omega)), h n (by omega)]
theorem z_sum_up {f g : Nat → Nat} {j : Nat} : ∀ n, j < n → (∀ i, i < n → i ≠ j → f i = g i) → z_sum f n + g j = z_sum g n + f j := by
  intro n
  induction n with
  | zero => intro h _; omega
  | succ n ih =>
    intro h h2
    unfold z_sum
    by_cases e : j = n
    · subst e
      rw [z_sum_c j (fun i hi => h2 i (by omega) (by omega))]; omega
    · have := ih (by omega) (fun i hi => h2 i (by omega))
      rw [h2 n (by omega) (fun w => e w.symm)]; omega
/-- cells, and fields and elements, that a slot may still take (n: 0, or its room and one) -/
def z_c (n : Nat) : Nat := if n = 0 then 303 else 301 - n
def z_d (n : Nat) : Nat := if n = 0 then 903 else if 301 ≤ n then 0 else 902 - 2 * n
def zC (y : c_Y) : Nat := z_sum (fun i => z_c (yC y i)) 1024
def zD (y : c_Y) : Nat := z_sum (fun i => z_d (yC y i)) 1024
/-- the slots' ghosts anew -/
def y_sl (y : c_Y) (i a b c : Nat) : c_Y := (y.1, y.2.1, (fun j => if j = i then a else yS y j), (fun j => if j = i then b else yB y j), (fun j => if j = i then c else yC y j), y.2.2.2.2.2)
/-- fixed places that showing with f levels left leaves alone -/
def c_fxS (f : Nat) : List Nat := (List.range 60).filter (fun a => a != 20 && !(decide (26 - f ≤ a) && decide (a ≤ 26)))
def c_tgS : List Nat := [1, 4, 5, 6, 7, 8, 9, 10, 11, 12, 13, 14, 15]
def TXT (k : h_S) (s : sA) (M : Nat) (y : c_Y) : Prop := c_F k ∧ h_i k 3 0 = nI (sC s 2) ∧ KP k s M y ∧ KX k s M y
/-- y2 goes on from y -/
def y_le (y y2 : c_Y) : Prop := y2.1 = y.1 ∧ y2.2.1 = y.2.1 ∧ y2.2.2.2.2.2 = y.2.2.2.2.2 ∧ (∀ i, yC y i ≠ 0 → yC y2 i ≠ 0 ∧ yS y2 i = yS y i)
section CS
variable {k k2 : h_S} {s : sA} {y y2 y3 : c_Y} {M : Nat}
theorem y_le0 : y_le y y := ⟨rfl, rfl, rfl, fun _ h => ⟨h, rfl⟩⟩
theorem y_let (h : y_le y y2) (h2 : y_le y2 y3) : y_le y y3 := ⟨h2.1.trans h.1, h2.2.1.trans h.2.1, h2.2.2.1.trans h.2.2.1, fun i hi => by
  obtain ⟨a, b⟩ := h.2.2.2 i hi
  obtain ⟨c, d⟩ := h2.2.2.2 i a
  exact ⟨c, d.trans b⟩⟩
theorem c_fxS_m {f a : Nat} (h : a < 60) (h1 : a ≠ 20) (h2 : ¬ (26 - f ≤ a ∧ a ≤ 26)) : a ∈ c_fxS f := by
  unfold c_fxS
  rw [List.mem_filter]
  refine ⟨List.mem_range.mpr h, ?_⟩
  simp
  refine ⟨h1, ?_⟩
  omega
theorem c_fxS_lt {f a : Nat} (h : a ∈ c_fxS f) : a < 60 ∧ a ≠ 20 ∧ ¬ (26 - f ≤ a ∧ a ≤ 26) := by
  unfold c_fxS at h
  rw [List.mem_filter] at h
  obtain ⟨h1, h2⟩ := h
  have h1 := List.mem_range.mp h1
  simp at h2
  refine ⟨h1, h2.1, fun w => ?_⟩
  have := h2.2
  omega
theorem c_fxS_mono {f a : Nat} (h : a ∈ c_fxS (f + 1)) : a ∈ c_fxS f := by
  obtain ⟨h1, h2, h3⟩ := c_fxS_lt h
  exact c_fxS_m h1 h2 (by omega)
/-- a piece's own answers -/
theorem ci_hasWords {a : Nat} {p : sP} {W : Nat} (h : c_pc k a p) (hp : s_pok W p) : fn_X2_hasWords a k = some (q_b (p.1 < 2), k) := by
  unfold fn_X2_hasWords
  obtain ⟨⟨d, hd, e⟩, _⟩ := hp
  rw [fg_g_1 h.2.1, h.2.2.1, e]
  rcases (show d = 0 ∨ d = 1 ∨ d = 2 ∨ d = 3 by omega) with rfl | rfl | rfl | rfl
  · rw [fg_if_1 (show nI 0 = 0 from rfl), q_b1 (by decide)]
  · rw [fg_if_0 (by decide), fg_if_1 (show nI 1 = 1 from rfl), q_b1 (by decide)]
  · rw [fg_if_0 (by decide), fg_if_0 (by decide), q_b0 (by decide)]
  · rw [fg_if_0 (by decide), fg_if_0 (by decide), q_b0 (by decide)]
theorem ci_momentWithin {a : Nat} {p : sP} (h : c_pc k a p) (x : Int32) : fn_X2_momentWithin a x k = some (fg_if (p.1 = 2) p.2.2.2.2 x, k) := by
  unfold fn_X2_momentWithin
  rw [fg_g_1 h.2.1, h.2.2.1, h.2.2.2.2.2.2, fg_if_some]
theorem ci_stretch {a : Nat} {p : sP} (h : c_pc k a p) {A n z : Nat} (hA : A < 2 ^ 31) (hn : n < 2 ^ 31) (hz : z < 2 ^ 31) (eA : p.2.1 = nI A) (en : p.2.2.1 = nI n) : fn_X7_stretch (some a) (nI z) k = some (nI (min (z - A) n), k) := by
  unfold fn_X7_stretch fn_X7_stretch_18
  simp only [fg_o_1, fg_g_1 h.2.1, h.2.2.2.1, h.2.2.2.2.1, eA, en]
  by_cases c : z ≤ A
  · rw [fg_if_1 ((n_le hz hA).mpr c), show (0 : Int32) = nI 0 from rfl]
    by_cases c2 : n ≤ 0
    · rw [fg_if_1 ((n_le hn (by omega)).mpr c2)]
      congr 2
      congr 1
      omega
    · rw [fg_if_0 (fun q => c2 ((n_le hn (by omega)).mp q))]
      congr 2
      congr 1
      omega
  · rw [fg_if_0 (fun q => c ((n_le hz hA).mp q)), n_sub (by omega)]
    by_cases c2 : n ≤ z - A
    · rw [fg_if_1 ((n_le hn (by omega)).mpr c2), Nat.min_eq_right c2]
    · rw [fg_if_0 (fun q => c2 ((n_le hn (by omega)).mp q)), Nat.min_eq_left (by omega)]
/-- the row as of a moment -/
theorem ci_piecesAsOf_18 (hF : c_F k) {m : Nat} (hm : m ≤ 600) : ∀ (l : List (Nat × List sP)) (r : Option Nat) (N : Nat), c_ch k r l → l.length < N → ∃ b, fn_X7_piecesAsOf_18 N (nI m) r k = some (some b, k) ∧ c_ps k b (s_lk l m) := by
  intro l
  induction l with
  | nil =>
    intro r N h hN
    obtain ⟨N, rfl⟩ : ∃ z, N = z + 1 := ⟨N - 1, by omega⟩
    have h : r = none := h
    subst h
    refine ⟨17, ?_, Or.inl rfl, cf_k hF rfl (by decide), cf_n (a := 17) hF rfl (by decide) rfl, fun j p hp => by simp [s_lk] at hp⟩
    show fn_X7_piecesAsOf_18b _ _ _ _ = _
    unfold fn_X7_piecesAsOf_18b fn_X7_piecesAsOf_43
    rw [fg_if_1 rfl, cf_r (a := 3) (j := 3) (y := 17) hF rfl]
  | cons x t ih =>
    intro r N h hN
    obtain ⟨N, rfl⟩ : ∃ z, N = z + 1 := ⟨N - 1, by omega⟩
    obtain ⟨m2, q⟩ := x
    obtain ⟨a, b, h1, h2, h3, h4, h5, h6, h7, h8⟩ := h
    subst h1
    show ∃ b, fn_X7_piecesAsOf_18b (fn_X7_piecesAsOf_18 N) _ _ _ = _ ∧ _
    unfold fn_X7_piecesAsOf_18b
    have e : s_lk ((m2, q) :: t) m = if m2 ≤ m then q else s_lk t m := rfl
    simp only [fg_o_1, fg_g_1 h3, h5, h6, n_lt (show m < 2 ^ 31 by omega) (show m2 < 2 ^ 31 by omega)]
    rw [fg_if_0 (by simp), e]
    by_cases c : m2 ≤ m
    · rw [fg_if_0 (by omega), if_pos c]
      exact ⟨b, rfl, h7⟩
    · rw [fg_if_1 (by omega), if_neg c]
      exact ih _ N h8 (by simp at hN; omega)
theorem ci_piecesAsOf (h : TXT k s M y) (v : ivc s) {w m : Nat} (hw : w < sC s 2) (hm : m ≤ 600) : ∃ b, fn_X7_piecesAsOf (nI w) (nI m) k = some (some b, k) ∧ c_ps k b (sR s w m) := by
  have v2 := v.2.2.1
  obtain ⟨h1, h2, h3, _⟩ := h
  obtain ⟨a0, a1, a2⟩ := h3 w hw
  have v0 := v.1
  have a3 := a0.2
  unfold fn_X7_piecesAsOf
  rw [h2, ci_withinN _ (by omega), fg_b_1, q_b_if, fg_if_1 ((n_inI (by omega)).mpr hw), fg_g_1 ((n_vp (by omega)).mpr (by omega)), q_nIx (by omega), a2 m]
  exact ci_piecesAsOf_18 h1 hm _ _ g_N a1 (by have := g_N_le; omega)
end CS
