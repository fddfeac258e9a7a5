/-! the class's constructor (initgen.py) -/
section VL
variable {α β ρ S ρ2 S2 : Type}
theorem v_let {e : α} {f : α → β} {X : β} (h : f e = X) : fg_let e f = X := h
theorem v_g {c : Prop} {a : Option α} {X : Option α} (hc : c) (h : a = X) : fg_g c a = X := by rw [fg_g_1 hc]; exact h
theorem v_c {c d C D : Nat} {m : fg_R ρ S} {r : ρ} {s : S} (h : m = some (r, s, C, D)) : fg_c c d m = some (r, s, c + C, d + D) := by rw [h]; rfl
theorem v_b {m : Option (ρ × S)} {f : ρ → S → Option β} {X : Option β} {r : ρ} {s : S} (h : m = some (r, s)) (h2 : f r s = X) : fg_b m f = X := by rw [h]; exact h2
theorem v_bc {m : fg_R ρ S} {f : ρ → S → fg_R ρ2 S2} {r : ρ} {s : S} {c d C D : Nat} {r2 : ρ2} {s2 : S2} (h : m = some (r, s, c, d)) (h2 : f r s = some (r2, s2, C, D)) : fg_bc m f = some (r2, s2, c + C, d + D) := by rw [h, fg_bc_1, h2]; rfl
theorem v_ex {m : fg_R ρ S} {P : S → Nat → Nat → Prop} {r : ρ} {t : S} {C D : Nat} (h : m = some (r, t, C, D)) (hp : P t C D) : ∃ (t : S) (C D : Nat), m = some (r, t, C, D) ∧ P t C D := ⟨t, C, D, h, hp⟩
end VL
section CIn
variable {s : h_S}
theorem ci_linit {q : Nat} (h : h_k s q = 20) : fn_Jx4a65c_init_da8c8 q s = some ((), h_sr (h_si s q 0 0) q 1 (some 7)) := by
  have h2 : h_k (h_si s q 0 0) q = 20 := h
  unfold fn_Jx4a65c_init_da8c8 fn_Jxc12de_init_da8c8 fn_Jxa1e45_init_da8c8
  rw [fg_b_1, fg_g_1 h, fg_let_1, fg_b_1, fg_g_1 h2, fg_let_1]
/-- one sheet -/
def c_i1 (s : h_S) (i : Nat) : h_S := h_sr (h_sr (h_nw (h_si (h_nw s (52 + i) 26 3) (52 + i) 1 (-1)) (56 + i) 1 60) (52 + i) 2 (some (56 + i))) 9 i (some (52 + i))
theorem ci_i1 {i N : Nat} {t : h_S} {C D : Nat} (hi : i < 4) (h0 : h_k s 0 = 32) (h9 : h_r s 0 9 = some 9) (k9 : h_k s 9 = 5) (n9 : h_n s 9 = 4) (z1 : h_k s (52 + i) = 0) (z2 : h_k s (56 + i) = 0) (h : fn_X11_init_140 N 0 (nI (i + 1)) (c_i1 s i) = some ((), t, C, D)) : fn_X11_init_140 (N + 1) 0 (nI i) s = some ((), t, 1 + (1 + C), 3 + (60 + D)) := by
  have a1 : h_k (h_nw s (52 + i) 26 3) (52 + i) = 26 := by rw [h_k_nw, if_pos rfl]
  have a2 : h_k (h_si (h_nw s (52 + i) 26 3) (52 + i) 1 (-1)) (52 + i + 4) = 0 := by
    show h_k (h_nw s (52 + i) 26 3) (52 + i + 4) = 0
    rw [h_k_nw, if_neg (by omega), show 52 + i + 4 = 56 + i by omega]; exact z2
  have a3 : h_k (h_sr (h_nw (h_si (h_nw s (52 + i) 26 3) (52 + i) 1 (-1)) (56 + i) 1 60) (52 + i) 2 (some (56 + i))) 9 = 5 := by
    show h_k (h_nw (h_si (h_nw s (52 + i) 26 3) (52 + i) 1 (-1)) (56 + i) 1 60) 9 = 5
    rw [h_k_nw, if_neg (by omega)]
    show h_k (h_nw s (52 + i) 26 3) 9 = 5
    rw [h_k_nw, if_neg (by omega)]; exact k9
  have a4 : h_n (h_sr (h_nw (h_si (h_nw s (52 + i) 26 3) (52 + i) 1 (-1)) (56 + i) 1 60) (52 + i) 2 (some (56 + i))) 9 = 4 := by
    show h_n (h_nw (h_si (h_nw s (52 + i) 26 3) (52 + i) 1 (-1)) (56 + i) 1 60) 9 = 4
    rw [h_n_nw, if_neg (by omega)]
    show h_n (h_nw s (52 + i) 26 3) 9 = 4
    rw [h_n_nw, if_neg (by omega)]; exact n9
  have a5 : h_k (h_sr (h_nw (h_si (h_nw s (52 + i) 26 3) (52 + i) 1 (-1)) (56 + i) 1 60) (52 + i) 2 (some (56 + i))) (52 + i) = 26 := by
    show h_k (h_nw (h_si (h_nw s (52 + i) 26 3) (52 + i) 1 (-1)) (56 + i) 1 60) (52 + i) = 26
    rw [h_k_nw, if_neg (by omega)]; exact a1
  have c0 : ¬ (4 : Int32) ≤ nI i := fun w => by have := (n_le (a := 4) (b := i) (by omega) (by omega)).mp w; omega
  show fn_X11_init_140b (fn_X11_init_140 N) 0 (nI i) s = _
  unfold fn_X11_init_140b fn_X5_init
  rw [fg_if_0 c0, fg_g_1 h0, fg_let_1, q_nIx (by omega), fg_g_1 z1, fg_let_1, fg_g_1 a1, fg_let_1, fg_let_1, fg_g_1 a2, fg_let_1, fg_let_1, fg_c_1, fg_bc_1, h9, fg_o_1, show 52 + i + 4 = 56 + i by omega, fg_g_1 a3, a4, fg_g_1 ((n_vp (by omega)).mpr hi), fg_g_1 a5, fg_let_1, n_p1]
  have h' : fn_X11_init_140 N 0 (nI (i + 1)) (h_sr (h_sr (h_nw (h_si (h_nw s (52 + i) 26 3) (52 + i) 1 (-1)) (56 + i) 1 60) (52 + i) 2 (some (56 + i))) 9 i (some (52 + i))) = some ((), t, C, D) := h
  rw [h', fg_c_1, fg_c_1]
theorem c_i1_o {i a : Nat} (h1 : a ≠ 52 + i) (h2 : a ≠ 56 + i) : h_k (c_i1 s i) a = h_k s a ∧ h_n (c_i1 s i) a = h_n s a ∧ (∀ j, h_i (c_i1 s i) a j = h_i s a j) ∧ (a ≠ 9 → ∀ j, h_r (c_i1 s i) a j = h_r s a j) := by
  refine ⟨?_, ?_, fun j => ?_, fun h9 j => ?_⟩
  · show h_k (h_nw (h_si (h_nw s (52 + i) 26 3) (52 + i) 1 (-1)) (56 + i) 1 60) a = _
    rw [h_k_nw, if_neg h2]
    show h_k (h_nw s (52 + i) 26 3) a = _
    rw [h_k_nw, if_neg h1]
  · show h_n (h_nw (h_si (h_nw s (52 + i) 26 3) (52 + i) 1 (-1)) (56 + i) 1 60) a = _
    rw [h_n_nw, if_neg h2]
    show h_n (h_nw s (52 + i) 26 3) a = _
    rw [h_n_nw, if_neg h1]
  · show h_i (h_nw (h_si (h_nw s (52 + i) 26 3) (52 + i) 1 (-1)) (56 + i) 1 60) a j = _
    rw [h_i_nw, if_neg h2, h_i_si, if_neg (fun q => h1 q.1), h_i_nw, if_neg h1]
  · unfold c_i1
    rw [h_r_sr, if_neg (fun q => h9 q.1), h_r_sr, if_neg (fun q => h1 q.1), h_r_nw, if_neg h2]
    show h_r (h_nw s (52 + i) 26 3) a j = _
    rw [h_r_nw, if_neg h1]
theorem ci_i140 (h0 : h_k s 0 = 32) (h9 : h_r s 0 9 = some 9) (k9 : h_k s 9 = 5) (n9 : h_n s 9 = 4) (z : ∀ i, i < 8 → h_k s (52 + i) = 0) : fn_X11_init_140 g_N 0 0 s = some ((), c_i1 (c_i1 (c_i1 (c_i1 s 0) 1) 2) 3, 8, 252) := by
  obtain ⟨N, hN⟩ : ∃ m, g_N = m + 1 + 1 + 1 + 1 + 1 := ⟨g_N - 5, by have := g_N_le; omega⟩
  rw [hN]
  have last : ∀ t, fn_X11_init_140 (N + 1) 0 (nI 4) t = some ((), t, 0, 0) := fun t => by
    show fn_X11_init_140b _ _ _ _ = _
    unfold fn_X11_init_140b
    rw [fg_if_1 (by decide)]
  have Z : ∀ {s : h_S} {i a : Nat}, a ≠ 52 + i → a ≠ 56 + i → h_k (c_i1 s i) a = h_k s a := fun h1 h2 => (c_i1_o h1 h2).1
  have R : ∀ {s : h_S} {i : Nat}, i < 4 → h_r (c_i1 s i) 0 9 = h_r s 0 9 := fun hi => (c_i1_o (by omega) (by omega)).2.2.2 (by decide) 9
  have M : ∀ {s : h_S} {i : Nat}, i < 4 → h_n (c_i1 s i) 9 = h_n s 9 := fun hi => (c_i1_o (by omega) (by omega)).2.1
  have e3 := ci_i1 (s := c_i1 (c_i1 (c_i1 s 0) 1) 2) (i := 3) (N := N + 1) (by decide) (by rw [Z (by decide) (by decide), Z (by decide) (by decide), Z (by decide) (by decide)]; exact h0) (by rw [R (by decide), R (by decide), R (by decide)]; exact h9) (by rw [Z (by decide) (by decide), Z (by decide) (by decide), Z (by decide) (by decide)]; exact k9) (by rw [M (by decide), M (by decide), M (by decide)]; exact n9) (by rw [Z (by decide) (by decide), Z (by decide) (by decide), Z (by decide) (by decide)]; exact z 3 (by decide)) (by rw [Z (by decide) (by decide), Z (by decide) (by decide), Z (by decide) (by decide)]; exact z 7 (by decide)) (last _)
  have e2 := ci_i1 (s := c_i1 (c_i1 s 0) 1) (i := 2) (N := N + 1 + 1) (by decide) (by rw [Z (by decide) (by decide), Z (by decide) (by decide)]; exact h0) (by rw [R (by decide), R (by decide)]; exact h9) (by rw [Z (by decide) (by decide), Z (by decide) (by decide)]; exact k9) (by rw [M (by decide), M (by decide)]; exact n9) (by rw [Z (by decide) (by decide), Z (by decide) (by decide)]; exact z 2 (by decide)) (by rw [Z (by decide) (by decide), Z (by decide) (by decide)]; exact z 6 (by decide)) e3
  have e1 := ci_i1 (s := c_i1 s 0) (i := 1) (N := N + 1 + 1 + 1) (by decide) (by rw [Z (by decide) (by decide)]; exact h0) (by rw [R (by decide)]; exact h9) (by rw [Z (by decide) (by decide)]; exact k9) (by rw [M (by decide)]; exact n9) (by rw [Z (by decide) (by decide)]; exact z 1 (by decide)) (by rw [Z (by decide) (by decide)]; exact z 5 (by decide)) e2
  exact ci_i1 (s := s) (i := 0) (N := N + 1 + 1 + 1 + 1) (by decide) h0 h9 k9 n9 (z 0 (by decide)) (z 4 (by decide)) e1
/-- nothing but the empty array, and the object -/
def c_k0 : h_S := ([], (fun a => if a = 7 then 19 else 0), (fun _ => 0), (fun _ _ => 0), (fun _ _ => none))
def c_k1 : h_S := h_nw c_k0 0 32 19
set_option maxRecDepth 100000 in
theorem ex_init : ∃ (t : h_S) (C D : Nat), fn_X11_init 0 c_k1 = some ((), t, C, D) ∧ (C ≤ 200 ∧ D ≤ 40000) ∧ (∀ a, a < 60 → h_k t a = c_fk a ∧ (c_fk a ≠ 0 → h_n t a = c_fn a)) ∧ (∀ a, a < 60 → ∀ j, j < 20 → c_fr a j ≠ none → h_r t a j = c_fr a j) ∧ (∀ a, 60 ≤ a → h_k t a = 0) ∧ (∀ j, j < 19 → h_i t 0 j = if j = 12 then 1003 else 0) ∧ (h_i t 3 0 = 0 ∧ h_i t 1 0 = 0 ∧ h_i t 2 0 = 0) ∧ (∀ i, i < 64 → h_i t 11 i = 0) ∧ (∀ L, L ∈ ([4, 5, 6, 8, 18] : List Nat) → h_i t L 2 = 0 ∧ h_r t L 1 = some 7) ∧ (∀ i, i < 8 → h_i t 19 i = 0) ∧ (∀ q, q < 4 → h_i t (52 + q) 0 = 0 ∧ h_i t (52 + q) 1 = -1) ∧ (∀ i, i < 1024 → h_r t 20 i = none) := by
  apply v_ex
  · unfold fn_X11_init
    apply v_let
    apply v_g (by decide +kernel)
    apply v_c
    apply v_let
    apply v_g (by decide +kernel)
    apply v_let
    apply v_let
    apply v_g (by decide +kernel)
    apply v_c
    apply v_let
    apply v_let
    apply v_let
    apply v_g (by decide +kernel)
    apply v_c
    apply v_let
    apply v_bc
    · unfold fn_X7_init
      apply v_let
      apply v_g (by decide +kernel)
      apply v_c
      apply v_let
      apply v_g (by decide +kernel)
      apply v_let
      apply v_let
      apply v_g (by decide +kernel)
      apply v_c
      apply v_let
      apply v_let
      apply v_let
      apply v_g (by decide +kernel)
      apply v_c
      apply v_let
      apply v_let
      apply v_let
      apply v_g (by decide +kernel)
      apply v_c
      apply v_let
      apply v_b (ci_linit (by decide +kernel))
      apply v_let
      apply v_let
      apply v_g (by decide +kernel)
      apply v_c
      apply v_let
      apply v_let
      apply v_let
      apply v_g (by decide +kernel)
      apply v_c
      apply v_let
      apply v_let
      apply v_let
      apply v_g (by decide +kernel)
      apply v_g (by decide +kernel)
      apply v_c
      apply v_let
      apply v_let
      apply v_let
      apply v_g (by decide +kernel)
      apply v_c
      apply v_let
      apply v_let
      apply v_let
      apply v_g (by decide +kernel)
      apply v_c
      apply v_let
      apply v_let
      apply v_let
      apply v_g (by decide +kernel)
      apply v_c
      apply v_let
      apply v_let
      exact rfl
    apply v_let
    apply v_let
    apply v_g (by decide +kernel)
    apply v_c
    apply v_let
    apply v_b (ci_linit (by decide +kernel))
    apply v_let
    apply v_let
    apply v_g (by decide +kernel)
    apply v_c
    apply v_let
    apply v_b (ci_linit (by decide +kernel))
    apply v_let
    apply v_let
    apply v_g (by decide +kernel)
    apply v_c
    apply v_let
    apply v_b (ci_linit (by decide +kernel))
    apply v_let
    apply v_let
    apply v_g (by decide +kernel)
    apply v_c
    apply v_let
    apply v_b (ci_linit (by decide +kernel))
    apply v_let
    apply v_let
    apply v_g (by decide +kernel)
    apply v_c
    apply v_let
    apply v_let
    apply v_let
    apply v_g (by decide +kernel)
    apply v_c
    apply v_let
    apply v_bc
    · unfold fn_X9_init
      apply v_let
      apply v_g (by decide +kernel)
      apply v_g (by decide +kernel)
      apply v_c
      apply v_let
      apply v_g (by decide +kernel)
      apply v_let
      apply v_let
      apply v_g (by decide +kernel)
      apply v_c
      apply v_let
      apply v_let
      apply v_let
      apply v_g (by decide +kernel)
      apply v_c
      apply v_let
      apply v_let
      apply v_let
      apply v_g (by decide +kernel)
      apply v_c
      apply v_let
      apply v_let
      apply v_let
      apply v_g (by decide +kernel)
      apply v_g (by decide +kernel)
      apply v_c
      apply v_let
      apply v_let
      apply v_let
      apply v_g (by decide +kernel)
      apply v_c
      apply v_let
      apply v_let
      apply v_let
      apply v_g (by decide +kernel)
      apply v_g (by decide +kernel)
      apply v_c
      apply v_let
      apply v_let
      apply v_let
      apply v_g (by decide +kernel)
      apply v_g (by decide +kernel)
      apply v_c
      apply v_let
      apply v_let
      apply v_let
      apply v_g (by decide +kernel)
      apply v_c
      apply v_let
      apply v_let
      apply v_let
      apply v_g (by decide +kernel)
      apply v_c
      apply v_let
      apply v_let
      apply v_let
      apply v_g (by decide +kernel)
      apply v_c
      apply v_let
      apply v_let
      apply v_let
      apply v_g (by decide +kernel)
      apply v_c
      apply v_let
      apply v_let
      apply v_let
      apply v_g (by decide +kernel)
      apply v_c
      apply v_let
      apply v_let
      exact rfl
    apply v_let
    apply v_let
    apply v_g (by decide +kernel)
    apply v_c
    apply v_let
    apply v_let
    apply v_let
    apply v_let
    apply v_g (by decide +kernel)
    apply v_c
    apply v_let
    apply v_let
    apply v_let
    apply v_g (by decide +kernel)
    apply v_c
    apply v_let
    apply v_let
    apply v_let
    apply v_g (by decide +kernel)
    apply v_c
    apply v_let
    apply v_let
    exact ci_i140 (by decide +kernel) (by decide +kernel) (by decide +kernel) (by decide +kernel) (by decide +kernel)
  · refine ⟨by decide +kernel, by decide +kernel, by decide +kernel, fun a ha => ?_, by decide +kernel, by decide +kernel, by decide +kernel, by decide +kernel, by decide +kernel, by decide +kernel, by decide +kernel⟩
    have z0 : h_k c_k0 a = 0 := by show (if a = 7 then 19 else 0) = 0; rw [if_neg (by omega)]
    simp only [c_i1, h_mn, c_k1, h_k_sr, h_k_si, h_k_nw]
    repeat rw [if_neg (by omega)]
    exact z0
end CIn
