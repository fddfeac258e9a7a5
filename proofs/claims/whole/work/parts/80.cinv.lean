/-! THE CLASS's HEAP AGAINST WHAT BOTH SPEAK OF -/
def c_eq (k k2 : h_S) (a : Nat) : Prop := h_k k2 a = h_k k a ∧ h_n k2 a = h_n k a ∧ h_i k2 a = h_i k a ∧ h_r k2 a = h_r k a
/-- k2 is as k at the fixed places of the one list and at all that was there with a tag of the other -/
def c_ag (fx tg : List Nat) (k k2 : h_S) : Prop := (∀ a, a ∈ fx → c_eq k k2 a) ∧ (∀ a, 128 ≤ a → a % 16 ∈ tg → h_k k a ≠ 0 → c_eq k k2 a)
def c_tags : List Nat := [1, 2, 3, 4, 5, 6, 7, 8, 9, 10, 11, 12, 13, 14]
def c_fxD : List Nat := [4, 5, 6, 8, 13, 16, 17, 18, 19, 20, 52, 53, 54, 55, 56, 57, 58, 59]
/-- ghosts: the lists' arrays, their elements, the slots' objects, arrays and room, the writings' histories -/
abbrev c_Y : Type := (Nat → Nat) × (Nat → Nat → Nat) × (Nat → Nat) × (Nat → Nat) × (Nat → Nat) × (Nat → List (Nat × List sP))
def yE (y : c_Y) (L : Nat) : Nat := y.1 L
def yA (y : c_Y) (L i : Nat) : Nat := y.2.1 L i
def yS (y : c_Y) (i : Nat) : Nat := y.2.2.1 i
def yB (y : c_Y) (i : Nat) : Nat := y.2.2.2.1 i
def yC (y : c_Y) (i : Nat) : Nat := y.2.2.2.2.1 i
def yH (y : c_Y) (w : Nat) : List (Nat × List sP) := y.2.2.2.2.2 w
/-- an address of a tag -/
def c_tg (t a : Nat) : Prop := 128 ≤ a ∧ a % 16 = t
/-- the list at L has n elements -/
def CL (k : h_S) (L n E : Nat) (A : Nat → Nat) : Prop := h_i k L 2 = nI n ∧ h_r k L 1 = some E ∧ ((E = 7 ∧ n = 0) ∨ (c_tg 7 E ∧ h_k k E = 7 ∧ n ≤ h_n k E ∧ h_n k E ≤ 1000 ∧ (∀ i, i < n → h_r k E i = some (A i)) ∧ (∀ i, n ≤ i → h_r k E i = none)))
def KN (k : h_S) (s : sA) : Prop := h_i k 0 0 = nI (sC s 0) ∧ h_i k 0 1 = nI (sC s 1) ∧ h_i k 3 0 = nI (sC s 2) ∧ h_i k 0 15 = nI (sC s 8) ∧ h_i k 0 18 = sN s 0 ∧ h_i k 0 17 = sN s 1 ∧ h_i k 0 12 = 100 * sN s 2 + sN s 3
def KS (k : h_S) (s : sA) : Prop := (∀ i, i ≤ sC s 0 → h_i k 1 i = sF s 2 i) ∧ (∀ i, i < sC s 2 → h_i k 15 i = sF s 9 i) ∧ (∀ i, i < 64 → h_i k 11 i = sF s 104 i)
def KG (k : h_S) (s : sA) : Prop := ∀ g, g < 4 → ∀ m, m ≤ sC s 0 → h_ushr (h_i k 2 m) (nI (8 * g)) &&& 255 = sG s g m
def KL (k : h_S) (s : sA) (y : c_Y) : Prop := CL k 4 (sC s 4) (yE y 4) (yA y 4) ∧ CL k 5 (sC s 7) (yE y 5) (yA y 5) ∧ CL k 6 (sC s 5) (yE y 6) (yA y 6) ∧ CL k 8 (sC s 6) (yE y 8) (yA y 8) ∧ CL k 18 (sC s 3) (yE y 18) (yA y 18) ∧ (∀ L M, L ∈ ([4, 5, 6, 8, 18] : List Nat) → M ∈ ([4, 5, 6, 8, 18] : List Nat) → yE y L = yE y M → yE y L ≠ 7 → L = M)
def c_wd (k : h_S) (a : Nat) (x0 x1 x2 x3 x4 : Int32) : Prop := c_tg 6 a ∧ h_k k a = 31 ∧ h_i k a 0 = x0 ∧ h_i k a 1 = x1 ∧ h_i k a 2 = x2 ∧ h_i k a 3 = x3 ∧ h_i k a 4 = x4
/-- how many of the first n words are of the hand h -/
def s_nth (s : sA) (h : Nat) : Nat → Nat
  | 0 => 0
  | n + 1 => s_nth s h n + (if sF s 24 n = nI h then 1 else 0)
def KW (k : h_S) (s : sA) (y : c_Y) : Prop := (∀ i, i < sC s 3 → c_wd k (yA y 18 i) (sF s 23 i) (sF s 24 i) (sF s 25 i) (sF s 26 i) (sF s 27 i)) ∧ (∀ h, h < 8 → h_i k 19 h = nI (s_nth s h (sC s 3)))
/-- an array of ints that lies apart -/
def c_ar (k : h_S) (t a : Nat) (l : List Int32) : Prop := c_tg t a ∧ h_k k a = 1 ∧ h_n k a = l.length ∧ ∀ (j : Nat) (x : Int32), l[j]? = some x → h_i k a j = x
def KV (k : h_S) (s : sA) (y : c_Y) : Prop := (∀ i, i < sC s 4 → c_tg 8 (yA y 4 i) ∧ h_k k (yA y 4 i) = 29 ∧ h_i k (yA y 4 i) 0 = sF s 56 i ∧ h_i k (yA y 4 i) 1 = sF s 57 i ∧ h_i k (yA y 4 i) 3 = s_nv (sF s 58 i) ∧ h_i k (yA y 4 i) 4 = s_nv (sF s 59 i) ∧ ∃ b, h_r k (yA y 4 i) 2 = some b ∧ c_ar k 9 b (s_sh (sR s) 4 (h_ix (sF s 56 i)) (h_ix (sF s 57 i)))) ∧ (∀ i j, i < sC s 4 → j < sC s 4 → yA y 4 i = yA y 4 j → i = j)
def KC (k : h_S) (s : sA) (y : c_Y) : Prop := (∀ i, i < sC s 7 → c_tg 10 (yA y 5 i) ∧ h_k k (yA y 5 i) = 21 ∧ h_i k (yA y 5 i) 0 = sF s 75 i ∧ h_i k (yA y 5 i) 2 = nI (sK s i).1.length ∧ h_i k (yA y 5 i) 3 = sF s 78 i ∧ ∃ b, h_r k (yA y 5 i) 1 = some b ∧ c_ar k 11 b ((sK s i).1 ++ (sK s i).2)) ∧ (∀ i j, i < sC s 7 → j < sC s 7 → yA y 5 i = yA y 5 j → i = j)
def KK (k : h_S) (s : sA) (y : c_Y) : Prop := ∀ i, i < sC s 5 → c_tg 12 (yA y 6 i) ∧ h_k k (yA y 6 i) = 22 ∧ h_i k (yA y 6 i) 0 = sF s 81 i ∧ h_i k (yA y 6 i) 3 = sF s 86 i ∧ (∃ b, h_r k (yA y 6 i) 1 = some b ∧ c_ar k 13 b [sF s 82 i, sF s 84 i]) ∧ (∃ b, h_r k (yA y 6 i) 2 = some b ∧ c_ar k 13 b [sF s 83 i, sF s 85 i])
def KR (k : h_S) (s : sA) (y : c_Y) : Prop := (∀ i, i < sC s 6 → c_tg 14 (yA y 8 i) ∧ h_k k (yA y 8 i) = 24 ∧ h_i k (yA y 8 i) 0 = sF s 90 i ∧ h_i k (yA y 8 i) 1 = sF s 96 i ∧ h_i k (yA y 8 i) 2 = s_nv (sF s 97 i) ∧ h_i k (yA y 8 i) 3 = sF s 91 i ∧ h_i k (yA y 8 i) 4 = sF s 92 i ∧ h_i k (yA y 8 i) 5 = sF s 93 i ∧ h_i k (yA y 8 i) 6 = sF s 94 i ∧ h_i k (yA y 8 i) 7 = sF s 95 i) ∧ (∀ i j, i < sC s 6 → j < sC s 6 → yA y 8 i = yA y 8 j → i = j)
def KT (k : h_S) (s : sA) : Prop := ∀ q, q < 4 → h_i k (52 + q) 0 = sF s 111 q ∧ h_i k (52 + q) 1 = sF s 110 q ∧ ∀ i : Nat, (i : Int) < (sF s 110 q).toInt → h_i k (56 + q) i = sF s 112 (60 * q + i)
def KH (k : h_S) (s : sA) : Prop := ∀ i, i < sC s 8 → ∃ a v p : Nat, a ≤ 24 ∧ v < 16 ∧ p < 300 ∧ sF s 108 i = nI a ∧ sF s 106 i = nI v ∧ sF s 107 i = nI p ∧ h_i k 13 i = nI ((a * 16 + v) * 300 + p)
def c_pc (k : h_S) (a : Nat) (p : sP) : Prop := c_tg 1 a ∧ h_k k a = 23 ∧ h_i k a 0 = p.1 ∧ h_i k a 1 = p.2.1 ∧ h_i k a 2 = p.2.2.1 ∧ h_i k a 3 = p.2.2.2.1 ∧ h_i k a 4 = p.2.2.2.2
def c_ps (k : h_S) (b : Nat) (l : List sP) : Prop := (b = 17 ∨ c_tg 5 b) ∧ h_k k b = 3 ∧ h_n k b = l.length ∧ ∀ (j : Nat) (p : sP), l[j]? = some p → ∃ c, h_r k b j = some c ∧ c_pc k c p
def c_ch (k : h_S) : Option Nat → List (Nat × List sP) → Prop
  | r, [] => r = none
  | r, (m, l) :: t => ∃ a b, r = some a ∧ c_tg 4 a ∧ h_k k a = 25 ∧ m ≤ 600 ∧ h_i k a 0 = nI m ∧ h_r k a 1 = some b ∧ c_ps k b l ∧ c_ch k (h_r k a 2) t
def KP (k : h_S) (s : sA) (M : Nat) (y : c_Y) : Prop := ∀ w, w < sC s 2 → (yH y w ≠ [] ∧ (yH y w).length ≤ min M 600 + 1) ∧ c_ch k (h_r k 16 w) (yH y w) ∧ ∀ m, sR s w m = s_lk (yH y w) m
/-- one slot; moments up to M may be held -/
def c_sl (k : h_S) (s : sA) (M a b c : Nat) : Prop := c_tg 2 a ∧ h_k k a = 27 ∧ h_r k a 2 = some b ∧ c_tg 3 b ∧ h_k k b = 1 ∧ h_n k b + 1 = c ∧ h_n k b ≤ 300 ∧ (h_i k a 0 = -9 ∨ ∃ f w m, f ≤ 4 ∧ w < sC s 2 ∧ m ≤ M ∧ h_i k a 0 = nI ((m * 12 + w) * 5 + (4 - f)) ∧ h_i k a 1 = nI (s_sh (sR s) f w m).length ∧ (s_sh (sR s) f w m).length ≤ h_n k b ∧ ∀ (j : Nat) (x : Int32), (s_sh (sR s) f w m)[j]? = some x → h_i k b j = x)
def KX (k : h_S) (s : sA) (M : Nat) (y : c_Y) : Prop := (∀ i, i < 1024 → (yC y i = 0 ∧ h_r k 20 i = none) ∨ (yC y i ≠ 0 ∧ h_r k 20 i = some (yS y i) ∧ c_sl k s M (yS y i) (yB y i) (yC y i))) ∧ (∀ i j, i < 1024 → j < 1024 → yC y i ≠ 0 → yC y j ≠ 0 → yS y i = yS y j ∨ yB y i = yB y j → i = j)
def KD (k : h_S) (s : sA) (M : Nat) (y : c_Y) : Prop := KL k s y ∧ KW k s y ∧ KV k s y ∧ KC k s y ∧ KK k s y ∧ KR k s y ∧ KT k s ∧ KH k s ∧ KP k s M y ∧ KX k s M y
def CB (k : h_S) (s : sA) (y : c_Y) : Prop := c_F k ∧ KN k s ∧ KS k s ∧ KG k s ∧ KD k s (sC s 0) y
section CI
variable {k k2 k3 : h_S} {s s2 : sA} {y : c_Y} {fx tg : List Nat}
theorem c_eq0 {a : Nat} : c_eq k k a := ⟨rfl, rfl, rfl, rfl⟩
theorem c_eqt {a : Nat} (h : c_eq k k2 a) (h2 : c_eq k2 k3 a) : c_eq k k3 a := ⟨h2.1.trans h.1, h2.2.1.trans h.2.1, h2.2.2.1.trans h.2.2.1, h2.2.2.2.trans h.2.2.2⟩
theorem c_ag0 : c_ag fx tg k k := ⟨fun _ _ => c_eq0, fun _ _ _ _ => c_eq0⟩
theorem c_agt (h : c_ag fx tg k k2) (h2 : c_ag fx tg k2 k3) : c_ag fx tg k k3 := ⟨fun a ha => c_eqt (h.1 a ha) (h2.1 a ha), fun a h1 ht hk => c_eqt (h.2 a h1 ht hk) (h2.2 a h1 ht (by rw [(h.2 a h1 ht hk).1]; exact hk))⟩
theorem c_agm {fx2 tg2 : List Nat} (h : c_ag fx tg k k2) (h1 : ∀ a, a ∈ fx2 → a ∈ fx) (h2 : ∀ a, a ∈ tg2 → a ∈ tg) : c_ag fx2 tg2 k k2 := ⟨fun a ha => h.1 a (h1 a ha), fun a h3 ht hk => h.2 a h3 (h2 _ ht) hk⟩
theorem c_eq_si {a b j : Nat} {v : Int32} (h : b ≠ a) : c_eq k (h_si k a j v) b := ⟨rfl, rfl, by funext i; rw [h_i_si, if_neg (fun q => h q.1)], rfl⟩
theorem c_eq_sr {a b j : Nat} {v : Option Nat} (h : b ≠ a) : c_eq k (h_sr k a j v) b := ⟨rfl, rfl, rfl, by funext i; rw [h_r_sr, if_neg (fun q => h q.1)]⟩
theorem c_eq_nw {q kd n b : Nat} (h : b ≠ q) : c_eq k (h_nw k q kd n) b := ⟨by rw [h_k_nw, if_neg h], by rw [h_n_nw, if_neg h], by funext i; rw [h_i_nw, if_neg h], by funext i; rw [h_r_nw, if_neg h]⟩
/-- a write at a fixed place that isn't in the list -/
theorem c_ag_si {a j : Nat} {v : Int32} (h1 : a < 128) (h2 : a ∉ fx) : c_ag fx tg k (h_si k a j v) := ⟨fun b hb => c_eq_si (fun e => h2 (by rw [← e]; exact hb)), fun b hb _ _ => c_eq_si (by omega)⟩
theorem c_ag_sr {a j : Nat} {v : Option Nat} (h1 : a < 128) (h2 : a ∉ fx) : c_ag fx tg k (h_sr k a j v) := ⟨fun b hb => c_eq_sr (fun e => h2 (by rw [← e]; exact hb)), fun b hb _ _ => c_eq_sr (by omega)⟩
theorem c_ag_nw {q t kd n : Nat} (hF : c_F k) (e : q = c_ad t k) (hfx : ∀ a, a ∈ fx → a < 128) : c_ag fx tg k (h_nw k q kd n) := ⟨fun b hb => c_eq_nw (by have := hfx b hb; rw [e]; unfold c_ad; omega), fun b _ _ hk => c_eq_nw (fun w => hk (by rw [w]; exact cf_z hF e))⟩
/-- a write at a place with a tag that isn't in the list -/
theorem c_ag_siT {a j t : Nat} {v : Int32} (h1 : c_tg t a) (h2 : t ∉ tg) (hfx : ∀ a, a ∈ fx → a < 128) : c_ag fx tg k (h_si k a j v) := ⟨fun b hb => c_eq_si (by have := hfx b hb; have := h1.1; omega), fun b hb ht _ => c_eq_si (fun e => h2 (by rw [← h1.2, ← e]; exact ht))⟩
theorem c_ag_srT {a j t : Nat} {v : Option Nat} (h1 : c_tg t a) (h2 : t ∉ tg) (hfx : ∀ a, a ∈ fx → a < 128) : c_ag fx tg k (h_sr k a j v) := ⟨fun b hb => c_eq_sr (by have := hfx b hb; have := h1.1; omega), fun b hb ht _ => c_eq_sr (fun e => h2 (by rw [← h1.2, ← e]; exact ht))⟩
/-- what a fact of kind gives -/
theorem c_agd {t a : Nat} (h : c_ag fx tg k k2) (ht : c_tg t a) (hm : t ∈ tg) (hk : h_k k a ≠ 0) : c_eq k k2 a := h.2 a ht.1 (by rw [ht.2]; exact hm) hk
theorem CL_fr {L n E : Nat} {A : Nat → Nat} (h : CL k L n E A) (a : c_eq k k2 L) (b : E ≠ 7 → c_eq k k2 E) : CL k2 L n E A := by
  obtain ⟨h1, h2, h3⟩ := h
  refine ⟨by rw [a.2.2.1]; exact h1, by rw [a.2.2.2]; exact h2, ?_⟩
  rcases h3 with h3 | ⟨t, h4, h5, h6, h7, h8⟩
  · exact Or.inl h3
  · have e := b (by have := t.1; omega)
    exact Or.inr ⟨t, by rw [e.1]; exact h4, by rw [e.2.1]; exact h5, by rw [e.2.1]; exact h6, by rw [e.2.2.2]; exact h7, by rw [e.2.2.2]; exact h8⟩
theorem CL_7 {L n E : Nat} {A : Nat → Nat} (h : CL k L n E A) (a : c_ag fx tg k k2) (hL : L ∈ fx) (h7 : 7 ∈ tg) : CL k2 L n E A := by
  refine CL_fr h (a.1 L hL) (fun hE => ?_)
  rcases h.2.2 with h3 | ⟨t, h4, _⟩
  · exact absurd h3.1 hE
  · exact c_agd a t h7 (by rw [h4]; decide)
theorem c_wd_fr {a : Nat} {x0 x1 x2 x3 x4 : Int32} (h : c_wd k a x0 x1 x2 x3 x4) (g : c_ag fx tg k k2) (hm : 6 ∈ tg) : c_wd k2 a x0 x1 x2 x3 x4 := by
  have e := c_agd g h.1 hm (by rw [h.2.1]; decide)
  unfold c_wd at *
  rw [e.1, e.2.2.1]; exact h
theorem c_ar_fr {t a : Nat} {l : List Int32} (h : c_ar k t a l) (g : c_ag fx tg k k2) (hm : t ∈ tg) : c_ar k2 t a l := by
  have e := c_agd g h.1 hm (by rw [h.2.1]; decide)
  unfold c_ar at *
  rw [e.1, e.2.1, e.2.2.1]; exact h
theorem c_pc_fr {a : Nat} {p : sP} (h : c_pc k a p) (g : c_ag fx tg k k2) (hm : 1 ∈ tg) : c_pc k2 a p := by
  have e := c_agd g h.1 hm (by rw [h.2.1]; decide)
  unfold c_pc at *
  rw [e.1, e.2.2.1]; exact h
theorem c_ps_fr {b : Nat} {l : List sP} (h : c_ps k b l) (g : c_ag fx tg k k2) (hm : 1 ∈ tg) (hm5 : 5 ∈ tg) (h17 : 17 ∈ fx) : c_ps k2 b l := by
  have e : c_eq k k2 b := by
    rcases h.1 with w | w
    · rw [w]; exact g.1 17 h17
    · exact c_agd g w hm5 (by rw [h.2.1]; decide)
  refine ⟨h.1, by rw [e.1]; exact h.2.1, by rw [e.2.1]; exact h.2.2.1, fun j p hp => ?_⟩
  obtain ⟨c, h1, h2⟩ := h.2.2.2 j p hp
  exact ⟨c, by rw [e.2.2.2]; exact h1, c_pc_fr h2 g hm⟩
theorem c_ch_fr (g : c_ag fx tg k k2) (hm : 1 ∈ tg) (hm5 : 5 ∈ tg) (hm4 : 4 ∈ tg) (h17 : 17 ∈ fx) : ∀ (l : List (Nat × List sP)) (r : Option Nat), c_ch k r l → c_ch k2 r l := by
  intro l
  induction l with
  | nil => intro r h; exact h
  | cons x t ih =>
    obtain ⟨m, q⟩ := x
    intro r h
    obtain ⟨a, b, h1, h2, h3, hm6, h4, h5, h6, h7⟩ := h
    have e := c_agd g h2 hm4 (by rw [h3]; decide)
    exact ⟨a, b, h1, h2, by rw [e.1]; exact h3, hm6, by rw [e.2.2.1]; exact h4, by rw [e.2.2.2]; exact h5, c_ps_fr h6 g hm hm5 h17, by rw [e.2.2.2]; exact ih _ h7⟩
theorem c_sl_fr {M M2 a b c : Nat} (h : c_sl k s M a b c) (g : c_ag fx tg k k2) (h2 : 2 ∈ tg) (h3 : 3 ∈ tg) (hM : M ≤ M2) (hC : sC s 2 ≤ sC s2 2) (hR : ∀ f w m, f ≤ 4 → w < sC s 2 → m ≤ M → s_sh (sR s2) f w m = s_sh (sR s) f w m) : c_sl k2 s2 M2 a b c := by
  obtain ⟨a1, a2, a3, a4, a5, a6, a7, a8⟩ := h
  have e := c_agd g a1 h2 (by rw [a2]; decide)
  have e2 := c_agd g a4 h3 (by rw [a5]; decide)
  refine ⟨a1, by rw [e.1]; exact a2, by rw [e.2.2.2]; exact a3, a4, by rw [e2.1]; exact a5, by rw [e2.2.1]; exact a6, by rw [e2.2.1]; exact a7, ?_⟩
  rcases a8 with a8 | ⟨f, w, m, b1, b2, b3, b4, b5, b6, b7⟩
  · exact Or.inl (by rw [e.2.2.1]; exact a8)
  · refine Or.inr ⟨f, w, m, b1, by omega, by omega, by rw [e.2.2.1]; exact b4, ?_⟩
    rw [hR f w m b1 b2 b3, e.2.2.1, e2.2.1, e2.2.2.1]
    exact ⟨b5, b6, b7⟩
/-- what is apart from numbers, stamps, owners, debts, groups stays -/
theorem KD_fr {M M2 : Nat} (h : KD k s M y) (g : c_ag c_fxD c_tags k k2) (hM : M ≤ M2) (hc : ∀ i, 2 ≤ i → sC s2 i = sC s i) (hf : ∀ x, x ∈ ([23, 24, 25, 26, 27, 56, 57, 58, 59, 75, 78, 81, 82, 83, 84, 85, 86, 90, 91, 92, 93, 94, 95, 96, 97, 106, 107, 108, 110, 111, 112] : List Nat) → sF s2 x = sF s x) (hr : sR s2 = sR s) (hk : sK s2 = sK s) (h0 : sC s 0 ≤ sC s2 0) : KD k2 s2 M2 y := by
  obtain ⟨h1, h2, h3, h4, h5, h6, h7, h8, h9, h10⟩ := h
  refine ⟨?_, ?_, ?_, ?_, ?_, ?_, ?_, ?_, ?_, ?_⟩
  · obtain ⟨b1, b2, b3, b4, b5, b6⟩ := h1
    refine ⟨?_, ?_, ?_, ?_, ?_, b6⟩
    · rw [hc 4 (by omega)]; exact CL_7 b1 g (by decide) (by decide)
    · rw [hc 7 (by omega)]; exact CL_7 b2 g (by decide) (by decide)
    · rw [hc 5 (by omega)]; exact CL_7 b3 g (by decide) (by decide)
    · rw [hc 6 (by omega)]; exact CL_7 b4 g (by decide) (by decide)
    · rw [hc 3 (by omega)]; exact CL_7 b5 g (by decide) (by decide)
  · refine ⟨fun i hi => ?_, fun q hq => ?_⟩
    · rw [hc 3 (by omega)] at hi
      rw [hf 23 (by decide), hf 24 (by decide), hf 25 (by decide), hf 26 (by decide), hf 27 (by decide)]
      exact c_wd_fr (h2.1 i hi) g (by decide)
    · have e : ∀ n, s_nth s2 q n = s_nth s q n := by
        intro n
        induction n with
        | zero => rfl
        | succ n ih => unfold s_nth; rw [ih, hf 24 (by decide)]
      rw [hc 3 (by omega), e, (g.1 19 (by decide)).2.2.1]
      exact h2.2 q hq
  · refine ⟨fun i hi => ?_, fun i j hi hj => ?_⟩
    · rw [hc 4 (by omega)] at hi
      obtain ⟨a1, a2, a3, a4, a5, a6, b, a7, a8⟩ := h3.1 i hi
      have e := c_agd g a1 (by decide) (by rw [a2]; decide)
      rw [hf 56 (by decide), hf 57 (by decide), hf 58 (by decide), hf 59 (by decide), hr, e.1, e.2.2.1, e.2.2.2]
      exact ⟨a1, a2, a3, a4, a5, a6, b, a7, c_ar_fr a8 g (by decide)⟩
    · rw [hc 4 (by omega)] at hi hj
      exact h3.2 i j hi hj
  · refine ⟨fun i hi => ?_, fun i j hi hj => ?_⟩
    · rw [hc 7 (by omega)] at hi
      obtain ⟨a1, a2, a3, a4, a5, b, a7, a8⟩ := h4.1 i hi
      have e := c_agd g a1 (by decide) (by rw [a2]; decide)
      rw [hf 75 (by decide), hf 78 (by decide), hk, e.1, e.2.2.1, e.2.2.2]
      exact ⟨a1, a2, a3, a4, a5, b, a7, c_ar_fr a8 g (by decide)⟩
    · rw [hc 7 (by omega)] at hi hj
      exact h4.2 i j hi hj
  · intro i hi
    rw [hc 5 (by omega)] at hi
    obtain ⟨a1, a2, a3, a4, ⟨b, a5, a6⟩, c, a7, a8⟩ := h5 i hi
    have e := c_agd g a1 (by decide) (by rw [a2]; decide)
    rw [hf 81 (by decide), hf 82 (by decide), hf 83 (by decide), hf 84 (by decide), hf 85 (by decide), hf 86 (by decide), e.1, e.2.2.1, e.2.2.2]
    exact ⟨a1, a2, a3, a4, ⟨b, a5, c_ar_fr a6 g (by decide)⟩, c, a7, c_ar_fr a8 g (by decide)⟩
  · refine ⟨fun i hi => ?_, fun i j hi hj => ?_⟩
    · rw [hc 6 (by omega)] at hi
      have a := h6.1 i hi
      have e := c_agd g a.1 (by decide) (by rw [a.2.1]; decide)
      rw [hf 90 (by decide), hf 91 (by decide), hf 92 (by decide), hf 93 (by decide), hf 94 (by decide), hf 95 (by decide), hf 96 (by decide), hf 97 (by decide), e.1, e.2.2.1]
      exact a
    · rw [hc 6 (by omega)] at hi hj
      exact h6.2 i j hi hj
  · intro q hq
    have e1 : c_eq k k2 (52 + q) := g.1 _ (by rcases (show q = 0 ∨ q = 1 ∨ q = 2 ∨ q = 3 by omega) with rfl | rfl | rfl | rfl <;> decide)
    have e2 : c_eq k k2 (56 + q) := g.1 _ (by rcases (show q = 0 ∨ q = 1 ∨ q = 2 ∨ q = 3 by omega) with rfl | rfl | rfl | rfl <;> decide)
    rw [hf 110 (by decide), hf 111 (by decide), hf 112 (by decide), e1.2.2.1, e2.2.2.1]
    exact h7 q hq
  · intro i hi
    rw [hc 8 (by omega)] at hi
    rw [hf 106 (by decide), hf 107 (by decide), hf 108 (by decide), (g.1 13 (by decide)).2.2.1]
    exact h8 i hi
  · intro w hw
    rw [hc 2 (by omega)] at hw
    rw [hr, (g.1 16 (by decide)).2.2.2]
    exact ⟨⟨(h9 w hw).1.1, by have := (h9 w hw).1.2; omega⟩, c_ch_fr g (by decide) (by decide) (by decide) (by decide) _ _ (h9 w hw).2.1, (h9 w hw).2.2⟩
  · refine ⟨fun i hi => ?_, h10.2⟩
    rw [(g.1 20 (by decide)).2.2.2]
    rcases h10.1 i hi with a | ⟨a1, a2, a3⟩
    · exact Or.inl a
    · exact Or.inr ⟨a1, a2, c_sl_fr a3 g (by decide) (by decide) hM (by rw [hc 2 (by omega)]; exact Nat.le_refl _) (fun f w m _ _ _ => by rw [hr])⟩
end CI
