section CSh
variable {k k2 k3 : h_S} {s : sA} {y : c_Y} {M : Nat} {X : List Nat}
/-- writes in arrays of the list alone -/
def c_ww (X : List Nat) (k k2 : h_S) : Prop := c_F k2 ∧ ∀ a, a ∉ X → c_eq k k2 a
theorem c_ww0 (h : c_F k) : c_ww X k k := ⟨h, fun _ _ => c_eq0⟩
theorem c_wwt (h : c_ww X k k2) (h2 : c_ww X k2 k3) : c_ww X k k3 := ⟨h2.1, fun a ha => c_eqt (h.2 a ha) (h2.2 a ha)⟩
theorem c_wwS {Y : List Nat} (h : c_ww X k k2) (hs : ∀ a, a ∈ X → a ∈ Y) : c_ww Y k k2 := ⟨h.1, fun a ha => h.2 a (fun q => ha (hs a q))⟩
theorem c_ww_si {a j : Nat} {v : Int32} (h : c_F k) (ha : a ∈ X) : c_ww X k (h_si k a j v) := ⟨h, fun b hb => c_eq_si (fun e => hb (by rw [e]; exact ha))⟩
theorem c_ww_af {a : Nat} {g : Nat → Int32} (h : c_F k) (ha : a ∈ X) : c_ww X k (h_af k a g) := ⟨h, fun b hb => c_eq_af (fun e => hb (by rw [e]; exact ha))⟩
theorem CB_ww (h : CBM k s M y) (w : c_ww X k k2) (hX : ∀ a, a ∈ X → a < 128 ∧ a ∉ ([0, 1, 2, 3, 4, 5, 6, 8, 11, 13, 15, 16, 17, 18, 19, 20, 52, 53, 54, 55, 56, 57, 58, 59] : List Nat)) : CBM k2 s M y := by
  refine CB_ag h w.1 ⟨fun a ha => w.2 a (fun q => (hX a q).2 ?_), fun a ha _ _ => w.2 a (fun q => by have := (hX a q).1; omega)⟩ (by rw [(w.2 3 (fun q => (hX 3 q).2 (by decide))).2.2.1])
  simp only [List.mem_cons, List.not_mem_nil, or_false] at ha ⊢
  omega
theorem n_and31 {j : Nat} (h : j < 2 ^ 31) : nI j &&& 31 = nI (j % 32) := by
  apply Int32.toBitVec_inj.mp
  apply BitVec.eq_of_toNat_eq
  show ((BitVec.ofNat 32 j) &&& (31 : BitVec 32)).toNat = (BitVec.ofNat 32 (j % 32)).toNat
  rw [BitVec.toNat_and, BitVec.toNat_ofNat, BitVec.toNat_ofNat, Nat.mod_eq_of_lt (by omega), Nat.mod_eq_of_lt (a := j % 32) (by omega)]
  exact Nat.and_two_pow_sub_one_eq_mod j 5
theorem n_and1 {j : Nat} (h : j < 2 ^ 31) : nI j &&& 1 = nI (j % 2) := by
  apply Int32.toBitVec_inj.mp
  apply BitVec.eq_of_toNat_eq
  show ((BitVec.ofNat 32 j) &&& (1 : BitVec 32)).toNat = (BitVec.ofNat 32 (j % 2)).toNat
  rw [BitVec.toNat_and, BitVec.toNat_ofNat, BitVec.toNat_ofNat, Nat.mod_eq_of_lt (by omega), Nat.mod_eq_of_lt (a := j % 2) (by omega)]
  exact Nat.and_two_pow_sub_one_eq_mod j 1
theorem n_shr5 {n : Nat} (hn : n < 2 ^ 31) : nI n >>> ((5 : Int32) &&& 31) = nI (n / 32) := by
  apply Int32.toInt_inj.mp
  rw [q_nI (by omega)]
  show (nI n >>> (nI 5 &&& 31)).toBitVec.toInt = _
  rw [Int32.toBitVec_shiftRight, BitVec.sshiftRight_eq', b_s32 ⟨5, by decide⟩, BitVec.toInt_sshiftRight, Int.shiftRight_eq_div_pow]
  have e : (nI n).toBitVec.toInt = n := q_nI hn
  rw [e]
  rfl
theorem b_set_s1 {Z c : Int32} {P : Nat → Prop} {C : Prop} (h : b_set Z P) (hc : c = q_b C) : b_set ((Z <<< ((1 : Int32) &&& 31)) ||| c) (fun i => (i = 0 ∧ C) ∨ (1 ≤ i ∧ P (i - 1))) := by
  intro i hi
  rw [Int32.toBitVec_or, BitVec.getLsbD_or, show (1 : Int32) &&& 31 = nI 1 &&& 31 from rfl, b_shl Z (by decide : 1 < 32), BitVec.getLsbD_shiftLeft, Bool.or_eq_true, hc]
  have hq : (q_b C).toBitVec.getLsbD i = true ↔ (i = 0 ∧ C) := by
    by_cases q : C
    · rw [q_b1 q, b_1]; simp [q]
    · rw [q_b0 q, b_0]; simp [q]
  rw [hq]
  have := h (i - 1) (by omega)
  simp only [Bool.and_eq_true, decide_eq_true_eq, Bool.not_eq_true', decide_eq_false_iff_not, this]
  constructor
  · rintro (⟨⟨_, q1⟩, q2⟩ | q)
    · exact Or.inr ⟨by omega, q2⟩
    · exact Or.inl q
  · rintro (q | ⟨q1, q2⟩)
    · exact Or.inr q
    · exact Or.inl ⟨⟨hi, by omega⟩, q2⟩
/-- a row lies in an array, from its start on -/
def c_rw (k : h_S) (a : Nat) (L : List Int32) : Prop := h_k k a = 1 ∧ L.length ≤ h_n k a ∧ ∀ (j : Nat) (x : Int32), L[j]? = some x → h_i k a j = x
theorem c_rw_ww {a : Nat} {L : List Int32} (h : c_rw k a L) (w : c_ww X k k2) (ha : a ∉ X) : c_rw k2 a L := by
  have e := w.2 a ha
  exact ⟨by rw [e.1]; exact h.1, by rw [e.2.1]; exact h.2.1, by rw [e.2.2.1]; exact h.2.2⟩
def c_W3 : List Nat := [31, 32, 33]
section G
variable {A B : List Int32} {ra rb : Nat}
/-- the place of the base's row a is cut ahead of the side's b -/
def s_cut2 (A B : List Int32) (a b : Nat) : Prop := s_T A B a (b + 1) ≤ s_T A B (a + 1) b
def c_bt (k : h_S) (A B : List Int32) (a b : Nat) : Prop := (h_i k 33 (a * 10 + b / 32)).toBitVec.getLsbD (b % 32) = true ↔ s_cut2 A B a b
/-- the rows and the bits as far as they are laid -/
def c_tb (k : h_S) (A B : List Int32) (i d : Nat) : Prop := (∀ b, b ≤ B.length → h_i k (31 + (i + 1) % 2) b = nI (s_T A B (i + 1) b)) ∧ (∀ b, d ≤ b → b ≤ B.length → h_i k (31 + i % 2) b = nI (s_T A B i b)) ∧ (∀ a b, i < a → a < A.length → b < B.length → c_bt k A B a b) ∧ (∀ b, b < B.length → d ≤ 32 * (b / 32) → c_bt k A B i b)
theorem ci_alike (x z : Int32) : fn_X9_alike x z k = some (q_b (x = z ∧ ¬ x = -7), k) := by
  unfold fn_X9_alike
  by_cases c : x = z
  · rw [fg_if_1 c]
    by_cases c2 : x = -7
    · rw [fg_if_1 c2, q_b0 (fun q => q.2 c2)]
    · rw [fg_if_0 c2, q_b1 ⟨c, c2⟩]
  · rw [fg_if_0 c, q_b0 (fun q => c q.1)]
theorem ci_shared_61 (hA : A.length ≤ 300) (hB : B.length ≤ 300) (na : ra ∉ c_W3) (nb : rb ∉ c_W3) {i : Nat} (hi : i < A.length) {K : Option Nat → Option Nat → Int32 → Int32 → h_S → Option ((Int32) × h_S)} : ∀ (d N : Nat) (k : h_S) (Z : Int32), d ≤ B.length → d < N → c_F k → c_rw k ra A → c_rw k rb B → c_tb k A B i d → (∀ e, d = e + 1 → b_set Z (fun b => e + 1 + b < B.length ∧ (e + 1 + b) / 32 = e / 32 ∧ s_cut2 A B i (e + 1 + b))) → ∃ k2, fn_X9_sharedOf_61 K N (some ra) (some rb) (nI B.length) (nI i) (some (31 + (i + 1) % 2)) (some (31 + i % 2)) Z (nI d + (-1)) k = K (some ra) (some rb) (nI B.length) (nI i + (-1)) k2 ∧ c_ww c_W3 k k2 ∧ c_tb k2 A B i 0 := by
  intro d
  induction d with
  | zero =>
    intro N k Z hd hN hF h1 h2 h3 hZ
    obtain ⟨N, rfl⟩ : ∃ m, N = m + 1 := ⟨N - 1, by omega⟩
    refine ⟨k, ?_, c_ww0 hF, h3⟩
    show fn_X9_sharedOf_61b _ _ _ _ _ _ _ _ _ _ _ = _
    unfold fn_X9_sharedOf_61b
    rw [fg_if_1 (by decide)]
  | succ d ih =>
    intro N k Z hd hN hF h1 h2 h3 hZ
    obtain ⟨N, rfl⟩ : ∃ m, N = m + 1 := ⟨N - 1, by omega⟩
    have hZ := hZ d rfl
    have ld : d < B.length := by omega
    obtain ⟨t1, t2, t3, t4⟩ := h3
    have kb : h_k k (31 + (i + 1) % 2) = 1 ∧ h_n k (31 + (i + 1) % 2) = 301 := by
      rcases (show (i + 1) % 2 = 0 ∨ (i + 1) % 2 = 1 by omega) with e | e
      · rw [e]; exact ⟨cf_k hF rfl (by decide), cf_n (kd := 1) hF rfl (by decide) rfl⟩
      · rw [e]; exact ⟨cf_k hF rfl (by decide), cf_n (kd := 1) hF rfl (by decide) rfl⟩
    have kh : h_k k (31 + i % 2) = 1 ∧ h_n k (31 + i % 2) = 301 := by
      rcases (show i % 2 = 0 ∨ i % 2 = 1 by omega) with e | e
      · rw [e]; exact ⟨cf_k hF rfl (by decide), cf_n (kd := 1) hF rfl (by decide) rfl⟩
      · rw [e]; exact ⟨cf_k hF rfl (by decide), cf_n (kd := 1) hF rfl (by decide) rfl⟩
    have gd : vp_in (nI d) 301 := (n_vp (by omega)).mpr (by omega)
    have gd1 : vp_in (nI (d + 1)) 301 := (n_vp (by omega)).mpr (by omega)
    have ga : vp_in (nI i) (h_n k ra) := (n_vp (by omega)).mpr (by have := h1.2.1; omega)
    have gb : vp_in (nI d) (h_n k rb) := (n_vp (by omega)).mpr (by have := h2.2.1; omega)
    have ea := h1.2.2 i _ (List.getElem?_eq_getElem hi)
    have eb := h2.2.2 d _ (List.getElem?_eq_getElem ld)
    have b1 := s_T_le (A := A) (B := B) (i + 1) d
    have b2 := s_T_le (A := A) (B := B) i (d + 1)
    have ix : h_ix (nI d) = d := q_nIx (by omega)
    have ix1 : h_ix (nI (d + 1)) = d + 1 := q_nIx (by omega)
    have ixi : h_ix (nI i) = i := q_nIx (by omega)
    -- what is laid at d, and the bit
    have fin : ∀ c : Int32, c = q_b (s_cut2 A B i d) → ∃ k2, fn_X9_sharedOf_138 K (fn_X9_sharedOf_61 K N) (some ra) (some rb) (nI B.length) (nI i) (some (31 + (i + 1) % 2)) (some (31 + i % 2)) Z (nI d) c (nI (s_T A B i d)) (nI d) (some (31 + i % 2)) k = K (some ra) (some rb) (nI B.length) (nI i + (-1)) k2 ∧ c_ww c_W3 k k2 ∧ c_tb k2 A B i 0 := by
      intro c hc
      obtain ⟨k1, ek1⟩ : ∃ k1, k1 = h_si k (31 + i % 2) d (nI (s_T A B i d)) := ⟨_, rfl⟩
      have hx : 31 + i % 2 ∈ c_W3 := by
        rcases (show i % 2 = 0 ∨ i % 2 = 1 by omega) with e | e <;> rw [e] <;> decide
      have w1 : c_ww c_W3 k k1 := by rw [ek1]; exact c_ww_si hF hx
      have i33 : h_i k1 33 = h_i k 33 := by rw [ek1]; exact (c_eq_si (by omega)).2.2.1
      have ibl : h_i k1 (31 + (i + 1) % 2) = h_i k (31 + (i + 1) % 2) := by rw [ek1]; exact (c_eq_si (by omega)).2.2.1
      have ihr : ∀ b, d ≤ b → b ≤ B.length → h_i k1 (31 + i % 2) b = nI (s_T A B i b) := fun b h4 h5 => by
        rw [ek1, h_i_si]
        by_cases e : b = d
        · rw [if_pos ⟨rfl, e⟩, e]
        · rw [if_neg (fun q => e q.2)]; exact t2 b (by omega) h5
      have hZ2 := b_set_s1 hZ hc
      have hZ3 : b_set ((Z <<< ((1 : Int32) &&& 31)) ||| c) (fun b => d + b < B.length ∧ (d + b) / 32 = d / 32 ∧ s_cut2 A B i (d + b)) := b_set_c hZ2 (fun b hb => by
        constructor
        · rintro (⟨q1, q2⟩ | ⟨q1, q2, q3, q4⟩)
          · subst q1; exact ⟨ld, rfl, q2⟩
          · have : d + 1 + (b - 1) = d + b := by omega
            rw [this] at q2 q3 q4
            exact ⟨q2, q3, q4⟩
        · rintro ⟨q2, q3, q4⟩
          by_cases e : b = 0
          · subst e; exact Or.inl ⟨rfl, q4⟩
          · refine Or.inr ⟨by omega, ?_⟩
            have : d + 1 + (b - 1) = d + b := by omega
            rw [this]
            exact ⟨q2, q3, q4⟩)
      have e153 : ∃ k2, fn_X9_sharedOf_153 K (fn_X9_sharedOf_61 K N) (some ra) (some rb) (nI B.length) (nI i) (some (31 + (i + 1) % 2)) (some (31 + i % 2)) (nI d) c (Z <<< ((1 : Int32) &&& 31)) k1 = K (some ra) (some rb) (nI B.length) (nI i + (-1)) k2 ∧ c_ww c_W3 k k2 ∧ c_tb k2 A B i 0 := by
        unfold fn_X9_sharedOf_153
        rw [n_and31 (by omega), n_shr5 (by omega), show (10 : Int32) = nI 10 from rfl, n_mul, n_add]
        by_cases cm : d % 32 = 0
        · have gi : vp_in (nI (i * 10 + d / 32)) 3000 := (n_vp (by omega)).mpr (by omega)
          rw [fg_if_1 (by rw [cm]; rfl), fg_g_1 gi, fg_let_1, q_nIx (by omega)]
          obtain ⟨k2, ek2⟩ : ∃ k2, k2 = h_si k1 33 (i * 10 + d / 32) ((Z <<< ((1 : Int32) &&& 31)) ||| c) := ⟨_, rfl⟩
          have w2 : c_ww c_W3 k1 k2 := by rw [ek2]; exact c_ww_si w1.1 (by decide)
          have w12 := c_wwt w1 w2
          have e31 : ∀ a, a ≠ 33 → h_i k2 a = h_i k1 a := fun a ha => by rw [ek2]; exact (c_eq_si ha).2.2.1
          have e33 : ∀ q, h_i k2 33 q = if q = i * 10 + d / 32 then ((Z <<< ((1 : Int32) &&& 31)) ||| c) else h_i k 33 q := fun q => by
            rw [ek2, h_i_si, i33]
            by_cases e : q = i * 10 + d / 32
            · rw [if_pos ⟨rfl, e⟩, if_pos e]
            · rw [if_neg (fun z => e z.2), if_neg e]
          obtain ⟨k3, m1, m2, m3⟩ := ih N k2 0 (by omega) (by omega) w2.1 (c_rw_ww h1 w12 na) (c_rw_ww h2 w12 nb) ⟨fun b hb => by rw [e31 _ (by omega), ibl]; exact t1 b hb, fun b h4 h5 => by rw [e31 _ (by omega)]; exact ihr b h4 h5, fun a b h4 h5 h6 => by unfold c_bt; rw [e33, if_neg (by omega)]; exact t3 a b h4 h5 h6, fun b h4 h5 => by
            unfold c_bt
            rw [e33]
            by_cases e : b / 32 = d / 32
            · rw [if_pos (by omega), hZ3 (b % 32) (by omega)]
              have : d + b % 32 = b := by omega
              show (d + b % 32 < B.length ∧ (d + b % 32) / 32 = d / 32 ∧ s_cut2 A B i (d + b % 32)) ↔ _
              rw [this]
              exact ⟨fun q => q.2.2, fun q => ⟨h4, e, q⟩⟩
            · rw [if_neg (by omega)]
              exact t4 b h4 (by omega)⟩ (fun e he => b_set_c b_set0 (fun b _ => ⟨fun q => q.elim, fun q => by have := q.2.1; omega⟩))
          rw [← ek2]
          exact ⟨k3, m1, c_wwt w12 m2, m3⟩
        · rw [fg_if_0 (fun q => by have := (n_eq (a := d % 32) (b := 0) (by omega) (by omega)).mp q; omega)]
          obtain ⟨k3, m1, m2, m3⟩ := ih N k1 ((Z <<< ((1 : Int32) &&& 31)) ||| c) (by omega) (by omega) w1.1 (c_rw_ww h1 w1 na) (c_rw_ww h2 w1 nb) ⟨fun b hb => by rw [ibl]; exact t1 b hb, ihr, fun a b h4 h5 h6 => by unfold c_bt; rw [i33]; exact t3 a b h4 h5 h6, fun b h4 h5 => by unfold c_bt; rw [i33]; exact t4 b h4 (by omega)⟩ (fun e he => b_set_c hZ3 (fun b _ => by
            rw [show e + 1 + b = d + b by omega, show e / 32 = d / 32 by omega]))
          exact ⟨k3, m1, c_wwt w1 m2, m3⟩
      unfold fn_X9_sharedOf_138
      rw [fg_o_1, fg_g_1 kh.1, kh.2, fg_g_1 gd, fg_let_1, ix, ← ek1]
      by_cases q : s_cut2 A B i d
      · rw [q_b1 q] at hc
        rw [hc] at e153 ⊢
        rw [fg_if_0 (by decide)]
        exact e153
      · rw [q_b0 q] at hc
        rw [hc] at e153 ⊢
        rw [fg_if_1 rfl]
        exact e153
    have e86 : ∀ c : Int32, c = q_b (s_cut2 A B i d) → ∃ k2, fn_X9_sharedOf_86 K (fn_X9_sharedOf_61 K N) (some ra) (some rb) (nI B.length) (nI i) (some (31 + (i + 1) % 2)) (some (31 + i % 2)) Z (nI d) c k = K (some ra) (some rb) (nI B.length) (nI i + (-1)) k2 ∧ c_ww c_W3 k k2 ∧ c_tb k2 A B i 0 := by
      intro c hc
      have fin := fin c hc
      have eT := s_T_c hi ld
      unfold fn_X9_sharedOf_86
      rw [fg_o_1, fg_g_1 h1.1, fg_g_1 ga, fg_o_1, fg_g_1 h2.1, fg_g_1 gb, ix, ixi, ea, eb, ci_alike, fg_b_1, q_b_if, fg_o_1, fg_g_1 kb.1, kb.2, n_p1, fg_g_1 gd1, ix1, t1 _ (by omega), fg_o_1, fg_g_1 kh.1, kh.2, fg_g_1 gd1, t2 _ (by omega) (by omega), fg_o_1, fg_g_1 kb.1, kb.2, fg_g_1 gd, t1 _ (by omega), n_p1]
      by_cases c1 : A[i] = B[d] ∧ ¬ A[i] = -7
      · rw [if_pos c1] at eT
        rw [fg_if_1 c1, ← eT]
        exact fin
      · rw [if_neg c1] at eT
        rw [fg_if_0 c1]
        by_cases q : s_cut2 A B i d
        · have q' : s_T A B i (d + 1) ≤ s_T A B (i + 1) d := q
          rw [Nat.max_eq_left q'] at eT
          rw [fg_if_0 (by rw [hc, q_b1 q]; decide), ← eT]
          exact fin
        · have q' : ¬ s_T A B i (d + 1) ≤ s_T A B (i + 1) d := q
          rw [Nat.max_eq_right (by omega)] at eT
          rw [fg_if_1 (by rw [hc, q_b0 q]), ← eT]
          exact fin
    rw [n_p1m]
    show ∃ k2, fn_X9_sharedOf_61b K (fn_X9_sharedOf_61 K N) _ _ _ _ _ _ _ _ _ = _ ∧ _
    unfold fn_X9_sharedOf_61b
    rw [fg_if_0 (n_neg (by omega)), fg_o_1, fg_g_1 kb.1, kb.2, fg_g_1 gd, fg_o_1, fg_g_1 kh.1, kh.2, n_p1, fg_g_1 gd1, ix, ix1, t1 _ (by omega), t2 _ (by omega) (by omega)]
    by_cases q : s_T A B (i + 1) d < s_T A B i (d + 1)
    · rw [fg_if_1 ((n_lt (by omega) (by omega)).mpr q)]
      exact e86 0 (by rw [q_b0]; unfold s_cut2; omega)
    · rw [fg_if_0 (fun z => q ((n_lt (by omega) (by omega)).mp z))]
      exact e86 1 (by rw [q_b1]; unfold s_cut2; omega)
theorem ci_shared_17 (hA : A.length ≤ 300) (hB : B.length ≤ 300) (na : ra ∉ c_W3) (nb : rb ∉ c_W3) : ∀ (e N : Nat) (k : h_S), e ≤ A.length → e < N → c_F k → c_rw k ra A → c_rw k rb B → (∀ b, b ≤ B.length → h_i k (31 + e % 2) b = nI (s_T A B e b)) → (∀ a b, e ≤ a → a < A.length → b < B.length → c_bt k A B a b) → ∃ k2, fn_X9_sharedOf_17 N (some ra) (some rb) (nI B.length) (nI e + (-1)) k = some (nI (s_lc A B), k2) ∧ c_ww c_W3 k k2 ∧ (∀ a b, a < A.length → b < B.length → c_bt k2 A B a b) := by
  intro e
  induction e with
  | zero =>
    intro N k he hN hF h1 h2 h3 h4
    obtain ⟨N, rfl⟩ : ∃ m, N = m + 1 := ⟨N - 1, by omega⟩
    refine ⟨k, ?_, c_ww0 hF, fun a b h5 h6 => h4 a b (Nat.zero_le _) h5 h6⟩
    show fn_X9_sharedOf_17b _ _ _ _ _ _ = _
    unfold fn_X9_sharedOf_17b
    have r0 : h_r k 30 (h_ix (0 : Int32)) = some 31 := cf_r hF rfl
    have g0 : vp_in (0 : Int32) 2 := (n_vp (k := 0) (n := 2) (by decide)).mpr (by decide)
    have g1 : vp_in (0 : Int32) (h_n k 31) := by rw [cf_n (kd := 1) (n := 301) hF rfl (by decide) rfl]; exact (n_vp (k := 0) (n := 301) (by decide)).mpr (by decide)
    have e0 : h_i k 31 (h_ix (0 : Int32)) = nI (s_lc A B) := h3 0 (Nat.zero_le _)
    have k31 : h_k k 31 = 1 := cf_k hF rfl (by decide)
    rw [fg_if_1 (by decide), fg_g_1 g0, r0, fg_o_1, fg_g_1 k31, fg_g_1 g1, e0]
  | succ e ih =>
    intro N k he hN hF h1 h2 h3 h4
    obtain ⟨N, rfl⟩ : ∃ m, N = m + 1 := ⟨N - 1, by omega⟩
    have rr : ∀ p, p < 2 → h_r k 30 p = some (31 + p) := fun p hp => by
      rcases (show p = 0 ∨ p = 1 by omega) with rfl | rfl
      · exact cf_r hF rfl
      · exact cf_r hF rfl
    have kh : h_k k (31 + e % 2) = 1 ∧ h_n k (31 + e % 2) = 301 := by
      rcases (show e % 2 = 0 ∨ e % 2 = 1 by omega) with q | q
      · rw [q]; exact ⟨cf_k hF rfl (by decide), cf_n (kd := 1) hF rfl (by decide) rfl⟩
      · rw [q]; exact ⟨cf_k hF rfl (by decide), cf_n (kd := 1) hF rfl (by decide) rfl⟩
    have hx : 31 + e % 2 ∈ c_W3 := by
      rcases (show e % 2 = 0 ∨ e % 2 = 1 by omega) with q | q <;> rw [q] <;> decide
    obtain ⟨k1, ek1⟩ : ∃ k1, k1 = h_si k (31 + e % 2) B.length 0 := ⟨_, rfl⟩
    have w1 : c_ww c_W3 k k1 := by rw [ek1]; exact c_ww_si hF hx
    have i33 : h_i k1 33 = h_i k 33 := by rw [ek1]; exact (c_eq_si (by omega)).2.2.1
    have ibl : h_i k1 (31 + (e + 1) % 2) = h_i k (31 + (e + 1) % 2) := by rw [ek1]; exact (c_eq_si (by omega)).2.2.1
    obtain ⟨k2, m1, m2, m3⟩ := ci_shared_61 hA hB na nb (i := e) (by omega) (K := fn_X9_sharedOf_17 N) B.length g_N k1 0 (Nat.le_refl _) (by have := g_N_le; omega) w1.1 (c_rw_ww h1 w1 na) (c_rw_ww h2 w1 nb) ⟨fun b hb => by rw [ibl]; exact h3 b hb, fun b h5 h6 => by
        have : b = B.length := by omega
        rw [ek1, this, h_i_si, if_pos ⟨rfl, rfl⟩, s_T_2 (Nat.le_refl _)]
        rfl, fun a b h5 h6 h7 => by unfold c_bt; rw [i33]; exact h4 a b (by omega) h6 h7, fun b h5 h6 => by omega⟩ (fun q hq => b_set_c b_set0 (fun b _ => ⟨fun z => z.elim, fun z => by have := z.1; omega⟩))
    have w12 := c_wwt w1 m2
    obtain ⟨k3, n1, n2, n3⟩ := ih N k2 (by omega) (by omega) w12.1 (c_rw_ww h1 w12 na) (c_rw_ww h2 w12 nb) (fun b hb => m3.2.1 b (Nat.zero_le _) hb) (fun a b h5 h6 h7 => by
      by_cases q : a = e
      · rw [q]; exact m3.2.2.2 b h7 (Nat.zero_le _)
      · exact m3.2.2.1 a b (by omega) h6 h7)
    refine ⟨k3, ?_, c_wwt w12 n2, n3⟩
    rw [n_p1m]
    show fn_X9_sharedOf_17b (fn_X9_sharedOf_17 N) _ _ _ _ _ = _
    unfold fn_X9_sharedOf_17b
    have gp : ∀ p, vp_in (nI (p % 2)) 2 := fun p => (n_vp (by omega)).mpr (by omega)
    rw [fg_if_0 (n_neg (by omega)), n_p1, n_and1 (by omega), n_and1 (by omega), fg_g_1 (gp _), fg_let_1, fg_g_1 (gp _), fg_let_1, q_nIx (show (e + 1) % 2 < 2 ^ 31 by omega), q_nIx (show e % 2 < 2 ^ 31 by omega), rr ((e + 1) % 2) (by omega), rr (e % 2) (by omega), fg_o_1, fg_g_1 kh.1, kh.2, fg_g_1 ((n_vp (by omega)).mpr (by omega)), fg_let_1, q_nIx (show B.length < 2 ^ 31 by omega), ← ek1, ← q_nIm]
    exact m1.trans n1
theorem ci_sharedOf (hA : A.length ≤ 300) (hB : B.length ≤ 300) (na : ra ∉ c_W3) (nb : rb ∉ c_W3) (hF : c_F k) (h1 : c_rw k ra A) (h2 : c_rw k rb B) : ∃ k2, fn_X9_sharedOf (some ra) (nI A.length) (some rb) (nI B.length) k = some (nI (s_lc A B), k2) ∧ c_ww c_W3 k k2 ∧ (∀ a b, a < A.length → b < B.length → c_bt k2 A B a b) := by
  have rr : ∀ p, p < 2 → h_r k 30 p = some (31 + p) := fun p hp => by
    rcases (show p = 0 ∨ p = 1 by omega) with rfl | rfl
    · exact cf_r hF rfl
    · exact cf_r hF rfl
  have kh : h_k k (31 + A.length % 2) = 1 ∧ h_n k (31 + A.length % 2) = 301 := by
    rcases (show A.length % 2 = 0 ∨ A.length % 2 = 1 by omega) with q | q
    · rw [q]; exact ⟨cf_k hF rfl (by decide), cf_n (kd := 1) hF rfl (by decide) rfl⟩
    · rw [q]; exact ⟨cf_k hF rfl (by decide), cf_n (kd := 1) hF rfl (by decide) rfl⟩
  have hx : 31 + A.length % 2 ∈ c_W3 := by
    rcases (show A.length % 2 = 0 ∨ A.length % 2 = 1 by omega) with q | q <;> rw [q] <;> decide
  have w1 : c_ww c_W3 k (h_af k (31 + A.length % 2) (fun x => if x < h_n k (31 + A.length % 2) then 0 else h_i k (31 + A.length % 2) x)) := c_ww_af hF hx
  obtain ⟨k2, m1, m2, m3⟩ := ci_shared_17 hA hB na nb A.length g_N _ (Nat.le_refl _) (by have := g_N_le; omega) w1.1 (c_rw_ww h1 w1 na) (c_rw_ww h2 w1 nb) (fun b hb => by
    rw [h_i_af, if_pos rfl, kh.2, if_pos (by omega), s_T_1 (Nat.le_refl _)]
    rfl) (fun a b h5 h6 h7 => by omega)
  refine ⟨k2, ?_, c_wwt w1 m2, m3⟩
  unfold fn_X9_sharedOf
  rw [n_and1 (by omega), fg_g_1 ((n_vp (by omega)).mpr (by omega)), q_nIx (by omega), rr _ (by omega), ci_fill kh.1 (by rw [kh.2]; decide), fg_b_1, ← q_nIm]
  exact m1
end G
end CSh
