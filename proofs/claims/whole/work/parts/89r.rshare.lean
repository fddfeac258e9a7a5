section RSh
variable {t T : r_T} {s : sA} {A B : List Int32}
/-- the table as far as it is laid: rows behind i, of the row i from d on -/
def r_tab (T : r_T) (A B : List Int32) (i d : Nat) : Prop := (∀ a b, i < a → a ≤ A.length → b ≤ B.length → T.2 64 (301 * a + b) = nI (s_T A B a b)) ∧ (∀ b, d ≤ b → b ≤ B.length → T.2 64 (301 * i + b) = nI (s_T A B i b))
theorem r_tab_w {i d : Nat} (hB : B.length ≤ 300) (hd : d ≤ 300) (h : r_tab T A B i (d + 1)) : r_tab (rt_A T 64 (301 * i + d) (nI (s_T A B i d))) A B i d := by
  refine ⟨fun a b h1 h2 h3 => ?_, fun b h1 h2 => ?_⟩
  · rw [rt_AA, if_pos rfl, if_neg (by omega)]
    exact h.1 a b h1 h2 h3
  · rw [rt_AA, if_pos rfl]
    by_cases e : b = d
    · rw [if_pos (by omega), e]
    · rw [if_neg (by omega)]
      exact h.2 b (by omega) h2
theorem n_p1m (k : Nat) : nI (k + 1) + (-1) = nI k := n_pm
theorem ri_layShared_14 (hA : A.length ≤ 300) (hB : B.length ≤ 300) {i : Nat} (hi : i ≤ A.length) {K : Int32 → r_T → Option (Unit × r_T)} : ∀ (d N : Nat) (T : r_T), d ≤ B.length + 1 → d < N → r_in 60 62 T A → r_in 61 63 T B → r_tab T A B i d → ∃ T2, fn_X12_layShared_14 K N (nI i) (nI d + (-1)) T = K (nI i + (-1)) T2 ∧ r_fr [64] T T2 ∧ r_tab T2 A B i 0 := by
  intro d
  induction d with
  | zero =>
    intro N T hd hN h1 h2 h3
    obtain ⟨N, rfl⟩ : ∃ m, N = m + 1 := ⟨N - 1, by omega⟩
    refine ⟨T, ?_, r_fr0, h3⟩
    show fn_X12_layShared_14b _ _ _ _ _ = _
    unfold fn_X12_layShared_14b
    rw [fg_if_1 (by decide)]
  | succ d ih =>
    intro N T hd hN h1 h2 h3
    obtain ⟨N, rfl⟩ : ∃ m, N = m + 1 := ⟨N - 1, by omega⟩
    have e301 : ∀ a : Nat, (301 : Int32) * nI a = nI (301 * a) := fun a => n_mul 301 a
    have gv : vp_in (nI (301 * i + d)) 90601 := (n_vp (by omega)).mpr (by omega)
    have f0 : ∀ x, r_fr [64] T (rt_A T 64 (301 * i + d) x) := fun x => r_frA (by decide)
    have fin : ∀ x : Int32, x = nI (s_T A B i d) → ∃ T2, fn_X12_layShared_142 K (fn_X12_layShared_14 K N) (nI i) (nI d) x T = K (nI i + (-1)) T2 ∧ r_fr [64] T T2 ∧ r_tab T2 A B i 0 := by
      intro x hx
      have fx := f0 x
      obtain ⟨T2, k1, k2, k3⟩ := ih N (rt_A T 64 (301 * i + d) x) (by omega) (by omega) ⟨h1.1, fun a z hz => by rw [fx.2 62 (by decide)]; exact h1.2 a z hz⟩ ⟨h2.1, fun a z hz => by rw [fx.2 63 (by decide)]; exact h2.2 a z hz⟩ (by rw [hx]; exact r_tab_w hB (by omega) h3)
      refine ⟨T2, ?_, r_frt fx k2, k3⟩
      unfold fn_X12_layShared_142
      rw [e301, n_add, fg_g_1 gv, fg_let_1, q_nIx (by omega)]
      exact k1
    rw [n_p1m]
    show ∃ T2, fn_X12_layShared_14b K (fn_X12_layShared_14 K N) _ _ _ = _ ∧ _
    unfold fn_X12_layShared_14b
    rw [fg_if_0 (n_neg (by omega)), h1.1, h2.1]
    by_cases c1 : A.length ≤ i
    · rw [fg_if_1 ((n_le (by omega) (by omega)).mpr c1)]
      exact fin 0 (by rw [s_T_1 c1]; rfl)
    · rw [fg_if_0 (fun q => c1 ((n_le (by omega) (by omega)).mp q))]
      by_cases c2 : B.length ≤ d
      · rw [fg_if_1 ((n_le (by omega) (by omega)).mpr c2)]
        exact fin 0 (by rw [s_T_2 c2]; rfl)
      · have li : i < A.length := by omega
        have ld : d < B.length := by omega
        have t1 := h3.1 (i + 1) d (by omega) (by omega) (by omega)
        have t2 := h3.2 (d + 1) (by omega) (by omega)
        have t3 := h3.1 (i + 1) (d + 1) (by omega) (by omega) (by omega)
        have g1 : vp_in (nI i) 300 := (n_vp (by omega)).mpr (by omega)
        have g2 : vp_in (nI d) 300 := (n_vp (by omega)).mpr (by omega)
        have g3 : vp_in (nI (301 * (i + 1) + d)) 90601 := (n_vp (by omega)).mpr (by omega)
        have g4 : vp_in (nI (301 * i + (d + 1))) 90601 := (n_vp (by omega)).mpr (by omega)
        have g5 : vp_in (nI (301 * (i + 1) + (d + 1))) 90601 := (n_vp (by omega)).mpr (by omega)
        have q1 : ∀ a b : Nat, nI (301 * a + b) + 1 = nI (301 * a + (b + 1)) := fun a b => by rw [n_p1, Nat.add_assoc]
        have b1 := s_T_le (A := A) (B := B) (i + 1) d
        have b2 := s_T_le (A := A) (B := B) i (d + 1)
        have b3 := s_T_le (A := A) (B := B) (i + 1) (d + 1)
        have ea := h1.2 i _ (List.getElem?_eq_getElem li)
        have eb := h2.2 d _ (List.getElem?_eq_getElem ld)
        rw [fg_if_0 (fun q => c2 ((n_le (by omega) (by omega)).mp q))]
        simp only [n_p1 i, e301, n_add, q1, fg_g_1 g1, fg_g_1 g2, fg_g_1 g3, fg_g_1 g4, fg_let_1, q_nIx (show i < 2 ^ 31 by omega), q_nIx (show d < 2 ^ 31 by omega), q_nIx (show 301 * (i + 1) + d < 2 ^ 31 by omega), q_nIx (show 301 * i + (d + 1) < 2 ^ 31 by omega), t1, t2, ea, eb]
        have eT := s_T_c li ld
        have no : ¬ (A[i] = B[d] ∧ ¬ A[i] = -7) → ∃ T2, fn_X12_layShared_98 K (fn_X12_layShared_14 K N) (nI i) (nI d) (nI (s_T A B (i + 1) d)) (nI (s_T A B i (d + 1))) T = K (nI i + (-1)) T2 ∧ r_fr [64] T T2 ∧ r_tab T2 A B i 0 := by
          intro c
          rw [if_neg c] at eT
          unfold fn_X12_layShared_98 fn_X12_layShared_99 fn_X12_layShared_141
          rw [fg_if_1 rfl]
          by_cases c5 : s_T A B (i + 1) d ≤ s_T A B i (d + 1)
          · rw [fg_if_1 ((n_le (by omega) (by omega)).mpr c5)]
            exact fin _ (by rw [eT, Nat.max_eq_right c5])
          · rw [fg_if_0 (fun q => c5 ((n_le (by omega) (by omega)).mp q))]
            exact fin _ (by rw [eT, Nat.max_eq_left (by omega)])
        by_cases c3 : A[i] = B[d]
        · rw [fg_if_1 c3]
          by_cases c4 : A[i] = -7
          · rw [fg_if_1 c4]
            exact no (fun q => q.2 c4)
          · rw [fg_if_0 c4]
            rw [if_pos ⟨c3, c4⟩] at eT
            unfold fn_X12_layShared_99 fn_X12_layShared_141
            have n1 : ¬ (1 : Int32) = 0 := by decide
            simp only [fg_if_0 n1, n_p1 i, e301, n_add, q1, fg_g_1 g5, q_nIx (show 301 * (i + 1) + (d + 1) < 2 ^ 31 by omega), t3]
            refine fin _ ?_
            rw [eT, ← n_p1]
            exact Int32.add_comm _ _
        · rw [fg_if_0 c3]
          exact no (fun q => c3 q.1)
theorem ri_layShared_5 (hA : A.length ≤ 300) (hB : B.length ≤ 300) : ∀ (e N : Nat) (T : r_T), e ≤ A.length + 1 → e < N → r_in 60 62 T A → r_in 61 63 T B → (∀ a b, e ≤ a → a ≤ A.length → b ≤ B.length → T.2 64 (301 * a + b) = nI (s_T A B a b)) → ∃ T2, fn_X12_layShared_5 N (nI e + (-1)) T = some ((), T2) ∧ r_fr [64] T T2 ∧ (∀ a b, a ≤ A.length → b ≤ B.length → T2.2 64 (301 * a + b) = nI (s_T A B a b)) := by
  intro e
  induction e with
  | zero =>
    intro N T he hN h1 h2 h3
    obtain ⟨N, rfl⟩ : ∃ m, N = m + 1 := ⟨N - 1, by omega⟩
    refine ⟨T, ?_, r_fr0, fun a b h4 h5 => h3 a b (Nat.zero_le _) h4 h5⟩
    show fn_X12_layShared_5b _ _ _ = _
    unfold fn_X12_layShared_5b
    rw [fg_if_1 (by decide)]
  | succ e ih =>
    intro N T he hN h1 h2 h3
    obtain ⟨N, rfl⟩ : ∃ m, N = m + 1 := ⟨N - 1, by omega⟩
    obtain ⟨T2, k1, k2, k3⟩ := ri_layShared_14 (K := fn_X12_layShared_5 N) hA hB (i := e) (by omega) (B.length + 1) g_N T (Nat.le_refl _) (by have := g_N_le; omega) h1 h2 ⟨fun a b h4 h5 h6 => h3 a b (by omega) h5 h6, fun b h4 h5 => by omega⟩
    obtain ⟨T3, m1, m2, m3⟩ := ih N T2 (by omega) (by omega) ⟨by rw [k2.1 60 (by decide)]; exact h1.1, fun a z hz => by rw [k2.2 62 (by decide)]; exact h1.2 a z hz⟩ ⟨by rw [k2.1 61 (by decide)]; exact h2.1, fun a z hz => by rw [k2.2 63 (by decide)]; exact h2.2 a z hz⟩ (fun a b h4 h5 h6 => by
      by_cases e5 : a = e
      · rw [e5]; exact k3.2 b (Nat.zero_le _) h6
      · exact k3.1 a b (by omega) h5 h6)
    refine ⟨T3, ?_, r_frt k2 m2, m3⟩
    rw [n_p1m]
    show fn_X12_layShared_5b (fn_X12_layShared_5 N) _ _ = _
    unfold fn_X12_layShared_5b
    rw [n_p1m] at k1
    rw [fg_if_0 (n_neg (by omega)), h2.1]
    exact k1.trans m1
theorem ri_layShared (hA : A.length ≤ 300) (hB : B.length ≤ 300) (h1 : r_in 60 62 T A) (h2 : r_in 61 63 T B) : ∃ T2, fn_X12_layShared T = some ((), T2) ∧ r_fr [64] T T2 ∧ (∀ a b, a ≤ A.length → b ≤ B.length → T2.2 64 (301 * a + b) = nI (s_T A B a b)) := by
  have := ri_layShared_5 hA hB (A.length + 1) g_N T (Nat.le_refl _) (by have := g_N_le; omega) h1 h2 (fun a b h4 h5 h6 => by omega)
  rw [n_p1m] at this
  unfold fn_X12_layShared
  rw [h1.1]
  exact this
/-- counts of words -/
def r_oft (T : r_T) (O : Nat → Nat) : Prop := ∀ x, x < 500 → T.2 65 x = nI (O x)
theorem r_oft_u {O : Nat → Nat} {x v : Nat} (h : r_oft T O) : r_oft (rt_A T 65 x (nI v)) (s_up O x v) := by
  intro z hz
  rw [rt_AA, if_pos rfl]
  unfold s_up
  by_cases e : z = x
  · rw [if_pos e, if_pos e]
  · rw [if_neg e, if_neg e]; exact h z hz
def s_wd (L : List Int32) : Prop := ∀ x, x ∈ L → x = -7 ∨ ∃ z, z < 500 ∧ x = nI z
theorem ri_inCommon_68 (hB : B.length ≤ 300) (hw : s_wd B) : ∀ (d j N c : Nat) (T : r_T) (O : Nat → Nat), j + d = B.length → d < N → r_in 61 63 T B → r_oft T O → (∀ x, O x ≤ 1000) → ∃ T2, fn_X12_inCommon_68 N (nI c) (nI j) T = some (nI (c + s_cm O (B.drop j)), T2) ∧ r_fr [65] T T2 := by
  intro d
  induction d with
  | zero =>
    intro j N c T O hj hN h1 h2 h3
    obtain ⟨N, rfl⟩ : ∃ m, N = m + 1 := ⟨N - 1, by omega⟩
    refine ⟨T, ?_, r_fr0⟩
    show fn_X12_inCommon_68b _ _ _ _ = _
    unfold fn_X12_inCommon_68b
    rw [h1.1, fg_if_1 ((n_le (by omega) (by omega)).mpr (by omega)), List.drop_eq_nil_of_le (by omega)]
    rfl
  | succ d ih =>
    intro j N c T O hj hN h1 h2 h3
    obtain ⟨N, rfl⟩ : ∃ m, N = m + 1 := ⟨N - 1, by omega⟩
    have hj2 : j < B.length := by omega
    have eb := h1.2 j _ (List.getElem?_eq_getElem hj2)
    have hm := hw _ (List.getElem_mem hj2)
    have hdr : B.drop j = B[j] :: B.drop (j + 1) := List.drop_eq_getElem_cons hj2
    generalize B[j] = x at eb hm hdr
    have g1 : vp_in (nI j) 300 := (n_vp (by omega)).mpr (by omega)
    have ecm : s_cm O (B.drop j) = if x = -7 then s_cm O (B.drop (j + 1)) else if O (h_ix x) = 0 then s_cm O (B.drop (j + 1)) else s_cm (s_up O (h_ix x) (O (h_ix x) - 1)) (B.drop (j + 1)) + 1 := by rw [hdr]; rfl
    show ∃ T2, fn_X12_inCommon_68b (fn_X12_inCommon_68 N) _ _ _ = _ ∧ _
    unfold fn_X12_inCommon_68b
    rw [h1.1, fg_if_0 (fun q => by have := (n_le (a := B.length) (b := j) (by omega) (by omega)).mp q; omega), fg_g_1 g1, q_nIx (by omega), eb, n_p1, n_p1, ecm]
    by_cases c1 : x = -7
    · rw [fg_if_1 c1, if_pos c1]
      exact ih (j + 1) N c T O (by omega) (by omega) h1 h2 h3
    · obtain ⟨z, hz, ez⟩ := hm.resolve_left c1
      have g2 : vp_in x 500 := by rw [ez]; exact (n_vp (by omega)).mpr hz
      have ix : h_ix x = z := by rw [ez, q_nIx (by omega)]
      have hO := h3 z
      rw [fg_if_0 c1, if_neg c1, fg_g_1 g1, fg_g_1 g2, fg_g_1 g1, fg_g_1 g2, fg_g_1 g2, ix, h2 z hz, fg_let_1]
      by_cases c2 : O z = 0
      · rw [fg_if_1 (by rw [c2]; decide), if_pos c2]
        exact ih (j + 1) N c T O (by omega) (by omega) h1 h2 h3
      · have n0 : ¬ nI (O z) ≤ 0 := fun q => by have := (n_le (a := O z) (b := 0) (by omega) (by omega)).mp q; omega
        have e1 : nI (O z) - 1 = nI (O z - 1) := n_sub (a := O z) (b := 1) (by omega)
        rw [fg_if_0 n0, if_neg c2, e1]
        have f0 : r_fr [65] T (rt_A T 65 z (nI (O z - 1))) := r_frA (by decide)
        obtain ⟨T2, k1, k2⟩ := ih (j + 1) N (c + 1) (rt_A T 65 z (nI (O z - 1))) (s_up O z (O z - 1)) (by omega) (by omega) ⟨h1.1, fun a q hq => by rw [f0.2 63 (by decide)]; exact h1.2 a q hq⟩ (r_oft_u h2) (fun q => by unfold s_up; split; omega; exact h3 q)
        refine ⟨T2, ?_, r_frt f0 k2⟩
        rw [k1]
        congr 3
        omega
theorem ri_inCommon_26 (hA : A.length ≤ 300) (hB : B.length ≤ 300) (hwA : s_wd A) (hwB : s_wd B) : ∀ (d j N : Nat) (T : r_T) (O : Nat → Nat), j + d = A.length → d < N → r_in 60 62 T A → r_in 61 63 T B → r_oft T O → (∀ x, O x ≤ j) → ∃ T2, fn_X12_inCommon_26 N 0 (nI j) T = some (nI (s_cm (s_oft O (A.drop j)) B), T2) ∧ r_fr [65] T T2 := by
  intro d
  induction d with
  | zero =>
    intro j N T O hj hN h1 h2 h3 h4
    obtain ⟨N, rfl⟩ : ∃ m, N = m + 1 := ⟨N - 1, by omega⟩
    obtain ⟨T2, k1, k2⟩ := ri_inCommon_68 hB hwB B.length 0 g_N 0 T O (by omega) (by have := g_N_le; omega) h2 h3 (fun x => by have := h4 x; omega)
    refine ⟨T2, ?_, k2⟩
    show fn_X12_inCommon_26b _ _ _ _ = _
    unfold fn_X12_inCommon_26b
    rw [h1.1, fg_if_1 ((n_le (by omega) (by omega)).mpr (by omega)), List.drop_eq_nil_of_le (by omega)]
    rw [Nat.zero_add] at k1
    exact k1
  | succ d ih =>
    intro j N T O hj hN h1 h2 h3 h4
    obtain ⟨N, rfl⟩ : ∃ m, N = m + 1 := ⟨N - 1, by omega⟩
    have hj2 : j < A.length := by omega
    have eb := h1.2 j _ (List.getElem?_eq_getElem hj2)
    have hm := hwA _ (List.getElem_mem hj2)
    have hdr : A.drop j = A[j] :: A.drop (j + 1) := List.drop_eq_getElem_cons hj2
    generalize A[j] = x at eb hm hdr
    have g1 : vp_in (nI j) 300 := (n_vp (by omega)).mpr (by omega)
    have eof : s_oft O (A.drop j) = if x = -7 then s_oft O (A.drop (j + 1)) else s_oft (s_up O (h_ix x) (O (h_ix x) + 1)) (A.drop (j + 1)) := by rw [hdr]; rfl
    show ∃ T2, fn_X12_inCommon_26b (fn_X12_inCommon_26 N) _ _ _ = _ ∧ _
    unfold fn_X12_inCommon_26b
    rw [h1.1, fg_if_0 (fun q => by have := (n_le (a := A.length) (b := j) (by omega) (by omega)).mp q; omega), fg_g_1 g1, q_nIx (by omega), eb, n_p1, eof]
    by_cases c1 : x = -7
    · rw [fg_if_1 c1, if_pos c1]
      exact ih (j + 1) N T O (by omega) (by omega) h1 h2 h3 (fun x => by have := h4 x; omega)
    · obtain ⟨z, hz, ez⟩ := hm.resolve_left c1
      have g2 : vp_in x 500 := by rw [ez]; exact (n_vp (by omega)).mpr hz
      have ix : h_ix x = z := by rw [ez, q_nIx (by omega)]
      have hO := h4 z
      rw [fg_if_0 c1, if_neg c1, fg_g_1 g1, fg_g_1 g2, fg_g_1 g2, ix, h3 z hz, fg_let_1, n_p1]
      have f0 : r_fr [65] T (rt_A T 65 z (nI (O z + 1))) := r_frA (by decide)
      obtain ⟨T2, k1, k2⟩ := ih (j + 1) N (rt_A T 65 z (nI (O z + 1))) (s_up O z (O z + 1)) (by omega) (by omega) ⟨h1.1, fun a q hq => by rw [f0.2 62 (by decide)]; exact h1.2 a q hq⟩ ⟨h2.1, fun a q hq => by rw [f0.2 63 (by decide)]; exact h2.2 a q hq⟩ (r_oft_u h3) (fun q => by unfold s_up; split; omega; have := h4 q; omega)
      exact ⟨T2, k1, r_frt f0 k2⟩
theorem ri_inCommon_4 (hA : A.length ≤ 300) (hB : B.length ≤ 300) (hwA : s_wd A) (hwB : s_wd B) : ∀ (d j N : Nat) (T : r_T), j + d = 500 → d < N → r_in 60 62 T A → r_in 61 63 T B → (∀ x, x < j → T.2 65 x = 0) → ∃ T2, fn_X12_inCommon_4 N 0 (nI j) T = some (nI (s_cm (s_oft (fun _ => 0) A) B), T2) ∧ r_fr [65] T T2 := by
  intro d
  induction d with
  | zero =>
    intro j N T hj hN h1 h2 h3
    obtain ⟨N, rfl⟩ : ∃ m, N = m + 1 := ⟨N - 1, by omega⟩
    show ∃ T2, fn_X12_inCommon_4b _ _ _ _ = _ ∧ _
    unfold fn_X12_inCommon_4b
    have c : (500 : Int32) ≤ nI j := (n_le (a := 500) (b := j) (by omega) (by omega)).mpr (by omega)
    rw [fg_if_1 c]
    exact ri_inCommon_26 hA hB hwA hwB A.length 0 g_N T (fun _ => 0) (by omega) (by have := g_N_le; omega) h1 h2 (fun x hx => h3 x (by omega)) (fun _ => Nat.le_refl _)
  | succ d ih =>
    intro j N T hj hN h1 h2 h3
    obtain ⟨N, rfl⟩ : ∃ m, N = m + 1 := ⟨N - 1, by omega⟩
    have c : ¬ (500 : Int32) ≤ nI j := fun q => by have := (n_le (a := 500) (b := j) (by omega) (by omega)).mp q; omega
    have f0 : r_fr [65] T (rt_A T 65 j 0) := r_frA (by decide)
    obtain ⟨T2, k1, k2⟩ := ih (j + 1) N (rt_A T 65 j 0) (by omega) (by omega) ⟨h1.1, fun a q hq => by rw [f0.2 62 (by decide)]; exact h1.2 a q hq⟩ ⟨h2.1, fun a q hq => by rw [f0.2 63 (by decide)]; exact h2.2 a q hq⟩ (fun x hx => by
      rw [rt_AA, if_pos rfl]
      by_cases e : x = j
      · rw [if_pos e]
      · rw [if_neg e]; exact h3 x (by omega))
    refine ⟨T2, ?_, r_frt f0 k2⟩
    show fn_X12_inCommon_4b (fn_X12_inCommon_4 N) _ _ _ = _
    unfold fn_X12_inCommon_4b
    rw [fg_if_0 c, fg_g_1 ((n_vp (by omega)).mpr (by omega)), fg_let_1, q_nIx (by omega), n_p1]
    exact k1
theorem s_vs_wd (v : ivc s) (vx : ivx s) (x : Nat) : s_wd (s_vs s x) := fun z hz => by
  have v3 := v.2.2.2.1
  rcases s_vs_w vx hz with q | ⟨y, y1, y2⟩
  · exact Or.inl q
  · exact Or.inr ⟨y, by omega, y2⟩
theorem rs_compare (h : RA t s) (v : ivc s) (vp : ivp s) (vv : ivv s) (vx : ivx s) (x u w : Int32) : ∃ t2, fn_X12_compare x u w t = some ((s_compare s x u w).1, t2) ∧ RA t2 (s_compare s x u w).2 := by
  unfold fn_X12_compare s_compare
  rw [ri_noVersion h v, fg_b_1, q_bn_if]
  by_cases c1 : q_in x (sC s 4)
  · rw [fg_if_1 c1, ri_noVersion h v, fg_b_1, q_bn_if]
    by_cases c2 : q_in u (sC s 4)
    · have c : q_in x (sC s 4) ∧ q_in u (sC s 4) := ⟨c1, c2⟩
      have ew : ((0 : Int64) ≤ w.toInt64 ∧ w.toInt64 ≤ 3) ↔ q_in w 4 := q_in64 w (n := 3) (by decide) rfl
      rw [fg_if_1 c2, ri_in, fg_b_1, q_bc ew, q_b_if]
      simp only [fg_if_1 c]
      by_cases c3 : q_in w 4
      · obtain ⟨e1, l1⟩ := n_in c1
        obtain ⟨e2, l2⟩ := n_in c2
        obtain ⟨T1, a1, a2, a3, a4⟩ := ri_takeOne h v vp vv l1 1
        obtain ⟨T2, b1, b2, b3, b4⟩ := ri_takeTwo a3 v vp vv l2 1
        have k1 : s_kp 1 (s_vs s (h_ix x)) = s_vs s (h_ix x) := rfl
        have k2 : s_kp 1 (s_vs s (h_ix u)) = s_vs s (h_ix u) := rfl
        rw [k1] at a4
        rw [k2] at b4
        have a5 : r_in 60 62 T2 (s_vs s (h_ix x)) := ⟨by rw [b2.1 60 (by decide)]; exact a4.1, fun i z hz => by rw [b2.2 62 (by decide)]; exact a4.2 i z hz⟩
        have hA := s_vs_300 (s := s) (h_ix x)
        have hB := s_vs_300 (s := s) (h_ix u)
        obtain ⟨T3, d1, d2, d3⟩ := ri_layShared hA hB a5 b4
        have r3 : RA T3 s := RA_fr b3 d2 (by decide)
        have a6 : r_in 60 62 T3 (s_vs s (h_ix x)) := ⟨by rw [d2.1 60 (by decide)]; exact a5.1, fun i z hz => by rw [d2.2 62 (by decide)]; exact a5.2 i z hz⟩
        have b6 : r_in 61 63 T3 (s_vs s (h_ix u)) := ⟨by rw [d2.1 61 (by decide)]; exact b4.1, fun i z hz => by rw [d2.2 63 (by decide)]; exact b4.2 i z hz⟩
        obtain ⟨T4, g1, g2⟩ := ri_inCommon_4 hA hB (s_vs_wd v vx _) (s_vs_wd v vx _) 500 0 g_N T3 (by omega) (by have := g_N_le; omega) a6 b6 (fun x hx => by omega)
        have g1' : fn_X12_inCommon T3 = some (nI (s_cm (s_oft (fun _ => 0) (s_vs s (h_ix x))) (s_vs s (h_ix u))), T4) := g1
        have e00 : T3.2 64 (h_ix (0 : Int32)) = nI (s_lc (s_vs s (h_ix x)) (s_vs s (h_ix u))) := d3 0 0 (Nat.zero_le _) (Nat.zero_le _)
        rw [← e1] at a1
        rw [← e2] at b1
        have g0 : vp_in (0 : Int32) 90601 := (n_vp (k := 0) (n := 90601) (by decide)).mpr (by decide)
        rw [fg_if_1 c3, a1, fg_b_1, b1, fg_b_1, d1, fg_b_1, fg_g_1 g0, e00, fg_let_1, a6.1, b6.1, g1', fg_b_1, fg_if_1 c3]
        by_cases q0 : w = 0
        · simp only [fg_if_1 q0]
          exact ⟨T3, rfl, r3⟩
        · simp only [fg_if_0 q0]
          by_cases q1 : w = 1
          · simp only [fg_if_1 q1]
            exact ⟨T3, rfl, r3⟩
          · simp only [fg_if_0 q1]
            by_cases q2 : w = 2
            · simp only [fg_if_1 q2]
              exact ⟨T3, rfl, r3⟩
            · simp only [fg_if_0 q2]
              exact ⟨T4, rfl, RA_fr r3 g2 (by decide)⟩
      · rw [fg_if_0 c3, fg_if_0 c3]
        exact ⟨t, rfl, h⟩
    · have c : ¬ (q_in x (sC s 4) ∧ q_in u (sC s 4)) := fun q => c2 q.2
      rw [fg_if_0 c2]
      simp only [fg_if_0 c]
      exact ⟨t, rfl, h⟩
  · have c : ¬ (q_in x (sC s 4) ∧ q_in u (sC s 4)) := fun q => c1 q.1
    rw [fg_if_0 c1]
    simp only [fg_if_0 c]
    exact ⟨t, rfl, h⟩
end RSh
