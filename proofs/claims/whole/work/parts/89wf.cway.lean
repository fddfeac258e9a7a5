/-! join of the class: rows without gaps, ways -/
section CWy
variable {k k2 : h_S} {s : sA} {y : c_Y} {M : Nat} {C R A B L : List Int32}
theorem c_rw_sn {b : Nat} {acc : List Int32} {x : Int32} (h : c_rw k b acc) (hl : acc.length < h_n k b) : c_rw (h_si k b acc.length x) b (acc ++ [x]) := by
  refine ⟨h.1, by rw [List.length_append]; exact hl, fun j z hz => ?_⟩
  rw [h_i_si]
  by_cases c : j < acc.length
  · rw [List.getElem?_append_left c] at hz
    rw [if_neg (by omega)]
    exact h.2.2 j z hz
  · have hj := (List.getElem?_eq_some_iff.mp hz).1
    rw [List.length_append, List.length_cons, List.length_nil] at hj
    have e : j = acc.length := by omega
    rw [List.getElem?_append_right (by omega), e, Nat.sub_self] at hz
    rw [if_pos ⟨rfl, e⟩]
    exact Option.some.inj hz
theorem c_rw_at {b i : Nat} (h : c_rw k b L) (hi : i < L.length) : h_i k b i = w_c L i := h.2.2 i _ (w_c_in hi)
theorem ci_wg_11 {a b : Nat} (nab : a ≠ b) (hL : L.length ≤ 300) (hna : h_n k a = L.length) (hb : h_n k b = 300) : ∀ (d j N : Nat) (k2 : h_S) (acc : List Int32), j + d = L.length → d < N → c_ww [b] k k2 → c_rw k2 a L → c_rw k2 b acc → acc.length ≤ j → h_n k2 a = L.length → h_n k2 b = 300 → ∃ k3, fn_X9_withoutGaps_11 N (some b) (nI acc.length) (some a) (nI L.length) (nI j) k2 = some (nI (acc ++ s_kp 0 (L.drop j)).length, k3) ∧ c_ww [b] k k3 ∧ c_rw k3 b (acc ++ s_kp 0 (L.drop j)) := by
  intro d
  induction d with
  | zero =>
    intro j N k2 acc hj hN hw h1 h2 ha e1 e2
    obtain ⟨N, rfl⟩ : ∃ m, N = m + 1 := ⟨N - 1, by omega⟩
    have e0 : s_kp 0 (L.drop j) = [] := by rw [List.drop_eq_nil_of_le (by omega)]; rfl
    rw [e0, List.append_nil]
    refine ⟨k2, ?_, hw, h2⟩
    show fn_X9_withoutGaps_11b _ _ _ _ _ _ _ = _
    unfold fn_X9_withoutGaps_11b
    rw [fg_if_1 ((n_le (by omega) (by omega)).mpr (by omega))]
  | succ d ih =>
    intro j N k2 acc hj hN hw h1 h2 ha e1 e2
    obtain ⟨N, rfl⟩ : ∃ m, N = m + 1 := ⟨N - 1, by omega⟩
    have hj2 : j < L.length := by omega
    have ex := c_rw_at h1 hj2
    have ed : L.drop j = w_c L j :: L.drop (j + 1) := by
      rw [List.drop_eq_getElem_cons hj2]
      congr 1
      unfold w_c
      rw [List.getElem?_eq_getElem hj2]
      rfl
    show ∃ k3, fn_X9_withoutGaps_11b (fn_X9_withoutGaps_11 N) _ _ _ _ _ _ = _ ∧ _
    unfold fn_X9_withoutGaps_11b
    rw [fg_if_0 (fun w => by have := (n_le (a := L.length) (b := j) (by omega) (by omega)).mp w; omega), fg_o_1, fg_g_1 h1.1, e1, fg_g_1 ((n_vp (by omega)).mpr (by omega)), q_nIx (show j < 2 ^ 31 by omega), ex, n_p1, ed, s_kp_c]
    by_cases c : w_c L j = -7
    · rw [fg_if_1 c, if_pos ⟨rfl, c⟩]
      exact ih (j + 1) N k2 acc (by omega) (by omega) hw h1 h2 (by omega) e1 e2
    · rw [fg_if_0 c, if_neg (fun q => c q.2), fg_o_1, fg_g_1 h2.1, e2, fg_if_0 (fun w => by have := (n_le (a := 300) (b := acc.length) (by omega) (by omega)).mp w; omega), fg_o_1, fg_g_1 h2.1, e2, fg_g_1 ((n_vp (by omega)).mpr (by omega)), fg_let_1, q_nIx (show acc.length < 2 ^ 31 by omega), n_p1]
      have w1 : c_ww [b] k2 (h_si k2 b acc.length (w_c L j)) := c_ww_si hw.1 (by simp)
      obtain ⟨k3, m1, m2, m3⟩ := ih (j + 1) N (h_si k2 b acc.length (w_c L j)) (acc ++ [w_c L j]) (by omega) (by omega) (c_wwt hw w1) (c_rw_ww h1 w1 (by simp [nab])) (c_rw_sn h2 (by omega)) (by rw [List.length_append, List.length_cons, List.length_nil]; omega) e1 e2
      have el : (acc ++ [w_c L j]).length = acc.length + 1 := by rw [List.length_append]; rfl
      rw [el, List.append_assoc] at m1
      rw [List.append_assoc] at m3
      exact ⟨k3, m1, m2, m3⟩
theorem ci_withoutGaps {a b : Nat} (hF : c_F k) (nab : a ≠ b) (hL : L.length ≤ 300) (h1 : c_rw k a L) (hna : h_n k a = L.length) (hkb : h_k k b = 1) (hb : h_n k b = 300) : ∃ k2, fn_X9_withoutGaps (some a) (some b) k = some (nI (s_kp 0 L).length, k2) ∧ c_ww [b] k k2 ∧ c_rw k2 b (s_kp 0 L) := by
  obtain ⟨k2, m1, m2, m3⟩ := ci_wg_11 nab hL hna hb L.length 0 g_N k [] (by omega) (by have := g_N_le; omega) (c_ww0 hF) h1 ⟨hkb, Nat.zero_le _, fun j x hx => by cases hx⟩ (Nat.le_refl _) hna hb
  refine ⟨k2, ?_, m2, m3⟩
  unfold fn_X9_withoutGaps
  rw [fg_o_1, fg_g_1 h1.1, hna]
  exact m1
theorem ci_isCut {i j : Nat} (hi : i < 300) (hj : j < 300) (hb : c_bt k C R i j) : fn_X9_isCut (nI i) (nI j) k = some (q_b (s_cut2 C R i j), k) := by
  have e1 : nI i * 10 + nI j >>> ((5 : Int32) &&& 31) = nI (i * 10 + j / 32) := by rw [n_shr5 (by omega), show (10 : Int32) = nI 10 from rfl, n_mul, n_add]
  have hx : j / 32 ≤ 9 := by omega
  have eb : (h_i k 33 (i * 10 + j / 32) >>> (nI (j % 32) &&& 31) &&& 1 = 1) ↔ s_cut2 C R i j := (b_sbit (h_i k 33 (i * 10 + j / 32)) (n := j % 32) (by omega)).trans hb
  unfold fn_X9_isCut
  rw [e1, fg_g_1 ((n_vp (by omega)).mpr (by omega)), q_nIx (by omega), n_and31 (show j < 2 ^ 31 by omega), fg_if_c eb]
  by_cases c : s_cut2 C R i j
  · rw [fg_if_1 c, q_b1 c]
  · rw [fg_if_0 c, q_b0 c]
theorem c_r3 {e : Nat} (hF : c_F k) (he : e < 2) : h_r k 40 e = some (41 + e) ∧ h_r k 43 e = some (44 + e) ∧ h_r k 36 e = some (37 + e) := by
  rcases (show e = 0 ∨ e = 1 by omega) with rfl | rfl
  · exact ⟨cf_r hF (by decide), cf_r hF (by decide), cf_r hF (by decide)⟩
  · exact ⟨cf_r hF (by decide), cf_r hF (by decide), cf_r hF (by decide)⟩
theorem c_k3 {e : Nat} (hF : c_F k) (he : e < 2) : (h_k k (41 + e) = 1 ∧ h_n k (41 + e) = 301) ∧ (h_k k (44 + e) = 1 ∧ h_n k (44 + e) = 301) ∧ (h_k k (37 + e) = 1 ∧ h_n k (37 + e) = 300) := by
  rcases (show e = 0 ∨ e = 1 by omega) with rfl | rfl
  · exact ⟨⟨cf_k hF rfl (by decide), cf_n hF rfl (by decide) rfl⟩, ⟨cf_k hF rfl (by decide), cf_n hF rfl (by decide) rfl⟩, ⟨cf_k hF rfl (by decide), cf_n hF rfl (by decide) rfl⟩⟩
  · exact ⟨⟨cf_k hF rfl (by decide), cf_n hF rfl (by decide) rfl⟩, ⟨cf_k hF rfl (by decide), cf_n hF rfl (by decide) rfl⟩, ⟨cf_k hF rfl (by decide), cf_n hF rfl (by decide) rfl⟩⟩
/-- behind what is put ahead -/
theorem ci_way_92 {e i z : Nat} {K35 : Int32 → Option Nat → Int32 → Int32 → Int32 → h_S → Option ((Unit) × h_S)} (he : e < 2) (hF : c_F k) (hC : C.length ≤ 300) (hR : R.length ≤ 300) (hi : i < C.length) (hz : z ≤ R.length) (h1 : c_rw k 35 C) (h2 : c_rw k (37 + e) R) : fn_X9_findWay_92 K35 (nI e) (some (37 + e)) (nI R.length) (nI z) (nI i) k = K35 (nI e) (some (37 + e)) (nI R.length) (nI (fg_if (w_sm C R i z) (z + 1) z)) (nI (i + 1)) (fg_if (w_sm C R i z) (h_si k (44 + e) i (nI z)) (h_si (h_si k (44 + e) i (nI z)) 46 i 1)) := by
  obtain ⟨_, ⟨k44, n44⟩, k37, n37⟩ := c_k3 hF he
  have k37' : h_k (h_si k (44 + e) i (nI z)) (37 + e) = 1 := k37
  have n37' : h_n (h_si k (44 + e) i (nI z)) (37 + e) = 300 := n37
  have g3 : vp_in (nI i) 300 := (n_vp (by omega)).mpr (by omega)
  have no : ¬ w_sm C R i z → fn_X9_findWay_129 K35 (nI e) (some (37 + e)) (nI R.length) (nI z) (nI i) (h_si k (44 + e) i (nI z)) = K35 (nI e) (some (37 + e)) (nI R.length) (nI (fg_if (w_sm C R i z) (z + 1) z)) (nI (i + 1)) (fg_if (w_sm C R i z) (h_si k (44 + e) i (nI z)) (h_si (h_si k (44 + e) i (nI z)) 46 i 1)) := by
    intro c
    unfold fn_X9_findWay_129
    rw [fg_g_1 g3, fg_let_1, q_nIx (by omega), n_p1, fg_if_0 c, fg_if_0 c]
  unfold fn_X9_findWay_92
  rw [fg_g_1 ((n_vp (by omega)).mpr (by omega)), q_nIx (show e < 2 ^ 31 by omega), (c_r3 hF he).2.1, fg_o_1, fg_g_1 k44, n44, fg_g_1 ((n_vp (by omega)).mpr (by omega)), fg_let_1, q_nIx (show i < 2 ^ 31 by omega)]
  by_cases c1 : R.length ≤ z
  · rw [fg_if_1 ((n_le (by omega) (by omega)).mpr c1)]
    exact no (fun w => by have := w.2.1; omega)
  · have x1 : h_i (h_si k (44 + e) i (nI z)) (37 + e) z = w_c R z := by rw [h_i_si, if_neg (by omega)]; exact c_rw_at h2 (by omega)
    have x2 : h_i (h_si k (44 + e) i (nI z)) 35 i = w_c C i := by rw [h_i_si, if_neg (by omega)]; exact c_rw_at h1 (by omega)
    rw [fg_if_0 (fun w => c1 ((n_le (by omega) (by omega)).mp w)), fg_o_1, fg_g_1 k37', n37', fg_g_1 ((n_vp (by omega)).mpr (by omega)), fg_g_1 g3, q_nIx (show z < 2 ^ 31 by omega), x1, x2]
    by_cases c2 : w_c R z = w_c C i
    · have c : w_sm C R i z := ⟨hi, by omega, c2.symm⟩
      rw [fg_if_1 c2, n_p1, n_p1, fg_if_1 c, fg_if_1 c]
    · rw [fg_if_0 c2]
      exact no (fun w => c2 w.2.2.symm)
theorem ci_way_55 {e i : Nat} {K35 : Int32 → Option Nat → Int32 → Int32 → Int32 → h_S → Option ((Unit) × h_S)} (he : e < 2) (hF : c_F k) (hC : C.length ≤ 300) (hR : R.length ≤ 300) (hi : i < C.length) (h1 : c_rw k 35 C) (h2 : c_rw k (37 + e) R) (hb : ∀ b, b < R.length → c_bt k C R i b) : ∀ (d j N : Nat), j + d = R.length → d < N → fn_X9_findWay_55 K35 N (nI e) (some (37 + e)) (nI R.length) (nI j) (nI i) k = fn_X9_findWay_92 K35 (nI e) (some (37 + e)) (nI R.length) (nI (w_go C R i d j)) (nI i) k := by
  obtain ⟨_, _, k37, n37⟩ := c_k3 hF he
  intro d
  induction d with
  | zero =>
    intro j N hj hN
    obtain ⟨N, rfl⟩ : ∃ m, N = m + 1 := ⟨N - 1, by omega⟩
    show fn_X9_findWay_55b _ _ _ _ _ _ _ _ = _
    unfold fn_X9_findWay_55b
    rw [fg_if_1 ((n_le (by omega) (by omega)).mpr (by omega))]
    rfl
  | succ d ih =>
    intro j N hj hN
    obtain ⟨N, rfl⟩ : ∃ m, N = m + 1 := ⟨N - 1, by omega⟩
    show fn_X9_findWay_55b K35 (fn_X9_findWay_55 K35 N) _ _ _ _ _ _ = _
    unfold fn_X9_findWay_55b w_go
    rw [fg_if_0 (fun w => by have := (n_le (a := R.length) (b := j) (by omega) (by omega)).mp w; omega), fg_o_1, fg_g_1 k37, n37, fg_g_1 ((n_vp (by omega)).mpr (by omega)), fg_g_1 ((n_vp (by omega)).mpr (by omega)), q_nIx (show j < 2 ^ 31 by omega), q_nIx (show i < 2 ^ 31 by omega), c_rw_at h2 (by omega), c_rw_at h1 (by omega)]
    by_cases c1 : w_c R j = w_c C i
    · rw [fg_if_1 c1, fg_if_0 (fun w : w_on C R i j => w.2.1 c1.symm)]
    · rw [fg_if_0 c1, ci_isCut (by omega) (by omega) (hb j (by omega)), fg_b_1, q_b_if]
      by_cases c2 : s_cut2 C R i j
      · have c3 : ¬ w_on C R i j := fun w => by have := w.2.2; unfold s_cut2 at c2; omega
        rw [fg_if_1 c2, fg_if_0 c3]
      · have c3 : w_on C R i j := ⟨by omega, fun q => c1 q.symm, by unfold s_cut2 at c2; omega⟩
        rw [fg_if_0 c2, fg_if_1 c3, n_p1]
        exact ih (j + 1) N (by omega) (by omega)
def c_We (e : Nat) : List Nat := [41 + e, 44 + e, 46]
/-- the way of a side lies there, and what is gone -/
def c_wy (k : h_S) (e : Nat) (C R : List Int32) (m : Nat) : Prop := ∀ i, i < m → h_i k (41 + e) i = nI (w_fr C R i) ∧ h_i k (44 + e) i = nI (w_en C R i)
theorem ci_way_35 {e : Nat} {G : Nat → Prop} (he : e < 2) (hC : C.length ≤ 300) (hR : R.length ≤ 300) : ∀ (d i N : Nat) (k2 : h_S), i + d = C.length → d < N → c_ww (c_We e) k k2 → c_rw k 35 C → c_rw k (37 + e) R → h_i k 10 4 = nI C.length → (∀ a b, a < C.length → b < R.length → c_bt k C R a b) → c_wy k2 e C R i → (∀ a, a < C.length → h_i k2 46 a = q_b (G a ∨ (a < i ∧ ¬ w_kp C R a))) → ∃ k3, fn_X9_findWay_35 N (nI e) (some (37 + e)) (nI R.length) (nI (w_fr C R i)) (nI i) k2 = some ((), k3) ∧ c_ww (c_We e) k k3 ∧ c_wy k3 e C R (C.length + 1) ∧ (∀ a, a < C.length → h_i k3 46 a = q_b (G a ∨ ¬ w_kp C R a)) := by
  intro d
  induction d with
  | zero =>
    intro i N k2 hi hN hw h1 h2 h4 hb hy hg
    obtain ⟨N, rfl⟩ : ∃ m, N = m + 1 := ⟨N - 1, by omega⟩
    have ei : i = C.length := by omega
    obtain ⟨⟨k41, n41⟩, ⟨k44, n44⟩, _⟩ := c_k3 hw.1 he
    have e10 : h_i k2 10 4 = nI C.length := by rw [(hw.2 10 (by unfold c_We; simp; omega)).2.2.1]; exact h4
    obtain ⟨K, hK⟩ : ∃ K, K = h_si k2 (41 + e) C.length (nI (w_fr C R i)) := ⟨_, rfl⟩
    have w1 : c_ww (c_We e) k2 K := by rw [hK]; exact c_ww_si hw.1 (by unfold c_We; simp)
    have e10' : h_i K 10 4 = nI C.length := by rw [(w1.2 10 (by unfold c_We; simp; omega)).2.2.1]; exact e10
    have k44' : h_k K (44 + e) = 1 := by rw [hK]; exact k44
    have n44' : h_n K (44 + e) = 301 := by rw [hK]; exact n44
    have hen : w_en C R C.length = R.length := by unfold w_en w_to; rw [if_neg (Nat.lt_irrefl _)]
    refine ⟨h_si K (44 + e) C.length (nI R.length), ?_, c_wwt hw (c_wwt w1 (c_ww_si w1.1 (by unfold c_We; simp))), fun a ha => ?_, fun a ha => ?_⟩
    · show fn_X9_findWay_35b _ _ _ _ _ _ _ = _
      unfold fn_X9_findWay_35b
      rw [e10, fg_if_1 ((n_le (by omega) (by omega)).mpr (by omega)), fg_g_1 ((n_vp (by omega)).mpr (by omega)), q_nIx (show e < 2 ^ 31 by omega), (c_r3 hw.1 he).1, fg_o_1, fg_g_1 k41, n41, fg_g_1 ((n_vp (by omega)).mpr (by omega)), fg_let_1, q_nIx (show C.length < 2 ^ 31 by omega), ← hK, fg_g_1 ((n_vp (by omega)).mpr (by omega)), (c_r3 w1.1 he).2.1, fg_o_1, fg_g_1 k44', n44', e10', fg_g_1 ((n_vp (by omega)).mpr (by omega)), fg_let_1, q_nIx (show C.length < 2 ^ 31 by omega)]
    · rw [h_i_si, if_neg (by omega), hK, h_i_si, h_i_si]
      by_cases c : a = C.length
      · rw [if_pos ⟨rfl, c⟩, if_pos ⟨rfl, c⟩, c, hen, ei]
        exact ⟨rfl, rfl⟩
      · rw [if_neg (fun q => c q.2), if_neg (fun q => c q.2), h_i_si, if_neg (by omega)]
        exact hy a (by omega)
    · rw [h_i_si, if_neg (by omega), hK, h_i_si, if_neg (by omega), hg a ha]
      exact q_bc ⟨fun q => q.elim Or.inl (fun z => Or.inr z.2), fun q => q.elim Or.inl (fun z => Or.inr ⟨by omega, z⟩)⟩
  | succ d ih =>
    intro i N k2 hi hN hw h1 h2 h4 hb hy hg
    obtain ⟨N, rfl⟩ : ∃ m, N = m + 1 := ⟨N - 1, by omega⟩
    have hi2 : i < C.length := by omega
    have hf := w_fr_le (C := C) (R := R) i
    obtain ⟨⟨k41, n41⟩, _, _⟩ := c_k3 hw.1 he
    have e10 : h_i k2 10 4 = nI C.length := by rw [(hw.2 10 (by unfold c_We; simp; omega)).2.2.1]; exact h4
    obtain ⟨K, hK⟩ : ∃ K, K = h_si k2 (41 + e) i (nI (w_fr C R i)) := ⟨_, rfl⟩
    have w1 : c_ww (c_We e) k2 K := by rw [hK]; exact c_ww_si hw.1 (by unfold c_We; simp)
    have wK := c_wwt hw w1
    have r35 : c_rw K 35 C := c_rw_ww h1 wK (by unfold c_We; simp; omega)
    have r37 : c_rw K (37 + e) R := c_rw_ww h2 wK (by unfold c_We; simp; omega)
    have ezn : w_go C R i (R.length - w_fr C R i) (w_fr C R i) = w_en C R i := by unfold w_en w_to; rw [if_pos hi2]
    have hze := (w_en_b (C := C) (R := R) i).2
    have eF := ci_way_55 (K35 := fn_X9_findWay_35 N) he wK.1 hC hR hi2 r35 r37 (fun b hb2 => by
      unfold c_bt
      rw [(wK.2 33 (by unfold c_We; simp; omega)).2.2.1]
      exact hb i b hi2 hb2) (R.length - w_fr C R i) (w_fr C R i) g_N (by omega) (by have := g_N_le; omega)
    rw [ezn, ci_way_92 he wK.1 hC hR hi2 hze r35 r37] at eF
    obtain ⟨K2, hK2⟩ : ∃ K2, K2 = fg_if (w_sm C R i (w_en C R i)) (h_si K (44 + e) i (nI (w_en C R i))) (h_si (h_si K (44 + e) i (nI (w_en C R i))) 46 i 1) := ⟨_, rfl⟩
    rw [← hK2, show fg_if (w_sm C R i (w_en C R i)) (w_en C R i + 1) (w_en C R i) = w_fr C R (i + 1) from rfl] at eF
    have w2 : c_ww (c_We e) K K2 := by
      rw [hK2]
      by_cases c : w_sm C R i (w_en C R i)
      · rw [fg_if_1 c]; exact c_ww_si w1.1 (by unfold c_We; simp)
      · rw [fg_if_0 c]; exact c_wwt (c_ww_si w1.1 (by unfold c_We; simp)) (c_ww_si w1.1 (by unfold c_We; simp))
    have x41 : ∀ x, h_i K2 (41 + e) x = if x = i then nI (w_fr C R i) else h_i k2 (41 + e) x := fun x => by
      have : h_i K2 (41 + e) x = h_i K (41 + e) x := by
        rw [hK2]
        by_cases c : w_sm C R i (w_en C R i)
        · rw [fg_if_1 c, h_i_si, if_neg (by omega)]
        · rw [fg_if_0 c, h_i_si, if_neg (by omega), h_i_si, if_neg (by omega)]
      rw [this, hK, h_i_si]
      by_cases c : x = i
      · rw [if_pos ⟨rfl, c⟩, if_pos c]
      · rw [if_neg (fun q => c q.2), if_neg c]
    have x44 : ∀ x, h_i K2 (44 + e) x = if x = i then nI (w_en C R i) else h_i k2 (44 + e) x := fun x => by
      have : h_i K2 (44 + e) x = h_i (h_si K (44 + e) i (nI (w_en C R i))) (44 + e) x := by
        rw [hK2]
        by_cases c : w_sm C R i (w_en C R i)
        · rw [fg_if_1 c]
        · rw [fg_if_0 c, h_i_si, if_neg (by omega)]
      rw [this, h_i_si]
      by_cases c : x = i
      · rw [if_pos ⟨rfl, c⟩, if_pos c]
      · rw [if_neg (fun q => c q.2), if_neg c, hK, h_i_si, if_neg (by omega)]
    have x46 : ∀ x, h_i K2 46 x = fg_if (x = i ∧ ¬ w_kp C R i) 1 (h_i k2 46 x) := fun x => by
      have e0 : h_i (h_si K (44 + e) i (nI (w_en C R i))) 46 x = h_i k2 46 x := by rw [h_i_si, if_neg (by omega), hK, h_i_si, if_neg (by omega)]
      rw [hK2]
      by_cases c : w_sm C R i (w_en C R i)
      · rw [fg_if_1 c, fg_if_0 (fun q => q.2 c)]; exact e0
      · rw [fg_if_0 c, h_i_si]
        by_cases c2 : x = i
        · rw [if_pos ⟨rfl, c2⟩, fg_if_1 ⟨c2, c⟩]
        · rw [if_neg (fun q => c2 q.2), fg_if_0 (fun q => c2 q.1)]; exact e0
    obtain ⟨k3, m1, m2, m3, m4⟩ := ih (i + 1) N K2 (by omega) (by omega) (c_wwt wK w2) h1 h2 h4 hb (fun a ha => by
      rw [x41, x44]
      by_cases c : a = i
      · rw [if_pos c, if_pos c, c]; exact ⟨rfl, rfl⟩
      · rw [if_neg c, if_neg c]; exact hy a (by omega)) (fun a ha => by
      rw [x46]
      by_cases c : a = i ∧ ¬ w_kp C R i
      · rw [fg_if_1 c, q_b1 (Or.inr ⟨by omega, by rw [c.1]; exact c.2⟩)]
      · rw [fg_if_0 c, hg a ha]
        refine q_bc ⟨fun q => q.elim Or.inl (fun z => Or.inr ⟨by omega, z.2⟩), fun q => q.elim Or.inl (fun z => Or.inr ⟨?_, z.2⟩)⟩
        rcases Nat.lt_or_ge a i with w | w
        · exact w
        · have e : a = i := by omega
          exact absurd ⟨e, e ▸ z.2⟩ c)
    refine ⟨k3, ?_, m2, m3, m4⟩
    show fn_X9_findWay_35b (fn_X9_findWay_35 N) _ _ _ _ _ _ = _
    unfold fn_X9_findWay_35b
    rw [e10, fg_if_0 (fun w => by have := (n_le (a := C.length) (b := i) (by omega) (by omega)).mp w; omega), fg_g_1 ((n_vp (by omega)).mpr (by omega)), q_nIx (show e < 2 ^ 31 by omega), (c_r3 hw.1 he).1, fg_o_1, fg_g_1 k41, n41, fg_g_1 ((n_vp (by omega)).mpr (by omega)), fg_let_1, q_nIx (show i < 2 ^ 31 by omega), ← hK]
    exact eF.trans m1
def c_Wf (e : Nat) : List Nat := [31, 32, 33, 41 + e, 44 + e, 46]
theorem ci_findWay {e : Nat} {G : Nat → Prop} (he : e < 2) (hC : C.length ≤ 300) (hR : R.length ≤ 300) (hF : c_F k) (h1 : c_rw k 35 C) (h2 : c_rw k (37 + e) R) (h4 : h_i k 10 4 = nI C.length) (h39 : h_i k 39 e = nI R.length) (hg : ∀ a, a < C.length → h_i k 46 a = q_b (G a)) : ∃ k3, fn_X9_findWay (nI e) k = some ((), k3) ∧ c_ww (c_Wf e) k k3 ∧ c_wy k3 e C R (C.length + 1) ∧ (∀ a, a < C.length → h_i k3 46 a = q_b (G a ∨ ¬ w_kp C R a)) := by
  obtain ⟨k1, a1, a2, a3⟩ := ci_sharedOf hC hR (ra := 35) (rb := 37 + e) (by decide) (by unfold c_W3; simp; omega) hF h1 h2
  obtain ⟨k3, b1, b2, b3, b4⟩ := ci_way_35 (k := k1) (G := G) he hC hR C.length 0 g_N k1 (by omega) (by have := g_N_le; omega) (c_ww0 a2.1) (c_rw_ww h1 a2 (by decide)) (c_rw_ww h2 a2 (by unfold c_W3; simp; omega)) (by rw [(a2.2 10 (by decide)).2.2.1]; exact h4) a3 (fun i hi => by omega) (fun a ha => by
    rw [(a2.2 46 (by decide)).2.2.1, hg a ha]
    exact q_bc ⟨Or.inl, fun q => q.elim id (fun z => by omega)⟩)
  refine ⟨k3, ?_, c_wwt (c_wwS a2 (by unfold c_W3 c_Wf; simp)) (c_wwS b2 (by unfold c_We c_Wf; simp)), b3, b4⟩
  unfold fn_X9_findWay
  rw [fg_g_1 ((n_vp (by omega)).mpr (by omega)), fg_g_1 ((n_vp (by omega)).mpr (by omega)), q_nIx (show e < 2 ^ 31 by omega), (c_r3 hF he).2.2, cf_r hF (show c_fr 10 3 = some 35 by decide), h4, h39, a1, fg_b_1]
  exact b1
end CWy
