section CPs
variable {k k2 : h_S} {s : sA} {y : c_Y} {M : Nat}
theorem ci_endHolds (h : CBM k s M y) (vm : ivm s) {l : Nat} (hl : l < sC s 5) {e : Int32} (he : q_in e 2) (x : Int32) : fn_X1_endHolds (yA y 6 l) e x k = some (q_b (s_hl (s_e1 s l e) (s_e2 s l e) x), k) := by
  obtain ⟨a, n, h1, h2, h3, h4, h5, h6⟩ := s_end vm hl e
  obtain ⟨_, w1, w2, w3, ⟨b, w4, w5⟩, d, w6, w7⟩ := CB_lnk h hl
  obtain ⟨b1, b2, b3, b4⟩ := c_ar2 w5
  obtain ⟨d1, d2, d3, d4⟩ := c_ar2 w7
  have ge : vp_in e 2 := (q_vin e 2).mpr he
  obtain ⟨e1, l1⟩ := n_in (n := 2) he
  have eb : h_i k b (h_ix e) = nI a := by
    rw [← h5]
    rcases (show h_ix e = 0 ∨ h_ix e = 1 by omega) with w | w
    · have : e = 0 := by rw [e1, w]; rfl
      rw [fg_if_1 this, w]; exact b3
    · have : ¬ e = 0 := by rw [e1, w]; decide
      rw [fg_if_0 this, w]; exact b4
  have ed : h_i k d (h_ix e) = nI n := by
    rw [← h6]
    rcases (show h_ix e = 0 ∨ h_ix e = 1 by omega) with w | w
    · have : e = 0 := by rw [e1, w]; rfl
      rw [fg_if_1 this, w]; exact d3
    · have : ¬ e = 0 := by rw [e1, w]; decide
      rw [fg_if_0 this, w]; exact d4
  unfold fn_X1_endHolds
  simp only [fg_g_1 w1, w4, w6, fg_o_1, fg_g_1 b1, fg_g_1 d1, b2, d2, fg_g_1 ge, eb, ed, h3, h4]
  by_cases c1 : x < nI a
  · rw [fg_if_1 c1, q_b0 (fun q => Int32.not_le.mpr c1 ((s_hl_i h1 h2 x).mpr q).1)]
  · rw [fg_if_0 c1]
    have c1' := Int32.not_lt.mp c1
    rw [Int32.le_iff_toInt_le, q_nI (by omega)] at c1'
    have hx := x.toInt_lt
    have es : (x - nI a).toInt = x.toInt - a := by rw [q_sub (by rw [q_nI (by omega)]; omega) (by rw [q_nI (by omega)]; omega), q_nI (by omega)]
    have ei := q_ix (x := x) (by omega)
    by_cases c2 : nI n ≤ x - nI a
    · rw [fg_if_1 c2, q_b0]
      rintro ⟨z, z1, z2, z3⟩
      rw [Int32.le_iff_toInt_le, es, q_nI (by omega), z3, q_nI (by omega)] at c2
      omega
    · rw [fg_if_0 c2, q_b1]
      rw [Int32.le_iff_toInt_le, es, q_nI (by omega)] at c2
      exact ⟨h_ix x, by omega, by omega, n_of (by omega)⟩
def p_hd : List (Nat × Nat) → Int32
  | [] => -9
  | p :: _ => nI p.1
section G
variable {o b n : Nat} {e : Int32} {H : Int32 → Prop} {G : Nat → Int32}
theorem ci_partFrom_7 (hH : ∀ x, fn_X1_endHolds o e x k = some (q_b (H x), k)) (ho : h_k k o = 22) (hb : h_k k b = 1) (hn : h_n k b = n) (h3 : n ≤ 300) (hG : ∀ i, i < n → h_i k b i = G i) : ∀ (f i N : Nat), n ≤ i + f → f < N → i ≤ n → fn_X1_partFrom_7 N o e (some b) (nI i) k = some (p_hd (p_pts H G n f i), k) := by
  have en : Int32.ofNat (h_n k b) = nI n := by rw [hn]; rfl
  intro f
  induction f with
  | zero =>
    intro i N hi hN hin
    obtain ⟨N, rfl⟩ : ∃ m, N = m + 1 := ⟨N - 1, by omega⟩
    show fn_X1_partFrom_7b _ _ _ _ _ _ = _
    unfold fn_X1_partFrom_7b
    rw [fg_o_1, fg_g_1 hb, en, fg_if_1 ((n_le (by omega) (by omega)).mpr (by omega))]
    rfl
  | succ f ih =>
    intro i N hi hN hin
    obtain ⟨N, rfl⟩ : ∃ m, N = m + 1 := ⟨N - 1, by omega⟩
    show fn_X1_partFrom_7b (fn_X1_partFrom_7 N) _ _ _ _ _ = _
    unfold fn_X1_partFrom_7b p_pts
    rw [fg_o_1, fg_g_1 hb, en]
    by_cases ci : i < n
    · rw [fg_if_0 (fun q => by have := (n_le (a := n) (b := i) (by omega) (by omega)).mp q; omega), fg_o_1, fg_g_1 hb, hn, fg_g_1 ((n_vp (by omega)).mpr ci), fg_g_1 ho, q_nIx (by omega), hG i ci, hH, fg_b_1, q_b_if, fg_if_1 ci, n_p1]
      by_cases c2 : H (G i)
      · rw [fg_if_1 c2, fg_if_1 c2]
        rfl
      · rw [fg_if_0 c2, fg_if_0 c2]
        exact ih (i + 1) N (by omega) (by omega) (by omega)
    · rw [fg_if_1 ((n_le (by omega) (by omega)).mpr (by omega)), fg_if_0 ci]
      rfl
theorem ci_partFrom (hH : ∀ x, fn_X1_endHolds o e x k = some (q_b (H x), k)) (ho : h_k k o = 22) (hb : h_k k b = 1) (hn : h_n k b = n) (h3 : n ≤ 300) (hG : ∀ i, i < n → h_i k b i = G i) {f i : Nat} (hf : n ≤ i + f) (hf2 : f ≤ 1000) (hi : i ≤ n) : fn_X1_partFrom o e (some b) (nI i) k = some (p_hd (p_pts H G n f i), k) := by
  unfold fn_X1_partFrom
  rw [show (0 : Int32) = nI 0 from rfl, n_max _ _ (by omega) (by omega), show max 0 i = i by omega]
  exact ci_partFrom_7 hH ho hb hn h3 hG f i g_N hf (by have := g_N_le; omega) hi
theorem ci_partSize_5 (hH : ∀ x, fn_X1_endHolds o e x k = some (q_b (H x), k)) (ho : h_k k o = 22) (hb : h_k k b = 1) (hn : h_n k b = n) (h3 : n ≤ 300) (hG : ∀ i, i < n → h_i k b i = G i) {p : Nat} : ∀ (d i N : Nat), i + d = n → d < N → 1 ≤ i → p ≤ i → fn_X1_partSize_5 N o e (some b) (nI p) (nI i) k = some (nI (p_run H G d i - p), k) := by
  have en : Int32.ofNat (h_n k b) = nI n := by rw [hn]; rfl
  intro d
  induction d with
  | zero =>
    intro i N hi hN h1 hp
    obtain ⟨N, rfl⟩ : ∃ m, N = m + 1 := ⟨N - 1, by omega⟩
    show fn_X1_partSize_5b _ _ _ _ _ _ _ = _
    unfold fn_X1_partSize_5b
    have n0 : ¬ nI i ≤ 0 := fun q => by have := (n_le (a := i) (b := 0) (by omega) (by omega)).mp q; omega
    rw [fg_if_0 n0, fg_o_1, fg_g_1 hb, en, fg_if_1 ((n_le (by omega) (by omega)).mpr (by omega)), n_sub hp]
    rfl
  | succ d ih =>
    intro i N hi hN h1 hp
    obtain ⟨N, rfl⟩ : ∃ m, N = m + 1 := ⟨N - 1, by omega⟩
    show fn_X1_partSize_5b (fn_X1_partSize_5 N) _ _ _ _ _ _ = _
    unfold fn_X1_partSize_5b p_run
    have n0 : ¬ nI i ≤ 0 := fun q => by have := (n_le (a := i) (b := 0) (by omega) (by omega)).mp q; omega
    obtain ⟨j, rfl⟩ : ∃ j, i = j + 1 := ⟨i - 1, by omega⟩
    have g1 : vp_in (nI (j + 1)) n := (n_vp (by omega)).mpr (by omega)
    have g2 : vp_in (nI j) n := (n_vp (by omega)).mpr (by omega)
    rw [fg_if_0 n0, fg_o_1, fg_g_1 hb, en, fg_if_0 (fun q => by have := (n_le (a := n) (b := j + 1) (by omega) (by omega)).mp q; omega), fg_o_1, fg_g_1 hb, hn, fg_g_1 g1, fg_g_1 ho, q_nIx (by omega), hG _ (by omega), hH, fg_b_1, q_b_if]
    by_cases c2 : H (G (j + 1))
    · rw [fg_if_1 c2, fg_o_1, fg_g_1 hb, hn, fg_g_1 g1, fg_o_1, fg_g_1 hb, hn, n_m1, fg_g_1 g2, q_nIx (by omega), hG _ (by omega), hG _ (by omega), Nat.add_sub_cancel, n_p1]
      by_cases c3 : G (j + 1) = G j + 1
      · rw [fg_if_1 c3, fg_if_1 ⟨c2, c3⟩]
        exact ih (j + 1 + 1) N (by omega) (by omega) (by omega) (by omega)
      · rw [fg_if_0 c3, fg_if_0 (fun q => c3 q.2), n_sub hp]
    · rw [fg_if_0 c2, fg_if_0 (fun q => c2 q.1), n_sub hp]
theorem ci_partSize (hH : ∀ x, fn_X1_endHolds o e x k = some (q_b (H x), k)) (ho : h_k k o = 22) (hb : h_k k b = 1) (hn : h_n k b = n) (h3 : n ≤ 300) (hG : ∀ i, i < n → h_i k b i = G i) {p z : Nat} (hp : p < n) (hz : p + z = p_run H G (n - (p + 1)) (p + 1)) : fn_X1_partSize o e (some b) (nI p) k = some (nI z, k) := by
  unfold fn_X1_partSize
  rw [n_p1, ci_partSize_5 hH ho hb hn h3 hG (n - (p + 1)) (p + 1) g_N (by omega) (by have := g_N_le; omega) (by omega) (by omega), ← hz]
  congr 3
  omega
theorem ci_partBehind (hH : ∀ x, fn_X1_endHolds o e x k = some (q_b (H x), k)) (ho : h_k k o = 22) (hb : h_k k b = 1) (hn : h_n k b = n) (h3 : n ≤ 300) (hG : ∀ i, i < n → h_i k b i = G i) {q z g : Nat} (hq : q < n) (hz : q + z = p_run H G (n - (q + 1)) (q + 1)) (hg : n ≤ q + z + g) (hg2 : g ≤ 1000) (hqz : q + z ≤ n) : fn_X1_partBehind o e (some b) (nI q) k = some (p_hd (p_pts H G n g (q + z)), k) := by
  unfold fn_X1_partBehind
  rw [fg_g_1 ho, ci_partSize hH ho hb hn h3 hG hq hz, fg_b_1, n_add, ci_partFrom hH ho hb hn h3 hG hg hg2 hqz, fg_b_1]
theorem n_9 {q : Nat} (hq : q < 2 ^ 31) : ¬ nI q = -9 := fun w => by
  have := congrArg Int32.toInt w
  rw [q_nI hq] at this
  have e1 : (-9 : Int32).toInt = -9 := rfl
  omega
theorem ci_ends_57 (hH : ∀ x, fn_X1_endHolds o e x k = some (q_b (H x), k)) (ho : h_k k o = 22) (hb : h_k k b = 1) (hn : h_n k b = n) (h3 : n ≤ 300) (hG : ∀ i, i < n → h_i k b i = G i) {vo : Nat} (hv : h_k k vo = 29) (hvb : h_r k vo 2 = some b) : ∀ (m f i c N : Nat), (p_pts H G n f i).length = m → n ≤ i + f → f ≤ 300 → i ≤ n → c ≤ i → m < N → fn_X11_ends_57 N e (some o) (some vo) (nI c) (p_hd (p_pts H G n f i)) (nI c) k = some (nI (c + m), k) := by
  intro m
  induction m with
  | zero =>
    intro f i c N hm hf hf2 hi hc hN
    obtain ⟨N, rfl⟩ : ∃ m, N = m + 1 := ⟨N - 1, by omega⟩
    rw [List.eq_nil_of_length_eq_zero hm]
    show fn_X11_ends_57b _ _ _ _ _ _ _ _ = _
    unfold fn_X11_ends_57b
    rw [fg_if_1 (show p_hd [] = -9 from rfl), fg_if_same]
    rfl
  | succ m ih =>
    intro f i c N hm hf hf2 hi hc hN
    obtain ⟨N, rfl⟩ : ∃ m, N = m + 1 := ⟨N - 1, by omega⟩
    obtain ⟨⟨q, z⟩, l, hl⟩ : ∃ p l, p_pts H G n f i = p :: l := by
      cases hh : p_pts H G n f i with
      | nil => rw [hh] at hm; cases hm
      | cons p l => exact ⟨p, l, rfl⟩
    obtain ⟨a1, a2, a3, a4, a5, a6, g, a7, a8, a9⟩ := p_pts_cons f i q z l hf hl
    have n9 : ¬ p_hd ((q, z) :: l) = -9 := n_9 (show q < 2 ^ 31 by omega)
    rw [hl]
    rw [hl, List.length_cons, a9] at hm
    show fn_X11_ends_57b (fn_X11_ends_57 N) _ _ _ _ _ _ _ = _
    unfold fn_X11_ends_57b
    have c3 : ¬ (300 : Int32) ≤ nI c := fun w => by have := (n_le (a := 300) (b := c) (by omega) (by omega)).mp w; omega
    rw [fg_if_0 c3, fg_if_0 n9, fg_o_1, fg_g_1 hv, fg_o_1, fg_g_1 ho, hvb]
    show fg_b (fn_X1_partBehind o e (some b) (nI q) k) _ = _
    rw [ci_partBehind hH ho hb hn h3 hG a2 a4 a7 (by omega) a6, fg_b_1, n_p1, ih g (q + z) (c + 1) N (by omega) a7 (by omega) a6 (by omega) (by omega)]
    congr 3
    omega
theorem ci_part_68 (hH : ∀ x, fn_X1_endHolds o e x k = some (q_b (H x), k)) (ho : h_k k o = 22) (hb : h_k k b = 1) (hn : h_n k b = n) (h3 : n ≤ 300) (hG : ∀ i, i < n → h_i k b i = G i) {vo : Nat} (hv : h_k k vo = 29) (hvb : h_r k vo 2 = some b) {j : Nat} (hj : j < 2 ^ 31) (w : Int32) : ∀ (m f i c N : Nat), (p_pts H G n f i).length = m → n ≤ i + f → f ≤ 300 → i ≤ n → c ≤ i → c ≤ j → m < N → fn_X11_part_68 N e (nI j) w (some o) (some vo) (p_hd (p_pts H G n f i)) (nI c) k = some (fg_if (j - c < m) (s_ptw G ((p_pts H G n f i)[j - c]?.getD (0, 0)) w) (-1), k) := by
  intro m
  induction m with
  | zero =>
    intro f i c N hm hf hf2 hi hc hcj hN
    obtain ⟨N, rfl⟩ : ∃ m, N = m + 1 := ⟨N - 1, by omega⟩
    rw [List.eq_nil_of_length_eq_zero hm]
    show fn_X11_part_68b _ _ _ _ _ _ _ _ _ = _
    unfold fn_X11_part_68b
    rw [fg_if_1 (show p_hd [] = -9 from rfl), fg_if_same, fg_if_same]
    unfold fn_X11_part_111
    rw [fg_if_1 (show p_hd [] = -9 from rfl), fg_if_0 (by omega)]
  | succ m ih =>
    intro f i c N hm hf hf2 hi hc hcj hN
    obtain ⟨N, rfl⟩ : ∃ m, N = m + 1 := ⟨N - 1, by omega⟩
    obtain ⟨⟨q, z⟩, l, hl⟩ : ∃ p l, p_pts H G n f i = p :: l := by
      cases hh : p_pts H G n f i with
      | nil => rw [hh] at hm; cases hm
      | cons p l => exact ⟨p, l, rfl⟩
    obtain ⟨a1, a2, a3, a4, a5, a6, g, a7, a8, a9⟩ := p_pts_cons f i q z l hf hl
    have n9 : ¬ p_hd ((q, z) :: l) = -9 := n_9 (show q < 2 ^ 31 by omega)
    rw [hl]
    rw [hl, List.length_cons, a9] at hm
    show fn_X11_part_68b (fn_X11_part_68 N) _ _ _ _ _ _ _ _ = _
    unfold fn_X11_part_68b
    have c3 : ¬ (300 : Int32) ≤ nI c := fun w => by have := (n_le (a := 300) (b := c) (by omega) (by omega)).mp w; omega
    rw [fg_if_0 c3]
    by_cases c4 : j = c
    · subst c4
      have c5 : nI j < 300 := (n_lt (a := j) (b := 300) (by omega) (by omega)).mpr (by omega)
      rw [fg_if_1 (Int32.le_refl _), Nat.sub_self, fg_if_1 (by omega)]
      unfold fn_X11_part_111
      rw [fg_if_0 n9, fg_if_1 c5, fg_o_1, fg_g_1 hv, hvb, fg_o_1, fg_g_1 hb, hn, fg_o_1, fg_g_1 hv, fg_o_1, fg_g_1 ho, hvb]
      show fg_if (w = 0) (some (nI q, k)) (fg_if (w = 1) (fg_g (vp_in (nI q) n) (some (h_i k b (h_ix (nI q)), k))) (fg_b (fn_X1_partSize o e (some b) (nI q) k) _)) = _
      rw [fg_g_1 ((n_vp (by omega)).mpr a2), q_nIx (by omega), hG q a2, ci_partSize hH ho hb hn h3 hG a2 a4, fg_b_1]
      unfold s_ptw
      simp only [fg_if_some]
      rfl
    · have c5 : ¬ nI j ≤ nI c := fun w => by have := (n_le (a := j) (b := c) (by omega) (by omega)).mp w; omega
      rw [fg_if_0 c5, fg_if_0 n9, fg_o_1, fg_g_1 hv, fg_o_1, fg_g_1 ho, hvb]
      show fg_b (fn_X1_partBehind o e (some b) (nI q) k) _ = _
      rw [ci_partBehind hH ho hb hn h3 hG a2 a4 a7 (by omega) a6, fg_b_1, n_p1, ih g (q + z) (c + 1) N (by omega) a7 (by omega) a6 (by omega) (by omega) (by omega), ← a9, show j - c = j - (c + 1) + 1 by omega, List.getElem?_cons_succ]
      rw [fg_if_c (show j - (c + 1) < m ↔ j - (c + 1) + 1 < m + 1 by omega)]
end G
theorem cs_ends (h : CB k s y) (v : ivc s) (vm : ivm s) (l e x : Int32) : ∃ k2, fn_X11_ends l e x k = some ((s_ends s l e x).1, k2) ∧ CB k2 (s_ends s l e x).2 y := by
  refine ⟨k, ?_, h⟩
  have ew : fn_X11_within e 2 k = some (q_b (q_in e ((2 : Nat) : Int)), k) := ci_withinN e (n := 2) (by decide)
  unfold fn_X11_ends s_ends
  rw [ci_linkAt (CB_M h) v, fg_b_1, ci_versionAt (CB_M h) v, fg_b_1]
  by_cases c1 : q_in l (sC s 5)
  · have n1 : ¬ (some (yA y 6 (h_ix l)) = none) := by simp
    by_cases c2 : q_in x (sC s 4)
    · have n2 : ¬ (some (yA y 4 (h_ix x)) = none) := by simp
      have c : q_in l (sC s 5) ∧ q_in x (sC s 4) := ⟨c1, c2⟩
      simp only [fg_if_1 c1, fg_if_1 c2, fg_if_0 n1, fg_if_0 n2, ew, fg_b_1, q_b_if, fg_if_1 c]
      by_cases c3 : q_in e 2
      · have c3' : q_in e ((2 : Nat) : Int) := c3
        obtain ⟨_, w1, _, _, _, _, b, w2, w3⟩ := CB_ver (CB_M h) (n_in c2).2
        have ho := (CB_lnk (CB_M h) (n_in c1).2).2.1
        have hn := s_vs_300 (s := s) (h_ix x)
        have hH := fun z => ci_endHolds (CB_M h) vm (n_in c1).2 c3 z
        have hG : ∀ i, i < (s_vs s (h_ix x)).length → h_i k b i = s_vg s (h_ix x) i := fun i hi => w3.2.2.2 i _ (s_vg_in hi)
        have e1 := ci_partFrom hH ho w3.2.1 w3.2.2.1 hn hG (f := 300) (i := 0) (by omega) (by omega) (by omega)
        have e1' : fn_X1_partFrom (yA y 6 (h_ix l)) e (some b) 0 k = _ := e1
        have hlen := s_pts_len (s := s) (l := h_ix l) (x := h_ix x) e
        have e2 := ci_ends_57 hH ho w3.2.1 w3.2.2.1 hn hG w1 w2 (s_pts s (h_ix l) e (h_ix x)).length 300 0 0 g_N rfl (by omega) (by omega) (by omega) (by omega) (by have := g_N_le; omega)
        rw [Nat.zero_add] at e2
        rw [fg_if_1 c3', fg_if_1 c3, fg_o_1, fg_g_1 w1, fg_o_1, fg_g_1 ho, w2, e1', fg_b_1]
        exact e2
      · have c3' : ¬ q_in e ((2 : Nat) : Int) := c3
        rw [fg_if_0 c3', fg_if_0 c3]
    · have c : ¬ (q_in l (sC s 5) ∧ q_in x (sC s 4)) := fun q => c2 q.2
      simp only [fg_if_1 c1, fg_if_0 c2, fg_if_0 n1, fg_if_T, fg_if_0 c]
  · have c : ¬ (q_in l (sC s 5) ∧ q_in x (sC s 4)) := fun q => c1 q.1
    simp only [fg_if_0 c1, fg_if_T, fg_if_0 c]
theorem cs_part (h : CB k s y) (v : ivc s) (vm : ivm s) (l e x i u : Int32) : ∃ k2, fn_X11_part l e x i u k = some ((s_part s l e x i u).1, k2) ∧ CB k2 (s_part s l e x i u).2 y := by
  refine ⟨k, ?_, h⟩
  have ew : fn_X11_within e 2 k = some (q_b (q_in e ((2 : Nat) : Int)), k) := ci_withinN e (n := 2) (by decide)
  have eu : fn_X11_within u 3 k = some (q_b (q_in u ((3 : Nat) : Int)), k) := ci_withinN u (n := 3) (by decide)
  unfold fn_X11_part s_part
  rw [ci_linkAt (CB_M h) v, fg_b_1, ci_versionAt (CB_M h) v, fg_b_1]
  by_cases c1 : q_in l (sC s 5)
  · have n1 : ¬ (some (yA y 6 (h_ix l)) = none) := by simp
    by_cases c2 : q_in x (sC s 4)
    · have n2 : ¬ (some (yA y 4 (h_ix x)) = none) := by simp
      simp only [fg_if_1 c1, fg_if_1 c2, fg_if_0 n1, fg_if_0 n2]
      by_cases c3 : 0 ≤ i
      · have c : q_in l (sC s 5) ∧ q_in x (sC s 4) ∧ 0 ≤ i := ⟨c1, c2, c3⟩
        rw [fg_if_1 c3, fg_if_1 c, ew, fg_b_1, q_b_if]
        by_cases c4 : q_in e 2
        · have c4' : q_in e ((2 : Nat) : Int) := c4
          rw [fg_if_1 c4', eu, fg_b_1, q_b_if]
          by_cases c5 : q_in u 3
          · have c5' : q_in u ((3 : Nat) : Int) := c5
            have cc : q_in e 2 ∧ q_in u 3 := ⟨c4, c5⟩
            obtain ⟨_, w1, _, _, _, _, b, w2, w3⟩ := CB_ver (CB_M h) (n_in c2).2
            have ho := (CB_lnk (CB_M h) (n_in c1).2).2.1
            have hn := s_vs_300 (s := s) (h_ix x)
            have hH := fun z => ci_endHolds (CB_M h) vm (n_in c1).2 c4 z
            have hG : ∀ i, i < (s_vs s (h_ix x)).length → h_i k b i = s_vg s (h_ix x) i := fun i hi => w3.2.2.2 i _ (s_vg_in hi)
            have e1 := ci_partFrom hH ho w3.2.1 w3.2.2.1 hn hG (f := 300) (i := 0) (by omega) (by omega) (by omega)
            have e1' : fn_X1_partFrom (yA y 6 (h_ix l)) e (some b) 0 k = _ := e1
            have hlen := s_pts_len (s := s) (l := h_ix l) (x := h_ix x) e
            have hi0 : 0 ≤ i.toInt := Int32.le_iff_toInt_le.mp c3
            have e3 := n_of hi0
            have i31 := n_ixlt i
            have e2 := ci_part_68 hH ho w3.2.1 w3.2.2.1 hn hG w1 w2 i31 u (s_pts s (h_ix l) e (h_ix x)).length 300 0 0 g_N rfl (by omega) (by omega) (by omega) (by omega) (by omega) (by have := g_N_le; omega)
            rw [← e3] at e2
            rw [fg_if_1 c5', fg_if_1 cc, fg_o_1, fg_g_1 w1, fg_o_1, fg_g_1 ho, w2, e1', fg_b_1]
            exact e2
          · have c5' : ¬ q_in u ((3 : Nat) : Int) := c5
            rw [fg_if_0 c5', fg_if_0 (fun q => c5 q.2)]
        · have c4' : ¬ q_in e ((2 : Nat) : Int) := c4
          rw [fg_if_0 c4', fg_if_0 (fun q => c4 q.1)]
      · rw [fg_if_0 c3, fg_if_0 (fun q => c3 q.2.2)]
    · have c : ¬ (q_in l (sC s 5) ∧ q_in x (sC s 4) ∧ 0 ≤ i) := fun q => c2 q.2.1
      simp only [fg_if_1 c1, fg_if_0 c2, fg_if_0 n1, fg_if_T, fg_if_0 c]
  · have c : ¬ (q_in l (sC s 5) ∧ q_in x (sC s 4) ∧ 0 ≤ i) := fun q => c1 q.1
    simp only [fg_if_0 c1, fg_if_T, fg_if_0 c]
end CPs
