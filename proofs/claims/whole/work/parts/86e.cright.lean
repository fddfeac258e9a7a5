theorem bt0 : h_bt 0 := Or.inl rfl
theorem bt1 : h_bt 1 := Or.inr rfl
section CRt
variable {k : h_S} {s : sA} {y : c_Y} {M : Nat}
def c_tx (K : h_S) (o : Nat) (q : sT) : Prop := h_i K o 8 = q.1 ∧ h_i K o 9 = q.2.1 ∧ h_i K o 3 = q.2.2.1 ∧ h_i K o 4 = q.2.2.2.1 ∧ h_i K o 5 = q.2.2.2.2.1 ∧ h_i K o 6 = q.2.2.2.2.2
/-- at o alone, and of it fields of reading alone -/
def c_sk (K K2 : h_S) : Prop := K2.1 = K.1 ∧ K2.2.1 = K.2.1 ∧ K2.2.2.1 = K.2.2.1 ∧ K2.2.2.2.2 = K.2.2.2.2
def c_on (o : Nat) (K K2 : h_S) : Prop := (∀ z, z ≠ o → c_eq K K2 z) ∧ (∀ z, h_k K2 z = h_k K z) ∧ c_sk K K2 ∧ h_i K2 o 0 = h_i K o 0 ∧ h_i K2 o 1 = h_i K o 1 ∧ h_i K2 o 2 = h_i K o 2 ∧ h_i K2 o 7 = h_i K o 7
theorem c_sk0 : c_sk k k := ⟨rfl, rfl, rfl, rfl⟩
theorem c_skt {K K2 K3 : h_S} (h : c_sk K K2) (h2 : c_sk K2 K3) : c_sk K K3 := ⟨h2.1.trans h.1, h2.2.1.trans h.2.1, h2.2.2.1.trans h.2.2.1, h2.2.2.2.trans h.2.2.2⟩
theorem cf_sk {K : h_S} (hF : c_F k) (h : c_sk k K) : c_F K := by
  obtain ⟨a, b, c, d, e⟩ := k
  obtain ⟨a2, b2, c2, d2, e2⟩ := K
  obtain ⟨h1, h2, h3, h4⟩ := h
  cases h1
  cases h2
  cases h3
  cases h4
  exact hF
theorem cf_on {o : Nat} {K : h_S} (hF : c_F k) (h : c_on o k K) : c_F K := cf_sk hF h.2.2.1
theorem c_on0 {o : Nat} : c_on o k k := ⟨fun _ _ => c_eq0, fun _ => rfl, c_sk0, rfl, rfl, rfl, rfl⟩
theorem c_ont {o : Nat} {K K2 K3 : h_S} (h : c_on o K K2) (h2 : c_on o K2 K3) : c_on o K K3 := ⟨fun z hz => c_eqt (h.1 z hz) (h2.1 z hz), fun z => (h2.2.1 z).trans (h.2.1 z), c_skt h.2.2.1 h2.2.2.1, h2.2.2.2.1.trans h.2.2.2.1, h2.2.2.2.2.1.trans h.2.2.2.2.1, h2.2.2.2.2.2.1.trans h.2.2.2.2.2.1, h2.2.2.2.2.2.2.trans h.2.2.2.2.2.2⟩
theorem c_on1 {o j : Nat} {v : Int32} (hj : j ∈ ([3, 4, 5, 6, 8, 9] : List Nat)) : c_on o k (h_si k o j v) := by
  have n : ∀ i, i ∈ ([0, 1, 2, 7] : List Nat) → h_i (h_si k o j v) o i = h_i k o i := fun i hi => by
    rw [h_i_si, if_neg]
    intro w
    rw [w.2] at hi
    revert hi hj
    simp
    omega
  exact ⟨fun z hz => c_eq_si hz, fun _ => rfl, ⟨rfl, rfl, rfl, rfl⟩, n 0 (by decide), n 1 (by decide), n 2 (by decide), n 7 (by decide)⟩
theorem ci_uses51 {o : Nat} {K : h_S} {u : Int32} (hk : h_k K o = 24) (hu : h_i K o 4 = u) (m : Int32) : fn_X3_goesOnUses_51 o m K = fg_if (m ≠ 0 ∧ u &&& m = 0) (some (1, h_si K o 4 (u ||| m))) (some (0, K)) := by
  unfold fn_X3_goesOnUses_51
  by_cases c1 : m = 0
  · rw [fg_if_1 c1, fg_if_0 (fun w => w.1 c1)]
  · rw [fg_if_0 c1, fg_g_1 hk, hu, fg_let_1]
    by_cases c2 : u &&& m = 0
    · rw [fg_if_1 c2, fg_if_1 ⟨c1, c2⟩]
    · rw [fg_if_0 c2, fg_if_0 (fun w => c2 w.2)]
theorem ci_uses20 {o : Nat} {K : h_S} {u : Int32} (hk : h_k K o = 24) (hu : h_i K o 4 = u) (c : Int32) : fn_X3_goesOnUses_20 o c K = fg_if (s_um c ≠ 0 ∧ u &&& s_um c = 0) (some (1, h_si K o 4 (u ||| s_um c))) (some (0, K)) := by
  unfold fn_X3_goesOnUses_20
  simp only [ci_uses51 hk hu]
  rcases s_um_c c with ⟨w1, w⟩ | ⟨w1, w⟩ | ⟨w1, w⟩ | ⟨w1, w2, w3, w⟩
  · rw [fg_if_1 w1, w]
  · rw [fg_if_0 (show ¬ c = 114 by rw [w1]; decide), fg_if_1 w1, w]
  · rw [fg_if_0 (show ¬ c = 114 by rw [w1]; decide), fg_if_0 (show ¬ c = 113 by rw [w1]; decide), fg_if_1 w1, w]
  · rw [fg_if_0 w1, fg_if_0 w2, fg_if_0 w3, w]
theorem ci_num33 {o : Nat} {K : h_S} {q : sT} (hk : h_k K o = 24) (hr : c_tx K o q) (c : Int32) : fn_X3_goesOnNumber_33 o c K = fg_if ((48 ≤ c ∧ c ≤ 57) ∧ q.2.1 < 4) (fg_if (q.1 = 3) (some (1, h_si (h_si K o 9 (q.2.1 + 1)) o 5 (10 * q.2.2.2.2.1 + c - 48))) (some (1, h_si (h_si K o 9 (q.2.1 + 1)) o 6 (10 * q.2.2.2.2.2 + c - 48)))) (some (0, K)) := by
  obtain ⟨h8, h9, h3, h4, h5, h6⟩ := hr
  have ed : q_in (c - 48) ((10 : Nat) : Int) ↔ (48 ≤ c ∧ c ≤ 57) := by
    rw [q_dig c (by omega)]
    have e1 : (57 : Int32).toInt = 57 := rfl
    have e2 : (nI (48 + 10)).toInt = 58 := rfl
    rw [Int32.lt_iff_toInt_lt, Int32.le_iff_toInt_le, Int32.le_iff_toInt_le, e1, e2]
    omega
  unfold fn_X3_goesOnNumber_33
  have e8 : h_i (h_si K o 9 (q.2.1 + 1)) o 8 = q.1 := by rw [h_i_si, if_neg (by omega)]; exact h8
  have e5 : h_i (h_si K o 9 (q.2.1 + 1)) o 5 = q.2.2.2.2.1 := by rw [h_i_si, if_neg (by omega)]; exact h5
  have e6 : h_i (h_si K o 9 (q.2.1 + 1)) o 6 = q.2.2.2.2.2 := by rw [h_i_si, if_neg (by omega)]; exact h6
  rw [show (10 : Int32) = nI 10 from rfl, ci_withinN _ (by decide), fg_b_1, q_b_if, fg_if_c ed]
  by_cases c1 : 48 ≤ c ∧ c ≤ 57
  · rw [fg_if_1 c1, fg_g_1 hk, h9]
    simp only [fg_let_1, e8, e5, e6]
    by_cases c2 : q.2.1 < 4
    · have c3 : (48 ≤ c ∧ c ≤ 57) ∧ q.2.1 < 4 := ⟨c1, c2⟩
      rw [fg_if_1 c2, fg_if_1 c3]
    · rw [fg_if_0 c2, fg_if_0 (fun w => c2 w.2)]
  · rw [fg_if_0 c1, fg_if_0 (fun w => c1 w.1)]
theorem ci_goesOn {o : Nat} {K : h_S} {q : sT} {c : Int32} (hk : h_k K o = 24) (ok : s_tok q) (hr : c_tx K o q) : ∃ r K2, fn_X3_goesOn o c K = some (r, K2) ∧ c_on o K K2 ∧ ((s_tx q c = none ∧ r = 0) ∨ ∃ q2, s_tx q c = some q2 ∧ r = 1 ∧ c_tx K2 o q2) := by
  obtain ⟨⟨a, ha, ea, d, hd, ed, had, _⟩, u, hu, eu⟩ := ok
  have hr' := hr
  obtain ⟨h8, h9, h3, h4, h5, h6⟩ := hr
  unfold fn_X3_goesOn
  rw [fg_g_1 hk, h8, ea]
  unfold s_tx
  rcases (show a = 0 ∨ a = 1 ∨ a = 2 ∨ a = 3 ∨ a = 4 by omega) with rfl | rfl | rfl | rfl | rfl
  · rw [fg_if_1 (show nI 0 = 0 by decide), fg_let_1, fg_let_1, h_i_si, if_neg (by omega), h_i_si, if_pos ⟨rfl, rfl⟩, show (4 : Int32) = nI 4 from rfl, ci_withinN _ (by decide), fg_b_1, fg_g_1 (q_bt _), ea, if_pos (show nI 0 = 0 by decide)]
    have eg : q_in (c - 48) ((4 : Nat) : Int) ↔ (48 ≤ c ∧ c ≤ 51) := by
      rw [q_dig c (by omega)]
      have e1 : (51 : Int32).toInt = 51 := rfl
      have e2 : (nI (48 + 4)).toInt = 52 := rfl
      rw [Int32.lt_iff_toInt_lt, Int32.le_iff_toInt_le, Int32.le_iff_toInt_le, e1, e2]
      omega
    refine ⟨_, _, rfl, c_ont (c_on1 (by decide)) (c_on1 (by decide)), ?_⟩
    by_cases c1 : 48 ≤ c ∧ c ≤ 51
    · rw [if_pos c1]
      refine Or.inr ⟨_, rfl, q_b1 (eg.mpr c1), ?_⟩
      unfold c_tx
      simp [h_i_si, h9, h4, h5, h6]
    · rw [if_neg c1]
      exact Or.inl ⟨rfl, q_b0 (fun w => c1 (eg.mp w))⟩
  · rw [fg_if_0 (show ¬ nI 1 = 0 by decide), fg_if_1 (show nI 1 = 1 by decide), fg_let_1, ea, if_neg (show ¬ nI 1 = 0 by decide), if_pos (show nI 1 = 1 by decide)]
    by_cases c1 : c = 58
    · rw [fg_if_1 c1, if_pos c1]
      refine ⟨_, _, rfl, c_on1 (by decide), Or.inr ⟨_, rfl, rfl, ?_⟩⟩
      unfold c_tx
      simp [h_i_si, h9, h3, h4, h5, h6]
    · rw [fg_if_0 c1, if_neg c1]
      exact ⟨_, _, rfl, c_on1 (by decide), Or.inl ⟨rfl, rfl⟩⟩
  · rw [fg_if_0 (show ¬ nI 2 = 0 by decide), fg_if_0 (show ¬ nI 2 = 1 by decide), fg_if_1 (show nI 2 = 2 by decide), ea, if_neg (show ¬ nI 2 = 0 by decide), if_neg (show ¬ nI 2 = 1 by decide), if_pos (show nI 2 = 2 by decide)]
    unfold fn_X3_goesOnUses
    rw [fg_g_1 hk, ci_uses20 hk h4, fg_let_1, h4]
    by_cases c1 : s_um c ≠ 0 ∧ q.2.2.2.1 &&& s_um c = 0
    · have c2 : ¬ c = 64 := fun w => by rw [w] at c1; exact c1.1 (by decide)
      rw [fg_if_0 c2, fg_if_1 c1, fg_b_1, fg_g_1 bt1, if_pos c1]
      refine ⟨_, _, rfl, c_on1 (by decide), Or.inr ⟨_, rfl, rfl, ?_⟩⟩
      unfold c_tx
      simp [h_i_si, h9, h3, h8, h5, h6, ea]
      rfl
    · rw [fg_if_0 c1, if_neg c1]
      by_cases c2 : c = 64 ∧ q.2.2.2.1 ≠ 0
      · rw [if_pos c2, fg_if_1 c2.1, fg_if_0 c2.2, fg_b_1, fg_g_1 bt1]
        refine ⟨_, _, rfl, c_on1 (by decide), Or.inr ⟨_, rfl, rfl, ?_⟩⟩
        unfold c_tx
        simp [h_i_si, h9, h3, h4, h5, h6]
      · rw [if_neg c2]
        refine ⟨0, K, ?_, c_on0, Or.inl ⟨rfl, rfl⟩⟩
        by_cases c3 : c = 64
        · have c4 : q.2.2.2.1 = 0 := Classical.byContradiction (fun w => c2 ⟨c3, w⟩)
          rw [fg_if_1 c3, fg_if_1 c4, fg_b_1, fg_g_1 bt0]
        · rw [fg_if_0 c3, fg_b_1, fg_g_1 bt0]
  · rw [fg_if_0 (show ¬ nI 3 = 0 by decide), fg_if_0 (show ¬ nI 3 = 1 by decide), fg_if_0 (show ¬ nI 3 = 2 by decide), ea, if_neg (show ¬ nI 3 = 0 by decide), if_neg (show ¬ nI 3 = 1 by decide), if_neg (show ¬ nI 3 = 2 by decide), if_pos (show nI 3 = 3 by decide)]
    unfold fn_X3_goesOnNumber
    have q3 : q.1 = 3 := by rw [ea]; rfl
    rw [fg_g_1 hk, ci_num33 hk hr', h8, h9, fg_if_1 q3, fg_if_1 q3, fg_let_1, fg_let_1]
    by_cases c1 : (48 ≤ c ∧ c ≤ 57) ∧ q.2.1 < 4
    · have c2 : ¬ c = 45 := fun w => by rw [w] at c1; exact absurd c1.1.1 (by decide)
      rw [fg_if_0 c2, fg_if_1 c1, if_pos c1, fg_b_1, fg_g_1 bt1]
      refine ⟨_, _, rfl, c_ont (c_on1 (by decide)) (c_on1 (by decide)), Or.inr ⟨_, rfl, rfl, ?_⟩⟩
      unfold c_tx
      simp [h_i_si, h8, h3, h4, h6, q3]
    · rw [fg_if_0 c1, if_neg c1]
      by_cases c2 : c = 45 ∧ 0 < q.2.1
      · rw [if_pos c2, fg_if_1 c2.1, fg_if_0 (Int32.not_le.mpr c2.2), fg_b_1, fg_g_1 bt1]
        refine ⟨_, _, rfl, c_ont (c_on1 (by decide)) (c_on1 (by decide)), Or.inr ⟨_, rfl, rfl, ?_⟩⟩
        unfold c_tx
        simp [h_i_si, h3, h4, h5, h6]
      · rw [if_neg c2]
        refine ⟨0, K, ?_, c_on0, Or.inl ⟨rfl, rfl⟩⟩
        by_cases c3 : c = 45
        · rw [fg_if_1 c3, fg_if_1 (Int32.not_lt.mp (fun w => c2 ⟨c3, w⟩)), fg_b_1, fg_g_1 bt0]
        · rw [fg_if_0 c3, fg_b_1, fg_g_1 bt0]
  · rw [fg_if_0 (show ¬ nI 4 = 0 by decide), fg_if_0 (show ¬ nI 4 = 1 by decide), fg_if_0 (show ¬ nI 4 = 2 by decide), ea, if_neg (show ¬ nI 4 = 0 by decide), if_neg (show ¬ nI 4 = 1 by decide), if_neg (show ¬ nI 4 = 2 by decide), if_neg (show ¬ nI 4 = 3 by decide)]
    unfold fn_X3_goesOnNumber
    have q3 : ¬ q.1 = 3 := by rw [ea]; decide
    have q4 : q.1 = 4 := by rw [ea]; rfl
    rw [fg_g_1 hk, ci_num33 hk hr', h8, fg_if_0 q3, fg_if_0 q3, fg_if_same]
    by_cases c1 : (48 ≤ c ∧ c ≤ 57) ∧ q.2.1 < 4
    · rw [fg_if_1 c1, if_pos c1, fg_b_1, fg_g_1 bt1]
      refine ⟨_, _, rfl, c_ont (c_on1 (by decide)) (c_on1 (by decide)), Or.inr ⟨_, rfl, rfl, ?_⟩⟩
      unfold c_tx
      simp [h_i_si, h8, h3, h4, h5, q4]
    · rw [fg_if_0 c1, if_neg c1, fg_b_1, fg_g_1 bt0]
      exact ⟨0, K, rfl, c_on0, Or.inl ⟨rfl, rfl⟩⟩
theorem ci_cellAt {q : Nat} (hF : c_F k) (hq : q < 4) {i : Nat} (hi : i < 60) : fn_X5_cellAt (52 + q) (nI i) k = some (h_i k (56 + q) i, k) := by
  obtain ⟨_, s1, s2, s3, s4⟩ := c_shf hF hq
  unfold fn_X5_cellAt
  rw [show (60 : Int32) = nI 60 from rfl, ci_withinN _ (by decide), fg_b_1, q_b_if, fg_if_1 ((n_inI (by omega)).mpr (by omega)), fg_g_1 s1, s2, fg_o_1, fg_g_1 s3, s4, fg_g_1 ((n_vp (by omega)).mpr hi), q_nIx (by omega)]
theorem ci_readText_3 {o p i n : Nat} (hF : c_F k) (hk : h_k k o = 24) (ho : 128 ≤ o) (hp : p < 4) (hn : i + n ≤ 60) : ∀ (d j N : Nat) (K : h_S) (q : sT), j + d = n → d < N → s_tok q → c_on o k K → c_tx K o q → ∃ K2, fn_X3_readText_3 N o (some (52 + p)) (nI i) (nI n) (nI j) K = some (fg_if ((s_rd (fun j => h_i k (56 + p) (i + j)) d j q).1 = -1) (-9) (s_rd (fun j => h_i k (56 + p) (i + j)) d j q).1, K2) ∧ c_on o k K2 ∧ ((s_rd (fun j => h_i k (56 + p) (i + j)) d j q).1 = -1 → c_tx K2 o (s_rd (fun j => h_i k (56 + p) (i + j)) d j q).2) := by
  have nn : ∀ j, j ≤ 60 → ¬ nI j = -1 := fun j hj w => by
    have := congrArg Int32.toInt w
    rw [q_nI (by omega)] at this
    have e1 : (-1 : Int32).toInt = -1 := rfl
    omega
  intro d
  induction d with
  | zero =>
    intro j N K q hj hN ok hf hr
    obtain ⟨N, rfl⟩ : ∃ m, N = m + 1 := ⟨N - 1, by omega⟩
    refine ⟨K, ?_, hf, fun _ => hr⟩
    show fn_X3_readText_3b _ _ _ _ _ _ _ = _
    unfold fn_X3_readText_3b s_rd
    rw [fg_if_1 ((n_le (by omega) (by omega)).mpr (by omega)), fg_g_1 ((hf.2.1 o).trans hk), hr.1, hr.2.1]
    have en : n = j := by omega
    subst en
    by_cases c : q.1 = 4 ∧ 0 < q.2.1
    · rw [if_pos c, fg_if_1 c.1, fg_if_0 (Int32.not_le.mpr c.2), fg_if_1 rfl]
    · rw [if_neg c, fg_if_0 (nn n (by omega))]
      by_cases c2 : q.1 = 4
      · rw [fg_if_1 c2, fg_if_1 (Int32.not_lt.mp (fun w => c ⟨c2, w⟩))]
      · rw [fg_if_0 c2]
  | succ d ih =>
    intro j N K q hj hN ok hf hr
    obtain ⟨N, rfl⟩ : ∃ m, N = m + 1 := ⟨N - 1, by omega⟩
    have FK : c_F K := cf_on hF hf
    have e56 : h_i K (56 + p) = h_i k (56 + p) := (hf.1 (56 + p) (by omega)).2.2.1
    have ko : h_k K o = 24 := (hf.2.1 o).trans hk
    obtain ⟨r, K2, s1, s2, s3⟩ := ci_goesOn (c := h_i k (56 + p) (i + j)) ko ok hr
    show ∃ K2, fn_X3_readText_3b (fn_X3_readText_3 N) _ _ _ _ _ _ = _ ∧ _
    unfold fn_X3_readText_3b s_rd
    rw [fg_if_0 (fun q => by have := (n_le (a := n) (b := j) (by omega) (by omega)).mp q; omega), fg_o_1, fg_g_1 (c_shf FK hp).2.1, n_add, ci_cellAt FK hp (by omega), fg_b_1, fg_g_1 ko, e56, s1, fg_b_1, n_p1]
    rcases s3 with ⟨t1, t2⟩ | ⟨q2, t1, t2, t3⟩
    · rw [t1, t2, fg_if_1 rfl]
      refine ⟨K2, ?_, c_ont hf s2, fun w => absurd w (nn j (by omega))⟩
      dsimp only
      rw [fg_if_0 (nn j (by omega))]
    · rw [t1, t2, fg_if_0 (by decide)]
      exact ih (j + 1) N K2 q2 (by omega) (by omega) (s_tx_ok ok t1) (c_ont hf s2) t3
theorem s_rd_c {C D : Nat → Int32} : ∀ (d j : Nat) (q : sT), (∀ i, j ≤ i → i < j + d → C i = D i) → s_rd C d j q = s_rd D d j q := by
  intro d
  induction d with
  | zero => intro j q _; rfl
  | succ d ih =>
    intro j q h
    unfold s_rd
    rw [h j (Nat.le_refl _) (by omega)]
    cases s_tx q (D j) with
    | none => rfl
    | some q2 => exact ih (j + 1) q2 (fun i h1 h2 => h i (by omega) (by omega))
theorem ci_br (h : CB k s y) (vs : ivs s) {q : Nat} (hq : q < 4) (l i n : Int32) {F : h_S → fg_R Int32 h_S} (hb : ¬ s_bf s q l i n = 0) : ∃ k2, fg_b (fn_X11_refusedCells (nI q) l i n (h_si k 0 18 0)) (fun p T => fg_if (p = 0) (F T) (some (p, T, 0, 0))) = some ((s_br s (s_bf s q l i n)).1, k2, 0, 0) ∧ CB k2 (s_br s (s_bf s q l i n)).2 y := by
  have h0 : CB (h_si k 0 18 0) (s_flt s 0) y := cs_flt (CB_M h) 0
  have e : s_bf (s_flt s 0) q l i n = s_bf s q l i n := rfl
  rw [ci_refusedCells h0.1 (CB_T (CB_M h0)) vs hq, e, fg_if_0 hb]
  unfold s_br
  by_cases c : s_bf s q l i n = -2
  · simp only [fg_if_1 c]
    rw [fg_b_1, fg_if_0 (by decide)]
    exact ⟨_, rfl, h0⟩
  · simp only [fg_if_0 c]
    rw [fg_b_1]
    have nn : ¬ (-10 - s_bf s q l i n) = 0 := by
      rcases s_bfv s q l i n with w | w | w | w | w | w
      · exact absurd w hb
      · rw [w]; decide
      · rw [w]; decide
      · rw [w]; decide
      · rw [w]; decide
      · exact absurd w c
    rw [fg_if_0 nn, h_si_si]
    exact ⟨_, rfl, cs_flt (CB_M h) _⟩
theorem cs_right (h : CB k s y) (v : ivc s) (g : ivg s) (vs : ivs s) (x0 x1 x2 x3 x4 : Int32) : ∃ k2 c d y2, fn_X11_right x0 x1 x2 x3 x4 k = some ((s_right s x0 x1 x2 x3 x4).1, k2, c, d) ∧ CB k2 (s_right s x0 x1 x2 x3 x4).2 y2 ∧ c + zC y2 ≤ zC y + 2 ∧ d + zD y2 ≤ zD y + 1010 := by
  have h0 : CB (h_si k 0 18 0) (s_flt s 0) y := cs_flt (CB_M h) 0
  have v0 : ivc (s_flt s 0) := v
  have g0 : ivg (s_flt s 0) := g
  have hF := h0.1
  unfold fn_X11_right s_right
  rw [fg_let_1, ci_isWriting h0.2.1 v0, fg_b_1, q_b_if]
  by_cases c1 : q_in x0 (sC s 2)
  · have c1' : q_in x0 (sC (s_flt s 0) 2) := c1
    rw [fg_if_1 c1', show (4 : Int32) = nI 4 from rfl, ci_withinN _ (by decide), fg_b_1, q_b_if]
    by_cases c2 : q_in x1 4
    · have c2' : q_in x1 ((4 : Nat) : Int) := c2
      have c : q_in x0 (sC s 2) ∧ q_in x1 4 := ⟨c1, c2⟩
      rw [fg_if_1 c2']
      simp only [fg_if_1 c]
      obtain ⟨e1, l1⟩ := n_in c2'
      generalize h_ix x1 = p at e1 l1
      subst e1
      by_cases c3 : s_bf s p x2 x3 x4 = 0
      · simp only [fg_if_1 c3]
        have c3' : s_bf (s_flt s 0) p x2 x3 x4 = 0 := c3
        obtain ⟨z, hz, ez, ei, en, hl⟩ := s_bf0 vs l1 c3
        rw [ci_refusedCells h0.1 (CB_T (CB_M h0)) vs l1, fg_if_1 c3', fg_b_1, fg_if_1 rfl, fg_let_1, fg_let_1]
        generalize h_ix x3 = i at ei hl
        generalize h_ix x4 = n at en hl
        subst ei en
        obtain ⟨q, eq⟩ : ∃ q, c_ad 14 (h_si k 0 18 0) = q := ⟨_, rfl⟩
        rw [eq]
        generalize h_si k 0 18 0 = K at h0 hF eq
        have q0 : h_k K q = 0 := by rw [← eq]; exact cf_z hF rfl
        have q8 : c_tg 14 q := by rw [← eq]; unfold c_tg c_ad; omega
        have F5 : c_F (h_nw K q 24 10) := cf_nw hF eq.symm (by decide)
        have k24 : h_k (h_nw K q 24 10) q = 24 := by rw [h_k_nw, if_pos rfl]
        have e00 : h_i (h_nw K q 24 10) 0 0 = nI (sC s 0) := by rw [h_i_nw, if_neg (by have := q8.1; omega)]; exact h0.2.1.1
        rw [ci_rinit k24, fg_b_1, e00, n_p1]
        have zq : ∀ j, h_i (h_nw K q 24 10) q j = 0 := fun j => by rw [h_i_nw, if_pos rfl]
        have eqK : ∀ z, z ≠ q → c_eq K (c_ri (h_nw K q 24 10) q x0 (nI (sC s 0 + 1))) z := fun z hz => c_eqt (c_eq_nw hz) (c_ri_eq hz)
        have FS : c_F (c_ri (h_nw K q 24 10) q x0 (nI (sC s 0 + 1))) := F5
        have kS : h_k (c_ri (h_nw K q 24 10) q x0 (nI (sC s 0 + 1))) q = 24 := k24
        have tS : c_tx (c_ri (h_nw K q 24 10) q x0 (nI (sC s 0 + 1))) q (0, 0, 0, 0, 0, 0) := by
          unfold c_tx c_ri
          simp [h_i_si, zq]
        have iS : h_i (c_ri (h_nw K q 24 10) q x0 (nI (sC s 0 + 1))) q 0 = x0 ∧ h_i (c_ri (h_nw K q 24 10) q x0 (nI (sC s 0 + 1))) q 1 = nI (sC s 0 + 1) ∧ h_i (c_ri (h_nw K q 24 10) q x0 (nI (sC s 0 + 1))) q 2 = 2147483647 ∧ h_i (c_ri (h_nw K q 24 10) q x0 (nI (sC s 0 + 1))) q 7 = -9 := by
          unfold c_ri
          simp [h_i_si]
        generalize c_ri (h_nw K q 24 10) q x0 (nI (sC s 0 + 1)) = S at eqK FS kS tS iS
        have e9 : h_r S 9 p = some (52 + p) := (c_shf FS l1).1
        rw [fg_g_1 ((n_vp (by omega)).mpr l1), fg_g_1 kS, e9]
        unfold fn_X3_readText s_txt
        obtain ⟨S2, f1, f2, f3⟩ := ci_readText_3 (i := i) (n := n) FS kS q8.1 l1 (by omega) n 0 g_N S (0, 0, 0, 0, 0, 0) (by omega) (by have := g_N_le; omega) ⟨⟨0, by omega, rfl, 0, by omega, rfl, fun _ => rfl, fun w => by omega⟩, 0, by omega, rfl⟩ c_on0 tS
        have ecell : ∀ j, j < n → h_i S (56 + p) (i + j) = sF s 112 (60 * p + i + j) := fun j hj => by
          rw [(eqK (56 + p) (by have := q8.1; omega)).2.2.1]
          have := (CB_T (CB_M h0) p l1).2.2 (i + j) (by
            show ((i + j : Nat) : Int) < (sF s 110 p).toInt
            rw [ez, q_nI (by omega)]; omega)
          rw [this, Nat.add_assoc]
          rfl
        rw [s_rd_c n 0 (0, 0, 0, 0, 0, 0) (fun j _ hj => ecell j (by omega))] at f1 f3
        obtain ⟨k1, k2, k3⟩ := s_rd_ok (fun j => sF s 112 (60 * p + i + j)) n 0 (0, 0, 0, 0, 0, 0) ⟨⟨0, by omega, rfl, 0, by omega, rfl, fun _ => rfl, fun w => by omega⟩, 0, by omega, rfl⟩
        have f1' : fn_X3_readText_3 g_N q (some (52 + p)) (nI i) (nI n) 0 S = _ := f1
        rw [f1', fg_b_1]
        generalize s_rd (fun j => sF s 112 (60 * p + i + j)) n 0 (0, 0, 0, 0, 0, 0) = R at k1 k2 k3 f3
        by_cases c4 : R.1 = -1
        · rw [fg_if_1 (show fg_if (R.1 = -1) (-9 : Int32) R.1 = -9 from fg_if_1 c4)]
          simp only [fg_if_1 c4]
          obtain ⟨r8, r9, r3, r4, r5, r6⟩ := f3 c4
          have gj : c_jk K S2 := by
            intro a ha
            have n : a ≠ q := fun e => by
              rcases ha with w | w
              · exact w (by rw [e]; exact q0)
              · have := q8.1; omega
            exact c_eqt (eqK a n) (f2.1 a n)
          have hq : c_rt S2 q x0 (nI (sC (s_flt s 0) 0 + 1)) R.2.2.2.1 R.2.2.2.2.1 R.2.2.2.2.2.1 R.2.2.2.2.2.2 (-9) := ⟨q8, (f2.2.1 q).trans kS, f2.2.2.2.1.trans iS.1, f2.2.2.2.2.1.trans iS.2.1, f2.2.2.2.2.2.1.trans iS.2.2.1, r3, r4, r5, r6, f2.2.2.2.2.2.2.trans iS.2.2.2⟩
          obtain ⟨k5, cc, dd, y2, a1, a2, a3, a4, a5, a6⟩ := ci_keepRight h0 v0 g0 (cf_on FS f2) gj q0 hq
          rw [a1, fg_bc_1]
          simp only [fg_c_1]
          exact ⟨k5, _, _, y2, rfl, a2, by omega, by omega⟩
        · have n9 : ¬ fg_if (R.1 = -1) (-9 : Int32) R.1 = -9 := by
            rw [fg_if_0 c4]
            rcases k2 with w | ⟨i2, hi2, w⟩
            · exact absurd w c4
            · rw [w]
              intro w2
              have := congrArg Int32.toInt w2
              rw [q_nI (by omega)] at this
              have e1 : (-9 : Int32).toInt = -9 := rfl
              omega
          have gj : c_jk K S2 := by
            intro a ha
            have n : a ≠ q := fun e => by
              rcases ha with w | w
              · exact w (by rw [e]; exact q0)
              · have := q8.1; omega
            exact c_eqt (eqK a n) (f2.1 a n)
          rw [fg_if_0 n9, fg_if_0 c4]
          simp only [fg_if_0 c4, fg_c_1]
          exact ⟨S2, _, _, y, rfl, CB_junk (CB_M h0) (cf_on FS f2) gj, by omega, by omega⟩
      · simp only [fg_if_0 c3]
        obtain ⟨k2, b1, b2⟩ := ci_br h vs l1 x2 x3 x4 c3
        rw [b1]
        exact ⟨k2, 0, 0, y, rfl, b2, by omega, by omega⟩
    · have c2' : ¬ q_in x1 ((4 : Nat) : Int) := c2
      have c : ¬ (q_in x0 (sC s 2) ∧ q_in x1 4) := fun w => c2 w.2
      rw [fg_if_0 c2']
      simp only [fg_if_0 c]
      exact ⟨_, 0, 0, y, rfl, h0, by omega, by omega⟩
  · have c1' : ¬ q_in x0 (sC (s_flt s 0) 2) := c1
    have c : ¬ (q_in x0 (sC s 2) ∧ q_in x1 4) := fun w => c1 w.1
    rw [fg_if_0 c1']
    simp only [fg_if_0 c]
    exact ⟨_, 0, 0, y, rfl, h0, by omega, by omega⟩
end CRt
