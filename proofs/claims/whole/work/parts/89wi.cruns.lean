/-! join of the class: runs, the row is kept -/
section CJr
variable {k k2 k3 : h_S} {s : sA} {y : c_Y} {M : Nat} {J : List Int32}
theorem ci_kl33F (h : CBM k s (sC s 0) y) (v : ivc s) (v0 : sC s 0 < 512) (vq : ivq s) (vv : ivv s) {w q : Nat} {l : List sP} (hw : w < sC s 2) (hl : l.length ≤ 24) (hq5 : c_tg 5 q) (q0 : h_k k q = 0) (hb : c_bo k 27 0 l) (h9 : h_i k 3 9 = nI l.length) : ∀ (d j N : Nat) (K : h_S), j + d = l.length → d < N → c_F K → (∀ a, h_k k a ≠ 0 ∨ a < 128 → c_eq k K a) → h_k K q = 3 → h_n K q = l.length → (∀ i, i < j → h_r K q i = h_r k 27 i) → ∃ K2, fn_X7_keepLaid_33 N (nI w) (nI (sC s 0 + 1)) q (nI j) K = some (1, K2, 1, 3) ∧ CBM K2 (s_new s (nI w) l) (sC s 0 + 1) (yUH y w ((sC s 0 + 1, l) :: yH y w)) ∧ (∀ a, a < 128 → a ≠ 16 → c_eq k K2 a) := by
  have v2 := v.2.2.1
  intro d
  induction d with
  | zero =>
    intro j N K hj hN hF fr kq nq rq
    obtain ⟨N, rfl⟩ : ∃ m, N = m + 1 := ⟨N - 1, by omega⟩
    show ∃ K2, fn_X7_keepLaid_33b _ _ _ _ _ _ = _ ∧ _
    unfold fn_X7_keepLaid_33b
    have e9 : h_i K 3 9 = nI l.length := by rw [(fr 3 (Or.inr (by omega))).2.2.1]; exact h9
    obtain ⟨q3, eq3⟩ : ∃ q3, c_ad 4 K = q3 := ⟨_, rfl⟩
    rw [e9, fg_if_1 ((n_le (by omega) (by omega)).mpr (by omega)), fg_let_1, fg_let_1, eq3]
    have z3 : h_k K q3 = 0 := by rw [← eq3]; exact cf_z hF rfl
    have z3' : 128 ≤ q3 := by rw [← eq3]; unfold c_ad; omega
    have e16 : h_r (h_nw K q3 25 3) 16 = h_r K 16 := by funext j; rw [h_r_nw, if_neg (by omega)]
    obtain ⟨K2, f1, f2, f3, f4, f5, f6, f7, f8, f9, f10⟩ := ci_rowobj (w := w) hF eq3 (b := q) (Or.inl (by rw [kq]; decide)) (nI (sC s 0 + 1)) (by omega)
    rw [fg_g_1 ((n_vp (by omega)).mpr (by omega)), q_nIx (by omega), e16, f1, fg_b_1, fg_g_1 ((n_vp (by omega)).mpr (by omega)), fg_g_1 f10, fg_let_1]
    simp only [fg_c_1]
    have rk16 : h_r K 16 = h_r k 16 := (fr 16 (Or.inr (by omega))).2.2.2
    have nq3 : q ≠ q3 := fun e => by rw [e, z3] at kq; exact absurd kq (by decide)
    have n16 : q ≠ 16 := by have := hq5.1; omega
    have eqq := f3 q (Or.inl (by rw [kq]; decide)) n16
    refine ⟨_, rfl, CB_row (b := q) h v v0 vq vv hw f2 (fun a ha h16 => c_eqt (fr a ha) (f3 a (by
      rcases ha with z | z
      · left; rw [(fr a (Or.inl z)).1]; exact z
      · exact Or.inr z) h16)) (fun i => by rw [f4, rk16]) f5 f6 f7 f8 (by rw [f9, rk16]) ⟨Or.inr hq5, by rw [eqq.1]; exact kq, by rw [eqq.2.1]; exact nq, fun i p hp => ?_⟩, fun a ha h16 => c_eqt (fr a (Or.inr ha)) (f3 a (Or.inr ha) h16)⟩
    have hi : i < l.length := by
      rcases Nat.lt_or_ge i l.length with z | z
      · exact z
      · rw [List.getElem?_eq_none z] at hp; cases hp
    obtain ⟨c, c1, c2⟩ := hb i p hp
    rw [Nat.zero_add] at c1
    have c128 := c2.1.1
    have cn : h_k k c ≠ 0 := by rw [c2.2.1]; decide
    have e1 := fr c (Or.inl cn)
    have e2 := f3 c (Or.inl (by rw [e1.1]; exact cn)) (by omega)
    refine ⟨c, by rw [eqq.2.2.2, rq i (by omega)]; exact c1, ?_⟩
    unfold c_pc at *
    rw [e2.1, e2.2.2.1, e1.1, e1.2.2.1]
    exact c2
  | succ d ih =>
    intro j N K hj hN hF fr kq nq rq
    obtain ⟨N, rfl⟩ : ∃ m, N = m + 1 := ⟨N - 1, by omega⟩
    have hj2 : j < l.length := by omega
    show ∃ K2, fn_X7_keepLaid_33b (fn_X7_keepLaid_33 N) _ _ _ _ _ = _ ∧ _
    unfold fn_X7_keepLaid_33b
    have e9 : h_i K 3 9 = nI l.length := by rw [(fr 3 (Or.inr (by omega))).2.2.1]; exact h9
    obtain ⟨c, c1, c2⟩ := hb j _ (List.getElem?_eq_getElem hj2)
    rw [Nat.zero_add] at c1
    have e27 : h_r K 27 j = some c := by rw [(fr 27 (Or.inr (by omega))).2.2.2]; exact c1
    have cn : h_k k c ≠ 0 := by rw [c2.2.1]; decide
    have e1 := fr c (Or.inl cn)
    rw [e9, fg_if_0 (fun z => by have := (n_le (a := l.length) (b := j) (by omega) (by omega)).mp z; omega), fg_g_1 ((n_vp (by omega)).mpr (by omega)), fg_g_1 kq, nq, fg_g_1 ((n_vp (by omega)).mpr hj2), q_nIx (by omega), e27, fg_g_1 (fun x hx => by cases hx; rw [e1.1]; exact c2.2.1), fg_let_1, n_p1]
    refine ih (j + 1) N _ (by omega) (by omega) (cf_sr (kd := 3) hF kq (by decide) _) (fun a ha => c_eqt (fr a ha) (c_eq_sr (fun e => ?_))) kq nq (fun i hi => ?_)
    · rcases ha with z | z
      · exact z (by rw [e]; exact q0)
      · have := hq5.1; omega
    · rw [h_r_sr]
      by_cases e : i = j
      · rw [if_pos ⟨rfl, e⟩, e, c1]
      · rw [if_neg (fun z => e z.2)]
        exact rq i (by omega)
theorem ci_keepLaidF (h : CBM k s (sC s 0) y) (v : ivc s) (v0 : sC s 0 < 512) (vq : ivq s) (vv : ivv s) {w : Nat} {l : List sP} (hw : w < sC s 2) (hl : l.length ≤ 32) (hb : c_bo k 27 0 l) (h9 : h_i k 3 9 = nI l.length) : ∃ k2 c e, fn_X7_keepLaid (nI w) (nI (sC s 0 + 1)) k = some (q_b (l.length ≤ 24), k2, c, e) ∧ c ≤ 2 ∧ e ≤ 27 ∧ (l.length ≤ 24 → CBM k2 (s_new s (nI w) l) (sC s 0 + 1) (yUH y w ((sC s 0 + 1, l) :: yH y w))) ∧ (¬ l.length ≤ 24 → k2 = k) ∧ (∀ a, a < 128 → a ≠ 16 → c_eq k k2 a) := by
  have v2 := v.2.2.1
  have hF := h.1
  unfold fn_X7_keepLaid
  rw [h9]
  by_cases c : l.length ≤ 24
  · have c' : ¬ (24 : Int32) < nI l.length := fun z => by have := (n_lt (a := 24) (by omega) (by omega)).mp z; omega
    rw [fg_if_0 c', q_b1 c, h.2.1.2.2.1, ci_withinN _ (by omega), fg_b_1, q_b_if, fg_if_1 ((n_inI (by omega)).mpr hw), h9, q_nIx (by omega), fg_g_1 (n_neg (by omega)), fg_g_1 (by omega), fg_let_1, fg_let_1]
    obtain ⟨q, eq⟩ : ∃ q, c_ad 5 k = q := ⟨_, rfl⟩
    rw [eq]
    have q0 : h_k k q = 0 := by rw [← eq]; exact cf_z hF rfl
    have q8 : c_tg 5 q := by rw [← eq]; unfold c_tg c_ad; omega
    obtain ⟨K2, f1, f2, f3⟩ := ci_kl33F h v v0 vq vv hw c q8 q0 hb h9 l.length 0 g_N (h_nw k q 3 l.length) (by omega) (by have := g_N_le; omega) (cf_nw hF eq.symm (by decide)) (fun a ha => c_eq_nw (fun e => by
      rcases ha with z | z
      · exact z (by rw [e]; exact q0)
      · have := q8.1; omega)) (by rw [h_k_nw, if_pos rfl]) (by rw [h_n_nw, if_pos rfl]) (fun i hi => absurd hi (Nat.not_lt_zero _))
    have f1' : fn_X7_keepLaid_33 g_N (nI w) (nI (sC s 0 + 1)) q 0 (h_nw k q 3 l.length) = some (1, K2, 1, 3) := f1
    rw [f1']
    simp only [fg_c_1]
    exact ⟨K2, _, _, rfl, by omega, by omega, fun _ => f2, fun z => absurd c z, f3⟩
  · have c' : (24 : Int32) < nI l.length := (n_lt (a := 24) (by omega) (by omega)).mpr (by omega)
    rw [fg_if_1 c', q_b0 c]
    exact ⟨k, 0, 0, rfl, by omega, by omega, fun z => absurd z c, fun _ => rfl, fun _ _ _ => c_eq0⟩
theorem ci_runs_15 (hJ : J.length ≤ 600) (hj : c_jn k J) : ∀ (l : List Int32) (p : Int32) (z c N : Nat), J.drop (z + 1) = l → J[z]? = some p → l.length < N → fn_X9_runs_15 N (nI c) (nI (z + 1)) k = some (nI (c + s_brk p l), k) := by
  intro l
  induction l with
  | nil =>
    intro p z c N hl hp hN
    obtain ⟨N, rfl⟩ : ∃ m, N = m + 1 := ⟨N - 1, by have : 0 < N := hN; omega⟩
    have hz := (List.getElem?_eq_some_iff.mp hp).1
    have hz2 : J.length ≤ z + 1 := by
      rcases Nat.lt_or_ge (z + 1) J.length with w | w
      · rw [List.drop_eq_getElem_cons w] at hl; cases hl
      · exact w
    show fn_X9_runs_15b _ _ _ _ = _
    unfold fn_X9_runs_15b
    rw [hj.1, fg_if_1 ((n_le (by omega) (by omega)).mpr hz2)]
    rfl
  | cons x l ih =>
    intro p z c N hl hp hN
    rw [List.length_cons] at hN
    obtain ⟨N, rfl⟩ : ∃ m, N = m + 1 := ⟨N - 1, by omega⟩
    have hz2 : z + 1 < J.length := by
      rcases Nat.lt_or_ge (z + 1) J.length with w | w
      · exact w
      · rw [List.drop_eq_nil_of_le w] at hl; cases hl
    rw [List.drop_eq_getElem_cons hz2] at hl
    injection hl with hx hl
    have ex : J[z + 1]? = some x := by rw [List.getElem?_eq_getElem hz2, hx]
    show fn_X9_runs_15b (fn_X9_runs_15 N) _ _ _ = _
    unfold fn_X9_runs_15b s_brk
    rw [hj.1, fg_if_0 (fun w => by have := (n_le (a := J.length) (b := z + 1) (by omega) (by omega)).mp w; omega), fg_g_1 ((n_vp (by omega)).mpr (by omega)), n_m1, fg_g_1 ((n_vp (by omega)).mpr (by omega)), q_nIx (show z + 1 < 2 ^ 31 by omega), q_nIx (show z < 2 ^ 31 by omega), hj.2 _ _ ex, hj.2 _ _ hp, n_p1, n_p1]
    by_cases e : x = p + 1
    · rw [fg_if_1 e, if_pos e, ih x (z + 1) c N hl ex (by omega), Nat.zero_add]
    · rw [fg_if_0 e, if_neg e, ih x (z + 1) (c + 1) N hl ex (by omega)]
      congr 3
      omega
theorem ci_runs (hJ : J.length ≤ 600) (hj : c_jn k J) : fn_X9_runs k = some (nI (s_runs J).length, k) := by
  unfold fn_X9_runs fn_X9_runs_12
  rw [hj.1]
  cases J with
  | nil =>
    rw [fg_if_1 (show nI ([] : List Int32).length ≤ 0 by decide)]
    obtain ⟨N, hN⟩ : ∃ m, g_N = m + 1 := ⟨g_N - 1, by have := g_N_le; omega⟩
    rw [hN]
    show fn_X9_runs_15b _ _ _ _ = _
    unfold fn_X9_runs_15b
    rw [hj.1, fg_if_1 (show nI ([] : List Int32).length ≤ 1 by decide)]
    rfl
  | cons x l =>
    rw [List.length_cons] at hJ
    have n0 : ¬ nI (x :: l).length ≤ 0 := fun w => by have := (n_le (a := (x :: l).length) (b := 0) (by rw [List.length_cons]; omega) (by omega)).mp w; rw [List.length_cons] at this; omega
    rw [fg_if_0 n0]
    have := ci_runs_15 (by rw [List.length_cons]; omega) hj l x 0 1 g_N rfl rfl (by have := g_N_le; omega)
    refine this.trans ?_
    show _ = some (nI (s_rr x 1 x l).length, k)
    rw [s_rr_len]
/-- the numbers of the weaver stay -/
def c_n10 (k k2 : h_S) : Prop := ∀ a, a ∈ ([0, 10, 47, 48, 49, 50] : List Nat) → h_i k2 a = h_i k a
theorem c_n10t (h : c_n10 k k2) (h2 : c_n10 k2 k3) : c_n10 k k3 := fun a ha => (h2 a ha).trans (h a ha)
theorem c_jn_n {acc : List Int32} (h : c_jn k acc) (n : c_n10 k k2) : c_jn k2 acc := by
  unfold c_jn at *
  rw [n 10 (by decide), n 47 (by decide)]
  exact h
theorem c_cn_n {acc : List Int32} {L : List (List Int32 × List Int32)} (h : c_cn k acc L) (n : c_n10 k k2) : c_cn k2 acc L := by
  unfold c_cn at *
  rw [n 10 (by decide), n 48 (by decide), n 49 (by decide), n 50 (by decide)]
  exact h
theorem ci_lr_44 {K10 : Option Nat → Int32 → Int32 → Int32 → h_S → fg_R (Unit) h_S} {acc : List sP} {f z : Nat} {x : Int32} (h : CBM k s M y) (hJ : J.length ≤ 600) (hj : c_jn k J) (hb : c_bo k 27 0 acc) (h9 : h_i k 3 9 = nI acc.length) (ha : acc.length < 32) (hf : f < z) (hz : z ≤ J.length) (hx : J[f]? = some x) : ∃ k2, fn_X7_layRuns_44 K10 (some 47) (nI J.length) (nI f) (nI z) k = fg_c 1 5 (K10 (some 47) (nI J.length) (nI z) (nI (z + 1)) k2) ∧ CBM k2 s M y ∧ c_n10 k k2 ∧ c_bo k2 27 0 (acc ++ [(1, x, nI (z - f), -9, -9)]) ∧ h_i k2 3 9 = nI (acc.length + 1) := by
  have hF := h.1
  obtain ⟨q, eq⟩ : ∃ q, c_ad 1 k = q := ⟨_, rfl⟩
  obtain ⟨K2, p1, p2, p3, p4, p5, p6⟩ := ci_pnew hF eq 1 x (nI (z - f)) (-9) (-9)
  have q47 : (47 : Nat) ≠ q := by omega
  have k47 : h_k (h_nw k q 23 5) 47 = 1 := by rw [h_k_nw, if_neg q47]; exact cf_k hF rfl (by decide)
  have n47 : h_n (h_nw k q 23 5) 47 = 600 := by rw [h_n_nw, if_neg q47]; exact cf_n (a := 47) hF rfl (by decide) rfl
  have i47 : h_i (h_nw k q 23 5) 47 f = x := by rw [h_i_nw, if_neg q47]; exact hj.2 f x hx
  have hb2 : c_bo K2 27 0 (acc ++ []) := by rw [List.append_nil]; exact c_bo_tr hb (c_jk_pcs p4) (fun i _ => by rw [(p4 27 (Or.inr (by omega))).2.2.2])
  obtain ⟨k3, i1, i2, i3, _, _, i6⟩ := ci_insert (a := acc) (b := []) p2 hb2 (by rw [(p4 3 (Or.inr (by omega))).2.2.1, List.append_nil]; exact h9) (by rw [List.append_nil]; exact ha) p3
  refine ⟨k3, ?_, CB_B (CB_junk h p2 p4) i2, fun a ha => ?_, i6, by rw [i3, List.length_append]; rfl⟩
  · unfold fn_X7_layRuns_44
    rw [fg_let_1, eq, fg_let_1, fg_o_1, fg_g_1 k47, n47, fg_g_1 ((n_vp (by omega)).mpr (by omega)), q_nIx (show f < 2 ^ 31 by omega), i47, n_sub (by omega), p1, fg_b_1, h9, i1, fg_b_1, n_p1]
  · simp only [List.mem_cons, List.not_mem_nil, or_false] at ha
    rw [(i2.1 a (by omega) (by omega) (by omega)).2.2.1, (p4 a (Or.inr (by omega))).2.2.1]
theorem ci_lr_10 (hJ : J.length ≤ 600) : ∀ (l : List Int32) (acc : List sP) (x : Int32) (n : Nat) (p : Int32) (f z N : Nat) (k : h_S), J.drop (z + 1) = l → J[z]? = some p → J[f]? = some x → f + n = z + 1 → 1 ≤ n → l.length + 1 < N → CBM k s M y → c_jn k J → c_bo k 27 0 acc → h_i k 3 9 = nI acc.length → acc.length + (s_rr x n p l).length ≤ 24 → ∃ k2, fn_X7_layRuns_10 N (some 47) (nI J.length) (nI f) (nI (z + 1)) k = some ((), k2, (s_rr x n p l).length, 5 * (s_rr x n p l).length) ∧ CBM k2 s M y ∧ c_n10 k k2 ∧ c_bo k2 27 0 (acc ++ s_rr x n p l) ∧ h_i k2 3 9 = nI (acc.length + (s_rr x n p l).length) := by
  intro l
  induction l with
  | nil =>
    intro acc x n p f z N k hl hp hf hfn hn hN h hj hb h9 hlen
    obtain ⟨N, rfl⟩ : ∃ m, N = m + 1 + 1 := ⟨N - 2, by have : 1 < N := hN; omega⟩
    have hz := (List.getElem?_eq_some_iff.mp hp).1
    have hz2 : J.length = z + 1 := by
      rcases Nat.lt_or_ge (z + 1) J.length with w | w
      · rw [List.drop_eq_getElem_cons w] at hl; cases hl
      · omega
    have k47 : h_k k 47 = 1 := cf_k h.1 rfl (by decide)
    have n47 : h_n k 47 = 600 := cf_n (a := 47) h.1 rfl (by decide) rfl
    have l1 : (s_rr x n p []).length = 1 := rfl
    rw [l1] at hlen ⊢
    obtain ⟨k2, m1, m2, m3, m4, m5⟩ := ci_lr_44 (K10 := fn_X7_layRuns_10 (N + 1)) (z := z + 1) h hJ hj hb h9 (by omega) (show f < z + 1 by omega) (by omega) hf
    refine ⟨k2, ?_, m2, m3, ?_, m5⟩
    · show fn_X7_layRuns_10b (fn_X7_layRuns_10 (N + 1)) _ _ _ _ _ = _
      unfold fn_X7_layRuns_10b
      have last : fn_X7_layRuns_10 (N + 1) (some 47) (nI J.length) (nI (z + 1)) (nI (z + 1 + 1)) k2 = some ((), k2, 0, 0) := by
        show fn_X7_layRuns_10b (fn_X7_layRuns_10 N) _ _ _ _ _ = _
        unfold fn_X7_layRuns_10b
        rw [fg_if_1 ((n_lt (by omega) (by omega)).mpr (by omega))]
      rw [fg_if_0 (fun w => by have := (n_lt (a := J.length) (b := z + 1) (by omega) (by omega)).mp w; omega), fg_o_1, fg_g_1 k47, n47, fg_if_0 (fun w => by have := (n_lt (a := 600) (b := z + 1) (by omega) (by omega)).mp w; omega), fg_if_1 (by rw [hz2]), m1, last, fg_c_1]
    · rw [show z + 1 - f = n by omega] at m4
      exact m4
  | cons v l ih =>
    intro acc x n p f z N k hl hp hf hfn hn hN h hj hb h9 hlen
    rw [List.length_cons] at hN
    obtain ⟨N, rfl⟩ : ∃ m, N = m + 1 := ⟨N - 1, by omega⟩
    have hz := (List.getElem?_eq_some_iff.mp hp).1
    have hz2 : z + 1 < J.length := by
      rcases Nat.lt_or_ge (z + 1) J.length with w | w
      · exact w
      · rw [List.drop_eq_nil_of_le w] at hl; cases hl
    rw [List.drop_eq_getElem_cons hz2] at hl
    injection hl with hv hl
    have ev : J[z + 1]? = some v := by rw [List.getElem?_eq_getElem hz2, hv]
    have k47 : h_k k 47 = 1 := cf_k h.1 rfl (by decide)
    have n47 : h_n k 47 = 600 := cf_n (a := 47) h.1 rfl (by decide) rfl
    have er : s_rr x n p (v :: l) = if v = p + 1 then s_rr x (n + 1) v l else (1, x, nI n, -9, -9) :: s_rr v 1 v l := rfl
    rw [er] at hlen ⊢
    show ∃ k2, fn_X7_layRuns_10b (fn_X7_layRuns_10 N) _ _ _ _ _ = _ ∧ _
    unfold fn_X7_layRuns_10b
    rw [fg_if_0 (fun w => by have := (n_lt (a := J.length) (b := z + 1) (by omega) (by omega)).mp w; omega), fg_o_1, fg_g_1 k47, n47, fg_if_0 (fun w => by have := (n_lt (a := 600) (b := z + 1) (by omega) (by omega)).mp w; omega), fg_if_0 (fun w => by have := (n_eq (a := z + 1) (b := J.length) (by omega) (by omega)).mp w; omega), fg_o_1, fg_g_1 k47, n47, fg_g_1 ((n_vp (by omega)).mpr (by omega)), fg_o_1, fg_g_1 k47, n47, n_m1, fg_g_1 ((n_vp (by omega)).mpr (by omega)), q_nIx (show z + 1 < 2 ^ 31 by omega), q_nIx (show z < 2 ^ 31 by omega), hj.2 _ _ ev, hj.2 _ _ hp]
    by_cases c : v = p + 1
    · rw [fg_if_1 c, n_p1]
      simp only [if_pos c] at hlen ⊢
      exact ih acc x (n + 1) v f (z + 1) N k hl ev hf (by omega) (by omega) (by omega) h hj hb h9 hlen
    · rw [fg_if_0 c]
      simp only [if_neg c] at hlen ⊢
      rw [List.length_cons] at hlen
      obtain ⟨k2, m1, m2, m3, m4, m5⟩ := ci_lr_44 (K10 := fn_X7_layRuns_10 N) (z := z + 1) h hJ hj hb h9 (by omega) (show f < z + 1 by omega) (by omega) hf
      rw [show z + 1 - f = n by omega] at m4
      have la : (acc ++ [((1, x, nI n, -9, -9) : sP)]).length = acc.length + 1 := by rw [List.length_append]; rfl
      obtain ⟨k3, o1, o2, o3, o4, o5⟩ := ih (acc ++ [(1, x, nI n, -9, -9)]) v 1 v (z + 1) (z + 1) N k2 hl ev ev (by omega) (by omega) (by omega) m2 (c_jn_n hj m3) m4 (by rw [m5, la]) (by rw [la]; omega)
      rw [m1, o1, fg_c_1, List.length_cons]
      rw [List.append_assoc] at o4
      rw [la] at o5
      refine ⟨k3, ?_, o2, c_n10t m3 o3, o4, ?_⟩
      · rw [Nat.add_comm 1, Nat.add_comm 5]; rfl
      · rw [o5]; congr 1; omega
theorem ci_layRuns (h : CBM k s M y) (hJ : J.length ≤ 600) (hj : c_jn k J) (hl : (s_runs J).length ≤ 24) : ∃ k2, fn_X7_layRuns (some 47) (nI J.length) k = some ((), k2, (s_runs J).length, 5 * (s_runs J).length) ∧ CBM k2 s M y ∧ c_n10 k k2 ∧ c_bo k2 27 0 (s_runs J) ∧ h_i k2 3 9 = nI (s_runs J).length := by
  have B0 : c_B k (h_si k 3 9 0) := c_B_si h.1 (Or.inl rfl)
  have h0 := CB_B h B0
  have n0 : c_n10 k (h_si k 3 9 0) := fun a ha => by
    simp only [List.mem_cons, List.not_mem_nil, or_false] at ha
    rw [(B0.1 a (by omega) (by omega) (by omega)).2.2.1]
  have e9 : h_i (h_si k 3 9 0) 3 9 = nI 0 := by rw [h_i_si, if_pos ⟨rfl, rfl⟩]; rfl
  unfold fn_X7_layRuns
  rw [fg_let_1]
  cases J with
  | nil =>
    obtain ⟨N, hN⟩ : ∃ m, g_N = m + 1 := ⟨g_N - 1, by have := g_N_le; omega⟩
    refine ⟨h_si k 3 9 0, ?_, h0, n0, c_bo_nil, e9⟩
    rw [hN]
    show fn_X7_layRuns_10b _ _ _ _ _ _ = _
    unfold fn_X7_layRuns_10b
    rw [fg_if_1 (show nI ([] : List Int32).length < 1 by decide)]
    rfl
  | cons x l =>
    rw [List.length_cons] at hJ
    obtain ⟨k2, m1, m2, m3, m4, m5⟩ := ci_lr_10 (J := x :: l) (by rw [List.length_cons]; omega) l [] x 1 x 0 0 g_N (h_si k 3 9 0) rfl rfl rfl (by omega) (by omega) (by have := g_N_le; omega) h0 (c_jn_n hj n0) c_bo_nil e9 (by rw [List.length_nil, Nat.zero_add]; exact hl)
    rw [List.nil_append] at m4
    rw [List.length_nil, Nat.zero_add] at m5
    exact ⟨k2, m1, m2, c_n10t n0 m3, m4, m5⟩
theorem c_bg_eq {w m a : Nat} {x : Int32} (h1 : a ≠ 15) (h2 : a ≠ 16) (h3 : a ≠ 3) (h4 : a ≠ c_ad 4 k) : c_eq k (c_bg k w m x) a := c_eqt (c_eqt (c_eqt (c_eqt (c_eqt (c_eqt (c_eq_si h1) (c_eq_nw h4)) (c_eq_si h4)) (c_eq_sr h4)) (c_eq_sr h4)) (c_eq_sr h2)) (c_eq_si h3)
theorem c_bg_n10 {w m : Nat} {x : Int32} : c_n10 k (c_bg k w m x) := fun a ha => by
  simp only [List.mem_cons, List.not_mem_nil, or_false] at ha
  exact (c_bg_eq (by omega) (by omega) (by omega) (by unfold c_ad; omega)).2.2.1
end CJr
