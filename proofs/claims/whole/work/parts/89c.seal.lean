/-! seals -/
noncomputable def s_leaf (s : sA) (m : Int32) (i : Nat) : Int32 := fg_if (i - 512 < sC s 3 ∧ sF s 26 (i - 512) ≤ m) (q_mix (q_mix (sF s 24 (i - 512)) (sF s 23 (i - 512))) (sF s 26 (i - 512))) 0
def s_tr2 (L : Nat → Int32) : Nat → Nat → Int32
  | 0, i => L i
  | f + 1, i => if 512 ≤ i then L i else q_mix (s_tr2 L f (2 * i)) (s_tr2 L f (2 * i + 1))
noncomputable def s_tree (s : sA) (m : Int32) (i : Nat) : Int32 := s_tr2 (s_leaf s m) 9 i
def s_sx (x k : Int32) : Int32 := ((512 + x) >>> (k &&& 31)) ^^^ 1
noncomputable def s_seal (s : sA) (m : Int32) : Int32 × sA := (fg_if (q_in m ((sC s 0 : Nat) + 1)) (s_tree s m 1) 0, s)
noncomputable def s_side (s : sA) (x m k : Int32) : Int32 × sA := (fg_if (q_in x (sC s 3) ∧ q_in m ((sC s 0 : Nat) + 1) ∧ q_in k 9) (s_tree s m (h_ix (s_sx x k))) 0, s)
noncomputable def s_pv (T C : Nat → Int32) (x : Int32) : Nat → Nat → Int32 → Int32
  | 0, _, v => fg_if (v = T 1) 1 0
  | d + 1, j, v => fg_if (C j = T (h_ix (s_sx x (nI j)))) (s_pv T C x d (j + 1) (fg_if (((x >>> (nI j &&& 31)) &&& 1) = 0) (q_mix v (C j)) (q_mix (C j) v))) (-100 - nI j)
noncomputable def s_prove (s : sA) (x h c p m k l i : Int32) : Int32 × sA := fg_if (q_in x 500 ∧ q_in m ((sC s 0 : Nat) + 1) ∧ q_in k 4) (fg_if (s_bf s (h_ix k) l i 9 = 0) (s_pv (s_tree s m) (fun j => sF s 112 (60 * h_ix k + h_ix i + j)) x 9 0 (q_mix (q_mix h c) p), s_flt s 0) (s_br s (s_bf s (h_ix k) l i 9))) (-1, s_flt s 0)
theorem s_sx_in : ∀ (x : Fin 512) (k : Fin 9), 0 ≤ (s_sx (nI x) (nI k)).toInt ∧ (s_sx (nI x) (nI k)).toInt < 1024 := by decide +kernel
theorem vp_1 : vp_in 1 1024 := (n_vp (k := 1) (n := 1024) (by decide)).mpr (by decide)
theorem s_sx_0 : ∀ (x : Fin 512) (k : Fin 9), 0 < h_ix (s_sx (nI x) (nI k)) := by decide +kernel
theorem s_tr2_f {L : Nat → Int32} : ∀ (f i : Nat), 512 ≤ i * 2 ^ f → s_tr2 L (f + 1) i = s_tr2 L f i := by
  intro f
  induction f with
  | zero =>
    intro i h
    rw [Nat.pow_zero, Nat.mul_one] at h
    unfold s_tr2
    rw [if_pos h]
  | succ f ih =>
    intro i h
    show (if 512 ≤ i then L i else q_mix (s_tr2 L (f + 1) (2 * i)) (s_tr2 L (f + 1) (2 * i + 1))) = (if 512 ≤ i then L i else q_mix (s_tr2 L f (2 * i)) (s_tr2 L f (2 * i + 1)))
    have e : i * 2 ^ (f + 1) = 2 * i * 2 ^ f := by rw [Nat.pow_succ, Nat.mul_comm 2 i, Nat.mul_assoc, Nat.mul_comm 2]
    rw [e] at h
    have h2 : 2 * i * 2 ^ f ≤ (2 * i + 1) * 2 ^ f := Nat.mul_le_mul_right _ (by omega)
    rw [ih (2 * i) h, ih (2 * i + 1) (by omega)]
theorem s_tree_n (s : sA) (m : Int32) {i : Nat} (h1 : 1 ≤ i) (h2 : i < 512) : s_tree s m i = q_mix (s_tree s m (2 * i)) (s_tree s m (2 * i + 1)) := by
  unfold s_tree
  rw [s_tr2_f 8 (2 * i) (by omega), s_tr2_f 8 (2 * i + 1) (by omega)]
  show (if 512 ≤ i then _ else _) = _
  rw [if_neg (by omega)]
theorem s_tree_l (s : sA) (m : Int32) {i : Nat} (h : 512 ≤ i) : s_tree s m i = s_leaf s m i := by
  unfold s_tree
  show (if 512 ≤ i then _ else _) = _
  rw [if_pos h]
section RSe
variable {t T : r_T} {s : sA}
theorem ri_lt75 {m : Int32} : ∀ (d : Nat) (N : Nat) (T : r_T), d < 512 → d < N → r_fr [109] t T → (∀ i, d < i → i < 1024 → T.2 109 i = s_tree s m i) → ∃ T2, fn_X12_layTree_75 N (nI d) T = some ((), T2) ∧ r_fr [109] t T2 ∧ (∀ i, 0 < i → i < 1024 → T2.2 109 i = s_tree s m i) := by
  intro d
  induction d with
  | zero =>
    intro N T hd hN hf h
    obtain ⟨N, rfl⟩ : ∃ m, N = m + 1 := ⟨N - 1, by omega⟩
    refine ⟨T, ?_, hf, h⟩
    show fn_X12_layTree_75b _ _ _ = _
    unfold fn_X12_layTree_75b
    rw [fg_if_1 (by decide)]
  | succ d ih =>
    intro N T hd hN hf h
    obtain ⟨N, rfl⟩ : ∃ m, N = m + 1 := ⟨N - 1, by omega⟩
    show ∃ T2, fn_X12_layTree_75b (fn_X12_layTree_75 N) _ _ = _ ∧ _
    unfold fn_X12_layTree_75b
    rw [fg_if_0 (fun z => by have := (n_le (a := d + 1) (b := 0) (by omega) (by omega)).mp z; omega), show (2 : Int32) = nI 2 from rfl, n_mul, n_p1, fg_g_1 ((n_vp (by omega)).mpr (by omega)), fg_g_1 ((n_vp (by omega)).mpr (by omega)), ri_mix, fg_b_1, fg_g_1 ((n_vp (by omega)).mpr (by omega)), fg_let_1, n_pm, q_nIx (by omega), q_nIx (by omega), q_nIx (by omega), h (2 * (d + 1)) (by omega) (by omega), h (2 * (d + 1) + 1) (by omega) (by omega), ← s_tree_n s m (by omega) (by omega)]
    refine ih N _ (by omega) (by omega) (r_frt hf (r_frA (by decide))) (fun i h1 h2 => ?_)
    rw [rt_AA, if_pos rfl]
    by_cases e : i = d + 1
    · rw [if_pos e, e]
    · rw [if_neg e]; exact h i (by omega) h2
theorem ri_lt2 (h : RA t s) (v : ivc s) {m : Int32} : ∀ (d j N : Nat) (T : r_T), j + d = 512 → d < N → r_fr [109] t T → (∀ i, i < j → T.2 109 (512 + i) = s_tree s m (512 + i)) → ∃ T2, fn_X12_layTree_2 N m (nI j) T = some ((), T2) ∧ r_fr [109] t T2 ∧ (∀ i, 0 < i → i < 1024 → T2.2 109 i = s_tree s m i) := by
  have v3 := v.2.2.2.1
  intro d
  induction d with
  | zero =>
    intro j N T hj hN hf hT
    obtain ⟨N, rfl⟩ : ∃ m, N = m + 1 := ⟨N - 1, by omega⟩
    show ∃ T2, fn_X12_layTree_2b _ _ _ _ = _ ∧ _
    unfold fn_X12_layTree_2b
    rw [fg_if_1 (show (512 : Int32) ≤ nI j from (n_le (a := 512) (by omega) (by omega)).mpr (by omega))]
    exact ri_lt75 511 g_N T (by omega) (by have := g_N_le; omega) hf (fun i h1 h2 => by
      have := hT (i - 512) (by omega)
      rw [show 512 + (i - 512) = i by omega] at this
      exact this)
  | succ d ih =>
    intro j N T hj hN hf hT
    obtain ⟨N, rfl⟩ : ∃ m, N = m + 1 := ⟨N - 1, by omega⟩
    have hRA : RA T s := RA_fr h hf (by decide)
    show ∃ T2, fn_X12_layTree_2b (fn_X12_layTree_2 N) _ _ _ = _ ∧ _
    unfold fn_X12_layTree_2b fn_X12_layTree_63 fn_X12_layTree_64
    have e64 : ∀ w : Int32, w = s_tree s m (512 + j) → ∃ T2, fn_X12_layTree_2 N m (nI (j + 1)) (rt_A T 109 (512 + j) w) = some ((), T2) ∧ r_fr [109] t T2 ∧ (∀ i, 0 < i → i < 1024 → T2.2 109 i = s_tree s m i) := by
      intro w hw
      refine ih (j + 1) N _ (by omega) (by omega) (r_frt hf (r_frA (by decide))) (fun i hi => ?_)
      rw [rt_AA, if_pos rfl]
      by_cases e : i = j
      · rw [if_pos (by omega), hw, e]
      · rw [if_neg (by omega)]; exact hT i (by omega)
    have el : s_tree s m (512 + j) = fg_if (j < sC s 3 ∧ sF s 26 j ≤ m) (q_mix (q_mix (sF s 24 j) (sF s 23 j)) (sF s 26 j)) 0 := by
      rw [s_tree_l s m (by omega)]
      unfold s_leaf
      rw [show 512 + j - 512 = j by omega]
    rw [fg_if_0 (show ¬ (512 : Int32) ≤ nI j from fun z => by have := (n_le (a := 512) (by omega) (by omega)).mp z; omega), hRA.1.2.2.2.1, show (512 : Int32) + nI j = nI (512 + j) from n_add 512 j, fg_g_1 ((n_vp (by omega)).mpr (by omega)), fg_let_1, n_p1, q_nIx (by omega)]
    by_cases c1 : j < sC s 3
    · have g5 : vp_in (nI j) 500 := (n_vp (by omega)).mpr (by omega)
      rw [fg_if_0 (fun z => by have := (n_le (a := sC s 3) (b := j) (by omega) (by omega)).mp z; omega), fg_g_1 g5, q_nIx (by omega), hRA.2.1 26 rfl]
      by_cases c2 : m < sF s 26 j
      · rw [fg_if_1 c2]
        exact e64 0 (by rw [el, fg_if_0 (fun q => Int32.not_le.mpr c2 q.2)])
      · rw [fg_if_0 c2, fg_g_1 g5, fg_g_1 g5, ri_mix, fg_b_1, fg_g_1 g5, ri_mix, fg_b_1, fg_g_1 ((n_vp (by omega)).mpr (by omega)), fg_let_1, hRA.2.1 24 rfl, hRA.2.1 23 rfl, hRA.2.1 26 rfl]
        exact e64 _ (by rw [el, fg_if_1 ⟨c1, Int32.not_lt.mp c2⟩])
    · rw [fg_if_1 ((n_le (by omega) (by omega)).mpr (by omega))]
      exact e64 0 (by rw [el, fg_if_0 (fun q => c1 q.1)])
theorem ri_layTree (h : RA t s) (v : ivc s) (m : Int32) : ∃ T2, fn_X12_layTree m t = some ((), T2) ∧ RA T2 s ∧ (∀ i, 0 < i → i < 1024 → T2.2 109 i = s_tree s m i) := by
  obtain ⟨T2, f1, f2, f3⟩ := ri_lt2 h v (m := m) 512 0 g_N t (by omega) (by have := g_N_le; omega) r_fr0 (fun i hi => absurd hi (Nat.not_lt_zero _))
  exact ⟨T2, f1, RA_fr h f2 (by decide), f3⟩
theorem ri_sideOf {x k : Nat} {m : Int32} (hx : x < 512) (hk : k < 9) (hT : ∀ i, 0 < i → i < 1024 → T.2 109 i = s_tree s m i) : fn_X12_sideOf (nI x) (nI k) T = some (s_tree s m (h_ix (s_sx (nI x) (nI k))), T) := by
  have h1 := s_sx_in ⟨x, hx⟩ ⟨k, hk⟩
  have h2 := s_sx_0 ⟨x, hx⟩ ⟨k, hk⟩
  unfold fn_X12_sideOf
  have e : (((512 : Int32) + nI x) >>> (nI k &&& 31)) ^^^ 1 = s_sx (nI x) (nI k) := rfl
  have h3 : q_in (s_sx (nI x) (nI k)) ((1024 : Nat) : Int) := h1
  obtain ⟨e3, l3⟩ := n_in h3
  rw [e, fg_g_1 ((q_vin _ _).mpr h1), hT _ h2 l3]
theorem rs_seal (h : RA t s) (v : ivc s) (m : Int32) : ∃ t2, fn_X12_seal m t = some ((s_seal s m).1, t2) ∧ RA t2 (s_seal s m).2 := by
  unfold fn_X12_seal s_seal
  rw [ri_noMoment h v, fg_b_1, q_bn_if]
  by_cases c : q_in m ((sC s 0 : Nat) + 1)
  · obtain ⟨T2, f1, f2, f3⟩ := ri_layTree h v m
    rw [fg_if_1 c, fg_if_1 c, f1, fg_b_1, fg_g_1 vp_1, show h_ix (1 : Int32) = 1 from rfl, f3 1 (by omega) (by omega)]
    exact ⟨T2, rfl, f2⟩
  · rw [fg_if_0 c, fg_if_0 c]
    exact ⟨t, rfl, h⟩
theorem rs_side (h : RA t s) (v : ivc s) (x m k : Int32) : ∃ t2, fn_X12_side x m k t = some ((s_side s x m k).1, t2) ∧ RA t2 (s_side s x m k).2 := by
  have v3 := v.2.2.2.1
  unfold fn_X12_side s_side
  rw [ri_noWord h v, fg_b_1, q_bn_if]
  by_cases c1 : q_in x (sC s 3)
  · rw [fg_if_1 c1, ri_noMoment h v, fg_b_1, q_bn_if]
    by_cases c2 : q_in m ((sC s 0 : Nat) + 1)
    · rw [fg_if_1 c2, ri_inC k 8 (n := 9) rfl, fg_b_1, q_b_if]
      by_cases c3 : q_in k 9
      · obtain ⟨T2, f1, f2, f3⟩ := ri_layTree h v m
        obtain ⟨e1, l1⟩ := n_in c1
        obtain ⟨e3, l3⟩ := n_in (n := 9) c3
        have es := ri_sideOf (x := h_ix x) (k := h_ix k) (by omega) l3 f3
        rw [← e1, ← e3] at es
        rw [fg_if_1 c3, f1, fg_b_1, es, fg_b_1, fg_if_1 ⟨c1, c2, c3⟩]
        exact ⟨T2, rfl, f2⟩
      · rw [fg_if_0 c3, fg_if_0 (fun q => c3 q.2.2)]
        exact ⟨t, rfl, h⟩
    · rw [fg_if_0 c2, fg_if_0 (fun q => c2 q.2.1)]
      exact ⟨t, rfl, h⟩
  · rw [fg_if_0 c1, fg_if_0 (fun q => c1 q.1)]
    exact ⟨t, rfl, h⟩
theorem ri_prove_78 {x k i : Nat} {m : Int32} (hx : x < 512) (hk : k < 4) (hi : i + 9 ≤ 60) (hT : ∀ i, 0 < i → i < 1024 → T.2 109 i = s_tree s m i) (hC : ∀ j, T.2 112 j = sF s 112 j) : ∀ (d j N : Nat) (w : Int32), j + d = 9 → d < N → fn_X12_prove_78 N (nI x) (nI k) (nI i) w (nI j) T = some (s_pv (s_tree s m) (fun j => sF s 112 (60 * k + i + j)) (nI x) d j w, rt_F T 0 0) := by
  intro d
  induction d with
  | zero =>
    intro j N w hj hN
    obtain ⟨N, rfl⟩ : ∃ m, N = m + 1 := ⟨N - 1, by omega⟩
    show fn_X12_prove_78b _ _ _ _ _ _ _ = _
    unfold fn_X12_prove_78b fn_X12_prove_176 s_pv
    rw [fg_if_1 (show (9 : Int32) ≤ nI j from (n_le (a := 9) (by omega) (by omega)).mpr (by omega)), fg_g_1 vp_1, show h_ix (1 : Int32) = 1 from rfl, hT 1 (by omega) (by omega), ri_refused, fg_b_1, ri_refused, fg_b_1, fg_if_some]
  | succ d ih =>
    intro j N w hj hN
    obtain ⟨N, rfl⟩ : ∃ m, N = m + 1 := ⟨N - 1, by omega⟩
    show fn_X12_prove_78b (fn_X12_prove_78 N) _ _ _ _ _ _ = _
    unfold fn_X12_prove_78b s_pv
    rw [fg_if_0 (show ¬ (9 : Int32) ≤ nI j from fun z => by have := (n_le (a := 9) (by omega) (by omega)).mp z; omega), show (60 : Int32) = nI 60 from rfl, n_mul, n_add, n_add, fg_g_1 ((n_vp (by omega)).mpr (by omega)), fg_let_1, q_nIx (by omega), hC, ri_sideOf hx (by omega) hT, fg_b_1, ri_mix, fg_b_1, ri_mix, fg_b_1, ri_refused, fg_b_1, n_p1]
    by_cases c1 : sF s 112 (60 * k + i + j) = s_tree s m (h_ix (s_sx (nI x) (nI j)))
    · rw [fg_if_1 c1, fg_if_1 c1]
      by_cases c2 : ((nI x >>> (nI j &&& 31)) &&& 1) = 0
      · rw [fg_if_1 c2, fg_if_1 c2]
        exact ih (j + 1) N _ (by omega) (by omega)
      · rw [fg_if_0 c2, fg_if_0 c2]
        exact ih (j + 1) N _ (by omega) (by omega)
    · rw [fg_if_0 c1, fg_if_0 c1]
theorem rs_prove (h : RA t s) (v : ivc s) (vs : ivs s) (x a c p m k l i : Int32) : ∃ t2, fn_X12_prove x a c p m k l i t = some ((s_prove s x a c p m k l i).1, t2) ∧ RA t2 (s_prove s x a c p m k l i).2 := by
  have e29 : fn_X12_prove_29 t = some (-1, rt_F t 0 0) := rfl
  unfold fn_X12_prove s_prove
  rw [ri_inC x 499 (n := 500) rfl, fg_b_1, q_b_if]
  by_cases c1 : q_in x 500
  · rw [fg_if_1 c1, ri_noMoment h v, fg_b_1, q_bn_if]
    by_cases c2 : q_in m ((sC s 0 : Nat) + 1)
    · rw [fg_if_1 c2, ri_noSheet, fg_b_1, q_bn_if]
      by_cases c3 : q_in k 4
      · have cc : q_in x 500 ∧ q_in m ((sC s 0 : Nat) + 1) ∧ q_in k 4 := ⟨c1, c2, c3⟩
        rw [fg_if_1 c3]
        simp only [fg_if_1 cc]
        by_cases c4 : s_bf s (h_ix k) l i 9 = 0
        · simp only [fg_if_1 c4]
          rw [ri_barred h c3, fg_if_1 c4, fg_b_1, fg_if_1 (by decide)]
          obtain ⟨z, hz, ez, ei, en, hl⟩ := s_bf0 vs (n_in (n := 4) c3).2 c4
          have h9 : h_ix (9 : Int32) = 9 := rfl
          rw [h9] at hl
          obtain ⟨T2, f1, f2, f3⟩ := ri_layTree h v m
          obtain ⟨e1, l1⟩ := n_in (n := 500) c1
          obtain ⟨e3, l3⟩ := n_in (n := 4) c3
          have := ri_prove_78 (T := T2) (s := s) (x := h_ix x) (k := h_ix k) (i := h_ix i) (m := m) (by omega) l3 (by omega) f3 (f2.2.1 112 rfl) 9 0 g_N (q_mix (q_mix a c) p) (by omega) (by have := g_N_le; omega)
          rw [← e1, ← e3, ← ei] at this
          have t0 : fn_X12_prove_78 g_N x k i (q_mix (q_mix a c) p) 0 T2 = _ := this
          rw [f1, fg_b_1, ri_mix, fg_b_1, ri_mix, fg_b_1, t0]
          exact ⟨_, rfl, rs_flt f2 0⟩
        · simp only [fg_if_0 c4]
          exact ri_br h c3 l i 9 c4
      · have cc : ¬ (q_in x 500 ∧ q_in m ((sC s 0 : Nat) + 1) ∧ q_in k 4) := fun q => c3 q.2.2
        rw [fg_if_0 c3, e29]
        simp only [fg_if_0 cc]
        exact ⟨_, rfl, rs_flt h 0⟩
    · have cc : ¬ (q_in x 500 ∧ q_in m ((sC s 0 : Nat) + 1) ∧ q_in k 4) := fun q => c2 q.2.1
      rw [fg_if_0 c2, e29]
      simp only [fg_if_0 cc]
      exact ⟨_, rfl, rs_flt h 0⟩
  · have cc : ¬ (q_in x 500 ∧ q_in m ((sC s 0 : Nat) + 1) ∧ q_in k 4) := fun q => c1 q.1
    rw [fg_if_0 c1, e29]
    simp only [fg_if_0 cc]
    exact ⟨_, rfl, rs_flt h 0⟩
end RSe
section CSe
variable {k k2 : h_S} {s : sA} {y : c_Y} {M : Nat}
theorem ci_gt84 {m : Int32} : ∀ (d : Nat) (N : Nat) (g : Nat → Int32), d < 512 → d < N → (∀ i, d < i → i < 1024 → g i = s_tree s m i) → ∃ g2, fn_X11_growTree_84 N (nI d) (h_af k 14 g) = some ((), h_af k 14 g2) ∧ (∀ i, 0 < i → i < 1024 → g2 i = s_tree s m i) := by
  intro d
  induction d with
  | zero =>
    intro N g hd hN h
    obtain ⟨N, rfl⟩ : ∃ m, N = m + 1 := ⟨N - 1, by omega⟩
    refine ⟨g, ?_, h⟩
    show fn_X11_growTree_84b _ _ _ = _
    unfold fn_X11_growTree_84b
    rw [fg_if_1 (by decide)]
  | succ d ih =>
    intro N g hd hN h
    obtain ⟨N, rfl⟩ : ∃ m, N = m + 1 := ⟨N - 1, by omega⟩
    show ∃ g2, fn_X11_growTree_84b (fn_X11_growTree_84 N) _ _ = _ ∧ _
    unfold fn_X11_growTree_84b
    rw [fg_if_0 (fun z => by have := (n_le (a := d + 1) (b := 0) (by omega) (by omega)).mp z; omega), show (2 : Int32) = nI 2 from rfl, n_mul, n_p1, fg_g_1 ((n_vp (by omega)).mpr (by omega)), fg_g_1 ((n_vp (by omega)).mpr (by omega)), ci_mix, fg_b_1, fg_g_1 ((n_vp (by omega)).mpr (by omega)), fg_let_1, n_pm, q_nIx (by omega), q_nIx (by omega), q_nIx (by omega), h_i_af, if_pos rfl, h (2 * (d + 1)) (by omega) (by omega), h (2 * (d + 1) + 1) (by omega) (by omega), ← s_tree_n s m (by omega) (by omega), h_si_af]
    refine ih N _ (by omega) (by omega) (fun i h1 h2 => ?_)
    by_cases e : i = d + 1
    · rw [if_pos e, e]
    · rw [if_neg e]; exact h i (by omega) h2
theorem CB_tree (h : CBM k s M y) (g : Nat → Int32) : CBM (h_af k 14 g) s M y := CB_ag h h.1 (c_ag_af (by omega) (by decide)) rfl
theorem ci_gt2 (h : CBM k s M y) (v : ivc s) {m : Int32} : ∀ (d j N : Nat) (g : Nat → Int32), j + d = 512 → d < N → (∀ i, i < j → g (512 + i) = s_tree s m (512 + i)) → ∃ g2, fn_X11_growTree_2 N m (nI j) (h_af k 14 g) = some ((), h_af k 14 g2) ∧ (∀ i, 0 < i → i < 1024 → g2 i = s_tree s m i) := by
  have v3 := v.2.2.2.1
  intro d
  induction d with
  | zero =>
    intro j N g hj hN hT
    obtain ⟨N, rfl⟩ : ∃ m, N = m + 1 := ⟨N - 1, by omega⟩
    show ∃ g2, fn_X11_growTree_2b _ _ _ _ = _ ∧ _
    unfold fn_X11_growTree_2b
    rw [fg_if_1 (show (512 : Int32) ≤ nI j from (n_le (a := 512) (by omega) (by omega)).mpr (by omega))]
    exact ci_gt84 511 g_N g (by omega) (by have := g_N_le; omega) (fun i h1 h2 => by
      have := hT (i - 512) (by omega)
      rw [show 512 + (i - 512) = i by omega] at this
      exact this)
  | succ d ih =>
    intro j N g hj hN hT
    obtain ⟨N, rfl⟩ : ∃ m, N = m + 1 := ⟨N - 1, by omega⟩
    have hK := CB_tree h g
    have r16 : h_r (h_af k 14 g) 0 16 = some 14 := cf_r hK.1 (by decide)
    have k14 : h_k (h_af k 14 g) 14 = 1 := cf_k hK.1 rfl (by decide)
    have n14 : h_n (h_af k 14 g) 14 = 1024 := cf_n (a := 14) hK.1 rfl (by decide) rfl
    show ∃ g2, fn_X11_growTree_2b (fn_X11_growTree_2 N) _ _ _ = _ ∧ _
    unfold fn_X11_growTree_2b fn_X11_growTree_34 fn_X11_growTree_35 fn_X11_growTree_73
    have e64 : ∀ w : Int32, w = s_tree s m (512 + j) → ∃ g2, fn_X11_growTree_2 N m (nI (j + 1)) (h_si (h_af k 14 g) 14 (512 + j) w) = some ((), h_af k 14 g2) ∧ (∀ i, 0 < i → i < 1024 → g2 i = s_tree s m i) := by
      intro w hw
      rw [h_si_af]
      refine ih (j + 1) N _ (by omega) (by omega) (fun i hi => ?_)
      by_cases e : i = j
      · rw [if_pos (by omega), hw, e]
      · rw [if_neg (by omega)]; exact hT i (by omega)
    have el : s_tree s m (512 + j) = fg_if (j < sC s 3 ∧ sF s 26 j ≤ m) (q_mix (q_mix (sF s 24 j) (sF s 23 j)) (sF s 26 j)) 0 := by
      rw [s_tree_l s m (by omega)]
      unfold s_leaf
      rw [show 512 + j - 512 = j by omega]
    rw [fg_if_0 (show ¬ (512 : Int32) ≤ nI j from fun z => by have := (n_le (a := 512) (by omega) (by omega)).mp z; omega), ci_wordAt hK v, fg_b_1, show (512 : Int32) + nI j = nI (512 + j) from n_add 512 j, r16, fg_o_1, fg_g_1 k14, n14, fg_g_1 ((n_vp (by omega)).mpr (by omega)), fg_let_1, n_p1, q_nIx (by omega)]
    by_cases c1 : j < sC s 3
    · have wd := CB_wd hK c1
      have nn : ¬ (some (yA y 18 j) = none) := by simp
      rw [fg_if_1 ((n_inI (by omega)).mpr c1), q_nIx (by omega), fg_if_0 nn, fg_o_1, fg_g_1 wd.2.1, wd.2.2.2.2.2.1, fg_if_1 (show (0 : Int32) = 0 from rfl)]
      by_cases c2 : m < sF s 26 j
      · rw [fg_if_1 c2]
        exact e64 0 (by rw [el, fg_if_0 (fun q => Int32.not_le.mpr c2 q.2)])
      · rw [fg_if_0 c2, fg_if_0 (by decide), fg_o_1, fg_g_1 wd.2.1, fg_o_1, fg_g_1 wd.2.1, ci_mix, fg_b_1, fg_o_1, fg_g_1 wd.2.1, ci_mix, fg_b_1, fg_o_1, fg_g_1 k14, n14, fg_g_1 ((n_vp (by omega)).mpr (by omega)), fg_let_1, wd.2.2.1, wd.2.2.2.1, wd.2.2.2.2.2.1]
        exact e64 _ (by rw [el, fg_if_1 ⟨c1, Int32.not_lt.mp c2⟩])
    · rw [fg_if_0 (fun q => c1 ((n_inI (by omega)).mp q)), fg_if_1 rfl, fg_if_1 (show (0 : Int32) = 0 from rfl), q_nIx (show 512 + j < 2 ^ 31 by omega)]
      exact e64 0 (by rw [el, fg_if_0 (fun q => c1 q.1)])
theorem ci_growTree (h : CBM k s M y) (v : ivc s) (m : Int32) : ∃ g2, fn_X11_growTree m k = some ((), h_af k 14 g2) ∧ (∀ i, 0 < i → i < 1024 → g2 i = s_tree s m i) := by
  have := ci_gt2 h v (m := m) 512 0 g_N (h_i k 14) (by omega) (by have := g_N_le; omega) (fun i hi => absurd hi (Nat.not_lt_zero _))
  rw [h_af_self] at this
  exact this
theorem ci_sideInTree (hF : c_F k) {x i : Nat} {m : Int32} {g : Nat → Int32} (hx : x < 512) (hk : i < 9) (hT : ∀ i, 0 < i → i < 1024 → g i = s_tree s m i) : fn_X11_sideInTree (nI x) (nI i) (h_af k 14 g) = some (s_tree s m (h_ix (s_sx (nI x) (nI i))), h_af k 14 g) := by
  have h1 := s_sx_in ⟨x, hx⟩ ⟨i, hk⟩
  have h2 := s_sx_0 ⟨x, hx⟩ ⟨i, hk⟩
  have h3 : q_in (s_sx (nI x) (nI i)) ((1024 : Nat) : Int) := h1
  obtain ⟨e3, l3⟩ := n_in h3
  have n14 : h_n (h_af k 14 g) 14 = 1024 := cf_n (a := 14) (cf_af hF) rfl (by decide) rfl
  unfold fn_X11_sideInTree
  have e : (((512 : Int32) + nI x) >>> (nI i &&& 31)) ^^^ 1 = s_sx (nI x) (nI i) := rfl
  rw [fg_let_1, e, n14, show Int32.ofNat 1024 = nI 1024 from rfl, ci_withinN _ (by decide), fg_b_1, q_b_if, fg_if_1 h3, fg_g_1 ((q_vin _ _).mpr h1), h_i_af, if_pos rfl, hT _ h2 l3]
theorem cs_seal (h : CB k s y) (v : ivc s) (m : Int32) : ∃ k2, fn_X11_seal m k = some ((s_seal s m).1, k2) ∧ CB k2 (s_seal s m).2 y := by
  unfold fn_X11_seal s_seal
  rw [ci_isMoment h.2.1 v, fg_b_1, q_b_if]
  by_cases c : q_in m ((sC s 0 : Nat) + 1)
  · obtain ⟨g2, f1, f2⟩ := ci_growTree (CB_M h) v m
    rw [fg_if_1 c, fg_if_1 c, f1, fg_b_1, fg_g_1 vp_1, show h_ix (1 : Int32) = 1 from rfl, h_i_af, if_pos rfl, f2 1 (by omega) (by omega)]
    exact ⟨_, rfl, CB_tree (CB_M h) g2⟩
  · rw [fg_if_0 c, fg_if_0 c]
    exact ⟨k, rfl, h⟩
theorem ci_wordCount (h : CBM k s M y) : fn_X7_wordCount k = some (nI (sC s 3), k) := by
  unfold fn_X7_wordCount
  rw [ci_size (ck_18 h.1) h.2.2.2.2.1.2.2.2.2.1, fg_b_1]
theorem cs_side (h : CB k s y) (v : ivc s) (x m i : Int32) : ∃ k2, fn_X11_side x m i k = some ((s_side s x m i).1, k2) ∧ CB k2 (s_side s x m i).2 y := by
  have v3 := v.2.2.2.1
  unfold fn_X11_side s_side
  rw [ci_wordCount (CB_M h), fg_b_1, ci_withinN _ (by omega), fg_b_1, q_b_if]
  by_cases c1 : q_in x (sC s 3)
  · rw [fg_if_1 c1, ci_isMoment h.2.1 v, fg_b_1, q_b_if]
    by_cases c2 : q_in m ((sC s 0 : Nat) + 1)
    · rw [fg_if_1 c2, show (9 : Int32) = nI 9 from rfl, ci_withinN _ (by decide), fg_b_1, q_b_if]
      by_cases c3 : q_in i 9
      · have c3' : q_in i ((9 : Nat) : Int) := c3
        obtain ⟨g2, f1, f2⟩ := ci_growTree (CB_M h) v m
        obtain ⟨e1, l1⟩ := n_in c1
        obtain ⟨e3, l3⟩ := n_in c3'
        have es := ci_sideInTree h.1 (s := s) (x := h_ix x) (i := h_ix i) (by omega) l3 f2
        rw [← e1, ← e3] at es
        rw [fg_if_1 c3', f1, fg_b_1, es, fg_b_1, fg_if_1 ⟨c1, c2, c3⟩]
        exact ⟨_, rfl, CB_tree (CB_M h) g2⟩
      · have c3' : ¬ q_in i ((9 : Nat) : Int) := c3
        rw [fg_if_0 c3', fg_if_0 (fun q => c3 q.2.2)]
        exact ⟨k, rfl, h⟩
    · rw [fg_if_0 c2, fg_if_0 (fun q => c2 q.2.1)]
      exact ⟨k, rfl, h⟩
  · rw [fg_if_0 c1, fg_if_0 (fun q => c1 q.1)]
    exact ⟨k, rfl, h⟩
theorem ci_prove_78 (h : CBM k s M y) {x p i z : Nat} {m : Int32} {g : Nat → Int32} (hx : x < 512) (hp : p < 4) (hi : i + 9 ≤ z) (hz : z ≤ 60) (ez : sF s 110 p = nI z) (hT : ∀ i, 0 < i → i < 1024 → g i = s_tree s m i) : ∀ (d j N : Nat) (w : Int32), j + d = 9 → d < N → fn_X11_prove_78 N (nI x) (nI p) (nI i) w (nI j) (h_af k 14 g) = some (s_pv (s_tree s m) (fun j => sF s 112 (60 * p + i + j)) (nI x) d j w, h_af k 14 g) := by
  have hK := CB_tree h g
  intro d
  induction d with
  | zero =>
    intro j N w hj hN
    obtain ⟨N, rfl⟩ : ∃ m, N = m + 1 := ⟨N - 1, by omega⟩
    show fn_X11_prove_78b _ _ _ _ _ _ _ = _
    unfold fn_X11_prove_78b s_pv
    rw [fg_if_1 (show (9 : Int32) ≤ nI j from (n_le (a := 9) (by omega) (by omega)).mpr (by omega)), fg_g_1 vp_1, show h_ix (1 : Int32) = 1 from rfl, h_i_af, if_pos rfl, hT 1 (by omega) (by omega), fg_if_some]
  | succ d ih =>
    intro j N w hj hN
    obtain ⟨N, rfl⟩ : ∃ m, N = m + 1 := ⟨N - 1, by omega⟩
    show fn_X11_prove_78b (fn_X11_prove_78 N) _ _ _ _ _ _ = _
    unfold fn_X11_prove_78b s_pv
    have ec : h_i (h_af k 14 g) (56 + p) (i + j) = sF s 112 (60 * p + i + j) := by
      have := (CB_T hK p hp).2.2 (i + j) (by rw [ez, q_nI (by omega)]; omega)
      rw [this, Nat.add_assoc]
    rw [fg_if_0 (show ¬ (9 : Int32) ≤ nI j from fun z => by have := (n_le (a := 9) (by omega) (by omega)).mp z; omega), ci_sideInTree h.1 hx (by omega) hT, fg_b_1, fg_g_1 ((n_vp (by omega)).mpr hp), q_nIx (by omega), (c_shf hK.1 hp).1, fg_o_1, fg_g_1 (c_shf hK.1 hp).2.1, n_add, ci_cellAt hK.1 hp (by omega), fg_b_1, ec, ci_mix, fg_b_1, ci_mix, fg_b_1, n_p1]
    by_cases c1 : sF s 112 (60 * p + i + j) = s_tree s m (h_ix (s_sx (nI x) (nI j)))
    · rw [fg_if_1 c1, fg_if_1 c1, ← c1]
      by_cases c2 : ((nI x >>> (nI j &&& 31)) &&& 1) = 0
      · rw [fg_if_1 c2, fg_if_1 c2]
        exact ih (j + 1) N _ (by omega) (by omega)
      · rw [fg_if_0 c2, fg_if_0 c2]
        exact ih (j + 1) N _ (by omega) (by omega)
    · rw [fg_if_0 c1, fg_if_0 c1]
theorem ci_br0 (h : CB k s y) (vs : ivs s) {q : Nat} (hq : q < 4) (l i n : Int32) {F : h_S → Option (Int32 × h_S)} (hb : ¬ s_bf s q l i n = 0) : ∃ k2, fg_b (fn_X11_refusedCells (nI q) l i n (h_si k 0 18 0)) (fun p T => fg_if (p = 0) (F T) (some (p, T))) = some ((s_br s (s_bf s q l i n)).1, k2) ∧ CB k2 (s_br s (s_bf s q l i n)).2 y := by
  have h0 : CB (h_si k 0 18 0) (s_flt s 0) y := cs_flt (CB_M h) 0
  have e : s_bf (s_flt s 0) q l i n = s_bf s q l i n := rfl
  rw [ci_refusedCells h0.1 (CB_T (CB_M h0)) vs hq, e, fg_if_0 hb]
  unfold s_br
  by_cases c : s_bf s q l i n = -2
  · simp only [fg_if_1 c]
    rw [fg_b_1, fg_if_0 (by decide)]
    exact ⟨_, rfl, h0⟩
  · simp only [fg_if_0 c]
    rw [fg_b_1]
    have nn : ¬ (-10 - s_bf s q l i n) = 0 := by
      rcases s_bfv s q l i n with w | w | w | w | w | w
      · exact absurd w hb
      · rw [w]; decide
      · rw [w]; decide
      · rw [w]; decide
      · rw [w]; decide
      · exact absurd w c
    rw [fg_if_0 nn, h_si_si]
    exact ⟨_, rfl, cs_flt (CB_M h) _⟩
theorem cs_prove (h : CB k s y) (v : ivc s) (vs : ivs s) (x a c p m q l i : Int32) : ∃ k2, fn_X11_prove x a c p m q l i k = some ((s_prove s x a c p m q l i).1, k2) ∧ CB k2 (s_prove s x a c p m q l i).2 y := by
  have h0 : CB (h_si k 0 18 0) (s_flt s 0) y := cs_flt (CB_M h) 0
  have v0 : ivc (s_flt s 0) := v
  unfold fn_X11_prove s_prove
  rw [fg_let_1, show (500 : Int32) = nI 500 from rfl, ci_withinN _ (by decide), fg_b_1, q_b_if]
  by_cases c1 : q_in x 500
  · have c1' : q_in x ((500 : Nat) : Int) := c1
    rw [fg_if_1 c1', ci_isMoment h0.2.1 v0, fg_b_1, q_b_if]
    by_cases c2 : q_in m ((sC s 0 : Nat) + 1)
    · have c2' : q_in m ((sC (s_flt s 0) 0 : Nat) + 1) := c2
      rw [fg_if_1 c2', show (4 : Int32) = nI 4 from rfl, ci_withinN _ (by decide), fg_b_1, q_b_if]
      by_cases c3 : q_in q 4
      · have c3' : q_in q ((4 : Nat) : Int) := c3
        have cc : q_in x 500 ∧ q_in m ((sC s 0 : Nat) + 1) ∧ q_in q 4 := ⟨c1, c2, c3⟩
        rw [fg_if_1 c3']
        simp only [fg_if_1 cc]
        obtain ⟨e3, l3⟩ := n_in c3'
        generalize h_ix q = q2 at e3 l3
        subst e3
        by_cases c4 : s_bf s q2 l i 9 = 0
        · have c4' : s_bf (s_flt s 0) q2 l i 9 = 0 := c4
          simp only [fg_if_1 c4]
          obtain ⟨z, hz, ez, ei, en, hl⟩ := s_bf0 vs l3 c4
          have h9 : h_ix (9 : Int32) = 9 := rfl
          rw [h9] at hl
          obtain ⟨e1, l1⟩ := n_in c1'
          obtain ⟨g2, f1, f2⟩ := ci_growTree (CB_M h0) v0 m
          have := ci_prove_78 (CB_M h0) (x := h_ix x) (p := q2) (i := h_ix i) (z := z) (m := m) (by omega) l3 hl hz ez f2 9 0 g_N (q_mix (q_mix a c) p) (by omega) (by have := g_N_le; omega)
          rw [← e1, ← ei] at this
          have t0 : fn_X11_prove_78 g_N x (nI q2) i (q_mix (q_mix a c) p) 0 (h_af (h_si k 0 18 0) 14 g2) = _ := this
          rw [ci_refusedCells h0.1 (CB_T (CB_M h0)) vs l3, fg_if_1 c4', fg_b_1, fg_if_1 rfl, f1, fg_b_1, ci_mix, fg_b_1, ci_mix, fg_b_1, t0]
          exact ⟨_, rfl, CB_tree (CB_M h0) g2⟩
        · simp only [fg_if_0 c4]
          exact ci_br0 h vs l3 l i 9 c4
      · have c3' : ¬ q_in q ((4 : Nat) : Int) := c3
        have cc : ¬ (q_in x 500 ∧ q_in m ((sC s 0 : Nat) + 1) ∧ q_in q 4) := fun w => c3 w.2.2
        rw [fg_if_0 c3']
        simp only [fg_if_0 cc]
        exact ⟨_, rfl, h0⟩
    · have c2' : ¬ q_in m ((sC (s_flt s 0) 0 : Nat) + 1) := c2
      have cc : ¬ (q_in x 500 ∧ q_in m ((sC s 0 : Nat) + 1) ∧ q_in q 4) := fun w => c2 w.2.1
      rw [fg_if_0 c2']
      simp only [fg_if_0 cc]
      exact ⟨_, rfl, h0⟩
  · have c1' : ¬ q_in x ((500 : Nat) : Int) := c1
    have cc : ¬ (q_in x 500 ∧ q_in m ((sC s 0 : Nat) + 1) ∧ q_in q 4) := fun w => c1 w.1
    rw [fg_if_0 c1']
    simp only [fg_if_0 cc]
    exact ⟨_, rfl, h0⟩
end CSe
