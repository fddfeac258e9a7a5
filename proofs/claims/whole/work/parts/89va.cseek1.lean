/-! seek of the class: what is found -/
section SSf
variable {s : sA} {f : Int32}
theorem s_whr_f (a w u m : Int32) : ∀ n j, s_whr (s_flt s f) a w u m n j = s_whr s a w u m n j := by
  intro n
  induction n with
  | zero => intro j; rfl
  | succ n ih =>
    intro j
    show fg_if (sF s 90 j = w ∧ s_mine s j a m ∧ s_hold s j u m) (nI j) (s_whr (s_flt s f) a w u m n (j + 1)) = fg_if (sF s 90 j = w ∧ s_mine s j a m ∧ s_hold s j u m) (nI j) (s_whr s a w u m n (j + 1))
    rw [ih]
theorem s_why_f (a w u m : Int32) : s_whyOf (s_flt s f) a w u m = s_whyOf s a w u m := by
  show fg_if (sF s 9 (h_ix w) = a) 99 (s_whr (s_flt s f) a w u m (sC s 6) 0) = fg_if (sF s 9 (h_ix w) = a) 99 (s_whr s a w u m (sC s 6) 0)
  rw [s_whr_f]
theorem s_lw_f (x : Int32) : ∀ d l, s_lw (s_flt s f) x d l = s_lw s x d l := by
  intro d
  induction d with
  | zero => intro l; rfl
  | succ d ih =>
    intro l
    show fg_if (s_hl (s_e1 s l 0) (s_e2 s l 0) x ∨ s_hl (s_e1 s l 1) (s_e2 s l 1) x) 1 0 + s_lw (s_flt s f) x d (l + 1) = fg_if (s_hl (s_e1 s l 0) (s_e2 s l 0) x ∨ s_hl (s_e1 s l 1) (s_e2 s l 1) x) 1 0 + s_lw s x d (l + 1)
    rw [ih]
theorem s_opn_f (a : Int32) (u : Nat) (m : Int32) : s_opn (s_flt s f) a u m = s_opn s a u m := by
  show (sF s 9 (h_ix (sF s 56 u)) = a ∨ (s_gv s u m ∧ ¬ s_whyOf (s_flt s f) a (sF s 56 u) 0 m = -9)) = (sF s 9 (h_ix (sF s 56 u)) = a ∨ (s_gv s u m ∧ ¬ s_whyOf s a (sF s 56 u) 0 m = -9))
  rw [s_why_f]
theorem s_isr_f (a x m : Int32) : s_isr (s_flt s f) a x m = s_isr s a x m := by
  show (¬ x = -7 ∧ ¬ s_whyOf (s_flt s f) a (sF s 25 (h_ix x)) 0 m = -9) = (¬ x = -7 ∧ ¬ s_whyOf s a (sF s 25 (h_ix x)) 0 m = -9)
  rw [s_why_f]
theorem s_ht_f (a : Int32) (q i n u p : Nat) : s_ht (s_flt s f) a q i n u p = s_ht s a q i n u p := by
  show (p + n ≤ (s_vs s u).length ∧ ∀ j, j < n → ¬ s_vg s u (p + j) = -7 ∧ sF s 23 (h_ix (s_vg s u (p + j))) = sF s 112 (60 * q + i + j) ∧ s_isr (s_flt s f) a (s_vg s u (p + j)) (nI (sC s 0))) = (p + n ≤ (s_vs s u).length ∧ ∀ j, j < n → ¬ s_vg s u (p + j) = -7 ∧ sF s 23 (h_ix (s_vg s u (p + j))) = sF s 112 (60 * q + i + j) ∧ s_isr s a (s_vg s u (p + j)) (nI (sC s 0)))
  simp only [s_isr_f]
theorem s_hp_f {a : Int32} {q i n u : Nat} : ∀ d p, s_hp (s_flt s f) a q i n u d p = s_hp s a q i n u d p := by
  intro d
  induction d with
  | zero => intro p; rfl
  | succ d ih =>
    intro p
    show fg_if (s_ht (s_flt s f) a q i n u p) ((u, p, s_lw (s_flt s f) (s_vg s u p) (sC s 5) 0) :: s_hp (s_flt s f) a q i n u d (p + 1)) (s_hp (s_flt s f) a q i n u d (p + 1)) = _
    rw [ih, s_ht_f, s_lw_f]
    rfl
theorem s_hv_f {a : Int32} {q i n : Nat} : ∀ d u, s_hv (s_flt s f) a q i n d u = s_hv s a q i n d u := by
  intro d
  induction d with
  | zero => intro u; rfl
  | succ d ih =>
    intro u
    show fg_if (s_opn (s_flt s f) a u (nI (sC s 0))) (s_hp (s_flt s f) a q i n u (s_vs s u).length 0) [] ++ s_hv (s_flt s f) a q i n d (u + 1) = _
    rw [ih, s_opn_f, s_hp_f]
    rfl
def s_hok (h : sH) : Prop := h.1 < 16 ∧ h.2.1 < 300 ∧ h.2.2 ≤ 24
def s_hcd (h : sH) : Nat := (h.2.2 * 16 + h.1) * 300 + h.2.1
theorem s_hcd_b {h : sH} (o : s_hok h) : s_hcd h < 120000 ∧ s_hcd h / 4800 = h.2.2 := by
  obtain ⟨h1, h2, h3⟩ := o
  unfold s_hcd
  omega
theorem s_hp_ok (v : ivc s) {a : Int32} {q i n u : Nat} (hu : u < 16) : ∀ d p, p + d ≤ 300 → ∀ x, x ∈ s_hp s a q i n u d p → s_hok x := by
  have v5 := v.2.2.2.2.2.1
  intro d
  induction d with
  | zero => intro p _ x hx; cases hx
  | succ d ih =>
    intro p hp x hx
    unfold s_hp at hx
    by_cases c : s_ht s a q i n u p
    · rw [fg_if_1 c] at hx
      rcases List.mem_cons.mp hx with w | w
      · rw [w]
        have := s_lw_le (s := s) (s_vg s u p) (sC s 5) 0
        exact ⟨hu, show p < 300 by omega, show s_lw s (s_vg s u p) (sC s 5) 0 ≤ 24 by omega⟩
      · exact ih (p + 1) (by omega) x w
    · rw [fg_if_0 c] at hx
      exact ih (p + 1) (by omega) x hx
theorem s_hv_ok (v : ivc s) {a : Int32} {q i n : Nat} : ∀ d u, u + d ≤ 16 → ∀ x, x ∈ s_hv s a q i n d u → s_hok x := by
  intro d
  induction d with
  | zero => intro u _ x hx; cases hx
  | succ d ih =>
    intro u hu x hx
    unfold s_hv at hx
    rcases List.mem_append.mp hx with w | w
    · by_cases c : s_opn s a u (nI (sC s 0))
      · rw [fg_if_1 c] at w
        have := s_vs_300 (s := s) u
        exact s_hp_ok v (by omega) _ _ (by omega) x w
      · rw [fg_if_0 c] at w
        cases w
    · exact ih (u + 1) (by omega) x w
/-- what is found in a version from a place on -/
noncomputable def s_hq (s : sA) (a : Int32) (q i n u d p : Nat) : List sH := fg_if (s_opn s a u (nI (sC s 0))) (s_hp s a q i n u d p) []
theorem s_hq_s {a : Int32} {q i n u d p : Nat} : s_hq s a q i n u (d + 1) p = fg_if (s_opn s a u (nI (sC s 0)) ∧ s_ht s a q i n u p) ((u, p, s_lw s (s_vg s u p) (sC s 5) 0) :: s_hq s a q i n u d (p + 1)) (s_hq s a q i n u d (p + 1)) := by
  unfold s_hq
  by_cases c : s_opn s a u (nI (sC s 0))
  · rw [fg_if_1 c, fg_if_1 c]
    show fg_if (s_ht s a q i n u p) _ _ = _
    by_cases c2 : s_ht s a q i n u p
    · rw [fg_if_1 c2, fg_if_1 ⟨c, c2⟩]
    · rw [fg_if_0 c2, fg_if_0 (fun z => c2 z.2)]
  · rw [fg_if_0 c, fg_if_0 c, fg_if_0 (fun z => c z.1)]
theorem s_hq_n {a : Int32} {q i n u d p : Nat} (h : (s_vs s u).length < p + n) : s_hq s a q i n u d p = [] := by
  unfold s_hq
  rw [s_hp_n d p h, fg_if_same]
theorem s_hq_l (v : ivc s) {a : Int32} {q i n u d p : Nat} : (s_hq s a q i n u d p).length ≤ d := by
  unfold s_hq
  by_cases c : s_opn s a u (nI (sC s 0))
  · rw [fg_if_1 c]; exact (s_hp_l v d p).2
  · rw [fg_if_0 c]; exact Nat.zero_le _
end SSf
section CSk
variable {k k2 : h_S} {s : sA} {y : c_Y} {M : Nat}
theorem CB_fnd (h : CBM k s M y) (g : Nat → Int32) : CBM (h_af k 12 g) s M y := CB_ag h h.1 (c_ag_af (by omega) (by decide)) rfl
theorem ci_placeAt (h : CBM k s M y) {u p : Nat} (hu : u < sC s 4) (hp : p < (s_vs s u).length) : fn_X8_placeAt (yA y 4 u) (nI p) k = some (s_vg s u p, k) := by
  obtain ⟨_, h1, _, _, _, _, b, hb, ar⟩ := CB_ver h hu
  have hl := s_vs_300 (s := s) u
  have ex := ar.2.2.2 _ _ (s_vg_in hp)
  unfold fn_X8_placeAt
  rw [fg_g_1 h1, hb, fg_o_1, fg_g_1 ar.2.1, ar.2.2.1, show Int32.ofNat (s_vs s u).length = nI (s_vs s u).length from rfl, ci_withinN _ (by omega), fg_b_1, q_b_if, fg_if_1 ((n_inI (by omega)).mpr hp), hb, fg_o_1, fg_g_1 ar.2.1, ar.2.2.1, fg_g_1 ((n_vp (by omega)).mpr hp), q_nIx (by omega), ex]
theorem ci_standsAt_3 (h : CBM k s M y) (v : ivc s) (vd : ivd s) (vx : ivx s) {a X : Int32} {q i n u p z m : Nat} (hu : u < sC s 4) (hq : q < 4) (hn : i + n ≤ z) (hz : z ≤ 60) (ez : sF s 110 q = nI z) (hp : p + n ≤ (s_vs s u).length) (hX : b_set X (fun j => s_opn s a u (nI m) ∧ j < sC s 2 ∧ ¬ s_whyOf s a (nI j) 0 (nI m) = -9)) : ∀ (d j N : Nat), j + d = n → d < N → fn_X11_standsAt_3 N (some (yA y 4 u)) (nI p) X (some (52 + q)) (nI i) (nI n) (nI j) k = some (q_b (∀ z, j ≤ z → z < n → (s_opn s a u (nI m) ∧ s_isr s a (s_vg s u (p + z)) (nI m)) ∧ sF s 23 (h_ix (s_vg s u (p + z))) = sF s 112 (60 * q + i + z)), k) := by
  have v3 := v.2.2.2.1
  have hl := s_vs_300 (s := s) u
  intro d
  induction d with
  | zero =>
    intro j N hj hN
    obtain ⟨N, rfl⟩ : ∃ m, N = m + 1 := ⟨N - 1, by omega⟩
    show fn_X11_standsAt_3b _ _ _ _ _ _ _ _ _ = _
    unfold fn_X11_standsAt_3b
    rw [fg_if_1 ((n_le (by omega) (by omega)).mpr (by omega)), q_b1 (fun z h1 h2 => by omega)]
  | succ d ih =>
    intro j N hj hN
    obtain ⟨N, rfl⟩ : ∃ m, N = m + 1 := ⟨N - 1, by omega⟩
    have hpj : p + j < (s_vs s u).length := by omega
    have hw := s_vs_w vx (List.mem_of_getElem? (s_vg_in hpj))
    obtain ⟨_, h1, _⟩ := CB_ver h hu
    show fn_X11_standsAt_3b (fn_X11_standsAt_3 N) _ _ _ _ _ _ _ _ = _
    unfold fn_X11_standsAt_3b
    rw [fg_if_0 (fun z => by have := (n_le (a := n) (b := j) (by omega) (by omega)).mp z; omega), fg_o_1, fg_g_1 h1, n_add, ci_placeAt h hu hpj, fg_b_1, ci_isIn h v vd hX hw, fg_b_1, q_b_if]
    have no : ¬ ((s_opn s a u (nI m) ∧ s_isr s a (s_vg s u (p + j)) (nI m)) ∧ sF s 23 (h_ix (s_vg s u (p + j))) = sF s 112 (60 * q + i + j)) → q_b (∀ z, j ≤ z → z < n → (s_opn s a u (nI m) ∧ s_isr s a (s_vg s u (p + z)) (nI m)) ∧ sF s 23 (h_ix (s_vg s u (p + z))) = sF s 112 (60 * q + i + z)) = 0 := fun c => q_b0 (fun z => c (z j (Nat.le_refl _) (by omega)))
    by_cases c1 : s_opn s a u (nI m) ∧ s_isr s a (s_vg s u (p + j)) (nI m)
    · obtain ⟨x, hx, ex⟩ := hw.resolve_left c1.2.1
      have ix : h_ix (s_vg s u (p + j)) = x := by rw [ex, q_nIx (by omega)]
      have ec : h_i k (56 + q) (i + j) = sF s 112 (60 * q + i + j) := by
        have := (CB_T h q hq).2.2 (i + j) (by rw [ez, q_nI (by omega)]; omega)
        rw [this, Nat.add_assoc]
      have ecd : fn_X7_codeOf (s_vg s u (p + j)) k = some (sF s 23 (h_ix (s_vg s u (p + j))), k) := by
        rw [ix, ex]
        exact ci_codeOf h v hx
      rw [fg_if_1 c1, ecd, fg_b_1, fg_o_1, fg_g_1 (c_shf h.1 hq).2.1, n_add, ci_cellAt h.1 hq (by omega), fg_b_1, ec, n_p1]
      by_cases c2 : sF s 23 (h_ix (s_vg s u (p + j))) = sF s 112 (60 * q + i + j)
      · rw [fg_if_1 c2, ih (j + 1) N (by omega) (by omega)]
        congr 2
        refine q_bc ⟨fun w z h1 h2 => ?_, fun w z h1 h2 => w z (by omega) h2⟩
        by_cases e : z = j
        · rw [e]; exact ⟨c1, c2⟩
        · exact w z (by omega) h2
      · rw [fg_if_0 c2, no (fun z => c2 z.2)]
    · rw [fg_if_0 c1, no (fun z => c1 z.1)]
theorem ci_standsAt (h : CBM k s M y) (v : ivc s) (vd : ivd s) (vx : ivx s) {a X : Int32} {q i n u p z : Nat} (hu : u < sC s 4) (hq : q < 4) (hn : i + n ≤ z) (hz : z ≤ 60) (ez : sF s 110 q = nI z) (hn1 : 1 ≤ n) (hp : p + n ≤ (s_vs s u).length) (hX : b_set X (fun j => s_opn s a u (nI (sC s 0)) ∧ j < sC s 2 ∧ ¬ s_whyOf s a (nI j) 0 (nI (sC s 0)) = -9)) : fn_X11_standsAt (some (yA y 4 u)) (nI p) X (some (52 + q)) (nI i) (nI n) k = some (q_b (s_opn s a u (nI (sC s 0)) ∧ s_ht s a q i n u p), k) := by
  refine (ci_standsAt_3 h v vd vx hu hq hn hz ez hp hX n 0 g_N (by omega) (by have := g_N_le; omega)).trans ?_
  congr 2
  refine q_bc ⟨fun w => ?_, fun w j _ hj => ?_⟩
  · exact ⟨(w 0 (Nat.le_refl _) (by omega)).1.1, hp, fun j hj => by
      obtain ⟨⟨w1, w2⟩, w3⟩ := w j (Nat.zero_le _) hj
      exact ⟨w2.1, w3, w2⟩⟩
  · obtain ⟨w1, w2, w3⟩ := w
    obtain ⟨q1, q2, q3⟩ := w3 j hj
    exact ⟨⟨w1, q3⟩, q2⟩
theorem ci_linksWith_4 (h : CBM k s M y) (v : ivc s) (vm : ivm s) (x : Int32) : ∀ (d l N c : Nat), l + d = sC s 5 → d < N → fn_X11_linksWith_4 N x (nI c) (nI l) k = some (nI (c + s_lw s x d l), k) := by
  have v5 := v.2.2.2.2.2.1
  have hl6 := h.2.2.2.2.1.2.2.1
  intro d
  induction d with
  | zero =>
    intro l N c hl hN
    obtain ⟨N, rfl⟩ : ∃ m, N = m + 1 := ⟨N - 1, by omega⟩
    show fn_X11_linksWith_4b _ _ _ _ _ = _
    unfold fn_X11_linksWith_4b
    rw [ci_size (ck_6 h.1) hl6, fg_b_1, fg_if_1 ((n_le (by omega) (by omega)).mpr (by omega))]
    rfl
  | succ d ih =>
    intro l N c hl hN
    obtain ⟨N, rfl⟩ : ∃ m, N = m + 1 := ⟨N - 1, by omega⟩
    have hl2 : l < sC s 5 := by omega
    have w1 := (CB_lnk h hl2).2.1
    have hg : ∀ z, some (yA y 6 l) = some z → h_k k z = 22 := fun z hz => by cases hz; exact w1
    show fn_X11_linksWith_4b (fn_X11_linksWith_4 N) _ _ _ _ = _
    unfold fn_X11_linksWith_4b fn_X1_holds s_lw
    rw [ci_size (ck_6 h.1) hl6, fg_b_1, fg_if_0 (fun q => by have := (n_le (a := sC s 5) (b := l) (by omega) (by omega)).mp q; omega), ci_get (ck_6 h.1) hl6 hl2, fg_b_1, fg_g_1 hg, fg_o_1, fg_g_1 w1, fg_g_1 w1, ci_endHolds h vm hl2 (e := 0) (by decide), fg_b_1, q_b_if, ci_endHolds h vm hl2 (e := 1) (by decide), fg_b_1, q_b_if, n_p1, n_p1]
    by_cases c1 : s_hl (s_e1 s l 0) (s_e2 s l 0) x
    · rw [fg_if_1 c1, fg_if_1 (Or.inl c1), fg_b_1, fg_if_0 (by decide), ih (l + 1) N (c + 1) (by omega) (by omega)]
      congr 3
      omega
    · rw [fg_if_0 c1]
      by_cases c2 : s_hl (s_e1 s l 1) (s_e2 s l 1) x
      · rw [fg_if_1 c2, fg_if_1 (Or.inr c2), fg_b_1, fg_if_0 (by decide), ih (l + 1) N (c + 1) (by omega) (by omega)]
        congr 3
        omega
      · rw [fg_if_0 c2, fg_if_0 (fun q => q.elim c1 c2), fg_b_1, fg_if_1 rfl, ih (l + 1) N c (by omega) (by omega), Nat.zero_add]
/-- the codes of the hits -/
def c_hl (g : Nat → Int32) (H : List sH) : Prop := ∀ (j : Nat) (h : sH), H[j]? = some h → g j = nI (s_hcd h)
theorem c_hl_s {g : Nat → Int32} {H : List sH} {h : sH} (hg : c_hl g H) : c_hl (fun x => if x = H.length then nI (s_hcd h) else g x) (H ++ [h]) := by
  intro j x hx
  by_cases c : j < H.length
  · rw [List.getElem?_append_left c] at hx
    show (if j = H.length then _ else _) = _
    rw [if_neg (by omega)]
    exact hg j x hx
  · have hj := (List.getElem?_eq_some_iff.mp hx).1
    rw [List.length_append, List.length_cons, List.length_nil] at hj
    have e : j = H.length := by omega
    rw [List.getElem?_append_right (by omega), e, Nat.sub_self] at hx
    have : some h = some x := hx
    injection this with this
    show (if j = H.length then _ else _) = _
    rw [if_pos e, this]
theorem ci_seek_99 (h : CBM k s M y) (v : ivc s) (vd : ivd s) (vx : ivx s) (vm : ivm s) {a X : Int32} {q i n u z : Nat} (hu : u < sC s 4) (hq : q < 4) (hn : i + n ≤ z) (hz : z ≤ 60) (ez : sF s 110 q = nI z) (hn1 : 1 ≤ n) (hX : b_set X (fun j => s_opn s a u (nI (sC s 0)) ∧ j < sC s 2 ∧ ¬ s_whyOf s a (nI j) 0 (nI (sC s 0)) = -9)) {K57 : Int32 → Int32 → Int32 → Int32 → Int32 → Int32 → h_S → fg_R (Int32) h_S} : ∀ (d p N : Nat) (H : List sH) (g : Nat → Int32), p + d = (s_vs s u).length → d < N → H.length ≤ 300 * u + p → c_hl g H → ∃ g2, fn_X11_seek_99 K57 N a (nI q) (nI i) (nI n) (nI H.length) (nI u) (some (yA y 4 u)) X (nI p) (h_af k 12 g) = K57 a (nI q) (nI i) (nI n) (nI (H ++ s_hq s a q i n u d p).length) (nI (u + 1)) (h_af k 12 g2) ∧ c_hl g2 (H ++ s_hq s a q i n u d p) := by
  have v4 := v.2.2.2.2.1
  have v5 := v.2.2.2.2.2.1
  have hl := s_vs_300 (s := s) u
  intro d
  induction d with
  | zero =>
    intro p N H g hp hN hH hg
    obtain ⟨N, rfl⟩ : ∃ m, N = m + 1 := ⟨N - 1, by omega⟩
    have hK := CB_fnd h g
    obtain ⟨_, h1, _, _, _, _, b, hb, ar⟩ := CB_ver hK hu
    refine ⟨g, ?_, ?_⟩
    · show fn_X11_seek_99b _ _ _ _ _ _ _ _ _ _ _ _ = _
      unfold fn_X11_seek_99b
      have c0 : nI (s_vs s u).length - nI n < nI p := by
        rw [Int32.lt_iff_toInt_lt, q_sub (by rw [q_nI (by omega), q_nI (by omega)]; omega) (by rw [q_nI (by omega), q_nI (by omega)]; omega), q_nI (by omega), q_nI (by omega), q_nI (by omega)]
        omega
      rw [fg_o_1, fg_g_1 h1, hb, fg_o_1, fg_g_1 ar.2.1, ar.2.2.1, show Int32.ofNat (s_vs s u).length = nI (s_vs s u).length from rfl, fg_if_1 c0, n_p1, s_hq_n (by omega), List.append_nil]
    · rw [s_hq_n (by omega), List.append_nil]
      exact hg
  | succ d ih =>
    intro p N H g hp hN hH hg
    obtain ⟨N, rfl⟩ : ∃ m, N = m + 1 := ⟨N - 1, by omega⟩
    have hK := CB_fnd h g
    obtain ⟨_, h1, _, _, _, _, b, hb, ar⟩ := CB_ver hK hu
    show ∃ g2, fn_X11_seek_99b K57 (fn_X11_seek_99 K57 N) _ _ _ _ _ _ _ _ _ _ = _ ∧ _
    unfold fn_X11_seek_99b
    rw [fg_o_1, fg_g_1 h1, hb, fg_o_1, fg_g_1 ar.2.1, ar.2.2.1, show Int32.ofNat (s_vs s u).length = nI (s_vs s u).length from rfl]
    have ei : (nI (s_vs s u).length - nI n < nI p) ↔ (s_vs s u).length < p + n := by
      rw [Int32.lt_iff_toInt_lt, q_sub (by rw [q_nI (by omega), q_nI (by omega)]; omega) (by rw [q_nI (by omega), q_nI (by omega)]; omega), q_nI (by omega), q_nI (by omega), q_nI (by omega)]
      omega
    by_cases c0 : (s_vs s u).length < p + n
    · rw [fg_if_1 (ei.mpr c0), n_p1]
      refine ⟨g, ?_, ?_⟩
      · rw [s_hq_n (by omega), List.append_nil]
      · rw [s_hq_n (by omega), List.append_nil]
        exact hg
    · have n12 : h_n (h_af k 12 g) 12 = 4800 := cf_n (a := 12) hK.1 rfl (by decide) rfl
      have cn : ¬ Int32.ofNat 4800 ≤ nI H.length := fun w => by have := (n_le (a := 4800) (b := H.length) (by omega) (by omega)).mp w; omega
      have st := ci_standsAt hK v vd vx hu hq hn hz ez hn1 (p := p) (by omega) hX
      have ex : h_i (h_af k 12 g) b p = s_vg s u p := ar.2.2.2 _ _ (s_vg_in (by omega))
      rw [fg_if_0 (fun w => c0 (ei.mp w)), n12, fg_if_0 cn, fg_g_1 ((n_vp (by omega)).mpr hq), q_nIx (show q < 2 ^ 31 by omega), (c_shf hK.1 hq).1, st, fg_b_1, q_b_if, s_hq_s]
      by_cases c1 : s_opn s a u (nI (sC s 0)) ∧ s_ht s a q i n u p
      · have hlw := s_lw_le (s := s) (s_vg s u p) (sC s 5) 0
        have el : fn_X11_linksWith (s_vg s u p) (h_af k 12 g) = some (nI (0 + s_lw s (s_vg s u p) (sC s 5) 0), h_af k 12 g) := ci_linksWith_4 hK v vm (s_vg s u p) (sC s 5) 0 g_N 0 (Nat.zero_add _) (by have := g_N_le; omega)
        have ecd : (nI (0 + s_lw s (s_vg s u p) (sC s 5) 0) * 16 + nI u) * 300 + nI p = nI (s_hcd (u, p, s_lw s (s_vg s u p) (sC s 5) 0)) := by
          rw [Nat.zero_add, show (16 : Int32) = nI 16 from rfl, show (300 : Int32) = nI 300 from rfl, n_mul, n_add, n_mul, n_add]
          rfl
        rw [fg_if_1 c1, fg_if_1 c1, fg_o_1, fg_g_1 h1, hb, fg_o_1, fg_g_1 ar.2.1, ar.2.2.1, fg_g_1 ((n_vp (by omega)).mpr (by omega)), q_nIx (show p < 2 ^ 31 by omega), ex, el, fg_b_1, fg_g_1 ((n_vp (by omega)).mpr (by omega)), fg_let_1, ecd, q_nIx (show H.length < 2 ^ 31 by omega), h_si_af, n_p1, n_p1]
        obtain ⟨g2, m1, m2⟩ := ih (p + 1) N (H ++ [(u, p, s_lw s (s_vg s u p) (sC s 5) 0)]) _ (by omega) (by omega) (by rw [List.length_append, List.length_cons, List.length_nil]; omega) (c_hl_s hg)
        have e1 : (H ++ [(u, p, s_lw s (s_vg s u p) (sC s 5) 0)]).length = H.length + 1 := by rw [List.length_append]; rfl
        rw [List.append_assoc] at m1 m2
        rw [e1] at m1
        exact ⟨g2, m1, m2⟩
      · rw [fg_if_0 c1, fg_if_0 c1, n_p1]
        exact ih (p + 1) N H g (by omega) (by omega) (by omega) hg
end CSk
