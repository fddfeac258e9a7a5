section CLf
variable {k k2 k3 : h_S} {s : sA} {y : c_Y} {M : Nat}
theorem s_pn_parts {m : Nat} (v : ivc s) {p : sP} (h : s_pn s M p) : s_pn s M p ∧ ∀ k, 0 < k → k < e_z s m p → s_pn s M (e_hd p k) ∧ s_pn s M (e_tl p k) := ⟨h, fun k h0 hk => ⟨⟨(s_pk_hd v h.1 h0 hk).1, h.2⟩, ⟨(s_pk_hd v h.1 h0 hk).2, h.2⟩⟩⟩
theorem e_oa_pn {m : Nat} (v : ivc s) {l : List sP} (hl : ∀ p, p ∈ l → s_pn s M p) (at_ st : Nat) : (∀ p, p ∈ (e_oa (e_z s m) at_ st l).1 → s_pn s M p) ∧ (∀ p, p ∈ (e_oa (e_z s m) at_ st l).2 → s_pn s M p) := e_oa_P l at_ st (fun p hp => s_pn_parts v (hl p hp))
theorem e_ob_pn {m : Nat} (v : ivc s) {l : List sP} (hl : ∀ p, p ∈ l → s_pn s M p) {at_ st : Nat} (h : st < at_) : (∀ p, p ∈ (e_ob (e_z s m) at_ st l).1 → s_pn s M p) ∧ (∀ p, p ∈ (e_ob (e_z s m) at_ st l).2 → s_pn s M p) := e_ob_P l at_ st h (fun p hp => s_pn_parts v (hl p hp))
theorem s_row_pn (vx : ivx s) (vq : ivq s) (w : Nat) : ∀ p, p ∈ sR s w (sC s 0) → s_pn s (sC s 0) p := fun p hp => ⟨vx w _ p hp, fun c => vq w _ p hp c⟩
theorem ivq_new {w : Int32} {l : List sP} (vq : ivq s) (hl : ∀ p, p ∈ l → s_pn s (sC s 0) p) : ivq (s_new s w l) := by
  intro u m p hp c
  have hp : p ∈ (if u = h_ix w ∧ sC s 0 + 1 ≤ m then l else sR s u m) := hp
  by_cases e : u = h_ix w ∧ sC s 0 + 1 ≤ m
  · rw [if_pos e] at hp
    have := (hl p hp).2 c
    omega
  · rw [if_neg e] at hp
    exact vq u m p hp c
/-- bring -/
theorem ci_bring (h : CBM k s (sC s 0) y) (v : ivc s) (v0 : sC s 0 < 512) (vt : ivt s) (vp : ivp s) (vq : ivq s) (vx : ivx s) (vv : ivv s) {w a r : Nat} {p : sP} (hw : w < sC s 2) (ha : a ≤ 300) (hr : c_pc k r p) : ∃ k2 y2 c e, fn_X7_bring (nI w) (nI a) (some r) (nI (sC s 0)) k = some (q_b ((s_brg s (nI w) a p).length ≤ 24), k2, c, e) ∧ c + zC y2 ≤ zC y + 4 ∧ e + zD y2 ≤ zD y + 37 ∧ ((s_brg s (nI w) a p).length ≤ 24 → CBM k2 (s_new s (nI w) (s_brg s (nI w) a p)) (sC s 0 + 1) y2 ∧ ∃ t, yH y2 w = (sC s 0 + 1, s_brg s (nI w) a p) :: t) ∧ (¬ (s_brg s (nI w) a p).length ≤ 24 → CBM k2 s (sC s 0) y2) := by
  have v2 := v.2.2.1
  have er : s_row s (nI w) = sR s w (sC s 0) := by unfold s_row; rw [q_nIx (by omega)]
  obtain ⟨K1, a1, a2, a3, a4, a5⟩ := ci_layOut h v vt vp hw
  have lR := (vp w (sC s 0)).1
  obtain ⟨K2, y2, c2, e2, b1, b2, b3, b4, b5, b6, b7, b8, b9, b10, b11⟩ := ci_openAhead_5 v vp vq (by omega) (m := sC s 0) (at_ := a) (Nat.le_refl _) ha (sR s w (sC s 0)).length [] (sR s w (sC s 0)) 0 g_N K1 y rfl (by have := g_N_le; omega) a2 (by omega) (s_row_pn vx vq w) a5 a4 (by show (sR s w (sC s 0)).length < 32; omega)
  have ll := (e_oa_all (z := e_z s (sC s 0)) (sR s w (sC s 0)) a 0).1
  unfold s_brg
  rw [er]
  generalize e_oa (e_z s (sC s 0)) a 0 (sR s w (sC s 0)) = A at b1 b3 b5 ll
  rw [List.nil_append] at b3 b5
  have lA : (A.1 ++ A.2).length ≤ 25 := by rw [List.length_append]; omega
  have hr2 : c_pc K2 r p := b7 _ _ (c_B_pcs a3 _ _ hr)
  obtain ⟨K3, m1, m2, m3, m4, m5, m6⟩ := ci_insert b2.1 b5 b3 (by omega) hr2
  have hC3 : CBM K3 s (sC s 0) y2 := CB_B b2 m2
  have eL : (A.1 ++ p :: A.2).length = (A.1 ++ A.2).length + 1 := by rw [List.length_append, List.length_append, List.length_cons]; omega
  obtain ⟨K4, c4, e4, n1, n2, n3, n4, n5⟩ := ci_keepLaid hC3 v v0 vq vv hw (by omega) m6 m3
  have b1' : fn_X7_openAhead (nI a) (nI (sC s 0)) K1 = some (nI A.1.length, K2, c2, e2) := by
    unfold fn_X7_openAhead
    have : fn_X7_openAhead_5 g_N (nI a) (nI (sC s 0)) 0 0 K1 = some (nI (0 + A.1.length), K2, c2, e2) := b1
    rw [Nat.zero_add] at this
    exact this
  have f : fn_X7_bring (nI w) (nI a) (some r) (nI (sC s 0)) k = some (q_b ((A.1 ++ p :: A.2).length ≤ 24), K4, c2 + (c4 + 0), e2 + (e4 + 0)) := by
    unfold fn_X7_bring
    rw [a1, fg_b_1, b1', fg_bc_1, m1, fg_b_1, n_p1, n1, fg_bc_1, fg_g_1 (q_bt _)]
    rfl
  by_cases c : (A.1 ++ p :: A.2).length ≤ 24
  · refine ⟨K4, yUH y2 w ((sC s 0 + 1, A.1 ++ p :: A.2) :: yH y2 w), _, _, f, ?_, ?_, fun _ => ⟨n4 c, yH y2 w, by rw [yH_UH, if_pos rfl]⟩, fun z => absurd c z⟩
    · show _ + zC y2 ≤ _; omega
    · show _ + zD y2 ≤ _; omega
  · refine ⟨K4, y2, _, _, f, by omega, by omega, fun z => absurd z c, fun _ => by rw [n5 c]; exact hC3⟩
theorem s_brg_pn (v : ivc s) (vx : ivx s) (vq : ivq s) {w : Int32} {at_ : Nat} {p : sP} (hp : s_pn s (sC s 0) p) : ∀ q, q ∈ s_brg s w at_ p → s_pn s (sC s 0) q := by
  obtain ⟨a1, a2⟩ := e_oa_pn (m := sC s 0) v (s_row_pn vx vq (h_ix w)) at_ 0
  intro q hq
  rcases List.mem_append.mp (show q ∈ (e_oa (e_z s (sC s 0)) at_ 0 (s_row s w)).1 ++ p :: (e_oa (e_z s (sC s 0)) at_ 0 (s_row s w)).2 from hq) with w1 | w1
  · exact a1 q w1
  · rcases List.mem_cons.mp w1 with w2 | w2
    · rw [w2]; exact hp
    · exact a2 q w2
/-- then so many are shown, and the act -/
theorem ci_thenAct {w : Nat} {l : List sP} (v : ivc s) (g : ivg s) (v0 : sC s 0 < 512) (hw : w < sC s 2) (vp : ivp s) (vq : ivq s) (hl : l.length ≤ 24) (hp : ∀ p, p ∈ l → s_pn s (sC s 0) p) (h : CBM k (s_new s (nI w) l) (sC s 0 + 1) y) : ∃ k2 y2 c e, fg_bc (fn_X7_sizeAsOf (nI w) ((h_i k 0 0) + (1 : Int32)) k) (fun p15 s14 => fg_b (fn_X11_acted p15 s14) (fun p22 s21 => some (p22, s21, 0, 0))) = some (s_then s (nI w) l, k2, c, e) ∧ CB k2 (s_act (s_new s (nI w) l) (s_then s (nI w) l)) y2 ∧ c + zC y2 ≤ zC y ∧ e + zD y2 ≤ zD y := by
  have v2 := v.2.2.1
  have vn : ivc (s_new s (nI w) l) := v
  obtain ⟨k2, y2, c, e, f1, f2, f3, f4, f5, f6⟩ := CB_size h vn (ivp_new vp hl (fun p h => (hp p h).1)) (ivq_new vq hp) (by omega) (w := w) (m := sC s 0 + 1) hw (Nat.le_refl _)
  have e0 : h_i k 0 0 = nI (sC s 0) := h.2.1.1
  have et : nI (s_sh (sR (s_new s (nI w) l)) 4 w (sC s 0 + 1)).length = s_then s (nI w) l := by unfold s_then; rw [q_nIx (by omega)]
  rw [et] at f1
  rw [e0, n_p1, f1, fg_bc_1, ci_acted f2.2.1.1 v.1, fg_b_1]
  simp only [fg_c_1]
  exact ⟨_, y2, c + 0, e + 0, rfl, cs_act f2 (Nat.le_refl _) g _, by omega, by omega⟩
theorem ci_showsWith (h : CB k s y) (v : ivc s) (g : ivg s) (v0 : sC s 0 < 512) (vt : ivt s) (vp : ivp s) (vq : ivq s) (vx : ivx s) (vv : ivv s) {w a r : Nat} {p : sP} (hw : w < sC s 2) (ha : a ≤ 300) (hr : c_pc k r p) (hp : s_pn s (sC s 0) p) : ∃ k2 y2 c e, fn_X11_showsWith (nI w) (nI a) (some r) k = some ((s_keepS s (nI w) (s_brg s (nI w) a p)).1, k2, c, e) ∧ CB k2 (s_keepS s (nI w) (s_brg s (nI w) a p)).2 y2 ∧ c + zC y2 ≤ zC y + 4 ∧ e + zD y2 ≤ zD y + 37 := by
  obtain ⟨k2, y2, c, e, f1, f2, f3, f4, f5⟩ := ci_bring (CB_M h) v v0 vt vp vq vx vv hw ha hr
  unfold fn_X11_showsWith s_keepS
  rw [h.2.1.1, f1, fg_bc_1, q_b_if]
  by_cases q : (s_brg s (nI w) a p).length ≤ 24
  · simp only [fg_if_1 q]
    obtain ⟨k3, y3, c3, e3, g1, g2, g3, g4⟩ := ci_thenAct v g v0 hw vp vq q (s_brg_pn v vx vq hp) (f4 q).1
    rw [g1]
    simp only [fg_c_1]
    exact ⟨k3, y3, _, _, rfl, g2, by omega, by omega⟩
  · simp only [fg_if_0 q, fg_c_1]
    exact ⟨k2, y2, c + 0, e + 0, rfl, f5 q, by omega, by omega⟩
/-- lift: the loops -/
theorem ci_lift_77 {f cnt e0 n : Nat} (hF : c_F k) (hc : e0 = f + cnt) (hen : e0 ≤ n) (hn : n ≤ 32) (h9 : h_i k 3 9 = nI n) (h11 : h_i k 3 11 = nI cnt) (hk : ∀ i c, i < n → h_r k 27 i = some c → h_k k c = 23) : ∀ (d p N : Nat) (K : h_S), p + d = n → e0 ≤ p → d < N → c_B k K → h_i K 3 9 = nI n → h_i K 3 11 = nI cnt → h_r K 28 = h_r k 28 → (∀ i, h_r K 27 i = if f ≤ i ∧ i < p - cnt then h_r k 27 (i + cnt) else h_r k 27 i) → ∃ K2, fn_X7_lift_77 N (nI p) K = some ((), K2, 0, 0) ∧ c_B k K2 ∧ h_i K2 3 9 = nI (n - cnt) ∧ h_i K2 3 11 = nI cnt ∧ h_r K2 28 = h_r k 28 ∧ (∀ i, i < n - cnt → h_r K2 27 i = if f ≤ i then h_r k 27 (i + cnt) else h_r k 27 i) := by
  have e118 : ∀ K : h_S, c_B k K → h_i K 3 9 = nI n → h_i K 3 11 = nI cnt → h_r K 28 = h_r k 28 → (∀ i, i < n - cnt → h_r K 27 i = if f ≤ i then h_r k 27 (i + cnt) else h_r k 27 i) → ∃ K2, fn_X7_lift_118 K = some ((), K2, 0, 0) ∧ c_B k K2 ∧ h_i K2 3 9 = nI (n - cnt) ∧ h_i K2 3 11 = nI cnt ∧ h_r K2 28 = h_r k 28 ∧ (∀ i, i < n - cnt → h_r K2 27 i = if f ≤ i then h_r k 27 (i + cnt) else h_r k 27 i) := by
    intro K hB k9 k11 k28 k27
    unfold fn_X7_lift_118
    rw [fg_let_1, k9, k11, n_sub (by omega)]
    exact ⟨_, rfl, c_Bt hB (c_B_si hB.2.2 (Or.inl rfl)), by rw [h_i_si, if_pos ⟨rfl, rfl⟩], by rw [h_i_si, if_neg (by omega)]; exact k11, k28, k27⟩
  intro d
  induction d with
  | zero =>
    intro p N K hp he hN hB k9 k11 k28 k27
    obtain ⟨N, rfl⟩ : ∃ m, N = m + 1 := ⟨N - 1, by omega⟩
    show ∃ K2, fn_X7_lift_77b _ _ _ = _ ∧ _
    unfold fn_X7_lift_77b
    rw [k9, fg_if_1 ((n_le (by omega) (by omega)).mpr (by omega))]
    refine e118 K hB k9 k11 k28 (fun i hi => ?_)
    rw [k27]
    by_cases c : f ≤ i
    · rw [if_pos ⟨c, by omega⟩, if_pos c]
    · rw [if_neg (fun z => c z.1), if_neg c]
  | succ d ih =>
    intro p N K hp he hN hB k9 k11 k28 k27
    obtain ⟨N, rfl⟩ : ∃ m, N = m + 1 := ⟨N - 1, by omega⟩
    show ∃ K2, fn_X7_lift_77b (fn_X7_lift_77 N) _ _ = _ ∧ _
    unfold fn_X7_lift_77b
    rw [k9, fg_if_0 (fun z => by have := (n_le (a := n) (b := p) (by omega) (by omega)).mp z; omega), k11]
    by_cases c0 : cnt = 0
    · rw [fg_if_1 (show nI cnt ≤ 0 by rw [c0]; decide)]
      refine e118 K hB k9 k11 k28 (fun i hi => ?_)
      rw [k27, c0]
      by_cases c : f ≤ i
      · rw [if_pos c]
        by_cases c2 : f ≤ i ∧ i < p - 0
        · rw [if_pos c2]
        · rw [if_neg c2]; rfl
      · rw [if_neg (fun z => c z.1), if_neg c]
    · have er : h_r K 27 p = h_r k 27 p := by rw [k27, if_neg (by omega)]
      rw [fg_if_0 (fun z => by have := (n_le (a := cnt) (b := 0) (by omega) (by omega)).mp z; omega), fg_g_1 ((n_vp (by omega)).mpr (by omega)), n_sub (by omega), fg_g_1 ((n_vp (by omega)).mpr (by omega)), q_nIx (by omega), q_nIx (by omega), fg_g_1 (fun c hc => by
        rw [er] at hc
        have := hk p c (by omega) hc
        by_cases e : c = 27 ∨ c = 28 ∨ c = 3
        · rcases e with rfl | rfl | rfl
          · rw [cf_k (kd := 3) hF rfl (by decide)] at this; exact absurd this (by decide)
          · rw [cf_k (kd := 3) hF rfl (by decide)] at this; exact absurd this (by decide)
          · rw [cf_k (a := 3) (kd := c_fk 3) hF rfl (by decide)] at this; exact absurd this (by decide)
        · rw [(hB.1 c (by omega) (by omega) (by omega)).1]; exact this), fg_let_1, n_p1]
      refine ih (p + 1) N _ (by omega) (by omega) (by omega) (c_Bt hB (c_B_sr hB.2.2 (Or.inl rfl))) k9 k11 ?_ (fun i => ?_)
      · rw [← k28]
        funext j
        rw [h_r_sr, if_neg (by omega)]
      · rw [h_r_sr]
        by_cases e : i = p - cnt
        · rw [if_pos ⟨rfl, e⟩, er, if_pos (by omega), e, show p - cnt + cnt = p by omega]
        · rw [if_neg (fun z => e z.2), k27]
          by_cases c : f ≤ i ∧ i < p - cnt
          · rw [if_pos c, if_pos (by omega)]
          · rw [if_neg c, if_neg (by omega)]
theorem ci_lift_41 {f cnt e0 n : Nat} (hF : c_F k) (hc : e0 = f + cnt) (hen : e0 ≤ n) (hn : n ≤ 32) (h9 : h_i k 3 9 = nI n) (h11 : h_i k 3 11 = nI cnt) (hk : ∀ i c, i < n → h_r k 27 i = some c → h_k k c = 23) : ∀ (d j N : Nat) (K : h_S), j + d = cnt → d < N → c_B k K → h_i K 3 9 = nI n → h_i K 3 11 = nI cnt → h_r K 27 = h_r k 27 → (∀ i, i < j → h_r K 28 i = h_r k 27 (f + i)) → ∃ K2, fn_X7_lift_41 N (nI f) (nI e0) (nI j) K = some ((), K2, 0, 0) ∧ c_B k K2 ∧ h_i K2 3 9 = nI (n - cnt) ∧ h_i K2 3 11 = nI cnt ∧ (∀ i, i < cnt → h_r K2 28 i = h_r k 27 (f + i)) ∧ (∀ i, i < n - cnt → h_r K2 27 i = if f ≤ i then h_r k 27 (i + cnt) else h_r k 27 i) := by
  intro d
  induction d with
  | zero =>
    intro j N K hj hN hB k9 k11 k27 k28
    obtain ⟨N, rfl⟩ : ∃ m, N = m + 1 := ⟨N - 1, by omega⟩
    show ∃ K2, fn_X7_lift_41b _ _ _ _ _ = _ ∧ _
    unfold fn_X7_lift_41b
    rw [k11, fg_if_1 ((n_le (by omega) (by omega)).mpr (by omega))]
    have hkK : ∀ i c, i < n → h_r K 27 i = some c → h_k K c = 23 := fun i c hi hc => by
      rw [k27] at hc
      have := hk i c hi hc
      by_cases e : c = 27 ∨ c = 28 ∨ c = 3
      · rcases e with rfl | rfl | rfl
        · rw [cf_k (kd := 3) hF rfl (by decide)] at this; exact absurd this (by decide)
        · rw [cf_k (kd := 3) hF rfl (by decide)] at this; exact absurd this (by decide)
        · rw [cf_k (a := 3) (kd := c_fk 3) hF rfl (by decide)] at this; exact absurd this (by decide)
      · rw [(hB.1 c (by omega) (by omega) (by omega)).1]; exact this
    obtain ⟨K2, f1, f2, f3, f4, f5, f6⟩ := ci_lift_77 (k := K) (f := f) (cnt := cnt) (e0 := e0) (n := n) hB.2.2 hc hen hn k9 k11 hkK (n - e0) e0 g_N K (by omega) (Nat.le_refl _) (by have := g_N_le; omega) (c_B0 hB.2.2) k9 k11 rfl (fun i => by rw [if_neg (by omega)])
    refine ⟨K2, f1, c_Bt hB f2, f3, f4, fun i hi => by rw [f5]; exact k28 i (by omega), fun i hi => by rw [f6 i hi, k27]⟩
  | succ d ih =>
    intro j N K hj hN hB k9 k11 k27 k28
    obtain ⟨N, rfl⟩ : ∃ m, N = m + 1 := ⟨N - 1, by omega⟩
    show ∃ K2, fn_X7_lift_41b (fn_X7_lift_41 N) _ _ _ _ = _ ∧ _
    unfold fn_X7_lift_41b
    rw [k11, fg_if_0 (fun z => by have := (n_le (a := cnt) (b := j) (by omega) (by omega)).mp z; omega), n_add, fg_g_1 ((n_vp (by omega)).mpr (by omega)), fg_g_1 ((n_vp (by omega)).mpr (by omega)), q_nIx (by omega), q_nIx (by omega), k27, fg_g_1 (fun c hc => by
      have := hk (f + j) c (by omega) hc
      by_cases e : c = 27 ∨ c = 28 ∨ c = 3
      · rcases e with rfl | rfl | rfl
        · rw [cf_k (kd := 3) hF rfl (by decide)] at this; exact absurd this (by decide)
        · rw [cf_k (kd := 3) hF rfl (by decide)] at this; exact absurd this (by decide)
        · rw [cf_k (a := 3) (kd := c_fk 3) hF rfl (by decide)] at this; exact absurd this (by decide)
      · rw [(hB.1 c (by omega) (by omega) (by omega)).1]; exact this), fg_let_1, n_p1]
    refine ih (j + 1) N _ (by omega) (by omega) (c_Bt hB (c_B_sr hB.2.2 (Or.inr rfl))) k9 k11 ?_ (fun i hi => ?_)
    · rw [← k27]
      funext i
      rw [h_r_sr, if_neg (by omega)]
    · rw [h_r_sr]
      by_cases e : i = j
      · rw [if_pos ⟨rfl, e⟩, e]
      · rw [if_neg (fun z => e z.2)]; exact k28 i (by omega)
/-- lift -/
theorem ci_lift (h : CBM k s (sC s 0) y) (v : ivc s) (v0 : sC s 0 < 512) (vt : ivt s) (vp : ivp s) (vq : ivq s) (vx : ivx s) {w f n : Nat} (hw : w < sC s 2) (hn : 0 < n) (hfn : f + n ≤ 300) (hf : f < e_end (e_z s (sC s 0)) 0 (sR s w (sC s 0))) : ∃ k2 y2 c e, fn_X7_lift (nI w) (nI f) (nI n) (nI (sC s 0)) k = some ((), k2, c, e) ∧ CBM k2 s (sC s 0) y2 ∧ h_i k2 3 9 = nI (e_lift (e_z s (sC s 0)) f n (sR s w (sC s 0))).2.length ∧ h_i k2 3 11 = nI (e_lift (e_z s (sC s 0)) f n (sR s w (sC s 0))).1.length ∧ c_bo k2 27 0 (e_lift (e_z s (sC s 0)) f n (sR s w (sC s 0))).2 ∧ c_bo k2 28 0 (e_lift (e_z s (sC s 0)) f n (sR s w (sC s 0))).1 ∧ c + zC y2 ≤ zC y + 4 ∧ e + zD y2 ≤ zD y + 20 ∧ y2.1 = y.1 ∧ y2.2.1 = y.2.1 := by
  have v2 := v.2.2.1
  have lR := (vp w (sC s 0)).1
  obtain ⟨K1, a1, a2, a3, a4, a5⟩ := ci_layOut h v vt vp hw
  have pn := s_row_pn vx vq w
  obtain ⟨K2, y2, c2, e2, b1, b2, b3, b4, b5, b6, b7, b8, b9, b10, b11⟩ := ci_openAhead_5 v vp vq (by omega) (m := sC s 0) (at_ := f) (Nat.le_refl _) (by omega) (sR s w (sC s 0)).length [] (sR s w (sC s 0)) 0 g_N K1 y rfl (by have := g_N_le; omega) a2 (by omega) pn a5 a4 (by show (sR s w (sC s 0)).length < 32; omega)
  have ll := (e_oa_all (z := e_z s (sC s 0)) (sR s w (sC s 0)) f 0).1
  have pA := e_oa_pn (m := sC s 0) v pn f 0
  have eA := e_oa_end (z := e_z s (sC s 0)) (sR s w (sC s 0)) 0 (fun p hp => e_ok_z (pn p hp).1) (Nat.zero_le f) (by omega) hf
  unfold e_lift
  generalize e_oa (e_z s (sC s 0)) f 0 (sR s w (sC s 0)) = A at b1 b3 b5 ll pA eA
  rw [List.nil_append] at b3 b5
  have lA : (A.1 ++ A.2).length ≤ 25 := by rw [List.length_append]; omega
  have lA2 := lA
  rw [List.length_append] at lA2
  obtain ⟨K3, y3, c3, e3, d1, d2, d3, d4, d5, d6, d7, d8, d9, d10, d11⟩ := ci_openBehind_5 v vp vq (by omega) (m := sC s 0) (at_ := f + n) (Nat.le_refl _) hfn (A.1 ++ A.2).length [] (A.1 ++ A.2) 0 g_N K2 y2 rfl (by have := g_N_le; omega) b2 (by omega) (fun p hp => by
    rcases List.mem_append.mp hp with z | z
    · exact pA.1 p z
    · exact pA.2 p z) b5 b3 (by show (A.1 ++ A.2).length < 32; omega)
  have eB := e_ob_app (z := e_z s (sC s 0)) (at_ := f + n) A.2 A.1 0 (by omega) (by rw [eA]; omega)
  rw [eA] at eB
  rw [eB, List.nil_append] at d3 d5
  have lB := e_ob_all (z := e_z s (sC s 0)) A.2 (f + n) f
  rw [eB] at d1
  generalize e_ob (e_z s (sC s 0)) (f + n) f A.2 = B at d1 d3 d5 lB
  dsimp only at d1 d3 d5
  dsimp only
  have b1' : fn_X7_openAhead (nI f) (nI (sC s 0)) K1 = some (nI A.1.length, K2, c2, e2) := by
    unfold fn_X7_openAhead
    have : fn_X7_openAhead_5 g_N (nI f) (nI (sC s 0)) 0 0 K1 = some (nI (0 + A.1.length), K2, c2, e2) := b1
    rw [Nat.zero_add] at this
    exact this
  have d1' : fn_X7_openBehind (nI (f + n)) (nI (sC s 0)) K2 = some (nI (A.1.length + B.1.length), K3, c3, e3) := by
    unfold fn_X7_openBehind
    have : fn_X7_openBehind_5 g_N (nI (f + n)) (nI (sC s 0)) 0 0 K2 = some (nI (0 + (A.1 ++ B.1).length), K3, c3, e3) := d1
    rw [Nat.zero_add, List.length_append] at this
    exact this
  have mx : h_max 0 (nI (A.1.length + B.1.length) - nI A.1.length) = nI B.1.length := by
    rw [n_sub (by omega), show A.1.length + B.1.length - A.1.length = B.1.length by omega]
    have := n_max 0 B.1.length (by omega) (by omega)
    rw [show max 0 B.1.length = B.1.length by omega] at this
    exact this
  have lT : (A.1 ++ B.1 ++ B.2).length = A.1.length + B.1.length + B.2.length := by rw [List.length_append, List.length_append]
  have B1 : c_B K3 (h_si K3 3 11 (nI B.1.length)) := c_B_si d2.1 (Or.inr rfl)
  obtain ⟨K4, m1, m2, m3, m4, m5, m6⟩ := ci_lift_41 (k := h_si K3 3 11 (nI B.1.length)) (f := A.1.length) (cnt := B.1.length) (e0 := A.1.length + B.1.length) (n := A.1.length + B.1.length + B.2.length) B1.2.2 rfl (by omega) (by omega) (by rw [h_i_si, if_neg (by omega), d3, lT]) (by rw [h_i_si, if_pos ⟨rfl, rfl⟩]) (fun i c hi hc => by
    have := d5 i (A.1 ++ B.1 ++ B.2)[i] (List.getElem?_eq_getElem (by omega))
    rw [Nat.zero_add] at this
    obtain ⟨c5, q1, q2⟩ := this
    have hc : h_r K3 27 i = some c := hc
    rw [q1] at hc
    cases hc
    exact q2.2.1) B.1.length 0 g_N (h_si K3 3 11 (nI B.1.length)) (by omega) (by have := g_N_le; omega) (c_B0 B1.2.2) (by rw [h_i_si, if_neg (by omega), d3, lT]) (by rw [h_i_si, if_pos ⟨rfl, rfl⟩]) rfl (fun i hi => absurd hi (Nat.not_lt_zero _))
  have fe : fn_X7_lift (nI w) (nI f) (nI n) (nI (sC s 0)) k = some ((), K4, c2 + (c3 + 0), e2 + (e3 + 0)) := by
    unfold fn_X7_lift
    rw [a1, fg_b_1, b1', fg_bc_1, n_add, d1', fg_bc_1, fg_let_1, mx]
    have m1' : fn_X7_lift_41 g_N (nI A.1.length) (nI (A.1.length + B.1.length)) 0 (h_si K3 3 11 (nI B.1.length)) = some ((), K4, 0, 0) := m1
    rw [m1']
    rfl
  have pcs : c_pcs K3 K4 := c_pcst (c_B_pcs B1) (c_B_pcs m2)
  obtain ⟨o1, o2⟩ := c_bo_app.mp d5
  obtain ⟨o3, o4⟩ := c_bo_app.mp o1
  refine ⟨K4, y3, _, _, fe, CB_B (CB_B d2 B1) m2, ?_, m4, ?_, ?_, by omega, by omega, d10.trans b10, d11.trans b11⟩
  · rw [m3]; congr 1; rw [List.length_append]; omega
  · refine c_bo_app.mpr ⟨c_bo_tr o3 pcs (fun i hi => ?_), c_bo_tr o2 pcs (fun i hi => ?_)⟩
    · rw [m6 _ (by omega), if_neg (by omega)]; rfl
    · rw [m6 _ (by omega), if_pos (by omega)]
      show h_r K3 27 _ = _
      congr 1
      rw [List.length_append]
      omega
  · refine c_bo_tr o4 pcs (fun i hi => ?_)
    rw [Nat.zero_add, m5 i hi, Nat.zero_add]
    rfl
end CLf
