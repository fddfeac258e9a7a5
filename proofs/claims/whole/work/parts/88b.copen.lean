section CBo
variable {k k2 k3 : h_S} {s : sA} {y : c_Y} {M : Nat}
theorem ci_layOut_7 (v : ivc s) (vt : ivt s) (vp : ivp s) {w : Nat} (hw : w < sC s 2) : ∀ (d j N : Nat) (K : h_S), j + d = (sR s w (sC s 0)).length → d < N → CBM K s M y → c_B k K → h_i K 3 9 = nI j → h_i K 3 11 = h_i k 3 11 → c_bo K 27 0 ((sR s w (sC s 0)).take j) → ∃ K2, fn_X7_layOut_7 N (nI w) (nI j) K = some ((), K2) ∧ CBM K2 s M y ∧ c_B k K2 ∧ h_i K2 3 9 = nI (sR s w (sC s 0)).length ∧ c_bo K2 27 0 (sR s w (sC s 0)) := by
  have v2 := v.2.2.1
  have hl := (vp w (sC s 0)).1
  intro d
  induction d with
  | zero =>
    intro j N K hj hN h hB h9 h11 hb
    obtain ⟨N, rfl⟩ : ∃ m, N = m + 1 := ⟨N - 1, by omega⟩
    refine ⟨K, ?_, h, hB, by rw [h9]; congr 1, by rw [List.take_of_length_le (by omega)] at hb; exact hb⟩
    show fn_X7_layOut_7b _ _ _ _ = _
    unfold fn_X7_layOut_7b
    rw [ci_pieceCount h v vt hw, fg_b_1, fg_if_1 ((n_le (by omega) (by omega)).mpr (by omega))]
  | succ d ih =>
    intro j N K hj hN h hB h9 h11 hb
    obtain ⟨N, rfl⟩ : ∃ m, N = m + 1 := ⟨N - 1, by omega⟩
    have hj2 : j < (sR s w (sC s 0)).length := by omega
    obtain ⟨a, b, e1, e2, e3, e4⟩ := CB_head h v vt hw
    obtain ⟨c, c1, c2⟩ := e4.2.2.2 j _ (List.getElem?_eq_getElem hj2)
    show ∃ K2, fn_X7_layOut_7b (fn_X7_layOut_7 N) _ _ _ = _ ∧ _
    unfold fn_X7_layOut_7b
    rw [ci_pieceCount h v vt hw, fg_b_1, fg_if_0 (fun q => by have := (n_le (a := (sR s w (sC s 0)).length) (b := j) (by omega) (by omega)).mp q; omega), fg_if_0 (show ¬ (24 : Int32) ≤ nI j from fun q => by have := (n_le (a := 24) (b := j) (by omega) (by omega)).mp q; omega), fg_g_1 ((n_vp (by omega)).mpr (by omega)), q_nIx (by omega), e1, fg_o_1, fg_g_1 e2, e3, fg_o_1, fg_g_1 e4.2.1, e4.2.2.1, fg_g_1 ((n_vp (by omega)).mpr hj2), fg_g_1 ((n_vp (by omega)).mpr (by omega)), q_nIx (by omega), c1, fg_g_1 (fun x hx => by cases hx; exact c2.2.1), fg_let_1, fg_let_1, show h_i (h_sr K 27 j (some c)) 3 9 = h_i K 3 9 from rfl, h9, n_p1]
    have B1 : c_B K (h_sr K 27 j (some c)) := c_B_sr h.1 (Or.inl rfl)
    have B2 : c_B K (h_si (h_sr K 27 j (some c)) 3 9 (nI (j + 1))) := c_Bt B1 (c_B_si B1.2.2 (Or.inl rfl))
    refine ih (j + 1) N _ (by omega) (by omega) (CB_B h B2) (c_Bt hB B2) (by rw [h_i_si, if_pos ⟨rfl, rfl⟩]) (by rw [h_i_si, if_neg (by omega)]; exact h11) ?_
    rw [List.take_succ_eq_append_getElem hj2]
    refine c_bo_app.mpr ⟨c_bo_tr hb (c_B_pcs B2) (fun i hi => ?_), c_bo_cons.mpr ⟨⟨c, ?_, c_B_pcs B2 _ _ c2⟩, c_bo_nil⟩⟩
    · rw [List.length_take] at hi
      show h_r (h_sr K 27 j (some c)) 27 _ = _
      rw [h_r_sr, if_neg (by omega)]
    · show h_r (h_sr K 27 j (some c)) 27 _ = _
      rw [List.length_take, h_r_sr, if_pos ⟨rfl, by omega⟩]
theorem ci_layOut (h : CBM k s M y) (v : ivc s) (vt : ivt s) (vp : ivp s) {w : Nat} (hw : w < sC s 2) : ∃ K2, fn_X7_layOut (nI w) k = some ((), K2) ∧ CBM K2 s M y ∧ c_B k K2 ∧ h_i K2 3 9 = nI (sR s w (sC s 0)).length ∧ c_bo K2 27 0 (sR s w (sC s 0)) := by
  unfold fn_X7_layOut
  rw [fg_let_1]
  have B1 : c_B k (h_si k 3 9 0) := c_B_si h.1 (Or.inl rfl)
  exact ci_layOut_7 (k := k) v vt vp hw (sR s w (sC s 0)).length 0 g_N (h_si k 3 9 0) (by omega) (by have := g_N_le; have := (vp w (sC s 0)).1; omega) (CB_B h B1) B1 (by rw [h_i_si, if_pos ⟨rfl, rfl⟩]; rfl) (by rw [h_i_si, if_neg (by omega)]) (by rw [List.take_zero]; exact c_bo_nil)
/-- a new piece -/
theorem ci_pnew {q : Nat} (hF : c_F k) (eq : c_ad 1 k = q) (x0 x1 x2 x3 x4 : Int32) : ∃ K2, fn_X2_init q x0 x1 x2 x3 x4 (h_nw k q 23 5) = some ((), K2) ∧ c_F K2 ∧ c_pc K2 q (x0, x1, x2, x3, x4) ∧ c_jk k K2 ∧ h_k k q = 0 ∧ 128 ≤ q := by
  have q0 : h_k k q = 0 := by rw [← eq]; exact cf_z hF rfl
  have q8 : c_tg 1 q := by rw [← eq]; unfold c_tg c_ad; omega
  have F5 : c_F (h_nw k q 23 5) := cf_nw hF eq.symm (by decide)
  have kq : h_k (h_nw k q 23 5) q = 23 := by rw [h_k_nw, if_pos rfl]
  unfold fn_X2_init
  rw [fg_g_1 kq]
  simp only [fg_let_1]
  refine ⟨_, rfl, F5, ⟨q8, kq, ?_, ?_, ?_, ?_, ?_⟩, fun a ha => ?_, q0, q8.1⟩
  · simp [h_i_si]
  · simp [h_i_si]
  · simp [h_i_si]
  · simp [h_i_si]
  · simp [h_i_si]
  · have n : a ≠ q := fun e => by
      rcases ha with w | w
      · exact w (by rw [e]; exact q0)
      · have := q8.1; omega
    exact c_eqt (c_eq_nw n) (c_eqt (c_eqt (c_eqt (c_eqt (c_eq_si n) (c_eq_si n)) (c_eq_si n)) (c_eq_si n)) (c_eq_si n))
theorem c_jk_t (h : c_jk k k2) (h2 : c_jk k2 k3) : c_jk k k3 := fun a ha => c_eqt (h a ha) (h2 a (by
  rcases ha with w | w
  · left; rw [(h a (Or.inl w)).1]; exact w
  · exact Or.inr w))
theorem c_jk_pcs (h : c_jk k k2) : c_pcs k k2 := c_pcs_ag (c_jk_ag h) (by decide)
theorem ci_head {a : Nat} {p : sP} (hF : c_F k) (hp : c_pc k a p) (n : Nat) : ∃ q K2, fn_X2_head a (nI n) k = some (some q, K2, 1, 5) ∧ c_F K2 ∧ c_pc K2 q (e_hd p n) ∧ c_jk k K2 := by
  unfold fn_X2_head
  rw [fg_let_1, fg_let_1]
  obtain ⟨q, eq⟩ : ∃ q, c_ad 1 k = q := ⟨_, rfl⟩
  rw [eq]
  have q0 : h_k k q = 0 := by rw [← eq]; exact cf_z hF rfl
  have na : a ≠ q := fun e => by have := hp.2.1; rw [e, q0] at this; exact absurd this (by decide)
  have e := c_eq_nw (k := k) (kd := 23) (n := 5) na
  obtain ⟨K2, f1, f2, f3, f4, _⟩ := ci_pnew hF eq p.1 p.2.1 (nI n) p.2.2.2.1 p.2.2.2.2
  rw [fg_g_1 (by rw [e.1]; exact hp.2.1), e.2.2.1, hp.2.2.1, hp.2.2.2.1, hp.2.2.2.2.2.1, hp.2.2.2.2.2.2, f1, fg_b_1]
  exact ⟨q, K2, rfl, f2, f3, f4⟩
theorem ci_tail {a : Nat} {p : sP} (hF : c_F k) (hp : c_pc k a p) (n : Nat) : ∃ q K2, fn_X2_tail a (nI n) k = some (some q, K2, 1, 5) ∧ c_F K2 ∧ c_pc K2 q (e_tl p n) ∧ c_jk k K2 := by
  unfold fn_X2_tail
  rw [fg_let_1, fg_let_1]
  obtain ⟨q, eq⟩ : ∃ q, c_ad 1 k = q := ⟨_, rfl⟩
  rw [eq]
  have q0 : h_k k q = 0 := by rw [← eq]; exact cf_z hF rfl
  have na : a ≠ q := fun e => by have := hp.2.1; rw [e, q0] at this; exact absurd this (by decide)
  have e := c_eq_nw (k := k) (kd := 23) (n := 5) na
  obtain ⟨K2, f1, f2, f3, f4, _⟩ := ci_pnew hF eq p.1 (p.2.1 + nI n) (p.2.2.1 - nI n) p.2.2.2.1 p.2.2.2.2
  rw [fg_g_1 (by rw [e.1]; exact hp.2.1), e.2.2.1, hp.2.2.1, hp.2.2.2.1, hp.2.2.2.2.1, hp.2.2.2.2.2.1, hp.2.2.2.2.2.2, f1, fg_b_1]
  exact ⟨q, K2, rfl, f2, f3, f4⟩
theorem ci_partAt (h : CBM k s M y) {a b : List sP} {p : sP} {n : Nat} (hb : c_bo k 27 0 (a ++ p :: b)) (h9 : h_i k 3 9 = nI (a ++ p :: b).length) (hl : (a ++ p :: b).length < 32) : ∃ k2, fn_X7_partAt (nI a.length) (nI n) k = some (nI (a.length + 1), k2, 2, 10) ∧ CBM k2 s M y ∧ h_i k2 3 9 = nI (a ++ e_hd p n :: e_tl p n :: b).length ∧ h_i k2 3 11 = h_i k 3 11 ∧ c_bo k2 27 0 (a ++ e_hd p n :: e_tl p n :: b) ∧ h_r k2 28 = h_r k 28 ∧ c_pcs k k2 := by
  have hF := h.1
  have la : a.length < 32 := by rw [List.length_append, List.length_cons] at hl; omega
  obtain ⟨b1, b2⟩ := c_bo_app.mp hb
  obtain ⟨⟨c, c1, c2⟩, b3⟩ := c_bo_cons.mp b2
  rw [Nat.zero_add] at c1 b3
  unfold fn_X7_partAt
  rw [fg_g_1 ((n_vp (by omega)).mpr la), q_nIx (by omega), c1, fg_o_1, fg_g_1 c2.2.1]
  obtain ⟨q, K1, f1, f2, f3, f4⟩ := ci_head hF c2 n
  have j28 := f4 28 (Or.inr (by omega))
  have j27 := f4 27 (Or.inr (by omega))
  have j3 := f4 3 (Or.inr (by omega))
  rw [f1, fg_bc_1, fg_g_1 ((n_vp (by omega)).mpr la), fg_g_1 (fun x hx => by cases hx; exact f3.2.1), fg_let_1, fg_o_1]
  have B1 : c_B K1 (h_sr K1 27 a.length (some q)) := c_B_sr f2 (Or.inl rfl)
  have c3 : c_pc (h_sr K1 27 a.length (some q)) c p := c_B_pcs B1 _ _ (c_jk_pcs f4 _ _ c2)
  rw [fg_g_1 c3.2.1]
  obtain ⟨q2, K2, g1, g2, g3, g4⟩ := ci_tail B1.2.2 c3 n
  have i28 := g4 28 (Or.inr (by omega))
  have i27 := g4 27 (Or.inr (by omega))
  have i3 := g4 3 (Or.inr (by omega))
  have r27 : ∀ j, h_r K2 27 j = if j = a.length then some q else h_r k 27 j := fun j => by
    rw [i27.2.2.2, h_r_sr, j27.2.2.2]
    by_cases e : j = a.length
    · rw [if_pos ⟨rfl, e⟩, if_pos e]
    · rw [if_neg (fun w => e w.2), if_neg e]
  have pc1 : c_pcs k K2 := c_pcst (c_jk_pcs f4) (c_pcst (c_B_pcs B1) (c_jk_pcs g4))
  have n9 : h_i K2 3 9 = nI ((a ++ [e_hd p n]) ++ b).length := by
    rw [i3.2.2.1]
    show h_i K1 3 9 = _
    rw [j3.2.2.1, h9]
    congr 1
    rw [List.length_append, List.length_append, List.length_append, List.length_cons, List.length_singleton]
    omega
  have hb2 : c_bo K2 27 0 ((a ++ [e_hd p n]) ++ b) := by
    rw [List.append_assoc]
    refine c_bo_app.mpr ⟨c_bo_tr b1 pc1 (fun i hi => by rw [r27, if_neg (by omega)]), c_bo_cons.mpr ⟨⟨q, by rw [r27, if_pos (by omega)], c_jk_pcs g4 _ _ (c_B_pcs B1 _ _ f3)⟩, c_bo_tr b3 pc1 (fun i hi => ?_)⟩⟩
    rw [r27, if_neg (by omega), Nat.zero_add]
  have ll : ((a ++ [e_hd p n]) ++ b).length < 32 := by
    rw [List.length_append, List.length_append, List.length_singleton]
    rw [List.length_append, List.length_cons] at hl
    omega
  obtain ⟨K3, m1, m2, m3, m4, m5, m6⟩ := ci_insert g2 hb2 n9 ll g3
  have m1' : fn_X7_insert (nI a.length + 1) (some q2) K2 = some ((), K3) := by
    rw [n_p1]
    rw [List.length_append, List.length_singleton] at m1
    exact m1
  rw [g1, fg_bc_1, m1', fg_b_1, n_p1]
  simp only [fg_c_1]
  have hC : CBM K3 s M y := CB_B (CB_junk (CB_B (CB_junk h f2 f4) B1) g2 g4) m2
  have el : (a ++ [e_hd p n]) ++ e_tl p n :: b = a ++ e_hd p n :: e_tl p n :: b := by rw [List.append_assoc]; rfl
  rw [el] at m3 m6
  refine ⟨K3, rfl, hC, m3, ?_, m6, ?_, c_pcst pc1 (c_B_pcs m2)⟩
  · rw [m4, i3.2.2.1]
    show h_i K1 3 11 = _
    rw [j3.2.2.1]
  · rw [m5, i28.2.2.2]
    funext j
    rw [h_r_sr, if_neg (by omega), j28.2.2.2]
/-- pieces, as they may be held now -/
def s_pn (s : sA) (M : Nat) (p : sP) : Prop := s_pk s p ∧ (p.1 = 2 → h_ix p.2.2.2.2 ≤ M)
theorem ci_openAhead_5 (v : ivc s) (vp : ivp s) (vq : ivq s) (hM : M ≤ 600) {m at_ : Nat} (hm : m ≤ M) (hat : at_ ≤ 300) : ∀ (d : Nat) (pre l : List sP) (st N : Nat) (k : h_S) (y : c_Y), l.length = d → d < N → CBM k s M y → st ≤ 300 → (∀ p, p ∈ l → s_pn s M p) → c_bo k 27 0 (pre ++ l) → h_i k 3 9 = nI (pre ++ l).length → (pre ++ l).length < 32 → ∃ k2 y2 c e, fn_X7_openAhead_5 N (nI at_) (nI m) (nI st) (nI pre.length) k = some (nI (pre.length + (e_oa (e_z s m) at_ st l).1.length), k2, c, e) ∧ CBM k2 s M y2 ∧ h_i k2 3 9 = nI (pre ++ ((e_oa (e_z s m) at_ st l).1 ++ (e_oa (e_z s m) at_ st l).2)).length ∧ h_i k2 3 11 = h_i k 3 11 ∧ c_bo k2 27 0 (pre ++ ((e_oa (e_z s m) at_ st l).1 ++ (e_oa (e_z s m) at_ st l).2)) ∧ h_r k2 28 = h_r k 28 ∧ c_pcs k k2 ∧ c + zC y2 ≤ zC y + 2 ∧ e + zD y2 ≤ zD y + 10 ∧ y2.1 = y.1 ∧ y2.2.1 = y.2.1 := by
  intro d
  induction d with
  | zero =>
    intro pre l st N k y hl hN h hst hok hb h9 hll
    obtain ⟨N, rfl⟩ : ∃ m, N = m + 1 := ⟨N - 1, by omega⟩
    have el : l = [] := List.eq_nil_of_length_eq_zero hl
    subst el
    rw [List.append_nil] at hb h9 hll
    refine ⟨k, y, 0, 0, ?_, h, ?_, rfl, ?_, rfl, fun _ _ q => q, by omega, by omega, rfl, rfl⟩
    · show fn_X7_openAhead_5b _ _ _ _ _ _ = _
      unfold fn_X7_openAhead_5b
      rw [h9, fg_if_1 (Int32.le_refl _)]
      rfl
    · show _ = nI (pre ++ ([] ++ [])).length
      rw [List.append_nil, List.append_nil]; exact h9
    · show c_bo k 27 0 (pre ++ ([] ++ []))
      rw [List.append_nil, List.append_nil]; exact hb
  | succ d ih =>
    intro pre l st N k y hl hN h hst hok hb h9 hll
    obtain ⟨N, rfl⟩ : ∃ m, N = m + 1 := ⟨N - 1, by omega⟩
    cases l with
    | nil => cases hl
    | cons p l =>
      have okp := hok p (List.mem_cons_self)
      have lp : pre.length < (pre ++ p :: l).length := by rw [List.length_append, List.length_cons]; omega
      obtain ⟨b1, b2⟩ := c_bo_app.mp hb
      obtain ⟨⟨c, c1, c2⟩, b3⟩ := c_bo_cons.mp b2
      rw [Nat.zero_add] at c1
      obtain ⟨k1, y1, cc, ee, f1, f2, f3, f4, f5, f6⟩ := ci_sizeOf h v vp vq hM c2 okp.1 okp.2 hm
      have hz : e_z s m p ≤ 500 := by
        obtain ⟨n, hn, _, q⟩ := (e_ok_z (s := s) (m := m) okp.1).1
        omega
      have a3 := f6.1 3 (by decide)
      have a27 := f6.1 27 (by decide)
      have a28 := f6.1 28 (by decide)
      have pcs1 : c_pcs k k1 := c_pcs_ag f6 (by decide)
      have hb1 : c_bo k1 27 0 (pre ++ p :: l) := c_bo_tr hb pcs1 (fun i _ => by rw [a27.2.2.2])
      have h91 : h_i k1 3 9 = nI (pre ++ p :: l).length := by rw [a3.2.2.1]; exact h9
      show ∃ k2 y2 c e, fn_X7_openAhead_5b (fn_X7_openAhead_5 N) _ _ _ _ _ = _ ∧ _
      unfold fn_X7_openAhead_5b e_oa
      rw [h9, fg_if_0 (fun q => by have := (n_le (b := pre.length) (by omega) (by omega)).mp q; omega), fg_g_1 ((n_vp (by omega)).mpr (by omega)), q_nIx (by omega), c1, f1, fg_bc_1, fg_let_1, n_add, show (300 : Int32) = nI 300 from rfl, n_min _ _ (by omega) (by omega)]
      by_cases q1 : at_ < min 300 (st + e_z s m p)
      · rw [fg_if_0 (fun q => by have := (n_le (by omega) (by omega)).mp q; omega)]
        simp only [if_pos q1]
        by_cases q2 : st < at_
        · rw [fg_if_0 (fun q => by have := (n_le (a := at_) (b := st) (by omega) (by omega)).mp q; omega), n_sub (by omega)]
          simp only [if_pos q2]
          obtain ⟨k2, g1, g2, g3, g4, g5, g6, g7⟩ := ci_partAt f2 (n := at_ - st) hb1 h91 hll
          rw [g1, fg_bc_1]
          simp only [fg_c_1]
          refine ⟨k2, y1, _, _, rfl, g2, g3, by rw [g4, a3.2.2.1], g5, by rw [g6, a28.2.2.2], c_pcst pcs1 g7, by omega, by omega, f3.1, f3.2.1⟩
        · rw [fg_if_1 ((n_le (by omega) (by omega)).mpr (by omega))]
          simp only [if_neg q2, fg_c_1]
          refine ⟨k1, y1, cc + 0, ee + 0, rfl, f2, h91, by rw [a3.2.2.1], hb1, a28.2.2.2, pcs1, by omega, by omega, f3.1, f3.2.1⟩
      · rw [fg_if_1 ((n_le (by omega) (by omega)).mpr (by omega)), n_p1]
        simp only [if_neg q1]
        have ea : pre ++ p :: l = (pre ++ [p]) ++ l := by rw [List.append_assoc]; rfl
        rw [ea] at hb1 h91 hll
        obtain ⟨k2, y2, c3, e3, g1, g2, g3, g4, g5, g6, g7, g8, g9, g10, g11⟩ := ih (pre ++ [p]) l (min 300 (st + e_z s m p)) N k1 y1 (by have : l.length + 1 = d + 1 := hl; omega) (by omega) f2 (by omega) (fun q hq => hok q (List.mem_cons_of_mem _ hq)) hb1 h91 hll
        have lpe : (pre ++ [p]).length = pre.length + 1 := by rw [List.length_append]; rfl
        rw [lpe] at g1
        rw [g1]
        simp only [fg_c_1]
        have ee2 : ∀ X Y : List sP, (pre ++ [p]) ++ (X ++ Y) = pre ++ (p :: X ++ Y) := fun X Y => by rw [List.append_assoc]; rfl
        rw [ee2] at g3 g5
        refine ⟨k2, y2, cc + c3, ee + e3, ?_, g2, g3, by rw [g4, a3.2.2.1], g5, by rw [g6, a28.2.2.2], c_pcst pcs1 g7, by omega, by omega, g10.trans f3.1, g11.trans f3.2.1⟩
        rw [List.length_cons, show pre.length + 1 + (e_oa (e_z s m) at_ (min 300 (st + e_z s m p)) l).1.length = pre.length + ((e_oa (e_z s m) at_ (min 300 (st + e_z s m p)) l).1.length + 1) by omega]
theorem ci_openBehind_5 (v : ivc s) (vp : ivp s) (vq : ivq s) (hM : M ≤ 600) {m at_ : Nat} (hm : m ≤ M) (hat : at_ ≤ 300) : ∀ (d : Nat) (pre l : List sP) (st N : Nat) (k : h_S) (y : c_Y), l.length = d → d < N → CBM k s M y → st ≤ at_ → (∀ p, p ∈ l → s_pn s M p) → c_bo k 27 0 (pre ++ l) → h_i k 3 9 = nI (pre ++ l).length → (pre ++ l).length < 32 → ∃ k2 y2 c e, fn_X7_openBehind_5 N (nI at_) (nI m) (nI st) (nI pre.length) k = some (nI (pre.length + (e_ob (e_z s m) at_ st l).1.length), k2, c, e) ∧ CBM k2 s M y2 ∧ h_i k2 3 9 = nI (pre ++ ((e_ob (e_z s m) at_ st l).1 ++ (e_ob (e_z s m) at_ st l).2)).length ∧ h_i k2 3 11 = h_i k 3 11 ∧ c_bo k2 27 0 (pre ++ ((e_ob (e_z s m) at_ st l).1 ++ (e_ob (e_z s m) at_ st l).2)) ∧ h_r k2 28 = h_r k 28 ∧ c_pcs k k2 ∧ c + zC y2 ≤ zC y + 2 ∧ e + zD y2 ≤ zD y + 10 ∧ y2.1 = y.1 ∧ y2.2.1 = y.2.1 := by
  intro d
  induction d with
  | zero =>
    intro pre l st N k y hl hN h hst hok hb h9 hll
    obtain ⟨N, rfl⟩ : ∃ m, N = m + 1 := ⟨N - 1, by omega⟩
    have el : l = [] := List.eq_nil_of_length_eq_zero hl
    subst el
    rw [List.append_nil] at hb h9 hll
    refine ⟨k, y, 0, 0, ?_, h, ?_, rfl, ?_, rfl, fun _ _ q => q, by omega, by omega, rfl, rfl⟩
    · show fn_X7_openBehind_5b _ _ _ _ _ _ = _
      unfold fn_X7_openBehind_5b
      rw [h9, fg_if_1 (Int32.le_refl _)]
      rfl
    · show _ = nI (pre ++ ([] ++ [])).length
      rw [List.append_nil, List.append_nil]; exact h9
    · show c_bo k 27 0 (pre ++ ([] ++ []))
      rw [List.append_nil, List.append_nil]; exact hb
  | succ d ih =>
    intro pre l st N k y hl hN h hst hok hb h9 hll
    obtain ⟨N, rfl⟩ : ∃ m, N = m + 1 := ⟨N - 1, by omega⟩
    cases l with
    | nil => cases hl
    | cons p l =>
      have okp := hok p (List.mem_cons_self)
      have lp : pre.length < (pre ++ p :: l).length := by rw [List.length_append, List.length_cons]; omega
      obtain ⟨b1, b2⟩ := c_bo_app.mp hb
      obtain ⟨⟨c, c1, c2⟩, b3⟩ := c_bo_cons.mp b2
      rw [Nat.zero_add] at c1
      obtain ⟨k1, y1, cc, ee, f1, f2, f3, f4, f5, f6⟩ := ci_sizeOf h v vp vq hM c2 okp.1 okp.2 hm
      have hz : e_z s m p ≤ 500 := by
        obtain ⟨n, hn, _, q⟩ := (e_ok_z (s := s) (m := m) okp.1).1
        omega
      have a3 := f6.1 3 (by decide)
      have a27 := f6.1 27 (by decide)
      have a28 := f6.1 28 (by decide)
      have pcs1 : c_pcs k k1 := c_pcs_ag f6 (by decide)
      have hb1 : c_bo k1 27 0 (pre ++ p :: l) := c_bo_tr hb pcs1 (fun i _ => by rw [a27.2.2.2])
      have h91 : h_i k1 3 9 = nI (pre ++ p :: l).length := by rw [a3.2.2.1]; exact h9
      show ∃ k2 y2 c e, fn_X7_openBehind_5b (fn_X7_openBehind_5 N) _ _ _ _ _ = _ ∧ _
      unfold fn_X7_openBehind_5b e_ob
      rw [h9, fg_if_0 (fun q => by have := (n_le (b := pre.length) (by omega) (by omega)).mp q; omega), fg_g_1 ((n_vp (by omega)).mpr (by omega)), q_nIx (by omega), c1, f1, fg_bc_1, fg_let_1, n_add, show (300 : Int32) = nI 300 from rfl, n_min _ _ (by omega) (by omega)]
      by_cases q1 : min 300 (st + e_z s m p) < at_
      · rw [fg_if_1 ((n_lt (by omega) (by omega)).mpr q1), n_p1]
        simp only [if_pos q1]
        have ea : pre ++ p :: l = (pre ++ [p]) ++ l := by rw [List.append_assoc]; rfl
        rw [ea] at hb1 h91 hll
        obtain ⟨k2, y2, c3, e3, g1, g2, g3, g4, g5, g6, g7, g8, g9, g10, g11⟩ := ih (pre ++ [p]) l (min 300 (st + e_z s m p)) N k1 y1 (by have : l.length + 1 = d + 1 := hl; omega) (by omega) f2 (by omega) (fun q hq => hok q (List.mem_cons_of_mem _ hq)) hb1 h91 hll
        have lpe : (pre ++ [p]).length = pre.length + 1 := by rw [List.length_append]; rfl
        rw [lpe] at g1
        rw [g1]
        simp only [fg_c_1]
        have ee2 : ∀ X Y : List sP, (pre ++ [p]) ++ (X ++ Y) = pre ++ (p :: X ++ Y) := fun X Y => by rw [List.append_assoc]; rfl
        rw [ee2] at g3 g5
        refine ⟨k2, y2, cc + c3, ee + e3, ?_, g2, g3, by rw [g4, a3.2.2.1], g5, by rw [g6, a28.2.2.2], c_pcst pcs1 g7, by omega, by omega, g10.trans f3.1, g11.trans f3.2.1⟩
        rw [List.length_cons, show pre.length + 1 + (e_ob (e_z s m) at_ (min 300 (st + e_z s m p)) l).1.length = pre.length + ((e_ob (e_z s m) at_ (min 300 (st + e_z s m p)) l).1.length + 1) by omega]
      · rw [fg_if_0 (fun q => q1 ((n_lt (by omega) (by omega)).mp q))]
        simp only [if_neg q1]
        by_cases q2 : min 300 (st + e_z s m p) ≤ at_
        · rw [fg_if_1 ((n_le (by omega) (by omega)).mpr q2), n_p1]
          simp only [if_pos q2, fg_c_1]
          refine ⟨k1, y1, cc + 0, ee + 0, rfl, f2, h91, by rw [a3.2.2.1], hb1, a28.2.2.2, pcs1, by omega, by omega, f3.1, f3.2.1⟩
        · rw [fg_if_0 (fun q => q2 ((n_le (by omega) (by omega)).mp q)), n_sub (by omega)]
          simp only [if_neg q2]
          obtain ⟨k2, g1, g2, g3, g4, g5, g6, g7⟩ := ci_partAt f2 (n := at_ - st) hb1 h91 hll
          rw [g1, fg_bc_1]
          simp only [fg_c_1]
          refine ⟨k2, y1, _, _, rfl, g2, g3, by rw [g4, a3.2.2.1], g5, by rw [g6, a28.2.2.2], c_pcst pcs1 g7, by omega, by omega, f3.1, f3.2.1⟩
end CBo
