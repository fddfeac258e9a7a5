section CBe
variable {k k2 k3 : h_S} {s : sA} {y : c_Y} {M : Nat}
theorem CB_ag (h : CBM k s M y) (hF : c_F k2) (g : c_ag [0, 1, 2, 4, 5, 6, 8, 11, 13, 15, 16, 17, 18, 19, 20, 52, 53, 54, 55, 56, 57, 58, 59] c_tags k k2) (h3 : h_i k2 3 0 = h_i k 3 0) : CBM k2 s M y := by
  have h' := h
  obtain ⟨h1, h2, h3', h4, h5⟩ := h
  refine CB_up h' hF (c_agm g (by decide) (fun _ q => q)) ?_ ?_ ?_ (fun _ _ => rfl) (fun _ _ => rfl) rfl rfl (Nat.le_refl _)
  · unfold KN at *
    rw [(g.1 0 (by decide)).2.2.1, h3]
    exact h2
  · refine ⟨?_, ?_, ?_⟩
    · rw [(g.1 1 (by decide)).2.2.1]; exact h3'.1
    · rw [(g.1 15 (by decide)).2.2.1]; exact h3'.2.1
    · rw [(g.1 11 (by decide)).2.2.1]; exact h3'.2.2
  · unfold KG
    rw [(g.1 2 (by decide)).2.2.1]
    exact h4
/-- pieces in an array from o on -/
def c_bo (k : h_S) (A o : Nat) (l : List sP) : Prop := ∀ (i : Nat) (q : sP), l[i]? = some q → ∃ c, h_r k A (o + i) = some c ∧ c_pc k c q
theorem c_bo_nil {A o : Nat} : c_bo k A o [] := fun i q hq => by simp at hq
theorem c_bo_cons {A o : Nat} {p : sP} {l : List sP} : c_bo k A o (p :: l) ↔ (∃ c, h_r k A o = some c ∧ c_pc k c p) ∧ c_bo k A (o + 1) l := by
  constructor
  · intro h
    refine ⟨?_, fun i q hq => ?_⟩
    · have := h 0 p rfl; rw [Nat.add_zero] at this; exact this
    · have := h (i + 1) q hq; rw [show o + (i + 1) = o + 1 + i by omega] at this; exact this
  · rintro ⟨h1, h2⟩ i q hq
    cases i with
    | zero => cases hq; rw [Nat.add_zero]; exact h1
    | succ i => have := h2 i q hq; rw [show o + 1 + i = o + (i + 1) by omega] at this; exact this
theorem c_bo_app {A : Nat} {b : List sP} : ∀ {a : List sP} {o : Nat}, c_bo k A o (a ++ b) ↔ c_bo k A o a ∧ c_bo k A (o + a.length) b := by
  intro a
  induction a with
  | nil => intro o; exact ⟨fun h => ⟨c_bo_nil, h⟩, fun h => h.2⟩
  | cons p a ih =>
    intro o
    rw [List.cons_append, c_bo_cons, c_bo_cons, ih, List.length_cons, show o + 1 + a.length = o + (a.length + 1) by omega]
    exact ⟨fun ⟨a, b, c⟩ => ⟨⟨a, b⟩, c⟩, fun ⟨⟨a, b⟩, c⟩ => ⟨a, b, c⟩⟩
/-- what there is of pieces stays -/
def c_pcs (k k2 : h_S) : Prop := ∀ c q, c_pc k c q → c_pc k2 c q
theorem c_bo_tr {A A2 o o2 : Nat} {l : List sP} (h : c_bo k A o l) (hp : c_pcs k k2) (e : ∀ i, i < l.length → h_r k2 A2 (o2 + i) = h_r k A (o + i)) : c_bo k2 A2 o2 l := fun i q hq => by
  have hi : i < l.length := by
    rcases Nat.lt_or_ge i l.length with w | w
    · exact w
    · rw [List.getElem?_eq_none w] at hq; cases hq
  obtain ⟨c, h1, h2⟩ := h i q hq
  exact ⟨c, by rw [e i hi]; exact h1, hp c q h2⟩
theorem c_pcs_ag {fx tg : List Nat} (g : c_ag fx tg k k2) (h1 : 1 ∈ tg) : c_pcs k k2 := fun _ _ h => c_pc_fr h g h1
theorem c_pcst (h : c_pcs k k2) (h2 : c_pcs k2 k3) : c_pcs k k3 := fun c q w => h2 c q (h c q w)
/-- the bench, what is lifted, and their counts alone -/
def c_B (k k2 : h_S) : Prop := (∀ a, a ≠ 27 → a ≠ 28 → a ≠ 3 → c_eq k k2 a) ∧ (∀ j, j ≠ 9 → j ≠ 11 → h_i k2 3 j = h_i k 3 j) ∧ c_F k2
theorem c_B0 (hF : c_F k) : c_B k k := ⟨fun _ _ _ _ => c_eq0, fun _ _ _ => rfl, hF⟩
theorem c_Bt (h : c_B k k2) (h2 : c_B k2 k3) : c_B k k3 := ⟨fun a a1 a2 a3 => c_eqt (h.1 a a1 a2 a3) (h2.1 a a1 a2 a3), fun j j1 j2 => (h2.2.1 j j1 j2).trans (h.2.1 j j1 j2), h2.2.2⟩
theorem c_B_ag (h : c_B k k2) : c_ag [0, 1, 2, 4, 5, 6, 8, 11, 13, 15, 16, 17, 18, 19, 20, 52, 53, 54, 55, 56, 57, 58, 59] c_tags k k2 := ⟨fun a ha => h.1 a (fun e => by rw [e] at ha; revert ha; decide) (fun e => by rw [e] at ha; revert ha; decide) (fun e => by rw [e] at ha; revert ha; decide), fun a ha _ _ => h.1 a (by omega) (by omega) (by omega)⟩
theorem c_B_pcs (h : c_B k k2) : c_pcs k k2 := c_pcs_ag (c_B_ag h) (by decide)
theorem CB_B (h : CBM k s M y) (b : c_B k k2) : CBM k2 s M y := CB_ag h b.2.2 (c_B_ag b) (b.2.1 0 (by decide) (by decide))
theorem c_B_sr {i : Nat} {v : Option Nat} {A : Nat} (hF : c_F k) (hA : A = 27 ∨ A = 28) : c_B k (h_sr k A i v) := by
  refine ⟨fun a a1 a2 _ => c_eq_sr (by omega), fun j _ _ => rfl, cf_sr (kd := 3) hF ?_ (by decide) _⟩
  rcases hA with rfl | rfl
  · exact cf_k hF rfl (by decide)
  · exact cf_k hF rfl (by decide)
theorem c_B_si {j : Nat} {v : Int32} (hF : c_F k) (hj : j = 9 ∨ j = 11) : c_B k (h_si k 3 j v) := ⟨fun a _ _ a3 => c_eq_si a3, fun i i1 i2 => by rw [h_i_si, if_neg (by omega)], hF⟩
/-- shownOf with f more around -/
theorem CB_showF (h : CBM k s M y) (v : ivc s) (vp : ivp s) (vq : ivq s) (hM : M ≤ 600) {f w m : Nat} (hf : f ≤ 4) (hw : w < sC s 2) (hm : m ≤ M) : ∃ k2 y2 i c e, fn_X7_shownOf 6 (nI w) (nI m) (nI (4 - f)) k = some (some (yS y2 i), k2, c, e) ∧ h_k k2 (yS y2 i) = 27 ∧ h_i k2 (yS y2 i) 1 = nI (s_sh (sR s) f w m).length ∧ CBM k2 s M y2 ∧ y_le y y2 ∧ c + zC y2 ≤ zC y ∧ e + zD y2 ≤ zD y ∧ c_ag (c_fxS 4) c_tgS k k2 := by
  obtain ⟨h1, h2, h3, h4, d1, d2, d3, d4, d5, d6, d7, d8, d9, d10⟩ := h
  obtain ⟨k2, y2, i, c, e, f1, f2, f3, f4, f5, f6, f7, f8, f9, f10, g'⟩ := ci_SH v vp vq hM f 6 hf (by omega) k y w m ⟨h1, h2.2.2.1, d9, d10⟩ hw hm
  have g : c_ag (c_fxS 4) c_tgS k k2 := by
    refine c_agm g' (fun a ha => ?_) (fun _ q => q)
    obtain ⟨b1, b2, b3⟩ := c_fxS_lt ha
    exact c_fxS_m b1 b2 (by omega)
  obtain ⟨t1, t2, t3, t4⟩ := f7
  have hsl : c_sl k2 s M (yS y2 i) (yB y2 i) (yC y2 i) := by
    rcases t4.1 i f2 with ⟨q, _⟩ | ⟨_, _, q⟩
    · exact absurd q f3
    · exact q
  refine ⟨k2, y2, i, c, e, f1, hsl.2.1, f4, ⟨t1, ?_, ?_, ?_, ?_⟩, f8, f9, f10, g⟩
  · unfold KN at *
    rw [(g.1 0 (by decide)).2.2.1, (g.1 3 (by decide)).2.2.1]
    exact h2
  · refine ⟨?_, ?_, ?_⟩
    · rw [(g.1 1 (by decide)).2.2.1]; exact h3.1
    · rw [(g.1 15 (by decide)).2.2.1]; exact h3.2.1
    · rw [(g.1 11 (by decide)).2.2.1]; exact h3.2.2
  · unfold KG
    rw [(g.1 2 (by decide)).2.2.1]
    exact h4
  · obtain ⟨q1, q2, q3, q4, q5, q6⟩ := KD_y (k := k2) (s := s) (y := y) (y2 := y2) f8.1 f8.2.1 ⟨KL_fr d1 g (by decide) (by decide) (fun _ _ => rfl), KW_fr d2 g (by decide) (by decide) rfl (fun _ _ => rfl), KV_fr d3 g (by decide) (by decide) rfl (fun _ _ => rfl) (fun _ _ => rfl), KC_fr d4 g (by decide) (by decide) rfl (fun _ _ => rfl) rfl, KK_fr d5 g (by decide) (by decide) rfl (fun _ _ => rfl), KR_fr d6 g (by decide) rfl (fun _ _ => rfl)⟩
    exact ⟨q1, q2, q3, q4, q5, q6, KT_fr d7 g (by decide) (fun _ _ => rfl), KH_fr d8 g (by decide) rfl (fun _ _ => rfl), t3, t4⟩
theorem ci_sizeOf (h : CBM k s M y) (v : ivc s) (vp : ivp s) (vq : ivq s) (hM : M ≤ 600) {a m : Nat} {p : sP} (hp : c_pc k a p) (ok : s_pk s p) (hq : p.1 = 2 → h_ix p.2.2.2.2 ≤ M) (hm : m ≤ M) : ∃ k2 y2 c e, fn_X7_sizeOf (some a) (nI m) 0 k = some (nI (e_z s m p), k2, c, e) ∧ CBM k2 s M y2 ∧ y_le y y2 ∧ c + zC y2 ≤ zC y ∧ e + zD y2 ≤ zD y ∧ c_ag (c_fxS 4) c_tgS k k2 := by
  have v2 := v.2.2.1
  obtain ⟨⟨o1, ⟨n, hn1, hn, en⟩, ⟨A, hA, eA⟩, o4, o5⟩, o6⟩ := ok
  unfold fn_X7_sizeOf
  rw [fg_o_1, fg_g_1 hp.2.1, ci_hasWords hp ⟨o1, ⟨n, hn1, hn, en⟩, ⟨A, hA, eA⟩, o4, o5⟩, fg_b_1, q_b_if]
  by_cases c : p.1 < 2
  · rw [fg_if_1 c, fg_o_1, fg_g_1 hp.2.1, e_z_w c, hp.2.2.2.2.1, en, q_nIx (by omega)]
    exact ⟨k, y, 0, 0, rfl, h, y_le0, by omega, by omega, c_ag0⟩
  · obtain ⟨w, hw, ew⟩ := o4 c
    rw [fg_if_0 c, fg_if_1 (by decide), fg_o_1, fg_g_1 hp.2.1, fg_o_1, fg_g_1 hp.2.1, ci_momentWithin hp, fg_b_1, hp.2.2.2.2.2.1, ew]
    obtain ⟨m2, hm2, em2, em3⟩ : ∃ m2, m2 ≤ M ∧ fg_if (p.1 = 2) p.2.2.2.2 (nI m) = nI m2 ∧ m2 = (if p.1 = 2 then h_ix p.2.2.2.2 else m) := by
      by_cases c2 : p.1 = 2
      · obtain ⟨z, hz, ez⟩ := o5 c2
        have := hq c2
        rw [fg_if_1 c2, if_pos c2, ez, q_nIx (by omega)]
        rw [ez, q_nIx (by omega)] at this
        exact ⟨z, this, rfl, rfl⟩
      · rw [fg_if_0 c2, if_neg c2]
        exact ⟨m, hm, rfl, rfl⟩
    obtain ⟨k2, y2, i, cc, e, f1, f2, f3, f4, f5, f6, f7, f8⟩ := CB_showF h v vp vq hM (f := 3) (by omega) hw hm2
    have f1' : fn_X7_shownOf 6 (nI w) (nI m2) (0 + 1) k = some (some (yS y2 i), k2, cc, e) := f1
    have hl := s_sh_300 (sR s) 3 w m2
    have hp2 := c_pc_fr hp f8 (by decide)
    rw [em2, f1', fg_bc_1, fg_o_1, fg_g_1 f2, f3, ci_stretch hp2 (A := A) (n := n) (by omega) (by omega) (by omega) eA en, fg_b_1]
    simp only [fg_c_1]
    refine ⟨k2, y2, cc + 0, e + 0, ?_, f4, f5, by omega, by omega, f8⟩
    rw [e_z_s c]
    unfold e_L
    rw [ew, eA, en, q_nIx (by omega), q_nIx (by omega), q_nIx (show n < 2 ^ 31 by omega), ← em3]
theorem ci_insert_27 {x r : Nat} (hx : x ≤ 32) (hF : c_F k) (hr : h_k k r = 23) {n : Nat} (hn : n < 32) (hxn : x ≤ n) (h9 : h_i k 3 9 = nI n) (hk : ∀ i c, i < n → h_r k 27 i = some c → h_k k c = 23) : ∀ (d p N : Nat) (K : h_S), x + d = p → p ≤ n → d < N → c_B k K → h_i K 3 9 = nI n → (∀ j, h_r K 27 j = if p < j ∧ j ≤ n then h_r k 27 (j - 1) else h_r k 27 j) → ∃ K2, fn_X7_insert_27 N (nI x) (some r) (nI p) K = some ((), K2) ∧ c_B k K2 ∧ h_i K2 3 9 = nI (n + 1) ∧ h_i K2 3 11 = h_i K 3 11 ∧ h_r K2 28 = h_r K 28 ∧ (∀ j, h_r K2 27 j = if j = x then some r else if x < j ∧ j ≤ n then h_r k 27 (j - 1) else h_r k 27 j) := by
  intro d
  induction d with
  | zero =>
    intro p N K hp hpn hN hB h9 hj
    obtain ⟨N, rfl⟩ : ∃ m, N = m + 1 := ⟨N - 1, by omega⟩
    obtain rfl : x = p := by omega
    show ∃ K2, fn_X7_insert_27b _ _ _ _ _ = _ ∧ _
    unfold fn_X7_insert_27b
    have kr : h_k K r = 23 := by
      by_cases e : r = 27 ∨ r = 28 ∨ r = 3
      · rcases e with rfl | rfl | rfl
        · rw [cf_k (kd := 3) hF rfl (by decide)] at hr; exact absurd hr (by decide)
        · rw [cf_k (kd := 3) hF rfl (by decide)] at hr; exact absurd hr (by decide)
        · rw [cf_k (a := 3) (kd := c_fk 3) hF rfl (by decide)] at hr; exact absurd hr (by decide)
      · rw [(hB.1 r (by omega) (by omega) (by omega)).1]; exact hr
    rw [fg_if_1 (Int32.le_refl _), fg_g_1 ((n_vp (by omega)).mpr (by omega)), fg_g_1 (fun x hx => by cases hx; exact kr), fg_let_1, fg_let_1, q_nIx (by omega), show h_i (h_sr K 27 x (some r)) 3 9 = h_i K 3 9 from rfl, h9, n_p1]
    have B1 : c_B K (h_sr K 27 x (some r)) := c_B_sr hB.2.2 (Or.inl rfl)
    refine ⟨_, rfl, c_Bt hB (c_Bt B1 (c_B_si B1.2.2 (Or.inl rfl))), by rw [h_i_si, if_pos ⟨rfl, rfl⟩], by rw [h_i_si, if_neg (by omega)]; rfl, ?_, fun j => ?_⟩
    · funext j
      show h_r (h_sr K 27 x (some r)) 28 j = _
      rw [h_r_sr, if_neg (by omega)]
    · show h_r (h_sr K 27 x (some r)) 27 j = _
      rw [h_r_sr]
      by_cases e : j = x
      · rw [if_pos ⟨rfl, e⟩, if_pos e]
      · rw [if_neg (fun w => e w.2), if_neg e, hj]
  | succ d ih =>
    intro p N K hp hpn hN hB h9' hj
    obtain ⟨N, rfl⟩ : ∃ m, N = m + 1 := ⟨N - 1, by omega⟩
    obtain ⟨p, rfl⟩ : ∃ q, p = q + 1 := ⟨p - 1, by omega⟩
    show ∃ K2, fn_X7_insert_27b (fn_X7_insert_27 N) _ _ _ _ = _ ∧ _
    unfold fn_X7_insert_27b
    have er : h_r K 27 p = h_r k 27 p := by rw [hj, if_neg (by omega)]
    rw [fg_if_0 (fun q => by have := (n_le (a := p + 1) (b := x) (by omega) (by omega)).mp q; omega), n_m1, fg_g_1 ((n_vp (by omega)).mpr (by omega)), fg_g_1 ((n_vp (by omega)).mpr (by omega)), q_nIx (by omega), q_nIx (by omega), n_pm, fg_g_1 (fun c hc => by
      rw [er] at hc
      have := hk p c (by omega) hc
      by_cases e : c = 27 ∨ c = 28 ∨ c = 3
      · rcases e with rfl | rfl | rfl
        · rw [cf_k (kd := 3) hF rfl (by decide)] at this; exact absurd this (by decide)
        · rw [cf_k (kd := 3) hF rfl (by decide)] at this; exact absurd this (by decide)
        · rw [cf_k (a := 3) (kd := c_fk 3) hF rfl (by decide)] at this; exact absurd this (by decide)
      · rw [(hB.1 c (by omega) (by omega) (by omega)).1]; exact this), fg_let_1]
    obtain ⟨K2, f1, f2, f3, f4, f5, f6⟩ := ih p N (h_sr K 27 (p + 1) (h_r K 27 p)) (by omega) (by omega) (by omega) (c_Bt hB (c_B_sr hB.2.2 (Or.inl rfl))) h9' (fun j => by
      rw [h_r_sr]
      by_cases e : j = p + 1
      · rw [if_pos ⟨rfl, e⟩, er, if_pos (by omega), e]
        rfl
      · rw [if_neg (fun w => e w.2), hj]
        by_cases e2 : p + 1 < j ∧ j ≤ n
        · rw [if_pos e2, if_pos (by omega)]
        · rw [if_neg e2, if_neg (by omega)])
    refine ⟨K2, f1, f2, f3, f4, ?_, f6⟩
    rw [f5]
    funext j
    rw [h_r_sr, if_neg (by omega)]
/-- a piece comes on the bench -/
theorem ci_insert {r : Nat} {a b : List sP} {p : sP} (hF : c_F k) (hb : c_bo k 27 0 (a ++ b)) (h9 : h_i k 3 9 = nI (a ++ b).length) (hl : (a ++ b).length < 32) (hr : c_pc k r p) : ∃ k2, fn_X7_insert (nI a.length) (some r) k = some ((), k2) ∧ c_B k k2 ∧ h_i k2 3 9 = nI (a ++ p :: b).length ∧ h_i k2 3 11 = h_i k 3 11 ∧ h_r k2 28 = h_r k 28 ∧ c_bo k2 27 0 (a ++ p :: b) := by
  have la : a.length ≤ (a ++ b).length := by rw [List.length_append]; omega
  unfold fn_X7_insert
  rw [h9, fg_if_0 (show ¬ (32 : Int32) ≤ nI (a ++ b).length from fun q => by have := (n_le (a := 32) (by omega) (by omega)).mp q; omega), fg_if_0 (n_neg (by omega)), fg_if_1 ((n_le (by omega) (by omega)).mpr la)]
  obtain ⟨k2, f1, f2, f3, f4, f5, f6⟩ := ci_insert_27 (x := a.length) (r := r) (by omega) hF hr.2.1 hl la h9 (fun i c hi hc => by
    have := hb i (a ++ b)[i] (List.getElem?_eq_getElem hi)
    rw [Nat.zero_add] at this
    obtain ⟨c2, e1, e2⟩ := this
    rw [e1] at hc
    cases hc
    exact e2.2.1) ((a ++ b).length - a.length) (a ++ b).length g_N k (by omega) (Nat.le_refl _) (by have := g_N_le; omega) (c_B0 hF) h9 (fun j => by rw [if_neg (by omega)])
  obtain ⟨b1, b2⟩ := c_bo_app.mp hb
  refine ⟨k2, f1, f2, ?_, f4, f5, c_bo_app.mpr ⟨c_bo_tr b1 (c_B_pcs f2) (fun i hi => ?_), c_bo_cons.mpr ⟨⟨r, ?_, c_B_pcs f2 r p hr⟩, c_bo_tr b2 (c_B_pcs f2) (fun i hi => ?_)⟩⟩⟩
  · rw [f3]; congr 1; rw [List.length_append, List.length_append, List.length_cons]; omega
  · rw [f6, if_neg (by omega), if_neg (by omega)]
  · rw [f6, if_pos (by omega)]
  · rw [f6, if_neg (by omega), if_pos (by rw [List.length_append]; omega)]
    congr 1
    omega
end CBe
