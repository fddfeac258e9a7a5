section CKp
variable {k k2 k3 : h_S} {s : sA} {y : c_Y} {M : Nat}
theorem sR_new_le {w : Int32} {l : List sP} {u m : Nat} (hm : m ≤ sC s 0) : sR (s_new s w l) u m = sR s u m := by
  show (if u = h_ix w ∧ sC s 0 + 1 ≤ m then l else sR s u m) = _
  rw [if_neg (by omega)]
theorem s_sh_new (vq : ivq s) (w : Int32) (l : List sP) : ∀ (f u m : Nat), m ≤ sC s 0 → s_sh (sR (s_new s w l)) f u m = s_sh (sR s) f u m := by
  intro f
  induction f with
  | zero => intro u m hm; unfold s_sh; rw [sR_new_le hm]
  | succ f ih =>
    intro u m hm
    unfold s_sh
    rw [sR_new_le hm]
    congr 1
    rw [List.flatMap_def, List.flatMap_def]
    congr 1
    apply List.map_congr_left
    intro p hp
    by_cases c : p.1 < 2
    · rw [if_pos c, if_pos c]
    · rw [if_neg c, if_neg c, ih]
      by_cases c2 : p.1 = 2
      · rw [if_pos c2]; exact Nat.le_trans (vq u m p hp c2) hm
      · rw [if_neg c2]; exact hm
/-- a writing has a new row from the next moment on -/
theorem CB_row (h : CBM k s (sC s 0) y) (v : ivc s) (v0 : sC s 0 < 512) (vq : ivq s) (vv : ivv s) {w q b : Nat} {l : List sP} (hw : w < sC s 2) (hF : c_F k2) (fr : ∀ a, h_k k a ≠ 0 ∨ a < 128 → a ≠ 16 → c_eq k k2 a) (r16 : ∀ j, h_r k2 16 j = if j = w then some q else h_r k 16 j) (q4 : c_tg 4 q) (kq : h_k k2 q = 25) (iq : h_i k2 q 0 = nI (sC s 0 + 1)) (rq1 : h_r k2 q 1 = some b) (rq2 : h_r k2 q 2 = h_r k 16 w) (hb : c_ps k2 b l) : CBM k2 (s_new s (nI w) l) (sC s 0 + 1) (yUH y w ((sC s 0 + 1, l) :: yH y w)) := by
  have v2 := v.2.2.1
  have g : c_ag ((List.range 60).filter (fun a => a != 16)) [1, 2, 3, 4, 5, 6, 7, 8, 9, 10, 11, 12, 13, 14] k k2 := by
    refine ⟨fun a ha => ?_, fun a ha _ hk => fr a (Or.inl hk) (by omega)⟩
    have h1 := List.mem_filter.mp ha
    have h2 := List.mem_range.mp h1.1
    exact fr a (Or.inr (by omega)) (fun e => by rw [e] at h1; exact absurd h1.2 (by decide))
  obtain ⟨_, h2, h3, h4, d1, d2, d3, d4, d5, d6, d7, d8, d9, d10⟩ := h
  refine ⟨hF, ?_, ?_, ?_, KL_fr d1 g (by decide) (by decide) (fun _ _ => rfl), KW_fr d2 g (by decide) (by decide) rfl (fun _ _ => rfl), KV_fr d3 g (by decide) (by decide) rfl (fun _ _ => rfl) (fun i hi => ?_), KC_fr d4 g (by decide) (by decide) rfl (fun _ _ => rfl) rfl, KK_fr d5 g (by decide) (by decide) rfl (fun _ _ => rfl), KR_fr d6 g (by decide) rfl (fun _ _ => rfl), KT_fr d7 g (by decide) (fun _ _ => rfl), KH_fr d8 g (by decide) rfl (fun _ _ => rfl), ?_, KX_fr d10 g (by decide) (by decide) (by decide) (by omega) (Nat.le_refl _) (fun f u m _ _ hm => s_sh_new vq (nI w) l f u m hm)⟩
  · unfold KN at *
    rw [(g.1 0 (by decide)).2.2.1, (g.1 3 (by decide)).2.2.1]
    exact h2
  · refine ⟨?_, ?_, ?_⟩
    · rw [(g.1 1 (by decide)).2.2.1]; exact h3.1
    · rw [(g.1 15 (by decide)).2.2.1]; exact h3.2.1
    · rw [(g.1 11 (by decide)).2.2.1]; exact h3.2.2
  · unfold KG
    rw [(g.1 2 (by decide)).2.2.1]
    exact h4
  · obtain ⟨⟨u, m, _, hm, e1, e2⟩, _⟩ := vv i hi
    refine s_sh_new vq (nI w) l 4 _ _ ?_
    rw [e2, q_nIx (by omega)]
    exact hm
  · intro u hu
    have hu : u < sC s 2 := hu
    rw [yH_UH, r16]
    by_cases e : u = w
    · rw [if_pos e, if_pos e]
      obtain ⟨a1, a2, a3⟩ := d9 w hw
      refine ⟨⟨by simp, ?_⟩, ⟨q, b, rfl, q4, kq, by omega, iq, rq1, hb, by rw [rq2]; exact c_ch_fr g (by decide) (by decide) (by decide) (by decide) _ _ a2⟩, fun m => ?_⟩
      · have := a1.2
        rw [List.length_cons]
        omega
      · show (if u = h_ix (nI w) ∧ sC s 0 + 1 ≤ m then l else sR s u m) = (if sC s 0 + 1 ≤ m then l else s_lk (yH y w) m)
        rw [q_nIx (by omega), e]
        by_cases c : sC s 0 + 1 ≤ m
        · rw [if_pos ⟨rfl, c⟩, if_pos c]
        · rw [if_neg (fun q => c q.2), if_neg c]; exact a3 m
    · rw [if_neg e, if_neg e]
      obtain ⟨a1, a2, a3⟩ := d9 u hu
      refine ⟨⟨a1.1, by have := a1.2; omega⟩, c_ch_fr g (by decide) (by decide) (by decide) (by decide) _ _ a2, fun m => ?_⟩
      show (if u = h_ix (nI w) ∧ sC s 0 + 1 ≤ m then l else sR s u m) = _
      rw [q_nIx (by omega), if_neg (fun q => e q.1)]
      exact a3 m
/-- the new Row's object -/
theorem ci_rowobj {q w b : Nat} (hF : c_F k) (eq : c_ad 4 k = q) (hb : h_k k b ≠ 0 ∨ b < 128) (x : Int32) (hw : w < 12) : ∃ K2, fn_X4_init q x (some b) (h_r k 16 w) (h_nw k q 25 3) = some ((), K2) ∧ c_F (h_sr K2 16 w (some q)) ∧ (∀ a, h_k k a ≠ 0 ∨ a < 128 → a ≠ 16 → c_eq k (h_sr K2 16 w (some q)) a) ∧ (∀ j, h_r (h_sr K2 16 w (some q)) 16 j = if j = w then some q else h_r k 16 j) ∧ c_tg 4 q ∧ h_k (h_sr K2 16 w (some q)) q = 25 ∧ h_i (h_sr K2 16 w (some q)) q 0 = x ∧ h_r (h_sr K2 16 w (some q)) q 1 = some b ∧ h_r (h_sr K2 16 w (some q)) q 2 = h_r k 16 w ∧ h_k K2 q = 25 := by
  have q0 : h_k k q = 0 := by rw [← eq]; exact cf_z hF rfl
  have q8 : c_tg 4 q := by rw [← eq]; unfold c_tg c_ad; omega
  have F5 : c_F (h_nw k q 25 3) := cf_nw hF eq.symm (by decide)
  have kq : h_k (h_nw k q 25 3) q = 25 := by rw [h_k_nw, if_pos rfl]
  have n16 : q ≠ 16 := by have := q8.1; omega
  unfold fn_X4_init
  rw [fg_g_1 kq]
  simp only [fg_let_1]
  have F6 : c_F (h_si (h_nw k q 25 3) q 0 x) := F5
  have F7 : c_F (h_sr (h_si (h_nw k q 25 3) q 0 x) q 1 (some b)) := cf_sr (kd := 25) F6 kq (by decide) _
  have F8 : c_F (h_sr (h_sr (h_si (h_nw k q 25 3) q 0 x) q 1 (some b)) q 2 (h_r k 16 w)) := cf_sr (kd := 25) F7 kq (by decide) _
  have k16 : h_k (h_sr (h_sr (h_si (h_nw k q 25 3) q 0 x) q 1 (some b)) q 2 (h_r k 16 w)) 16 = c_fk 16 := cf_k F8 rfl (by decide)
  refine ⟨_, rfl, cf_sr (kd := c_fk 16) F8 k16 (by decide) _, fun a ha h16 => ?_, fun j => ?_, q8, kq, ?_, ?_, ?_, kq⟩
  · have n : a ≠ q := fun e => by
      rcases ha with w | w
      · exact w (by rw [e]; exact q0)
      · have := q8.1; omega
    exact c_eqt (c_eqt (c_eqt (c_eqt (c_eq_nw n) (c_eq_si n)) (c_eq_sr n)) (c_eq_sr n)) (c_eq_sr h16)
  · rw [h_r_sr]
    by_cases e : j = w
    · rw [if_pos ⟨rfl, e⟩, if_pos e]
    · rw [if_neg (fun z => e z.2), if_neg e, h_r_sr, if_neg (fun z => n16 z.1.symm), h_r_sr, if_neg (fun z => n16 z.1.symm)]
      show h_r (h_nw k q 25 3) 16 j = _
      rw [h_r_nw, if_neg (fun z => n16 z.symm)]
  · show h_i (h_si (h_nw k q 25 3) q 0 x) q 0 = x
    rw [h_i_si, if_pos ⟨rfl, rfl⟩]
  · rw [h_r_sr, if_neg (fun z => n16 z.1), h_r_sr, if_neg (by omega), h_r_sr, if_pos ⟨rfl, rfl⟩]
  · rw [h_r_sr, if_neg (fun z => n16 z.1), h_r_sr, if_pos ⟨rfl, rfl⟩]
theorem ci_keepLaid_33 (h : CBM k s (sC s 0) y) (v : ivc s) (v0 : sC s 0 < 512) (vq : ivq s) (vv : ivv s) {w q : Nat} {l : List sP} (hw : w < sC s 2) (hl : l.length ≤ 24) (hq5 : c_tg 5 q) (q0 : h_k k q = 0) (hb : c_bo k 27 0 l) (h9 : h_i k 3 9 = nI l.length) : ∀ (d j N : Nat) (K : h_S), j + d = l.length → d < N → c_F K → (∀ a, h_k k a ≠ 0 ∨ a < 128 → c_eq k K a) → h_k K q = 3 → h_n K q = l.length → (∀ i, i < j → h_r K q i = h_r k 27 i) → ∃ K2, fn_X7_keepLaid_33 N (nI w) (nI (sC s 0 + 1)) q (nI j) K = some (1, K2, 1, 3) ∧ CBM K2 (s_new s (nI w) l) (sC s 0 + 1) (yUH y w ((sC s 0 + 1, l) :: yH y w)) := by
  have v2 := v.2.2.1
  intro d
  induction d with
  | zero =>
    intro j N K hj hN hF fr kq nq rq
    obtain ⟨N, rfl⟩ : ∃ m, N = m + 1 := ⟨N - 1, by omega⟩
    show ∃ K2, fn_X7_keepLaid_33b _ _ _ _ _ _ = _ ∧ _
    unfold fn_X7_keepLaid_33b
    have e9 : h_i K 3 9 = nI l.length := by rw [(fr 3 (Or.inr (by omega))).2.2.1]; exact h9
    obtain ⟨q3, eq3⟩ : ∃ q3, c_ad 4 K = q3 := ⟨_, rfl⟩
    rw [e9, fg_if_1 ((n_le (by omega) (by omega)).mpr (by omega)), fg_let_1, fg_let_1, eq3]
    have z3 : h_k K q3 = 0 := by rw [← eq3]; exact cf_z hF rfl
    have z3' : 128 ≤ q3 := by rw [← eq3]; unfold c_ad; omega
    have e16 : h_r (h_nw K q3 25 3) 16 = h_r K 16 := by funext j; rw [h_r_nw, if_neg (by omega)]
    obtain ⟨K2, f1, f2, f3, f4, f5, f6, f7, f8, f9, f10⟩ := ci_rowobj (w := w) hF eq3 (b := q) (Or.inl (by rw [kq]; decide)) (nI (sC s 0 + 1)) (by omega)
    rw [fg_g_1 ((n_vp (by omega)).mpr (by omega)), q_nIx (by omega), e16, f1, fg_b_1, fg_g_1 ((n_vp (by omega)).mpr (by omega)), fg_g_1 f10, fg_let_1]
    simp only [fg_c_1]
    have rk16 : h_r K 16 = h_r k 16 := (fr 16 (Or.inr (by omega))).2.2.2
    have nq3 : q ≠ q3 := fun e => by rw [e, z3] at kq; exact absurd kq (by decide)
    have n16 : q ≠ 16 := by have := hq5.1; omega
    have eqq := f3 q (Or.inl (by rw [kq]; decide)) n16
    refine ⟨_, rfl, CB_row (b := q) h v v0 vq vv hw f2 (fun a ha h16 => c_eqt (fr a ha) (f3 a (by
      rcases ha with z | z
      · left; rw [(fr a (Or.inl z)).1]; exact z
      · exact Or.inr z) h16)) (fun i => by rw [f4, rk16]) f5 f6 f7 f8 (by rw [f9, rk16]) ⟨Or.inr hq5, by rw [eqq.1]; exact kq, by rw [eqq.2.1]; exact nq, fun i p hp => ?_⟩⟩
    have hi : i < l.length := by
      rcases Nat.lt_or_ge i l.length with z | z
      · exact z
      · rw [List.getElem?_eq_none z] at hp; cases hp
    obtain ⟨c, c1, c2⟩ := hb i p hp
    rw [Nat.zero_add] at c1
    have c128 := c2.1.1
    have cn : h_k k c ≠ 0 := by rw [c2.2.1]; decide
    have e1 := fr c (Or.inl cn)
    have e2 := f3 c (Or.inl (by rw [e1.1]; exact cn)) (by omega)
    refine ⟨c, by rw [eqq.2.2.2, rq i (by omega)]; exact c1, ?_⟩
    unfold c_pc at *
    rw [e2.1, e2.2.2.1, e1.1, e1.2.2.1]
    exact c2
  | succ d ih =>
    intro j N K hj hN hF fr kq nq rq
    obtain ⟨N, rfl⟩ : ∃ m, N = m + 1 := ⟨N - 1, by omega⟩
    have hj2 : j < l.length := by omega
    show ∃ K2, fn_X7_keepLaid_33b (fn_X7_keepLaid_33 N) _ _ _ _ _ = _ ∧ _
    unfold fn_X7_keepLaid_33b
    have e9 : h_i K 3 9 = nI l.length := by rw [(fr 3 (Or.inr (by omega))).2.2.1]; exact h9
    obtain ⟨c, c1, c2⟩ := hb j _ (List.getElem?_eq_getElem hj2)
    rw [Nat.zero_add] at c1
    have e27 : h_r K 27 j = some c := by rw [(fr 27 (Or.inr (by omega))).2.2.2]; exact c1
    have cn : h_k k c ≠ 0 := by rw [c2.2.1]; decide
    have e1 := fr c (Or.inl cn)
    rw [e9, fg_if_0 (fun z => by have := (n_le (a := l.length) (b := j) (by omega) (by omega)).mp z; omega), fg_g_1 ((n_vp (by omega)).mpr (by omega)), fg_g_1 kq, nq, fg_g_1 ((n_vp (by omega)).mpr hj2), q_nIx (by omega), e27, fg_g_1 (fun x hx => by cases hx; rw [e1.1]; exact c2.2.1), fg_let_1, n_p1]
    refine ih (j + 1) N _ (by omega) (by omega) (cf_sr (kd := 3) hF kq (by decide) _) (fun a ha => c_eqt (fr a ha) (c_eq_sr (fun e => ?_))) kq nq (fun i hi => ?_)
    · rcases ha with z | z
      · exact z (by rw [e]; exact q0)
      · have := hq5.1; omega
    · rw [h_r_sr]
      by_cases e : i = j
      · rw [if_pos ⟨rfl, e⟩, e, c1]
      · rw [if_neg (fun z => e z.2)]
        exact rq i (by omega)
theorem ci_keepLaid (h : CBM k s (sC s 0) y) (v : ivc s) (v0 : sC s 0 < 512) (vq : ivq s) (vv : ivv s) {w : Nat} {l : List sP} (hw : w < sC s 2) (hl : l.length ≤ 32) (hb : c_bo k 27 0 l) (h9 : h_i k 3 9 = nI l.length) : ∃ k2 c e, fn_X7_keepLaid (nI w) (nI (sC s 0 + 1)) k = some (q_b (l.length ≤ 24), k2, c, e) ∧ c ≤ 2 ∧ e ≤ 27 ∧ (l.length ≤ 24 → CBM k2 (s_new s (nI w) l) (sC s 0 + 1) (yUH y w ((sC s 0 + 1, l) :: yH y w))) ∧ (¬ l.length ≤ 24 → k2 = k) := by
  have v2 := v.2.2.1
  have hF := h.1
  unfold fn_X7_keepLaid
  rw [h9]
  by_cases c : l.length ≤ 24
  · have c' : ¬ (24 : Int32) < nI l.length := fun z => by have := (n_lt (a := 24) (by omega) (by omega)).mp z; omega
    rw [fg_if_0 c', q_b1 c, h.2.1.2.2.1, ci_withinN _ (by omega), fg_b_1, q_b_if, fg_if_1 ((n_inI (by omega)).mpr hw), h9, q_nIx (by omega), fg_g_1 (n_neg (by omega)), fg_g_1 (by omega), fg_let_1, fg_let_1]
    obtain ⟨q, eq⟩ : ∃ q, c_ad 5 k = q := ⟨_, rfl⟩
    rw [eq]
    have q0 : h_k k q = 0 := by rw [← eq]; exact cf_z hF rfl
    have q8 : c_tg 5 q := by rw [← eq]; unfold c_tg c_ad; omega
    obtain ⟨K2, f1, f2⟩ := ci_keepLaid_33 h v v0 vq vv hw c q8 q0 hb h9 l.length 0 g_N (h_nw k q 3 l.length) (by omega) (by have := g_N_le; omega) (cf_nw hF eq.symm (by decide)) (fun a ha => c_eq_nw (fun e => by
      rcases ha with z | z
      · exact z (by rw [e]; exact q0)
      · have := q8.1; omega)) (by rw [h_k_nw, if_pos rfl]) (by rw [h_n_nw, if_pos rfl]) (fun i hi => absurd hi (Nat.not_lt_zero _))
    have f1' : fn_X7_keepLaid_33 g_N (nI w) (nI (sC s 0 + 1)) q 0 (h_nw k q 3 l.length) = some (1, K2, 1, 3) := f1
    rw [f1']
    simp only [fg_c_1]
    exact ⟨K2, _, _, rfl, by omega, by omega, fun _ => f2, fun z => absurd c z⟩
  · have c' : (24 : Int32) < nI l.length := (n_lt (a := 24) (by omega) (by omega)).mpr (by omega)
    rw [fg_if_1 c', q_b0 c]
    exact ⟨k, 0, 0, rfl, by omega, by omega, fun z => absurd z c, fun _ => rfl⟩
/-- how many pieces the newest row has -/
theorem ci_pcNew (h : CBM k s M y) (v : ivc s) {w m : Nat} {l : List sP} {t : List (Nat × List sP)} (hw : w < sC s 2) (hy : yH y w = (m, l) :: t) : fn_X7_pieceCount (nI w) k = some (nI l.length, k) := by
  have v2 := v.2.2.1
  obtain ⟨_, a2, _⟩ := h.2.2.2.2.2.2.2.2.2.2.2.2.1 w hw
  rw [hy] at a2
  obtain ⟨a, b, g1, _, g2, _, _, g3, g4, _⟩ := a2
  have i1 : vp_in (nI w) 12 := (n_vp (by omega)).mpr (by omega)
  have n : ¬ (some a = none) := by simp
  unfold fn_X7_pieceCount
  rw [h.2.1.2.2.1, ci_withinN _ (by omega), fg_b_1, q_b_if, fg_if_1 ((n_inI (by omega)).mpr hw), fg_g_1 i1, q_nIx (by omega), g1, fg_if_0 n, fg_g_1 i1, fg_o_1, fg_g_1 g2, g3, fg_o_1, fg_g_1 g4.2.1, g4.2.2.1]
  rfl
theorem zC_UH {w : Nat} {l : List (Nat × List sP)} : zC (yUH y w l) = zC y ∧ zD (yUH y w l) = zD y := ⟨rfl, rfl⟩
end CKp
