theorem h_ushr22 (x : Int32) : ∃ i, i < 1024 ∧ h_ushr x 22 = nI i := by
  refine ⟨x.toUInt32.toNat >>> 22, ?_, ?_⟩
  · rw [Nat.shiftRight_eq_div_pow]
    have := x.toUInt32.toNat_lt
    omega
  · unfold h_ushr
    have e : (x.toUInt32 >>> ((22 : Int32).toUInt32 &&& Int32.toUInt32 31)) = UInt32.ofNat (x.toUInt32.toNat >>> 22) := by
      apply UInt32.toNat_inj.mp
      rw [UInt32.toNat_shiftRight, UInt32.toNat_ofNat']
      have e1 : ((22 : Int32).toUInt32 &&& Int32.toUInt32 31).toNat % 32 = 22 := by decide
      rw [e1]
      have := x.toUInt32.toNat_lt
      rw [Nat.shiftRight_eq_div_pow, Nat.mod_eq_of_lt (by omega)]
    rw [e]
    rfl
section CX
variable {k : h_S} {s : sA} {y : c_Y} {M : Nat} {C : Int32 → Int32 → Int32 → h_S → fg_R (Option Nat) h_S}
theorem ci_46 (v : ivc s) (vp : ivp s) (vq : ivq s) {f : Nat} (hf : f ≤ 4) (hC : ∀ f2, f = f2 + 1 → c_SH s M f2 C) (h : TXT k s M y) {i w m : Nat} (hi : i < 1024) (hc : yC y i ≠ 0) (hw : w < sC s 2) (hm : m ≤ M) (hM : M ≤ 600) : ∃ k2 y2 c e, fn_X7_shownOf_46 C (nI w) (nI m) (nI (4 - f)) (nI ((m * 12 + w) * 5 + (4 - f))) (nI i) k = some (some (yS y2 i), k2, c, e) ∧ yC y2 i ≠ 0 ∧ h_i k2 (yS y2 i) 1 = nI (s_sh (sR s) f w m).length ∧ (s_sh (sR s) f w m).length ≤ h_n k2 (yB y2 i) ∧ (∀ (j : Nat) (x : Int32), (s_sh (sR s) f w m)[j]? = some x → h_i k2 (yB y2 i) j = x) ∧ TXT k2 s M y2 ∧ y_le y y2 ∧ c + zC y2 ≤ zC y ∧ e + zD y2 ≤ zD y ∧ c_ag (c_fxS f) c_tgS k k2 := by
  have v2 := v.2.2.1
  obtain ⟨h20, hsl⟩ : h_r k 20 i = some (yS y i) ∧ c_sl k s M (yS y i) (yB y i) (yC y i) := by
    rcases h.2.2.2.1 i hi with ⟨e, _⟩ | ⟨_, e1, e2⟩
    · exact absurd e hc
    · exact ⟨e1, e2⟩
  unfold fn_X7_shownOf_46
  rw [fg_g_1 ((n_vp (by omega)).mpr hi), q_nIx (by omega), h20, fg_o_1, fg_g_1 hsl.2.1]
  by_cases ck : h_i k (yS y i) 0 = nI ((m * 12 + w) * 5 + (4 - f))
  · rw [fg_if_1 ck]
    refine ⟨k, y, 0, 0, rfl, hc, ?_, ?_, ?_, h, y_le0, by omega, by omega, c_ag0⟩
    all_goals
      obtain ⟨_, _, _, _, _, _, _, a8⟩ := hsl
      rcases a8 with a8 | ⟨f', w', m', b1, b2, b3, b4, b5, b6, b7⟩
      · rw [a8] at ck
        have := congrArg Int32.toInt ck
        rw [q_nI (by omega)] at this
        have e9 : (-9 : Int32).toInt = -9 := rfl
        omega
      · rw [ck] at b4
        have e := (n_eq (by omega) (by omega)).mp b4
        obtain rfl : f = f' := by omega
        obtain rfl : w = w' := by omega
        obtain rfl : m = m' := by omega
        first
          | exact b5
          | exact b6
          | exact b7
  · rw [fg_if_0 ck]
    have e8 : h_max (0 : Int32) (h_min (nI (4 - f)) (4 : Int32)) = nI (4 - f) := by
      rw [show (4 : Int32) = nI 4 from rfl, n_min _ _ (by omega) (by omega), show (0 : Int32) = nI 0 from rfl, n_max _ _ (by omega) (by omega)]
      congr 1
      omega
    obtain ⟨b, e1, e2⟩ := ci_piecesAsOf h v hw (show m ≤ 600 by omega)
    rw [fg_let_1, e8, e1, fg_b_1]
    obtain ⟨k1, y1, c1, d1, f1, f2, f3, f4, f5, f6, f7⟩ := ci_shownOf_90 v hf hC (m := m) (b := b) (a5 := yS y i) (key := nI ((m * 12 + w) * 5 + (4 - f))) (P := sR s w m) (vp w m).1 (vp w m).2 (vq w m) hm hM (sR s w m).length 0 g_N k y (by omega) (by omega) (by have := (vp w m).1; have := g_N_le; omega) h e2 (fun j x hj => by simp at hj)
    have f1' : fn_X7_shownOf_90 C g_N (nI m) (nI ((m * 12 + w) * 5 + (4 - f))) (some (yS y i)) (nI (4 - f)) (some b) 0 0 k = _ := f1
    rw [f1', ← s_sh_pp]
    rw [← s_sh_pp] at f2
    obtain ⟨g1, g2⟩ := f4.2.2.2 i hc
    obtain ⟨k2, b2, c2, c3, d3, q1, q2, q3, q4, q5, q6, q7, q8, q9⟩ := ci_keep (C := C) f3 hi g1 hf hw hm f2
    rw [g2] at q1 q2 q4 q7 q8
    rw [q1, fg_c_1]
    refine ⟨k2, y_sl y1 i (yS y i) b2 c2, c1 + c3, d1 + d3, ?_, ?_, ?_, ?_, ?_, q2, ?_, by omega, by omega, c_agt f7 q9⟩
    · rw [yS_sl, if_pos rfl]
    · rw [yC_sl, if_pos rfl]; exact q3
    · rw [yS_sl, if_pos rfl]; exact q4
    · rw [yB_sl, if_pos rfl]; exact q5
    · rw [yB_sl, if_pos rfl]; exact q6
    · refine y_let f4 ⟨rfl, rfl, rfl, fun j hj => ?_⟩
      rw [yC_sl, yS_sl]
      by_cases e : j = i
      · rw [if_pos e, if_pos e, e]; exact ⟨q3, g2.symm⟩
      · rw [if_neg e, if_neg e]; exact ⟨hj, rfl⟩
/-- showing -/
theorem ci_SH1 (v : ivc s) (vp : ivp s) (vq : ivq s) {f : Nat} (hf : f ≤ 4) (hM : M ≤ 600) (hC : ∀ f2, f = f2 + 1 → c_SH s M f2 C) : c_SH s M f (fnx_X7_shownOf C) := by
  intro k y w m h hw hm
  have v2 := v.2.2.1
  have ekey : (((nI m * (12 : Int32)) + nI w) * (5 : Int32)) + nI (4 - f) = nI ((m * 12 + w) * 5 + (4 - f)) := by
    rw [show (12 : Int32) = nI 12 from rfl, show (5 : Int32) = nI 5 from rfl, n_mul, n_add, n_mul, n_add]
  obtain ⟨i, hi, ei⟩ := h_ushr22 (nI ((m * 12 + w) * 5 + (4 - f)) * (-1640531535 : Int32))
  have vi : vp_in (nI i) 1024 := (n_vp (by omega)).mpr hi
  unfold fnx_X7_shownOf
  rw [fg_let_1, fg_let_1, ekey, ei, fg_g_1 vi, q_nIx (by omega)]
  by_cases c0 : yC y i = 0
  · -- a slot that has nothing yet
    have h20 : h_r k 20 i = none := by
      rcases h.2.2.2.1 i hi with ⟨_, e⟩ | ⟨e, _⟩
      · exact e
      · exact absurd c0 e
    rw [fg_if_1 h20, fg_let_1, fg_let_1]
    generalize hq : c_ad 2 k = q
    have hqz : h_k k q = 0 := cf_z h.1 hq.symm
    have hqt : c_tg 2 q := by rw [← hq]; unfold c_ad c_tg; omega
    have hq128 := hqt.1
    unfold fn_X6_init
    have e27 : h_k (h_nw k q 27 3) q = 27 := by rw [h_k_nw, if_pos rfl]
    rw [fg_g_1 e27, fg_let_1, fg_let_1]
    generalize hp : c_ad 3 (h_si (h_nw k q 27 3) q 0 (-9)) = p
    have hpq : p = q + 17 := by rw [← hp, ← hq]; unfold c_ad h_si h_nw; simp; omega
    have F1 : c_F (h_nw k q 27 3) := cf_nw h.1 hq.symm (by decide)
    have F1' : c_F (h_si (h_nw k q 27 3) q 0 (-9)) := F1
    have hpz : h_k (h_si (h_nw k q 27 3) q 0 (-9)) p = 0 := cf_z F1' hp.symm
    have hpk : h_k k p = 0 := by
      have : h_k (h_nw k q 27 3) p = 0 := hpz
      rw [h_k_nw, if_neg (by omega)] at this
      exact this
    have hpt : c_tg 3 p := by rw [hpq]; have := hqt.2; unfold c_tg; omega
    rw [fg_let_1, fg_let_1, fg_c_1, fg_bc_1]
    generalize hk1 : h_sr (h_nw (h_si (h_nw k q 27 3) q 0 (-9)) p 1 0) q 2 (some p) = k0
    have F2 : c_F k0 := by
      rw [← hk1]
      exact cf_sr (cf_nw F1' hp.symm (by decide)) (kd := 27) (by rw [h_k_nw, if_neg (by omega)]; exact e27) (by decide) 2
    have m1 : ∀ c, h_k k0 c = if c = p then 1 else if c = q then 27 else h_k k c := fun c => by rw [← hk1]; rfl
    have F3 : c_F (h_sr k0 20 i (some q)) := cf_sr F2 (kd := 6) (by rw [m1, if_neg (by omega), if_neg (by omega)]; exact cf_k (a := 20) h.1 rfl (by decide)) (by decide) i
    have e27b : h_k k0 q = 27 := by rw [m1, if_neg (by omega), if_pos rfl]
    rw [fg_g_1 vi, fg_g_1 e27b, fg_let_1]
    have eq0 : ∀ c, c ≠ p → c ≠ q → c ≠ 20 → c_eq k (h_sr k0 20 i (some q)) c := fun c h1 h2 h3 => by
      rw [← hk1]
      exact c_eqt (c_eq_nw h2) (c_eqt (c_eq_si h2) (c_eqt (c_eq_nw h1) (c_eqt (c_eq_sr h2) (c_eq_sr h3))))
    have ag : ∀ (fx tg : List Nat), (∀ b, b ∈ fx → b < 128 ∧ b ≠ 20) → c_ag fx tg k (h_sr k0 20 i (some q)) := fun fx tg hfx => ⟨fun b hb => by
      have := hfx b hb
      exact eq0 b (by omega) (by omega) (by omega), fun b hb _ hk => eq0 b (fun e => hk (by rw [e]; exact hpk)) (fun e => hk (by rw [e]; exact hqz)) (by omega)⟩
    have hT1 : TXT (h_sr k0 20 i (some q)) s M (y_sl y i q p 1) := by
      refine TXT_slot h hi F3 (by omega) (ag _ _ (by decide)) (fun j => ?_) ?_ (fun j hj hji hjc => ?_)
      · rw [h_r_sr]
        by_cases e : j = i
        · rw [if_pos ⟨rfl, e⟩, if_pos e]
        · rw [if_neg (fun w => e w.2), if_neg e, ← hk1, h_r_sr, if_neg (by omega), h_r_nw, if_neg (by omega)]
          show h_r (h_nw k q 27 3) 20 j = _
          rw [h_r_nw, if_neg (by omega)]
      · refine ⟨hqt, e27b, ?_, hpt, ?_, ?_, ?_, Or.inl ?_⟩
        · rw [h_r_sr, if_neg (by omega), ← hk1, h_r_sr, if_pos ⟨rfl, rfl⟩]
        · show h_k k0 p = 1
          rw [m1, if_pos rfl]
        · show h_n k0 p + 1 = 1
          rw [← hk1]
          show h_n (h_nw (h_si (h_nw k q 27 3) q 0 (-9)) p 1 0) p + 1 = 1
          rw [h_n_nw, if_pos rfl]
        · show h_n k0 p ≤ 300
          rw [← hk1]
          show h_n (h_nw (h_si (h_nw k q 27 3) q 0 (-9)) p 1 0) p ≤ 300
          rw [h_n_nw, if_pos rfl]; omega
        · rw [h_i_sr, ← hk1, h_i_sr, h_i_nw, if_neg (by omega), h_i_si, if_pos ⟨rfl, rfl⟩]
      · rcases h.2.2.2.1 j hj with ⟨e, _⟩ | ⟨_, _, e⟩
        · exact absurd e hjc
        · have n1 : yS y j ≠ q := fun w => by have := e.2.1; rw [w, hqz] at this; exact absurd this (by decide)
          have n2 : yB y j ≠ q := fun w => by have := e.2.2.2.2.1; rw [w, hqz] at this; exact absurd this (by decide)
          have n3 : yS y j ≠ p := fun w => by have := e.2.1; rw [w, hpk] at this; exact absurd this (by decide)
          have n4 : yB y j ≠ p := fun w => by have := e.2.2.2.2.1; rw [w, hpk] at this; exact absurd this (by decide)
          have t1 := e.1.1
          have t2 := e.2.2.2.1.1
          exact ⟨eq0 _ n3 n1 (by omega), eq0 _ n4 n2 (by omega), n1, n4⟩
    obtain ⟨k2, y2, c, d, f1, f2, f3, f4, f5, f6, f7, f8, f9, f10⟩ := ci_46 v vp vq hf hC hT1 hi (by rw [yC_sl, if_pos rfl]; decide) hw hm hM
    rw [f1, fg_c_1, fg_c_1]
    have hz := z_sl (y := y) i q p 1 hi
    have zc0 : z_c (yC y i) = 303 := by rw [c0]; rfl
    have zd0 : z_d (yC y i) = 903 := by rw [c0]; rfl
    have zc1 : z_c 1 = 300 := rfl
    have zd1 : z_d 1 = 900 := rfl
    refine ⟨k2, y2, i, _, _, rfl, hi, f2, f3, f4, f5, f6, ?_, by omega, by omega, c_agt (ag _ _ (fun b hb => by have := c_fxS_lt hb; omega)) f10⟩
    refine y_let (y2 := y_sl y i q p 1) ⟨rfl, rfl, rfl, fun j hj => ?_⟩ f7
    have : j ≠ i := fun e => hj (by rw [e]; exact c0)
    rw [yC_sl, yS_sl, if_neg this, if_neg this]
    exact ⟨hj, rfl⟩
  · have h20 : h_r k 20 i = some (yS y i) := by
      rcases h.2.2.2.1 i hi with ⟨e, _⟩ | ⟨_, e, _⟩
      · exact absurd e c0
      · exact e
    have n20 : ¬ h_r k 20 i = none := by rw [h20]; simp
    rw [fg_if_0 n20]
    obtain ⟨k2, y2, c, d, f1, f2, f3, f4, f5, f6, f7, f8, f9, f10⟩ := ci_46 v vp vq hf hC h hi c0 hw hm hM
    exact ⟨k2, y2, i, c, d, f1, hi, f2, f3, f4, f5, f6, f7, f8, f9, f10⟩
theorem ci_SH (v : ivc s) (vp : ivp s) (vq : ivq s) (hM : M ≤ 600) : ∀ f d, f ≤ 4 → f < d → c_SH s M f (fn_X7_shownOf d) := by
  intro f
  induction f with
  | zero =>
    intro d hf hd
    obtain ⟨d, rfl⟩ : ∃ z, d = z + 1 := ⟨d - 1, by omega⟩
    exact ci_SH1 v vp vq hf hM (fun f2 e => by omega)
  | succ f ih =>
    intro d hf hd
    obtain ⟨d, rfl⟩ : ∃ z, d = z + 1 := ⟨d - 1, by omega⟩
    exact ci_SH1 v vp vq hf hM (fun f2 e => (show f = f2 by omega) ▸ ih d (by omega) (by omega))
end CX
