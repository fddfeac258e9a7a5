section CW
variable {k k2 : h_S} {s : sA} {y : c_Y} {M : Nat} {C : Int32 → Int32 → Int32 → h_S → fg_R (Option Nat) h_S}
theorem c_ag_afT {fx tg : List Nat} {a t : Nat} {g : Nat → Int32} (h1 : c_tg t a) (h2 : t ∉ tg) (hfx : ∀ b, b ∈ fx → b < 128) : c_ag fx tg k (h_af k a g) := ⟨fun b hb => c_eq_af (by have := hfx b hb; have := h1.1; omega), fun b hb ht _ => c_eq_af (fun e => h2 (by rw [← h1.2, ← e]; exact ht))⟩
theorem c_fxS_128 {f a : Nat} (h : a ∈ c_fxS f) : a < 128 := by have := (c_fxS_lt h).1; omega
/-- what keep leaves -/
def c_kp (k : h_S) (a b d z : Nat) (key : Int32) : h_S := h_si (h_si (h_af k b (va_cpy (h_i k d) (h_i k b) 0 0 z)) a 1 (nI z)) a 0 key
theorem ci_keep_32 {a b d z : Nat} {key : Int32} (ha : h_k k a = 27) (hr : h_r k a 2 = some b) (hb : h_k k b = 1) (hd : h_k k d = 1) (hz : z ≤ 300) (h1 : z ≤ h_n k d) (h2 : z ≤ h_n k b) : fn_X6_keep_32 a key (some d) (nI z) k = some ((), c_kp k a b d z key, 0, 0) := by
  have d0 : ¬ (0 : Int32) < 0 := by decide
  have d1 : ¬ nI z < 0 := n_neg (by omega)
  have e0 : h_ix (0 : Int32) = 0 := rfl
  have ez : h_ix (nI z) = z := q_nIx (by omega)
  unfold fn_X6_keep_32 c_kp
  rw [fg_g_1 ha, hr, fg_o_1, fg_g_1 hb, fg_o_1, fg_g_1 hd, fg_g_1 d0, fg_g_1 d0, fg_g_1 d1, e0, ez, fg_g_1 (by omega), fg_g_1 (by omega), fg_let_1, fg_let_1, fg_let_1, h_cp_af]
theorem c_kp_i {a b d z : Nat} {key : Int32} (hab : a ≠ b) (c j : Nat) : h_i (c_kp k a b d z key) c j = if c = a then (if j = 0 then key else if j = 1 then nI z else h_i k a j) else if c = b then va_cpy (h_i k d) (h_i k b) 0 0 z j else h_i k c j := by
  unfold c_kp
  rw [h_i_si, h_i_si, h_i_af]
  by_cases e : c = a
  · subst e
    by_cases e0 : j = 0
    · simp [e0]
    · by_cases e1 : j = 1
      · simp [e1]
      · simp [e0, e1, hab]
  · simp [e]
    by_cases e2 : c = b
    · simp [e2]
    · simp [e2]
theorem c_kp_eq {a b d z : Nat} {key : Int32} {c : Nat} (ha : c ≠ a) (hb : c ≠ b) : c_eq k (c_kp k a b d z key) c := c_eqt (c_eq_af hb) (c_eqt (c_eq_si ha) (c_eq_si ha))
theorem c_kp_ag {a b d z f : Nat} {key : Int32} (ha : c_tg 2 a) (hb : c_tg 3 b) : c_ag (c_fxS f) c_tgS k (c_kp k a b d z key) := c_agt (c_ag_afT hb (by decide) (fun _ h => c_fxS_128 h)) (c_agt (c_ag_siT ha (by decide) (fun _ h => c_fxS_128 h)) (c_ag_siT ha (by decide) (fun _ h => c_fxS_128 h)))
theorem c_kp_F {a b d z : Nat} {key : Int32} (h : c_F k) : c_F (c_kp k a b d z key) := h
theorem c_kp_r {a b d z : Nat} {key : Int32} (c j : Nat) : h_r (c_kp k a b d z key) c j = h_r k c j := rfl
theorem va_cpy_0 {f g : Nat → Int32} {n j : Nat} (h : j < n) : va_cpy f g 0 0 n j = f j := by
  unfold va_cpy
  rw [if_pos ⟨Nat.zero_le _, by omega⟩]
  congr 1
  omega
/-- keep, where there is room or is made -/
theorem ci_keep (h : TXT k s M y) {i f w m : Nat} (hi : i < 1024) (hc : yC y i ≠ 0) (hf : f ≤ 4) (hw : w < sC s 2) (hm : m ≤ M) (hd : c_dr k (4 - f) (s_sh (sR s) f w m)) : ∃ k2 b2 c2 c e, fn_X7_shownOf_128 C (nI ((m * 12 + w) * 5 + (4 - f))) (some (yS y i)) (nI (4 - f)) (nI (s_sh (sR s) f w m).length) k = some (some (yS y i), k2, c, e) ∧ TXT k2 s M (y_sl y i (yS y i) b2 c2) ∧ c2 ≠ 0 ∧ h_i k2 (yS y i) 1 = nI (s_sh (sR s) f w m).length ∧ (s_sh (sR s) f w m).length ≤ h_n k2 b2 ∧ (∀ (j : Nat) (x : Int32), (s_sh (sR s) f w m)[j]? = some x → h_i k2 b2 j = x) ∧ c + zC (y_sl y i (yS y i) b2 c2) ≤ zC y ∧ e + zD (y_sl y i (yS y i) b2 c2) ≤ zD y ∧ c_ag (c_fxS f) c_tgS k k2 := by
  obtain ⟨dk, dn, dr⟩ := c_dk h.1 (show 4 - f ≤ 4 by omega)
  have hz := s_sh_le (sR s) f w m
  have v4 : vp_in (nI (4 - f)) 5 := (n_vp (by omega)).mpr (by omega)
  have ix4 : h_ix (nI (4 - f)) = 4 - f := q_nIx (by omega)
  have hsl : c_sl k s M (yS y i) (yB y i) (yC y i) := by
    rcases h.2.2.2.1 i hi with ⟨e, _⟩ | ⟨_, _, e⟩
    · exact absurd e hc
    · exact e
  have h20 : h_r k 20 i = some (yS y i) := by
    rcases h.2.2.2.1 i hi with ⟨e, _⟩ | ⟨_, e, _⟩
    · exact absurd e hc
    · exact e
  obtain ⟨s1, s2, s3, s4, s5, s6, s7, _⟩ := hsl
  have hab : yS y i ≠ yB y i := fun e => by have h1 := s1.2; have h2 := s4.2; rw [e] at h1; omega
  have hoth : ∀ j, j < 1024 → j ≠ i → yC y j ≠ 0 → (yS y j ≠ yS y i ∧ yB y j ≠ yB y i) ∧ (yS y j ≠ yB y i ∧ yB y j ≠ yS y i) ∧ h_k k (yS y j) ≠ 0 ∧ h_k k (yB y j) ≠ 0 := by
    intro j hj hji hjc
    rcases h.2.2.2.1 j hj with ⟨e, _⟩ | ⟨_, _, e⟩
    · exact absurd e hjc
    · have t1 := e.1.2
      have t2 := e.2.2.2.1.2
      have t3 := s1.2
      have t4 := s4.2
      exact ⟨⟨fun q => hji (h.2.2.2.2 j i hj hi hjc hc (Or.inl q)), fun q => hji (h.2.2.2.2 j i hj hi hjc hc (Or.inr q))⟩, ⟨fun q => by rw [q] at t1; omega, fun q => by rw [q] at t2; omega⟩, by rw [e.2.1]; decide, by rw [e.2.2.2.2.1]; decide⟩
  generalize hT : s_sh (sR s) f w m = T at hd hz
  unfold fn_X7_shownOf_128 fn_X6_keep
  rw [fg_g_1 v4, fg_o_1, fg_g_1 s2, fg_g_1 s2, s3, fg_o_1, fg_g_1 s5, ix4, dr, show Int32.ofNat (h_n k (yB y i)) = nI (h_n k (yB y i)) from rfl]
  by_cases c1 : T.length ≤ h_n k (yB y i)
  · rw [fg_if_1 ((n_le (by omega) (by omega)).mpr c1), ci_keep_32 s2 s3 s5 dk hz (by omega) c1, fg_bc_1, fg_c_1]
    have hcont : ∀ (j : Nat) (x : Int32), T[j]? = some x → h_i (c_kp k (yS y i) (yB y i) (22 + (4 - f)) T.length (nI ((m * 12 + w) * 5 + (4 - f)))) (yB y i) j = x := by
      intro j x hj
      have hj2 := (List.getElem?_eq_some_iff.mp hj).1
      rw [c_kp_i hab, if_neg (Ne.symm hab), if_pos rfl, va_cpy_0 hj2]
      exact hd j x hj
    have hz2 := z_sl (y := y) i (yS y i) (yB y i) (yC y i) hi
    refine ⟨_, yB y i, yC y i, _, _, rfl, ?_, hc, ?_, c1, hcont, by omega, by omega, c_kp_ag s1 s4⟩
    · refine TXT_slot h hi h.1 hc ?_ (fun j => ?_) ?_ (fun j hj hji hjc => ?_)
      · exact c_agt (c_ag_afT s4 (by decide) (by decide)) (c_agt (c_ag_siT s1 (by decide) (by decide)) (c_ag_siT s1 (by decide) (by decide)))
      · rw [c_kp_r]
        by_cases e : j = i
        · rw [if_pos e, e]; exact h20
        · rw [if_neg e]
      · refine ⟨s1, s2, s3, s4, s5, s6, s7, Or.inr ⟨f, w, m, hf, hw, hm, ?_, ?_, ?_, ?_⟩⟩
        · rw [c_kp_i hab, if_pos rfl, if_pos rfl]
        · rw [hT, c_kp_i hab, if_pos rfl, if_neg (by decide), if_pos rfl]
        · rw [hT]; exact c1
        · rw [hT]; exact hcont
      · obtain ⟨⟨o1, o2⟩, ⟨o3, o4⟩, _⟩ := hoth j hj hji hjc
        exact ⟨c_kp_eq o1 o3, c_kp_eq o4 o2, o1, o2⟩
    · rw [c_kp_i hab, if_pos rfl, if_neg (by decide), if_pos rfl]
  · have e2 : (2 : Int32) * nI (h_n k (yB y i)) = nI (2 * h_n k (yB y i)) := by rw [show (2 : Int32) = nI 2 from rfl, n_mul]
    have e3 : h_min (300 : Int32) (h_max (nI T.length) ((2 : Int32) * nI (h_n k (yB y i)))) = nI (min 300 (max T.length (2 * h_n k (yB y i)))) := by
      rw [e2, n_max _ _ (by omega) (by omega), show (300 : Int32) = nI 300 from rfl, n_min _ _ (by omega) (by omega)]
    rw [fg_if_0 (fun q => c1 ((n_le (by omega) (by omega)).mp q)), fg_o_1, fg_g_1 s5, show Int32.ofNat (h_n k (yB y i)) = nI (h_n k (yB y i)) from rfl, e3]
    generalize hL : min 300 (max T.length (2 * h_n k (yB y i))) = L
    rw [fg_g_1 (n_neg (by omega)), q_nIx (by omega), fg_g_1 (by omega), fg_let_1, fg_let_1, fg_let_1]
    generalize hq : c_ad 3 k = q
    have hqz : h_k k q = 0 := cf_z h.1 hq.symm
    have hqt : c_tg 3 q := by rw [← hq]; unfold c_ad c_tg; omega
    have hqa : yS y i ≠ q := fun e => by rw [e, hqz] at s2; exact absurd s2 (by decide)
    have hqb : yB y i ≠ q := fun e => by rw [e, hqz] at s5; exact absurd s5 (by decide)
    have hq128 := hqt.1
    generalize hk1 : h_sr (h_nw k q 1 L) (yS y i) 2 (some q) = k1
    have m1 : ∀ c, h_k k1 c = if c = q then 1 else h_k k c := fun c => by rw [← hk1]; rfl
    have m2 : ∀ c, h_n k1 c = if c = q then L else h_n k c := fun c => by rw [← hk1]; rfl
    have m3 : ∀ c j, h_r k1 c j = if c = yS y i ∧ j = 2 then some q else if c = q then none else h_r k c j := fun c j => by rw [← hk1, h_r_sr, h_r_nw]
    have m4 : ∀ c j, h_i k1 c j = if c = q then 0 else h_i k c j := fun c j => by rw [← hk1, h_i_sr, h_i_nw]
    have F1 : c_F (h_nw k q 1 L) := cf_nw h.1 hq.symm (by decide)
    have F2 : c_F k1 := by
      rw [← hk1]
      exact cf_sr F1 (kd := 27) (by rw [h_k_nw, if_neg hqa]; exact s2) (by decide) 2
    have ek : ∀ c, c ≠ q → c ≠ yS y i → c_eq k k1 c := fun c h1 h2 => by
      rw [← hk1]
      exact c_eqt (c_eq_nw h1) (c_eq_sr h2)
    have ag1 : ∀ (fx tg : List Nat), (∀ b, b ∈ fx → b < 128) → 2 ∉ tg → c_ag fx tg k k1 := fun fx tg hfx h2 => by
      rw [← hk1]
      exact c_agt (c_ag_nw h.1 hq.symm hfx) (c_ag_srT s1 h2 hfx)
    rw [ci_keep_32 (k := k1) (a := yS y i) (b := q) (d := 22 + (4 - f)) (by rw [m1, if_neg hqa]; exact s2) (by rw [m3, if_pos ⟨rfl, rfl⟩]) (by rw [m1, if_pos rfl]) (by rw [m1, if_neg (by omega)]; exact dk) hz (by rw [m2, if_neg (by omega), dn]; exact hz) (by rw [m2, if_pos rfl]; omega), fg_c_1, fg_bc_1, fg_c_1]
    have hcont : ∀ (j : Nat) (x : Int32), T[j]? = some x → h_i (c_kp k1 (yS y i) q (22 + (4 - f)) T.length (nI ((m * 12 + w) * 5 + (4 - f)))) q j = x := by
      intro j x hj
      have hj2 := (List.getElem?_eq_some_iff.mp hj).1
      rw [c_kp_i hqa, if_neg (Ne.symm hqa), if_pos rfl, va_cpy_0 hj2, m4, if_neg (by omega)]
      exact hd j x hj
    have hz2 := z_sl (y := y) i (yS y i) q (L + 1) hi
    have hcost : 1 + z_c (L + 1) ≤ z_c (yC y i) ∧ L + z_d (L + 1) ≤ z_d (yC y i) := by
      have a1 : z_c (L + 1) = 301 - (L + 1) := if_neg (by omega)
      have a2 : z_c (h_n k (yB y i) + 1) = 301 - (h_n k (yB y i) + 1) := if_neg (by omega)
      have a3 : z_d (L + 1) = if 301 ≤ L + 1 then 0 else 902 - 2 * (L + 1) := if_neg (by omega)
      have a4 : z_d (h_n k (yB y i) + 1) = 902 - 2 * (h_n k (yB y i) + 1) := by
        unfold z_d
        rw [if_neg (by omega), if_neg (by omega)]
      rw [← s6, a1, a2, a3, a4]
      refine ⟨by omega, ?_⟩
      by_cases cL : 301 ≤ L + 1
      · rw [if_pos cL]; omega
      · rw [if_neg cL]; omega
    refine ⟨_, q, L + 1, _, _, rfl, ?_, by omega, ?_, ?_, hcont, by omega, by omega, c_agt (ag1 _ _ (fun _ h => c_fxS_128 h) (by decide)) (c_kp_ag s1 hqt)⟩
    · refine TXT_slot h hi F2 (by omega) ?_ (fun j => ?_) ?_ (fun j hj hji hjc => ?_)
      · exact c_agt (ag1 _ _ (by decide) (by decide)) (c_agt (c_ag_afT hqt (by decide) (by decide)) (c_agt (c_ag_siT s1 (by decide) (by decide)) (c_ag_siT s1 (by decide) (by decide))))
      · have n20 : ¬ (20 = yS y i ∧ j = 2) := fun e => by have := s1.1; omega
        rw [c_kp_r, m3, if_neg n20, if_neg (by omega)]
        by_cases e : j = i
        · rw [if_pos e, e]; exact h20
        · rw [if_neg e]
      · refine ⟨s1, ?_, ?_, hqt, ?_, ?_, ?_, Or.inr ⟨f, w, m, hf, hw, hm, ?_, ?_, ?_, ?_⟩⟩
        · show h_k k1 (yS y i) = 27
          rw [m1, if_neg hqa]; exact s2
        · rw [c_kp_r, m3, if_pos ⟨rfl, rfl⟩]
        · show h_k k1 q = 1
          rw [m1, if_pos rfl]
        · show h_n k1 q + 1 = L + 1
          rw [m2, if_pos rfl]
        · show h_n k1 q ≤ 300
          rw [m2, if_pos rfl]; omega
        · rw [c_kp_i hqa, if_pos rfl, if_pos rfl]
        · rw [hT, c_kp_i hqa, if_pos rfl, if_neg (by decide), if_pos rfl]
        · rw [hT]
          show T.length ≤ h_n k1 q
          rw [m2, if_pos rfl]; omega
        · rw [hT]; exact hcont
      · obtain ⟨⟨o1, o2⟩, ⟨o3, o4⟩, o5, o6⟩ := hoth j hj hji hjc
        have nq1 : yS y j ≠ q := fun e => o5 (by rw [e]; exact hqz)
        have nq2 : yB y j ≠ q := fun e => o6 (by rw [e]; exact hqz)
        exact ⟨c_eqt (ek _ nq1 o1) (c_kp_eq o1 nq1), c_eqt (ek _ nq2 o4) (c_kp_eq o4 nq2), o1, nq2⟩
    · rw [c_kp_i hqa, if_pos rfl, if_neg (by decide), if_pos rfl]
    · show T.length ≤ h_n k1 q
      rw [m2, if_pos rfl]; omega
end CW
