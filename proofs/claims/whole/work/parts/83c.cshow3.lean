/-- what showing with f levels left does -/
def c_SH (s : sA) (M f : Nat) (C : Int32 → Int32 → Int32 → h_S → fg_R (Option Nat) h_S) : Prop := ∀ (k : h_S) (y : c_Y) (w m : Nat), TXT k s M y → w < sC s 2 → m ≤ M → ∃ k2 y2 i c e, C (nI w) (nI m) (nI (4 - f)) k = some (some (yS y2 i), k2, c, e) ∧ i < 1024 ∧ yC y2 i ≠ 0 ∧ h_i k2 (yS y2 i) 1 = nI (s_sh (sR s) f w m).length ∧ (s_sh (sR s) f w m).length ≤ h_n k2 (yB y2 i) ∧ (∀ (j : Nat) (x : Int32), (s_sh (sR s) f w m)[j]? = some x → h_i k2 (yB y2 i) j = x) ∧ TXT k2 s M y2 ∧ y_le y y2 ∧ c + zC y2 ≤ zC y ∧ e + zD y2 ≤ zD y ∧ c_ag (c_fxS f) c_tgS k k2
section CU
variable {k : h_S} {s : sA} {y : c_Y} {M : Nat} {C : Int32 → Int32 → Int32 → h_S → fg_R (Option Nat) h_S}
theorem s_ws_get (A : Int32) (n j : Nat) (hj : j < n) : (s_ws A n)[j]? = some (A + nI j) := by
  unfold s_ws
  rw [List.getElem?_map, List.getElem?_range hj]; rfl
theorem ci_lay (v : ivc s) {f : Nat} (hf : f ≤ 4) (hC : ∀ f2, f = f2 + 1 → c_SH s M f2 C) (h : TXT k s M y) {a m : Nat} {p : sP} (hp : c_pc k a p) (hok : s_pok (sC s 2) p) (hq : p.1 = 2 → h_ix p.2.2.2.2 ≤ m) (hm : m ≤ M) (hM : M ≤ 600) {T : List Int32} (hT : T.length < 300) (hd : c_dr k (4 - f) T) : ∃ k2 y2 c e, fnx_X7_lay C (some a) (nI m) (nI (4 - f)) (nI T.length) k = some (nI ((T ++ s_pp (sR s) f m p).take 300).length, k2, c, e) ∧ c_dr k2 (4 - f) ((T ++ s_pp (sR s) f m p).take 300) ∧ TXT k2 s M y2 ∧ y_le y y2 ∧ c + zC y2 ≤ zC y ∧ e + zD y2 ≤ zD y ∧ c_ag (c_fxS f) c_tgS k k2 := by
  obtain ⟨dk, dn, dr⟩ := c_dk h.1 (show 4 - f ≤ 4 by omega)
  have hok0 := hok
  obtain ⟨⟨kd, hkd, ek⟩, ⟨n, hn1, hn2, en⟩, ⟨A, hA, eA⟩, hof, hat⟩ := hok
  have hpt := hp.1.1
  have v2 := v.2.2.1
  have v4 : vp_in (nI (4 - f)) 5 := (n_vp (by omega)).mpr (by omega)
  have ix4 : h_ix (nI (4 - f)) = 4 - f := q_nIx (by omega)
  have nin : 22 + (4 - f) ∉ c_fxS f := fun w => (c_fxS_lt w).2.2 (by omega)
  have e300 : (300 : Int32) - nI T.length = nI (300 - T.length) := by
    rw [show (300 : Int32) = nI 300 from rfl, n_sub (by omega)]
  unfold fnx_X7_lay
  rw [fg_g_1 v4, fg_o_1, fg_g_1 hp.2.1, ci_hasWords hp hok0, fg_b_1, q_b_if, l_putb _ _ (by omega)]
  by_cases c2 : p.1 < 2
  · rw [fg_if_1 c2, fg_o_1, fg_g_1 hp.2.1, hp.2.2.2.2.1, en, e300, n_min _ _ (by omega) (by omega), fg_let_1, ix4, dr]
    have e := ci_lay_37 (C := C) (k := k) (a := a) (d := 4 - f) (z := T.length) (v := min (300 - T.length) n) hp.2.1 hp.2.2.2.1 (by omega) dk dn (by omega) (min (300 - T.length) n) 0 g_N (h_i k (22 + (4 - f))) (by omega) (by have := g_N_le; omega)
    rw [h_af_self] at e
    have esp : s_pp (sR s) f m p = s_ws p.2.1 n := by unfold s_pp; rw [if_pos c2, en, q_nIx (by omega)]
    have el : (T ++ (s_pp (sR s) f m p).take (300 - T.length)).length = T.length + min (300 - T.length) n := by
      rw [esp]; unfold s_ws; simp
    refine ⟨_, y, 0, 0, e.trans (by rw [el]), ?_, TXT_af h (by omega), y_le0, by omega, by omega, c_ag_af (by omega) nin⟩
    apply c_dr_af
    intro j x hj
    by_cases c : j < T.length
    · rw [List.getElem?_append_left c] at hj
      rw [if_neg (by omega)]
      exact hd j x hj
    · have hj2 := (List.getElem?_eq_some_iff.mp hj).1
      rw [el] at hj2
      rw [List.getElem?_append_right (by omega), esp, List.getElem?_take, if_pos (by omega), s_ws_get _ _ _ (by omega)] at hj
      rw [if_pos (by omega)]
      exact Option.some.inj hj
  · rw [fg_if_0 c2]
    cases f with
    | zero =>
      have n4 : ¬ nI (4 - 0) < 4 := by decide
      have esp : s_pp (sR s) 0 m p = [-7] := by unfold s_pp; rw [if_neg c2]
      have el : (T ++ (s_pp (sR s) 0 m p).take (300 - T.length)) = T ++ [-7] := by
        rw [esp, List.take_of_length_le (by simp; omega)]
      rw [fg_if_0 n4, ix4, dr, fg_o_1, fg_g_1 dk, dn, fg_g_1 ((n_vp (by omega)).mpr (by omega)), fg_let_1, q_nIx (by omega), n_p1, el]
      have e : h_si k (22 + (4 - 0)) T.length (-7) = h_af k (22 + (4 - 0)) (fun x => if x = T.length then -7 else h_i k (22 + (4 - 0)) x) := by
        have := h_si_af (k := k) (22 + (4 - 0)) T.length (h_i k (22 + (4 - 0))) (-7)
        rw [h_af_self] at this
        exact this
      rw [e]
      refine ⟨_, y, 0, 0, by rw [List.length_append]; rfl, ?_, TXT_af h (by omega), y_le0, by omega, by omega, c_ag_af (by omega) nin⟩
      apply c_dr_af
      intro j x hj
      by_cases c : j < T.length
      · rw [List.getElem?_append_left c] at hj
        rw [if_neg (by omega)]
        exact hd j x hj
      · have hj2 := (List.getElem?_eq_some_iff.mp hj).1
        simp at hj2
        have e9 : j = T.length := by omega
        rw [List.getElem?_append_right (by omega), e9] at hj
        simp at hj
        rw [if_pos e9]; exact hj
    | succ f2 =>
      have n4 : nI (4 - (f2 + 1)) < 4 := (n_lt (b := 4) (by omega) (by omega)).mpr (by omega)
      obtain ⟨w2, hw2, ew2⟩ := hof c2
      obtain ⟨m2, hm2, em2, em3⟩ : ∃ m2, m2 ≤ m ∧ m2 = (if p.1 = 2 then h_ix p.2.2.2.2 else m) ∧ fg_if (p.1 = 2) p.2.2.2.2 (nI m) = nI m2 := by
        by_cases c3 : p.1 = 2
        · obtain ⟨m3, hm3, e⟩ := hat c3
          have := hq c3
          rw [e, q_nIx (by omega)] at this
          exact ⟨m3, this, by rw [if_pos c3, e, q_nIx (by omega)], by rw [fg_if_1 c3, e]⟩
        · exact ⟨m, Nat.le_refl _, by rw [if_neg c3], by rw [fg_if_0 c3]⟩
      obtain ⟨k2, y2, i, c, e, f1, f2', f3, f4, f5, f6, f7, f8, f9, f10, f11⟩ := hC f2 rfl k y w2 m2 h hw2 (by omega)
      have hp2 : c_pc k2 a p := c_pc_fr hp f11 (by decide)
      have hI := s_sh_le (sR s) f2 w2 m2
      have hsl : c_sl k2 s M (yS y2 i) (yB y2 i) (yC y2 i) := by
        rcases f7.2.2.2.1 i f2' with ⟨w, _⟩ | ⟨_, _, w⟩
        · exact absurd w f3
        · exact w
      have dk2 := c_dk f7.1 (show 4 - (f2 + 1) ≤ 4 by omega)
      have e4 : nI (4 - (f2 + 1)) + 1 = nI (4 - f2) := by rw [n_p1]; congr 1; omega
      have esp : s_pp (sR s) (f2 + 1) m p = ((s_sh (sR s) f2 w2 m2).drop A).take n := by
        unfold s_pp
        rw [if_neg c2, ew2, eA, en, q_nIx (by omega), q_nIx (by omega), q_nIx (by omega), ← em2]
      have elen : (s_pp (sR s) (f2 + 1) m p).length = min ((s_sh (sR s) f2 w2 m2).length - A) n := by rw [esp]; simp [Nat.min_comm]
      have elen2 : (T ++ (s_pp (sR s) (f2 + 1) m p).take (300 - T.length)).length = T.length + min (300 - T.length) (min ((s_sh (sR s) f2 w2 m2).length - A) n) := by
        rw [List.length_append, List.length_take, elen]
      simp only [fg_if_1 n4, fg_o_1, fg_g_1 hp.2.1, ci_momentWithin hp, fg_b_1, hp.2.2.2.2.2.1, ew2, em3, e4, f1, fg_bc_1, fg_g_1 hsl.2.1, f4, ci_stretch hp2 (A := A) (n := n) (z := (s_sh (sR s) f2 w2 m2).length) (by omega) (by omega) (by omega) eA en, fg_let_1, e300, n_min (300 - T.length) (min ((s_sh (sR s) f2 w2 m2).length - A) n) (by omega) (by omega), n_add, ix4, dr]
      have hdr2 : c_dr k2 (4 - (f2 + 1)) T := fun j x hj => by
        rw [(f11.1 (22 + (4 - (f2 + 1))) (c_fxS_m (by omega) (by omega) (by omega))).2.2.1]
        exact hd j x hj
      have hag : c_ag (c_fxS (f2 + 1)) c_tgS k k2 := c_agm f11 (fun b hb => c_fxS_mono hb) (fun _ hb => hb)
      generalize hv : min (300 - T.length) (min ((s_sh (sR s) f2 w2 m2).length - A) n) = vv at elen2
      by_cases c3 : vv ≤ 0
      · have c3' : nI vv ≤ 0 := (n_le (b := 0) (by omega) (by omega)).mpr c3
        rw [fg_if_1 c3', fg_c_1, elen2]
        refine ⟨k2, y2, _, _, rfl, ?_, f7, f8, by omega, by omega, hag⟩
        have : (s_pp (sR s) (f2 + 1) m p).take (300 - T.length) = [] := by
          apply List.eq_nil_of_length_eq_zero
          rw [List.length_take, elen]; omega
        rw [this, List.append_nil]
        exact hdr2
      · have d1 : ¬ nI A < 0 := n_neg (by omega)
        have d2 : ¬ nI T.length < 0 := n_neg (by omega)
        have d3 : ¬ nI vv < 0 := n_neg (by omega)
        have d4 : h_ix (nI A) + h_ix (nI vv) ≤ h_n k2 (yB y2 i) := by rw [q_nIx (by omega), q_nIx (by omega)]; omega
        have d5 : h_ix (nI T.length) + h_ix (nI vv) ≤ h_n k2 (22 + (4 - (f2 + 1))) := by rw [q_nIx (by omega), q_nIx (by omega), dk2.2.1]; omega
        have c3' : ¬ nI vv ≤ 0 := fun q => c3 ((n_le (b := 0) (by omega) (by omega)).mp q)
        rw [fg_if_0 c3', fg_g_1 hp2.2.1, hp2.2.2.2.1, eA, hsl.2.2.1, fg_g_1 dk2.1, fg_o_1, fg_g_1 hsl.2.2.2.2.1, fg_g_1 d1, fg_g_1 d2, fg_g_1 d3, fg_g_1 d4, fg_g_1 d5, q_nIx (by omega), q_nIx (by omega), q_nIx (by omega), h_cp_af, elen2]
        refine ⟨_, y2, _, _, rfl, ?_, TXT_af f7 (by omega), f8, by omega, by omega, c_agt hag (c_ag_af (by omega) nin)⟩
        apply c_dr_af
        intro j x hj
        unfold va_cpy
        by_cases c : j < T.length
        · rw [List.getElem?_append_left c] at hj
          rw [if_neg (by omega)]
          exact hdr2 j x hj
        · have hj2 := (List.getElem?_eq_some_iff.mp hj).1
          rw [elen2] at hj2
          rw [List.getElem?_append_right (by omega), List.getElem?_take, if_pos (by omega), esp, List.getElem?_take, if_pos (by omega), List.getElem?_drop] at hj
          rw [if_pos (by omega)]
          exact f6 _ x hj
end CU
