section CCh
variable {k k2 : h_S} {s : sA} {y : c_Y} {M : Nat}
theorem CB_29 (h : CBM k s M y) (j : Nat) (x : Int32) : CBM (h_si k 29 j x) s M y := CB_ag h h.1 (c_ag_si (by omega) (by decide)) rfl
theorem s_pp_s {R : Nat → Nat → List sP} {f m : Nat} {p : sP} (c : ¬ p.1 < 2) : (s_pp R (f + 1) m p).length = min ((s_sh R f (h_ix p.2.2.2.1) (if p.1 = 2 then h_ix p.2.2.2.2 else m)).length - h_ix p.2.1) (h_ix p.2.2.1) := by
  unfold s_pp
  rw [if_neg c]
  show (List.take _ (List.drop _ _)).length = _
  rw [List.length_take, List.length_drop, Nat.min_comm]
theorem s_mw (p : sP) {M m : Nat} (ok : s_pok (sC s 2) p) (hq : p.1 = 2 → h_ix p.2.2.2.2 ≤ M) (hm : m ≤ M) : ∃ m2, m2 ≤ M ∧ fg_if (p.1 = 2) p.2.2.2.2 (nI m) = nI m2 ∧ m2 = (if p.1 = 2 then h_ix p.2.2.2.2 else m) := by
  by_cases c2 : p.1 = 2
  · obtain ⟨z, hz, ez⟩ := ok.2.2.2.2 c2
    have := hq c2
    rw [fg_if_1 c2, if_pos c2, ez, q_nIx (by omega)]
    rw [ez, q_nIx (by omega)] at this
    exact ⟨z, this, rfl, rfl⟩
  · rw [fg_if_0 c2, if_neg c2]
    exact ⟨m, hm, rfl, rfl⟩
/-- sizeOf with 4 - f around -/
theorem ci_sizeF (h : CBM k s M y) (v : ivc s) (vp : ivp s) (vq : ivq s) (hM : M ≤ 600) {a m f : Nat} (hf : f ≤ 4) {p : sP} (hp : c_pc k a p) (ok : s_pk s p) (hq : p.1 = 2 → h_ix p.2.2.2.2 ≤ M) (hm : m ≤ M) : ∃ k2 y2 c e, fn_X7_sizeOf (some a) (nI m) (nI (4 - f)) k = some (nI (s_pp (sR s) f m p).length, k2, c, e) ∧ CBM k2 s M y2 ∧ y_le y y2 ∧ c + zC y2 ≤ zC y ∧ e + zD y2 ≤ zD y ∧ c_ag (c_fxS 4) c_tgS k k2 := by
  have v2 := v.2.2.1
  have okk := ok
  obtain ⟨⟨o1, ⟨n, hn1, hn, en⟩, ⟨A, hA, eA⟩, o4, o5⟩, o6⟩ := ok
  unfold fn_X7_sizeOf
  rw [fg_o_1, fg_g_1 hp.2.1, ci_hasWords hp okk.1, fg_b_1, q_b_if]
  by_cases c : p.1 < 2
  · have e : (s_pp (sR s) f m p).length = n := by
      unfold s_pp s_ws
      rw [if_pos c, List.length_map, List.length_range, en, q_nIx (by omega)]
    rw [fg_if_1 c, fg_o_1, fg_g_1 hp.2.1, e, hp.2.2.2.2.1, en]
    exact ⟨k, y, 0, 0, rfl, h, y_le0, by omega, by omega, c_ag0⟩
  · rw [fg_if_0 c]
    cases f with
    | zero =>
      have e : (s_pp (sR s) 0 m p).length = 1 := by
        unfold s_pp
        rw [if_neg c]
        rfl
      rw [e, fg_if_0 (by decide)]
      exact ⟨k, y, 0, 0, rfl, h, y_le0, by omega, by omega, c_ag0⟩
    | succ f =>
      obtain ⟨w, hw, ew⟩ := o4 c
      have c4 : nI (4 - (f + 1)) < 4 := (n_lt (a := 4 - (f + 1)) (b := 4) (by omega) (by omega)).mpr (by omega)
      obtain ⟨m2, hm2, em2, em3⟩ := s_mw p okk.1 hq hm
      obtain ⟨k2, y2, i, cc, e, f1, f2, f3, f4, f5, f6, f7, f8⟩ := CB_showF h v vp vq hM (f := f) (by omega) hw hm2
      have hl := s_sh_300 (sR s) f w m2
      have hp2 := c_pc_fr hp f8 (by decide)
      rw [fg_if_1 c4, fg_o_1, fg_g_1 hp.2.1, fg_o_1, fg_g_1 hp.2.1, ci_momentWithin hp, fg_b_1, hp.2.2.2.2.2.1, ew, em2, n_p1, show 4 - (f + 1) + 1 = 4 - f by omega, f1, fg_bc_1, fg_o_1, fg_g_1 f2, f3, ci_stretch hp2 (A := A) (n := n) (by omega) (by omega) (by omega) eA en, fg_b_1]
      simp only [fg_c_1]
      refine ⟨k2, y2, cc + 0, e + 0, ?_, f4, f5, by omega, by omega, f8⟩
      rw [s_pp_s c, ew, eA, en, q_nIx (by omega), q_nIx (by omega), q_nIx (show n < 2 ^ 31 by omega), ← em3]
/-- the piece in which a place lies -/
theorem ci_follow_43 (v : ivc s) (vp : ivp s) (vq : ivq s) (hM : M ≤ 600) {w m f b : Nat} (hf : f ≤ 4) (hm : m ≤ M) {l : List sP} (hl : l.length ≤ 24) (ok : ∀ p, p ∈ l → s_pk s p) (hq : ∀ p, p ∈ l → p.1 = 2 → h_ix p.2.2.2.2 ≤ M) {K12 : Int32 → Int32 → Int32 → Int32 → h_S → fg_R (Int32) h_S} {x4 : Int32} {Y : Int32 × List Int32} : ∀ (d i N at_ : Nat) (k : h_S) (y : c_Y), i + d = l.length → d + 1 < N → CBM k s M y → c_ps k b l → at_ < 1000 → ((l.drop i).flatMap (s_ip (sR s) f w m))[at_]? = some Y → ∃ k2 y2 cc dd q aq j, fn_X7_follow_43 K12 N x4 (nI m) (nI at_) (nI (4 - f)) (some b) none (nI i) k = fg_c cc dd (fn_X7_follow_101 K12 x4 (nI m) (nI j) (nI (4 - f)) (some aq) k2) ∧ CBM k2 s M y2 ∧ cc + zC y2 ≤ zC y ∧ dd + zD y2 ≤ zD y ∧ c_ag (c_fxS 4) c_tgS k k2 ∧ q ∈ l ∧ c_pc k2 aq q ∧ j ≤ at_ ∧ (s_ip (sR s) f w m q)[j]? = some Y := by
  intro d
  induction d with
  | zero =>
    intro i N at_ k y hi hN h hb ha hY
    rw [List.drop_eq_nil_of_le (by omega)] at hY
    cases hY
  | succ d ih =>
    intro i N at_ k y hi hN h hb ha hY
    obtain ⟨N, rfl⟩ : ∃ m, N = m + 1 := ⟨N - 1, by omega⟩
    have hi2 : i < l.length := by omega
    obtain ⟨c, p1, p2⟩ := hb.2.2.2 i _ (List.getElem?_eq_getElem hi2)
    have hmem := List.getElem_mem hi2
    rw [List.drop_eq_getElem_cons hi2, List.flatMap_cons, List.getElem?_append] at hY
    generalize l[i] = q at p1 p2 hmem hY
    obtain ⟨k2, y2, cc, dd, f1, f2, f3, f4, f5, f6⟩ := ci_sizeF h v vp vq hM hf p2 (ok q hmem) (hq q hmem) hm
    have hb2 := c_ps_fr hb f6 (by decide) (by decide) (by decide)
    have en : Int32.ofNat (h_n k b) = nI l.length := by rw [hb.2.2.1]; rfl
    have en2 : Int32.ofNat (h_n k2 b) = nI l.length := by rw [hb2.2.2.1]; rfl
    have i2 : vp_in (nI i) l.length := (n_vp (by omega)).mpr hi2
    have hsz : (s_pp (sR s) f m q).length ≤ 500 := by
      obtain ⟨⟨_, ⟨n, n1, n2, n3⟩, _, _, _⟩, _⟩ := ok q hmem
      unfold s_pp
      split
      · unfold s_ws; rw [List.length_map, List.length_range, n3, q_nIx (by omega)]; exact n2
      · cases f with
        | zero => exact Nat.le_trans (Nat.le_of_eq rfl) (show 1 ≤ 500 by omega)
        | succ f =>
          show (List.take _ _).length ≤ 500
          rw [List.length_take, n3, q_nIx (by omega)]
          omega
    rw [s_ip_len] at hY
    show ∃ k2 y2 cc dd q aq j, fn_X7_follow_43b K12 (fn_X7_follow_43 K12 N) _ _ _ _ _ _ _ _ = _ ∧ _
    unfold fn_X7_follow_43b
    rw [fg_o_1, fg_g_1 hb.2.1, en, fg_if_0 (fun z => by have := (n_le (a := l.length) (b := i) (by omega) (by omega)).mp z; omega), fg_if_1 rfl, fg_o_1, fg_g_1 hb.2.1, hb.2.2.1, fg_g_1 i2, q_nIx (by omega), p1, f1, fg_bc_1]
    by_cases c1 : at_ < (s_pp (sR s) f m q).length
    · rw [if_pos c1] at hY
      have r2 : h_r k2 b i = some c := by
        have : c_eq k k2 b := by
          rcases hb.1 with z | z
          · rw [z]; exact f6.1 17 (by decide)
          · exact c_agd f6 z (by decide) (by rw [hb.2.1]; decide)
        rw [this.2.2.2]; exact p1
      rw [fg_if_0 (fun z => by have := (n_le (a := (s_pp (sR s) f m q).length) (b := at_) (by omega) (by omega)).mp z; omega), fg_o_1, fg_g_1 hb2.2.1, hb2.2.2.1, fg_g_1 i2, r2, n_p1]
      refine ⟨k2, y2, cc, dd, q, c, at_, ?_, f2, f4, f5, f6, hmem, c_pc_fr p2 f6 (by decide), Nat.le_refl _, hY⟩
      obtain ⟨N, rfl⟩ : ∃ m, N = m + 1 := ⟨N - 1, by omega⟩
      congr 1
      show fn_X7_follow_43b _ _ _ _ _ _ _ _ _ _ = _
      unfold fn_X7_follow_43b
      have nn : ¬ (some c = none) := by simp
      rw [fg_o_1, fg_g_1 hb2.2.1, fg_if_0 nn, fg_if_same]
    · rw [if_neg c1] at hY
      obtain ⟨k3, y3, c3, d3, q3, a3, j3, g1, g2, g3, g4, g5, g6, g7, g8, g9⟩ := ih (i + 1) N (at_ - (s_pp (sR s) f m q).length) k2 y2 (by omega) (by omega) f2 hb2 (by omega) hY
      rw [fg_if_1 ((n_le (by omega) (by omega)).mpr (by omega)), n_sub (by omega), n_p1, g1]
      refine ⟨k3, y3, cc + c3, dd + d3, q3, a3, j3, ?_, g2, by omega, by omega, c_agt f6 g5, g6, g7, by omega, g9⟩
      cases fn_X7_follow_101 K12 x4 (nI m) (nI j3) (nI (4 - f)) (some a3) k3 with
      | none => rfl
      | some z =>
        show some (_, _, cc + (c3 + _), dd + (d3 + _)) = some (_, _, cc + c3 + _, dd + d3 + _)
        rw [Nat.add_assoc, Nat.add_assoc]
/-- a piece of words: the way ends at home -/
theorem ci_follow_w (v : ivc s) {f w m D aq j : Nat} (hD : D ≤ 4) (hw : w < 12) {q : sP} {Y : Int32 × List Int32} (h : CBM k s M y) (hp : c_pc k aq q) (ok : s_pk s q) (c : q.1 < 2) (hY : (s_ip (sR s) f w m q)[j]? = some Y) (q4 : h_i k 29 D = nI w) {K12 : Int32 → Int32 → Int32 → Int32 → h_S → fg_R (Int32) h_S} {x5 : Int32} : ∃ k3, fn_X7_follow_101 K12 (nI w) x5 (nI j) (nI D) (some aq) k = some (nI (D + (s_hm s Y.1 Y.2).length), k3, 0, 0) ∧ CBM k3 s M y ∧ (∀ i, i < D → h_i k3 29 i = h_i k 29 i) ∧ (∀ i z, (s_hm s Y.1 Y.2)[i]? = some z → h_i k3 29 (D + i) = z) := by
  have v3 := v.2.2.2.1
  have ok0 := ok.1
  obtain ⟨⟨o1, ⟨n, hn1, hn, en⟩, ⟨A, hA, eA⟩, o4, o5⟩, o6⟩ := ok
  have o6 := o6 c
  rw [eA, en, q_nIx (by omega), q_nIx (by omega)] at o6
  have hj : j < n ∧ Y = (nI (A + j), [nI w]) := by
    unfold s_ip at hY
    rw [if_pos c, List.getElem?_map] at hY
    obtain ⟨x, x1, x2⟩ := Option.map_eq_some_iff.mp hY
    have hjn : j < n := by
      have := (List.getElem?_eq_some_iff.mp x1).1
      unfold s_ws at this
      rw [List.length_map, List.length_range, en, q_nIx (by omega)] at this
      exact this
    rw [en, q_nIx (by omega), s_ws_get _ _ _ hjn, eA, n_add] at x1
    injection x1 with x1
    exact ⟨hjn, by rw [← x2, ← x1]⟩
  obtain ⟨hj, eY⟩ := hj
  subst eY
  have wd := CB_wd h (x := A + j) (by omega)
  have nn : ¬ (some (yA y 18 (A + j)) = none) := by simp
  have nn2 : ¬ (some aq = none) := by simp
  have n29 : Int32.ofNat (h_n k 29) = nI 6 := by rw [cf_n (kd := 1) (n := 6) h.1 rfl (by decide) rfl]; rfl
  have ix : h_ix (nI (A + j)) = A + j := q_nIx (by omega)
  have e101 : ∀ X : Int32 × h_S, fn_X7_endAtHome (nI (D + 1)) (nI w) (nI (A + j)) k = some X → fn_X7_follow_101 K12 (nI w) x5 (nI j) (nI D) (some aq) k = some (X.1, X.2, 0, 0) := by
    intro X hX
    unfold fn_X7_follow_101
    rw [fg_if_0 nn2, fg_o_1, fg_g_1 hp.2.1, ci_hasWords hp ok0, fg_b_1, q_b_if, fg_if_1 c, fg_o_1, fg_g_1 hp.2.1, hp.2.2.2.1, eA, n_add, n_p1, hX]
    rfl
  by_cases c2 : sF s 25 (A + j) = nI w
  · have eh : s_hm s (nI (A + j)) [nI w] = [nI w] := by
      unfold s_hm
      rw [ix, if_pos (by rw [c2]; rfl)]
    refine ⟨k, ?_, h, fun _ _ => rfl, fun i z hz => ?_⟩
    · refine e101 (_, k) ?_
      unfold fn_X7_endAtHome
      rw [ci_wordAt h v, fg_if_1 ((n_inI (by omega)).mpr (by omega)), fg_b_1, ix, fg_if_0 nn, fg_o_1, fg_g_1 wd.2.1, wd.2.2.2.2.1, fg_if_1 c2, eh]
      rfl
    · have hz' : [nI w][i]? = some z := by rw [← eh]; exact hz
      cases i with
      | zero => have : some (nI w) = some z := hz'; injection this with this; rw [← this]; exact q4
      | succ i => cases hz'
  · have eh : s_hm s (nI (A + j)) [nI w] = [nI w, sF s 25 (A + j)] := by
      unfold s_hm
      rw [ix, if_neg (fun z => c2 (by have : some (nI w) = some (sF s 25 (A + j)) := z; injection this with this; exact this.symm))]
      rfl
    refine ⟨h_si k 29 (D + 1) (sF s 25 (A + j)), ?_, CB_29 h _ _, fun i hi => by rw [h_i_si, if_neg (by omega)], fun i z hz => ?_⟩
    · refine e101 (_, _) ?_
      unfold fn_X7_endAtHome
      rw [ci_wordAt h v, fg_if_1 ((n_inI (by omega)).mpr (by omega)), fg_b_1, ix, fg_if_0 nn, fg_o_1, fg_g_1 wd.2.1, wd.2.2.2.2.1, fg_if_0 c2, n29, fg_if_1 ((n_lt (by omega) (by omega)).mpr (by omega)), fg_o_1, fg_g_1 wd.2.1, fg_g_1 ((n_vp (by omega)).mpr (by omega)), fg_let_1, q_nIx (by omega), n_p1, wd.2.2.2.2.1, eh]
      rfl
    · have hz' : [nI w, sF s 25 (A + j)][i]? = some z := by rw [← eh]; exact hz
      rw [h_i_si]
      match i, hz' with
      | 0, hz' => have : some (nI w) = some z := hz'; injection this with this; rw [if_neg (by omega), ← this]; exact q4
      | 1, hz' => have : some (sF s 25 (A + j)) = some z := hz'; injection this with this; rw [if_pos ⟨rfl, rfl⟩]; exact this
      | i + 2, hz' => simp at hz'
theorem ci_follow_12 (v : ivc s) (vp : ivp s) (vq : ivq s) (vx : ivx s) (hM : M ≤ 600) : ∀ (f : Nat), f ≤ 4 → ∀ (w m at_ N : Nat) (k : h_S) (y : c_Y) (Y : Int32 × List Int32), f < N → CBM k s M y → w < sC s 2 → m ≤ M → at_ < 300 → (s_it (sR s) f w m)[at_]? = some Y → ¬ Y.1 = -7 → ∃ k2 y2 cc dd, fn_X7_follow_12 N (nI w) (nI m) (nI at_) (nI (4 - f)) k = some (nI (4 - f + (s_hm s Y.1 Y.2).length), k2, cc, dd) ∧ CBM k2 s M y2 ∧ cc + zC y2 ≤ zC y ∧ dd + zD y2 ≤ zD y ∧ (∀ j, j < 4 - f → h_i k2 29 j = h_i k 29 j) ∧ (∀ j z, (s_hm s Y.1 Y.2)[j]? = some z → h_i k2 29 (4 - f + j) = z) := by
  have v2 := v.2.2.1
  have v3 := v.2.2.2.1
  intro f
  induction f with
  | zero =>
    intro hf w m at_ N k y Y hN h hw hm ha hY h7
    obtain ⟨N, rfl⟩ : ∃ m, N = m + 1 := ⟨N - 1, by omega⟩
    have h1 := CB_29 h 4 (nI w)
    obtain ⟨b, b1, b2⟩ := ci_piecesAsOf ⟨h1.1, h1.2.1.2.2.1, h1.2.2.2.2.2.2.2.2.2.2.2.2.1, h1.2.2.2.2.2.2.2.2.2.2.2.2.2⟩ v hw (m := m) (by omega)
    rw [s_it_ip] at hY
    obtain ⟨k2, y2, cc, dd, q, aq, j, f1, f2, f3, f4, f5, f6, f7, f8, f9⟩ := ci_follow_43 v vp vq hM (f := 0) (by omega) hm (vp w m).1 (fun p hp => vx _ _ p hp) (fun p hp c => Nat.le_trans (vq _ _ p hp c) hm) (K12 := fn_X7_follow_12 N) (x4 := nI w) (sR s w m).length 0 g_N at_ (h_si k 29 4 (nI w)) y (by omega) (by have := (vp w m).1; have := g_N_le; omega) h1 b2 (by omega) hY
    have f1' : fn_X7_follow_43 (fn_X7_follow_12 N) g_N (nI w) (nI m) (nI at_) (nI (4 - 0)) (some b) none 0 (h_si k 29 4 (nI w)) = _ := f1
    have c : q.1 < 2 := Classical.byContradiction (fun c => h7 (by
      unfold s_ip at f9
      rw [if_neg c] at f9
      cases j with
      | zero => have : some ((-7 : Int32), [nI w]) = some Y := f9; injection this with this; rw [← this]
      | succ j => cases f9))
    have e29 : h_i k2 29 = h_i (h_si k 29 4 (nI w)) 29 := (f5.1 29 (by decide)).2.2.1
    obtain ⟨k3, g1, g2, g3, g4⟩ := ci_follow_w v (D := 4) (by omega) (by omega) f2 f7 (vx _ _ q f6) c f9 (by rw [e29, h_i_si, if_pos ⟨rfl, rfl⟩]) (K12 := fn_X7_follow_12 N) (x5 := nI m)
    have g1' : fn_X7_follow_101 (fn_X7_follow_12 N) (nI w) (nI m) (nI j) (nI (4 - 0)) (some aq) k2 = _ := g1
    show ∃ k2 y2 cc dd, fn_X7_follow_12b (fn_X7_follow_12 N) _ _ _ _ _ = _ ∧ _
    unfold fn_X7_follow_12b
    have e4 : h_ix (nI (4 - 0)) = 4 := q_nIx (by omega)
    rw [fg_if_0 (by decide), fg_g_1 ((n_vp (by omega)).mpr (by omega)), fg_let_1, e4, b1, fg_b_1, f1', g1', fg_c_1]
    refine ⟨k3, y2, _, _, rfl, g2, by omega, by omega, fun i hi => ?_, g4⟩
    rw [g3 i hi, e29, h_i_si, if_neg (by omega)]
  | succ f ih =>
    intro hf w m at_ N k y Y hN h hw hm ha hY h7
    obtain ⟨N, rfl⟩ : ∃ m, N = m + 1 := ⟨N - 1, by omega⟩
    obtain ⟨D, hD⟩ : ∃ D, D = 4 - (f + 1) := ⟨_, rfl⟩
    rw [← hD]
    have h1 := CB_29 h D (nI w)
    obtain ⟨b, b1, b2⟩ := ci_piecesAsOf ⟨h1.1, h1.2.1.2.2.1, h1.2.2.2.2.2.2.2.2.2.2.2.2.1, h1.2.2.2.2.2.2.2.2.2.2.2.2.2⟩ v hw (m := m) (by omega)
    rw [s_it_ip] at hY
    obtain ⟨k2, y2, cc, dd, q, aq, j, f1, f2, f3, f4, f5, f6, f7, f8, f9⟩ := ci_follow_43 v vp vq hM (f := f + 1) (by omega) hm (vp w m).1 (fun p hp => vx _ _ p hp) (fun p hp c => Nat.le_trans (vq _ _ p hp c) hm) (K12 := fn_X7_follow_12 N) (x4 := nI w) (sR s w m).length 0 g_N at_ (h_si k 29 D (nI w)) y (by omega) (by have := (vp w m).1; have := g_N_le; omega) h1 b2 (by omega) hY
    rw [← hD] at f1
    have f1' : fn_X7_follow_43 (fn_X7_follow_12 N) g_N (nI w) (nI m) (nI at_) (nI D) (some b) none 0 (h_si k 29 D (nI w)) = _ := f1
    have e29 : h_i k2 29 = h_i (h_si k 29 D (nI w)) 29 := (f5.1 29 (by decide)).2.2.1
    have okq := vx _ _ q f6
    show ∃ k2 y2 cc dd, fn_X7_follow_12b (fn_X7_follow_12 N) _ _ _ _ _ = _ ∧ _
    unfold fn_X7_follow_12b
    have n4 : ¬ (4 : Int32) < nI D := fun z => by have := (n_lt (a := 4) (b := D) (by omega) (by omega)).mp z; omega
    rw [fg_if_0 n4, fg_g_1 ((n_vp (by omega)).mpr (by omega)), fg_let_1, q_nIx (by omega), b1, fg_b_1, f1']
    by_cases c : q.1 < 2
    · obtain ⟨k3, g1, g2, g3, g4⟩ := ci_follow_w v (D := D) (by omega) (by omega) f2 f7 okq c f9 (by rw [e29, h_i_si, if_pos ⟨rfl, rfl⟩]) (K12 := fn_X7_follow_12 N) (x5 := nI m)
      rw [g1, fg_c_1]
      refine ⟨k3, y2, _, _, rfl, g2, by omega, by omega, fun i hi => ?_, g4⟩
      rw [g3 i hi, e29, h_i_si, if_neg (by omega)]
    · obtain ⟨w2, hw2, ew2⟩ := okq.1.2.2.2.1 c
      obtain ⟨A, hA, eA⟩ := okq.1.2.2.1
      obtain ⟨m2, hm2, em2, em3⟩ := s_mw q okq.1 (fun c2 => Nat.le_trans (vq _ _ q f6 c2) hm) hm
      obtain ⟨Y2, y1, y2', y3⟩ : ∃ Y2, (s_it (sR s) f w2 m2)[A + j]? = some Y2 ∧ A + j < 300 ∧ Y = (Y2.1, nI w :: Y2.2) := by
        unfold s_ip at f9
        rw [if_neg c] at f9
        have f9' : (((((s_it (sR s) f (h_ix q.2.2.2.1) (if q.1 = 2 then h_ix q.2.2.2.2 else m)).take 300).drop (h_ix q.2.1)).take (h_ix q.2.2.1)).map (fun y => (y.1, nI w :: y.2)))[j]? = some Y := f9
        rw [List.getElem?_map] at f9'
        obtain ⟨Y2, z1, z2⟩ := Option.map_eq_some_iff.mp f9'
        rw [List.getElem?_take] at z1
        split at z1
        · rw [List.getElem?_drop, List.getElem?_take] at z1
          split at z1
          · rw [ew2, eA, q_nIx (by omega), q_nIx (by omega), ← em3] at z1
            rename_i _ hlt
            rw [eA, q_nIx (by omega)] at hlt
            exact ⟨Y2, z1, hlt, z2.symm⟩
          · cases z1
        · cases z1
      subst y3
      obtain ⟨l1, l2⟩ := s_it_len _ _ _ _ _ (List.mem_of_getElem? y1)
      obtain ⟨k3, y4, c4, d4, g1, g2, g3, g4, g5, g6⟩ := ih (by omega) w2 m2 (A + j) N k2 y2 Y2 (by omega) f2 hw2 hm2 y2' y1 h7
      have eD : 4 - f = D + 1 := by omega
      rw [eD] at g1 g5 g6
      have e101 : fn_X7_follow_101 (fn_X7_follow_12 N) (nI w) (nI m) (nI j) (nI D) (some aq) k2 = some (nI (D + (s_hm s Y2.1 (nI w :: Y2.2)).length), k3, c4, d4) := by
        unfold fn_X7_follow_101
        have nn2 : ¬ (some aq = none) := by simp
        rw [fg_if_0 nn2, fg_o_1, fg_g_1 f7.2.1, ci_hasWords f7 okq.1, fg_b_1, q_b_if, fg_if_0 c, fg_o_1, fg_g_1 f7.2.1, fg_o_1, fg_g_1 f7.2.1, ci_momentWithin f7, fg_b_1, fg_o_1, fg_g_1 f7.2.1, f7.2.2.2.2.2.1, f7.2.2.2.1, ew2, eA, em2, n_add, n_p1, Nat.add_comm j A, g1, s_hm_cons _ _ l1, List.length_cons]
        congr 3
        omega
      rw [e101, fg_c_1]
      refine ⟨k3, y4, _, _, rfl, g2, by omega, by omega, fun i hi => ?_, fun i z hz => ?_⟩
      · rw [g5 i (by omega), e29, h_i_si, if_neg (by omega)]
      · rw [s_hm_cons _ _ l1] at hz
        cases i with
        | zero =>
          have : some (nI w) = some z := hz
          injection this with this
          rw [g5 (D + 0) (by omega), e29, h_i_si, if_pos ⟨rfl, rfl⟩]
          exact this
        | succ i =>
          have := g6 i z hz
          rw [show D + (i + 1) = D + 1 + i by omega]
          exact this
theorem cs_steps0 (h : CB k s y) (v : ivc s) (vp : ivp s) (vq : ivq s) (vx : ivx s) (vv : ivv s) (x i : Int32) : ∃ k2 c d y2, fn_X11_steps x i k = some ((s_steps s x i).1, k2, c, d) ∧ CB k2 s y2 ∧ c + zC y2 ≤ zC y ∧ d + zD y2 ≤ zD y ∧ (q_in x (sC s 4) → q_in i (s_vs s (h_ix x)).length → ¬ s_vg s (h_ix x) (h_ix i) = -7 → ∀ j z, (s_ch s (h_ix x) (h_ix i))[j]? = some z → h_i k2 29 j = z) := by
  have v0 := v.1
  have v2 := v.2.2.1
  unfold fn_X11_steps s_steps
  rw [ci_versionAt (CB_M h) v, fg_b_1]
  by_cases c1 : q_in x (sC s 4)
  · obtain ⟨_, w1, w4, w5, _, _, b, w2, w3⟩ := CB_ver (CB_M h) (n_in c1).2
    have n1 : ¬ (some (yA y 4 (h_ix x)) = none) := by simp
    have hl := s_vs_300 (s := s) (h_ix x)
    have en : Int32.ofNat (h_n k b) = nI (s_vs s (h_ix x)).length := by rw [w3.2.2.1]; rfl
    rw [fg_if_1 c1, fg_if_0 n1, fg_o_1, fg_g_1 w1, w2, fg_o_1, fg_g_1 w3.2.1, en, ci_withinN _ (by omega), fg_b_1, q_b_if]
    by_cases c2 : q_in i (s_vs s (h_ix x)).length
    · have c : q_in x (sC s 4) ∧ q_in i (s_vs s (h_ix x)).length := ⟨c1, c2⟩
      obtain ⟨e2, l2⟩ := n_in c2
      have g1 : vp_in i (h_n k b) := by rw [w3.2.2.1, e2]; exact (n_vp (by omega)).mpr l2
      have eg : h_i k b (h_ix i) = s_vg s (h_ix x) (h_ix i) := w3.2.2.2 _ _ (s_vg_in l2)
      rw [fg_if_1 c2, fg_o_1, fg_g_1 w1, w2, fg_o_1, fg_g_1 w3.2.1, fg_g_1 g1, eg, fg_if_1 c]
      by_cases c3 : s_vg s (h_ix x) (h_ix i) = -7
      · rw [fg_if_1 c3, fg_if_1 c3]
        exact ⟨k, 0, 0, y, rfl, h, by omega, by omega, fun _ _ q => absurd c3 q⟩
      · obtain ⟨⟨w, m, hw, hm, ew, em⟩, _⟩ := vv (h_ix x) (n_in c1).2
        obtain ⟨b1, b2, _⟩ := s_vs_cy l2
        rw [ew, em, q_nIx (by omega), q_nIx (by omega)] at b1
        obtain ⟨k2, y2, cc, dd, f1, f2, f3, f4, f5, f6⟩ := ci_follow_12 v vp vq vx (show sC s 0 ≤ 600 by omega) 4 (by omega) w m (h_ix i) g_N k y _ (by have := g_N_le; omega) (CB_M h) hw hm (by omega) b1 (by rw [b2]; exact c3)
        have f1' : fn_X7_follow (nI w) (nI m) i k = some (nI (0 + (s_ch s (h_ix x) (h_ix i)).length), k2, cc, dd) := by
          unfold fn_X7_follow
          rw [← e2] at f1
          exact f1
        rw [fg_if_0 c3, fg_if_0 c3, fg_o_1, fg_g_1 w1, fg_o_1, fg_g_1 w1, w4, w5, ew, em, f1', fg_bc_1, Nat.zero_add]
        refine ⟨k2, cc + 0, dd + 0, y2, rfl, f2, by omega, by omega, fun _ _ _ j z hz => ?_⟩
        have := f6 j z hz
        rw [show 4 - 4 + j = j by omega] at this
        exact this
    · rw [fg_if_0 c2, fg_if_0 (fun q => c2 q.2)]
      exact ⟨k, 0, 0, y, rfl, h, by omega, by omega, fun _ q => absurd q c2⟩
  · rw [fg_if_0 c1, fg_if_1 rfl, fg_if_0 (fun q => c1 q.1)]
    exact ⟨k, 0, 0, y, rfl, h, by omega, by omega, fun q => absurd q c1⟩
theorem cs_steps (h : CB k s y) (v : ivc s) (vp : ivp s) (vq : ivq s) (vx : ivx s) (vv : ivv s) (x i : Int32) : ∃ k2 c d y2, fn_X11_steps x i k = some ((s_steps s x i).1, k2, c, d) ∧ CB k2 (s_steps s x i).2 y2 ∧ c + zC y2 ≤ zC y ∧ d + zD y2 ≤ zD y := by
  obtain ⟨k2, c, d, y2, f1, f2, f3, f4, _⟩ := cs_steps0 h v vp vq vx vv x i
  exact ⟨k2, c, d, y2, f1, f2, f3, f4⟩
theorem cs_chain (h : CB k s y) (v : ivc s) (vp : ivp s) (vq : ivq s) (vx : ivx s) (vv : ivv s) (x i j : Int32) : ∃ k2 c d y2, fn_X11_chain x i j k = some ((s_chain s x i j).1, k2, c, d) ∧ CB k2 (s_chain s x i j).2 y2 ∧ c + zC y2 ≤ zC y ∧ d + zD y2 ≤ zD y := by
  obtain ⟨k2, c, d, y2, f1, f2, f3, f4, f5⟩ := cs_steps0 h v vp vq vx vv x i
  unfold fn_X11_chain s_chain
  rw [f1, fg_bc_1]
  unfold s_steps
  by_cases c1 : q_in x (sC s 4) ∧ q_in i (s_vs s (h_ix x)).length
  · simp only [fg_if_1 c1]
    by_cases c2 : s_vg s (h_ix x) (h_ix i) = -7
    · simp only [fg_if_1 c2]
      rw [fg_if_0 (by decide)]
      exact ⟨k2, _, _, y2, rfl, f2, by omega, by omega⟩
    · obtain ⟨n1, n2⟩ := s_cy_len (n_in c1.2).2
      have n3 := s_hm_len (s := s) (s_cy s (h_ix x) (h_ix i)).1 (s_cy s (h_ix x) (h_ix i)).2
      have n3' : (s_ch s (h_ix x) (h_ix i)).length ≤ 6 := by unfold s_ch; omega
      have f5 := f5 c1.1 c1.2 c2
      simp only [fg_if_0 c2]
      rw [fg_if_1 (n_0le (by omega)), ci_withinN _ (by omega), fg_b_1, q_b_if]
      unfold s_get
      by_cases c3 : q_in j (s_ch s (h_ix x) (h_ix i)).length
      · obtain ⟨e3, l3⟩ := n_in c3
        have g1 : vp_in j 6 := by rw [e3]; exact (n_vp (by omega)).mpr (by omega)
        rw [fg_if_1 c3, fg_if_1 c3, fg_g_1 g1, f5 _ _ (List.getElem?_eq_getElem l3), List.getElem?_eq_getElem l3]
        exact ⟨k2, _, _, y2, rfl, f2, by omega, by omega⟩
      · rw [fg_if_0 c3, fg_if_0 c3]
        exact ⟨k2, _, _, y2, rfl, f2, by omega, by omega⟩
  · simp only [fg_if_0 c1]
    rw [fg_if_0 (by decide)]
    exact ⟨k2, _, _, y2, rfl, f2, by omega, by omega⟩
end CCh
