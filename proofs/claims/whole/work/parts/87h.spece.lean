/-! the calls that change rows -/
def s_row (s : sA) (w : Int32) : List sP := sR s (h_ix w) (sC s 0)
def s_SH (s : sA) (w : Int32) : List Int32 := s_sh (sR s) 4 (h_ix w) (sC s 0)
def s_new (s : sA) (w : Int32) (l : List sP) : sA := uR s (h_ix w) (sC s 0 + 1) l
/-- how many are shown then -/
def s_then (s : sA) (w : Int32) (l : List sP) : Int32 := nI (s_sh (sR (s_new s w l)) 4 (h_ix w) (sC s 0 + 1)).length
/-- the row is kept, if it has room; how many places are shown then -/
noncomputable def s_keepS (s : sA) (w : Int32) (l : List sP) : Int32 × sA := fg_if (l.length ≤ 24) (s_then s w l, s_act (s_new s w l) (s_then s w l)) (-4, s)
noncomputable def s_keepP (s : sA) (w : Int32) (l : List sP) (a : Int32) : Int32 × sA := fg_if (l.length ≤ 24) (a, s_act (s_new s w l) a) (-4, s)
def s_brg (s : sA) (w : Int32) (at_ : Nat) (p : sP) : List sP := (e_oa (e_z s (sC s 0)) at_ 0 (s_row s w)).1 ++ p :: (e_oa (e_z s (sC s 0)) at_ 0 (s_row s w)).2
/-- there is such a writing, at is one of its places, or their end -/
def s_ahd (s : sA) (w at_ : Int32) : Prop := q_in w (sC s 2) ∧ q_in at_ ((s_SH s w).length + 1)
def s_qt (s : sA) (w : Int32) (u : Int32) : Prop := ¬ s_whyOf s (sF s 9 (h_ix w)) u 1 (nI (sC s 0)) = -9
noncomputable def s_seen (s : sA) (w at_ f n : Int32) : Int32 × sA := fg_if (s_ahd s w at_) (fg_if (n < 1) (-2, s) (fg_if (s_words s f n) (fg_if (∀ i, i < h_ix n → s_qt s w (sF s 25 (h_ix f + i))) (s_keepS s w (s_brg s w (h_ix at_) (1, f, n, -9, -9))) (-3, s)) (-1, s))) (-1, s)
noncomputable def s_span (s : sA) (w at_ o m a n : Int32) : Int32 × sA := fg_if (s_ahd s w at_ ∧ q_in o (sC s 2) ∧ q_in m ((sC s 0 : Nat) + 1)) (fg_if (q_in a 500 ∧ 1 ≤ n ∧ n ≤ 500) (fg_if (s_qt s w o) (s_keepS s w (s_brg s w (h_ix at_) (2, a, n, o, m))) (-3, s)) (-2, s)) (-1, s)
noncomputable def s_cut (s : sA) (w f n : Int32) : Int32 × sA := fg_if (q_in w (sC s 2) ∧ q_in f (s_SH s w).length) (fg_if (1 ≤ n ∧ n ≤ nI (s_SH s w).length - f) (s_keepS s w (e_lift (e_z s (sC s 0)) (h_ix f) (h_ix n) (s_row s w)).2) (-2, s)) (-1, s)
def s_mv (s : sA) (w f n o : Int32) : List sP :=
  let L := e_lift (e_z s (sC s 0)) (h_ix f) (h_ix n) (s_row s w)
  let A := e_oa (e_z s (sC s 0)) (if f < o then h_ix o - h_ix n else h_ix o) 0 L.2
  A.1 ++ (L.1 ++ A.2)
noncomputable def s_move (s : sA) (w f n o : Int32) : Int32 × sA := fg_if (q_in w (sC s 2) ∧ q_in f (s_SH s w).length ∧ q_in o ((s_SH s w).length + 1)) (fg_if (1 ≤ n ∧ n ≤ nI (s_SH s w).length - f) (fg_if (f < o ∧ o < f + n) (-3, s) (s_keepP s w (s_mv s w f n o) (nI (s_mv s w f n o).length))) (-2, s)) (-1, s)
noncomputable def s_again (s : sA) (w m : Int32) : Int32 × sA := fg_if (q_in w (sC s 2) ∧ q_in m ((sC s 0 : Nat) + 1)) (s_keepP s w (sR s (h_ix w) (h_ix m)) (nI (sR s (h_ix w) (h_ix m)).length)) (-1, s)
/-- pieces of all rows as they may be -/
def ivx (s : sA) : Prop := ∀ w m p, p ∈ sR s w m → s_pk s p
/-- words' homes, hands -/
def ivd (s : sA) : Prop := ∀ x, x < sC s 3 → (∃ w, w < sC s 2 ∧ sF s 25 x = nI w) ∧ (∃ h, h < sC s 1 ∧ sF s 24 x = nI h)
section SE
variable {s : sA}
theorem s_SH_end (w : Int32) : (s_SH s w).length = e_end (e_z s (sC s 0)) 0 (s_row s w) := by
  unfold s_SH s_row
  rw [← s_inf_len]
  exact l_end_len _ _ _
theorem e_brg_len (at_ : Nat) (w : Int32) (p : sP) (vp : ivp s) : (s_brg s w at_ p).length ≤ 26 := by
  unfold s_brg
  have := (e_oa_all (z := e_z s (sC s 0)) (s_row s w) at_ 0).1
  have h2 := (vp (h_ix w) (sC s 0)).1
  rw [List.length_append, List.length_cons]
  unfold s_row at *
  omega
end SE
section RE6
variable {t T : r_T} {s : sA}
def RAW (t : r_T) (s s2 : sA) : Prop := RN t s ∧ RF t s ∧ RH t s ∧ RG t s ∧ RW t s2 ∧ RK t s
/-- fields that may be used, but for the logs -/
def rsl (k : Nat) : Bool := rsc k || l_L.contains k
theorem RAW_of {S : List Nat} {s2 : sA} (h : RA t s) (f : r_fr S t T) (hs : ∀ k, k ∈ S → rsl k = true) (hW : RW T s2) : RAW T s s2 := by
  have n : ∀ k, rsl k = false → k ∉ S := fun k hk hm => by rw [hs k hm] at hk; exact absurd hk (by decide)
  have e1 : ∀ k, rsl k = false → T.1 k = t.1 k := fun k hk => f.1 k (n k hk)
  have e2 : ∀ k, rsl k = false → T.2 k = t.2 k := fun k hk => f.2 k (n k hk)
  obtain ⟨h1, h2, h3, h4, _, h6⟩ := h
  refine ⟨?_, fun k hk i => ?_, ?_, ?_, hW, ?_⟩
  · unfold RN at *
    rw [e1 1 rfl, e1 3 rfl, e1 8 rfl, e1 22 rfl, e1 55 rfl, e1 80 rfl, e1 89 rfl, e1 74 rfl, e1 105 rfl, e1 0 rfl, e1 114 rfl, e1 102 rfl, e1 103 rfl]
    exact h1
  · have : rsl k = false := by
      have hd : ∀ x, x ∈ ([2, 9, 23, 24, 25, 26, 27, 56, 57, 58, 59, 75, 78, 81, 82, 83, 84, 85, 86, 90, 91, 92, 93, 94, 95, 96, 97, 104, 110, 111, 112] : List Nat) → rsl x = false := by decide
      exact hd k (List.contains_iff_mem.mp hk)
    rw [e2 k this]
    exact h2 k hk i
  · unfold RH at *
    rw [e2 106 rfl, e2 107 rfl, e2 108 rfl]
    exact h3
  · exact RG_c h4 rfl (Nat.le_refl _) (e1 4 rfl) (e2 5 rfl) (e2 6 rfl) (e2 7 rfl)
  · unfold RK at *
    rw [e2 76 rfl, e2 77 rfl, e2 79 rfl]
    exact h6
theorem RAW_fr {S : List Nat} {s2 : sA} (h : RAW t s s2) (f : r_fr S t T) (hs : ∀ k, k ∈ S → rsc k = true) : RAW T s s2 := by
  have n : ∀ k, rsc k = false → k ∉ S := fun k hk hm => by rw [hs k hm] at hk; exact absurd hk (by decide)
  have e1 : ∀ k, rsc k = false → T.1 k = t.1 k := fun k hk => f.1 k (n k hk)
  have e2 : ∀ k, rsc k = false → T.2 k = t.2 k := fun k hk => f.2 k (n k hk)
  obtain ⟨h1, h2, h3, h4, h5, h6⟩ := h
  refine ⟨?_, fun k hk i => ?_, ?_, ?_, ?_, ?_⟩
  · unfold RN at *
    rw [e1 1 rfl, e1 3 rfl, e1 8 rfl, e1 22 rfl, e1 55 rfl, e1 80 rfl, e1 89 rfl, e1 74 rfl, e1 105 rfl, e1 0 rfl, e1 114 rfl, e1 102 rfl, e1 103 rfl]
    exact h1
  · rw [e2 k (by unfold rsc; rw [hk]; rfl)]
    exact h2 k hk i
  · unfold RH at *
    rw [e2 106 rfl, e2 107 rfl, e2 108 rfl]
    exact h3
  · exact RG_c h4 rfl (Nat.le_refl _) (e1 4 rfl) (e2 5 rfl) (e2 6 rfl) (e2 7 rfl)
  · exact RW_c h5 rfl (Nat.le_refl _) (e1 10 rfl) (e1 16 rfl) (e2 11 rfl) (e2 12 rfl) (e2 13 rfl) (e2 14 rfl) (e2 15 rfl) (e2 17 rfl) (e2 18 rfl) (e2 19 rfl) (e2 20 rfl) (e2 21 rfl)
  · unfold RK at *
    rw [e2 76 rfl, e2 77 rfl, e2 79 rfl]
    exact h6
theorem rs_actW {w m : Nat} {l : List sP} (h : RAW t s (s_act (uR s w m l) 0)) (x : Int32) : RA (rt_A (rt_F t 1 (nI (sC s 0 + 1))) 2 (sC s 0 + 1) (q_mix (sF s 2 (sC s 0)) x)) (s_act (uR s w m l) x) := by
  obtain ⟨h1, h2, h3, h4, h5, h6⟩ := h
  refine ⟨?_, ?_, ?_, ?_, ?_, ?_⟩
  · unfold RN at *
    simp only [s_act, rt_AF, rt_FF, sC_uF, sC_uC, sN_uF, sN_uC, sC_uR, sN_uR]
    simp [h1]
  · exact RF_A (s := uR s w m l) h2
  · intro i hi
    exact h3 i hi
  · exact RG_c h4 rfl (show sC s 0 ≤ sC s 0 + 1 by omega) rfl rfl rfl rfl
  · exact RW_c (s := s_act (uR s w m l) 0) (s2 := s_act (uR s w m l) x) h5 (show sR (uR s w m l) = sR (uR s w m l) from rfl) (show sC s 0 + 1 ≤ sC s 0 + 1 from Nat.le_refl _) rfl rfl rfl rfl rfl rfl rfl rfl rfl rfl rfl rfl
  · exact h6
theorem ri_actedW {s2 : sA} (h : RAW t s s2) (v : ivc s) (x : Int32) : fn_X12_acted x t = some (x, rt_A (rt_F t 1 (nI (sC s 0 + 1))) 2 (sC s 0 + 1) (q_mix (sF s 2 (sC s 0)) x)) := by
  have v1 := v.1
  unfold fn_X12_acted
  simp only [fg_let_1, rt_FF, if_true, h.1.1, n_p1, n_m1, rt_FA, ri_mix, fg_b_1]
  rw [fg_g_1 ((n_vp (by omega)).mpr (by omega)), fg_g_1 ((n_vp (by omega)).mpr (by omega)), q_nIx (by omega), q_nIx (by omega), h.2.1 2 rfl]
theorem ri_open (h : RA t s) (v : ivc s) (vp : ivp s) {w : Nat} (hw : w < 12) : ∃ T2, fn_X12_open (nI w) t = some ((), T2) ∧ T2.1 35 = nI (s_sh (sR s) 4 w (sC s 0)).length ∧ l_out T2 (s_inf s w (sC s 0)) ∧ T2.1 40 = nI (sR s w (sC s 0)).length ∧ l_W T2 0 (sR s w (sC s 0)) ∧ l_b T2 (e_z s (sC s 0)) (sR s w (sC s 0)) ∧ RA T2 s := by
  have v0 := v.1
  obtain ⟨T1, a1, a2, a3, _, _, a6⟩ := ri_lay h v vp hw (m := sC s 0) (by omega)
  obtain ⟨T2, b1, b2, b3, b4, b5, b6⟩ := ri_load a6 v hw (m := sC s 0) (by omega)
  have o2 : l_out T2 (s_inf s w (sC s 0)) := fun i y hy => by
    rw [b5.2 36 (by decide), b5.2 37 (by decide), b5.2 38 (by decide), b5.2 39 (by decide)]
    exact a3 i y hy
  have h35 : T2.1 35 = nI (s_sh (sR s) 4 w (sC s 0)).length := by rw [b5.1 35 (by decide)]; exact a2
  obtain ⟨T3, c1, c2, c3⟩ := ri_bound (s := s) (w := w) (m := sC s 0) b4 b2 (by rw [h35, ← s_inf_len]; rfl) o2
  refine ⟨T3, ?_, by rw [c2.1 35 (by decide)]; exact h35, fun i y hy => ?_, by rw [c2.1 40 (by decide)]; exact b2, l_W_tr (l_W_of b3) (fun i _ => ?_), c3, RA_fr b6 c2 (by decide)⟩
  · unfold fn_X12_open
    rw [h.1.1, a1, fg_b_1, a6.1.1, b1, fg_b_1, c1, fg_b_1]
  · rw [c2.2 36 (by decide), c2.2 37 (by decide), c2.2 38 (by decide), c2.2 39 (by decide)]
    exact o2 i y hy
  · unfold r_w
    rw [c2.2 41 (by decide), c2.2 42 (by decide), c2.2 43 (by decide), c2.2 44 (by decide), c2.2 45 (by decide)]
/-- a piece comes -/
theorem ri_come (h : RA t s) (v : ivc s) (v0 : sC s 0 < 512) (vp : ivp s) {w at_ : Nat} (hw : w < 12) (hat : at_ ≤ 300) (p : sP) (h40 : t.1 40 = nI (sR s w (sC s 0)).length) (hW : l_W t 0 (sR s w (sC s 0))) (hb : l_b t (e_z s (sC s 0)) (sR s w (sC s 0))) : ∃ T2, fn_X12_come (nI w) (nI at_) p.1 p.2.1 p.2.2.1 p.2.2.2.1 p.2.2.2.2 t = some (q_b ((s_brg s (nI w) at_ p).length ≤ 24), T2) ∧ ((s_brg s (nI w) at_ p).length ≤ 24 → RAW T2 s (s_act (s_new s (nI w) (s_brg s (nI w) at_ p)) 0)) ∧ (¬ (s_brg s (nI w) at_ p).length ≤ 24 → RA T2 s) := by
  have lR := (vp w (sC s 0)).1
  obtain ⟨T1, a1, a2, a3, a4⟩ := ri_openAt hat (by omega) h40 hW hb
  have ll := (e_oa_all (z := e_z s (sC s 0)) (sR s w (sC s 0)) at_ 0).1
  have er : s_row s (nI w) = sR s w (sC s 0) := by unfold s_row; rw [q_nIx (by omega)]
  unfold s_brg s_new
  rw [er, q_nIx (by omega)]
  generalize e_oa (e_z s (sC s 0)) at_ 0 (sR s w (sC s 0)) = A at a1 a3 a4 ll
  have lA : (A.1 ++ A.2).length ≤ 25 := by rw [List.length_append]; omega
  obtain ⟨T2, b1, b2, b3, b4⟩ := ri_widen (t := T1) (lo := A.1.length) (by_ := 1) (by omega) (by rw [List.length_append]; omega) a3
  obtain ⟨w1, w2⟩ := l_W_wid a4 rfl b4
  have es := ri_setPiece (t := T2) (show A.1.length < 60 by rw [List.length_append] at lA; omega) p
  have hW3 : l_W (rt_P T2 A.1.length p) 0 (A.1 ++ p :: A.2) := by
    refine l_W_app.mpr ⟨l_W_tr w1 (fun i hi => by rw [r_w_P, if_neg (by omega)]), l_W_cons.mpr ⟨by rw [r_w_P, if_pos (by omega)], l_W_tr w2 (fun i hi => ?_)⟩⟩
    rw [r_w_P, if_neg (by omega)]
    congr 1
    omega
  have f3 : r_fr l_R t (rt_P T2 A.1.length p) := r_frt a2 (r_frt b2 (r_frS (rt_P_fr T2 _ _) (by decide)))
  have h3 : RA (rt_P T2 A.1.length p) s := RA_fr h f3 (by decide)
  have eL : (A.1 ++ p :: A.2).length = (A.1 ++ A.2).length + 1 := by rw [List.length_append, List.length_append, List.length_cons]; omega
  obtain ⟨T4, c1, c2, c3⟩ := ri_store (t := rt_P T2 A.1.length p) (l := A.1 ++ p :: A.2) hw h3.2.2.2.2.1 h3.1.1 v0 (by omega) (by rw [eL]; exact b3) hW3
  refine ⟨T4, ?_, fun hc => ?_, fun hc => ?_⟩
  · unfold fn_X12_come
    have b1' : fn_X12_widen (nI A.1.length) 1 T1 = some ((), T2) := b1
    rw [a1, fg_b_1, b1', fg_b_1, es, fg_b_1, c1, fg_b_1, fg_g_1 (q_bt _)]
  · obtain ⟨d1, d2⟩ := c2 hc
    exact RAW_of h3 d1 (by decide) d2
  · rw [c3 hc]; exact h3
/-- then so many are shown; the act -/
theorem ri_then {w : Nat} {l : List sP} (v : ivc s) (v0 : sC s 0 < 512) (hw : w < 12) (h : RAW t s (s_act (s_new s (nI w) l) 0)) (vp2 : ivp (s_new s (nI w) l)) : ∃ T2, fn_X12_shownThen (nI w) t = some (s_then s (nI w) l, T2) ∧ RAW T2 s (s_act (s_new s (nI w) l) 0) := by
  have v2 : ivc (s_act (s_new s (nI w) l) 0) := ⟨show sC s 0 + 1 ≤ 512 by omega, v.2⟩
  unfold fn_X12_shownThen fn_X12_lay
  rw [h.1.1, n_p1, ri_logOf h.2.2.2.2.1 v2 hw, fg_b_1]
  obtain ⟨T2, f1, f2, f3, f4, f5⟩ := ri_layLog (s := s_act (s_new s (nI w) l) 0) v2 vp2 h.2.2.2.2.1 hw (m := sC s 0 + 1) (by omega) (l_row_of (m := sC s 0 + 1) h.2.2.2.2.1 v2 hw (by omega)) (fun q hq => by
    obtain ⟨p1, p2, p3, p4, p5⟩ := (vp2 w (sC s 0 + 1)).2 q hq
    exact ⟨p1, p2, p3, fun c => by obtain ⟨z, hz, e⟩ := p4 c; exact ⟨z, by have := v.2.2.1; have : z < sC s 2 := hz; omega, e⟩, p5⟩)
  rw [f1, fg_b_1, fg_b_1]
  refine ⟨T2, ?_, RAW_fr h f5 (by decide)⟩
  have e : nI (l_OUT (s_act (s_new s (nI w) l) 0) w (sC s 0 + 1) (sR (s_act (s_new s (nI w) l) 0) w (sC s 0 + 1))).length = s_then s (nI w) l := by
    unfold s_then
    rw [q_nIx (by omega)]
    exact congrArg nI (s_inf_len (s := s_act (s_new s (nI w) l) 0) w (sC s 0 + 1))
  rw [f2, e]
end RE6
