section RE7
variable {t T : r_T} {s : sA}
theorem ivp_new {w : Int32} {l : List sP} (vp : ivp s) (hl : l.length ≤ 24) (hp : ∀ p, p ∈ l → s_pk s p) : ivp (s_new s w l) := by
  intro u m
  show (if u = h_ix w ∧ sC s 0 + 1 ≤ m then l else sR s u m).length ≤ 24 ∧ ∀ p, p ∈ (if u = h_ix w ∧ sC s 0 + 1 ≤ m then l else sR s u m) → s_pok (sC s 2) p
  by_cases c : u = h_ix w ∧ sC s 0 + 1 ≤ m
  · rw [if_pos c]
    exact ⟨hl, fun p h => (hp p h).1⟩
  · rw [if_neg c]
    exact vp u m
theorem e_oa_pk (v : ivc s) {l : List sP} (hl : ∀ p, p ∈ l → s_pk s p) (at_ st : Nat) : (∀ p, p ∈ (e_oa (e_z s (sC s 0)) at_ st l).1 → s_pk s p) ∧ (∀ p, p ∈ (e_oa (e_z s (sC s 0)) at_ st l).2 → s_pk s p) := e_oa_P l at_ st (fun p hp => ⟨hl p hp, fun k h0 hk => s_pk_hd v (hl p hp) h0 hk⟩)
theorem e_lift_pk (v : ivc s) {l : List sP} (hl : ∀ p, p ∈ l → s_pk s p) {f n : Nat} (hn : 0 < n) : (∀ p, p ∈ (e_lift (e_z s (sC s 0)) f n l).1 → s_pk s p) ∧ (∀ p, p ∈ (e_lift (e_z s (sC s 0)) f n l).2 → s_pk s p) := by
  obtain ⟨a1, a2⟩ := e_oa_pk v hl f 0
  obtain ⟨b1, b2⟩ := e_ob_P (z := e_z s (sC s 0)) (P := s_pk s) (e_oa (e_z s (sC s 0)) f 0 l).2 (f + n) f (by omega) (fun p hp => ⟨a2 p hp, fun k h0 hk => s_pk_hd v (a2 p hp) h0 hk⟩)
  unfold e_lift
  refine ⟨b1, fun p hp => ?_⟩
  rcases List.mem_append.mp hp with w | w
  · exact a1 p w
  · exact b2 p w
theorem s_brg_pk (v : ivc s) (vx : ivx s) {w : Int32} {at_ : Nat} {p : sP} (hp : s_pk s p) : ∀ q, q ∈ s_brg s w at_ p → s_pk s q := by
  obtain ⟨a1, a2⟩ := e_oa_pk v (fun p hp => vx (h_ix w) (sC s 0) p hp) at_ 0
  intro q hq
  rcases List.mem_append.mp (show q ∈ (e_oa (e_z s (sC s 0)) at_ 0 (s_row s w)).1 ++ p :: (e_oa (e_z s (sC s 0)) at_ 0 (s_row s w)).2 from hq) with w1 | w1
  · exact a1 q w1
  · rcases List.mem_cons.mp w1 with w2 | w2
    · rw [w2]; exact hp
    · exact a2 q w2
theorem s_mv_pk (v : ivc s) (vx : ivx s) {w f n o : Int32} (hn : 0 < h_ix n) : ∀ q, q ∈ s_mv s w f n o → s_pk s q := by
  intro q hq
  obtain ⟨a1, a2⟩ := e_lift_pk v (l := s_row s w) (fun p hp => vx (h_ix w) (sC s 0) p hp) (f := h_ix f) hn
  obtain ⟨b1, b2⟩ := e_oa_pk v a2 (if f < o then h_ix o - h_ix n else h_ix o) 0
  rcases List.mem_append.mp (show q ∈ (e_oa (e_z s (sC s 0)) (if f < o then h_ix o - h_ix n else h_ix o) 0 (e_lift (e_z s (sC s 0)) (h_ix f) (h_ix n) (s_row s w)).2).1 ++ ((e_lift (e_z s (sC s 0)) (h_ix f) (h_ix n) (s_row s w)).1 ++ (e_oa (e_z s (sC s 0)) (if f < o then h_ix o - h_ix n else h_ix o) 0 (e_lift (e_z s (sC s 0)) (h_ix f) (h_ix n) (s_row s w)).2).2) from hq) with w1 | w1
  · exact b1 q w1
  · rcases List.mem_append.mp w1 with w2 | w2
    · exact a1 q w2
    · exact b2 q w2
theorem ri_keepS {w : Nat} {l : List sP} (v : ivc s) (v0 : sC s 0 < 512) (hw : w < 12) (vp : ivp s) (hp : ∀ p, p ∈ l → s_pk s p) (hc : l.length ≤ 24 → RAW T s (s_act (s_new s (nI w) l) 0)) (hn : ¬ l.length ≤ 24 → RA T s) : ∃ t2, fg_if (q_b (l.length ≤ 24) = 0) (some ((-4 : Int32), T)) (fg_b (fn_X12_shownThen (nI w) T) (fun p11 s10 => fg_b (fn_X12_acted p11 s10) (fun p14 s13 => some (p14, s13)))) = some ((s_keepS s (nI w) l).1, t2) ∧ RA t2 (s_keepS s (nI w) l).2 := by
  unfold s_keepS
  rw [q_b_if]
  by_cases c : l.length ≤ 24
  · simp only [fg_if_1 c]
    obtain ⟨T2, f1, f2⟩ := ri_then v v0 hw (hc c) (ivp_new vp c hp)
    rw [f1, fg_b_1, ri_actedW f2 v, fg_b_1]
    exact ⟨_, rfl, rs_actW f2 _⟩
  · simp only [fg_if_0 c]
    exact ⟨T, rfl, hn c⟩
theorem ri_noPlaceAhead (h : RA t s) (v : ivc s) (vp : ivp s) {w : Nat} (hw : w < 12) (a : Int32) : ∃ T2, fn_X12_noPlaceAhead (nI w) a t = some (q_b (¬ q_in a ((s_SH s (nI w)).length + 1)), T2) ∧ RA T2 s := by
  have v0 := v.1
  obtain ⟨T1, a1, a2, a3, _, _, a6⟩ := ri_lay h v vp hw (m := sC s 0) (by omega)
  have hl := s_sh_300 (sR s) 4 w (sC s 0)
  have e : (s_SH s (nI w)).length = (s_sh (sR s) 4 w (sC s 0)).length := by unfold s_SH; rw [q_nIx (by omega)]
  unfold fn_X12_noPlaceAhead
  rw [h.1.1, a1, fg_b_1, a2, ri_in, q_bc (q_in1n (by omega)), fg_b_1, e]
  exact ⟨T1, ri_nn, a6⟩
theorem rs_again (h : RA t s) (v : ivc s) (v0 : sC s 0 < 512) (vp : ivp s) (w m : Int32) : ∃ t2, fn_X12_again w m t = some ((s_again s w m).1, t2) ∧ RA t2 (s_again s w m).2 := by
  have v2 := v.2.2.1
  unfold fn_X12_again s_again
  rw [ri_noWriting h v, fg_b_1, q_bn_if]
  by_cases c1 : q_in w (sC s 2)
  · rw [fg_if_1 c1, ri_noMoment h v, fg_b_1, q_bn_if]
    by_cases c2 : q_in m ((sC s 0 : Nat) + 1)
    · have c : q_in w (sC s 2) ∧ q_in m ((sC s 0 : Nat) + 1) := ⟨c1, c2⟩
      rw [fg_if_1 c2]
      simp only [fg_if_1 c]
      obtain ⟨e1, l1⟩ := n_in c1
      obtain ⟨e2, l2⟩ := n_in (n := sC s 0 + 1) c2
      unfold s_keepP s_new
      generalize h_ix w = w2 at e1 l1
      generalize h_ix m = m2 at e2 l2
      subst e1 e2
      have hl := (vp w2 m2).1
      simp only [fg_if_1 hl]
      obtain ⟨T1, a1, a2, a3, a4, a5, a6⟩ := ri_load h v (w := w2) (m := m2) (by omega) (by omega)
      obtain ⟨T2, b1, b2, b3⟩ := ri_store (t := T1) (l := sR s w2 m2) (w := w2) (by omega) a6.2.2.2.2.1 a6.1.1 v0 a4 a2 (l_W_of a3)
      obtain ⟨d1, d2⟩ := b2 hl
      have hR : RAW T2 s (s_act (uR s w2 (sC s 0 + 1) (sR s w2 m2)) 0) := RAW_of a6 d1 (by decide) d2
      rw [a1, fg_b_1, b1, fg_b_1, d1.1 40 (by decide), a2, ri_actedW hR v, fg_b_1]
      exact ⟨_, rfl, rs_actW hR _⟩
    · have c : ¬ (q_in w (sC s 2) ∧ q_in m ((sC s 0 : Nat) + 1)) := fun q => c2 q.2
      rw [fg_if_0 c2]
      simp only [fg_if_0 c]
      exact ⟨t, rfl, h⟩
  · have c : ¬ (q_in w (sC s 2) ∧ q_in m ((sC s 0 : Nat) + 1)) := fun q => c1 q.1
    rw [fg_if_0 c1]
    simp only [fg_if_0 c]
    exact ⟨t, rfl, h⟩
/-- a call that brings a piece: open, come, .. -/
theorem ri_brings (h : RA t s) (v : ivc s) (v0 : sC s 0 < 512) (vp : ivp s) (vx : ivx s) {w a : Nat} (hw : w < 12) (ha : a ≤ 300) {p : sP} (hp : s_pk s p) : ∃ t2, fg_b (fn_X12_open (nI w) t) (fun _ s3 => fg_b (fn_X12_come (nI w) (nI a) p.1 p.2.1 p.2.2.1 p.2.2.2.1 p.2.2.2.2 s3) (fun p7 s6 => fg_if (p7 = 0) (some ((-4 : Int32), s6)) (fg_b (fn_X12_shownThen (nI w) s6) (fun p11 s10 => fg_b (fn_X12_acted p11 s10) (fun p14 s13 => some (p14, s13)))))) = some ((s_keepS s (nI w) (s_brg s (nI w) a p)).1, t2) ∧ RA t2 (s_keepS s (nI w) (s_brg s (nI w) a p)).2 := by
  obtain ⟨T1, a1, a2, a3, a4, a5, a6, a7⟩ := ri_open h v vp hw
  obtain ⟨T2, b1, b2, b3⟩ := ri_come a7 v v0 vp hw ha p a4 a5 a6
  rw [a1, fg_b_1, b1, fg_b_1]
  exact ri_keepS v v0 hw vp (s_brg_pk v vx hp) b2 b3
theorem rs_span (h : RA t s) (v : ivc s) (v0 : sC s 0 < 512) (vp : ivp s) (vx : ivx s) (vr : ivr s) (w a o m b n : Int32) : ∃ t2, fn_X12_span w a o m b n t = some ((s_span s w a o m b n).1, t2) ∧ RA t2 (s_span s w a o m b n).2 := by
  have v2 := v.2.2.1
  unfold fn_X12_span s_span
  have eno : ¬ (s_ahd s w a ∧ q_in o (sC s 2) ∧ q_in m ((sC s 0 : Nat) + 1)) → ∀ T, RA T s → ∃ t2, some ((-1 : Int32), T) = some ((fg_if (s_ahd s w a ∧ q_in o (sC s 2) ∧ q_in m ((sC s 0 : Nat) + 1)) (fg_if (q_in b 500 ∧ 1 ≤ n ∧ n ≤ 500) (fg_if (s_qt s w o) (s_keepS s w (s_brg s w (h_ix a) (2, b, n, o, m))) (-3, s)) (-2, s)) ((-1 : Int32), s)).1, t2) ∧ RA t2 (fg_if (s_ahd s w a ∧ q_in o (sC s 2) ∧ q_in m ((sC s 0 : Nat) + 1)) (fg_if (q_in b 500 ∧ 1 ≤ n ∧ n ≤ 500) (fg_if (s_qt s w o) (s_keepS s w (s_brg s w (h_ix a) (2, b, n, o, m))) (-3, s)) (-2, s)) ((-1 : Int32), s)).2 := by
    intro c T hT
    simp only [fg_if_0 c]
    exact ⟨T, rfl, hT⟩
  rw [ri_noWriting h v, fg_b_1, q_bn_if]
  by_cases c1 : q_in w (sC s 2)
  · rw [fg_if_1 c1, ri_noWriting h v, fg_b_1, q_bn_if]
    by_cases c2 : q_in o (sC s 2)
    · obtain ⟨e1, l1⟩ := n_in c1
      obtain ⟨T1, a1, a2⟩ := ri_noPlaceAhead h v vp (w := h_ix w) (by omega) a
      rw [← e1] at a1
      rw [fg_if_1 c2, a1, fg_b_1, q_bn_if]
      by_cases c3 : q_in a ((s_SH s w).length + 1)
      · rw [fg_if_1 c3, ri_noMoment a2 v, fg_b_1, q_bn_if]
        by_cases c4 : q_in m ((sC s 0 : Nat) + 1)
        · have c : s_ahd s w a ∧ q_in o (sC s 2) ∧ q_in m ((sC s 0 : Nat) + 1) := ⟨⟨c1, c3⟩, c2, c4⟩
          have ew : fn_X12_isWindow b n T1 = some (q_b (q_in b 500 ∧ 1 ≤ n ∧ n ≤ 500), T1) := by
            unfold fn_X12_isWindow
            have en : ((1 : Int64) ≤ n.toInt64 ∧ n.toInt64 ≤ 500) ↔ (1 ≤ n ∧ n ≤ 500) := q_c64 n 1 500 (by decide) (by decide)
            rw [ri_inC b 499 (n := 500) rfl, fg_b_1, q_b_if, ri_in, q_bc en, fg_b_1, q_b_if]
            by_cases d1 : q_in b 500
            · rw [fg_if_1 d1]
              by_cases d2 : 1 ≤ n ∧ n ≤ 500
              · rw [fg_if_1 d2, q_b1 ⟨d1, d2⟩]
              · rw [fg_if_0 d2, q_b0 (fun q => d2 q.2)]
            · rw [fg_if_0 d1, q_b0 (fun q => d1 q.1)]
          rw [fg_if_1 c4, ew, fg_b_1, q_b_if]
          simp only [fg_if_1 c]
          by_cases c5 : q_in b 500 ∧ 1 ≤ n ∧ n ≤ 500
          · simp only [fg_if_1 c5]
            obtain ⟨e2, l2⟩ := n_in c2
            obtain ⟨e3, l3⟩ := n_in (n := (s_SH s w).length + 1) c3
            obtain ⟨e4, l4⟩ := n_in (n := sC s 0 + 1) c4
            obtain ⟨e5, l5⟩ := n_in (n := 500) c5.1
            have hS : (s_SH s w).length ≤ 300 := s_sh_300 _ _ _ _
            have g1 : vp_in w 12 := by rw [e1]; exact (n_vp (by omega)).mpr (by omega)
            have hy := ri_whyOf a2 v vr (sF s 9 (h_ix w)) 1 (w := h_ix o) (m := sC s 0) (by omega) (by omega)
            rw [← e2] at hy
            rw [fg_g_1 g1, a2.2.1 9 rfl, a2.1.1, hy, fg_b_1]
            unfold s_qt
            by_cases c6 : s_whyOf s (sF s 9 (h_ix w)) o 1 (nI (sC s 0)) = -9
            · have c7 : ¬ ¬ s_whyOf s (sF s 9 (h_ix w)) o 1 (nI (sC s 0)) = -9 := fun q => q c6
              simp only [fg_if_1 c6, fg_if_0 c7]
              exact ⟨T1, rfl, a2⟩
            · simp only [fg_if_0 c6, fg_if_1 c6]
              have n1 := c5.2.1
              have n2 := c5.2.2
              rw [Int32.le_iff_toInt_le] at n1 n2
              have q1 : (1 : Int32).toInt = 1 := rfl
              have q5 : (500 : Int32).toInt = 500 := rfl
              have e6 := n_of (x := n) (by omega)
              have e7 := q_ix (x := n) (by omega)
              have hp : s_pk s ((2, b, n, o, m) : sP) := ⟨⟨⟨2, by omega, rfl⟩, ⟨h_ix n, by omega, by omega, e6⟩, ⟨h_ix b, by omega, e5⟩, fun _ => ⟨h_ix o, l2, e2⟩, fun _ => ⟨h_ix m, by omega, e4⟩⟩, fun q => absurd q (by show ¬ (2 : Int32) < 2; decide)⟩
              have := ri_brings a2 v v0 vp vx (w := h_ix w) (a := h_ix a) (by omega) (by omega) hp
              rw [← e1, ← e3] at this
              exact this
          · simp only [fg_if_0 c5]
            exact ⟨T1, rfl, a2⟩
        · rw [fg_if_0 c4]
          exact eno (fun q => c4 q.2.2) _ a2
      · rw [fg_if_0 c3]
        exact eno (fun q => c3 q.1.2) _ a2
    · rw [fg_if_0 c2]
      exact eno (fun q => c2 q.2.1) _ h
  · rw [fg_if_0 c1]
    exact eno (fun q => c1 q.1.1) _ h
theorem ri_seen_52 (h : RA t s) (v : ivc s) (v0 : sC s 0 < 512) (vp : ivp s) (vx : ivx s) (vr : ivr s) (vd : ivd s) {w a f n : Nat} (hw : w < 12) (ha : a ≤ 300) (hf : f + n ≤ sC s 3) (hn : 1 ≤ n) : ∀ (d j N : Nat), j + d = n → d < N → ∃ t2, fn_X12_seen_52 N (nI w) (nI a) (nI f) (nI n) (nI (f + j)) t = some ((fg_if (∀ i, j ≤ i → i < n → s_qt s (nI w) (sF s 25 (f + i))) (s_keepS s (nI w) (s_brg s (nI w) a (1, nI f, nI n, -9, -9))) ((-3 : Int32), s)).1, t2) ∧ RA t2 (fg_if (∀ i, j ≤ i → i < n → s_qt s (nI w) (sF s 25 (f + i))) (s_keepS s (nI w) (s_brg s (nI w) a (1, nI f, nI n, -9, -9))) ((-3 : Int32), s)).2 := by
  have v3 := v.2.2.2.1
  have v2 := v.2.2.1
  intro d
  induction d with
  | zero =>
    intro j N hj hN
    obtain ⟨N, rfl⟩ : ∃ m, N = m + 1 := ⟨N - 1, by omega⟩
    have c : ∀ i, j ≤ i → i < n → s_qt s (nI w) (sF s 25 (f + i)) := fun i h1 h2 => by omega
    simp only [fg_if_1 c]
    show ∃ t2, fn_X12_seen_52b _ _ _ _ _ _ _ = _ ∧ _
    unfold fn_X12_seen_52b
    rw [n_add, fg_if_1 ((n_le (by omega) (by omega)).mpr (by omega))]
    exact ri_brings h v v0 vp vx hw ha (p := (1, nI f, nI n, -9, -9)) ⟨⟨⟨1, by omega, rfl⟩, ⟨n, hn, by omega, rfl⟩, ⟨f, by omega, rfl⟩, fun q => absurd (show (1 : Int32) < 2 by decide) q, fun q => absurd q (by show ¬ (1 : Int32) = 2; decide)⟩, fun _ => by show h_ix (nI f) + h_ix (nI n) ≤ _; rw [q_nIx (by omega), q_nIx (by omega)]; exact hf⟩
  | succ d ih =>
    intro j N hj hN
    obtain ⟨N, rfl⟩ : ∃ m, N = m + 1 := ⟨N - 1, by omega⟩
    show ∃ t2, fn_X12_seen_52b (fn_X12_seen_52 N) _ _ _ _ _ _ = _ ∧ _
    unfold fn_X12_seen_52b
    obtain ⟨⟨u, hu, eu⟩, _⟩ := vd (f + j) (by omega)
    have hy := ri_whyOf h v vr (sF s 9 w) 1 (w := u) (m := sC s 0) (by omega) (by omega)
    rw [n_add, fg_if_0 (fun q => by have := (n_le (a := f + n) (b := f + j) (by omega) (by omega)).mp q; omega), fg_g_1 ((n_vp (by omega)).mpr hw), fg_g_1 ((n_vp (by omega)).mpr (by omega)), q_nIx (by omega), q_nIx (by omega), h.2.1 9 rfl, h.2.1 25 rfl, eu, h.1.1, hy, fg_b_1, n_p1]
    by_cases c6 : s_whyOf s (sF s 9 w) (nI u) 1 (nI (sC s 0)) = -9
    · have c : ¬ (∀ i, j ≤ i → i < n → s_qt s (nI w) (sF s 25 (f + i))) := fun q => by
        have := q j (Nat.le_refl _) (by omega)
        unfold s_qt at this
        rw [q_nIx (by omega), eu] at this
        exact this c6
      simp only [fg_if_1 c6, fg_if_0 c]
      exact ⟨t, rfl, h⟩
    · simp only [fg_if_0 c6]
      have := ih (j + 1) N (by omega) (by omega)
      have ec : (∀ i, j + 1 ≤ i → i < n → s_qt s (nI w) (sF s 25 (f + i))) ↔ (∀ i, j ≤ i → i < n → s_qt s (nI w) (sF s 25 (f + i))) := by
        constructor
        · intro q i h1 h2
          by_cases e : i = j
          · unfold s_qt
            rw [q_nIx (by omega), e, eu]
            exact c6
          · exact q i (by omega) h2
        · intro q i h1 h2; exact q i (by omega) h2
      simp only [fg_if_c ec] at this
      exact this
theorem rs_seen (h : RA t s) (v : ivc s) (v0 : sC s 0 < 512) (vp : ivp s) (vx : ivx s) (vr : ivr s) (vd : ivd s) (w a f n : Int32) : ∃ t2, fn_X12_seen w a f n t = some ((s_seen s w a f n).1, t2) ∧ RA t2 (s_seen s w a f n).2 := by
  have v2 := v.2.2.1
  unfold fn_X12_seen s_seen
  rw [ri_noWriting h v, fg_b_1, q_bn_if]
  by_cases c1 : q_in w (sC s 2)
  · obtain ⟨e1, l1⟩ := n_in c1
    obtain ⟨T1, a1, a2⟩ := ri_noPlaceAhead h v vp (w := h_ix w) (by omega) a
    rw [← e1] at a1
    rw [fg_if_1 c1, a1, fg_b_1, q_bn_if]
    by_cases c3 : q_in a ((s_SH s w).length + 1)
    · have c : s_ahd s w a := ⟨c1, c3⟩
      rw [fg_if_1 c3]
      simp only [fg_if_1 c]
      by_cases c4 : n < 1
      · rw [fg_if_0 (Int32.not_le.mpr c4)]
        simp only [fg_if_1 c4]
        exact ⟨T1, rfl, a2⟩
      · have c4' := Int32.not_lt.mp c4
        rw [fg_if_1 c4']
        simp only [fg_if_0 c4]
        have ew := ri_areWords a2 v f c4'
        unfold fn_X12_areWords at ew
        have ew2 : fg_if (f < 0) (some ((-1 : Int32), T1)) (fg_if (lg_cmp (f.toInt64 + n.toInt64) ((T1.1 22).toInt64) ≤ 0) (fn_X12_seen_52 g_N w a f n f T1) (some ((-1 : Int32), T1))) = fg_if (s_words s f n) (fn_X12_seen_52 g_N w a f n f T1) (some ((-1 : Int32), T1)) := by
          by_cases d1 : f < 0
          · rw [fg_if_1 d1] at ew ⊢
            have := congrArg (fun x : Option (Int32 × r_T) => x.map Prod.fst) ew
            have h0 : (0 : Int32) = q_b (s_words s f n) := Option.some.inj this
            rw [fg_if_0 ((q_b_eq0 _).mp h0.symm)]
          · rw [fg_if_0 d1] at ew ⊢
            by_cases d2 : 0 < lg_cmp (f.toInt64 + n.toInt64) ((T1.1 22).toInt64)
            · rw [fg_if_1 d2] at ew
              have := congrArg (fun x : Option (Int32 × r_T) => x.map Prod.fst) ew
              have h0 : (0 : Int32) = q_b (s_words s f n) := Option.some.inj this
              rw [fg_if_0 (Int32.not_le.mpr d2), fg_if_0 ((q_b_eq0 _).mp h0.symm)]
            · rw [fg_if_0 d2] at ew
              have := congrArg (fun x : Option (Int32 × r_T) => x.map Prod.fst) ew
              have h0 : (1 : Int32) = q_b (s_words s f n) := Option.some.inj this
              have h1 : s_words s f n := Classical.byContradiction (fun q => by rw [q_b0 q] at h0; exact absurd h0 (by decide))
              rw [fg_if_1 (Int32.not_lt.mp d2), fg_if_1 h1]
        rw [ew2]
        by_cases c5 : s_words s f n
        · simp only [fg_if_1 c5]
          obtain ⟨e3, l3⟩ := n_in (n := (s_SH s w).length + 1) c3
          have hS : (s_SH s w).length ≤ 300 := s_sh_300 _ _ _ _
          obtain ⟨e4, e5, l4, l5⟩ := s_wordsN c5
          have v3 := v.2.2.2.1
          have := ri_seen_52 a2 v v0 vp vx vr vd (w := h_ix w) (a := h_ix a) (f := h_ix f) (n := h_ix n) (by omega) (by omega) l5 l4 (h_ix n) 0 g_N (by omega) (by have := g_N_le; omega)
          rw [Nat.add_zero, ← e1, ← e3, ← e4, ← e5] at this
          have ec : (∀ i, 0 ≤ i → i < h_ix n → s_qt s w (sF s 25 (h_ix f + i))) ↔ (∀ i, i < h_ix n → s_qt s w (sF s 25 (h_ix f + i))) := ⟨fun q i hi => q i (Nat.zero_le _) hi, fun q i _ hi => q i hi⟩
          simp only [fg_if_c ec] at this
          exact this
        · simp only [fg_if_0 c5]
          exact ⟨T1, rfl, a2⟩
    · have c : ¬ s_ahd s w a := fun q => c3 q.2
      rw [fg_if_0 c3]
      simp only [fg_if_0 c]
      exact ⟨T1, rfl, a2⟩
  · have c : ¬ s_ahd s w a := fun q => c1 q.1
    rw [fg_if_0 c1]
    simp only [fg_if_0 c]
    exact ⟨t, rfl, h⟩
end RE7
