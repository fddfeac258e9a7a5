section CCa
variable {k k2 k3 : h_S} {s : sA} {y : c_Y} {M : Nat}
theorem s_SHn {w : Nat} (hw : w < 2 ^ 31) : s_SH s (nI w) = s_sh (sR s) 4 w (sC s 0) := by unfold s_SH; rw [q_nIx hw]
theorem ci_sizeNow (h : CB k s y) (v : ivc s) (vp : ivp s) (vq : ivq s) {w : Nat} (hw : w < sC s 2) : ∃ k2 y2 c e, fn_X7_sizeAsOf (nI w) (h_i k 0 0) k = some (nI (s_SH s (nI w)).length, k2, c, e) ∧ CB k2 s y2 ∧ c + zC y2 ≤ zC y ∧ e + zD y2 ≤ zD y ∧ c_ag (c_fxS 4) c_tgS k k2 := by
  have v0 := v.1
  have v2 := v.2.2.1
  obtain ⟨k2, y2, c, e, f1, f2, f3, f4, f5, f6⟩ := CB_size (CB_M h) v vp vq (by omega) hw (m := sC s 0) (Nat.le_refl _)
  rw [h.2.1.1, s_SHn (by omega)]
  exact ⟨k2, y2, c, e, f1, f2, f4, f5, f6⟩
theorem ci_takesAhead (h : CB k s y) (v : ivc s) (vp : ivp s) (vq : ivq s) (w a : Int32) : ∃ k2 y2 c e, fn_X11_takesAhead w a k = some (q_b (s_ahd s w a), k2, c, e) ∧ CB k2 s y2 ∧ c + zC y2 ≤ zC y ∧ e + zD y2 ≤ zD y := by
  have hS : (s_SH s w).length ≤ 300 := s_sh_300 _ _ _ _
  have e0 : (0 : Int32).toInt = 0 := rfl
  unfold fn_X11_takesAhead
  rw [ci_isWriting h.2.1 v, fg_b_1, q_b_if]
  by_cases c1 : q_in w (sC s 2)
  · rw [fg_if_1 c1]
    by_cases c2 : a < 0
    · rw [fg_if_1 c2, q_b0 (fun q => by rw [Int32.lt_iff_toInt_lt] at c2; have := q.2.1; omega)]
      exact ⟨k, y, 0, 0, rfl, h, by omega, by omega⟩
    · obtain ⟨e1, l1⟩ := n_in c1
      obtain ⟨k2, y2, c, e, f1, f2, f3, f4, f5⟩ := ci_sizeNow h v vp vq l1
      rw [← e1] at f1
      rw [fg_if_0 c2, f1, fg_bc_1]
      rw [Int32.lt_iff_toInt_lt] at c2
      by_cases c3 : nI (s_SH s w).length < a
      · rw [fg_if_1 c3, q_b0 (fun q => by rw [Int32.lt_iff_toInt_lt, q_nI (by omega)] at c3; have := q.2.2; omega)]
        exact ⟨k2, y2, c + 0, e + 0, rfl, f2, by omega, by omega⟩
      · rw [fg_if_0 c3, q_b1 ⟨c1, by rw [Int32.lt_iff_toInt_lt, q_nI (by omega)] at c3; exact ⟨by omega, by omega⟩⟩]
        exact ⟨k2, y2, c + 0, e + 0, rfl, f2, by omega, by omega⟩
  · rw [fg_if_0 c1, q_b0 (fun q => c1 q.1)]
    exact ⟨k, y, 0, 0, rfl, h, by omega, by omega⟩
theorem ci_isPlaceOf (h : CB k s y) (v : ivc s) (vp : ivp s) (vq : ivq s) (w f : Int32) : ∃ k2 y2 c e, fn_X11_isPlaceOf w f k = some (q_b (q_in w (sC s 2) ∧ q_in f (s_SH s w).length), k2, c, e) ∧ CB k2 s y2 ∧ c + zC y2 ≤ zC y ∧ e + zD y2 ≤ zD y := by
  have hS : (s_SH s w).length ≤ 300 := s_sh_300 _ _ _ _
  unfold fn_X11_isPlaceOf
  rw [ci_isWriting h.2.1 v, fg_b_1, q_b_if]
  by_cases c1 : q_in w (sC s 2)
  · obtain ⟨e1, l1⟩ := n_in c1
    obtain ⟨k2, y2, c, e, f1, f2, f3, f4, f5⟩ := ci_sizeNow h v vp vq l1
    rw [← e1] at f1
    rw [fg_if_1 c1, f1, fg_bc_1, ci_withinN _ (by omega), fg_b_1, q_b_if]
    by_cases c3 : q_in f (s_SH s w).length
    · rw [fg_if_1 c3, q_b1 ⟨c1, c3⟩]
      exact ⟨k2, y2, c + 0, e + 0, rfl, f2, by omega, by omega⟩
    · rw [fg_if_0 c3, q_b0 (fun q => c3 q.2)]
      exact ⟨k2, y2, c + 0, e + 0, rfl, f2, by omega, by omega⟩
  · rw [fg_if_0 c1, q_b0 (fun q => c1 q.1)]
    exact ⟨k, y, 0, 0, rfl, h, by omega, by omega⟩
theorem cs_again (h : CB k s y) (v : ivc s) (g : ivg s) (v0 : sC s 0 < 512) (vp : ivp s) (vq : ivq s) (vv : ivv s) (w m : Int32) : ∃ k2 c d y2, fn_X11_again w m k = some ((s_again s w m).1, k2, c, d) ∧ CB k2 (s_again s w m).2 y2 ∧ c + zC y2 ≤ zC y + 1 ∧ d + zD y2 ≤ zD y + 3 := by
  have v2 := v.2.2.1
  have hF := h.1
  unfold fn_X11_again s_again
  rw [ci_isWriting h.2.1 v, fg_b_1, q_b_if]
  by_cases c1 : q_in w (sC s 2)
  · rw [fg_if_1 c1, ci_isMoment h.2.1 v, fg_b_1, q_b_if]
    by_cases c2 : q_in m ((sC s 0 : Nat) + 1)
    · have c : q_in w (sC s 2) ∧ q_in m ((sC s 0 : Nat) + 1) := ⟨c1, c2⟩
      rw [fg_if_1 c2]
      simp only [fg_if_1 c]
      obtain ⟨e1, l1⟩ := n_in c1
      obtain ⟨e2, l2⟩ := n_in (n := sC s 0 + 1) c2
      unfold s_keepP
      generalize hw2 : h_ix w = w2 at e1 l1
      generalize hm2 : h_ix m = m2 at e2 l2
      subst e1 e2
      have hl := (vp w2 m2).1
      simp only [fg_if_1 hl]
      obtain ⟨q, eq⟩ : ∃ q, c_ad 4 k = q := ⟨_, rfl⟩
      have q0 : h_k k q = 0 := by rw [← eq]; exact cf_z hF rfl
      have q8 : 128 ≤ q := by rw [← eq]; unfold c_ad; omega
      have F5 : c_F (h_nw k q 25 3) := cf_nw hF eq.symm (by decide)
      have gj : c_jk k (h_nw k q 25 3) := fun a ha => c_eq_nw (fun e => by
        rcases ha with z | z
        · exact z (by rw [e]; exact q0)
        · omega)
      have h5 : CBM (h_nw k q 25 3) s (sC s 0) y := CB_junk (CB_M h) F5 gj
      obtain ⟨b, b1, b2⟩ := ci_piecesAsOf ⟨h5.1, h5.2.1.2.2.1, h5.2.2.2.2.2.2.2.2.2.2.2.2.1, h5.2.2.2.2.2.2.2.2.2.2.2.2.2⟩ v l1 (m := m2) (by omega)
      have b2' : c_ps k b (sR s w2 m2) := by
        have hb : b ≠ q ∧ (h_k k b ≠ 0 ∨ b < 128) := by
          rcases b2.1 with z | z
          · exact ⟨by omega, Or.inr (by omega)⟩
          · have : b ≠ q := fun e => by have := b2.2.1; rw [e, h_k_nw, if_pos rfl] at this; exact absurd this (by decide)
            exact ⟨this, Or.inl (by have := b2.2.1; rw [h_k_nw, if_neg ‹b ≠ q›] at this; rw [this]; decide)⟩
        have e := gj b hb.2
        refine ⟨b2.1, by rw [← e.1]; exact b2.2.1, by rw [← e.2.1]; exact b2.2.2.1, fun j p hp => ?_⟩
        obtain ⟨c, c1, c2⟩ := b2.2.2.2 j p hp
        have nc : c ≠ q := fun e => by have := c2.2.1; rw [e, h_k_nw, if_pos rfl] at this; exact absurd this (by decide)
        refine ⟨c, by rw [← e.2.2.2]; exact c1, ?_⟩
        unfold c_pc at *
        rw [h_k_nw, if_neg nc] at c2
        simp only [h_i_nw, if_neg nc] at c2
        exact c2
      have hb : h_k k b ≠ 0 ∨ b < 128 := Or.inl (by rw [b2'.2.1]; decide)
      obtain ⟨K2, f1, f2, f3, f4, f5, f6, f7, f8, f9, f10⟩ := ci_rowobj (w := w2) hF eq (b := b) hb (nI (sC s 0 + 1)) (by omega)
      have e16 : h_r (h_nw k q 25 3) 16 = h_r k 16 := by funext j; rw [h_r_nw, if_neg (by omega)]
      have hb16 : b ≠ 16 := by
        rcases b2'.1 with z | z
        · omega
        · have := z.1; omega
      have eb := f3 b hb hb16
      have hN := CB_row (b := b) (CB_M h) v v0 vq vv l1 f2 f3 f4 f5 f6 f7 f8 f9 (l := sR s w2 m2) ⟨b2'.1, by rw [eb.1]; exact b2'.2.1, by rw [eb.2.1]; exact b2'.2.2.1, fun j p hp => by
        obtain ⟨c, c1, c2⟩ := b2'.2.2.2 j p hp
        have ec := f3 c (Or.inl (by rw [c2.2.1]; decide)) (by have := c2.1.1; omega)
        refine ⟨c, by rw [eb.2.2.2]; exact c1, ?_⟩
        unfold c_pc at *
        rw [ec.1, ec.2.2.1]; exact c2⟩
      have er : fn_X7_returnTo (nI w2) (nI m2) (nI (sC s 0 + 1)) k = some ((), h_sr K2 16 w2 (some q), 1, 3) := by
        unfold fn_X7_returnTo
        rw [h.2.1.2.2.1, ci_withinN _ (by omega), fg_b_1, q_b_if, fg_if_1 ((n_inI (by omega)).mpr l1), fg_let_1, fg_let_1, eq, b1, fg_b_1, fg_g_1 ((n_vp (by omega)).mpr (by omega)), q_nIx (by omega), e16, f1, fg_b_1, fg_g_1 ((n_vp (by omega)).mpr (by omega)), fg_g_1 f10, fg_let_1]
        rfl
      rw [h.2.1.1, n_p1, er, fg_bc_1, ci_pcNew hN v l1 (by rw [yH_UH, if_pos rfl]), fg_b_1, ci_acted hN.2.1.1 v.1, fg_b_1]
      simp only [fg_c_1]
      refine ⟨_, _, _, _, rfl, cs_act hN (Nat.le_refl _) g _, ?_, ?_⟩
      · show 1 + 0 + zC y ≤ _; omega
      · show 3 + 0 + zD y ≤ _; omega
    · have c : ¬ (q_in w (sC s 2) ∧ q_in m ((sC s 0 : Nat) + 1)) := fun q => c2 q.2
      rw [fg_if_0 c2]
      simp only [fg_if_0 c]
      exact ⟨k, 0, 0, y, rfl, h, by omega, by omega⟩
  · have c : ¬ (q_in w (sC s 2) ∧ q_in m ((sC s 0 : Nat) + 1)) := fun q => c1 q.1
    rw [fg_if_0 c1]
    simp only [fg_if_0 c]
    exact ⟨k, 0, 0, y, rfl, h, by omega, by omega⟩
/-- a new piece, shown with it -/
theorem ci_newShows (h : CB k s y) (v : ivc s) (g : ivg s) (v0 : sC s 0 < 512) (vt : ivt s) (vp : ivp s) (vq : ivq s) (vx : ivx s) (vv : ivv s) {w a : Nat} (hw : w < sC s 2) (ha : a ≤ 300) {p : sP} (hp : s_pn s (sC s 0) p) : ∃ k2 c d y2, fg_let (c_ad 1 k) (fun q30 => fg_c 1 5 (fg_let (h_nw k q30 23 5) (fun s34 => fg_b (fn_X2_init q30 p.1 p.2.1 p.2.2.1 p.2.2.2.1 p.2.2.2.2 s34) (fun _ s37 => fg_bc (fn_X11_showsWith (nI w) (nI a) (some q30) s37) (fun p41 s40 => some (p41, s40, 0, 0)))))) = some ((s_keepS s (nI w) (s_brg s (nI w) a p)).1, k2, c, d) ∧ CB k2 (s_keepS s (nI w) (s_brg s (nI w) a p)).2 y2 ∧ c + zC y2 ≤ zC y + 5 ∧ d + zD y2 ≤ zD y + 42 := by
  rw [fg_let_1, fg_let_1]
  obtain ⟨q, eq⟩ : ∃ q, c_ad 1 k = q := ⟨_, rfl⟩
  rw [eq]
  obtain ⟨K2, f1, f2, f3, f4, _⟩ := ci_pnew h.1 eq p.1 p.2.1 p.2.2.1 p.2.2.2.1 p.2.2.2.2
  obtain ⟨k3, y3, c, e, g1, g2, g3, g4⟩ := ci_showsWith (CB_junk (CB_M h) f2 f4) v g v0 vt vp vq vx vv hw ha f3 hp
  rw [f1, fg_b_1, g1, fg_bc_1]
  simp only [fg_c_1]
  exact ⟨k3, _, _, y3, rfl, g2, by omega, by omega⟩
theorem cs_span (h : CB k s y) (v : ivc s) (g : ivg s) (v0 : sC s 0 < 512) (vt : ivt s) (vp : ivp s) (vq : ivq s) (vx : ivx s) (vv : ivv s) (vr : ivr2 s) (w a o m b n : Int32) : ∃ k2 c d y2, fn_X11_span w a o m b n k = some ((s_span s w a o m b n).1, k2, c, d) ∧ CB k2 (s_span s w a o m b n).2 y2 ∧ c + zC y2 ≤ zC y + 5 ∧ d + zD y2 ≤ zD y + 42 := by
  have v2 := v.2.2.1
  obtain ⟨K1, y1, x1, z1, a1, a2, a3, a4⟩ := ci_takesAhead h v vp vq w a
  unfold fn_X11_span s_span
  rw [a1, fg_bc_1, q_b_if]
  by_cases c1 : s_ahd s w a
  · rw [fg_if_1 c1, ci_isWriting a2.2.1 v, fg_b_1, q_b_if]
    by_cases c2 : q_in o (sC s 2)
    · rw [fg_if_1 c2, ci_isMoment a2.2.1 v, fg_b_1, q_b_if]
      by_cases c3 : q_in m ((sC s 0 : Nat) + 1)
      · have c : s_ahd s w a ∧ q_in o (sC s 2) ∧ q_in m ((sC s 0 : Nat) + 1) := ⟨c1, c2, c3⟩
        have est : fn_X11_isStretch b n K1 = some (q_b (q_in b 500 ∧ 1 ≤ n ∧ n ≤ 500), K1) := by
          unfold fn_X11_isStretch
          rw [show (500 : Int32) = nI 500 from rfl, ci_withinN _ (by decide), fg_b_1, q_b_if]
          by_cases d1 : q_in b 500
          · have d1' : q_in b ((500 : Nat) : Int) := d1
            rw [fg_if_1 d1']
            by_cases d2 : n < 1
            · rw [fg_if_1 d2, q_b0 (fun q => Int32.not_le.mpr d2 q.2.1)]
            · rw [fg_if_0 d2]
              by_cases d3 : nI 500 < n
              · rw [fg_if_1 d3, q_b0 (fun q => Int32.not_le.mpr d3 q.2.2)]
              · rw [fg_if_0 d3, q_b1 ⟨d1, Int32.not_lt.mp d2, Int32.not_lt.mp d3⟩]
          · have d1' : ¬ q_in b ((500 : Nat) : Int) := d1
            rw [fg_if_0 d1', q_b0 (fun q => d1 q.1)]
        rw [fg_if_1 c3, est, fg_b_1, q_b_if]
        simp only [fg_if_1 c]
        by_cases c4 : q_in b 500 ∧ 1 ≤ n ∧ n ≤ 500
        · simp only [fg_if_1 c4]
          obtain ⟨e1, l1⟩ := n_in c1.1
          obtain ⟨e2, l2⟩ := n_in c2
          obtain ⟨e3, l3⟩ := n_in (n := (s_SH s w).length + 1) c1.2
          obtain ⟨e4, l4⟩ := n_in (n := sC s 0 + 1) c3
          obtain ⟨e5, l5⟩ := n_in (n := 500) c4.1
          have hS : (s_SH s w).length ≤ 300 := s_sh_300 _ _ _ _
          have ho := ci_ownerOf (CB_M a2) v l1
          rw [← e1] at ho
          have hm := ci_mayUse (CB_M a2) v vr l2 (m := sC s 0) (u := 1) (Nat.le_refl _) (by omega) (sF s 9 (h_ix w))
          rw [← e2] at hm
          have hm' : fn_X11_mayUse (sF s 9 (h_ix w)) o 1 (nI (sC s 0)) K1 = some (q_b (s_qt s w o), K1) := hm
          rw [ho, fg_b_1, a2.2.1.1, hm', fg_b_1, q_b_if]
          by_cases c5 : s_qt s w o
          · simp only [fg_if_1 c5]
            have n1 := c4.2.1
            have n2 := c4.2.2
            rw [Int32.le_iff_toInt_le] at n1 n2
            have q1 : (1 : Int32).toInt = 1 := rfl
            have q5 : (500 : Int32).toInt = 500 := rfl
            have e6 := n_of (x := n) (by omega)
            have e7 := q_ix (x := n) (by omega)
            have hp : s_pn s (sC s 0) ((2, b, n, o, m) : sP) := ⟨⟨⟨⟨2, by omega, rfl⟩, ⟨h_ix n, by omega, by omega, e6⟩, ⟨h_ix b, by omega, e5⟩, fun _ => ⟨h_ix o, l2, e2⟩, fun _ => ⟨h_ix m, by omega, e4⟩⟩, fun q => absurd q (by show ¬ (2 : Int32) < 2; decide)⟩, fun _ => by show h_ix m ≤ _; omega⟩
            obtain ⟨k2, cc, dd, y2, f1, f2, f3, f4⟩ := ci_newShows a2 v g v0 vt vp vq vx vv l1 (a := h_ix a) (by omega) hp
            rw [← e1, ← e3] at f1
            rw [← e1] at f2
            have f1' := f1
            dsimp only at f1'
            rw [f1', fg_c_1]
            exact ⟨k2, _, _, y2, rfl, f2, by omega, by omega⟩
          · simp only [fg_if_0 c5, fg_c_1]
            exact ⟨K1, _, _, y1, rfl, a2, by omega, by omega⟩
        · simp only [fg_if_0 c4, fg_c_1]
          exact ⟨K1, _, _, y1, rfl, a2, by omega, by omega⟩
      · have c : ¬ (s_ahd s w a ∧ q_in o (sC s 2) ∧ q_in m ((sC s 0 : Nat) + 1)) := fun q => c3 q.2.2
        rw [fg_if_0 c3]
        simp only [fg_if_0 c, fg_c_1]
        exact ⟨K1, _, _, y1, rfl, a2, by omega, by omega⟩
    · have c : ¬ (s_ahd s w a ∧ q_in o (sC s 2) ∧ q_in m ((sC s 0 : Nat) + 1)) := fun q => c2 q.2.1
      rw [fg_if_0 c2]
      simp only [fg_if_0 c, fg_c_1]
      exact ⟨K1, _, _, y1, rfl, a2, by omega, by omega⟩
  · have c : ¬ (s_ahd s w a ∧ q_in o (sC s 2) ∧ q_in m ((sC s 0 : Nat) + 1)) := fun q => c1 q.1
    rw [fg_if_0 c1]
    simp only [fg_if_0 c, fg_c_1]
    exact ⟨K1, _, _, y1, rfl, a2, by omega, by omega⟩
theorem s_lift_pn (v : ivc s) (vx : ivx s) (vq : ivq s) {w f n : Nat} (hn : 0 < n) : (∀ p, p ∈ (e_lift (e_z s (sC s 0)) f n (sR s w (sC s 0))).1 → s_pn s (sC s 0) p) ∧ (∀ p, p ∈ (e_lift (e_z s (sC s 0)) f n (sR s w (sC s 0))).2 → s_pn s (sC s 0) p) := by
  obtain ⟨a1, a2⟩ := e_oa_pn (m := sC s 0) v (s_row_pn vx vq w) f 0
  obtain ⟨b1, b2⟩ := e_ob_pn (m := sC s 0) v a2 (at_ := f + n) (st := f) (by omega)
  unfold e_lift
  refine ⟨b1, fun p hp => ?_⟩
  rcases List.mem_append.mp hp with z | z
  · exact a1 p z
  · exact b2 p z
/-- takeOut: lift, and what is left is kept -/
theorem ci_takeOut (h : CBM k s (sC s 0) y) (v : ivc s) (v0 : sC s 0 < 512) (vt : ivt s) (vp : ivp s) (vq : ivq s) (vx : ivx s) (vv : ivv s) {w f n : Nat} (hw : w < sC s 2) (hn : 0 < n) (hfn : f + n ≤ (s_SH s (nI w)).length) : ∃ k2 y2 c e, fn_X11_takeOut (nI w) (nI f) (nI n) k = some (q_b ((e_lift (e_z s (sC s 0)) f n (sR s w (sC s 0))).2.length ≤ 24), k2, c, e) ∧ c + zC y2 ≤ zC y + 6 ∧ e + zD y2 ≤ zD y + 47 ∧ ((e_lift (e_z s (sC s 0)) f n (sR s w (sC s 0))).2.length ≤ 24 → CBM k2 (s_new s (nI w) (e_lift (e_z s (sC s 0)) f n (sR s w (sC s 0))).2) (sC s 0 + 1) y2 ∧ y2.1 = y.1 ∧ y2.2.1 = y.2.1) ∧ (¬ (e_lift (e_z s (sC s 0)) f n (sR s w (sC s 0))).2.length ≤ 24 → CBM k2 s (sC s 0) y2) := by
  have v2 := v.2.2.1
  have hS : (s_SH s (nI w)).length ≤ 300 := s_sh_300 _ _ _ _
  have eS := s_SH_end (s := s) (nI w)
  unfold s_row at eS
  rw [q_nIx (by omega)] at eS
  obtain ⟨K1, y1, c1, e1, a1, a2, a3, a4, a5, a6, a7, a8, a9, a10⟩ := ci_lift (f := f) (n := n) h v v0 vt vp vq vx hw hn (by omega) (by omega)
  have lR := (vp w (sC s 0)).1
  have lo := (e_oa_all (z := e_z s (sC s 0)) (sR s w (sC s 0)) f 0).1
  have lb := e_ob_all (z := e_z s (sC s 0)) (e_oa (e_z s (sC s 0)) f 0 (sR s w (sC s 0))).2 (f + n) f
  have m1 : (e_lift (e_z s (sC s 0)) f n (sR s w (sC s 0))).2.length ≤ 26 := by unfold e_lift; rw [List.length_append]; omega
  obtain ⟨K4, c4, e4, n1, n2, n3, n4, n5⟩ := ci_keepLaid a2 v v0 vq vv hw (by omega) a5 a3
  have fe : fn_X11_takeOut (nI w) (nI f) (nI n) k = some (q_b ((e_lift (e_z s (sC s 0)) f n (sR s w (sC s 0))).2.length ≤ 24), K4, c1 + (c4 + 0), e1 + (e4 + 0)) := by
    unfold fn_X11_takeOut
    rw [h.2.1.1, a1, fg_bc_1, a2.2.1.1, n_p1, n1, fg_bc_1, fg_g_1 (q_bt _)]
    rfl
  by_cases c : (e_lift (e_z s (sC s 0)) f n (sR s w (sC s 0))).2.length ≤ 24
  · refine ⟨K4, yUH y1 w ((sC s 0 + 1, (e_lift (e_z s (sC s 0)) f n (sR s w (sC s 0))).2) :: yH y1 w), _, _, fe, ?_, ?_, fun _ => ⟨n4 c, a9, a10⟩, fun z => absurd c z⟩
    · show _ + zC y1 ≤ _; omega
    · show _ + zD y1 ≤ _; omega
  · refine ⟨K4, y1, _, _, fe, by omega, by omega, fun z => absurd z c, fun _ => by rw [n5 c]; exact a2⟩
theorem cs_cut (h : CB k s y) (v : ivc s) (g : ivg s) (v0 : sC s 0 < 512) (vt : ivt s) (vp : ivp s) (vq : ivq s) (vx : ivx s) (vv : ivv s) (w f n : Int32) : ∃ k2 c d y2, fn_X11_cut w f n k = some ((s_cut s w f n).1, k2, c, d) ∧ CB k2 (s_cut s w f n).2 y2 ∧ c + zC y2 ≤ zC y + 6 ∧ d + zD y2 ≤ zD y + 47 := by
  have v2 := v.2.2.1
  obtain ⟨K1, y1, x1, z1, a1, a2, a3, a4⟩ := ci_isPlaceOf h v vp vq w f
  unfold fn_X11_cut s_cut
  rw [a1, fg_bc_1, q_b_if]
  by_cases c1 : q_in w (sC s 2) ∧ q_in f (s_SH s w).length
  · rw [fg_if_1 c1]
    simp only [fg_if_1 c1]
    obtain ⟨e1, l1⟩ := n_in c1.1
    have nout : ¬ (1 ≤ n ∧ n ≤ nI (s_SH s w).length - f) → ∀ K Y C D, CB K s Y → C + zC Y ≤ zC y + 6 → D + zD Y ≤ zD y + 47 → ∃ k2 c d y2, some ((-2 : Int32), K, C, D) = some ((fg_if (1 ≤ n ∧ n ≤ nI (s_SH s w).length - f) (s_keepS s w (e_lift (e_z s (sC s 0)) (h_ix f) (h_ix n) (s_row s w)).2) ((-2 : Int32), s)).1, k2, c, d) ∧ CB k2 (fg_if (1 ≤ n ∧ n ≤ nI (s_SH s w).length - f) (s_keepS s w (e_lift (e_z s (sC s 0)) (h_ix f) (h_ix n) (s_row s w)).2) ((-2 : Int32), s)).2 y2 ∧ c + zC y2 ≤ zC y + 6 ∧ d + zD y2 ≤ zD y + 47 := by
      intro q K Y C D hK h1 h2
      simp only [fg_if_0 q]
      exact ⟨K, C, D, Y, rfl, hK, h1, h2⟩
    by_cases c2 : n < 1
    · rw [fg_if_1 c2, fg_c_1]
      exact nout (fun q => Int32.not_le.mpr c2 q.1) K1 y1 (x1 + 0) (z1 + 0) a2 (by omega) (by omega)
    · obtain ⟨K2, y2, x2, z2, b1, b2, b3, b4, b5⟩ := ci_sizeNow a2 v vp vq l1
      rw [← e1] at b1
      rw [fg_if_0 c2, b1, fg_bc_1]
      by_cases c3 : n ≤ nI (s_SH s w).length - f
      · have c4 : 1 ≤ n ∧ n ≤ nI (s_SH s w).length - f := ⟨Int32.not_lt.mp c2, c3⟩
        rw [fg_if_1 c3]
        simp only [fg_if_1 c4]
        obtain ⟨f1, f2, f3, f4⟩ := s_cutN c1.2 c4
        have f4' : h_ix f + h_ix n ≤ (s_SH s (nI (h_ix w))).length := by rw [← e1]; exact f4
        obtain ⟨K3, y3, x3, z3, d1, d2, d3, d4, d5⟩ := ci_takeOut (CB_M b2) v v0 vt vp vq vx vv l1 (f := h_ix f) (n := h_ix n) f3 f4'
        rw [← e1, ← f1, ← f2] at d1
        rw [d1, fg_bc_1, q_b_if]
        unfold s_keepS s_row
        by_cases c5 : (e_lift (e_z s (sC s 0)) (h_ix f) (h_ix n) (sR s (h_ix w) (sC s 0))).2.length ≤ 24
        · simp only [fg_if_1 c5]
          obtain ⟨K4, y4, x4, z4, g1, g2, g3, g4⟩ := ci_thenAct v g v0 l1 vp vq c5 (s_lift_pn v vx vq (by omega)).2 (d4 c5).1
          rw [← e1] at g1 g2
          rw [g1]
          simp only [fg_c_1]
          exact ⟨K4, _, _, y4, rfl, g2, by omega, by omega⟩
        · simp only [fg_if_0 c5, fg_c_1]
          exact ⟨K3, _, _, y3, rfl, d5 c5, by omega, by omega⟩
      · rw [fg_if_0 c3, fg_c_1, fg_c_1]
        exact nout (fun q => c3 q.2) K2 y2 (x1 + (x2 + 0)) (z1 + (z2 + 0)) b2 (by omega) (by omega)
  · rw [fg_if_0 c1]
    simp only [fg_if_0 c1, fg_c_1]
    exact ⟨K1, _, _, y1, rfl, a2, by omega, by omega⟩
/-- what has been lifted comes on the bench -/
theorem ci_bringLifted_10 {A C B : List sP} (hl : (A ++ (C ++ B)).length < 32) : ∀ (d j N : Nat) (K : h_S), j + d = C.length → d < N → CBM K s M y → h_i K 3 11 = nI C.length → c_bo K 28 0 C → h_i K 3 9 = nI (A ++ C.take j ++ B).length → c_bo K 27 0 (A ++ C.take j ++ B) → ∃ K2, fn_X7_bringLifted_10 N (nI A.length) (nI j) K = some ((), K2, 0, 0) ∧ CBM K2 s M y ∧ h_i K2 3 9 = nI (A ++ (C ++ B)).length ∧ c_bo K2 27 0 (A ++ (C ++ B)) := by
  have lT : (A ++ (C ++ B)).length = A.length + (C.length + B.length) := by rw [List.length_append, List.length_append]
  intro d
  induction d with
  | zero =>
    intro j N K hj hN h k11 k28 k9 k27
    obtain ⟨N, rfl⟩ : ∃ m, N = m + 1 := ⟨N - 1, by omega⟩
    rw [List.take_of_length_le (by omega), List.append_assoc] at k9 k27
    refine ⟨K, ?_, h, k9, k27⟩
    show fn_X7_bringLifted_10b _ _ _ _ = _
    unfold fn_X7_bringLifted_10b
    rw [k11, fg_if_1 ((n_le (by omega) (by omega)).mpr (by omega))]
  | succ d ih =>
    intro j N K hj hN h k11 k28 k9 k27
    obtain ⟨N, rfl⟩ : ∃ m, N = m + 1 := ⟨N - 1, by omega⟩
    have hj2 : j < C.length := by omega
    obtain ⟨c, c1, c2⟩ := k28 j _ (List.getElem?_eq_getElem hj2)
    rw [Nat.zero_add] at c1
    have lA : (A ++ C.take j).length = A.length + j := by rw [List.length_append, List.length_take]; omega
    obtain ⟨K2, m1, m2, m3, m4, m5, m6⟩ := ci_insert h.1 k27 k9 (by rw [List.length_append, lA]; omega) c2
    rw [lA] at m1
    have et : A ++ C.take j ++ C[j] :: B = A ++ C.take (j + 1) ++ B := by
      rw [List.take_succ_eq_append_getElem hj2, ← List.append_assoc A (C.take j) [C[j]], List.append_assoc (A ++ C.take j) [C[j]] B]
      rfl
    rw [et] at m3 m6
    show ∃ K2, fn_X7_bringLifted_10b (fn_X7_bringLifted_10 N) _ _ _ = _ ∧ _
    unfold fn_X7_bringLifted_10b
    rw [k11, fg_if_0 (fun z => by have := (n_le (a := C.length) (b := j) (by omega) (by omega)).mp z; omega), fg_g_1 ((n_vp (by omega)).mpr (by omega)), q_nIx (by omega), c1, n_add, m1, fg_b_1, n_p1]
    exact ih (j + 1) N K2 (by omega) (by omega) (CB_B h m2) (by rw [m4]; exact k11) (c_bo_tr k28 (c_B_pcs m2) (fun i _ => by rw [m5])) m3 m6
theorem cs_move (h : CB k s y) (v : ivc s) (g : ivg s) (v0 : sC s 0 < 512) (vt : ivt s) (vp : ivp s) (vq : ivq s) (vx : ivx s) (vv : ivv s) (w f n o : Int32) : ∃ k2 c d y2, fn_X11_move w f n o k = some ((s_move s w f n o).1, k2, c, d) ∧ CB k2 (s_move s w f n o).2 y2 ∧ c + zC y2 ≤ zC y + 8 ∧ d + zD y2 ≤ zD y + 57 := by
  have v2 := v.2.2.1
  have hS : (s_SH s w).length ≤ 300 := s_sh_300 _ _ _ _
  obtain ⟨K1, y1, x1, z1, a1, a2, a3, a4⟩ := ci_isPlaceOf h v vp vq w f
  unfold fn_X11_move s_move
  rw [a1, fg_bc_1, q_b_if]
  by_cases c1 : q_in w (sC s 2) ∧ q_in f (s_SH s w).length
  · obtain ⟨K2, y2, x2, z2, b1, b2, b3, b4⟩ := ci_takesAhead a2 v vp vq w o
    obtain ⟨e1, l1⟩ := n_in c1.1
    rw [fg_if_1 c1, b1, fg_bc_1, q_b_if]
    by_cases c2 : q_in o ((s_SH s w).length + 1)
    · have c : q_in w (sC s 2) ∧ q_in f (s_SH s w).length ∧ q_in o ((s_SH s w).length + 1) := ⟨c1.1, c1.2, c2⟩
      have cA : s_ahd s w o := ⟨c1.1, c2⟩
      rw [fg_if_1 cA]
      simp only [fg_if_1 c]
      by_cases c3 : n < 1
      · have q : ¬ (1 ≤ n ∧ n ≤ nI (s_SH s w).length - f) := fun q => Int32.not_le.mpr c3 q.1
        rw [fg_if_1 c3]
        simp only [fg_if_0 q, fg_c_1]
        exact ⟨K2, _, _, y2, rfl, b2, by omega, by omega⟩
      · obtain ⟨K3, y3, x3, z3, d1, d2, d3, d4, d5⟩ := ci_sizeNow b2 v vp vq l1
        rw [← e1] at d1
        rw [fg_if_0 c3, d1, fg_bc_1]
        by_cases c4 : n ≤ nI (s_SH s w).length - f
        · have c5 : 1 ≤ n ∧ n ≤ nI (s_SH s w).length - f := ⟨Int32.not_lt.mp c3, c4⟩
          rw [fg_if_1 c4]
          simp only [fg_if_1 c5]
          obtain ⟨f1, f2, f3, f4⟩ := s_cutN c1.2 c5
          obtain ⟨e6, l6⟩ := n_in (n := (s_SH s w).length + 1) c2
          have efo : f < o ↔ h_ix f < h_ix o := by
            rw [f1, e6, q_nIx (by omega), q_nIx (by omega)]
            exact n_lt (by omega) (by omega)
          have efn : o < f + n ↔ h_ix o < h_ix f + h_ix n := by
            have : f + n = nI (h_ix f + h_ix n) := by rw [← n_add, ← f1, ← f2]
            rw [this, e6, q_nIx (by omega)]
            exact n_lt (by omega) (by omega)
          have e64 : ¬ (f < o ∧ o < f + n) → ∃ k2 c d y2, fn_X11_move_64 w f n o K3 = some ((s_keepP s w (s_mv s w f n o) (nI (s_mv s w f n o).length)).1, k2, c, d) ∧ CB k2 (s_keepP s w (s_mv s w f n o) (nI (s_mv s w f n o).length)).2 y2 ∧ c + zC y2 ≤ zC y3 + 8 ∧ d + zD y2 ≤ zD y3 + 57 := by
            intro nc
            have eS := s_SH_end (s := s) w
            unfold s_row at eS
            obtain ⟨K4, y4, x4, z4, g1, g2, g3, g4, g5, g6, g7, g8, g9, g10⟩ := ci_lift (f := h_ix f) (n := h_ix n) (CB_M d2) v v0 vt vp vq vx l1 f3 (by omega) (by omega)
            rw [← e1, ← f1, ← f2] at g1
            have pn := (s_lift_pn v vx vq (w := h_ix w) (f := h_ix f) (n := h_ix n) (by omega))
            have lR := (vp (h_ix w) (sC s 0)).1
            have lo := (e_oa_all (z := e_z s (sC s 0)) (sR s (h_ix w) (sC s 0)) (h_ix f) 0).1
            have lb := e_ob_all (z := e_z s (sC s 0)) (e_oa (e_z s (sC s 0)) (h_ix f) 0 (sR s (h_ix w) (sC s 0))).2 (h_ix f + h_ix n) (h_ix f)
            have lL : (e_lift (e_z s (sC s 0)) (h_ix f) (h_ix n) (sR s (h_ix w) (sC s 0))).1.length + (e_lift (e_z s (sC s 0)) (h_ix f) (h_ix n) (sR s (h_ix w) (sC s 0))).2.length ≤ 26 := by unfold e_lift; dsimp only; rw [List.length_append]; omega
            unfold s_mv s_row
            dsimp only
            generalize e_lift (e_z s (sC s 0)) (h_ix f) (h_ix n) (sR s (h_ix w) (sC s 0)) = L at g3 g4 g5 g6 pn lL
            obtain ⟨at_, hat⟩ : ∃ a, a = if f < o then h_ix o - h_ix n else h_ix o := ⟨_, rfl⟩
            have hat3 : at_ ≤ 300 := by rw [hat]; split <;> omega
            have e97 : fg_if (o ≤ f) (fn_X11_move_97 w o (h_r K4 0 4) K4) (fn_X11_move_97 w (o - n) (h_r K4 0 4) K4) = fn_X11_move_97 w (nI at_) (h_r K4 0 4) K4 := by
              by_cases q : f < o
              · have q2 : ¬ o < f + n := fun z => nc ⟨q, z⟩
                rw [fg_if_0 (Int32.not_le.mpr q), hat, if_pos q]
                rw [efn] at q2
                have : o - n = nI (h_ix o - h_ix n) := by rw [← n_sub (by omega), ← e6, ← f2]
                rw [this]
              · rw [fg_if_1 (Int32.not_lt.mp q), hat, if_neg q, ← e6]
            unfold fn_X11_move_64
            rw [d2.2.1.1, g1, fg_bc_1, e97, ← hat]
            unfold fn_X11_move_97
            rw [fg_g_1 (cf_r g2.1 (by decide)), g2.2.1.1]
            obtain ⟨K5, y5, x5, z5, j1, j2, j3, j4, j5, j6, j7, j8, j9, j10, j11⟩ := ci_openAhead_5 v vp vq (by omega) (m := sC s 0) (at_ := at_) (Nat.le_refl _) hat3 L.2.length [] L.2 0 g_N K4 y4 rfl (by have := g_N_le; omega) g2 (by omega) pn.2 g5 g3 (by show L.2.length < 32; omega)
            have ll := (e_oa_all (z := e_z s (sC s 0)) L.2 at_ 0).1
            generalize e_oa (e_z s (sC s 0)) at_ 0 L.2 = A at j1 j3 j5 ll
            rw [List.nil_append] at j3 j5
            have lT : (A.1 ++ (L.1 ++ A.2)).length ≤ 27 := by rw [List.length_append, List.length_append]; omega
            obtain ⟨K6, i1, i2, i3, i4⟩ := ci_bringLifted_10 (A := A.1) (C := L.1) (B := A.2) (by omega) L.1.length 0 g_N K5 (by omega) (by have := g_N_le; omega) j2 (by rw [j4]; exact g4) (c_bo_tr g6 j7 (fun i _ => by rw [j6])) (by rw [List.take_zero, List.append_nil]; exact j3) (by rw [List.take_zero, List.append_nil]; exact j5)
            have ebl : fn_X7_bringLifted (nI at_) (nI (sC s 0)) K4 = some ((), K6, x5 + 0, z5 + 0) := by
              unfold fn_X7_bringLifted fn_X7_openAhead
              have : fn_X7_openAhead_5 g_N (nI at_) (nI (sC s 0)) 0 0 K4 = some (nI (0 + A.1.length), K5, x5, z5) := j1
              rw [Nat.zero_add] at this
              have i1' : fn_X7_bringLifted_10 g_N (nI A.1.length) 0 K5 = some ((), K6, 0, 0) := i1
              rw [this, fg_bc_1, i1']
              rfl
            obtain ⟨K7, x7, z7, n1, n2, n3, n4, n5⟩ := ci_keepLaid i2 v v0 vq vv l1 (by omega) i4 i3
            rw [← e1] at n1
            rw [ebl, fg_bc_1, i2.2.1.1, n_p1, n1, fg_bc_1, q_b_if]
            unfold s_keepP
            by_cases q : (A.1 ++ (L.1 ++ A.2)).length ≤ 24
            · simp only [fg_if_1 q]
              have hN := n4 q
              have hpc := ci_pcNew hN v l1 (by rw [yH_UH, if_pos rfl])
              rw [← e1] at hpc hN
              rw [hpc, fg_b_1, ci_acted hN.2.1.1 v.1, fg_b_1]
              simp only [fg_c_1]
              refine ⟨_, _, _, _, rfl, cs_act hN (Nat.le_refl _) g _, ?_, ?_⟩
              · show _ + zC y5 ≤ _; omega
              · show _ + zD y5 ≤ _; omega
            · simp only [fg_if_0 q, fg_c_1]
              exact ⟨K7, _, _, y5, rfl, by rw [n5 q]; exact i2, by omega, by omega⟩
          by_cases q : f < o ∧ o < f + n
          · rw [fg_if_0 (Int32.not_le.mpr q.1), fg_if_0 (Int32.not_le.mpr q.2)]
            simp only [fg_if_1 q, fg_c_1]
            exact ⟨K3, _, _, y3, rfl, d2, by omega, by omega⟩
          · simp only [fg_if_0 q]
            obtain ⟨k2, cc, dd, y5, r1, r2, r3, r4⟩ := e64 q
            have e2 : fg_if (o ≤ f) (fn_X11_move_64 w f n o K3) (fg_if (f + n ≤ o) (fn_X11_move_64 w f n o K3) (some ((-3 : Int32), K3, 0, 0))) = fn_X11_move_64 w f n o K3 := by
              by_cases q2 : o ≤ f
              · rw [fg_if_1 q2]
              · rw [fg_if_0 q2, fg_if_1 (Int32.not_lt.mp (fun z => q ⟨Int32.not_le.mp q2, z⟩))]
            rw [e2, r1]
            simp only [fg_c_1]
            exact ⟨k2, _, _, y5, rfl, r2, by omega, by omega⟩
        · have q : ¬ (1 ≤ n ∧ n ≤ nI (s_SH s w).length - f) := fun q => c4 q.2
          rw [fg_if_0 c4]
          simp only [fg_if_0 q, fg_c_1]
          exact ⟨K3, _, _, y3, rfl, d2, by omega, by omega⟩
    · have c : ¬ (q_in w (sC s 2) ∧ q_in f (s_SH s w).length ∧ q_in o ((s_SH s w).length + 1)) := fun q => c2 q.2.2
      have cA : ¬ s_ahd s w o := fun q => c2 q.2
      rw [fg_if_0 cA]
      simp only [fg_if_0 c, fg_c_1]
      exact ⟨K2, _, _, y2, rfl, b2, by omega, by omega⟩
  · have c : ¬ (q_in w (sC s 2) ∧ q_in f (s_SH s w).length ∧ q_in o ((s_SH s w).length + 1)) := fun q => c1 ⟨q.1, q.2.1⟩
    rw [fg_if_0 c1]
    simp only [fg_if_0 c, fg_c_1]
    exact ⟨K1, _, _, y1, rfl, a2, by omega, by omega⟩
end CCa
