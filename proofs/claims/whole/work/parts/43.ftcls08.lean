set_option maxRecDepth 100000 in
set_option maxHeartbeats 4000000 in
theorem ft_X11_owes {E : h_S} {g : h_G} {r : Int32} {t : h_S} {Q : Int32 → h_S → Prop} {b : Nat → Nat} {s S_s : h_S} {A_o0 : Nat} {x1 : Int32} {x2 : Int32} (hR : c_R E g b s S_s) (hF : c_F s) (f_o0 : c_at b s 0 A_o0) (h : fn_X11_owes x1 x2 s = some (r, t)) (hQ : ∀ (b2 : Nat → Nat) (S2 : h_S), c_ext b s b2 t → c_R E g b2 t S2 → c_F t → Q r S2) : w_X11_owes A_o0 x1 x2 S_s Q := by
  unfold fn_X11_owes at h
  unfold w_X11_owes
  refine ⟨(cr_k hR f_o0).trans (cf_k (a := 0) hF rfl (by decide)), ?_⟩
  obtain ⟨p3, s2, e_s2, h⟩ := fg_b_s h
  refine ft_X11_isHand hR hF f_o0 e_s2 (fun b_s2 S_s2 x_s2 r_s2 F_s2 => ?_)
  refine fg_ite Iff.rfl (fun d => ?_) (fun d => ?_)
  · have h := fg_if_t d h
    unfold w_X11_owes_16
    obtain ⟨q, q2⟩ := fg_ret h
    subst q
    subst q2
    exact hQ _ _ x_s2 r_s2 F_s2
  · have h := fg_if_e d h
    refine ⟨(cr_k r_s2 (cr_atx f_o0 x_s2)).trans (cf_k (a := 0) F_s2 rfl (by decide)), ?_⟩
    obtain ⟨p7, s6, e_s6, h⟩ := fg_b_s h
    refine ft_X11_isHand r_s2 F_s2 (cr_atx f_o0 x_s2) e_s6 (fun b_s6 S_s6 x_s6 r_s6 F_s6 => ?_)
    refine fg_ite Iff.rfl (fun d => ?_) (fun d => ?_)
    · have h := fg_if_t d h
      unfold w_X11_owes_16
      obtain ⟨q, q2⟩ := fg_ret h
      subst q
      subst q2
      exact hQ _ _ (cr_xt x_s2 x_s6) r_s6 F_s6
    · have h := fg_if_e d h
      refine ⟨(cr_k r_s6 (cr_atx (cr_atx f_o0 x_s2) x_s6)).trans (cf_k (a := 0) F_s6 rfl (by decide)), ?_⟩
      obtain ⟨A_a10, w_a10, f_a10⟩ := cr_aos (cr_r r_s6 (cr_atx (cr_atx f_o0 x_s2) x_s6) _) (cf_r (a := 0) (j := 11) (y := 11) F_s6 rfl)
      refine ⟨A_a10, w_a10, ?_⟩
      refine ⟨(cr_k r_s6 f_a10).trans (cf_k (a := 11) F_s6 rfl (by decide)), ?_⟩
      obtain ⟨c, h⟩ := fg_g_s h
      refine ⟨cr_vp (cr_n r_s6 f_a10) (cf_n (a := 11) F_s6 rfl (by decide) rfl) c, ?_⟩
      try simp -zeta -zetaUnused only [cr_i r_s6 f_a10]
      obtain ⟨q, q2⟩ := fg_ret h
      subst q
      subst q2
      exact hQ _ _ (cr_xt x_s2 x_s6) r_s6 F_s6
set_option maxRecDepth 100000 in
set_option maxHeartbeats 4000000 in
theorem ft_X11_pay {E : h_S} {g : h_G} {r : Int32} {t : h_S} {Q : Int32 → h_S → Prop} {b : Nat → Nat} {s S_s : h_S} {A_o0 : Nat} {x1 : Int32} {x2 : Int32} {x3 : Int32} (hR : c_R E g b s S_s) (hF : c_F s) (f_o0 : c_at b s 0 A_o0) (h : fn_X11_pay x1 x2 x3 s = some (r, t)) (hQ : ∀ (b2 : Nat → Nat) (S2 : h_S), c_ext b s b2 t → c_R E g b2 t S2 → c_F t → Q r S2) : w_X11_pay A_o0 x1 x2 x3 S_s Q := by
  unfold fn_X11_pay at h
  unfold w_X11_pay
  refine ⟨(cr_k hR f_o0).trans (cf_k (a := 0) hF rfl (by decide)), ?_⟩
  obtain ⟨p3, s2, e_s2, h⟩ := fg_b_s h
  refine ft_X11_isHand hR hF f_o0 e_s2 (fun b_s2 S_s2 x_s2 r_s2 F_s2 => ?_)
  refine fg_ite Iff.rfl (fun d => ?_) (fun d => ?_)
  · have h := fg_if_t d h
    unfold w_X11_pay_16
    obtain ⟨q, q2⟩ := fg_ret h
    subst q
    subst q2
    exact hQ _ _ x_s2 r_s2 F_s2
  · have h := fg_if_e d h
    refine ⟨(cr_k r_s2 (cr_atx f_o0 x_s2)).trans (cf_k (a := 0) F_s2 rfl (by decide)), ?_⟩
    obtain ⟨p7, s6, e_s6, h⟩ := fg_b_s h
    refine ft_X11_isHand r_s2 F_s2 (cr_atx f_o0 x_s2) e_s6 (fun b_s6 S_s6 x_s6 r_s6 F_s6 => ?_)
    refine fg_ite Iff.rfl (fun d => ?_) (fun d => ?_)
    · have h := fg_if_t d h
      unfold w_X11_pay_16
      obtain ⟨q, q2⟩ := fg_ret h
      subst q
      subst q2
      exact hQ _ _ (cr_xt x_s2 x_s6) r_s6 F_s6
    · have h := fg_if_e d h
      refine fg_ite Iff.rfl (fun d => ?_) (fun d => ?_)
      · have h := fg_if_t d h
        refine ⟨(cr_k r_s6 (cr_atx (cr_atx f_o0 x_s2) x_s6)).trans (cf_k (a := 0) F_s6 rfl (by decide)), ?_⟩
        obtain ⟨A_a11, w_a11, f_a11⟩ := cr_aos (cr_r r_s6 (cr_atx (cr_atx f_o0 x_s2) x_s6) _) (cf_r (a := 0) (j := 11) (y := 11) F_s6 rfl)
        refine ⟨A_a11, w_a11, ?_⟩
        refine ⟨(cr_k r_s6 f_a11).trans (cf_k (a := 11) F_s6 rfl (by decide)), ?_⟩
        obtain ⟨c, h⟩ := fg_g_s h
        refine ⟨cr_vp (cr_n r_s6 f_a11) (cf_n (a := 11) F_s6 rfl (by decide) rfl) c, ?_⟩
        try simp -zeta -zetaUnused only [cr_i r_s6 f_a11]
        refine fg_ite Iff.rfl (fun d => ?_) (fun d => ?_)
        · have h := fg_if_t d h
          obtain ⟨A_a15, w_a15, f_a15⟩ := cr_aos (cr_r r_s6 (cr_atx (cr_atx f_o0 x_s2) x_s6) _) (cf_r (a := 0) (j := 11) (y := 11) F_s6 rfl)
          refine ⟨A_a15, w_a15, ?_⟩
          refine ⟨(cr_k r_s6 f_a15).trans (cf_k (a := 11) F_s6 rfl (by decide)), ?_⟩
          obtain ⟨c, h⟩ := fg_g_s h
          refine ⟨cr_vp (cr_n r_s6 f_a15) (cf_n (a := 11) F_s6 rfl (by decide) rfl) c, ?_⟩
          obtain ⟨A_a18, w_a18, f_a18⟩ := cr_aos (cr_r r_s6 (cr_atx (cr_atx f_o0 x_s2) x_s6) _) (cf_r (a := 0) (j := 11) (y := 11) F_s6 rfl)
          refine ⟨A_a18, w_a18, ?_⟩
          refine ⟨(cr_k r_s6 f_a18).trans (cf_k (a := 11) F_s6 rfl (by decide)), ?_⟩
          obtain ⟨c, h⟩ := fg_g_s h
          refine ⟨cr_vp (cr_n r_s6 f_a18) (cf_n (a := 11) F_s6 rfl (by decide) rfl) c, ?_⟩
          try simp -zeta -zetaUnused only [cr_i r_s6 f_a15]
          obtain ⟨s21, e_s21, h⟩ := fg_let_s h
          intro S_s21
          have r_s21 : c_R E g b_s6 s21 S_s21 := by rw [e_s21]; exact cr_si r_s6 f_a18 _ _
          have F_s21 : c_F s21 := by rw [e_s21]; exact cf_si F_s6 _ _
          have x_s21 : c_ext b_s6 s6 b_s6 s21 := by rw [e_s21]; exact cx_si _ _
          clear_value S_s21
          obtain ⟨A_a22, w_a22, f_a22⟩ := cr_aos (cr_r r_s21 (cr_atx (cr_atx (cr_atx f_o0 x_s2) x_s6) x_s21) _) (cf_r (a := 0) (j := 11) (y := 11) F_s21 rfl)
          refine ⟨A_a22, w_a22, ?_⟩
          refine ⟨(cr_k r_s21 f_a22).trans (cf_k (a := 11) F_s21 rfl (by decide)), ?_⟩
          obtain ⟨c, h⟩ := fg_g_s h
          refine ⟨cr_vp (cr_n r_s21 f_a22) (cf_n (a := 11) F_s21 rfl (by decide) rfl) c, ?_⟩
          try simp -zeta -zetaUnused only [cr_i r_s21 f_a22]
          obtain ⟨p26, s25, e_s25, h⟩ := fg_b_s h
          refine ft_X11_acted r_s21 F_s21 (cr_atx (cr_atx (cr_atx f_o0 x_s2) x_s6) x_s21) e_s25 (fun b_s25 S_s25 x_s25 r_s25 F_s25 => ?_)
          obtain ⟨q, q2⟩ := fg_ret h
          subst q
          subst q2
          exact hQ _ _ (cr_xt x_s2 (cr_xt x_s6 (cr_xt x_s21 x_s25))) r_s25 F_s25
        · have h := fg_if_e d h
          obtain ⟨q, q2⟩ := fg_ret h
          subst q
          subst q2
          exact hQ _ _ (cr_xt x_s2 x_s6) r_s6 F_s6
      · have h := fg_if_e d h
        obtain ⟨q, q2⟩ := fg_ret h
        subst q
        subst q2
        exact hQ _ _ (cr_xt x_s2 x_s6) r_s6 F_s6
set_option maxRecDepth 100000 in
set_option maxHeartbeats 4000000 in
theorem ft_X11_steps {E : h_S} {g : h_G} {r : Int32} {t : h_S} {Q : Int32 → h_S → Prop} {b : Nat → Nat} {s S_s : h_S} {C0 D0 mc ms : Nat} {A_o0 : Nat} {x1 : Int32} {x2 : Int32} (hR : c_R E g b s S_s) (hF : c_F s) (f_o0 : c_at b s 0 A_o0) (h : fn_X11_steps x1 x2 s = some (r, t, C0, D0)) (hQ : ∀ (b2 : Nat → Nat) (S2 : h_S), c_ext b s b2 t → c_R E g b2 t S2 → c_F t → Q r S2) (hc : C0 ≤ mc) (hd : D0 ≤ ms) : w_X11_steps A_o0 x1 x2 S_s mc ms Q := by
  unfold fn_X11_steps at h
  unfold w_X11_steps
  refine ⟨(cr_k hR f_o0).trans (cf_k (a := 0) hF rfl (by decide)), ?_⟩
  obtain ⟨p3, s2, e_s2, h⟩ := fg_b_s h
  refine ft_X11_versionAt hR hF f_o0 e_s2 (fun b_s2 R_p3 S_s2 x_s2 r_s2 F_s2 f_p3 => ?_)
  refine fg_ite (cr_isn f_p3) (fun d => ?_) (fun d => ?_)
  · have h := fg_if_t d h
    unfold w_X11_steps_22
    obtain ⟨q, q2⟩ := fg_retc h
    subst q
    subst q2
    exact hQ _ _ x_s2 r_s2 F_s2
  · have h := fg_if_e d h
    obtain ⟨a5, o_a5, h⟩ := fg_o_s h
    obtain ⟨A_a5, w_a5, f_a5⟩ := cr_aos f_p3 o_a5
    refine ⟨A_a5, w_a5, ?_⟩
    obtain ⟨c_a5_1, h⟩ := fg_g_s h
    refine ⟨(cr_k r_s2 f_a5).trans c_a5_1, ?_⟩
    obtain ⟨a7, o_a7, h⟩ := fg_o_s h
    obtain ⟨A_a7, w_a7, f_a7⟩ := cr_aos (cr_r r_s2 f_a5 _) o_a7
    refine ⟨A_a7, w_a7, ?_⟩
    obtain ⟨c_a7_2, h⟩ := fg_g_s h
    refine ⟨(cr_k r_s2 f_a7).trans c_a7_2, ?_⟩
    try simp -zeta -zetaUnused only [cr_n r_s2 f_a7]
    obtain ⟨p10, s9, e_s9, h⟩ := fg_b_s h
    refine ft_X11_within r_s2 F_s2 e_s9 (fun b_s9 S_s9 x_s9 r_s9 F_s9 => ?_)
    refine fg_ite Iff.rfl (fun d => ?_) (fun d => ?_)
    · have h := fg_if_t d h
      unfold w_X11_steps_22
      obtain ⟨q, q2⟩ := fg_retc h
      subst q
      subst q2
      exact hQ _ _ (cr_xt x_s2 x_s9) r_s9 F_s9
    · have h := fg_if_e d h
      obtain ⟨a12, o_a12, h⟩ := fg_o_s h
      obtain ⟨A_a12, w_a12, f_a12⟩ := cr_aos f_p3 o_a12
      refine ⟨A_a12, w_a12, ?_⟩
      obtain ⟨c_a12_3, h⟩ := fg_g_s h
      refine ⟨(cr_k r_s9 (cr_atx f_a12 x_s9)).trans c_a12_3, ?_⟩
      obtain ⟨a14, o_a14, h⟩ := fg_o_s h
      obtain ⟨A_a14, w_a14, f_a14⟩ := cr_aos (cr_r r_s9 (cr_atx f_a12 x_s9) _) o_a14
      refine ⟨A_a14, w_a14, ?_⟩
      obtain ⟨c_a14_4, h⟩ := fg_g_s h
      refine ⟨(cr_k r_s9 f_a14).trans c_a14_4, ?_⟩
      obtain ⟨c, h⟩ := fg_g_s h
      refine ⟨cr_vp (cr_n r_s9 f_a14) rfl c, ?_⟩
      try simp -zeta -zetaUnused only [cr_i r_s9 f_a14]
      refine fg_ite Iff.rfl (fun d => ?_) (fun d => ?_)
      · have h := fg_if_t d h
        obtain ⟨q, q2⟩ := fg_retc h
        subst q
        subst q2
        exact hQ _ _ (cr_xt x_s2 x_s9) r_s9 F_s9
      · have h := fg_if_e d h
        refine ⟨(cr_k r_s9 (cr_atx (cr_atx f_o0 x_s2) x_s9)).trans (cf_k (a := 0) F_s9 rfl (by decide)), ?_⟩
        obtain ⟨a19, o_a19, h⟩ := fg_o_s h
        obtain ⟨A_a19, w_a19, f_a19⟩ := cr_aos f_p3 o_a19
        refine ⟨A_a19, w_a19, ?_⟩
        obtain ⟨c_a19_5, h⟩ := fg_g_s h
        refine ⟨(cr_k r_s9 (cr_atx f_a19 x_s9)).trans c_a19_5, ?_⟩
        obtain ⟨a21, o_a21, h⟩ := fg_o_s h
        obtain ⟨A_a21, w_a21, f_a21⟩ := cr_aos f_p3 o_a21
        refine ⟨A_a21, w_a21, ?_⟩
        obtain ⟨c_a21_6, h⟩ := fg_g_s h
        refine ⟨(cr_k r_s9 (cr_atx f_a21 x_s9)).trans c_a21_6, ?_⟩
        obtain ⟨A_a23, w_a23, f_a23⟩ := cr_aos (cr_r r_s9 (cr_atx (cr_atx f_o0 x_s2) x_s9) _) (cf_r (a := 0) (j := 4) (y := 3) F_s9 rfl)
        refine ⟨A_a23, w_a23, ?_⟩
        refine ⟨(cr_k r_s9 f_a23).trans (cf_k (a := 3) F_s9 rfl (by decide)), ?_⟩
        try simp -zeta -zetaUnused only [cr_i r_s9 (cr_atx f_a19 x_s9), cr_i r_s9 (cr_atx f_a21 x_s9)]
        obtain ⟨p26, s25, mc27, ms28, C_s25, D_s25, e_s25, h, q_s25, w_s25⟩ := fg_bc_s h
        obtain ⟨u1_s25, hc⟩ := fg_sp q_s25 hc
        obtain ⟨u2_s25, hd⟩ := fg_sp w_s25 hd
        refine ⟨mc27, ms28, u1_s25, u2_s25, ft_X7_follow r_s9 F_s9 f_a23 e_s25 (fun b_s25 S_s25 x_s25 r_s25 F_s25 => ?_) (Nat.le_refl _) (Nat.le_refl _)⟩
        obtain ⟨q, q2⟩ := fg_retc h
        subst q
        subst q2
        exact hQ _ _ (cr_xt x_s2 (cr_xt x_s9 x_s25)) r_s25 F_s25
set_option maxRecDepth 100000 in
set_option maxHeartbeats 4000000 in
theorem ft_X11_chain {E : h_S} {g : h_G} {r : Int32} {t : h_S} {Q : Int32 → h_S → Prop} {b : Nat → Nat} {s S_s : h_S} {C0 D0 mc ms : Nat} {A_o0 : Nat} {x1 : Int32} {x2 : Int32} {x3 : Int32} (hR : c_R E g b s S_s) (hF : c_F s) (f_o0 : c_at b s 0 A_o0) (h : fn_X11_chain x1 x2 x3 s = some (r, t, C0, D0)) (hQ : ∀ (b2 : Nat → Nat) (S2 : h_S), c_ext b s b2 t → c_R E g b2 t S2 → c_F t → Q r S2) (hc : C0 ≤ mc) (hd : D0 ≤ ms) : w_X11_chain A_o0 x1 x2 x3 S_s mc ms Q := by
  unfold fn_X11_chain at h
  unfold w_X11_chain
  refine ⟨(cr_k hR f_o0).trans (cf_k (a := 0) hF rfl (by decide)), ?_⟩
  obtain ⟨p3, s2, mc4, ms5, C_s2, D_s2, e_s2, h, q_s2, w_s2⟩ := fg_bc_s h
  obtain ⟨u1_s2, hc⟩ := fg_sp q_s2 hc
  obtain ⟨u2_s2, hd⟩ := fg_sp w_s2 hd
  refine ⟨mc4, ms5, u1_s2, u2_s2, ft_X11_steps hR hF f_o0 e_s2 (fun b_s2 S_s2 x_s2 r_s2 F_s2 => ?_) (Nat.le_refl _) (Nat.le_refl _)⟩
  refine fg_ite Iff.rfl (fun d => ?_) (fun d => ?_)
  · have h := fg_if_t d h
    obtain ⟨p10, s9, e_s9, h⟩ := fg_b_s h
    refine ft_X11_within r_s2 F_s2 e_s9 (fun b_s9 S_s9 x_s9 r_s9 F_s9 => ?_)
    refine fg_ite Iff.rfl (fun d => ?_) (fun d => ?_)
    · have h := fg_if_t d h
      unfold w_X11_chain_38
      obtain ⟨q, q2⟩ := fg_retc h
      subst q
      subst q2
      exact hQ _ _ (cr_xt x_s2 x_s9) r_s9 F_s9
    · have h := fg_if_e d h
      refine ⟨(cr_k r_s9 (cr_atx (cr_atx f_o0 x_s2) x_s9)).trans (cf_k (a := 0) F_s9 rfl (by decide)), ?_⟩
      obtain ⟨A_a13, w_a13, f_a13⟩ := cr_aos (cr_r r_s9 (cr_atx (cr_atx f_o0 x_s2) x_s9) _) (cf_r (a := 0) (j := 4) (y := 3) F_s9 rfl)
      refine ⟨A_a13, w_a13, ?_⟩
      refine ⟨(cr_k r_s9 f_a13).trans (cf_k (a := 3) F_s9 rfl (by decide)), ?_⟩
      obtain ⟨A_a15, w_a15, f_a15⟩ := cr_aos (cr_r r_s9 f_a13 _) (cf_r (a := 3) (j := 12) (y := 29) F_s9 rfl)
      refine ⟨A_a15, w_a15, ?_⟩
      refine ⟨(cr_k r_s9 f_a15).trans (cf_k (a := 29) F_s9 rfl (by decide)), ?_⟩
      obtain ⟨c, h⟩ := fg_g_s h
      refine ⟨cr_vp (cr_n r_s9 f_a15) (cf_n (a := 29) F_s9 rfl (by decide) rfl) c, ?_⟩
      unfold w_X11_chain_38
      try simp -zeta -zetaUnused only [cr_i r_s9 f_a15]
      obtain ⟨q, q2⟩ := fg_retc h
      subst q
      subst q2
      exact hQ _ _ (cr_xt x_s2 x_s9) r_s9 F_s9
  · have h := fg_if_e d h
    obtain ⟨q, q2⟩ := fg_retc h
    subst q
    subst q2
    exact hQ _ _ x_s2 r_s2 F_s2
set_option maxRecDepth 100000 in
set_option maxHeartbeats 4000000 in
theorem ft_X11_quotes {E : h_S} {g : h_G} {r : Int32} {t : h_S} {Q : Int32 → h_S → Prop} {b : Nat → Nat} {s S_s : h_S} {A_o0 : Nat} {x1 : Int32} {x2 : Int32} (hR : c_R E g b s S_s) (hF : c_F s) (f_o0 : c_at b s 0 A_o0) (h : fn_X11_quotes x1 x2 s = some (r, t)) (hQ : ∀ (b2 : Nat → Nat) (S2 : h_S), c_ext b s b2 t → c_R E g b2 t S2 → c_F t → Q r S2) : w_X11_quotes A_o0 x1 x2 S_s Q := by
  unfold fn_X11_quotes at h
  unfold w_X11_quotes
  refine ⟨(cr_k hR f_o0).trans (cf_k (a := 0) hF rfl (by decide)), ?_⟩
  obtain ⟨p3, s2, e_s2, h⟩ := fg_b_s h
  refine ft_X11_isWriting hR hF f_o0 e_s2 (fun b_s2 S_s2 x_s2 r_s2 F_s2 => ?_)
  refine fg_ite Iff.rfl (fun d => ?_) (fun d => ?_)
  · have h := fg_if_t d h
    unfold w_X11_quotes_16
    obtain ⟨q, q2⟩ := fg_ret h
    subst q
    subst q2
    exact hQ _ _ x_s2 r_s2 F_s2
  · have h := fg_if_e d h
    refine ⟨(cr_k r_s2 (cr_atx f_o0 x_s2)).trans (cf_k (a := 0) F_s2 rfl (by decide)), ?_⟩
    obtain ⟨p7, s6, e_s6, h⟩ := fg_b_s h
    refine ft_X11_isWriting r_s2 F_s2 (cr_atx f_o0 x_s2) e_s6 (fun b_s6 S_s6 x_s6 r_s6 F_s6 => ?_)
    refine fg_ite Iff.rfl (fun d => ?_) (fun d => ?_)
    · have h := fg_if_t d h
      unfold w_X11_quotes_16
      obtain ⟨q, q2⟩ := fg_ret h
      subst q
      subst q2
      exact hQ _ _ (cr_xt x_s2 x_s6) r_s6 F_s6
    · have h := fg_if_e d h
      refine ⟨(cr_k r_s6 (cr_atx (cr_atx f_o0 x_s2) x_s6)).trans (cf_k (a := 0) F_s6 rfl (by decide)), ?_⟩
      obtain ⟨A_a10, w_a10, f_a10⟩ := cr_aos (cr_r r_s6 (cr_atx (cr_atx f_o0 x_s2) x_s6) _) (cf_r (a := 0) (j := 4) (y := 3) F_s6 rfl)
      refine ⟨A_a10, w_a10, ?_⟩
      refine ⟨(cr_k r_s6 f_a10).trans (cf_k (a := 3) F_s6 rfl (by decide)), ?_⟩
      obtain ⟨p13, s12, e_s12, h⟩ := fg_b_s h
      refine ft_X7_stepsBetween r_s6 F_s6 f_a10 e_s12 (fun b_s12 S_s12 x_s12 r_s12 F_s12 => ?_)
      obtain ⟨q, q2⟩ := fg_ret h
      subst q
      subst q2
      exact hQ _ _ (cr_xt x_s2 (cr_xt x_s6 x_s12)) r_s12 F_s12
set_option maxRecDepth 100000 in
set_option maxHeartbeats 4000000 in
theorem ft_X11_standsAt_3b {E : h_S} {g : h_G} {r : Int32} {t : h_S} {Q : Int32 → h_S → Prop} {K3 : Option Nat → Int32 → Int32 → Option Nat → Int32 → Int32 → Int32 → h_S → Option ((Int32) × h_S)} {WK3 : Nat → Option Nat → Int32 → Int32 → Option Nat → Int32 → Int32 → Int32 → h_S → Prop} (hK3 : ∀ {b : Nat → Nat} {s S_s : h_S} {A_o0 : Nat} {r1 : Option Nat} {R_r1 : Option Nat} {x2 : Int32} {x3 : Int32} {r4 : Option Nat} {R_r4 : Option Nat} {x5 : Int32} {x6 : Int32} {x7 : Int32}, c_R E g b s S_s → c_F s → c_at b s 0 A_o0 → c_ao b s r1 R_r1 → c_ao b s r4 R_r4 → K3 r1 x2 x3 r4 x5 x6 x7 s = some (r, t) → (∀ (b2 : Nat → Nat) (S2 : h_S), c_ext b s b2 t → c_R E g b2 t S2 → c_F t → Q r S2) → WK3 A_o0 R_r1 x2 x3 R_r4 x5 x6 x7 S_s) {b : Nat → Nat} {s S_s : h_S} {A_o0 : Nat} {r1 : Option Nat} {R_r1 : Option Nat} {x2 : Int32} {x3 : Int32} {r4 : Option Nat} {R_r4 : Option Nat} {x5 : Int32} {x6 : Int32} {x7 : Int32} (hR : c_R E g b s S_s) (hF : c_F s) (f_o0 : c_at b s 0 A_o0) (f_r1 : c_ao b s r1 R_r1) (f_r4 : c_ao b s r4 R_r4) (h : fn_X11_standsAt_3b K3 r1 x2 x3 r4 x5 x6 x7 s = some (r, t)) (hQ : ∀ (b2 : Nat → Nat) (S2 : h_S), c_ext b s b2 t → c_R E g b2 t S2 → c_F t → Q r S2) : w_X11_standsAt_3b Q WK3 A_o0 R_r1 x2 x3 R_r4 x5 x6 x7 S_s := by
  unfold fn_X11_standsAt_3b at h
  unfold w_X11_standsAt_3b
  refine fg_ite Iff.rfl (fun d => ?_) (fun d => ?_)
  · have h := fg_if_t d h
    obtain ⟨q, q2⟩ := fg_ret h
    subst q
    subst q2
    exact hQ _ _ cr_xr hR hF
  · have h := fg_if_e d h
    obtain ⟨a2, o_a2, h⟩ := fg_o_s h
    obtain ⟨A_a2, w_a2, f_a2⟩ := cr_aos f_r1 o_a2
    refine ⟨A_a2, w_a2, ?_⟩
    obtain ⟨c_a2_1, h⟩ := fg_g_s h
    refine ⟨(cr_k hR f_a2).trans c_a2_1, ?_⟩
    obtain ⟨p5, s4, e_s4, h⟩ := fg_b_s h
    refine ft_X8_placeAt hR hF f_a2 e_s4 (fun b_s4 S_s4 x_s4 r_s4 F_s4 => ?_)
    refine ⟨(cr_k r_s4 (cr_atx f_o0 x_s4)).trans (cf_k (a := 0) F_s4 rfl (by decide)), ?_⟩
    obtain ⟨A_a7, w_a7, f_a7⟩ := cr_aos (cr_r r_s4 (cr_atx f_o0 x_s4) _) (cf_r (a := 0) (j := 4) (y := 3) F_s4 rfl)
    refine ⟨A_a7, w_a7, ?_⟩
    refine ⟨(cr_k r_s4 f_a7).trans (cf_k (a := 3) F_s4 rfl (by decide)), ?_⟩
    obtain ⟨p10, s9, e_s9, h⟩ := fg_b_s h
    refine ft_X7_isIn r_s4 F_s4 f_a7 e_s9 (fun b_s9 S_s9 x_s9 r_s9 F_s9 => ?_)
    refine fg_ite Iff.rfl (fun d => ?_) (fun d => ?_)
    · have h := fg_if_t d h
      unfold w_X11_standsAt_55
      obtain ⟨q, q2⟩ := fg_ret h
      subst q
      subst q2
      exact hQ _ _ (cr_xt x_s4 x_s9) r_s9 F_s9
    · have h := fg_if_e d h
      refine ⟨(cr_k r_s9 (cr_atx (cr_atx f_o0 x_s4) x_s9)).trans (cf_k (a := 0) F_s9 rfl (by decide)), ?_⟩
      obtain ⟨A_a13, w_a13, f_a13⟩ := cr_aos (cr_r r_s9 (cr_atx (cr_atx f_o0 x_s4) x_s9) _) (cf_r (a := 0) (j := 4) (y := 3) F_s9 rfl)
      refine ⟨A_a13, w_a13, ?_⟩
      refine ⟨(cr_k r_s9 f_a13).trans (cf_k (a := 3) F_s9 rfl (by decide)), ?_⟩
      obtain ⟨p16, s15, e_s15, h⟩ := fg_b_s h
      refine ft_X7_codeOf r_s9 F_s9 f_a13 e_s15 (fun b_s15 S_s15 x_s15 r_s15 F_s15 => ?_)
      obtain ⟨a17, o_a17, h⟩ := fg_o_s h
      obtain ⟨A_a17, w_a17, f_a17⟩ := cr_aos f_r4 o_a17
      refine ⟨A_a17, w_a17, ?_⟩
      obtain ⟨c_a17_2, h⟩ := fg_g_s h
      refine ⟨(cr_k r_s15 (cr_atx (cr_atx (cr_atx f_a17 x_s4) x_s9) x_s15)).trans c_a17_2, ?_⟩
      obtain ⟨p20, s19, e_s19, h⟩ := fg_b_s h
      refine ft_X5_cellAt r_s15 F_s15 (cr_atx (cr_atx (cr_atx f_a17 x_s4) x_s9) x_s15) e_s19 (fun b_s19 S_s19 x_s19 r_s19 F_s19 => ?_)
      refine fg_ite Iff.rfl (fun d => ?_) (fun d => ?_)
      · have h := fg_if_t d h
        exact hK3 r_s19 F_s19 (cr_atx (cr_atx (cr_atx (cr_atx f_o0 x_s4) x_s9) x_s15) x_s19) (cr_aox (cr_aox (cr_aox (cr_aox f_r1 x_s4) x_s9) x_s15) x_s19) (cr_aox (cr_aox (cr_aox (cr_aox f_r4 x_s4) x_s9) x_s15) x_s19) h (fun b2 S2 x2 => hQ b2 S2 (cr_xt (cr_xt x_s4 (cr_xt x_s9 (cr_xt x_s15 x_s19))) x2))
      · have h := fg_if_e d h
        unfold w_X11_standsAt_55
        obtain ⟨q, q2⟩ := fg_ret h
        subst q
        subst q2
        exact hQ _ _ (cr_xt x_s4 (cr_xt x_s9 (cr_xt x_s15 x_s19))) r_s19 F_s19
set_option maxRecDepth 100000 in
set_option maxHeartbeats 4000000 in
theorem ft_X11_standsAt_3 {E : h_S} {g : h_G} {r : Int32} {t : h_S} {Q : Int32 → h_S → Prop} : ∀ (n : Nat) {b : Nat → Nat} {s S_s : h_S} {A_o0 : Nat} {r1 : Option Nat} {R_r1 : Option Nat} {x2 : Int32} {x3 : Int32} {r4 : Option Nat} {R_r4 : Option Nat} {x5 : Int32} {x6 : Int32} {x7 : Int32}, c_R E g b s S_s → c_F s → c_at b s 0 A_o0 → c_ao b s r1 R_r1 → c_ao b s r4 R_r4 → fn_X11_standsAt_3 n r1 x2 x3 r4 x5 x6 x7 s = some (r, t) → (∀ (b2 : Nat → Nat) (S2 : h_S), c_ext b s b2 t → c_R E g b2 t S2 → c_F t → Q r S2) → w_X11_standsAt_3 Q n A_o0 R_r1 x2 x3 R_r4 x5 x6 x7 S_s := by
  intro n
  induction n with
  | zero => intros; rename_i h _; exact fg_none h
  | succ n ih => exact ft_X11_standsAt_3b @ih
set_option maxRecDepth 100000 in
set_option maxHeartbeats 4000000 in
theorem ft_X11_standsAt {E : h_S} {g : h_G} {r : Int32} {t : h_S} {Q : Int32 → h_S → Prop} {b : Nat → Nat} {s S_s : h_S} {A_o0 : Nat} {r1 : Option Nat} {R_r1 : Option Nat} {x2 : Int32} {x3 : Int32} {r4 : Option Nat} {R_r4 : Option Nat} {x5 : Int32} {x6 : Int32} (hR : c_R E g b s S_s) (hF : c_F s) (f_o0 : c_at b s 0 A_o0) (f_r1 : c_ao b s r1 R_r1) (f_r4 : c_ao b s r4 R_r4) (h : fn_X11_standsAt r1 x2 x3 r4 x5 x6 s = some (r, t)) (hQ : ∀ (b2 : Nat → Nat) (S2 : h_S), c_ext b s b2 t → c_R E g b2 t S2 → c_F t → Q r S2) : w_X11_standsAt A_o0 R_r1 x2 x3 R_r4 x5 x6 S_s Q := by
  unfold fn_X11_standsAt at h
  unfold w_X11_standsAt
  exact ⟨g_N, ft_X11_standsAt_3 g_N hR hF f_o0 f_r1 f_r4 h (fun b2 S2 x2 => hQ b2 S2 (cr_xt cr_xr x2))⟩
set_option maxRecDepth 100000 in
set_option maxHeartbeats 4000000 in
theorem ft_X11_linksWith_4b {E : h_S} {g : h_G} {r : Int32} {t : h_S} {Q : Int32 → h_S → Prop} {K4 : Int32 → Int32 → Int32 → h_S → Option ((Int32) × h_S)} {WK4 : Nat → Int32 → Int32 → Int32 → h_S → Prop} (hK4 : ∀ {b : Nat → Nat} {s S_s : h_S} {A_o0 : Nat} {x1 : Int32} {x2 : Int32} {x3 : Int32}, c_R E g b s S_s → c_F s → c_at b s 0 A_o0 → K4 x1 x2 x3 s = some (r, t) → (∀ (b2 : Nat → Nat) (S2 : h_S), c_ext b s b2 t → c_R E g b2 t S2 → c_F t → Q r S2) → WK4 A_o0 x1 x2 x3 S_s) {b : Nat → Nat} {s S_s : h_S} {A_o0 : Nat} {x1 : Int32} {x2 : Int32} {x3 : Int32} (hR : c_R E g b s S_s) (hF : c_F s) (f_o0 : c_at b s 0 A_o0) (h : fn_X11_linksWith_4b K4 x1 x2 x3 s = some (r, t)) (hQ : ∀ (b2 : Nat → Nat) (S2 : h_S), c_ext b s b2 t → c_R E g b2 t S2 → c_F t → Q r S2) : w_X11_linksWith_4b Q WK4 A_o0 x1 x2 x3 S_s := by
  unfold fn_X11_linksWith_4b at h
  unfold w_X11_linksWith_4b
  refine ⟨(cr_k hR f_o0).trans (cf_k (a := 0) hF rfl (by decide)), ?_⟩
  obtain ⟨A_a2, w_a2, f_a2⟩ := cr_aos (cr_r hR f_o0 _) (cf_r (a := 0) (j := 7) (y := 6) hF rfl)
  refine ⟨A_a2, w_a2, ?_⟩
  refine ⟨(cr_k hR f_a2).trans (cf_k (a := 6) hF rfl (by decide)), ?_⟩
  obtain ⟨p5, s4, e_s4, h⟩ := fg_b_s h
  refine ft_Jx4a65c_size_8abf5 hR hF f_a2 e_s4 (fun b_s4 S_s4 x_s4 r_s4 F_s4 => ?_)
  refine fg_ite Iff.rfl (fun d => ?_) (fun d => ?_)
  · have h := fg_if_t d h
    obtain ⟨q, q2⟩ := fg_ret h
    subst q
    subst q2
    exact hQ _ _ x_s4 r_s4 F_s4
  · have h := fg_if_e d h
    refine ⟨(cr_k r_s4 (cr_atx f_o0 x_s4)).trans (cf_k (a := 0) F_s4 rfl (by decide)), ?_⟩
    obtain ⟨A_a8, w_a8, f_a8⟩ := cr_aos (cr_r r_s4 (cr_atx f_o0 x_s4) _) (cf_r (a := 0) (j := 7) (y := 6) F_s4 rfl)
    refine ⟨A_a8, w_a8, ?_⟩
    refine ⟨(cr_k r_s4 f_a8).trans (cf_k (a := 6) F_s4 rfl (by decide)), ?_⟩
    obtain ⟨p11, s10, e_s10, h⟩ := fg_b_s h
    refine ft_Jx4a65c_get_915e3 r_s4 F_s4 f_a8 e_s10 (fun b_s10 R_p11 S_s10 x_s10 r_s10 F_s10 f_p11 => ?_)
    obtain ⟨c, h⟩ := fg_g_s h
    refine ⟨cr_cast r_s10 f_p11 c, ?_⟩
    obtain ⟨a13, o_a13, h⟩ := fg_o_s h
    obtain ⟨A_a13, w_a13, f_a13⟩ := cr_aos f_p11 o_a13
    refine ⟨A_a13, w_a13, ?_⟩
    obtain ⟨c_a13_1, h⟩ := fg_g_s h
    refine ⟨(cr_k r_s10 f_a13).trans c_a13_1, ?_⟩
    obtain ⟨p16, s15, e_s15, h⟩ := fg_b_s h
    refine ft_X1_holds r_s10 F_s10 f_a13 e_s15 (fun b_s15 S_s15 x_s15 r_s15 F_s15 => ?_)
    refine fg_ite Iff.rfl (fun d => ?_) (fun d => ?_)
    · have h := fg_if_t d h
      unfold w_X11_linksWith_36
      exact hK4 r_s15 F_s15 (cr_atx (cr_atx (cr_atx f_o0 x_s4) x_s10) x_s15) h (fun b2 S2 x2 => hQ b2 S2 (cr_xt (cr_xt x_s4 (cr_xt x_s10 x_s15)) x2))
    · have h := fg_if_e d h
      unfold w_X11_linksWith_36
      exact hK4 r_s15 F_s15 (cr_atx (cr_atx (cr_atx f_o0 x_s4) x_s10) x_s15) h (fun b2 S2 x2 => hQ b2 S2 (cr_xt (cr_xt x_s4 (cr_xt x_s10 x_s15)) x2))
set_option maxRecDepth 100000 in
set_option maxHeartbeats 4000000 in
theorem ft_X11_linksWith_4 {E : h_S} {g : h_G} {r : Int32} {t : h_S} {Q : Int32 → h_S → Prop} : ∀ (n : Nat) {b : Nat → Nat} {s S_s : h_S} {A_o0 : Nat} {x1 : Int32} {x2 : Int32} {x3 : Int32}, c_R E g b s S_s → c_F s → c_at b s 0 A_o0 → fn_X11_linksWith_4 n x1 x2 x3 s = some (r, t) → (∀ (b2 : Nat → Nat) (S2 : h_S), c_ext b s b2 t → c_R E g b2 t S2 → c_F t → Q r S2) → w_X11_linksWith_4 Q n A_o0 x1 x2 x3 S_s := by
  intro n
  induction n with
  | zero => intros; rename_i h _; exact fg_none h
  | succ n ih => exact ft_X11_linksWith_4b @ih
set_option maxRecDepth 100000 in
set_option maxHeartbeats 4000000 in
theorem ft_X11_linksWith {E : h_S} {g : h_G} {r : Int32} {t : h_S} {Q : Int32 → h_S → Prop} {b : Nat → Nat} {s S_s : h_S} {A_o0 : Nat} {x1 : Int32} (hR : c_R E g b s S_s) (hF : c_F s) (f_o0 : c_at b s 0 A_o0) (h : fn_X11_linksWith x1 s = some (r, t)) (hQ : ∀ (b2 : Nat → Nat) (S2 : h_S), c_ext b s b2 t → c_R E g b2 t S2 → c_F t → Q r S2) : w_X11_linksWith A_o0 x1 S_s Q := by
  unfold fn_X11_linksWith at h
  unfold w_X11_linksWith
  exact ⟨g_N, ft_X11_linksWith_4 g_N hR hF f_o0 h (fun b2 S2 x2 => hQ b2 S2 (cr_xt cr_xr x2))⟩
set_option maxRecDepth 100000 in
set_option maxHeartbeats 4000000 in
theorem ft_X11_linksOfHit {E : h_S} {g : h_G} {r : Int32} {t : h_S} {Q : Int32 → h_S → Prop} {b : Nat → Nat} {s S_s : h_S} {x0 : Int32} (hR : c_R E g b s S_s) (hF : c_F s) (h : fn_X11_linksOfHit x0 s = some (r, t)) (hQ : ∀ (b2 : Nat → Nat) (S2 : h_S), c_ext b s b2 t → c_R E g b2 t S2 → c_F t → Q r S2) : w_X11_linksOfHit x0 S_s Q := by
  unfold fn_X11_linksOfHit at h
  unfold w_X11_linksOfHit
  obtain ⟨q, q2⟩ := fg_ret h
  subst q
  subst q2
  exact hQ _ _ cr_xr hR hF
set_option maxRecDepth 100000 in
set_option maxHeartbeats 4000000 in
theorem ft_X11_keepHits_113 {E : h_S} {g : h_G} {r : Unit} {t : h_S} {Q : h_S → Prop} {K69 : Int32 → Nat → Int32 → h_S → fg_R (Unit) h_S} {WK69 : Nat → Int32 → Nat → Int32 → h_S → Nat → Nat → Prop} (hK69 : ∀ {b : Nat → Nat} {s S_s : h_S} {C D bc bs : Nat} {A_o0 : Nat} {x1 : Int32} {o2 : Nat} {A_o2 : Nat} {x4 : Int32}, c_R E g b s S_s → c_F s → c_at b s 0 A_o0 → c_at b s o2 A_o2 → K69 x1 o2 x4 s = some (r, t, C, D) → (∀ (b2 : Nat → Nat) (S2 : h_S), c_ext b s b2 t → c_R E g b2 t S2 → c_F t → Q S2) → C ≤ bc → D ≤ bs → WK69 A_o0 x1 A_o2 x4 S_s bc bs) {b : Nat → Nat} {s S_s : h_S} {C0 D0 bc bs : Nat} {A_o0 : Nat} {x1 : Int32} {o2 : Nat} {A_o2 : Nat} {x4 : Int32} {x5 : Int32} (hR : c_R E g b s S_s) (hF : c_F s) (f_o0 : c_at b s 0 A_o0) (f_o2 : c_at b s o2 A_o2) (h : fn_X11_keepHits_113 K69 x1 o2 x4 x5 s = some (r, t, C0, D0)) (hQ : ∀ (b2 : Nat → Nat) (S2 : h_S), c_ext b s b2 t → c_R E g b2 t S2 → c_F t → Q S2) (hc : C0 ≤ bc) (hd : D0 ≤ bs) : w_X11_keepHits_113 Q WK69 A_o0 x1 A_o2 x4 x5 S_s bc bs := by
  unfold fn_X11_keepHits_113 at h
  unfold w_X11_keepHits_113
  obtain ⟨c_o2_1, h⟩ := fg_g_s h
  refine ⟨(cr_k hR f_o2).trans c_o2_1, ?_⟩
  obtain ⟨c, h⟩ := fg_g_s h
  refine ⟨cr_vp (cr_n hR f_o2) rfl c, ?_⟩
  obtain ⟨c, h⟩ := fg_g_s h
  refine ⟨cr_vp (cr_n hR f_o2) rfl c, ?_⟩
  try simp -zeta -zetaUnused only [cr_i hR f_o2]
  obtain ⟨s4, e_s4, h⟩ := fg_let_s h
  intro S_s4
  have r_s4 : c_R E g b s4 S_s4 := by rw [e_s4]; exact cr_si hR f_o2 _ _
  have F_s4 : c_F s4 := by rw [e_s4]; exact cf_si hF _ _
  have x_s4 : c_ext b s b s4 := by rw [e_s4]; exact cx_si _ _
  clear_value S_s4
  exact hK69 r_s4 F_s4 (cr_atx f_o0 x_s4) (cr_atx f_o2 x_s4) h (fun b2 S2 x2 => hQ b2 S2 (cr_xt x_s4 x2)) hc hd
set_option maxRecDepth 100000 in
set_option maxHeartbeats 4000000 in
theorem ft_X11_keepHits_69b {E : h_S} {g : h_G} {r : Unit} {t : h_S} {Q : h_S → Prop} {K69 : Int32 → Nat → Int32 → h_S → fg_R (Unit) h_S} {WK69 : Nat → Int32 → Nat → Int32 → h_S → Nat → Nat → Prop} (hK69 : ∀ {b : Nat → Nat} {s S_s : h_S} {C D bc bs : Nat} {A_o0 : Nat} {x1 : Int32} {o2 : Nat} {A_o2 : Nat} {x4 : Int32}, c_R E g b s S_s → c_F s → c_at b s 0 A_o0 → c_at b s o2 A_o2 → K69 x1 o2 x4 s = some (r, t, C, D) → (∀ (b2 : Nat → Nat) (S2 : h_S), c_ext b s b2 t → c_R E g b2 t S2 → c_F t → Q S2) → C ≤ bc → D ≤ bs → WK69 A_o0 x1 A_o2 x4 S_s bc bs) {b : Nat → Nat} {s S_s : h_S} {C0 D0 bc bs : Nat} {A_o0 : Nat} {x1 : Int32} {o2 : Nat} {A_o2 : Nat} {x4 : Int32} (hR : c_R E g b s S_s) (hF : c_F s) (f_o0 : c_at b s 0 A_o0) (f_o2 : c_at b s o2 A_o2) (h : fn_X11_keepHits_69b K69 x1 o2 x4 s = some (r, t, C0, D0)) (hQ : ∀ (b2 : Nat → Nat) (S2 : h_S), c_ext b s b2 t → c_R E g b2 t S2 → c_F t → Q S2) (hc : C0 ≤ bc) (hd : D0 ≤ bs) : w_X11_keepHits_69b Q WK69 A_o0 x1 A_o2 x4 S_s bc bs := by
  unfold fn_X11_keepHits_69b at h
  unfold w_X11_keepHits_69b
  refine fg_ite Iff.rfl (fun d => ?_) (fun d => ?_)
  · have h := fg_if_t d h
    refine ⟨(cr_k hR f_o0).trans (cf_k (a := 0) hF rfl (by decide)), ?_⟩
    obtain ⟨s3, e_s3, h⟩ := fg_let_s h
    intro S_s3
    have r_s3 : c_R E g b s3 S_s3 := by rw [e_s3]; exact cr_si hR f_o0 _ _
    have F_s3 : c_F s3 := by rw [e_s3]; exact cf_si hF _ _
    have x_s3 : c_ext b s b s3 := by rw [e_s3]; exact cx_si _ _
    clear_value S_s3
    obtain ⟨_, q⟩ := fg_retc h
    subst q
    exact hQ _ _ x_s3 r_s3 F_s3
  · have h := fg_if_e d h
    refine ⟨(cr_k hR f_o0).trans (cf_k (a := 0) hF rfl (by decide)), ?_⟩
    obtain ⟨A_a5, w_a5, f_a5⟩ := cr_aos (cr_r hR f_o0 _) (cf_r (a := 0) (j := 13) (y := 12) hF rfl)
    refine ⟨A_a5, w_a5, ?_⟩
    refine ⟨(cr_k hR f_a5).trans (cf_k (a := 12) hF rfl (by decide)), ?_⟩
    obtain ⟨c, h⟩ := fg_g_s h
    refine ⟨cr_vp (cr_n hR f_a5) (cf_n (a := 12) hF rfl (by decide) rfl) c, ?_⟩
    try simp -zeta -zetaUnused only [cr_i hR f_a5]
    obtain ⟨p9, s8, e_s8, h⟩ := fg_b_s h
    refine ft_X11_linksOfHit hR hF e_s8 (fun b_s8 S_s8 x_s8 r_s8 F_s8 => ?_)
    obtain ⟨c_o2_1, h⟩ := fg_g_s h
    refine ⟨(cr_k r_s8 (cr_atx f_o2 x_s8)).trans c_o2_1, ?_⟩
    obtain ⟨c, h⟩ := fg_g_s h
    refine ⟨cr_vp (cr_n r_s8 (cr_atx f_o2 x_s8)) rfl c, ?_⟩
    try simp -zeta -zetaUnused only [cr_i r_s8 (cr_atx f_o2 x_s8)]
    refine fg_ite Iff.rfl (fun d => ?_) (fun d => ?_)
    · have h := fg_if_t d h
      exact ft_X11_keepHits_113 @hK69 r_s8 F_s8 (cr_atx f_o0 x_s8) (cr_atx f_o2 x_s8) h (fun b2 S2 x2 => hQ b2 S2 (cr_xt x_s8 x2)) hc hd
    · have h := fg_if_e d h
      refine ⟨(cr_k r_s8 (cr_atx f_o0 x_s8)).trans (cf_k (a := 0) F_s8 rfl (by decide)), ?_⟩
      obtain ⟨c, h⟩ := fg_g_s h
      refine ⟨cr_vp (cr_n r_s8 (cr_atx f_o2 x_s8)) rfl c, ?_⟩
      obtain ⟨A_a15, w_a15, f_a15⟩ := cr_aos (cr_r r_s8 (cr_atx f_o0 x_s8) _) (cf_r (a := 0) (j := 13) (y := 12) F_s8 rfl)
      refine ⟨A_a15, w_a15, ?_⟩
      refine ⟨(cr_k r_s8 f_a15).trans (cf_k (a := 12) F_s8 rfl (by decide)), ?_⟩
      obtain ⟨c, h⟩ := fg_g_s h
      refine ⟨cr_vp (cr_n r_s8 f_a15) (cf_n (a := 12) F_s8 rfl (by decide) rfl) c, ?_⟩
      obtain ⟨A_a18, w_a18, f_a18⟩ := cr_aos (cr_r r_s8 (cr_atx f_o0 x_s8) _) (cf_r (a := 0) (j := 14) (y := 13) F_s8 rfl)
      refine ⟨A_a18, w_a18, ?_⟩
      refine ⟨(cr_k r_s8 f_a18).trans (cf_k (a := 13) F_s8 rfl (by decide)), ?_⟩
      obtain ⟨c, h⟩ := fg_g_s h
      refine ⟨cr_vp (cr_n r_s8 f_a18) (cf_n (a := 13) F_s8 rfl (by decide) rfl) c, ?_⟩
      try simp -zeta -zetaUnused only [cr_i r_s8 f_a15]
      obtain ⟨s21, e_s21, h⟩ := fg_let_s h
      intro S_s21
      have r_s21 : c_R E g b_s8 s21 S_s21 := by rw [e_s21]; exact cr_si r_s8 f_a18 _ _
      have F_s21 : c_F s21 := by rw [e_s21]; exact cf_si F_s8 _ _
      have x_s21 : c_ext b_s8 s8 b_s8 s21 := by rw [e_s21]; exact cx_si _ _
      clear_value S_s21
      exact ft_X11_keepHits_113 @hK69 r_s21 F_s21 (cr_atx (cr_atx f_o0 x_s8) x_s21) (cr_atx (cr_atx f_o2 x_s8) x_s21) h (fun b2 S2 x2 => hQ b2 S2 (cr_xt (cr_xt x_s8 x_s21) x2)) hc hd
set_option maxRecDepth 100000 in
set_option maxHeartbeats 4000000 in
theorem ft_X11_keepHits_69 {E : h_S} {g : h_G} {r : Unit} {t : h_S} {Q : h_S → Prop} : ∀ (n : Nat) {b : Nat → Nat} {s S_s : h_S} {C D bc bs : Nat} {A_o0 : Nat} {x1 : Int32} {o2 : Nat} {A_o2 : Nat} {x4 : Int32}, c_R E g b s S_s → c_F s → c_at b s 0 A_o0 → c_at b s o2 A_o2 → fn_X11_keepHits_69 n x1 o2 x4 s = some (r, t, C, D) → (∀ (b2 : Nat → Nat) (S2 : h_S), c_ext b s b2 t → c_R E g b2 t S2 → c_F t → Q S2) → C ≤ bc → D ≤ bs → w_X11_keepHits_69 Q n A_o0 x1 A_o2 x4 S_s bc bs := by
  intro n
  induction n with
  | zero => intros; rename_i h _ _ _; exact fg_none h
  | succ n ih => exact ft_X11_keepHits_69b @ih
set_option maxRecDepth 100000 in
set_option maxHeartbeats 4000000 in
theorem ft_X11_keepHits_39b {E : h_S} {g : h_G} {r : Unit} {t : h_S} {Q : h_S → Prop} {K39 : Int32 → Nat → Int32 → Int32 → h_S → fg_R (Unit) h_S} {WK39 : Nat → Int32 → Nat → Int32 → Int32 → h_S → Nat → Nat → Prop} (hK39 : ∀ {b : Nat → Nat} {s S_s : h_S} {C D bc bs : Nat} {A_o0 : Nat} {x1 : Int32} {o2 : Nat} {A_o2 : Nat} {x3 : Int32} {x4 : Int32}, c_R E g b s S_s → c_F s → c_at b s 0 A_o0 → c_at b s o2 A_o2 → K39 x1 o2 x3 x4 s = some (r, t, C, D) → (∀ (b2 : Nat → Nat) (S2 : h_S), c_ext b s b2 t → c_R E g b2 t S2 → c_F t → Q S2) → C ≤ bc → D ≤ bs → WK39 A_o0 x1 A_o2 x3 x4 S_s bc bs) {b : Nat → Nat} {s S_s : h_S} {C0 D0 bc bs : Nat} {A_o0 : Nat} {x1 : Int32} {o2 : Nat} {A_o2 : Nat} {x3 : Int32} {x4 : Int32} (hR : c_R E g b s S_s) (hF : c_F s) (f_o0 : c_at b s 0 A_o0) (f_o2 : c_at b s o2 A_o2) (h : fn_X11_keepHits_39b K39 x1 o2 x3 x4 s = some (r, t, C0, D0)) (hQ : ∀ (b2 : Nat → Nat) (S2 : h_S), c_ext b s b2 t → c_R E g b2 t S2 → c_F t → Q S2) (hc : C0 ≤ bc) (hd : D0 ≤ bs) : w_X11_keepHits_39b Q WK39 A_o0 x1 A_o2 x3 x4 S_s bc bs := by
  unfold fn_X11_keepHits_39b at h
  unfold w_X11_keepHits_39b
  refine fg_ite Iff.rfl (fun d => ?_) (fun d => ?_)
  · have h := fg_if_t d h
    exact ⟨g_N, ft_X11_keepHits_69 g_N hR hF f_o0 f_o2 h (fun b2 S2 x2 => hQ b2 S2 (cr_xt cr_xr x2)) hc hd⟩
  · have h := fg_if_e d h
    obtain ⟨c_o2_1, h⟩ := fg_g_s h
    refine ⟨(cr_k hR f_o2).trans c_o2_1, ?_⟩
    obtain ⟨c, h⟩ := fg_g_s h
    refine ⟨cr_vp (cr_n hR f_o2) rfl c, ?_⟩
    obtain ⟨c, h⟩ := fg_g_s h
    refine ⟨cr_vp (cr_n hR f_o2) rfl c, ?_⟩
    obtain ⟨s5, e_s5, h⟩ := fg_let_s h
    intro S_s5
    have r_s5 : c_R E g b s5 S_s5 := by rw [e_s5]; exact cr_si hR f_o2 _ _
    have F_s5 : c_F s5 := by rw [e_s5]; exact cf_si hF _ _
    have x_s5 : c_ext b s b s5 := by rw [e_s5]; exact cx_si _ _
    clear_value S_s5
    try simp -zeta -zetaUnused only [cr_i hR f_o2]
    exact hK39 r_s5 F_s5 (cr_atx f_o0 x_s5) (cr_atx f_o2 x_s5) h (fun b2 S2 x2 => hQ b2 S2 (cr_xt x_s5 x2)) hc hd
set_option maxRecDepth 100000 in
set_option maxHeartbeats 4000000 in
theorem ft_X11_keepHits_39 {E : h_S} {g : h_G} {r : Unit} {t : h_S} {Q : h_S → Prop} : ∀ (n : Nat) {b : Nat → Nat} {s S_s : h_S} {C D bc bs : Nat} {A_o0 : Nat} {x1 : Int32} {o2 : Nat} {A_o2 : Nat} {x3 : Int32} {x4 : Int32}, c_R E g b s S_s → c_F s → c_at b s 0 A_o0 → c_at b s o2 A_o2 → fn_X11_keepHits_39 n x1 o2 x3 x4 s = some (r, t, C, D) → (∀ (b2 : Nat → Nat) (S2 : h_S), c_ext b s b2 t → c_R E g b2 t S2 → c_F t → Q S2) → C ≤ bc → D ≤ bs → w_X11_keepHits_39 Q n A_o0 x1 A_o2 x3 x4 S_s bc bs := by
  intro n
  induction n with
  | zero => intros; rename_i h _ _ _; exact fg_none h
  | succ n ih => exact ft_X11_keepHits_39b @ih
set_option maxRecDepth 100000 in
set_option maxHeartbeats 4000000 in
theorem ft_X11_keepHits_7b {E : h_S} {g : h_G} {r : Unit} {t : h_S} {Q : h_S → Prop} {K7 : Int32 → Nat → Int32 → h_S → fg_R (Unit) h_S} {WK7 : Nat → Int32 → Nat → Int32 → h_S → Nat → Nat → Prop} (hK7 : ∀ {b : Nat → Nat} {s S_s : h_S} {C D bc bs : Nat} {A_o0 : Nat} {x1 : Int32} {o2 : Nat} {A_o2 : Nat} {x3 : Int32}, c_R E g b s S_s → c_F s → c_at b s 0 A_o0 → c_at b s o2 A_o2 → K7 x1 o2 x3 s = some (r, t, C, D) → (∀ (b2 : Nat → Nat) (S2 : h_S), c_ext b s b2 t → c_R E g b2 t S2 → c_F t → Q S2) → C ≤ bc → D ≤ bs → WK7 A_o0 x1 A_o2 x3 S_s bc bs) {b : Nat → Nat} {s S_s : h_S} {C0 D0 bc bs : Nat} {A_o0 : Nat} {x1 : Int32} {o2 : Nat} {A_o2 : Nat} {x3 : Int32} (hR : c_R E g b s S_s) (hF : c_F s) (f_o0 : c_at b s 0 A_o0) (f_o2 : c_at b s o2 A_o2) (h : fn_X11_keepHits_7b K7 x1 o2 x3 s = some (r, t, C0, D0)) (hQ : ∀ (b2 : Nat → Nat) (S2 : h_S), c_ext b s b2 t → c_R E g b2 t S2 → c_F t → Q S2) (hc : C0 ≤ bc) (hd : D0 ≤ bs) : w_X11_keepHits_7b Q WK7 A_o0 x1 A_o2 x3 S_s bc bs := by
  unfold fn_X11_keepHits_7b at h
  unfold w_X11_keepHits_7b
  refine fg_ite Iff.rfl (fun d => ?_) (fun d => ?_)
  · have h := fg_if_t d h
    exact ⟨g_N, ft_X11_keepHits_39 g_N hR hF f_o0 f_o2 h (fun b2 S2 x2 => hQ b2 S2 (cr_xt cr_xr x2)) hc hd⟩
  · have h := fg_if_e d h
    refine ⟨(cr_k hR f_o0).trans (cf_k (a := 0) hF rfl (by decide)), ?_⟩
    obtain ⟨A_a3, w_a3, f_a3⟩ := cr_aos (cr_r hR f_o0 _) (cf_r (a := 0) (j := 13) (y := 12) hF rfl)
    refine ⟨A_a3, w_a3, ?_⟩
    refine ⟨(cr_k hR f_a3).trans (cf_k (a := 12) hF rfl (by decide)), ?_⟩
    obtain ⟨c, h⟩ := fg_g_s h
    refine ⟨cr_vp (cr_n hR f_a3) (cf_n (a := 12) hF rfl (by decide) rfl) c, ?_⟩
    try simp -zeta -zetaUnused only [cr_i hR f_a3]
    obtain ⟨p7, s6, e_s6, h⟩ := fg_b_s h
    refine ft_X11_linksOfHit hR hF e_s6 (fun b_s6 S_s6 x_s6 r_s6 F_s6 => ?_)
    obtain ⟨c_o2_1, h⟩ := fg_g_s h
    refine ⟨(cr_k r_s6 (cr_atx f_o2 x_s6)).trans c_o2_1, ?_⟩
    obtain ⟨c, h⟩ := fg_g_s h
    refine ⟨cr_vp (cr_n r_s6 (cr_atx f_o2 x_s6)) rfl c, ?_⟩
    obtain ⟨c, h⟩ := fg_g_s h
    refine ⟨cr_vp (cr_n r_s6 (cr_atx f_o2 x_s6)) rfl c, ?_⟩
    try simp -zeta -zetaUnused only [cr_i r_s6 (cr_atx f_o2 x_s6)]
    obtain ⟨s11, e_s11, h⟩ := fg_let_s h
    intro S_s11
    have r_s11 : c_R E g b_s6 s11 S_s11 := by rw [e_s11]; exact cr_si r_s6 (cr_atx f_o2 x_s6) _ _
    have F_s11 : c_F s11 := by rw [e_s11]; exact cf_si F_s6 _ _
    have x_s11 : c_ext b_s6 s6 b_s6 s11 := by rw [e_s11]; exact cx_si _ _
    clear_value S_s11
    exact hK7 r_s11 F_s11 (cr_atx (cr_atx f_o0 x_s6) x_s11) (cr_atx (cr_atx f_o2 x_s6) x_s11) h (fun b2 S2 x2 => hQ b2 S2 (cr_xt (cr_xt x_s6 x_s11) x2)) hc hd
set_option maxRecDepth 100000 in
set_option maxHeartbeats 4000000 in
theorem ft_X11_keepHits_7 {E : h_S} {g : h_G} {r : Unit} {t : h_S} {Q : h_S → Prop} : ∀ (n : Nat) {b : Nat → Nat} {s S_s : h_S} {C D bc bs : Nat} {A_o0 : Nat} {x1 : Int32} {o2 : Nat} {A_o2 : Nat} {x3 : Int32}, c_R E g b s S_s → c_F s → c_at b s 0 A_o0 → c_at b s o2 A_o2 → fn_X11_keepHits_7 n x1 o2 x3 s = some (r, t, C, D) → (∀ (b2 : Nat → Nat) (S2 : h_S), c_ext b s b2 t → c_R E g b2 t S2 → c_F t → Q S2) → C ≤ bc → D ≤ bs → w_X11_keepHits_7 Q n A_o0 x1 A_o2 x3 S_s bc bs := by
  intro n
  induction n with
  | zero => intros; rename_i h _ _ _; exact fg_none h
  | succ n ih => exact ft_X11_keepHits_7b @ih
set_option maxRecDepth 100000 in
set_option maxHeartbeats 4000000 in
theorem ft_X11_keepHits {E : h_S} {g : h_G} {r : Unit} {t : h_S} {Q : h_S → Prop} {b : Nat → Nat} {s S_s : h_S} {C0 D0 mc ms : Nat} {A_o0 : Nat} {x1 : Int32} (hR : c_R E g b s S_s) (hF : c_F s) (f_o0 : c_at b s 0 A_o0) (h : fn_X11_keepHits x1 s = some (r, t, C0, D0)) (hQ : ∀ (b2 : Nat → Nat) (S2 : h_S), c_ext b s b2 t → c_R E g b2 t S2 → c_F t → Q S2) (hc : C0 ≤ mc) (hd : D0 ≤ ms) : w_X11_keepHits A_o0 x1 S_s mc ms Q := by
  unfold fn_X11_keepHits at h
  unfold w_X11_keepHits
  obtain ⟨q1, e_q1, h⟩ := fg_let_s h
  have z_q1 : h_k s q1 = 0 := cf_z hF e_q1
  obtain ⟨C_q1, D_q1, h, q_q1, w_q1⟩ := fg_c_s h
  obtain ⟨u1_q1, hc⟩ := fg_sp q_q1 hc
  obtain ⟨u2_q1, hd⟩ := fg_sp w_q1 hd
  refine ⟨u1_q1, u2_q1, fun A_q1 Z_q1 => ?_⟩
  obtain ⟨s5, e_s5, h⟩ := fg_let_s h
  intro S_s5
  have r_s5 : c_R E g (c_up b q1 A_q1) s5 S_s5 := by rw [e_s5]; exact cr_nw hR z_q1 Z_q1 (by decide)
  have F_s5 : c_F s5 := by rw [e_s5]; exact cf_nw hF e_q1 (by decide)
  have x_s5 : c_ext b s (c_up b q1 A_q1) s5 := by rw [e_s5]; exact cx_new z_q1
  have f_q1 : c_at (c_up b q1 A_q1) s5 q1 A_q1 := by rw [e_s5]; exact ca_nw (by decide)
  clear_value S_s5
  intro c6
  have hc : _ ≤ c6 := hc
  clear_value c6
  intro d7
  have hd : _ ≤ d7 := hd
  clear_value d7
  exact ⟨g_N, ft_X11_keepHits_7 g_N r_s5 F_s5 (cr_atx f_o0 x_s5) f_q1 h (fun b2 S2 x2 => hQ b2 S2 (cr_xt x_s5 x2)) hc hd⟩
set_option maxRecDepth 100000 in
set_option maxHeartbeats 4000000 in
theorem ft_X11_seek_99b {E : h_S} {g : h_G} {r : Int32} {t : h_S} {Q : Int32 → h_S → Prop} {K57 : Int32 → Int32 → Int32 → Int32 → Int32 → Int32 → h_S → fg_R (Int32) h_S} {WK57 : Nat → Int32 → Int32 → Int32 → Int32 → Int32 → Int32 → h_S → Nat → Nat → Prop} (hK57 : ∀ {b : Nat → Nat} {s S_s : h_S} {C D bc bs : Nat} {A_o0 : Nat} {x1 : Int32} {x2 : Int32} {x4 : Int32} {x5 : Int32} {x7 : Int32} {x8 : Int32}, c_R E g b s S_s → c_F s → c_at b s 0 A_o0 → K57 x1 x2 x4 x5 x7 x8 s = some (r, t, C, D) → (∀ (b2 : Nat → Nat) (S2 : h_S), c_ext b s b2 t → c_R E g b2 t S2 → c_F t → Q r S2) → C ≤ bc → D ≤ bs → WK57 A_o0 x1 x2 x4 x5 x7 x8 S_s bc bs) {K99 : Int32 → Int32 → Int32 → Int32 → Int32 → Int32 → Option Nat → Int32 → Int32 → h_S → fg_R (Int32) h_S} {WK99 : Nat → Int32 → Int32 → Int32 → Int32 → Int32 → Int32 → Option Nat → Int32 → Int32 → h_S → Nat → Nat → Prop} (hK99 : ∀ {b : Nat → Nat} {s S_s : h_S} {C D bc bs : Nat} {A_o0 : Nat} {x1 : Int32} {x2 : Int32} {x4 : Int32} {x5 : Int32} {x7 : Int32} {x8 : Int32} {r9 : Option Nat} {R_r9 : Option Nat} {x10 : Int32} {x11 : Int32}, c_R E g b s S_s → c_F s → c_at b s 0 A_o0 → c_ao b s r9 R_r9 → K99 x1 x2 x4 x5 x7 x8 r9 x10 x11 s = some (r, t, C, D) → (∀ (b2 : Nat → Nat) (S2 : h_S), c_ext b s b2 t → c_R E g b2 t S2 → c_F t → Q r S2) → C ≤ bc → D ≤ bs → WK99 A_o0 x1 x2 x4 x5 x7 x8 R_r9 x10 x11 S_s bc bs) {b : Nat → Nat} {s S_s : h_S} {C0 D0 bc bs : Nat} {A_o0 : Nat} {x1 : Int32} {x2 : Int32} {x4 : Int32} {x5 : Int32} {x7 : Int32} {x8 : Int32} {r9 : Option Nat} {R_r9 : Option Nat} {x10 : Int32} {x11 : Int32} (hR : c_R E g b s S_s) (hF : c_F s) (f_o0 : c_at b s 0 A_o0) (f_r9 : c_ao b s r9 R_r9) (h : fn_X11_seek_99b K57 K99 x1 x2 x4 x5 x7 x8 r9 x10 x11 s = some (r, t, C0, D0)) (hQ : ∀ (b2 : Nat → Nat) (S2 : h_S), c_ext b s b2 t → c_R E g b2 t S2 → c_F t → Q r S2) (hc : C0 ≤ bc) (hd : D0 ≤ bs) : w_X11_seek_99b Q WK57 WK99 A_o0 x1 x2 x4 x5 x7 x8 R_r9 x10 x11 S_s bc bs := by
  unfold fn_X11_seek_99b at h
  unfold w_X11_seek_99b
  obtain ⟨a1, o_a1, h⟩ := fg_o_s h
  obtain ⟨A_a1, w_a1, f_a1⟩ := cr_aos f_r9 o_a1
  refine ⟨A_a1, w_a1, ?_⟩
  obtain ⟨c_a1_1, h⟩ := fg_g_s h
  refine ⟨(cr_k hR f_a1).trans c_a1_1, ?_⟩
  obtain ⟨a3, o_a3, h⟩ := fg_o_s h
  obtain ⟨A_a3, w_a3, f_a3⟩ := cr_aos (cr_r hR f_a1 _) o_a3
  refine ⟨A_a3, w_a3, ?_⟩
  obtain ⟨c_a3_2, h⟩ := fg_g_s h
  refine ⟨(cr_k hR f_a3).trans c_a3_2, ?_⟩
  try simp -zeta -zetaUnused only [cr_n hR f_a3]
  refine fg_ite Iff.rfl (fun d => ?_) (fun d => ?_)
  · have h := fg_if_t d h
    exact hK57 hR hF f_o0 h (fun b2 S2 x2 => hQ b2 S2 (cr_xt cr_xr x2)) hc hd
  · have h := fg_if_e d h
    refine ⟨(cr_k hR f_o0).trans (cf_k (a := 0) hF rfl (by decide)), ?_⟩
    obtain ⟨A_a7, w_a7, f_a7⟩ := cr_aos (cr_r hR f_o0 _) (cf_r (a := 0) (j := 13) (y := 12) hF rfl)
    refine ⟨A_a7, w_a7, ?_⟩
    refine ⟨(cr_k hR f_a7).trans (cf_k (a := 12) hF rfl (by decide)), ?_⟩
    try simp -zeta -zetaUnused only [cr_n hR f_a7]
    refine fg_ite Iff.rfl (fun d => ?_) (fun d => ?_)
    · have h := fg_if_t d h
      unfold w_X11_seek_181
      exact hK99 hR hF f_o0 f_r9 h (fun b2 S2 x2 => hQ b2 S2 (cr_xt cr_xr x2)) hc hd
    · have h := fg_if_e d h
      obtain ⟨A_a10, w_a10, f_a10⟩ := cr_aos (cr_r hR f_o0 _) (cf_r (a := 0) (j := 9) (y := 9) hF rfl)
      refine ⟨A_a10, w_a10, ?_⟩
      refine ⟨(cr_k hR f_a10).trans (cf_k (a := 9) hF rfl (by decide)), ?_⟩
      obtain ⟨c, h⟩ := fg_g_s h
      refine ⟨cr_vp (cr_n hR f_a10) (cf_n (a := 9) hF rfl (by decide) rfl) c, ?_⟩
      obtain ⟨p14, s13, e_s13, h⟩ := fg_b_s h
      refine ft_X11_standsAt hR hF f_o0 f_r9 (cr_r hR f_a10 _) e_s13 (fun b_s13 S_s13 x_s13 r_s13 F_s13 => ?_)
      refine fg_ite Iff.rfl (fun d => ?_) (fun d => ?_)
      · have h := fg_if_t d h
        unfold w_X11_seek_181
        exact hK99 r_s13 F_s13 (cr_atx f_o0 x_s13) (cr_aox f_r9 x_s13) h (fun b2 S2 x2 => hQ b2 S2 (cr_xt x_s13 x2)) hc hd
      · have h := fg_if_e d h
        refine ⟨(cr_k r_s13 (cr_atx f_o0 x_s13)).trans (cf_k (a := 0) F_s13 rfl (by decide)), ?_⟩
        obtain ⟨a17, o_a17, h⟩ := fg_o_s h
        obtain ⟨A_a17, w_a17, f_a17⟩ := cr_aos f_r9 o_a17
        refine ⟨A_a17, w_a17, ?_⟩
        obtain ⟨c_a17_3, h⟩ := fg_g_s h
        refine ⟨(cr_k r_s13 (cr_atx f_a17 x_s13)).trans c_a17_3, ?_⟩
        obtain ⟨a19, o_a19, h⟩ := fg_o_s h
        obtain ⟨A_a19, w_a19, f_a19⟩ := cr_aos (cr_r r_s13 (cr_atx f_a17 x_s13) _) o_a19
        refine ⟨A_a19, w_a19, ?_⟩
        obtain ⟨c_a19_4, h⟩ := fg_g_s h
        refine ⟨(cr_k r_s13 f_a19).trans c_a19_4, ?_⟩
        obtain ⟨c, h⟩ := fg_g_s h
        refine ⟨cr_vp (cr_n r_s13 f_a19) rfl c, ?_⟩
        try simp -zeta -zetaUnused only [cr_i r_s13 f_a19]
        obtain ⟨p23, s22, e_s22, h⟩ := fg_b_s h
        refine ft_X11_linksWith r_s13 F_s13 (cr_atx f_o0 x_s13) e_s22 (fun b_s22 S_s22 x_s22 r_s22 F_s22 => ?_)
        obtain ⟨A_a24, w_a24, f_a24⟩ := cr_aos (cr_r r_s13 (cr_atx f_o0 x_s13) _) (cf_r (a := 0) (j := 13) (y := 12) F_s13 rfl)
        refine ⟨A_a24, w_a24, ?_⟩
        refine ⟨(cr_k r_s22 (cr_atx f_a24 x_s22)).trans (cf_k (a := 12) F_s22 rfl (by decide)), ?_⟩
        obtain ⟨c, h⟩ := fg_g_s h
        refine ⟨cr_vp (cr_n r_s22 (cr_atx f_a24 x_s22)) (cf_n (a := 12) F_s22 rfl (by decide) rfl) c, ?_⟩
        obtain ⟨s27, e_s27, h⟩ := fg_let_s h
        intro S_s27
        have r_s27 : c_R E g b_s22 s27 S_s27 := by rw [e_s27]; exact cr_si r_s22 (cr_atx f_a24 x_s22) _ _
        have F_s27 : c_F s27 := by rw [e_s27]; exact cf_si F_s22 _ _
        have x_s27 : c_ext b_s22 s22 b_s22 s27 := by rw [e_s27]; exact cx_si _ _
        clear_value S_s27
        unfold w_X11_seek_181
        exact hK99 r_s27 F_s27 (cr_atx (cr_atx (cr_atx f_o0 x_s13) x_s22) x_s27) (cr_aox (cr_aox (cr_aox f_r9 x_s13) x_s22) x_s27) h (fun b2 S2 x2 => hQ b2 S2 (cr_xt (cr_xt x_s13 (cr_xt x_s22 x_s27)) x2)) hc hd
set_option maxRecDepth 100000 in
set_option maxHeartbeats 4000000 in
theorem ft_X11_seek_99 {E : h_S} {g : h_G} {r : Int32} {t : h_S} {Q : Int32 → h_S → Prop} {K57 : Int32 → Int32 → Int32 → Int32 → Int32 → Int32 → h_S → fg_R (Int32) h_S} {WK57 : Nat → Int32 → Int32 → Int32 → Int32 → Int32 → Int32 → h_S → Nat → Nat → Prop} (hK57 : ∀ {b : Nat → Nat} {s S_s : h_S} {C D bc bs : Nat} {A_o0 : Nat} {x1 : Int32} {x2 : Int32} {x4 : Int32} {x5 : Int32} {x7 : Int32} {x8 : Int32}, c_R E g b s S_s → c_F s → c_at b s 0 A_o0 → K57 x1 x2 x4 x5 x7 x8 s = some (r, t, C, D) → (∀ (b2 : Nat → Nat) (S2 : h_S), c_ext b s b2 t → c_R E g b2 t S2 → c_F t → Q r S2) → C ≤ bc → D ≤ bs → WK57 A_o0 x1 x2 x4 x5 x7 x8 S_s bc bs) : ∀ (n : Nat) {b : Nat → Nat} {s S_s : h_S} {C D bc bs : Nat} {A_o0 : Nat} {x1 : Int32} {x2 : Int32} {x4 : Int32} {x5 : Int32} {x7 : Int32} {x8 : Int32} {r9 : Option Nat} {R_r9 : Option Nat} {x10 : Int32} {x11 : Int32}, c_R E g b s S_s → c_F s → c_at b s 0 A_o0 → c_ao b s r9 R_r9 → fn_X11_seek_99 K57 n x1 x2 x4 x5 x7 x8 r9 x10 x11 s = some (r, t, C, D) → (∀ (b2 : Nat → Nat) (S2 : h_S), c_ext b s b2 t → c_R E g b2 t S2 → c_F t → Q r S2) → C ≤ bc → D ≤ bs → w_X11_seek_99 Q WK57 n A_o0 x1 x2 x4 x5 x7 x8 R_r9 x10 x11 S_s bc bs := by
  intro n
  induction n with
  | zero => intros; rename_i h _ _ _; exact fg_none h
  | succ n ih => exact ft_X11_seek_99b @hK57 @ih
set_option maxRecDepth 100000 in
set_option maxHeartbeats 4000000 in
theorem ft_X11_seek_57b {E : h_S} {g : h_G} {r : Int32} {t : h_S} {Q : Int32 → h_S → Prop} {K57 : Int32 → Int32 → Int32 → Int32 → Int32 → Int32 → h_S → fg_R (Int32) h_S} {WK57 : Nat → Int32 → Int32 → Int32 → Int32 → Int32 → Int32 → h_S → Nat → Nat → Prop} (hK57 : ∀ {b : Nat → Nat} {s S_s : h_S} {C D bc bs : Nat} {A_o0 : Nat} {x1 : Int32} {x2 : Int32} {x4 : Int32} {x5 : Int32} {x7 : Int32} {x8 : Int32}, c_R E g b s S_s → c_F s → c_at b s 0 A_o0 → K57 x1 x2 x4 x5 x7 x8 s = some (r, t, C, D) → (∀ (b2 : Nat → Nat) (S2 : h_S), c_ext b s b2 t → c_R E g b2 t S2 → c_F t → Q r S2) → C ≤ bc → D ≤ bs → WK57 A_o0 x1 x2 x4 x5 x7 x8 S_s bc bs) {b : Nat → Nat} {s S_s : h_S} {C0 D0 bc bs : Nat} {A_o0 : Nat} {x1 : Int32} {x2 : Int32} {x4 : Int32} {x5 : Int32} {x7 : Int32} {x8 : Int32} (hR : c_R E g b s S_s) (hF : c_F s) (f_o0 : c_at b s 0 A_o0) (h : fn_X11_seek_57b K57 x1 x2 x4 x5 x7 x8 s = some (r, t, C0, D0)) (hQ : ∀ (b2 : Nat → Nat) (S2 : h_S), c_ext b s b2 t → c_R E g b2 t S2 → c_F t → Q r S2) (hc : C0 ≤ bc) (hd : D0 ≤ bs) : w_X11_seek_57b Q WK57 A_o0 x1 x2 x4 x5 x7 x8 S_s bc bs := by
  unfold fn_X11_seek_57b at h
  unfold w_X11_seek_57b
  refine ⟨(cr_k hR f_o0).trans (cf_k (a := 0) hF rfl (by decide)), ?_⟩
  obtain ⟨A_a2, w_a2, f_a2⟩ := cr_aos (cr_r hR f_o0 _) (cf_r (a := 0) (j := 5) (y := 4) hF rfl)
  refine ⟨A_a2, w_a2, ?_⟩
  refine ⟨(cr_k hR f_a2).trans (cf_k (a := 4) hF rfl (by decide)), ?_⟩
  obtain ⟨p5, s4, e_s4, h⟩ := fg_b_s h
  refine ft_Jx4a65c_size_8abf5 hR hF f_a2 e_s4 (fun b_s4 S_s4 x_s4 r_s4 F_s4 => ?_)
  refine fg_ite Iff.rfl (fun d => ?_) (fun d => ?_)
  · have h := fg_if_t d h
    refine ⟨(cr_k r_s4 (cr_atx f_o0 x_s4)).trans (cf_k (a := 0) F_s4 rfl (by decide)), ?_⟩
    obtain ⟨u_, s8, mc10, ms11, C_s8, D_s8, e_s8, h, q_s8, w_s8⟩ := fg_bc_s h
    obtain ⟨u1_s8, hc⟩ := fg_sp q_s8 hc
    obtain ⟨u2_s8, hd⟩ := fg_sp w_s8 hd
    refine ⟨mc10, ms11, u1_s8, u2_s8, ft_X11_keepHits r_s4 F_s4 (cr_atx f_o0 x_s4) e_s8 (fun b_s8 S_s8 x_s8 r_s8 F_s8 => ?_) (Nat.le_refl _) (Nat.le_refl _)⟩
    obtain ⟨q, q2⟩ := fg_retc h
    subst q
    subst q2
    exact hQ _ _ (cr_xt x_s4 x_s8) r_s8 F_s8
  · have h := fg_if_e d h
    refine ⟨(cr_k r_s4 (cr_atx f_o0 x_s4)).trans (cf_k (a := 0) F_s4 rfl (by decide)), ?_⟩
    obtain ⟨A_a15, w_a15, f_a15⟩ := cr_aos (cr_r r_s4 (cr_atx f_o0 x_s4) _) (cf_r (a := 0) (j := 5) (y := 4) F_s4 rfl)
    refine ⟨A_a15, w_a15, ?_⟩
    refine ⟨(cr_k r_s4 f_a15).trans (cf_k (a := 4) F_s4 rfl (by decide)), ?_⟩
    obtain ⟨p18, s17, e_s17, h⟩ := fg_b_s h
    refine ft_Jx4a65c_get_915e3 r_s4 F_s4 f_a15 e_s17 (fun b_s17 R_p18 S_s17 x_s17 r_s17 F_s17 f_p18 => ?_)
    obtain ⟨c, h⟩ := fg_g_s h
    refine ⟨cr_cast r_s17 f_p18 c, ?_⟩
    refine ⟨(cr_k r_s17 (cr_atx (cr_atx f_o0 x_s4) x_s17)).trans (cf_k (a := 0) F_s17 rfl (by decide)), ?_⟩
    try simp -zeta -zetaUnused only [cr_i r_s17 (cr_atx (cr_atx f_o0 x_s4) x_s17)]
    obtain ⟨p22, s21, e_s21, h⟩ := fg_b_s h
    refine ft_X11_openHomes r_s17 F_s17 (cr_atx (cr_atx f_o0 x_s4) x_s17) f_p18 e_s21 (fun b_s21 S_s21 x_s21 r_s21 F_s21 => ?_)
    exact ⟨g_N, ft_X11_seek_99 @hK57 g_N r_s21 F_s21 (cr_atx (cr_atx (cr_atx f_o0 x_s4) x_s17) x_s21) (cr_aox f_p18 x_s21) h (fun b2 S2 x2 => hQ b2 S2 (cr_xt (cr_xt x_s4 (cr_xt x_s17 x_s21)) x2)) hc hd⟩
set_option maxRecDepth 100000 in
set_option maxHeartbeats 4000000 in
theorem ft_X11_seek_57 {E : h_S} {g : h_G} {r : Int32} {t : h_S} {Q : Int32 → h_S → Prop} : ∀ (n : Nat) {b : Nat → Nat} {s S_s : h_S} {C D bc bs : Nat} {A_o0 : Nat} {x1 : Int32} {x2 : Int32} {x4 : Int32} {x5 : Int32} {x7 : Int32} {x8 : Int32}, c_R E g b s S_s → c_F s → c_at b s 0 A_o0 → fn_X11_seek_57 n x1 x2 x4 x5 x7 x8 s = some (r, t, C, D) → (∀ (b2 : Nat → Nat) (S2 : h_S), c_ext b s b2 t → c_R E g b2 t S2 → c_F t → Q r S2) → C ≤ bc → D ≤ bs → w_X11_seek_57 Q n A_o0 x1 x2 x4 x5 x7 x8 S_s bc bs := by
  intro n
  induction n with
  | zero => intros; rename_i h _ _ _; exact fg_none h
  | succ n ih => exact ft_X11_seek_57b @ih
set_option maxRecDepth 100000 in
set_option maxHeartbeats 4000000 in
theorem ft_X11_seek {E : h_S} {g : h_G} {r : Int32} {t : h_S} {Q : Int32 → h_S → Prop} {b : Nat → Nat} {s S_s : h_S} {C0 D0 mc ms : Nat} {A_o0 : Nat} {x1 : Int32} {x2 : Int32} {x3 : Int32} {x4 : Int32} {x5 : Int32} (hR : c_R E g b s S_s) (hF : c_F s) (f_o0 : c_at b s 0 A_o0) (h : fn_X11_seek x1 x2 x3 x4 x5 s = some (r, t, C0, D0)) (hQ : ∀ (b2 : Nat → Nat) (S2 : h_S), c_ext b s b2 t → c_R E g b2 t S2 → c_F t → Q r S2) (hc : C0 ≤ mc) (hd : D0 ≤ ms) : w_X11_seek A_o0 x1 x2 x3 x4 x5 S_s mc ms Q := by
  unfold fn_X11_seek at h
  unfold w_X11_seek
  refine ⟨(cr_k hR f_o0).trans (cf_k (a := 0) hF rfl (by decide)), ?_⟩
  obtain ⟨s2, e_s2, h⟩ := fg_let_s h
  intro S_s2
  have r_s2 : c_R E g b s2 S_s2 := by rw [e_s2]; exact cr_si hR f_o0 _ _
  have F_s2 : c_F s2 := by rw [e_s2]; exact cf_si hF _ _
  have x_s2 : c_ext b s b s2 := by rw [e_s2]; exact cx_si _ _
  clear_value S_s2
  obtain ⟨p4, s3, e_s3, h⟩ := fg_b_s h
  refine ft_X11_isHand r_s2 F_s2 (cr_atx f_o0 x_s2) e_s3 (fun b_s3 S_s3 x_s3 r_s3 F_s3 => ?_)
  refine fg_ite Iff.rfl (fun d => ?_) (fun d => ?_)
  · have h := fg_if_t d h
    unfold w_X11_seek_21
    obtain ⟨q, q2⟩ := fg_retc h
    subst q
    subst q2
    exact hQ _ _ (cr_xt x_s2 x_s3) r_s3 F_s3
  · have h := fg_if_e d h
    obtain ⟨p7, s6, e_s6, h⟩ := fg_b_s h
    refine ft_X11_within r_s3 F_s3 e_s6 (fun b_s6 S_s6 x_s6 r_s6 F_s6 => ?_)
    refine fg_ite Iff.rfl (fun d => ?_) (fun d => ?_)
    · have h := fg_if_t d h
      unfold w_X11_seek_21
      obtain ⟨q, q2⟩ := fg_retc h
      subst q
      subst q2
      exact hQ _ _ (cr_xt x_s2 (cr_xt x_s3 x_s6)) r_s6 F_s6
    · have h := fg_if_e d h
      refine ⟨(cr_k r_s6 (cr_atx (cr_atx (cr_atx f_o0 x_s2) x_s3) x_s6)).trans (cf_k (a := 0) F_s6 rfl (by decide)), ?_⟩
      obtain ⟨p11, s10, e_s10, h⟩ := fg_b_s h
      refine ft_X11_refusedCells r_s6 F_s6 (cr_atx (cr_atx (cr_atx f_o0 x_s2) x_s3) x_s6) e_s10 (fun b_s10 S_s10 x_s10 r_s10 F_s10 => ?_)
      refine fg_ite Iff.rfl (fun d => ?_) (fun d => ?_)
      · have h := fg_if_t d h
        refine fg_ite Iff.rfl (fun d => ?_) (fun d => ?_)
        · have h := fg_if_t d h
          obtain ⟨q, q2⟩ := fg_retc h
          subst q
          subst q2
          exact hQ _ _ (cr_xt x_s2 (cr_xt x_s3 (cr_xt x_s6 x_s10))) r_s10 F_s10
        · have h := fg_if_e d h
          exact ⟨g_N, ft_X11_seek_57 g_N r_s10 F_s10 (cr_atx (cr_atx (cr_atx (cr_atx f_o0 x_s2) x_s3) x_s6) x_s10) h (fun b2 S2 x2 => hQ b2 S2 (cr_xt (cr_xt x_s2 (cr_xt x_s3 (cr_xt x_s6 x_s10))) x2)) hc hd⟩
      · have h := fg_if_e d h
        obtain ⟨q, q2⟩ := fg_retc h
        subst q
        subst q2
        exact hQ _ _ (cr_xt x_s2 (cr_xt x_s3 (cr_xt x_s6 x_s10))) r_s10 F_s10
set_option maxRecDepth 100000 in
set_option maxHeartbeats 4000000 in
theorem ft_X11_hit {E : h_S} {g : h_G} {r : Int32} {t : h_S} {Q : Int32 → h_S → Prop} {b : Nat → Nat} {s S_s : h_S} {A_o0 : Nat} {x1 : Int32} {x2 : Int32} (hR : c_R E g b s S_s) (hF : c_F s) (f_o0 : c_at b s 0 A_o0) (h : fn_X11_hit x1 x2 s = some (r, t)) (hQ : ∀ (b2 : Nat → Nat) (S2 : h_S), c_ext b s b2 t → c_R E g b2 t S2 → c_F t → Q r S2) : w_X11_hit A_o0 x1 x2 S_s Q := by
  unfold fn_X11_hit at h
  unfold w_X11_hit
  refine ⟨(cr_k hR f_o0).trans (cf_k (a := 0) hF rfl (by decide)), ?_⟩
  try simp -zeta -zetaUnused only [cr_i hR f_o0]
  obtain ⟨p3, s2, e_s2, h⟩ := fg_b_s h
  refine ft_X11_within hR hF e_s2 (fun b_s2 S_s2 x_s2 r_s2 F_s2 => ?_)
  refine fg_ite Iff.rfl (fun d => ?_) (fun d => ?_)
  · have h := fg_if_t d h
    obtain ⟨q, q2⟩ := fg_ret h
    subst q
    subst q2
    exact hQ _ _ x_s2 r_s2 F_s2
  · have h := fg_if_e d h
    refine fg_ite Iff.rfl (fun d => ?_) (fun d => ?_)
    · have h := fg_if_t d h
      refine ⟨(cr_k r_s2 (cr_atx f_o0 x_s2)).trans (cf_k (a := 0) F_s2 rfl (by decide)), ?_⟩
      obtain ⟨A_a7, w_a7, f_a7⟩ := cr_aos (cr_r r_s2 (cr_atx f_o0 x_s2) _) (cf_r (a := 0) (j := 14) (y := 13) F_s2 rfl)
      refine ⟨A_a7, w_a7, ?_⟩
      refine ⟨(cr_k r_s2 f_a7).trans (cf_k (a := 13) F_s2 rfl (by decide)), ?_⟩
      obtain ⟨c, h⟩ := fg_g_s h
      refine ⟨cr_vp (cr_n r_s2 f_a7) (cf_n (a := 13) F_s2 rfl (by decide) rfl) c, ?_⟩
      try simp -zeta -zetaUnused only [cr_i r_s2 f_a7]
      obtain ⟨q, q2⟩ := fg_ret h
      subst q
      subst q2
      exact hQ _ _ x_s2 r_s2 F_s2
    · have h := fg_if_e d h
      refine fg_ite Iff.rfl (fun d => ?_) (fun d => ?_)
      · have h := fg_if_t d h
        refine ⟨(cr_k r_s2 (cr_atx f_o0 x_s2)).trans (cf_k (a := 0) F_s2 rfl (by decide)), ?_⟩
        obtain ⟨A_a14, w_a14, f_a14⟩ := cr_aos (cr_r r_s2 (cr_atx f_o0 x_s2) _) (cf_r (a := 0) (j := 14) (y := 13) F_s2 rfl)
        refine ⟨A_a14, w_a14, ?_⟩
        refine ⟨(cr_k r_s2 f_a14).trans (cf_k (a := 13) F_s2 rfl (by decide)), ?_⟩
        obtain ⟨c, h⟩ := fg_g_s h
        refine ⟨cr_vp (cr_n r_s2 f_a14) (cf_n (a := 13) F_s2 rfl (by decide) rfl) c, ?_⟩
        try simp -zeta -zetaUnused only [cr_i r_s2 f_a14]
        obtain ⟨q, q2⟩ := fg_ret h
        subst q
        subst q2
        exact hQ _ _ x_s2 r_s2 F_s2
      · have h := fg_if_e d h
        refine fg_ite Iff.rfl (fun d => ?_) (fun d => ?_)
        · have h := fg_if_t d h
          refine ⟨(cr_k r_s2 (cr_atx f_o0 x_s2)).trans (cf_k (a := 0) F_s2 rfl (by decide)), ?_⟩
          obtain ⟨A_a20, w_a20, f_a20⟩ := cr_aos (cr_r r_s2 (cr_atx f_o0 x_s2) _) (cf_r (a := 0) (j := 14) (y := 13) F_s2 rfl)
          refine ⟨A_a20, w_a20, ?_⟩
          refine ⟨(cr_k r_s2 f_a20).trans (cf_k (a := 13) F_s2 rfl (by decide)), ?_⟩
          obtain ⟨c, h⟩ := fg_g_s h
          refine ⟨cr_vp (cr_n r_s2 f_a20) (cf_n (a := 13) F_s2 rfl (by decide) rfl) c, ?_⟩
          try simp -zeta -zetaUnused only [cr_i r_s2 f_a20]
          obtain ⟨p24, s23, e_s23, h⟩ := fg_b_s h
          refine ft_X11_linksOfHit r_s2 F_s2 e_s23 (fun b_s23 S_s23 x_s23 r_s23 F_s23 => ?_)
          obtain ⟨q, q2⟩ := fg_ret h
          subst q
          subst q2
          exact hQ _ _ (cr_xt x_s2 x_s23) r_s23 F_s23
        · have h := fg_if_e d h
          obtain ⟨q, q2⟩ := fg_ret h
          subst q
          subst q2
          exact hQ _ _ x_s2 r_s2 F_s2
set_option maxRecDepth 100000 in
set_option maxHeartbeats 4000000 in
theorem ft_X11_growTree_73 {E : h_S} {g : h_G} {r : Unit} {t : h_S} {Q : h_S → Prop} {K2 : Int32 → Int32 → h_S → Option ((Unit) × h_S)} {WK2 : Nat → Int32 → Int32 → h_S → Prop} (hK2 : ∀ {b : Nat → Nat} {s S_s : h_S} {A_o0 : Nat} {x1 : Int32} {x2 : Int32}, c_R E g b s S_s → c_F s → c_at b s 0 A_o0 → K2 x1 x2 s = some (r, t) → (∀ (b2 : Nat → Nat) (S2 : h_S), c_ext b s b2 t → c_R E g b2 t S2 → c_F t → Q S2) → WK2 A_o0 x1 x2 S_s) {b : Nat → Nat} {s S_s : h_S} {A_o0 : Nat} {x1 : Int32} {x2 : Int32} {y0 : Int32} {y1 : Int32} {t2 : Option Nat} {R_t2 : Option Nat} (hR : c_R E g b s S_s) (hF : c_F s) (f_o0 : c_at b s 0 A_o0) (f_t2 : c_ao b s t2 R_t2) (h : fn_X11_growTree_73 K2 x1 x2 y0 y1 t2 s = some (r, t)) (hQ : ∀ (b2 : Nat → Nat) (S2 : h_S), c_ext b s b2 t → c_R E g b2 t S2 → c_F t → Q S2) : w_X11_growTree_73 Q WK2 A_o0 x1 x2 y0 y1 R_t2 S_s := by
  unfold fn_X11_growTree_73 at h
  unfold w_X11_growTree_73
  obtain ⟨a1, o_a1, h⟩ := fg_o_s h
  obtain ⟨A_a1, w_a1, f_a1⟩ := cr_aos f_t2 o_a1
  refine ⟨A_a1, w_a1, ?_⟩
  obtain ⟨c_a1_1, h⟩ := fg_g_s h
  refine ⟨(cr_k hR f_a1).trans c_a1_1, ?_⟩
  obtain ⟨c, h⟩ := fg_g_s h
  refine ⟨cr_vp (cr_n hR f_a1) rfl c, ?_⟩
  obtain ⟨s4, e_s4, h⟩ := fg_let_s h
  intro S_s4
  have r_s4 : c_R E g b s4 S_s4 := by rw [e_s4]; exact cr_si hR f_a1 _ _
  have F_s4 : c_F s4 := by rw [e_s4]; exact cf_si hF _ _
  have x_s4 : c_ext b s b s4 := by rw [e_s4]; exact cx_si _ _
  clear_value S_s4
  exact hK2 r_s4 F_s4 (cr_atx f_o0 x_s4) h (fun b2 S2 x2 => hQ b2 S2 (cr_xt x_s4 x2))
set_option maxRecDepth 100000 in
set_option maxHeartbeats 4000000 in
theorem ft_X11_growTree_35 {E : h_S} {g : h_G} {r : Unit} {t : h_S} {Q : h_S → Prop} {K2 : Int32 → Int32 → h_S → Option ((Unit) × h_S)} {WK2 : Nat → Int32 → Int32 → h_S → Prop} (hK2 : ∀ {b : Nat → Nat} {s S_s : h_S} {A_o0 : Nat} {x1 : Int32} {x2 : Int32}, c_R E g b s S_s → c_F s → c_at b s 0 A_o0 → K2 x1 x2 s = some (r, t) → (∀ (b2 : Nat → Nat) (S2 : h_S), c_ext b s b2 t → c_R E g b2 t S2 → c_F t → Q S2) → WK2 A_o0 x1 x2 S_s) {b : Nat → Nat} {s S_s : h_S} {A_o0 : Nat} {x1 : Int32} {x2 : Int32} {r3 : Option Nat} {R_r3 : Option Nat} {y0 : Int32} (hR : c_R E g b s S_s) (hF : c_F s) (f_o0 : c_at b s 0 A_o0) (f_r3 : c_ao b s r3 R_r3) (h : fn_X11_growTree_35 K2 x1 x2 r3 y0 s = some (r, t)) (hQ : ∀ (b2 : Nat → Nat) (S2 : h_S), c_ext b s b2 t → c_R E g b2 t S2 → c_F t → Q S2) : w_X11_growTree_35 Q WK2 A_o0 x1 x2 R_r3 y0 S_s := by
  unfold fn_X11_growTree_35 at h
  unfold w_X11_growTree_35
  refine ⟨(cr_k hR f_o0).trans (cf_k (a := 0) hF rfl (by decide)), ?_⟩
  refine fg_ite Iff.rfl (fun d => ?_) (fun d => ?_)
  · have h := fg_if_t d h
    exact ft_X11_growTree_73 @hK2 hR hF f_o0 (cr_r hR f_o0 _) h (fun b2 S2 x2 => hQ b2 S2 (cr_xt cr_xr x2))
  · have h := fg_if_e d h
    obtain ⟨a3, o_a3, h⟩ := fg_o_s h
    obtain ⟨A_a3, w_a3, f_a3⟩ := cr_aos f_r3 o_a3
    refine ⟨A_a3, w_a3, ?_⟩
    obtain ⟨c_a3_1, h⟩ := fg_g_s h
    refine ⟨(cr_k hR f_a3).trans c_a3_1, ?_⟩
    obtain ⟨a5, o_a5, h⟩ := fg_o_s h
    obtain ⟨A_a5, w_a5, f_a5⟩ := cr_aos f_r3 o_a5
    refine ⟨A_a5, w_a5, ?_⟩
    obtain ⟨c_a5_2, h⟩ := fg_g_s h
    refine ⟨(cr_k hR f_a5).trans c_a5_2, ?_⟩
    try simp -zeta -zetaUnused only [cr_i hR f_a3, cr_i hR f_a5]
    obtain ⟨p8, s7, e_s7, h⟩ := fg_b_s h
    refine ft_X11_mix hR hF e_s7 (fun b_s7 S_s7 x_s7 r_s7 F_s7 => ?_)
    obtain ⟨a9, o_a9, h⟩ := fg_o_s h
    obtain ⟨A_a9, w_a9, f_a9⟩ := cr_aos f_r3 o_a9
    refine ⟨A_a9, w_a9, ?_⟩
    obtain ⟨c_a9_3, h⟩ := fg_g_s h
    refine ⟨(cr_k r_s7 (cr_atx f_a9 x_s7)).trans c_a9_3, ?_⟩
    try simp -zeta -zetaUnused only [cr_i r_s7 (cr_atx f_a9 x_s7)]
    obtain ⟨p12, s11, e_s11, h⟩ := fg_b_s h
    refine ft_X11_mix r_s7 F_s7 e_s11 (fun b_s11 S_s11 x_s11 r_s11 F_s11 => ?_)
    exact ft_X11_growTree_73 @hK2 r_s11 F_s11 (cr_atx (cr_atx f_o0 x_s7) x_s11) (cr_aox (cr_aox (cr_r hR f_o0 _) x_s7) x_s11) h (fun b2 S2 x2 => hQ b2 S2 (cr_xt (cr_xt x_s7 x_s11) x2))
set_option maxRecDepth 100000 in
set_option maxHeartbeats 4000000 in
theorem ft_X11_growTree_34 {E : h_S} {g : h_G} {r : Unit} {t : h_S} {Q : h_S → Prop} {K2 : Int32 → Int32 → h_S → Option ((Unit) × h_S)} {WK2 : Nat → Int32 → Int32 → h_S → Prop} (hK2 : ∀ {b : Nat → Nat} {s S_s : h_S} {A_o0 : Nat} {x1 : Int32} {x2 : Int32}, c_R E g b s S_s → c_F s → c_at b s 0 A_o0 → K2 x1 x2 s = some (r, t) → (∀ (b2 : Nat → Nat) (S2 : h_S), c_ext b s b2 t → c_R E g b2 t S2 → c_F t → Q S2) → WK2 A_o0 x1 x2 S_s) {b : Nat → Nat} {s S_s : h_S} {A_o0 : Nat} {x1 : Int32} {x2 : Int32} {r3 : Option Nat} {R_r3 : Option Nat} (hR : c_R E g b s S_s) (hF : c_F s) (f_o0 : c_at b s 0 A_o0) (f_r3 : c_ao b s r3 R_r3) (h : fn_X11_growTree_34 K2 x1 x2 r3 s = some (r, t)) (hQ : ∀ (b2 : Nat → Nat) (S2 : h_S), c_ext b s b2 t → c_R E g b2 t S2 → c_F t → Q S2) : w_X11_growTree_34 Q WK2 A_o0 x1 x2 R_r3 S_s := by
  unfold fn_X11_growTree_34 at h
  unfold w_X11_growTree_34
  exact ft_X11_growTree_35 @hK2 hR hF f_o0 f_r3 h (fun b2 S2 x2 => hQ b2 S2 (cr_xt cr_xr x2))
set_option maxRecDepth 100000 in
set_option maxHeartbeats 4000000 in
theorem ft_X11_growTree_84b {E : h_S} {g : h_G} {r : Unit} {t : h_S} {Q : h_S → Prop} {K84 : Int32 → h_S → Option ((Unit) × h_S)} {WK84 : Nat → Int32 → h_S → Prop} (hK84 : ∀ {b : Nat → Nat} {s S_s : h_S} {A_o0 : Nat} {x2 : Int32}, c_R E g b s S_s → c_F s → c_at b s 0 A_o0 → K84 x2 s = some (r, t) → (∀ (b2 : Nat → Nat) (S2 : h_S), c_ext b s b2 t → c_R E g b2 t S2 → c_F t → Q S2) → WK84 A_o0 x2 S_s) {b : Nat → Nat} {s S_s : h_S} {A_o0 : Nat} {x2 : Int32} (hR : c_R E g b s S_s) (hF : c_F s) (f_o0 : c_at b s 0 A_o0) (h : fn_X11_growTree_84b K84 x2 s = some (r, t)) (hQ : ∀ (b2 : Nat → Nat) (S2 : h_S), c_ext b s b2 t → c_R E g b2 t S2 → c_F t → Q S2) : w_X11_growTree_84b Q WK84 A_o0 x2 S_s := by
  unfold fn_X11_growTree_84b at h
  unfold w_X11_growTree_84b
  refine fg_ite Iff.rfl (fun d => ?_) (fun d => ?_)
  · have h := fg_if_t d h
    obtain ⟨_, q⟩ := fg_ret h
    subst q
    exact hQ _ _ cr_xr hR hF
  · have h := fg_if_e d h
    refine ⟨(cr_k hR f_o0).trans (cf_k (a := 0) hF rfl (by decide)), ?_⟩
    obtain ⟨A_a3, w_a3, f_a3⟩ := cr_aos (cr_r hR f_o0 _) (cf_r (a := 0) (j := 16) (y := 14) hF rfl)
    refine ⟨A_a3, w_a3, ?_⟩
    refine ⟨(cr_k hR f_a3).trans (cf_k (a := 14) hF rfl (by decide)), ?_⟩
    obtain ⟨c, h⟩ := fg_g_s h
    refine ⟨cr_vp (cr_n hR f_a3) (cf_n (a := 14) hF rfl (by decide) rfl) c, ?_⟩
    obtain ⟨A_a6, w_a6, f_a6⟩ := cr_aos (cr_r hR f_o0 _) (cf_r (a := 0) (j := 16) (y := 14) hF rfl)
    refine ⟨A_a6, w_a6, ?_⟩
    refine ⟨(cr_k hR f_a6).trans (cf_k (a := 14) hF rfl (by decide)), ?_⟩
    obtain ⟨c, h⟩ := fg_g_s h
    refine ⟨cr_vp (cr_n hR f_a6) (cf_n (a := 14) hF rfl (by decide) rfl) c, ?_⟩
    try simp -zeta -zetaUnused only [cr_i hR f_a3, cr_i hR f_a6]
    obtain ⟨p10, s9, e_s9, h⟩ := fg_b_s h
    refine ft_X11_mix hR hF e_s9 (fun b_s9 S_s9 x_s9 r_s9 F_s9 => ?_)
    obtain ⟨A_a11, w_a11, f_a11⟩ := cr_aos (cr_r hR f_o0 _) (cf_r (a := 0) (j := 16) (y := 14) hF rfl)
    refine ⟨A_a11, w_a11, ?_⟩
    refine ⟨(cr_k r_s9 (cr_atx f_a11 x_s9)).trans (cf_k (a := 14) F_s9 rfl (by decide)), ?_⟩
    obtain ⟨c, h⟩ := fg_g_s h
    refine ⟨cr_vp (cr_n r_s9 (cr_atx f_a11 x_s9)) (cf_n (a := 14) F_s9 rfl (by decide) rfl) c, ?_⟩
    obtain ⟨s14, e_s14, h⟩ := fg_let_s h
    intro S_s14
    have r_s14 : c_R E g b_s9 s14 S_s14 := by rw [e_s14]; exact cr_si r_s9 (cr_atx f_a11 x_s9) _ _
    have F_s14 : c_F s14 := by rw [e_s14]; exact cf_si F_s9 _ _
    have x_s14 : c_ext b_s9 s9 b_s9 s14 := by rw [e_s14]; exact cx_si _ _
    clear_value S_s14
    exact hK84 r_s14 F_s14 (cr_atx (cr_atx f_o0 x_s9) x_s14) h (fun b2 S2 x2 => hQ b2 S2 (cr_xt (cr_xt x_s9 x_s14) x2))
set_option maxRecDepth 100000 in
set_option maxHeartbeats 4000000 in
theorem ft_X11_growTree_84 {E : h_S} {g : h_G} {r : Unit} {t : h_S} {Q : h_S → Prop} : ∀ (n : Nat) {b : Nat → Nat} {s S_s : h_S} {A_o0 : Nat} {x2 : Int32}, c_R E g b s S_s → c_F s → c_at b s 0 A_o0 → fn_X11_growTree_84 n x2 s = some (r, t) → (∀ (b2 : Nat → Nat) (S2 : h_S), c_ext b s b2 t → c_R E g b2 t S2 → c_F t → Q S2) → w_X11_growTree_84 Q n A_o0 x2 S_s := by
  intro n
  induction n with
  | zero => intros; rename_i h _; exact fg_none h
  | succ n ih => exact ft_X11_growTree_84b @ih
set_option maxRecDepth 100000 in
set_option maxHeartbeats 4000000 in
theorem ft_X11_growTree_2b {E : h_S} {g : h_G} {r : Unit} {t : h_S} {Q : h_S → Prop} {K2 : Int32 → Int32 → h_S → Option ((Unit) × h_S)} {WK2 : Nat → Int32 → Int32 → h_S → Prop} (hK2 : ∀ {b : Nat → Nat} {s S_s : h_S} {A_o0 : Nat} {x1 : Int32} {x2 : Int32}, c_R E g b s S_s → c_F s → c_at b s 0 A_o0 → K2 x1 x2 s = some (r, t) → (∀ (b2 : Nat → Nat) (S2 : h_S), c_ext b s b2 t → c_R E g b2 t S2 → c_F t → Q S2) → WK2 A_o0 x1 x2 S_s) {b : Nat → Nat} {s S_s : h_S} {A_o0 : Nat} {x1 : Int32} {x2 : Int32} (hR : c_R E g b s S_s) (hF : c_F s) (f_o0 : c_at b s 0 A_o0) (h : fn_X11_growTree_2b K2 x1 x2 s = some (r, t)) (hQ : ∀ (b2 : Nat → Nat) (S2 : h_S), c_ext b s b2 t → c_R E g b2 t S2 → c_F t → Q S2) : w_X11_growTree_2b Q WK2 A_o0 x1 x2 S_s := by
  unfold fn_X11_growTree_2b at h
  unfold w_X11_growTree_2b
  refine fg_ite Iff.rfl (fun d => ?_) (fun d => ?_)
  · have h := fg_if_t d h
    exact ⟨g_N, ft_X11_growTree_84 g_N hR hF f_o0 h (fun b2 S2 x2 => hQ b2 S2 (cr_xt cr_xr x2))⟩
  · have h := fg_if_e d h
    refine ⟨(cr_k hR f_o0).trans (cf_k (a := 0) hF rfl (by decide)), ?_⟩
    obtain ⟨A_a3, w_a3, f_a3⟩ := cr_aos (cr_r hR f_o0 _) (cf_r (a := 0) (j := 4) (y := 3) hF rfl)
    refine ⟨A_a3, w_a3, ?_⟩
    refine ⟨(cr_k hR f_a3).trans (cf_k (a := 3) hF rfl (by decide)), ?_⟩
    obtain ⟨p6, s5, e_s5, h⟩ := fg_b_s h
    refine ft_X7_wordAt hR hF f_a3 e_s5 (fun b_s5 R_p6 S_s5 x_s5 r_s5 F_s5 f_p6 => ?_)
    refine fg_ite (cr_isn f_p6) (fun d => ?_) (fun d => ?_)
    · have h := fg_if_t d h
      exact ft_X11_growTree_34 @hK2 r_s5 F_s5 (cr_atx f_o0 x_s5) f_p6 h (fun b2 S2 x2 => hQ b2 S2 (cr_xt x_s5 x2))
    · have h := fg_if_e d h
      obtain ⟨a8, o_a8, h⟩ := fg_o_s h
      obtain ⟨A_a8, w_a8, f_a8⟩ := cr_aos f_p6 o_a8
      refine ⟨A_a8, w_a8, ?_⟩
      obtain ⟨c_a8_1, h⟩ := fg_g_s h
      refine ⟨(cr_k r_s5 f_a8).trans c_a8_1, ?_⟩
      try simp -zeta -zetaUnused only [cr_i r_s5 f_a8]
      refine fg_ite Iff.rfl (fun d => ?_) (fun d => ?_)
      · have h := fg_if_t d h
        exact ft_X11_growTree_34 @hK2 r_s5 F_s5 (cr_atx f_o0 x_s5) f_p6 h (fun b2 S2 x2 => hQ b2 S2 (cr_xt x_s5 x2))
      · have h := fg_if_e d h
        exact ft_X11_growTree_35 @hK2 r_s5 F_s5 (cr_atx f_o0 x_s5) f_p6 h (fun b2 S2 x2 => hQ b2 S2 (cr_xt x_s5 x2))
set_option maxRecDepth 100000 in
set_option maxHeartbeats 4000000 in
theorem ft_X11_growTree_2 {E : h_S} {g : h_G} {r : Unit} {t : h_S} {Q : h_S → Prop} : ∀ (n : Nat) {b : Nat → Nat} {s S_s : h_S} {A_o0 : Nat} {x1 : Int32} {x2 : Int32}, c_R E g b s S_s → c_F s → c_at b s 0 A_o0 → fn_X11_growTree_2 n x1 x2 s = some (r, t) → (∀ (b2 : Nat → Nat) (S2 : h_S), c_ext b s b2 t → c_R E g b2 t S2 → c_F t → Q S2) → w_X11_growTree_2 Q n A_o0 x1 x2 S_s := by
  intro n
  induction n with
  | zero => intros; rename_i h _; exact fg_none h
  | succ n ih => exact ft_X11_growTree_2b @ih
set_option maxRecDepth 100000 in
set_option maxHeartbeats 4000000 in
theorem ft_X11_growTree {E : h_S} {g : h_G} {r : Unit} {t : h_S} {Q : h_S → Prop} {b : Nat → Nat} {s S_s : h_S} {A_o0 : Nat} {x1 : Int32} (hR : c_R E g b s S_s) (hF : c_F s) (f_o0 : c_at b s 0 A_o0) (h : fn_X11_growTree x1 s = some (r, t)) (hQ : ∀ (b2 : Nat → Nat) (S2 : h_S), c_ext b s b2 t → c_R E g b2 t S2 → c_F t → Q S2) : w_X11_growTree A_o0 x1 S_s Q := by
  unfold fn_X11_growTree at h
  unfold w_X11_growTree
  exact ⟨g_N, ft_X11_growTree_2 g_N hR hF f_o0 h (fun b2 S2 x2 => hQ b2 S2 (cr_xt cr_xr x2))⟩
set_option maxRecDepth 100000 in
set_option maxHeartbeats 4000000 in
theorem ft_X11_seal {E : h_S} {g : h_G} {r : Int32} {t : h_S} {Q : Int32 → h_S → Prop} {b : Nat → Nat} {s S_s : h_S} {A_o0 : Nat} {x1 : Int32} (hR : c_R E g b s S_s) (hF : c_F s) (f_o0 : c_at b s 0 A_o0) (h : fn_X11_seal x1 s = some (r, t)) (hQ : ∀ (b2 : Nat → Nat) (S2 : h_S), c_ext b s b2 t → c_R E g b2 t S2 → c_F t → Q r S2) : w_X11_seal A_o0 x1 S_s Q := by
  unfold fn_X11_seal at h
  unfold w_X11_seal
  refine ⟨(cr_k hR f_o0).trans (cf_k (a := 0) hF rfl (by decide)), ?_⟩
  obtain ⟨p3, s2, e_s2, h⟩ := fg_b_s h
  refine ft_X11_isMoment hR hF f_o0 e_s2 (fun b_s2 S_s2 x_s2 r_s2 F_s2 => ?_)
  refine fg_ite Iff.rfl (fun d => ?_) (fun d => ?_)
  · have h := fg_if_t d h
    obtain ⟨q, q2⟩ := fg_ret h
    subst q
    subst q2
    exact hQ _ _ x_s2 r_s2 F_s2
  · have h := fg_if_e d h
    refine ⟨(cr_k r_s2 (cr_atx f_o0 x_s2)).trans (cf_k (a := 0) F_s2 rfl (by decide)), ?_⟩
    obtain ⟨u_, s6, e_s6, h⟩ := fg_b_s h
    refine ft_X11_growTree r_s2 F_s2 (cr_atx f_o0 x_s2) e_s6 (fun b_s6 S_s6 x_s6 r_s6 F_s6 => ?_)
    refine ⟨(cr_k r_s6 (cr_atx (cr_atx f_o0 x_s2) x_s6)).trans (cf_k (a := 0) F_s6 rfl (by decide)), ?_⟩
    obtain ⟨A_a9, w_a9, f_a9⟩ := cr_aos (cr_r r_s6 (cr_atx (cr_atx f_o0 x_s2) x_s6) _) (cf_r (a := 0) (j := 16) (y := 14) F_s6 rfl)
    refine ⟨A_a9, w_a9, ?_⟩
    refine ⟨(cr_k r_s6 f_a9).trans (cf_k (a := 14) F_s6 rfl (by decide)), ?_⟩
    obtain ⟨c, h⟩ := fg_g_s h
    refine ⟨cr_vp (cr_n r_s6 f_a9) (cf_n (a := 14) F_s6 rfl (by decide) rfl) c, ?_⟩
    try simp -zeta -zetaUnused only [cr_i r_s6 f_a9]
    obtain ⟨q, q2⟩ := fg_ret h
    subst q
    subst q2
    exact hQ _ _ (cr_xt x_s2 x_s6) r_s6 F_s6
set_option maxRecDepth 100000 in
set_option maxHeartbeats 4000000 in
theorem ft_X11_sideInTree {E : h_S} {g : h_G} {r : Int32} {t : h_S} {Q : Int32 → h_S → Prop} {b : Nat → Nat} {s S_s : h_S} {A_o0 : Nat} {x1 : Int32} {x2 : Int32} (hR : c_R E g b s S_s) (hF : c_F s) (f_o0 : c_at b s 0 A_o0) (h : fn_X11_sideInTree x1 x2 s = some (r, t)) (hQ : ∀ (b2 : Nat → Nat) (S2 : h_S), c_ext b s b2 t → c_R E g b2 t S2 → c_F t → Q r S2) : w_X11_sideInTree A_o0 x1 x2 S_s Q := by
  unfold fn_X11_sideInTree at h
  unfold w_X11_sideInTree
  obtain ⟨v1, e_v1, h⟩ := fg_let_s h
  intro S_v1
  have z_v1 : v1 = S_v1 := e_v1
  clear_value S_v1
  subst z_v1
  refine ⟨(cr_k hR f_o0).trans (cf_k (a := 0) hF rfl (by decide)), ?_⟩
  obtain ⟨A_a3, w_a3, f_a3⟩ := cr_aos (cr_r hR f_o0 _) (cf_r (a := 0) (j := 16) (y := 14) hF rfl)
  refine ⟨A_a3, w_a3, ?_⟩
  refine ⟨(cr_k hR f_a3).trans (cf_k (a := 14) hF rfl (by decide)), ?_⟩
  try simp -zeta -zetaUnused only [cr_n hR f_a3]
  obtain ⟨p6, s5, e_s5, h⟩ := fg_b_s h
  refine ft_X11_within hR hF e_s5 (fun b_s5 S_s5 x_s5 r_s5 F_s5 => ?_)
  refine fg_ite Iff.rfl (fun d => ?_) (fun d => ?_)
  · have h := fg_if_t d h
    unfold w_X11_sideInTree_32
    obtain ⟨q, q2⟩ := fg_ret h
    subst q
    subst q2
    exact hQ _ _ x_s5 r_s5 F_s5
  · have h := fg_if_e d h
    refine ⟨(cr_k r_s5 (cr_atx f_o0 x_s5)).trans (cf_k (a := 0) F_s5 rfl (by decide)), ?_⟩
    obtain ⟨A_a9, w_a9, f_a9⟩ := cr_aos (cr_r r_s5 (cr_atx f_o0 x_s5) _) (cf_r (a := 0) (j := 16) (y := 14) F_s5 rfl)
    refine ⟨A_a9, w_a9, ?_⟩
    refine ⟨(cr_k r_s5 f_a9).trans (cf_k (a := 14) F_s5 rfl (by decide)), ?_⟩
    obtain ⟨c, h⟩ := fg_g_s h
    refine ⟨cr_vp (cr_n r_s5 f_a9) (cf_n (a := 14) F_s5 rfl (by decide) rfl) c, ?_⟩
    unfold w_X11_sideInTree_32
    try simp -zeta -zetaUnused only [cr_i r_s5 f_a9]
    obtain ⟨q, q2⟩ := fg_ret h
    subst q
    subst q2
    exact hQ _ _ x_s5 r_s5 F_s5
set_option maxRecDepth 100000 in
set_option maxHeartbeats 4000000 in
theorem ft_X11_side {E : h_S} {g : h_G} {r : Int32} {t : h_S} {Q : Int32 → h_S → Prop} {b : Nat → Nat} {s S_s : h_S} {A_o0 : Nat} {x1 : Int32} {x2 : Int32} {x3 : Int32} (hR : c_R E g b s S_s) (hF : c_F s) (f_o0 : c_at b s 0 A_o0) (h : fn_X11_side x1 x2 x3 s = some (r, t)) (hQ : ∀ (b2 : Nat → Nat) (S2 : h_S), c_ext b s b2 t → c_R E g b2 t S2 → c_F t → Q r S2) : w_X11_side A_o0 x1 x2 x3 S_s Q := by
  unfold fn_X11_side at h
  unfold w_X11_side
  refine ⟨(cr_k hR f_o0).trans (cf_k (a := 0) hF rfl (by decide)), ?_⟩
  obtain ⟨A_a2, w_a2, f_a2⟩ := cr_aos (cr_r hR f_o0 _) (cf_r (a := 0) (j := 4) (y := 3) hF rfl)
  refine ⟨A_a2, w_a2, ?_⟩
  refine ⟨(cr_k hR f_a2).trans (cf_k (a := 3) hF rfl (by decide)), ?_⟩
  obtain ⟨p5, s4, e_s4, h⟩ := fg_b_s h
  refine ft_X7_wordCount hR hF f_a2 e_s4 (fun b_s4 S_s4 x_s4 r_s4 F_s4 => ?_)
  obtain ⟨p7, s6, e_s6, h⟩ := fg_b_s h
  refine ft_X11_within r_s4 F_s4 e_s6 (fun b_s6 S_s6 x_s6 r_s6 F_s6 => ?_)
  refine fg_ite Iff.rfl (fun d => ?_) (fun d => ?_)
  · have h := fg_if_t d h
    unfold w_X11_side_31
    obtain ⟨q, q2⟩ := fg_ret h
    subst q
    subst q2
    exact hQ _ _ (cr_xt x_s4 x_s6) r_s6 F_s6
  · have h := fg_if_e d h
    refine ⟨(cr_k r_s6 (cr_atx (cr_atx f_o0 x_s4) x_s6)).trans (cf_k (a := 0) F_s6 rfl (by decide)), ?_⟩
    obtain ⟨p11, s10, e_s10, h⟩ := fg_b_s h
    refine ft_X11_isMoment r_s6 F_s6 (cr_atx (cr_atx f_o0 x_s4) x_s6) e_s10 (fun b_s10 S_s10 x_s10 r_s10 F_s10 => ?_)
    refine fg_ite Iff.rfl (fun d => ?_) (fun d => ?_)
    · have h := fg_if_t d h
      unfold w_X11_side_31
      obtain ⟨q, q2⟩ := fg_ret h
      subst q
      subst q2
      exact hQ _ _ (cr_xt x_s4 (cr_xt x_s6 x_s10)) r_s10 F_s10
    · have h := fg_if_e d h
      obtain ⟨p14, s13, e_s13, h⟩ := fg_b_s h
      refine ft_X11_within r_s10 F_s10 e_s13 (fun b_s13 S_s13 x_s13 r_s13 F_s13 => ?_)
      refine fg_ite Iff.rfl (fun d => ?_) (fun d => ?_)
      · have h := fg_if_t d h
        unfold w_X11_side_31
        obtain ⟨q, q2⟩ := fg_ret h
        subst q
        subst q2
        exact hQ _ _ (cr_xt x_s4 (cr_xt x_s6 (cr_xt x_s10 x_s13))) r_s13 F_s13
      · have h := fg_if_e d h
        refine ⟨(cr_k r_s13 (cr_atx (cr_atx (cr_atx (cr_atx f_o0 x_s4) x_s6) x_s10) x_s13)).trans (cf_k (a := 0) F_s13 rfl (by decide)), ?_⟩
        obtain ⟨u_, s17, e_s17, h⟩ := fg_b_s h
        refine ft_X11_growTree r_s13 F_s13 (cr_atx (cr_atx (cr_atx (cr_atx f_o0 x_s4) x_s6) x_s10) x_s13) e_s17 (fun b_s17 S_s17 x_s17 r_s17 F_s17 => ?_)
        refine ⟨(cr_k r_s17 (cr_atx (cr_atx (cr_atx (cr_atx (cr_atx f_o0 x_s4) x_s6) x_s10) x_s13) x_s17)).trans (cf_k (a := 0) F_s17 rfl (by decide)), ?_⟩
        obtain ⟨p21, s20, e_s20, h⟩ := fg_b_s h
        refine ft_X11_sideInTree r_s17 F_s17 (cr_atx (cr_atx (cr_atx (cr_atx (cr_atx f_o0 x_s4) x_s6) x_s10) x_s13) x_s17) e_s20 (fun b_s20 S_s20 x_s20 r_s20 F_s20 => ?_)
        obtain ⟨q, q2⟩ := fg_ret h
        subst q
        subst q2
        exact hQ _ _ (cr_xt x_s4 (cr_xt x_s6 (cr_xt x_s10 (cr_xt x_s13 (cr_xt x_s17 x_s20))))) r_s20 F_s20
set_option maxRecDepth 100000 in
set_option maxHeartbeats 4000000 in
theorem ft_X11_prove_78b {E : h_S} {g : h_G} {r : Int32} {t : h_S} {Q : Int32 → h_S → Prop} {K78 : Int32 → Int32 → Int32 → Int32 → Int32 → h_S → Option ((Int32) × h_S)} {WK78 : Nat → Int32 → Int32 → Int32 → Int32 → Int32 → h_S → Prop} (hK78 : ∀ {b : Nat → Nat} {s S_s : h_S} {A_o0 : Nat} {x1 : Int32} {x6 : Int32} {x8 : Int32} {x10 : Int32} {x11 : Int32}, c_R E g b s S_s → c_F s → c_at b s 0 A_o0 → K78 x1 x6 x8 x10 x11 s = some (r, t) → (∀ (b2 : Nat → Nat) (S2 : h_S), c_ext b s b2 t → c_R E g b2 t S2 → c_F t → Q r S2) → WK78 A_o0 x1 x6 x8 x10 x11 S_s) {b : Nat → Nat} {s S_s : h_S} {A_o0 : Nat} {x1 : Int32} {x6 : Int32} {x8 : Int32} {x10 : Int32} {x11 : Int32} (hR : c_R E g b s S_s) (hF : c_F s) (f_o0 : c_at b s 0 A_o0) (h : fn_X11_prove_78b K78 x1 x6 x8 x10 x11 s = some (r, t)) (hQ : ∀ (b2 : Nat → Nat) (S2 : h_S), c_ext b s b2 t → c_R E g b2 t S2 → c_F t → Q r S2) : w_X11_prove_78b Q WK78 A_o0 x1 x6 x8 x10 x11 S_s := by
  unfold fn_X11_prove_78b at h
  unfold w_X11_prove_78b
  refine fg_ite Iff.rfl (fun d => ?_) (fun d => ?_)
  · have h := fg_if_t d h
    refine ⟨(cr_k hR f_o0).trans (cf_k (a := 0) hF rfl (by decide)), ?_⟩
    obtain ⟨A_a3, w_a3, f_a3⟩ := cr_aos (cr_r hR f_o0 _) (cf_r (a := 0) (j := 16) (y := 14) hF rfl)
    refine ⟨A_a3, w_a3, ?_⟩
    refine ⟨(cr_k hR f_a3).trans (cf_k (a := 14) hF rfl (by decide)), ?_⟩
    obtain ⟨c, h⟩ := fg_g_s h
    refine ⟨cr_vp (cr_n hR f_a3) (cf_n (a := 14) hF rfl (by decide) rfl) c, ?_⟩
    try simp -zeta -zetaUnused only [cr_i hR f_a3]
    refine fg_ite Iff.rfl (fun d => ?_) (fun d => ?_)
    · have h := fg_if_t d h
      unfold w_X11_prove_170
      obtain ⟨q, q2⟩ := fg_ret h
      subst q
      subst q2
      exact hQ _ _ cr_xr hR hF
    · have h := fg_if_e d h
      unfold w_X11_prove_170
      obtain ⟨q, q2⟩ := fg_ret h
      subst q
      subst q2
      exact hQ _ _ cr_xr hR hF
  · have h := fg_if_e d h
    refine ⟨(cr_k hR f_o0).trans (cf_k (a := 0) hF rfl (by decide)), ?_⟩
    obtain ⟨p9, s8, e_s8, h⟩ := fg_b_s h
    refine ft_X11_sideInTree hR hF f_o0 e_s8 (fun b_s8 S_s8 x_s8 r_s8 F_s8 => ?_)
    refine ⟨(cr_k r_s8 (cr_atx f_o0 x_s8)).trans (cf_k (a := 0) F_s8 rfl (by decide)), ?_⟩
    obtain ⟨A_a11, w_a11, f_a11⟩ := cr_aos (cr_r r_s8 (cr_atx f_o0 x_s8) _) (cf_r (a := 0) (j := 9) (y := 9) F_s8 rfl)
    refine ⟨A_a11, w_a11, ?_⟩
    refine ⟨(cr_k r_s8 f_a11).trans (cf_k (a := 9) F_s8 rfl (by decide)), ?_⟩
    obtain ⟨c, h⟩ := fg_g_s h
    refine ⟨cr_vp (cr_n r_s8 f_a11) (cf_n (a := 9) F_s8 rfl (by decide) rfl) c, ?_⟩
    obtain ⟨a14, o_a14, h⟩ := fg_o_s h
    obtain ⟨A_a14, w_a14, f_a14⟩ := cr_aos (cr_r r_s8 f_a11 _) o_a14
    refine ⟨A_a14, w_a14, ?_⟩
    obtain ⟨c_a14_1, h⟩ := fg_g_s h
    refine ⟨(cr_k r_s8 f_a14).trans c_a14_1, ?_⟩
    obtain ⟨p17, s16, e_s16, h⟩ := fg_b_s h
    refine ft_X5_cellAt r_s8 F_s8 f_a14 e_s16 (fun b_s16 S_s16 x_s16 r_s16 F_s16 => ?_)
    refine fg_ite Iff.rfl (fun d => ?_) (fun d => ?_)
    · have h := fg_if_t d h
      refine fg_ite Iff.rfl (fun d => ?_) (fun d => ?_)
      · have h := fg_if_t d h
        obtain ⟨p23, s22, e_s22, h⟩ := fg_b_s h
        refine ft_X11_mix r_s16 F_s16 e_s22 (fun b_s22 S_s22 x_s22 r_s22 F_s22 => ?_)
        unfold w_X11_prove_146
        exact hK78 r_s22 F_s22 (cr_atx (cr_atx (cr_atx f_o0 x_s8) x_s16) x_s22) h (fun b2 S2 x2 => hQ b2 S2 (cr_xt (cr_xt x_s8 (cr_xt x_s16 x_s22)) x2))
      · have h := fg_if_e d h
        obtain ⟨p21, s20, e_s20, h⟩ := fg_b_s h
        refine ft_X11_mix r_s16 F_s16 e_s20 (fun b_s20 S_s20 x_s20 r_s20 F_s20 => ?_)
        unfold w_X11_prove_146
        exact hK78 r_s20 F_s20 (cr_atx (cr_atx (cr_atx f_o0 x_s8) x_s16) x_s20) h (fun b2 S2 x2 => hQ b2 S2 (cr_xt (cr_xt x_s8 (cr_xt x_s16 x_s20)) x2))
    · have h := fg_if_e d h
      obtain ⟨q, q2⟩ := fg_ret h
      subst q
      subst q2
      exact hQ _ _ (cr_xt x_s8 x_s16) r_s16 F_s16
set_option maxRecDepth 100000 in
set_option maxHeartbeats 4000000 in
theorem ft_X11_prove_78 {E : h_S} {g : h_G} {r : Int32} {t : h_S} {Q : Int32 → h_S → Prop} : ∀ (n : Nat) {b : Nat → Nat} {s S_s : h_S} {A_o0 : Nat} {x1 : Int32} {x6 : Int32} {x8 : Int32} {x10 : Int32} {x11 : Int32}, c_R E g b s S_s → c_F s → c_at b s 0 A_o0 → fn_X11_prove_78 n x1 x6 x8 x10 x11 s = some (r, t) → (∀ (b2 : Nat → Nat) (S2 : h_S), c_ext b s b2 t → c_R E g b2 t S2 → c_F t → Q r S2) → w_X11_prove_78 Q n A_o0 x1 x6 x8 x10 x11 S_s := by
  intro n
  induction n with
  | zero => intros; rename_i h _; exact fg_none h
  | succ n ih => exact ft_X11_prove_78b @ih
set_option maxRecDepth 100000 in
set_option maxHeartbeats 4000000 in
theorem ft_X11_prove {E : h_S} {g : h_G} {r : Int32} {t : h_S} {Q : Int32 → h_S → Prop} {b : Nat → Nat} {s S_s : h_S} {A_o0 : Nat} {x1 : Int32} {x2 : Int32} {x3 : Int32} {x4 : Int32} {x5 : Int32} {x6 : Int32} {x7 : Int32} {x8 : Int32} (hR : c_R E g b s S_s) (hF : c_F s) (f_o0 : c_at b s 0 A_o0) (h : fn_X11_prove x1 x2 x3 x4 x5 x6 x7 x8 s = some (r, t)) (hQ : ∀ (b2 : Nat → Nat) (S2 : h_S), c_ext b s b2 t → c_R E g b2 t S2 → c_F t → Q r S2) : w_X11_prove A_o0 x1 x2 x3 x4 x5 x6 x7 x8 S_s Q := by
  unfold fn_X11_prove at h
  unfold w_X11_prove
  refine ⟨(cr_k hR f_o0).trans (cf_k (a := 0) hF rfl (by decide)), ?_⟩
  obtain ⟨s2, e_s2, h⟩ := fg_let_s h
  intro S_s2
  have r_s2 : c_R E g b s2 S_s2 := by rw [e_s2]; exact cr_si hR f_o0 _ _
  have F_s2 : c_F s2 := by rw [e_s2]; exact cf_si hF _ _
  have x_s2 : c_ext b s b s2 := by rw [e_s2]; exact cx_si _ _
  clear_value S_s2
  obtain ⟨p4, s3, e_s3, h⟩ := fg_b_s h
  refine ft_X11_within r_s2 F_s2 e_s3 (fun b_s3 S_s3 x_s3 r_s3 F_s3 => ?_)
  refine fg_ite Iff.rfl (fun d => ?_) (fun d => ?_)
  · have h := fg_if_t d h
    unfold w_X11_prove_33
    obtain ⟨q, q2⟩ := fg_ret h
    subst q
    subst q2
    exact hQ _ _ (cr_xt x_s2 x_s3) r_s3 F_s3
  · have h := fg_if_e d h
    refine ⟨(cr_k r_s3 (cr_atx (cr_atx f_o0 x_s2) x_s3)).trans (cf_k (a := 0) F_s3 rfl (by decide)), ?_⟩
    obtain ⟨p8, s7, e_s7, h⟩ := fg_b_s h
    refine ft_X11_isMoment r_s3 F_s3 (cr_atx (cr_atx f_o0 x_s2) x_s3) e_s7 (fun b_s7 S_s7 x_s7 r_s7 F_s7 => ?_)
    refine fg_ite Iff.rfl (fun d => ?_) (fun d => ?_)
    · have h := fg_if_t d h
      unfold w_X11_prove_33
      obtain ⟨q, q2⟩ := fg_ret h
      subst q
      subst q2
      exact hQ _ _ (cr_xt x_s2 (cr_xt x_s3 x_s7)) r_s7 F_s7
    · have h := fg_if_e d h
      obtain ⟨p11, s10, e_s10, h⟩ := fg_b_s h
      refine ft_X11_within r_s7 F_s7 e_s10 (fun b_s10 S_s10 x_s10 r_s10 F_s10 => ?_)
      refine fg_ite Iff.rfl (fun d => ?_) (fun d => ?_)
      · have h := fg_if_t d h
        unfold w_X11_prove_33
        obtain ⟨q, q2⟩ := fg_ret h
        subst q
        subst q2
        exact hQ _ _ (cr_xt x_s2 (cr_xt x_s3 (cr_xt x_s7 x_s10))) r_s10 F_s10
      · have h := fg_if_e d h
        refine ⟨(cr_k r_s10 (cr_atx (cr_atx (cr_atx (cr_atx f_o0 x_s2) x_s3) x_s7) x_s10)).trans (cf_k (a := 0) F_s10 rfl (by decide)), ?_⟩
        obtain ⟨p15, s14, e_s14, h⟩ := fg_b_s h
        refine ft_X11_refusedCells r_s10 F_s10 (cr_atx (cr_atx (cr_atx (cr_atx f_o0 x_s2) x_s3) x_s7) x_s10) e_s14 (fun b_s14 S_s14 x_s14 r_s14 F_s14 => ?_)
        refine fg_ite Iff.rfl (fun d => ?_) (fun d => ?_)
        · have h := fg_if_t d h
          refine ⟨(cr_k r_s14 (cr_atx (cr_atx (cr_atx (cr_atx (cr_atx f_o0 x_s2) x_s3) x_s7) x_s10) x_s14)).trans (cf_k (a := 0) F_s14 rfl (by decide)), ?_⟩
          obtain ⟨u_, s18, e_s18, h⟩ := fg_b_s h
          refine ft_X11_growTree r_s14 F_s14 (cr_atx (cr_atx (cr_atx (cr_atx (cr_atx f_o0 x_s2) x_s3) x_s7) x_s10) x_s14) e_s18 (fun b_s18 S_s18 x_s18 r_s18 F_s18 => ?_)
          obtain ⟨p21, s20, e_s20, h⟩ := fg_b_s h
          refine ft_X11_mix r_s18 F_s18 e_s20 (fun b_s20 S_s20 x_s20 r_s20 F_s20 => ?_)
          obtain ⟨p23, s22, e_s22, h⟩ := fg_b_s h
          refine ft_X11_mix r_s20 F_s20 e_s22 (fun b_s22 S_s22 x_s22 r_s22 F_s22 => ?_)
          exact ⟨g_N, ft_X11_prove_78 g_N r_s22 F_s22 (cr_atx (cr_atx (cr_atx (cr_atx (cr_atx (cr_atx (cr_atx (cr_atx f_o0 x_s2) x_s3) x_s7) x_s10) x_s14) x_s18) x_s20) x_s22) h (fun b2 S2 x2 => hQ b2 S2 (cr_xt (cr_xt x_s2 (cr_xt x_s3 (cr_xt x_s7 (cr_xt x_s10 (cr_xt x_s14 (cr_xt x_s18 (cr_xt x_s20 x_s22))))))) x2))⟩
        · have h := fg_if_e d h
          obtain ⟨q, q2⟩ := fg_ret h
          subst q
          subst q2
          exact hQ _ _ (cr_xt x_s2 (cr_xt x_s3 (cr_xt x_s7 (cr_xt x_s10 x_s14)))) r_s14 F_s14
