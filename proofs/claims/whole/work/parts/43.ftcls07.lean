set_option maxRecDepth 100000 in
set_option maxHeartbeats 4000000 in
theorem ft_X11_settle_118 {E : h_S} {g : h_G} {r : Int32} {t : h_S} {Q : Int32 → h_S → Prop} {b : Nat → Nat} {s S_s : h_S} {C0 D0 bc bs : Nat} {A_o0 : Nat} {r3 : Option Nat} {R_r3 : Option Nat} {x4 : Int32} {x6 : Int32} {y0 : Int32} (hR : c_R E g b s S_s) (hF : c_F s) (f_o0 : c_at b s 0 A_o0) (f_r3 : c_ao b s r3 R_r3) (h : fn_X11_settle_118 r3 x4 x6 y0 s = some (r, t, C0, D0)) (hQ : ∀ (b2 : Nat → Nat) (S2 : h_S), c_ext b s b2 t → c_R E g b2 t S2 → c_F t → Q r S2) (hc : C0 ≤ bc) (hd : D0 ≤ bs) : w_X11_settle_118 Q A_o0 R_r3 x4 x6 y0 S_s bc bs := by
  unfold fn_X11_settle_118 at h
  unfold w_X11_settle_118
  obtain ⟨a1, o_a1, h⟩ := fg_o_s h
  obtain ⟨A_a1, w_a1, f_a1⟩ := cr_aos f_r3 o_a1
  refine ⟨A_a1, w_a1, ?_⟩
  obtain ⟨c_a1_1, h⟩ := fg_g_s h
  refine ⟨(cr_k hR f_a1).trans c_a1_1, ?_⟩
  refine ⟨(cr_k hR f_o0).trans (cf_k (a := 0) hF rfl (by decide)), ?_⟩
  try simp -zeta -zetaUnused only [cr_i hR f_a1]
  obtain ⟨p5, s4, mc6, ms7, C_s4, D_s4, e_s4, h, q_s4, w_s4⟩ := fg_bc_s h
  obtain ⟨u1_s4, hc⟩ := fg_sp q_s4 hc
  obtain ⟨u2_s4, hd⟩ := fg_sp w_s4 hd
  refine ⟨mc6, ms7, u1_s4, u2_s4, ft_X11_takeOut hR hF f_o0 e_s4 (fun b_s4 S_s4 x_s4 r_s4 F_s4 => ?_) (Nat.le_refl _) (Nat.le_refl _)⟩
  refine fg_ite Iff.rfl (fun d => ?_) (fun d => ?_)
  · have h := fg_if_t d h
    obtain ⟨q, q2⟩ := fg_retc h
    subst q
    subst q2
    exact hQ _ _ x_s4 r_s4 F_s4
  · have h := fg_if_e d h
    obtain ⟨a11, o_a11, h⟩ := fg_o_s h
    obtain ⟨A_a11, w_a11, f_a11⟩ := cr_aos f_r3 o_a11
    refine ⟨A_a11, w_a11, ?_⟩
    obtain ⟨c_a11_2, h⟩ := fg_g_s h
    refine ⟨(cr_k r_s4 (cr_atx f_a11 x_s4)).trans c_a11_2, ?_⟩
    obtain ⟨s13, e_s13, h⟩ := fg_let_s h
    intro S_s13
    have r_s13 : c_R E g b_s4 s13 S_s13 := by rw [e_s13]; exact cr_si r_s4 (cr_atx f_a11 x_s4) _ _
    have F_s13 : c_F s13 := by rw [e_s13]; exact cf_si F_s4 _ _
    have x_s13 : c_ext b_s4 s4 b_s4 s13 := by rw [e_s13]; exact cx_si _ _
    clear_value S_s13
    refine ⟨(cr_k r_s13 (cr_atx (cr_atx f_o0 x_s4) x_s13)).trans (cf_k (a := 0) F_s13 rfl (by decide)), ?_⟩
    obtain ⟨p16, s15, e_s15, h⟩ := fg_b_s h
    refine ft_X11_acted r_s13 F_s13 (cr_atx (cr_atx f_o0 x_s4) x_s13) e_s15 (fun b_s15 S_s15 x_s15 r_s15 F_s15 => ?_)
    obtain ⟨q, q2⟩ := fg_retc h
    subst q
    subst q2
    exact hQ _ _ (cr_xt x_s4 (cr_xt x_s13 x_s15)) r_s15 F_s15
set_option maxRecDepth 100000 in
set_option maxHeartbeats 4000000 in
theorem ft_X11_settle_102 {E : h_S} {g : h_G} {r : Int32} {t : h_S} {Q : Int32 → h_S → Prop} {b : Nat → Nat} {s S_s : h_S} {C0 D0 bc bs : Nat} {A_o0 : Nat} {x2 : Int32} {r3 : Option Nat} {R_r3 : Option Nat} {x4 : Int32} {x5 : Int32} {y0 : Int32} (hR : c_R E g b s S_s) (hF : c_F s) (f_o0 : c_at b s 0 A_o0) (f_r3 : c_ao b s r3 R_r3) (h : fn_X11_settle_102 x2 r3 x4 x5 y0 s = some (r, t, C0, D0)) (hQ : ∀ (b2 : Nat → Nat) (S2 : h_S), c_ext b s b2 t → c_R E g b2 t S2 → c_F t → Q r S2) (hc : C0 ≤ bc) (hd : D0 ≤ bs) : w_X11_settle_102 Q A_o0 x2 R_r3 x4 x5 y0 S_s bc bs := by
  unfold fn_X11_settle_102 at h
  unfold w_X11_settle_102
  refine fg_ite Iff.rfl (fun d => ?_) (fun d => ?_)
  · have h := fg_if_t d h
    obtain ⟨a2, o_a2, h⟩ := fg_o_s h
    obtain ⟨A_a2, w_a2, f_a2⟩ := cr_aos f_r3 o_a2
    refine ⟨A_a2, w_a2, ?_⟩
    obtain ⟨c_a2_1, h⟩ := fg_g_s h
    refine ⟨(cr_k hR f_a2).trans c_a2_1, ?_⟩
    try simp -zeta -zetaUnused only [cr_i hR f_a2]
    exact ft_X11_settle_118 hR hF f_o0 f_r3 h (fun b2 S2 x2 => hQ b2 S2 (cr_xt cr_xr x2)) hc hd
  · have h := fg_if_e d h
    exact ft_X11_settle_118 hR hF f_o0 f_r3 h (fun b2 S2 x2 => hQ b2 S2 (cr_xt cr_xr x2)) hc hd
set_option maxRecDepth 100000 in
set_option maxHeartbeats 4000000 in
theorem ft_X11_settle_71 {E : h_S} {g : h_G} {r : Int32} {t : h_S} {Q : Int32 → h_S → Prop} {b : Nat → Nat} {s S_s : h_S} {C0 D0 bc bs : Nat} {A_o0 : Nat} {x2 : Int32} {r3 : Option Nat} {R_r3 : Option Nat} {y0 : Int32} (hR : c_R E g b s S_s) (hF : c_F s) (f_o0 : c_at b s 0 A_o0) (f_r3 : c_ao b s r3 R_r3) (h : fn_X11_settle_71 x2 r3 y0 s = some (r, t, C0, D0)) (hQ : ∀ (b2 : Nat → Nat) (S2 : h_S), c_ext b s b2 t → c_R E g b2 t S2 → c_F t → Q r S2) (hc : C0 ≤ bc) (hd : D0 ≤ bs) : w_X11_settle_71 Q A_o0 x2 R_r3 y0 S_s bc bs := by
  unfold fn_X11_settle_71 at h
  unfold w_X11_settle_71
  refine fg_ite Iff.rfl (fun d => ?_) (fun d => ?_)
  · have h := fg_if_t d h
    obtain ⟨q, q2⟩ := fg_retc h
    subst q
    subst q2
    exact hQ _ _ cr_xr hR hF
  · have h := fg_if_e d h
    obtain ⟨a2, o_a2, h⟩ := fg_o_s h
    obtain ⟨A_a2, w_a2, f_a2⟩ := cr_aos f_r3 o_a2
    refine ⟨A_a2, w_a2, ?_⟩
    obtain ⟨c_a2_1, h⟩ := fg_g_s h
    refine ⟨(cr_k hR f_a2).trans c_a2_1, ?_⟩
    obtain ⟨a4, o_a4, h⟩ := fg_o_s h
    obtain ⟨A_a4, w_a4, f_a4⟩ := cr_aos (cr_r hR f_a2 _) o_a4
    refine ⟨A_a4, w_a4, ?_⟩
    obtain ⟨c_a4_2, h⟩ := fg_g_s h
    refine ⟨(cr_k hR f_a4).trans c_a4_2, ?_⟩
    refine fg_ite Iff.rfl (fun d => ?_) (fun d => ?_)
    · have h := fg_if_t d h
      obtain ⟨a7, o_a7, h⟩ := fg_o_s h
      obtain ⟨A_a7, w_a7, f_a7⟩ := cr_aos f_r3 o_a7
      refine ⟨A_a7, w_a7, ?_⟩
      obtain ⟨c_a7_3, h⟩ := fg_g_s h
      refine ⟨(cr_k hR f_a7).trans c_a7_3, ?_⟩
      try simp -zeta -zetaUnused only [cr_n hR f_a4, cr_i hR f_a7]
      exact ft_X11_settle_102 hR hF f_o0 f_r3 h (fun b2 S2 x2 => hQ b2 S2 (cr_xt cr_xr x2)) hc hd
    · have h := fg_if_e d h
      try simp -zeta -zetaUnused only [cr_n hR f_a4]
      exact ft_X11_settle_102 hR hF f_o0 f_r3 h (fun b2 S2 x2 => hQ b2 S2 (cr_xt cr_xr x2)) hc hd
set_option maxRecDepth 100000 in
set_option maxHeartbeats 4000000 in
theorem ft_X11_settle {E : h_S} {g : h_G} {r : Int32} {t : h_S} {Q : Int32 → h_S → Prop} {b : Nat → Nat} {s S_s : h_S} {C0 D0 mc ms : Nat} {A_o0 : Nat} {x1 : Int32} {x2 : Int32} (hR : c_R E g b s S_s) (hF : c_F s) (f_o0 : c_at b s 0 A_o0) (h : fn_X11_settle x1 x2 s = some (r, t, C0, D0)) (hQ : ∀ (b2 : Nat → Nat) (S2 : h_S), c_ext b s b2 t → c_R E g b2 t S2 → c_F t → Q r S2) (hc : C0 ≤ mc) (hd : D0 ≤ ms) : w_X11_settle A_o0 x1 x2 S_s mc ms Q := by
  unfold fn_X11_settle at h
  unfold w_X11_settle
  refine ⟨(cr_k hR f_o0).trans (cf_k (a := 0) hF rfl (by decide)), ?_⟩
  obtain ⟨A_a2, w_a2, f_a2⟩ := cr_aos (cr_r hR f_o0 _) (cf_r (a := 0) (j := 6) (y := 5) hF rfl)
  refine ⟨A_a2, w_a2, ?_⟩
  refine ⟨(cr_k hR f_a2).trans (cf_k (a := 5) hF rfl (by decide)), ?_⟩
  obtain ⟨p5, s4, e_s4, h⟩ := fg_b_s h
  refine ft_Jx4a65c_size_8abf5 hR hF f_a2 e_s4 (fun b_s4 S_s4 x_s4 r_s4 F_s4 => ?_)
  obtain ⟨p7, s6, e_s6, h⟩ := fg_b_s h
  refine ft_X11_within r_s4 F_s4 e_s6 (fun b_s6 S_s6 x_s6 r_s6 F_s6 => ?_)
  refine fg_ite Iff.rfl (fun d => ?_) (fun d => ?_)
  · have h := fg_if_t d h
    obtain ⟨q, q2⟩ := fg_retc h
    subst q
    subst q2
    exact hQ _ _ (cr_xt x_s4 x_s6) r_s6 F_s6
  · have h := fg_if_e d h
    obtain ⟨p10, s9, e_s9, h⟩ := fg_b_s h
    refine ft_X11_within r_s6 F_s6 e_s9 (fun b_s9 S_s9 x_s9 r_s9 F_s9 => ?_)
    refine fg_ite Iff.rfl (fun d => ?_) (fun d => ?_)
    · have h := fg_if_t d h
      obtain ⟨q, q2⟩ := fg_retc h
      subst q
      subst q2
      exact hQ _ _ (cr_xt x_s4 (cr_xt x_s6 x_s9)) r_s9 F_s9
    · have h := fg_if_e d h
      refine ⟨(cr_k r_s9 (cr_atx (cr_atx (cr_atx f_o0 x_s4) x_s6) x_s9)).trans (cf_k (a := 0) F_s9 rfl (by decide)), ?_⟩
      obtain ⟨A_a13, w_a13, f_a13⟩ := cr_aos (cr_r r_s9 (cr_atx (cr_atx (cr_atx f_o0 x_s4) x_s6) x_s9) _) (cf_r (a := 0) (j := 6) (y := 5) F_s9 rfl)
      refine ⟨A_a13, w_a13, ?_⟩
      refine ⟨(cr_k r_s9 f_a13).trans (cf_k (a := 5) F_s9 rfl (by decide)), ?_⟩
      obtain ⟨p16, s15, e_s15, h⟩ := fg_b_s h
      refine ft_Jx4a65c_get_915e3 r_s9 F_s9 f_a13 e_s15 (fun b_s15 R_p16 S_s15 x_s15 r_s15 F_s15 f_p16 => ?_)
      obtain ⟨c, h⟩ := fg_g_s h
      refine ⟨cr_cast r_s15 f_p16 c, ?_⟩
      obtain ⟨a18, o_a18, h⟩ := fg_o_s h
      obtain ⟨A_a18, w_a18, f_a18⟩ := cr_aos f_p16 o_a18
      refine ⟨A_a18, w_a18, ?_⟩
      obtain ⟨c_a18_1, h⟩ := fg_g_s h
      refine ⟨(cr_k r_s15 f_a18).trans c_a18_1, ?_⟩
      try simp -zeta -zetaUnused only [cr_i r_s15 f_a18]
      refine fg_ite Iff.rfl (fun d => ?_) (fun d => ?_)
      · have h := fg_if_t d h
        refine ⟨(cr_k r_s15 (cr_atx (cr_atx (cr_atx (cr_atx f_o0 x_s4) x_s6) x_s9) x_s15)).trans (cf_k (a := 0) F_s15 rfl (by decide)), ?_⟩
        obtain ⟨a22, o_a22, h⟩ := fg_o_s h
        obtain ⟨A_a22, w_a22, f_a22⟩ := cr_aos f_p16 o_a22
        refine ⟨A_a22, w_a22, ?_⟩
        obtain ⟨c_a22_2, h⟩ := fg_g_s h
        refine ⟨(cr_k r_s15 f_a22).trans c_a22_2, ?_⟩
        obtain ⟨A_a24, w_a24, f_a24⟩ := cr_aos (cr_r r_s15 (cr_atx (cr_atx (cr_atx (cr_atx f_o0 x_s4) x_s6) x_s9) x_s15) _) (cf_r (a := 0) (j := 4) (y := 3) F_s15 rfl)
        refine ⟨A_a24, w_a24, ?_⟩
        refine ⟨(cr_k r_s15 f_a24).trans (cf_k (a := 3) F_s15 rfl (by decide)), ?_⟩
        try simp -zeta -zetaUnused only [cr_i r_s15 f_a22, cr_i r_s15 (cr_atx (cr_atx (cr_atx (cr_atx f_o0 x_s4) x_s6) x_s9) x_s15)]
        obtain ⟨p27, s26, mc28, ms29, C_s26, D_s26, e_s26, h, q_s26, w_s26⟩ := fg_bc_s h
        obtain ⟨u1_s26, hc⟩ := fg_sp q_s26 hc
        obtain ⟨u2_s26, hd⟩ := fg_sp w_s26 hd
        refine ⟨mc28, ms29, u1_s26, u2_s26, ft_X7_shownOf 6 r_s15 F_s15 f_a24 e_s26 (fun b_s26 R_p27 S_s26 x_s26 r_s26 F_s26 f_p27 => ?_) (Nat.le_refl _) (Nat.le_refl _)⟩
        obtain ⟨a32, o_a32, h⟩ := fg_o_s h
        obtain ⟨A_a32, w_a32, f_a32⟩ := cr_aos f_p16 o_a32
        refine ⟨A_a32, w_a32, ?_⟩
        obtain ⟨c_a32_3, h⟩ := fg_g_s h
        refine ⟨(cr_k r_s26 (cr_atx f_a32 x_s26)).trans c_a32_3, ?_⟩
        obtain ⟨p35, s34, e_s34, h⟩ := fg_b_s h
        refine ft_X0_placeIn r_s26 F_s26 (cr_atx f_a32 x_s26) f_p27 e_s34 (fun b_s34 S_s34 x_s34 r_s34 F_s34 => ?_)
        exact ft_X11_settle_71 r_s34 F_s34 (cr_atx (cr_atx (cr_atx (cr_atx (cr_atx (cr_atx f_o0 x_s4) x_s6) x_s9) x_s15) x_s26) x_s34) (cr_aox (cr_aox f_p16 x_s26) x_s34) h (fun b2 S2 x2 => hQ b2 S2 (cr_xt (cr_xt x_s4 (cr_xt x_s6 (cr_xt x_s9 (cr_xt x_s15 (cr_xt x_s26 x_s34))))) x2)) hc hd
      · have h := fg_if_e d h
        exact ft_X11_settle_71 r_s15 F_s15 (cr_atx (cr_atx (cr_atx (cr_atx f_o0 x_s4) x_s6) x_s9) x_s15) f_p16 h (fun b2 S2 x2 => hQ b2 S2 (cr_xt (cr_xt x_s4 (cr_xt x_s6 (cr_xt x_s9 x_s15))) x2)) hc hd
set_option maxRecDepth 100000 in
set_option maxHeartbeats 4000000 in
theorem ft_X11_linkAt {E : h_S} {g : h_G} {r : Option Nat} {t : h_S} {Q : Option Nat → h_S → Prop} {b : Nat → Nat} {s S_s : h_S} {A_o0 : Nat} {x1 : Int32} (hR : c_R E g b s S_s) (hF : c_F s) (f_o0 : c_at b s 0 A_o0) (h : fn_X11_linkAt x1 s = some (r, t)) (hQ : ∀ (b2 : Nat → Nat) (R2 : Option Nat) (S2 : h_S), c_ext b s b2 t → c_R E g b2 t S2 → c_F t → c_ao b2 t r R2 → Q R2 S2) : w_X11_linkAt A_o0 x1 S_s Q := by
  unfold fn_X11_linkAt at h
  unfold w_X11_linkAt
  refine ⟨(cr_k hR f_o0).trans (cf_k (a := 0) hF rfl (by decide)), ?_⟩
  obtain ⟨A_a2, w_a2, f_a2⟩ := cr_aos (cr_r hR f_o0 _) (cf_r (a := 0) (j := 7) (y := 6) hF rfl)
  refine ⟨A_a2, w_a2, ?_⟩
  refine ⟨(cr_k hR f_a2).trans (cf_k (a := 6) hF rfl (by decide)), ?_⟩
  obtain ⟨p5, s4, e_s4, h⟩ := fg_b_s h
  refine ft_Jx4a65c_size_8abf5 hR hF f_a2 e_s4 (fun b_s4 S_s4 x_s4 r_s4 F_s4 => ?_)
  obtain ⟨p7, s6, e_s6, h⟩ := fg_b_s h
  refine ft_X11_within r_s4 F_s4 e_s6 (fun b_s6 S_s6 x_s6 r_s6 F_s6 => ?_)
  refine fg_ite Iff.rfl (fun d => ?_) (fun d => ?_)
  · have h := fg_if_t d h
    unfold w_X11_linkAt_29
    obtain ⟨q, q2⟩ := fg_ret h
    subst q
    subst q2
    exact hQ _ _ _ (cr_xt x_s4 x_s6) r_s6 F_s6 cr_none
  · have h := fg_if_e d h
    refine ⟨(cr_k r_s6 (cr_atx (cr_atx f_o0 x_s4) x_s6)).trans (cf_k (a := 0) F_s6 rfl (by decide)), ?_⟩
    obtain ⟨A_a10, w_a10, f_a10⟩ := cr_aos (cr_r r_s6 (cr_atx (cr_atx f_o0 x_s4) x_s6) _) (cf_r (a := 0) (j := 7) (y := 6) F_s6 rfl)
    refine ⟨A_a10, w_a10, ?_⟩
    refine ⟨(cr_k r_s6 f_a10).trans (cf_k (a := 6) F_s6 rfl (by decide)), ?_⟩
    obtain ⟨p13, s12, e_s12, h⟩ := fg_b_s h
    refine ft_Jx4a65c_get_915e3 r_s6 F_s6 f_a10 e_s12 (fun b_s12 R_p13 S_s12 x_s12 r_s12 F_s12 f_p13 => ?_)
    obtain ⟨c, h⟩ := fg_g_s h
    refine ⟨cr_cast r_s12 f_p13 c, ?_⟩
    unfold w_X11_linkAt_29
    obtain ⟨q, q2⟩ := fg_ret h
    subst q
    subst q2
    exact hQ _ _ _ (cr_xt x_s4 (cr_xt x_s6 x_s12)) r_s12 F_s12 f_p13
set_option maxRecDepth 100000 in
set_option maxHeartbeats 4000000 in
theorem ft_X11_keepLink {E : h_S} {g : h_G} {r : Int32} {t : h_S} {Q : Int32 → h_S → Prop} {b : Nat → Nat} {s S_s : h_S} {C0 D0 mc ms : Nat} {A_o0 : Nat} {r1 : Option Nat} {R_r1 : Option Nat} (hR : c_R E g b s S_s) (hF : c_F s) (f_o0 : c_at b s 0 A_o0) (f_r1 : c_ao b s r1 R_r1) (h : fn_X11_keepLink r1 s = some (r, t, C0, D0)) (hQ : ∀ (b2 : Nat → Nat) (S2 : h_S), c_ext b s b2 t → c_R E g b2 t S2 → c_F t → Q r S2) (hc : C0 ≤ mc) (hd : D0 ≤ ms) : w_X11_keepLink g A_o0 R_r1 S_s mc ms Q := by
  unfold fn_X11_keepLink at h
  unfold w_X11_keepLink
  refine ⟨(cr_k hR f_o0).trans (cf_k (a := 0) hF rfl (by decide)), ?_⟩
  obtain ⟨A_a2, w_a2, f_a2⟩ := cr_aos (cr_r hR f_o0 _) (cf_r (a := 0) (j := 7) (y := 6) hF rfl)
  refine ⟨A_a2, w_a2, ?_⟩
  refine ⟨(cr_k hR f_a2).trans (cf_k (a := 6) hF rfl (by decide)), ?_⟩
  obtain ⟨p5, s4, e_s4, h⟩ := fg_b_s h
  refine ft_Jx4a65c_size_8abf5 hR hF f_a2 e_s4 (fun b_s4 S_s4 x_s4 r_s4 F_s4 => ?_)
  refine fg_ite Iff.rfl (fun d => ?_) (fun d => ?_)
  · have h := fg_if_t d h
    refine ⟨(cr_k r_s4 (cr_atx f_o0 x_s4)).trans (cf_k (a := 0) F_s4 rfl (by decide)), ?_⟩
    obtain ⟨A_a8, w_a8, f_a8⟩ := cr_aos (cr_r r_s4 (cr_atx f_o0 x_s4) _) (cf_r (a := 0) (j := 7) (y := 6) F_s4 rfl)
    refine ⟨A_a8, w_a8, ?_⟩
    refine ⟨(cr_k r_s4 f_a8).trans (cf_k (a := 6) F_s4 rfl (by decide)), ?_⟩
    obtain ⟨p11, s10, mc12, ms13, C_s10, D_s10, e_s10, h, q_s10, w_s10⟩ := fg_bc_s h
    obtain ⟨u1_s10, hc⟩ := fg_sp q_s10 hc
    obtain ⟨u2_s10, hd⟩ := fg_sp w_s10 hd
    refine ⟨mc12, ms13, u1_s10, u2_s10, ft_Jx4a65c_add_9ea2d r_s4 F_s4 f_a8 (cr_aox f_r1 x_s4) e_s10 (fun b_s10 S_s10 x_s10 r_s10 F_s10 => ?_) (Nat.le_refl _) (Nat.le_refl _)⟩
    refine ⟨(cr_k r_s10 (cr_atx (cr_atx f_o0 x_s4) x_s10)).trans (cf_k (a := 0) F_s10 rfl (by decide)), ?_⟩
    obtain ⟨A_a17, w_a17, f_a17⟩ := cr_aos (cr_r r_s10 (cr_atx (cr_atx f_o0 x_s4) x_s10) _) (cf_r (a := 0) (j := 7) (y := 6) F_s10 rfl)
    refine ⟨A_a17, w_a17, ?_⟩
    refine ⟨(cr_k r_s10 f_a17).trans (cf_k (a := 6) F_s10 rfl (by decide)), ?_⟩
    obtain ⟨p20, s19, e_s19, h⟩ := fg_b_s h
    refine ft_Jx4a65c_size_8abf5 r_s10 F_s10 f_a17 e_s19 (fun b_s19 S_s19 x_s19 r_s19 F_s19 => ?_)
    refine ⟨(cr_k r_s19 (cr_atx (cr_atx (cr_atx f_o0 x_s4) x_s10) x_s19)).trans (cf_k (a := 0) F_s19 rfl (by decide)), ?_⟩
    obtain ⟨p23, s22, e_s22, h⟩ := fg_b_s h
    refine ft_X11_acted r_s19 F_s19 (cr_atx (cr_atx (cr_atx f_o0 x_s4) x_s10) x_s19) e_s22 (fun b_s22 S_s22 x_s22 r_s22 F_s22 => ?_)
    obtain ⟨q, q2⟩ := fg_retc h
    subst q
    subst q2
    exact hQ _ _ (cr_xt x_s4 (cr_xt x_s10 (cr_xt x_s19 x_s22))) r_s22 F_s22
  · have h := fg_if_e d h
    obtain ⟨q, q2⟩ := fg_retc h
    subst q
    subst q2
    exact hQ _ _ x_s4 r_s4 F_s4
set_option maxRecDepth 100000 in
set_option maxHeartbeats 4000000 in
theorem ft_X11_reply {E : h_S} {g : h_G} {r : Int32} {t : h_S} {Q : Int32 → h_S → Prop} {b : Nat → Nat} {s S_s : h_S} {C0 D0 mc ms : Nat} {A_o0 : Nat} {x1 : Int32} {x2 : Int32} {x3 : Int32} (hR : c_R E g b s S_s) (hF : c_F s) (f_o0 : c_at b s 0 A_o0) (h : fn_X11_reply x1 x2 x3 s = some (r, t, C0, D0)) (hQ : ∀ (b2 : Nat → Nat) (S2 : h_S), c_ext b s b2 t → c_R E g b2 t S2 → c_F t → Q r S2) (hc : C0 ≤ mc) (hd : D0 ≤ ms) : w_X11_reply g A_o0 x1 x2 x3 S_s mc ms Q := by
  unfold fn_X11_reply at h
  unfold w_X11_reply
  refine ⟨(cr_k hR f_o0).trans (cf_k (a := 0) hF rfl (by decide)), ?_⟩
  obtain ⟨p3, s2, e_s2, h⟩ := fg_b_s h
  refine ft_X11_linkAt hR hF f_o0 e_s2 (fun b_s2 R_p3 S_s2 x_s2 r_s2 F_s2 f_p3 => ?_)
  refine fg_ite (cr_isn f_p3) (fun d => ?_) (fun d => ?_)
  · have h := fg_if_t d h
    obtain ⟨q, q2⟩ := fg_retc h
    subst q
    subst q2
    exact hQ _ _ x_s2 r_s2 F_s2
  · have h := fg_if_e d h
    obtain ⟨a5, o_a5, h⟩ := fg_o_s h
    obtain ⟨A_a5, w_a5, f_a5⟩ := cr_aos f_p3 o_a5
    refine ⟨A_a5, w_a5, ?_⟩
    obtain ⟨c_a5_1, h⟩ := fg_g_s h
    refine ⟨(cr_k r_s2 f_a5).trans c_a5_1, ?_⟩
    obtain ⟨p8, s7, e_s7, h⟩ := fg_b_s h
    refine ft_X1_isA r_s2 F_s2 f_a5 e_s7 (fun b_s7 S_s7 x_s7 r_s7 F_s7 => ?_)
    refine fg_ite Iff.rfl (fun d => ?_) (fun d => ?_)
    · have h := fg_if_t d h
      refine ⟨(cr_k r_s7 (cr_atx (cr_atx f_o0 x_s2) x_s7)).trans (cf_k (a := 0) F_s7 rfl (by decide)), ?_⟩
      obtain ⟨p42, s41, e_s41, h⟩ := fg_b_s h
      refine ft_X11_failed r_s7 F_s7 (cr_atx (cr_atx f_o0 x_s2) x_s7) e_s41 (fun b_s41 S_s41 x_s41 r_s41 F_s41 => ?_)
      obtain ⟨q, q2⟩ := fg_retc h
      subst q
      subst q2
      exact hQ _ _ (cr_xt x_s2 (cr_xt x_s7 x_s41)) r_s41 F_s41
    · have h := fg_if_e d h
      obtain ⟨q10, e_q10, h⟩ := fg_let_s h
      have z_q10 : h_k s7 q10 = 0 := cf_z F_s7 e_q10
      obtain ⟨C_q10, D_q10, h, q_q10, w_q10⟩ := fg_c_s h
      obtain ⟨u1_q10, hc⟩ := fg_sp q_q10 hc
      obtain ⟨u2_q10, hd⟩ := fg_sp w_q10 hd
      refine ⟨u1_q10, u2_q10, fun A_q10 Z_q10 => ?_⟩
      obtain ⟨s14, e_s14, h⟩ := fg_let_s h
      intro S_s14
      have r_s14 : c_R E g (c_up b_s7 q10 A_q10) s14 S_s14 := by rw [e_s14]; exact cr_nw r_s7 z_q10 Z_q10 (by decide)
      have F_s14 : c_F s14 := by rw [e_s14]; exact cf_nw F_s7 e_q10 (by decide)
      have x_s14 : c_ext b_s7 s7 (c_up b_s7 q10 A_q10) s14 := by rw [e_s14]; exact cx_new z_q10
      have f_q10 : c_at (c_up b_s7 q10 A_q10) s14 q10 A_q10 := by rw [e_s14]; exact ca_nw (by decide)
      clear_value S_s14
      intro c15
      have hc : _ ≤ c15 := hc
      clear_value c15
      intro d16
      have hd : _ ≤ d16 := hd
      clear_value d16
      obtain ⟨a17, o_a17, h⟩ := fg_o_s h
      obtain ⟨A_a17, w_a17, f_a17⟩ := cr_aos f_p3 o_a17
      refine ⟨A_a17, w_a17, ?_⟩
      obtain ⟨c_a17_3, h⟩ := fg_g_s h
      refine ⟨(cr_k r_s14 (cr_atx (cr_atx f_a17 x_s7) x_s14)).trans c_a17_3, ?_⟩
      obtain ⟨a19, o_a19, h⟩ := fg_o_s h
      obtain ⟨A_a19, w_a19, f_a19⟩ := cr_aos (cr_r r_s14 (cr_atx (cr_atx f_a17 x_s7) x_s14) _) o_a19
      refine ⟨A_a19, w_a19, ?_⟩
      obtain ⟨c_a19_4, h⟩ := fg_g_s h
      refine ⟨(cr_k r_s14 f_a19).trans c_a19_4, ?_⟩
      obtain ⟨c, h⟩ := fg_g_s h
      refine ⟨cr_vp (cr_n r_s14 f_a19) rfl c, ?_⟩
      obtain ⟨a22, o_a22, h⟩ := fg_o_s h
      obtain ⟨A_a22, w_a22, f_a22⟩ := cr_aos f_p3 o_a22
      refine ⟨A_a22, w_a22, ?_⟩
      obtain ⟨c_a22_5, h⟩ := fg_g_s h
      refine ⟨(cr_k r_s14 (cr_atx (cr_atx f_a22 x_s7) x_s14)).trans c_a22_5, ?_⟩
      obtain ⟨a24, o_a24, h⟩ := fg_o_s h
      obtain ⟨A_a24, w_a24, f_a24⟩ := cr_aos (cr_r r_s14 (cr_atx (cr_atx f_a22 x_s7) x_s14) _) o_a24
      refine ⟨A_a24, w_a24, ?_⟩
      obtain ⟨c_a24_6, h⟩ := fg_g_s h
      refine ⟨(cr_k r_s14 f_a24).trans c_a24_6, ?_⟩
      obtain ⟨c, h⟩ := fg_g_s h
      refine ⟨cr_vp (cr_n r_s14 f_a24) rfl c, ?_⟩
      try simp -zeta -zetaUnused only [cr_i r_s14 f_a19, cr_i r_s14 f_a24]
      obtain ⟨u_, s27, mc29, ms30, C_s27, D_s27, e_s27, h, q_s27, w_s27⟩ := fg_bc_s h
      obtain ⟨u1_s27, hc⟩ := fg_sp q_s27 hc
      obtain ⟨u2_s27, hd⟩ := fg_sp w_s27 hd
      refine ⟨mc29, ms30, u1_s27, u2_s27, ft_X1_init r_s14 F_s14 f_q10 e_s27 (fun b_s27 S_s27 x_s27 r_s27 F_s27 => ?_) (Nat.le_refl _) (Nat.le_refl _)⟩
      refine ⟨(cr_k r_s27 (cr_atx (cr_atx (cr_atx (cr_atx f_o0 x_s2) x_s7) x_s14) x_s27)).trans (cf_k (a := 0) F_s27 rfl (by decide)), ?_⟩
      obtain ⟨p35, s34, mc36, ms37, C_s34, D_s34, e_s34, h, q_s34, w_s34⟩ := fg_bc_s h
      obtain ⟨u1_s34, hc⟩ := fg_sp q_s34 hc
      obtain ⟨u2_s34, hd⟩ := fg_sp w_s34 hd
      refine ⟨mc36, ms37, u1_s34, u2_s34, ft_X11_keepLink r_s27 F_s27 (cr_atx (cr_atx (cr_atx (cr_atx f_o0 x_s2) x_s7) x_s14) x_s27) (cr_some (cr_atx f_q10 x_s27)) e_s34 (fun b_s34 S_s34 x_s34 r_s34 F_s34 => ?_) (Nat.le_refl _) (Nat.le_refl _)⟩
      obtain ⟨q, q2⟩ := fg_retc h
      subst q
      subst q2
      exact hQ _ _ (cr_xt x_s2 (cr_xt x_s7 (cr_xt x_s14 (cr_xt x_s27 x_s34)))) r_s34 F_s34
set_option maxRecDepth 100000 in
set_option maxHeartbeats 4000000 in
theorem ft_X11_linkOfWords_44 {E : h_S} {g : h_G} {r : Int32} {t : h_S} {Q : Int32 → h_S → Prop} {b : Nat → Nat} {s S_s : h_S} {C0 D0 bc bs : Nat} {A_o0 : Nat} {x1 : Int32} {x2 : Int32} {x3 : Int32} {x4 : Int32} {x5 : Int32} (hR : c_R E g b s S_s) (hF : c_F s) (f_o0 : c_at b s 0 A_o0) (h : fn_X11_linkOfWords_44 x1 x2 x3 x4 x5 s = some (r, t, C0, D0)) (hQ : ∀ (b2 : Nat → Nat) (S2 : h_S), c_ext b s b2 t → c_R E g b2 t S2 → c_F t → Q r S2) (hc : C0 ≤ bc) (hd : D0 ≤ bs) : w_X11_linkOfWords_44 g Q A_o0 x1 x2 x3 x4 x5 S_s bc bs := by
  unfold fn_X11_linkOfWords_44 at h
  unfold w_X11_linkOfWords_44
  obtain ⟨q1, e_q1, h⟩ := fg_let_s h
  have z_q1 : h_k s q1 = 0 := cf_z hF e_q1
  obtain ⟨C_q1, D_q1, h, q_q1, w_q1⟩ := fg_c_s h
  obtain ⟨u1_q1, hc⟩ := fg_sp q_q1 hc
  obtain ⟨u2_q1, hd⟩ := fg_sp w_q1 hd
  refine ⟨u1_q1, u2_q1, fun A_q1 Z_q1 => ?_⟩
  obtain ⟨s5, e_s5, h⟩ := fg_let_s h
  intro S_s5
  have r_s5 : c_R E g (c_up b q1 A_q1) s5 S_s5 := by rw [e_s5]; exact cr_nw hR z_q1 Z_q1 (by decide)
  have F_s5 : c_F s5 := by rw [e_s5]; exact cf_nw hF e_q1 (by decide)
  have x_s5 : c_ext b s (c_up b q1 A_q1) s5 := by rw [e_s5]; exact cx_new z_q1
  have f_q1 : c_at (c_up b q1 A_q1) s5 q1 A_q1 := by rw [e_s5]; exact ca_nw (by decide)
  clear_value S_s5
  intro c6
  have hc : _ ≤ c6 := hc
  clear_value c6
  intro d7
  have hd : _ ≤ d7 := hd
  clear_value d7
  obtain ⟨u_, s8, mc10, ms11, C_s8, D_s8, e_s8, h, q_s8, w_s8⟩ := fg_bc_s h
  obtain ⟨u1_s8, hc⟩ := fg_sp q_s8 hc
  obtain ⟨u2_s8, hd⟩ := fg_sp w_s8 hd
  refine ⟨mc10, ms11, u1_s8, u2_s8, ft_X1_init r_s5 F_s5 f_q1 e_s8 (fun b_s8 S_s8 x_s8 r_s8 F_s8 => ?_) (Nat.le_refl _) (Nat.le_refl _)⟩
  refine ⟨(cr_k r_s8 (cr_atx (cr_atx f_o0 x_s5) x_s8)).trans (cf_k (a := 0) F_s8 rfl (by decide)), ?_⟩
  obtain ⟨p16, s15, mc17, ms18, C_s15, D_s15, e_s15, h, q_s15, w_s15⟩ := fg_bc_s h
  obtain ⟨u1_s15, hc⟩ := fg_sp q_s15 hc
  obtain ⟨u2_s15, hd⟩ := fg_sp w_s15 hd
  refine ⟨mc17, ms18, u1_s15, u2_s15, ft_X11_keepLink r_s8 F_s8 (cr_atx (cr_atx f_o0 x_s5) x_s8) (cr_some (cr_atx f_q1 x_s8)) e_s15 (fun b_s15 S_s15 x_s15 r_s15 F_s15 => ?_) (Nat.le_refl _) (Nat.le_refl _)⟩
  obtain ⟨q, q2⟩ := fg_retc h
  subst q
  subst q2
  exact hQ _ _ (cr_xt x_s5 (cr_xt x_s8 x_s15)) r_s15 F_s15
set_option maxRecDepth 100000 in
set_option maxHeartbeats 4000000 in
theorem ft_X11_linkOfWords {E : h_S} {g : h_G} {r : Int32} {t : h_S} {Q : Int32 → h_S → Prop} {b : Nat → Nat} {s S_s : h_S} {C0 D0 mc ms : Nat} {A_o0 : Nat} {x1 : Int32} {x2 : Int32} {x3 : Int32} {x4 : Int32} {x5 : Int32} (hR : c_R E g b s S_s) (hF : c_F s) (f_o0 : c_at b s 0 A_o0) (h : fn_X11_linkOfWords x1 x2 x3 x4 x5 s = some (r, t, C0, D0)) (hQ : ∀ (b2 : Nat → Nat) (S2 : h_S), c_ext b s b2 t → c_R E g b2 t S2 → c_F t → Q r S2) (hc : C0 ≤ mc) (hd : D0 ≤ ms) : w_X11_linkOfWords g A_o0 x1 x2 x3 x4 x5 S_s mc ms Q := by
  unfold fn_X11_linkOfWords at h
  unfold w_X11_linkOfWords
  refine ⟨(cr_k hR f_o0).trans (cf_k (a := 0) hF rfl (by decide)), ?_⟩
  obtain ⟨A_a2, w_a2, f_a2⟩ := cr_aos (cr_r hR f_o0 _) (cf_r (a := 0) (j := 4) (y := 3) hF rfl)
  refine ⟨A_a2, w_a2, ?_⟩
  refine ⟨(cr_k hR f_a2).trans (cf_k (a := 3) hF rfl (by decide)), ?_⟩
  obtain ⟨p5, s4, e_s4, h⟩ := fg_b_s h
  refine ft_X7_areWords hR hF f_a2 e_s4 (fun b_s4 S_s4 x_s4 r_s4 F_s4 => ?_)
  refine fg_ite Iff.rfl (fun d => ?_) (fun d => ?_)
  · have h := fg_if_t d h
    obtain ⟨q, q2⟩ := fg_retc h
    subst q
    subst q2
    exact hQ _ _ x_s4 r_s4 F_s4
  · have h := fg_if_e d h
    refine fg_ite Iff.rfl (fun d => ?_) (fun d => ?_)
    · have h := fg_if_t d h
      refine fg_ite Iff.rfl (fun d => ?_) (fun d => ?_)
      · have h := fg_if_t d h
        refine ⟨(cr_k r_s4 (cr_atx f_o0 x_s4)).trans (cf_k (a := 0) F_s4 rfl (by decide)), ?_⟩
        obtain ⟨A_a10, w_a10, f_a10⟩ := cr_aos (cr_r r_s4 (cr_atx f_o0 x_s4) _) (cf_r (a := 0) (j := 4) (y := 3) F_s4 rfl)
        refine ⟨A_a10, w_a10, ?_⟩
        refine ⟨(cr_k r_s4 f_a10).trans (cf_k (a := 3) F_s4 rfl (by decide)), ?_⟩
        obtain ⟨p13, s12, e_s12, h⟩ := fg_b_s h
        refine ft_X7_codesAlike r_s4 F_s4 f_a10 e_s12 (fun b_s12 S_s12 x_s12 r_s12 F_s12 => ?_)
        refine fg_ite Iff.rfl (fun d => ?_) (fun d => ?_)
        · have h := fg_if_t d h
          exact ft_X11_linkOfWords_44 r_s12 F_s12 (cr_atx (cr_atx f_o0 x_s4) x_s12) h (fun b2 S2 x2 => hQ b2 S2 (cr_xt (cr_xt x_s4 x_s12) x2)) hc hd
        · have h := fg_if_e d h
          obtain ⟨q, q2⟩ := fg_retc h
          subst q
          subst q2
          exact hQ _ _ (cr_xt x_s4 x_s12) r_s12 F_s12
      · have h := fg_if_e d h
        exact ft_X11_linkOfWords_44 r_s4 F_s4 (cr_atx f_o0 x_s4) h (fun b2 S2 x2 => hQ b2 S2 (cr_xt x_s4 x2)) hc hd
    · have h := fg_if_e d h
      exact ft_X11_linkOfWords_44 r_s4 F_s4 (cr_atx f_o0 x_s4) h (fun b2 S2 x2 => hQ b2 S2 (cr_xt x_s4 x2)) hc hd
set_option maxRecDepth 100000 in
set_option maxHeartbeats 4000000 in
theorem ft_X11_link_32 {E : h_S} {g : h_G} {r : Int32} {t : h_S} {Q : Int32 → h_S → Prop} {b : Nat → Nat} {s S_s : h_S} {C0 D0 bc bs : Nat} {A_o0 : Nat} {x1 : Int32} {x2 : Int32} {x3 : Int32} {x4 : Int32} {x5 : Int32} (hR : c_R E g b s S_s) (hF : c_F s) (f_o0 : c_at b s 0 A_o0) (h : fn_X11_link_32 x1 x2 x3 x4 x5 s = some (r, t, C0, D0)) (hQ : ∀ (b2 : Nat → Nat) (S2 : h_S), c_ext b s b2 t → c_R E g b2 t S2 → c_F t → Q r S2) (hc : C0 ≤ bc) (hd : D0 ≤ bs) : w_X11_link_32 g Q A_o0 x1 x2 x3 x4 x5 S_s bc bs := by
  unfold fn_X11_link_32 at h
  unfold w_X11_link_32
  refine ⟨(cr_k hR f_o0).trans (cf_k (a := 0) hF rfl (by decide)), ?_⟩
  obtain ⟨A_a2, w_a2, f_a2⟩ := cr_aos (cr_r hR f_o0 _) (cf_r (a := 0) (j := 4) (y := 3) hF rfl)
  refine ⟨A_a2, w_a2, ?_⟩
  refine ⟨(cr_k hR f_a2).trans (cf_k (a := 3) hF rfl (by decide)), ?_⟩
  obtain ⟨p5, s4, e_s4, h⟩ := fg_b_s h
  refine ft_X7_areWords hR hF f_a2 e_s4 (fun b_s4 S_s4 x_s4 r_s4 F_s4 => ?_)
  refine fg_ite Iff.rfl (fun d => ?_) (fun d => ?_)
  · have h := fg_if_t d h
    obtain ⟨q, q2⟩ := fg_retc h
    subst q
    subst q2
    exact hQ _ _ x_s4 r_s4 F_s4
  · have h := fg_if_e d h
    refine fg_ite Iff.rfl (fun d => ?_) (fun d => ?_)
    · have h := fg_if_t d h
      refine ⟨(cr_k r_s4 (cr_atx f_o0 x_s4)).trans (cf_k (a := 0) F_s4 rfl (by decide)), ?_⟩
      obtain ⟨p17, s16, mc18, ms19, C_s16, D_s16, e_s16, h, q_s16, w_s16⟩ := fg_bc_s h
      obtain ⟨u1_s16, hc⟩ := fg_sp q_s16 hc
      obtain ⟨u2_s16, hd⟩ := fg_sp w_s16 hd
      refine ⟨mc18, ms19, u1_s16, u2_s16, ft_X11_reply r_s4 F_s4 (cr_atx f_o0 x_s4) e_s16 (fun b_s16 S_s16 x_s16 r_s16 F_s16 => ?_) (Nat.le_refl _) (Nat.le_refl _)⟩
      unfold w_X11_link_73
      obtain ⟨q, q2⟩ := fg_retc h
      subst q
      subst q2
      exact hQ _ _ (cr_xt x_s4 x_s16) r_s16 F_s16
    · have h := fg_if_e d h
      refine ⟨(cr_k r_s4 (cr_atx f_o0 x_s4)).trans (cf_k (a := 0) F_s4 rfl (by decide)), ?_⟩
      obtain ⟨p10, s9, mc11, ms12, C_s9, D_s9, e_s9, h, q_s9, w_s9⟩ := fg_bc_s h
      obtain ⟨u1_s9, hc⟩ := fg_sp q_s9 hc
      obtain ⟨u2_s9, hd⟩ := fg_sp w_s9 hd
      refine ⟨mc11, ms12, u1_s9, u2_s9, ft_X11_linkOfWords r_s4 F_s4 (cr_atx f_o0 x_s4) e_s9 (fun b_s9 S_s9 x_s9 r_s9 F_s9 => ?_) (Nat.le_refl _) (Nat.le_refl _)⟩
      unfold w_X11_link_73
      obtain ⟨q, q2⟩ := fg_retc h
      subst q
      subst q2
      exact hQ _ _ (cr_xt x_s4 x_s9) r_s9 F_s9
set_option maxRecDepth 100000 in
set_option maxHeartbeats 4000000 in
theorem ft_X11_link {E : h_S} {g : h_G} {r : Int32} {t : h_S} {Q : Int32 → h_S → Prop} {b : Nat → Nat} {s S_s : h_S} {C0 D0 mc ms : Nat} {A_o0 : Nat} {x1 : Int32} {x2 : Int32} {x3 : Int32} {x4 : Int32} {x5 : Int32} (hR : c_R E g b s S_s) (hF : c_F s) (f_o0 : c_at b s 0 A_o0) (h : fn_X11_link x1 x2 x3 x4 x5 s = some (r, t, C0, D0)) (hQ : ∀ (b2 : Nat → Nat) (S2 : h_S), c_ext b s b2 t → c_R E g b2 t S2 → c_F t → Q r S2) (hc : C0 ≤ mc) (hd : D0 ≤ ms) : w_X11_link g A_o0 x1 x2 x3 x4 x5 S_s mc ms Q := by
  unfold fn_X11_link at h
  unfold w_X11_link
  refine ⟨(cr_k hR f_o0).trans (cf_k (a := 0) hF rfl (by decide)), ?_⟩
  obtain ⟨s2, e_s2, h⟩ := fg_let_s h
  intro S_s2
  have r_s2 : c_R E g b s2 S_s2 := by rw [e_s2]; exact cr_si hR f_o0 _ _
  have F_s2 : c_F s2 := by rw [e_s2]; exact cf_si hF _ _
  have x_s2 : c_ext b s b s2 := by rw [e_s2]; exact cx_si _ _
  clear_value S_s2
  obtain ⟨p4, s3, e_s3, h⟩ := fg_b_s h
  refine ft_X11_within r_s2 F_s2 e_s3 (fun b_s3 S_s3 x_s3 r_s3 F_s3 => ?_)
  refine fg_ite Iff.rfl (fun d => ?_) (fun d => ?_)
  · have h := fg_if_t d h
    unfold w_X11_link_29
    obtain ⟨q, q2⟩ := fg_retc h
    subst q
    subst q2
    exact hQ _ _ (cr_xt x_s2 x_s3) r_s3 F_s3
  · have h := fg_if_e d h
    refine fg_ite Iff.rfl (fun d => ?_) (fun d => ?_)
    · have h := fg_if_t d h
      unfold w_X11_link_29
      obtain ⟨q, q2⟩ := fg_retc h
      subst q
      subst q2
      exact hQ _ _ (cr_xt x_s2 x_s3) r_s3 F_s3
    · have h := fg_if_e d h
      refine fg_ite Iff.rfl (fun d => ?_) (fun d => ?_)
      · have h := fg_if_t d h
        exact ft_X11_link_32 r_s3 F_s3 (cr_atx (cr_atx f_o0 x_s2) x_s3) h (fun b2 S2 x2 => hQ b2 S2 (cr_xt (cr_xt x_s2 x_s3) x2)) hc hd
      · have h := fg_if_e d h
        refine fg_ite Iff.rfl (fun d => ?_) (fun d => ?_)
        · have h := fg_if_t d h
          exact ft_X11_link_32 r_s3 F_s3 (cr_atx (cr_atx f_o0 x_s2) x_s3) h (fun b2 S2 x2 => hQ b2 S2 (cr_xt (cr_xt x_s2 x_s3) x2)) hc hd
        · have h := fg_if_e d h
          unfold w_X11_link_29
          obtain ⟨q, q2⟩ := fg_retc h
          subst q
          subst q2
          exact hQ _ _ (cr_xt x_s2 x_s3) r_s3 F_s3
set_option maxRecDepth 100000 in
set_option maxHeartbeats 4000000 in
theorem ft_X11_ofLink {E : h_S} {g : h_G} {r : Int32} {t : h_S} {Q : Int32 → h_S → Prop} {b : Nat → Nat} {s S_s : h_S} {A_o0 : Nat} {x1 : Int32} {x2 : Int32} (hR : c_R E g b s S_s) (hF : c_F s) (f_o0 : c_at b s 0 A_o0) (h : fn_X11_ofLink x1 x2 s = some (r, t)) (hQ : ∀ (b2 : Nat → Nat) (S2 : h_S), c_ext b s b2 t → c_R E g b2 t S2 → c_F t → Q r S2) : w_X11_ofLink A_o0 x1 x2 S_s Q := by
  unfold fn_X11_ofLink at h
  unfold w_X11_ofLink
  refine ⟨(cr_k hR f_o0).trans (cf_k (a := 0) hF rfl (by decide)), ?_⟩
  obtain ⟨p3, s2, e_s2, h⟩ := fg_b_s h
  refine ft_X11_linkAt hR hF f_o0 e_s2 (fun b_s2 R_p3 S_s2 x_s2 r_s2 F_s2 f_p3 => ?_)
  refine fg_ite (cr_isn f_p3) (fun d => ?_) (fun d => ?_)
  · have h := fg_if_t d h
    obtain ⟨q, q2⟩ := fg_ret h
    subst q
    subst q2
    exact hQ _ _ x_s2 r_s2 F_s2
  · have h := fg_if_e d h
    refine fg_ite Iff.rfl (fun d => ?_) (fun d => ?_)
    · have h := fg_if_t d h
      obtain ⟨a6, o_a6, h⟩ := fg_o_s h
      obtain ⟨A_a6, w_a6, f_a6⟩ := cr_aos f_p3 o_a6
      refine ⟨A_a6, w_a6, ?_⟩
      obtain ⟨c_a6_1, h⟩ := fg_g_s h
      refine ⟨(cr_k r_s2 f_a6).trans c_a6_1, ?_⟩
      try simp -zeta -zetaUnused only [cr_i r_s2 f_a6]
      obtain ⟨q, q2⟩ := fg_ret h
      subst q
      subst q2
      exact hQ _ _ x_s2 r_s2 F_s2
    · have h := fg_if_e d h
      refine fg_ite Iff.rfl (fun d => ?_) (fun d => ?_)
      · have h := fg_if_t d h
        obtain ⟨a9, o_a9, h⟩ := fg_o_s h
        obtain ⟨A_a9, w_a9, f_a9⟩ := cr_aos f_p3 o_a9
        refine ⟨A_a9, w_a9, ?_⟩
        obtain ⟨c_a9_1, h⟩ := fg_g_s h
        refine ⟨(cr_k r_s2 f_a9).trans c_a9_1, ?_⟩
        obtain ⟨a11, o_a11, h⟩ := fg_o_s h
        obtain ⟨A_a11, w_a11, f_a11⟩ := cr_aos (cr_r r_s2 f_a9 _) o_a11
        refine ⟨A_a11, w_a11, ?_⟩
        obtain ⟨c_a11_2, h⟩ := fg_g_s h
        refine ⟨(cr_k r_s2 f_a11).trans c_a11_2, ?_⟩
        obtain ⟨c, h⟩ := fg_g_s h
        refine ⟨cr_vp (cr_n r_s2 f_a11) rfl c, ?_⟩
        try simp -zeta -zetaUnused only [cr_i r_s2 f_a11]
        obtain ⟨q, q2⟩ := fg_ret h
        subst q
        subst q2
        exact hQ _ _ x_s2 r_s2 F_s2
      · have h := fg_if_e d h
        refine fg_ite Iff.rfl (fun d => ?_) (fun d => ?_)
        · have h := fg_if_t d h
          obtain ⟨a15, o_a15, h⟩ := fg_o_s h
          obtain ⟨A_a15, w_a15, f_a15⟩ := cr_aos f_p3 o_a15
          refine ⟨A_a15, w_a15, ?_⟩
          obtain ⟨c_a15_1, h⟩ := fg_g_s h
          refine ⟨(cr_k r_s2 f_a15).trans c_a15_1, ?_⟩
          obtain ⟨a17, o_a17, h⟩ := fg_o_s h
          obtain ⟨A_a17, w_a17, f_a17⟩ := cr_aos (cr_r r_s2 f_a15 _) o_a17
          refine ⟨A_a17, w_a17, ?_⟩
          obtain ⟨c_a17_2, h⟩ := fg_g_s h
          refine ⟨(cr_k r_s2 f_a17).trans c_a17_2, ?_⟩
          obtain ⟨c, h⟩ := fg_g_s h
          refine ⟨cr_vp (cr_n r_s2 f_a17) rfl c, ?_⟩
          try simp -zeta -zetaUnused only [cr_i r_s2 f_a17]
          obtain ⟨q, q2⟩ := fg_ret h
          subst q
          subst q2
          exact hQ _ _ x_s2 r_s2 F_s2
        · have h := fg_if_e d h
          refine fg_ite Iff.rfl (fun d => ?_) (fun d => ?_)
          · have h := fg_if_t d h
            obtain ⟨a21, o_a21, h⟩ := fg_o_s h
            obtain ⟨A_a21, w_a21, f_a21⟩ := cr_aos f_p3 o_a21
            refine ⟨A_a21, w_a21, ?_⟩
            obtain ⟨c_a21_1, h⟩ := fg_g_s h
            refine ⟨(cr_k r_s2 f_a21).trans c_a21_1, ?_⟩
            obtain ⟨a23, o_a23, h⟩ := fg_o_s h
            obtain ⟨A_a23, w_a23, f_a23⟩ := cr_aos (cr_r r_s2 f_a21 _) o_a23
            refine ⟨A_a23, w_a23, ?_⟩
            obtain ⟨c_a23_2, h⟩ := fg_g_s h
            refine ⟨(cr_k r_s2 f_a23).trans c_a23_2, ?_⟩
            obtain ⟨c, h⟩ := fg_g_s h
            refine ⟨cr_vp (cr_n r_s2 f_a23) rfl c, ?_⟩
            try simp -zeta -zetaUnused only [cr_i r_s2 f_a23]
            obtain ⟨q, q2⟩ := fg_ret h
            subst q
            subst q2
            exact hQ _ _ x_s2 r_s2 F_s2
          · have h := fg_if_e d h
            refine fg_ite Iff.rfl (fun d => ?_) (fun d => ?_)
            · have h := fg_if_t d h
              obtain ⟨a27, o_a27, h⟩ := fg_o_s h
              obtain ⟨A_a27, w_a27, f_a27⟩ := cr_aos f_p3 o_a27
              refine ⟨A_a27, w_a27, ?_⟩
              obtain ⟨c_a27_1, h⟩ := fg_g_s h
              refine ⟨(cr_k r_s2 f_a27).trans c_a27_1, ?_⟩
              obtain ⟨a29, o_a29, h⟩ := fg_o_s h
              obtain ⟨A_a29, w_a29, f_a29⟩ := cr_aos (cr_r r_s2 f_a27 _) o_a29
              refine ⟨A_a29, w_a29, ?_⟩
              obtain ⟨c_a29_2, h⟩ := fg_g_s h
              refine ⟨(cr_k r_s2 f_a29).trans c_a29_2, ?_⟩
              obtain ⟨c, h⟩ := fg_g_s h
              refine ⟨cr_vp (cr_n r_s2 f_a29) rfl c, ?_⟩
              try simp -zeta -zetaUnused only [cr_i r_s2 f_a29]
              obtain ⟨q, q2⟩ := fg_ret h
              subst q
              subst q2
              exact hQ _ _ x_s2 r_s2 F_s2
            · have h := fg_if_e d h
              refine fg_ite Iff.rfl (fun d => ?_) (fun d => ?_)
              · have h := fg_if_t d h
                obtain ⟨a33, o_a33, h⟩ := fg_o_s h
                obtain ⟨A_a33, w_a33, f_a33⟩ := cr_aos f_p3 o_a33
                refine ⟨A_a33, w_a33, ?_⟩
                obtain ⟨c_a33_1, h⟩ := fg_g_s h
                refine ⟨(cr_k r_s2 f_a33).trans c_a33_1, ?_⟩
                try simp -zeta -zetaUnused only [cr_i r_s2 f_a33]
                obtain ⟨q, q2⟩ := fg_ret h
                subst q
                subst q2
                exact hQ _ _ x_s2 r_s2 F_s2
              · have h := fg_if_e d h
                obtain ⟨q, q2⟩ := fg_ret h
                subst q
                subst q2
                exact hQ _ _ x_s2 r_s2 F_s2
set_option maxRecDepth 100000 in
set_option maxHeartbeats 4000000 in
theorem ft_X11_ends_57b {E : h_S} {g : h_G} {r : Int32} {t : h_S} {Q : Int32 → h_S → Prop} {K57 : Int32 → Option Nat → Option Nat → Int32 → Int32 → Int32 → h_S → Option ((Int32) × h_S)} {WK57 : Int32 → Option Nat → Option Nat → Int32 → Int32 → Int32 → h_S → Prop} (hK57 : ∀ {b : Nat → Nat} {s S_s : h_S} {x2 : Int32} {r4 : Option Nat} {R_r4 : Option Nat} {r5 : Option Nat} {R_r5 : Option Nat} {x6 : Int32} {x7 : Int32} {x8 : Int32}, c_R E g b s S_s → c_F s → c_ao b s r4 R_r4 → c_ao b s r5 R_r5 → K57 x2 r4 r5 x6 x7 x8 s = some (r, t) → (∀ (b2 : Nat → Nat) (S2 : h_S), c_ext b s b2 t → c_R E g b2 t S2 → c_F t → Q r S2) → WK57 x2 R_r4 R_r5 x6 x7 x8 S_s) {b : Nat → Nat} {s S_s : h_S} {x2 : Int32} {r4 : Option Nat} {R_r4 : Option Nat} {r5 : Option Nat} {R_r5 : Option Nat} {x6 : Int32} {x7 : Int32} {x8 : Int32} (hR : c_R E g b s S_s) (hF : c_F s) (f_r4 : c_ao b s r4 R_r4) (f_r5 : c_ao b s r5 R_r5) (h : fn_X11_ends_57b K57 x2 r4 r5 x6 x7 x8 s = some (r, t)) (hQ : ∀ (b2 : Nat → Nat) (S2 : h_S), c_ext b s b2 t → c_R E g b2 t S2 → c_F t → Q r S2) : w_X11_ends_57b Q WK57 x2 R_r4 R_r5 x6 x7 x8 S_s := by
  unfold fn_X11_ends_57b at h
  unfold w_X11_ends_57b
  refine fg_ite Iff.rfl (fun d => ?_) (fun d => ?_)
  · have h := fg_if_t d h
    unfold w_X11_ends_96
    obtain ⟨q, q2⟩ := fg_ret h
    subst q
    subst q2
    exact hQ _ _ cr_xr hR hF
  · have h := fg_if_e d h
    refine fg_ite Iff.rfl (fun d => ?_) (fun d => ?_)
    · have h := fg_if_t d h
      unfold w_X11_ends_96
      obtain ⟨q, q2⟩ := fg_ret h
      subst q
      subst q2
      exact hQ _ _ cr_xr hR hF
    · have h := fg_if_e d h
      obtain ⟨a3, o_a3, h⟩ := fg_o_s h
      obtain ⟨A_a3, w_a3, f_a3⟩ := cr_aos f_r5 o_a3
      refine ⟨A_a3, w_a3, ?_⟩
      obtain ⟨c_a3_1, h⟩ := fg_g_s h
      refine ⟨(cr_k hR f_a3).trans c_a3_1, ?_⟩
      obtain ⟨a5, o_a5, h⟩ := fg_o_s h
      obtain ⟨A_a5, w_a5, f_a5⟩ := cr_aos f_r4 o_a5
      refine ⟨A_a5, w_a5, ?_⟩
      obtain ⟨c_a5_2, h⟩ := fg_g_s h
      refine ⟨(cr_k hR f_a5).trans c_a5_2, ?_⟩
      obtain ⟨p8, s7, e_s7, h⟩ := fg_b_s h
      refine ft_X1_partBehind hR hF f_a5 (cr_r hR f_a3 _) e_s7 (fun b_s7 S_s7 x_s7 r_s7 F_s7 => ?_)
      exact hK57 r_s7 F_s7 (cr_aox f_r4 x_s7) (cr_aox f_r5 x_s7) h (fun b2 S2 x2 => hQ b2 S2 (cr_xt x_s7 x2))
set_option maxRecDepth 100000 in
set_option maxHeartbeats 4000000 in
theorem ft_X11_ends_57 {E : h_S} {g : h_G} {r : Int32} {t : h_S} {Q : Int32 → h_S → Prop} : ∀ (n : Nat) {b : Nat → Nat} {s S_s : h_S} {x2 : Int32} {r4 : Option Nat} {R_r4 : Option Nat} {r5 : Option Nat} {R_r5 : Option Nat} {x6 : Int32} {x7 : Int32} {x8 : Int32}, c_R E g b s S_s → c_F s → c_ao b s r4 R_r4 → c_ao b s r5 R_r5 → fn_X11_ends_57 n x2 r4 r5 x6 x7 x8 s = some (r, t) → (∀ (b2 : Nat → Nat) (S2 : h_S), c_ext b s b2 t → c_R E g b2 t S2 → c_F t → Q r S2) → w_X11_ends_57 Q n x2 R_r4 R_r5 x6 x7 x8 S_s := by
  intro n
  induction n with
  | zero => intros; rename_i h _; exact fg_none h
  | succ n ih => exact ft_X11_ends_57b @ih
set_option maxRecDepth 100000 in
set_option maxHeartbeats 4000000 in
theorem ft_X11_ends {E : h_S} {g : h_G} {r : Int32} {t : h_S} {Q : Int32 → h_S → Prop} {b : Nat → Nat} {s S_s : h_S} {A_o0 : Nat} {x1 : Int32} {x2 : Int32} {x3 : Int32} (hR : c_R E g b s S_s) (hF : c_F s) (f_o0 : c_at b s 0 A_o0) (h : fn_X11_ends x1 x2 x3 s = some (r, t)) (hQ : ∀ (b2 : Nat → Nat) (S2 : h_S), c_ext b s b2 t → c_R E g b2 t S2 → c_F t → Q r S2) : w_X11_ends A_o0 x1 x2 x3 S_s Q := by
  unfold fn_X11_ends at h
  unfold w_X11_ends
  refine ⟨(cr_k hR f_o0).trans (cf_k (a := 0) hF rfl (by decide)), ?_⟩
  obtain ⟨p3, s2, e_s2, h⟩ := fg_b_s h
  refine ft_X11_linkAt hR hF f_o0 e_s2 (fun b_s2 R_p3 S_s2 x_s2 r_s2 F_s2 f_p3 => ?_)
  refine ⟨(cr_k r_s2 (cr_atx f_o0 x_s2)).trans (cf_k (a := 0) F_s2 rfl (by decide)), ?_⟩
  obtain ⟨p6, s5, e_s5, h⟩ := fg_b_s h
  refine ft_X11_versionAt r_s2 F_s2 (cr_atx f_o0 x_s2) e_s5 (fun b_s5 R_p6 S_s5 x_s5 r_s5 F_s5 f_p6 => ?_)
  refine fg_ite (cr_isn (cr_aox f_p3 x_s5)) (fun d => ?_) (fun d => ?_)
  · have h := fg_if_t d h
    unfold w_X11_ends_24
    obtain ⟨q, q2⟩ := fg_ret h
    subst q
    subst q2
    exact hQ _ _ (cr_xt x_s2 x_s5) r_s5 F_s5
  · have h := fg_if_e d h
    refine fg_ite (cr_isn f_p6) (fun d => ?_) (fun d => ?_)
    · have h := fg_if_t d h
      unfold w_X11_ends_24
      obtain ⟨q, q2⟩ := fg_ret h
      subst q
      subst q2
      exact hQ _ _ (cr_xt x_s2 x_s5) r_s5 F_s5
    · have h := fg_if_e d h
      obtain ⟨p10, s9, e_s9, h⟩ := fg_b_s h
      refine ft_X11_within r_s5 F_s5 e_s9 (fun b_s9 S_s9 x_s9 r_s9 F_s9 => ?_)
      refine fg_ite Iff.rfl (fun d => ?_) (fun d => ?_)
      · have h := fg_if_t d h
        obtain ⟨q, q2⟩ := fg_ret h
        subst q
        subst q2
        exact hQ _ _ (cr_xt x_s2 (cr_xt x_s5 x_s9)) r_s9 F_s9
      · have h := fg_if_e d h
        obtain ⟨a12, o_a12, h⟩ := fg_o_s h
        obtain ⟨A_a12, w_a12, f_a12⟩ := cr_aos f_p6 o_a12
        refine ⟨A_a12, w_a12, ?_⟩
        obtain ⟨c_a12_1, h⟩ := fg_g_s h
        refine ⟨(cr_k r_s9 (cr_atx f_a12 x_s9)).trans c_a12_1, ?_⟩
        obtain ⟨a14, o_a14, h⟩ := fg_o_s h
        obtain ⟨A_a14, w_a14, f_a14⟩ := cr_aos f_p3 o_a14
        refine ⟨A_a14, w_a14, ?_⟩
        obtain ⟨c_a14_2, h⟩ := fg_g_s h
        refine ⟨(cr_k r_s9 (cr_atx (cr_atx f_a14 x_s5) x_s9)).trans c_a14_2, ?_⟩
        obtain ⟨p17, s16, e_s16, h⟩ := fg_b_s h
        refine ft_X1_partFrom r_s9 F_s9 (cr_atx (cr_atx f_a14 x_s5) x_s9) (cr_r r_s9 (cr_atx f_a12 x_s9) _) e_s16 (fun b_s16 S_s16 x_s16 r_s16 F_s16 => ?_)
        exact ⟨g_N, ft_X11_ends_57 g_N r_s16 F_s16 (cr_aox (cr_aox (cr_aox f_p3 x_s5) x_s9) x_s16) (cr_aox (cr_aox f_p6 x_s9) x_s16) h (fun b2 S2 x2 => hQ b2 S2 (cr_xt (cr_xt x_s2 (cr_xt x_s5 (cr_xt x_s9 x_s16))) x2))⟩
set_option maxRecDepth 100000 in
set_option maxHeartbeats 4000000 in
theorem ft_X11_part_111 {E : h_S} {g : h_G} {r : Int32} {t : h_S} {Q : Int32 → h_S → Prop} {b : Nat → Nat} {s S_s : h_S} {x2 : Int32} {x4 : Int32} {x5 : Int32} {r6 : Option Nat} {R_r6 : Option Nat} {r7 : Option Nat} {R_r7 : Option Nat} {x8 : Int32} (hR : c_R E g b s S_s) (hF : c_F s) (f_r6 : c_ao b s r6 R_r6) (f_r7 : c_ao b s r7 R_r7) (h : fn_X11_part_111 x2 x4 x5 r6 r7 x8 s = some (r, t)) (hQ : ∀ (b2 : Nat → Nat) (S2 : h_S), c_ext b s b2 t → c_R E g b2 t S2 → c_F t → Q r S2) : w_X11_part_111 Q x2 x4 x5 R_r6 R_r7 x8 S_s := by
  unfold fn_X11_part_111 at h
  unfold w_X11_part_111
  refine fg_ite Iff.rfl (fun d => ?_) (fun d => ?_)
  · have h := fg_if_t d h
    unfold w_X11_part_126
    obtain ⟨q, q2⟩ := fg_ret h
    subst q
    subst q2
    exact hQ _ _ cr_xr hR hF
  · have h := fg_if_e d h
    refine fg_ite Iff.rfl (fun d => ?_) (fun d => ?_)
    · have h := fg_if_t d h
      refine fg_ite Iff.rfl (fun d => ?_) (fun d => ?_)
      · have h := fg_if_t d h
        obtain ⟨q, q2⟩ := fg_ret h
        subst q
        subst q2
        exact hQ _ _ cr_xr hR hF
      · have h := fg_if_e d h
        refine fg_ite Iff.rfl (fun d => ?_) (fun d => ?_)
        · have h := fg_if_t d h
          obtain ⟨a5, o_a5, h⟩ := fg_o_s h
          obtain ⟨A_a5, w_a5, f_a5⟩ := cr_aos f_r7 o_a5
          refine ⟨A_a5, w_a5, ?_⟩
          obtain ⟨c_a5_1, h⟩ := fg_g_s h
          refine ⟨(cr_k hR f_a5).trans c_a5_1, ?_⟩
          obtain ⟨a7, o_a7, h⟩ := fg_o_s h
          obtain ⟨A_a7, w_a7, f_a7⟩ := cr_aos (cr_r hR f_a5 _) o_a7
          refine ⟨A_a7, w_a7, ?_⟩
          obtain ⟨c_a7_2, h⟩ := fg_g_s h
          refine ⟨(cr_k hR f_a7).trans c_a7_2, ?_⟩
          obtain ⟨c, h⟩ := fg_g_s h
          refine ⟨cr_vp (cr_n hR f_a7) rfl c, ?_⟩
          try simp -zeta -zetaUnused only [cr_i hR f_a7]
          obtain ⟨q, q2⟩ := fg_ret h
          subst q
          subst q2
          exact hQ _ _ cr_xr hR hF
        · have h := fg_if_e d h
          obtain ⟨a10, o_a10, h⟩ := fg_o_s h
          obtain ⟨A_a10, w_a10, f_a10⟩ := cr_aos f_r7 o_a10
          refine ⟨A_a10, w_a10, ?_⟩
          obtain ⟨c_a10_1, h⟩ := fg_g_s h
          refine ⟨(cr_k hR f_a10).trans c_a10_1, ?_⟩
          obtain ⟨a12, o_a12, h⟩ := fg_o_s h
          obtain ⟨A_a12, w_a12, f_a12⟩ := cr_aos f_r6 o_a12
          refine ⟨A_a12, w_a12, ?_⟩
          obtain ⟨c_a12_2, h⟩ := fg_g_s h
          refine ⟨(cr_k hR f_a12).trans c_a12_2, ?_⟩
          obtain ⟨p15, s14, e_s14, h⟩ := fg_b_s h
          refine ft_X1_partSize hR hF f_a12 (cr_r hR f_a10 _) e_s14 (fun b_s14 S_s14 x_s14 r_s14 F_s14 => ?_)
          obtain ⟨q, q2⟩ := fg_ret h
          subst q
          subst q2
          exact hQ _ _ x_s14 r_s14 F_s14
    · have h := fg_if_e d h
      unfold w_X11_part_126
      obtain ⟨q, q2⟩ := fg_ret h
      subst q
      subst q2
      exact hQ _ _ cr_xr hR hF
set_option maxRecDepth 100000 in
set_option maxHeartbeats 4000000 in
theorem ft_X11_part_68b {E : h_S} {g : h_G} {r : Int32} {t : h_S} {Q : Int32 → h_S → Prop} {K68 : Int32 → Int32 → Int32 → Option Nat → Option Nat → Int32 → Int32 → h_S → Option ((Int32) × h_S)} {WK68 : Int32 → Int32 → Int32 → Option Nat → Option Nat → Int32 → Int32 → h_S → Prop} (hK68 : ∀ {b : Nat → Nat} {s S_s : h_S} {x2 : Int32} {x4 : Int32} {x5 : Int32} {r6 : Option Nat} {R_r6 : Option Nat} {r7 : Option Nat} {R_r7 : Option Nat} {x8 : Int32} {x9 : Int32}, c_R E g b s S_s → c_F s → c_ao b s r6 R_r6 → c_ao b s r7 R_r7 → K68 x2 x4 x5 r6 r7 x8 x9 s = some (r, t) → (∀ (b2 : Nat → Nat) (S2 : h_S), c_ext b s b2 t → c_R E g b2 t S2 → c_F t → Q r S2) → WK68 x2 x4 x5 R_r6 R_r7 x8 x9 S_s) {b : Nat → Nat} {s S_s : h_S} {x2 : Int32} {x4 : Int32} {x5 : Int32} {r6 : Option Nat} {R_r6 : Option Nat} {r7 : Option Nat} {R_r7 : Option Nat} {x8 : Int32} {x9 : Int32} (hR : c_R E g b s S_s) (hF : c_F s) (f_r6 : c_ao b s r6 R_r6) (f_r7 : c_ao b s r7 R_r7) (h : fn_X11_part_68b K68 x2 x4 x5 r6 r7 x8 x9 s = some (r, t)) (hQ : ∀ (b2 : Nat → Nat) (S2 : h_S), c_ext b s b2 t → c_R E g b2 t S2 → c_F t → Q r S2) : w_X11_part_68b Q WK68 x2 x4 x5 R_r6 R_r7 x8 x9 S_s := by
  unfold fn_X11_part_68b at h
  unfold w_X11_part_68b
  refine fg_ite Iff.rfl (fun d => ?_) (fun d => ?_)
  · have h := fg_if_t d h
    exact ft_X11_part_111 hR hF f_r6 f_r7 h (fun b2 S2 x2 => hQ b2 S2 (cr_xt cr_xr x2))
  · have h := fg_if_e d h
    refine fg_ite Iff.rfl (fun d => ?_) (fun d => ?_)
    · have h := fg_if_t d h
      exact ft_X11_part_111 hR hF f_r6 f_r7 h (fun b2 S2 x2 => hQ b2 S2 (cr_xt cr_xr x2))
    · have h := fg_if_e d h
      refine fg_ite Iff.rfl (fun d => ?_) (fun d => ?_)
      · have h := fg_if_t d h
        exact ft_X11_part_111 hR hF f_r6 f_r7 h (fun b2 S2 x2 => hQ b2 S2 (cr_xt cr_xr x2))
      · have h := fg_if_e d h
        obtain ⟨a4, o_a4, h⟩ := fg_o_s h
        obtain ⟨A_a4, w_a4, f_a4⟩ := cr_aos f_r7 o_a4
        refine ⟨A_a4, w_a4, ?_⟩
        obtain ⟨c_a4_1, h⟩ := fg_g_s h
        refine ⟨(cr_k hR f_a4).trans c_a4_1, ?_⟩
        obtain ⟨a6, o_a6, h⟩ := fg_o_s h
        obtain ⟨A_a6, w_a6, f_a6⟩ := cr_aos f_r6 o_a6
        refine ⟨A_a6, w_a6, ?_⟩
        obtain ⟨c_a6_2, h⟩ := fg_g_s h
        refine ⟨(cr_k hR f_a6).trans c_a6_2, ?_⟩
        obtain ⟨p9, s8, e_s8, h⟩ := fg_b_s h
        refine ft_X1_partBehind hR hF f_a6 (cr_r hR f_a4 _) e_s8 (fun b_s8 S_s8 x_s8 r_s8 F_s8 => ?_)
        exact hK68 r_s8 F_s8 (cr_aox f_r6 x_s8) (cr_aox f_r7 x_s8) h (fun b2 S2 x2 => hQ b2 S2 (cr_xt x_s8 x2))
set_option maxRecDepth 100000 in
set_option maxHeartbeats 4000000 in
theorem ft_X11_part_68 {E : h_S} {g : h_G} {r : Int32} {t : h_S} {Q : Int32 → h_S → Prop} : ∀ (n : Nat) {b : Nat → Nat} {s S_s : h_S} {x2 : Int32} {x4 : Int32} {x5 : Int32} {r6 : Option Nat} {R_r6 : Option Nat} {r7 : Option Nat} {R_r7 : Option Nat} {x8 : Int32} {x9 : Int32}, c_R E g b s S_s → c_F s → c_ao b s r6 R_r6 → c_ao b s r7 R_r7 → fn_X11_part_68 n x2 x4 x5 r6 r7 x8 x9 s = some (r, t) → (∀ (b2 : Nat → Nat) (S2 : h_S), c_ext b s b2 t → c_R E g b2 t S2 → c_F t → Q r S2) → w_X11_part_68 Q n x2 x4 x5 R_r6 R_r7 x8 x9 S_s := by
  intro n
  induction n with
  | zero => intros; rename_i h _; exact fg_none h
  | succ n ih => exact ft_X11_part_68b @ih
set_option maxRecDepth 100000 in
set_option maxHeartbeats 4000000 in
theorem ft_X11_part {E : h_S} {g : h_G} {r : Int32} {t : h_S} {Q : Int32 → h_S → Prop} {b : Nat → Nat} {s S_s : h_S} {A_o0 : Nat} {x1 : Int32} {x2 : Int32} {x3 : Int32} {x4 : Int32} {x5 : Int32} (hR : c_R E g b s S_s) (hF : c_F s) (f_o0 : c_at b s 0 A_o0) (h : fn_X11_part x1 x2 x3 x4 x5 s = some (r, t)) (hQ : ∀ (b2 : Nat → Nat) (S2 : h_S), c_ext b s b2 t → c_R E g b2 t S2 → c_F t → Q r S2) : w_X11_part A_o0 x1 x2 x3 x4 x5 S_s Q := by
  unfold fn_X11_part at h
  unfold w_X11_part
  refine ⟨(cr_k hR f_o0).trans (cf_k (a := 0) hF rfl (by decide)), ?_⟩
  obtain ⟨p3, s2, e_s2, h⟩ := fg_b_s h
  refine ft_X11_linkAt hR hF f_o0 e_s2 (fun b_s2 R_p3 S_s2 x_s2 r_s2 F_s2 f_p3 => ?_)
  refine ⟨(cr_k r_s2 (cr_atx f_o0 x_s2)).trans (cf_k (a := 0) F_s2 rfl (by decide)), ?_⟩
  obtain ⟨p6, s5, e_s5, h⟩ := fg_b_s h
  refine ft_X11_versionAt r_s2 F_s2 (cr_atx f_o0 x_s2) e_s5 (fun b_s5 R_p6 S_s5 x_s5 r_s5 F_s5 f_p6 => ?_)
  refine fg_ite (cr_isn (cr_aox f_p3 x_s5)) (fun d => ?_) (fun d => ?_)
  · have h := fg_if_t d h
    unfold w_X11_part_29
    obtain ⟨q, q2⟩ := fg_ret h
    subst q
    subst q2
    exact hQ _ _ (cr_xt x_s2 x_s5) r_s5 F_s5
  · have h := fg_if_e d h
    refine fg_ite (cr_isn f_p6) (fun d => ?_) (fun d => ?_)
    · have h := fg_if_t d h
      unfold w_X11_part_29
      obtain ⟨q, q2⟩ := fg_ret h
      subst q
      subst q2
      exact hQ _ _ (cr_xt x_s2 x_s5) r_s5 F_s5
    · have h := fg_if_e d h
      refine fg_ite Iff.rfl (fun d => ?_) (fun d => ?_)
      · have h := fg_if_t d h
        obtain ⟨p11, s10, e_s10, h⟩ := fg_b_s h
        refine ft_X11_within r_s5 F_s5 e_s10 (fun b_s10 S_s10 x_s10 r_s10 F_s10 => ?_)
        refine fg_ite Iff.rfl (fun d => ?_) (fun d => ?_)
        · have h := fg_if_t d h
          unfold w_X11_part_48
          obtain ⟨q, q2⟩ := fg_ret h
          subst q
          subst q2
          exact hQ _ _ (cr_xt x_s2 (cr_xt x_s5 x_s10)) r_s10 F_s10
        · have h := fg_if_e d h
          obtain ⟨p14, s13, e_s13, h⟩ := fg_b_s h
          refine ft_X11_within r_s10 F_s10 e_s13 (fun b_s13 S_s13 x_s13 r_s13 F_s13 => ?_)
          refine fg_ite Iff.rfl (fun d => ?_) (fun d => ?_)
          · have h := fg_if_t d h
            unfold w_X11_part_48
            obtain ⟨q, q2⟩ := fg_ret h
            subst q
            subst q2
            exact hQ _ _ (cr_xt x_s2 (cr_xt x_s5 (cr_xt x_s10 x_s13))) r_s13 F_s13
          · have h := fg_if_e d h
            obtain ⟨a16, o_a16, h⟩ := fg_o_s h
            obtain ⟨A_a16, w_a16, f_a16⟩ := cr_aos f_p6 o_a16
            refine ⟨A_a16, w_a16, ?_⟩
            obtain ⟨c_a16_1, h⟩ := fg_g_s h
            refine ⟨(cr_k r_s13 (cr_atx (cr_atx f_a16 x_s10) x_s13)).trans c_a16_1, ?_⟩
            obtain ⟨a18, o_a18, h⟩ := fg_o_s h
            obtain ⟨A_a18, w_a18, f_a18⟩ := cr_aos f_p3 o_a18
            refine ⟨A_a18, w_a18, ?_⟩
            obtain ⟨c_a18_2, h⟩ := fg_g_s h
            refine ⟨(cr_k r_s13 (cr_atx (cr_atx (cr_atx f_a18 x_s5) x_s10) x_s13)).trans c_a18_2, ?_⟩
            obtain ⟨p21, s20, e_s20, h⟩ := fg_b_s h
            refine ft_X1_partFrom r_s13 F_s13 (cr_atx (cr_atx (cr_atx f_a18 x_s5) x_s10) x_s13) (cr_r r_s13 (cr_atx (cr_atx f_a16 x_s10) x_s13) _) e_s20 (fun b_s20 S_s20 x_s20 r_s20 F_s20 => ?_)
            exact ⟨g_N, ft_X11_part_68 g_N r_s20 F_s20 (cr_aox (cr_aox (cr_aox (cr_aox f_p3 x_s5) x_s10) x_s13) x_s20) (cr_aox (cr_aox (cr_aox f_p6 x_s10) x_s13) x_s20) h (fun b2 S2 x2 => hQ b2 S2 (cr_xt (cr_xt x_s2 (cr_xt x_s5 (cr_xt x_s10 (cr_xt x_s13 x_s20)))) x2))⟩
      · have h := fg_if_e d h
        unfold w_X11_part_29
        obtain ⟨q, q2⟩ := fg_ret h
        subst q
        subst q2
        exact hQ _ _ (cr_xt x_s2 x_s5) r_s5 F_s5
set_option maxRecDepth 100000 in
set_option maxHeartbeats 4000000 in
theorem ft_X11_keepRight {E : h_S} {g : h_G} {r : Int32} {t : h_S} {Q : Int32 → h_S → Prop} {b : Nat → Nat} {s S_s : h_S} {C0 D0 mc ms : Nat} {A_o0 : Nat} {r1 : Option Nat} {R_r1 : Option Nat} (hR : c_R E g b s S_s) (hF : c_F s) (f_o0 : c_at b s 0 A_o0) (f_r1 : c_ao b s r1 R_r1) (h : fn_X11_keepRight r1 s = some (r, t, C0, D0)) (hQ : ∀ (b2 : Nat → Nat) (S2 : h_S), c_ext b s b2 t → c_R E g b2 t S2 → c_F t → Q r S2) (hc : C0 ≤ mc) (hd : D0 ≤ ms) : w_X11_keepRight g A_o0 R_r1 S_s mc ms Q := by
  unfold fn_X11_keepRight at h
  unfold w_X11_keepRight
  refine ⟨(cr_k hR f_o0).trans (cf_k (a := 0) hF rfl (by decide)), ?_⟩
  obtain ⟨A_a2, w_a2, f_a2⟩ := cr_aos (cr_r hR f_o0 _) (cf_r (a := 0) (j := 8) (y := 8) hF rfl)
  refine ⟨A_a2, w_a2, ?_⟩
  refine ⟨(cr_k hR f_a2).trans (cf_k (a := 8) hF rfl (by decide)), ?_⟩
  obtain ⟨p5, s4, e_s4, h⟩ := fg_b_s h
  refine ft_Jx4a65c_size_8abf5 hR hF f_a2 e_s4 (fun b_s4 S_s4 x_s4 r_s4 F_s4 => ?_)
  refine fg_ite Iff.rfl (fun d => ?_) (fun d => ?_)
  · have h := fg_if_t d h
    refine ⟨(cr_k r_s4 (cr_atx f_o0 x_s4)).trans (cf_k (a := 0) F_s4 rfl (by decide)), ?_⟩
    obtain ⟨A_a8, w_a8, f_a8⟩ := cr_aos (cr_r r_s4 (cr_atx f_o0 x_s4) _) (cf_r (a := 0) (j := 8) (y := 8) F_s4 rfl)
    refine ⟨A_a8, w_a8, ?_⟩
    refine ⟨(cr_k r_s4 f_a8).trans (cf_k (a := 8) F_s4 rfl (by decide)), ?_⟩
    obtain ⟨p11, s10, mc12, ms13, C_s10, D_s10, e_s10, h, q_s10, w_s10⟩ := fg_bc_s h
    obtain ⟨u1_s10, hc⟩ := fg_sp q_s10 hc
    obtain ⟨u2_s10, hd⟩ := fg_sp w_s10 hd
    refine ⟨mc12, ms13, u1_s10, u2_s10, ft_Jx4a65c_add_9ea2d r_s4 F_s4 f_a8 (cr_aox f_r1 x_s4) e_s10 (fun b_s10 S_s10 x_s10 r_s10 F_s10 => ?_) (Nat.le_refl _) (Nat.le_refl _)⟩
    refine ⟨(cr_k r_s10 (cr_atx (cr_atx f_o0 x_s4) x_s10)).trans (cf_k (a := 0) F_s10 rfl (by decide)), ?_⟩
    obtain ⟨A_a17, w_a17, f_a17⟩ := cr_aos (cr_r r_s10 (cr_atx (cr_atx f_o0 x_s4) x_s10) _) (cf_r (a := 0) (j := 8) (y := 8) F_s10 rfl)
    refine ⟨A_a17, w_a17, ?_⟩
    refine ⟨(cr_k r_s10 f_a17).trans (cf_k (a := 8) F_s10 rfl (by decide)), ?_⟩
    obtain ⟨p20, s19, e_s19, h⟩ := fg_b_s h
    refine ft_Jx4a65c_size_8abf5 r_s10 F_s10 f_a17 e_s19 (fun b_s19 S_s19 x_s19 r_s19 F_s19 => ?_)
    refine ⟨(cr_k r_s19 (cr_atx (cr_atx (cr_atx f_o0 x_s4) x_s10) x_s19)).trans (cf_k (a := 0) F_s19 rfl (by decide)), ?_⟩
    obtain ⟨p23, s22, e_s22, h⟩ := fg_b_s h
    refine ft_X11_acted r_s19 F_s19 (cr_atx (cr_atx (cr_atx f_o0 x_s4) x_s10) x_s19) e_s22 (fun b_s22 S_s22 x_s22 r_s22 F_s22 => ?_)
    obtain ⟨q, q2⟩ := fg_retc h
    subst q
    subst q2
    exact hQ _ _ (cr_xt x_s4 (cr_xt x_s10 (cr_xt x_s19 x_s22))) r_s22 F_s22
  · have h := fg_if_e d h
    obtain ⟨q, q2⟩ := fg_retc h
    subst q
    subst q2
    exact hQ _ _ x_s4 r_s4 F_s4
set_option maxRecDepth 100000 in
set_option maxHeartbeats 4000000 in
theorem ft_X11_right {E : h_S} {g : h_G} {r : Int32} {t : h_S} {Q : Int32 → h_S → Prop} {b : Nat → Nat} {s S_s : h_S} {C0 D0 mc ms : Nat} {A_o0 : Nat} {x1 : Int32} {x2 : Int32} {x3 : Int32} {x4 : Int32} {x5 : Int32} (hR : c_R E g b s S_s) (hF : c_F s) (f_o0 : c_at b s 0 A_o0) (h : fn_X11_right x1 x2 x3 x4 x5 s = some (r, t, C0, D0)) (hQ : ∀ (b2 : Nat → Nat) (S2 : h_S), c_ext b s b2 t → c_R E g b2 t S2 → c_F t → Q r S2) (hc : C0 ≤ mc) (hd : D0 ≤ ms) : w_X11_right g A_o0 x1 x2 x3 x4 x5 S_s mc ms Q := by
  unfold fn_X11_right at h
  unfold w_X11_right
  refine ⟨(cr_k hR f_o0).trans (cf_k (a := 0) hF rfl (by decide)), ?_⟩
  obtain ⟨s2, e_s2, h⟩ := fg_let_s h
  intro S_s2
  have r_s2 : c_R E g b s2 S_s2 := by rw [e_s2]; exact cr_si hR f_o0 _ _
  have F_s2 : c_F s2 := by rw [e_s2]; exact cf_si hF _ _
  have x_s2 : c_ext b s b s2 := by rw [e_s2]; exact cx_si _ _
  clear_value S_s2
  obtain ⟨p4, s3, e_s3, h⟩ := fg_b_s h
  refine ft_X11_isWriting r_s2 F_s2 (cr_atx f_o0 x_s2) e_s3 (fun b_s3 S_s3 x_s3 r_s3 F_s3 => ?_)
  refine fg_ite Iff.rfl (fun d => ?_) (fun d => ?_)
  · have h := fg_if_t d h
    unfold w_X11_right_21
    obtain ⟨q, q2⟩ := fg_retc h
    subst q
    subst q2
    exact hQ _ _ (cr_xt x_s2 x_s3) r_s3 F_s3
  · have h := fg_if_e d h
    obtain ⟨p7, s6, e_s6, h⟩ := fg_b_s h
    refine ft_X11_within r_s3 F_s3 e_s6 (fun b_s6 S_s6 x_s6 r_s6 F_s6 => ?_)
    refine fg_ite Iff.rfl (fun d => ?_) (fun d => ?_)
    · have h := fg_if_t d h
      unfold w_X11_right_21
      obtain ⟨q, q2⟩ := fg_retc h
      subst q
      subst q2
      exact hQ _ _ (cr_xt x_s2 (cr_xt x_s3 x_s6)) r_s6 F_s6
    · have h := fg_if_e d h
      refine ⟨(cr_k r_s6 (cr_atx (cr_atx (cr_atx f_o0 x_s2) x_s3) x_s6)).trans (cf_k (a := 0) F_s6 rfl (by decide)), ?_⟩
      obtain ⟨p11, s10, e_s10, h⟩ := fg_b_s h
      refine ft_X11_refusedCells r_s6 F_s6 (cr_atx (cr_atx (cr_atx f_o0 x_s2) x_s3) x_s6) e_s10 (fun b_s10 S_s10 x_s10 r_s10 F_s10 => ?_)
      refine fg_ite Iff.rfl (fun d => ?_) (fun d => ?_)
      · have h := fg_if_t d h
        obtain ⟨q13, e_q13, h⟩ := fg_let_s h
        have z_q13 : h_k s10 q13 = 0 := cf_z F_s10 e_q13
        obtain ⟨C_q13, D_q13, h, q_q13, w_q13⟩ := fg_c_s h
        obtain ⟨u1_q13, hc⟩ := fg_sp q_q13 hc
        obtain ⟨u2_q13, hd⟩ := fg_sp w_q13 hd
        refine ⟨u1_q13, u2_q13, fun A_q13 Z_q13 => ?_⟩
        obtain ⟨s17, e_s17, h⟩ := fg_let_s h
        intro S_s17
        have r_s17 : c_R E g (c_up b_s10 q13 A_q13) s17 S_s17 := by rw [e_s17]; exact cr_nw r_s10 z_q13 Z_q13 (by decide)
        have F_s17 : c_F s17 := by rw [e_s17]; exact cf_nw F_s10 e_q13 (by decide)
        have x_s17 : c_ext b_s10 s10 (c_up b_s10 q13 A_q13) s17 := by rw [e_s17]; exact cx_new z_q13
        have f_q13 : c_at (c_up b_s10 q13 A_q13) s17 q13 A_q13 := by rw [e_s17]; exact ca_nw (by decide)
        clear_value S_s17
        intro c18
        have hc : _ ≤ c18 := hc
        clear_value c18
        intro d19
        have hd : _ ≤ d19 := hd
        clear_value d19
        refine ⟨(cr_k r_s17 (cr_atx (cr_atx (cr_atx (cr_atx (cr_atx f_o0 x_s2) x_s3) x_s6) x_s10) x_s17)).trans (cf_k (a := 0) F_s17 rfl (by decide)), ?_⟩
        try simp -zeta -zetaUnused only [cr_i r_s17 (cr_atx (cr_atx (cr_atx (cr_atx (cr_atx f_o0 x_s2) x_s3) x_s6) x_s10) x_s17)]
        obtain ⟨u_, s21, e_s21, h⟩ := fg_b_s h
        refine ft_X3_init r_s17 F_s17 f_q13 e_s21 (fun b_s21 S_s21 x_s21 r_s21 F_s21 => ?_)
        refine ⟨(cr_k r_s21 (cr_atx (cr_atx (cr_atx (cr_atx (cr_atx (cr_atx f_o0 x_s2) x_s3) x_s6) x_s10) x_s17) x_s21)).trans (cf_k (a := 0) F_s21 rfl (by decide)), ?_⟩
        obtain ⟨A_a24, w_a24, f_a24⟩ := cr_aos (cr_r r_s21 (cr_atx (cr_atx (cr_atx (cr_atx (cr_atx (cr_atx f_o0 x_s2) x_s3) x_s6) x_s10) x_s17) x_s21) _) (cf_r (a := 0) (j := 9) (y := 9) F_s21 rfl)
        refine ⟨A_a24, w_a24, ?_⟩
        refine ⟨(cr_k r_s21 f_a24).trans (cf_k (a := 9) F_s21 rfl (by decide)), ?_⟩
        obtain ⟨c, h⟩ := fg_g_s h
        refine ⟨cr_vp (cr_n r_s21 f_a24) (cf_n (a := 9) F_s21 rfl (by decide) rfl) c, ?_⟩
        obtain ⟨c_q13_2, h⟩ := fg_g_s h
        refine ⟨(cr_k r_s21 (cr_atx f_q13 x_s21)).trans c_q13_2, ?_⟩
        obtain ⟨p29, s28, e_s28, h⟩ := fg_b_s h
        refine ft_X3_readText r_s21 F_s21 (cr_atx f_q13 x_s21) (cr_r r_s21 f_a24 _) e_s28 (fun b_s28 S_s28 x_s28 r_s28 F_s28 => ?_)
        refine fg_ite Iff.rfl (fun d => ?_) (fun d => ?_)
        · have h := fg_if_t d h
          refine ⟨(cr_k r_s28 (cr_atx (cr_atx (cr_atx (cr_atx (cr_atx (cr_atx (cr_atx f_o0 x_s2) x_s3) x_s6) x_s10) x_s17) x_s21) x_s28)).trans (cf_k (a := 0) F_s28 rfl (by decide)), ?_⟩
          obtain ⟨p33, s32, mc34, ms35, C_s32, D_s32, e_s32, h, q_s32, w_s32⟩ := fg_bc_s h
          obtain ⟨u1_s32, hc⟩ := fg_sp q_s32 hc
          obtain ⟨u2_s32, hd⟩ := fg_sp w_s32 hd
          refine ⟨mc34, ms35, u1_s32, u2_s32, ft_X11_keepRight r_s28 F_s28 (cr_atx (cr_atx (cr_atx (cr_atx (cr_atx (cr_atx (cr_atx f_o0 x_s2) x_s3) x_s6) x_s10) x_s17) x_s21) x_s28) (cr_some (cr_atx (cr_atx f_q13 x_s21) x_s28)) e_s32 (fun b_s32 S_s32 x_s32 r_s32 F_s32 => ?_) (Nat.le_refl _) (Nat.le_refl _)⟩
          obtain ⟨q, q2⟩ := fg_retc h
          subst q
          subst q2
          exact hQ _ _ (cr_xt x_s2 (cr_xt x_s3 (cr_xt x_s6 (cr_xt x_s10 (cr_xt x_s17 (cr_xt x_s21 (cr_xt x_s28 x_s32))))))) r_s32 F_s32
        · have h := fg_if_e d h
          obtain ⟨q, q2⟩ := fg_retc h
          subst q
          subst q2
          exact hQ _ _ (cr_xt x_s2 (cr_xt x_s3 (cr_xt x_s6 (cr_xt x_s10 (cr_xt x_s17 (cr_xt x_s21 x_s28)))))) r_s28 F_s28
      · have h := fg_if_e d h
        obtain ⟨q, q2⟩ := fg_retc h
        subst q
        subst q2
        exact hQ _ _ (cr_xt x_s2 (cr_xt x_s3 (cr_xt x_s6 x_s10))) r_s10 F_s10
set_option maxRecDepth 100000 in
set_option maxHeartbeats 4000000 in
theorem ft_X11_lend {E : h_S} {g : h_G} {r : Int32} {t : h_S} {Q : Int32 → h_S → Prop} {b : Nat → Nat} {s S_s : h_S} {C0 D0 mc ms : Nat} {A_o0 : Nat} {x1 : Int32} {x2 : Int32} {x3 : Int32} (hR : c_R E g b s S_s) (hF : c_F s) (f_o0 : c_at b s 0 A_o0) (h : fn_X11_lend x1 x2 x3 s = some (r, t, C0, D0)) (hQ : ∀ (b2 : Nat → Nat) (S2 : h_S), c_ext b s b2 t → c_R E g b2 t S2 → c_F t → Q r S2) (hc : C0 ≤ mc) (hd : D0 ≤ ms) : w_X11_lend g A_o0 x1 x2 x3 S_s mc ms Q := by
  unfold fn_X11_lend at h
  unfold w_X11_lend
  refine ⟨(cr_k hR f_o0).trans (cf_k (a := 0) hF rfl (by decide)), ?_⟩
  obtain ⟨A_a2, w_a2, f_a2⟩ := cr_aos (cr_r hR f_o0 _) (cf_r (a := 0) (j := 8) (y := 8) hF rfl)
  refine ⟨A_a2, w_a2, ?_⟩
  refine ⟨(cr_k hR f_a2).trans (cf_k (a := 8) hF rfl (by decide)), ?_⟩
  obtain ⟨p5, s4, e_s4, h⟩ := fg_b_s h
  refine ft_Jx4a65c_size_8abf5 hR hF f_a2 e_s4 (fun b_s4 S_s4 x_s4 r_s4 F_s4 => ?_)
  obtain ⟨p7, s6, e_s6, h⟩ := fg_b_s h
  refine ft_X11_within r_s4 F_s4 e_s6 (fun b_s6 S_s6 x_s6 r_s6 F_s6 => ?_)
  refine fg_ite Iff.rfl (fun d => ?_) (fun d => ?_)
  · have h := fg_if_t d h
    unfold w_X11_lend_30
    obtain ⟨q, q2⟩ := fg_retc h
    subst q
    subst q2
    exact hQ _ _ (cr_xt x_s4 x_s6) r_s6 F_s6
  · have h := fg_if_e d h
    refine ⟨(cr_k r_s6 (cr_atx (cr_atx f_o0 x_s4) x_s6)).trans (cf_k (a := 0) F_s6 rfl (by decide)), ?_⟩
    obtain ⟨p11, s10, e_s10, h⟩ := fg_b_s h
    refine ft_X11_isHand r_s6 F_s6 (cr_atx (cr_atx f_o0 x_s4) x_s6) e_s10 (fun b_s10 S_s10 x_s10 r_s10 F_s10 => ?_)
    refine fg_ite Iff.rfl (fun d => ?_) (fun d => ?_)
    · have h := fg_if_t d h
      unfold w_X11_lend_30
      obtain ⟨q, q2⟩ := fg_retc h
      subst q
      subst q2
      exact hQ _ _ (cr_xt x_s4 (cr_xt x_s6 x_s10)) r_s10 F_s10
    · have h := fg_if_e d h
      refine ⟨(cr_k r_s10 (cr_atx (cr_atx (cr_atx f_o0 x_s4) x_s6) x_s10)).trans (cf_k (a := 0) F_s10 rfl (by decide)), ?_⟩
      obtain ⟨p15, s14, e_s14, h⟩ := fg_b_s h
      refine ft_X11_isHand r_s10 F_s10 (cr_atx (cr_atx (cr_atx f_o0 x_s4) x_s6) x_s10) e_s14 (fun b_s14 S_s14 x_s14 r_s14 F_s14 => ?_)
      refine fg_ite Iff.rfl (fun d => ?_) (fun d => ?_)
      · have h := fg_if_t d h
        unfold w_X11_lend_30
        obtain ⟨q, q2⟩ := fg_retc h
        subst q
        subst q2
        exact hQ _ _ (cr_xt x_s4 (cr_xt x_s6 (cr_xt x_s10 x_s14))) r_s14 F_s14
      · have h := fg_if_e d h
        refine fg_ite Iff.rfl (fun d => ?_) (fun d => ?_)
        · have h := fg_if_t d h
          obtain ⟨q, q2⟩ := fg_retc h
          subst q
          subst q2
          exact hQ _ _ (cr_xt x_s4 (cr_xt x_s6 (cr_xt x_s10 x_s14))) r_s14 F_s14
        · have h := fg_if_e d h
          refine ⟨(cr_k r_s14 (cr_atx (cr_atx (cr_atx (cr_atx f_o0 x_s4) x_s6) x_s10) x_s14)).trans (cf_k (a := 0) F_s14 rfl (by decide)), ?_⟩
          obtain ⟨A_a19, w_a19, f_a19⟩ := cr_aos (cr_r r_s14 (cr_atx (cr_atx (cr_atx (cr_atx f_o0 x_s4) x_s6) x_s10) x_s14) _) (cf_r (a := 0) (j := 8) (y := 8) F_s14 rfl)
          refine ⟨A_a19, w_a19, ?_⟩
          refine ⟨(cr_k r_s14 f_a19).trans (cf_k (a := 8) F_s14 rfl (by decide)), ?_⟩
          obtain ⟨p22, s21, e_s21, h⟩ := fg_b_s h
          refine ft_Jx4a65c_get_915e3 r_s14 F_s14 f_a19 e_s21 (fun b_s21 R_p22 S_s21 x_s21 r_s21 F_s21 f_p22 => ?_)
          obtain ⟨c, h⟩ := fg_g_s h
          refine ⟨cr_cast r_s21 f_p22 c, ?_⟩
          refine ⟨(cr_k r_s21 (cr_atx (cr_atx (cr_atx (cr_atx (cr_atx f_o0 x_s4) x_s6) x_s10) x_s14) x_s21)).trans (cf_k (a := 0) F_s21 rfl (by decide)), ?_⟩
          try simp -zeta -zetaUnused only [cr_i r_s21 (cr_atx (cr_atx (cr_atx (cr_atx (cr_atx f_o0 x_s4) x_s6) x_s10) x_s14) x_s21)]
          obtain ⟨p26, s25, e_s25, h⟩ := fg_b_s h
          refine ft_X11_allows r_s21 F_s21 (cr_atx (cr_atx (cr_atx (cr_atx (cr_atx f_o0 x_s4) x_s6) x_s10) x_s14) x_s21) f_p22 e_s25 (fun b_s25 S_s25 x_s25 r_s25 F_s25 => ?_)
          refine fg_ite Iff.rfl (fun d => ?_) (fun d => ?_)
          · have h := fg_if_t d h
            obtain ⟨q, q2⟩ := fg_retc h
            subst q
            subst q2
            exact hQ _ _ (cr_xt x_s4 (cr_xt x_s6 (cr_xt x_s10 (cr_xt x_s14 (cr_xt x_s21 x_s25))))) r_s25 F_s25
          · have h := fg_if_e d h
            obtain ⟨q28, e_q28, h⟩ := fg_let_s h
            have z_q28 : h_k s25 q28 = 0 := cf_z F_s25 e_q28
            obtain ⟨C_q28, D_q28, h, q_q28, w_q28⟩ := fg_c_s h
            obtain ⟨u1_q28, hc⟩ := fg_sp q_q28 hc
            obtain ⟨u2_q28, hd⟩ := fg_sp w_q28 hd
            refine ⟨u1_q28, u2_q28, fun A_q28 Z_q28 => ?_⟩
            obtain ⟨s32, e_s32, h⟩ := fg_let_s h
            intro S_s32
            have r_s32 : c_R E g (c_up b_s25 q28 A_q28) s32 S_s32 := by rw [e_s32]; exact cr_nw r_s25 z_q28 Z_q28 (by decide)
            have F_s32 : c_F s32 := by rw [e_s32]; exact cf_nw F_s25 e_q28 (by decide)
            have x_s32 : c_ext b_s25 s25 (c_up b_s25 q28 A_q28) s32 := by rw [e_s32]; exact cx_new z_q28
            have f_q28 : c_at (c_up b_s25 q28 A_q28) s32 q28 A_q28 := by rw [e_s32]; exact ca_nw (by decide)
            clear_value S_s32
            intro c33
            have hc : _ ≤ c33 := hc
            clear_value c33
            intro d34
            have hd : _ ≤ d34 := hd
            clear_value d34
            obtain ⟨a35, o_a35, h⟩ := fg_o_s h
            obtain ⟨A_a35, w_a35, f_a35⟩ := cr_aos f_p22 o_a35
            refine ⟨A_a35, w_a35, ?_⟩
            obtain ⟨c_a35_2, h⟩ := fg_g_s h
            refine ⟨(cr_k r_s32 (cr_atx (cr_atx f_a35 x_s25) x_s32)).trans c_a35_2, ?_⟩
            refine ⟨(cr_k r_s32 (cr_atx (cr_atx (cr_atx (cr_atx (cr_atx (cr_atx (cr_atx f_o0 x_s4) x_s6) x_s10) x_s14) x_s21) x_s25) x_s32)).trans (cf_k (a := 0) F_s32 rfl (by decide)), ?_⟩
            try simp -zeta -zetaUnused only [cr_i r_s32 (cr_atx (cr_atx f_a35 x_s25) x_s32), cr_i r_s32 (cr_atx (cr_atx (cr_atx (cr_atx (cr_atx (cr_atx (cr_atx f_o0 x_s4) x_s6) x_s10) x_s14) x_s21) x_s25) x_s32)]
            obtain ⟨u_, s38, e_s38, h⟩ := fg_b_s h
            refine ft_X3_init r_s32 F_s32 f_q28 e_s38 (fun b_s38 S_s38 x_s38 r_s38 F_s38 => ?_)
            obtain ⟨c_q28_3, h⟩ := fg_g_s h
            refine ⟨(cr_k r_s38 (cr_atx f_q28 x_s38)).trans c_q28_3, ?_⟩
            obtain ⟨u_, s41, e_s41, h⟩ := fg_b_s h
            refine ft_X3_hangOn r_s38 F_s38 (cr_atx f_q28 x_s38) (cr_aox (cr_aox (cr_aox f_p22 x_s25) x_s32) x_s38) e_s41 (fun b_s41 S_s41 x_s41 r_s41 F_s41 => ?_)
            refine ⟨(cr_k r_s41 (cr_atx (cr_atx (cr_atx (cr_atx (cr_atx (cr_atx (cr_atx (cr_atx (cr_atx f_o0 x_s4) x_s6) x_s10) x_s14) x_s21) x_s25) x_s32) x_s38) x_s41)).trans (cf_k (a := 0) F_s41 rfl (by decide)), ?_⟩
            obtain ⟨p45, s44, mc46, ms47, C_s44, D_s44, e_s44, h, q_s44, w_s44⟩ := fg_bc_s h
            obtain ⟨u1_s44, hc⟩ := fg_sp q_s44 hc
            obtain ⟨u2_s44, hd⟩ := fg_sp w_s44 hd
            refine ⟨mc46, ms47, u1_s44, u2_s44, ft_X11_keepRight r_s41 F_s41 (cr_atx (cr_atx (cr_atx (cr_atx (cr_atx (cr_atx (cr_atx (cr_atx (cr_atx f_o0 x_s4) x_s6) x_s10) x_s14) x_s21) x_s25) x_s32) x_s38) x_s41) (cr_some (cr_atx (cr_atx f_q28 x_s38) x_s41)) e_s44 (fun b_s44 S_s44 x_s44 r_s44 F_s44 => ?_) (Nat.le_refl _) (Nat.le_refl _)⟩
            obtain ⟨q, q2⟩ := fg_retc h
            subst q
            subst q2
            exact hQ _ _ (cr_xt x_s4 (cr_xt x_s6 (cr_xt x_s10 (cr_xt x_s14 (cr_xt x_s21 (cr_xt x_s25 (cr_xt x_s32 (cr_xt x_s38 (cr_xt x_s41 x_s44))))))))) r_s44 F_s44
set_option maxRecDepth 100000 in
set_option maxHeartbeats 4000000 in
theorem ft_X11_take_78 {E : h_S} {g : h_G} {r : Int32} {t : h_S} {Q : Int32 → h_S → Prop} {K40 : Int32 → Int32 → Int32 → h_S → Option ((Int32) × h_S)} {WK40 : Nat → Int32 → Int32 → Int32 → h_S → Prop} (hK40 : ∀ {b : Nat → Nat} {s S_s : h_S} {A_o0 : Nat} {x1 : Int32} {x2 : Int32} {x3 : Int32}, c_R E g b s S_s → c_F s → c_at b s 0 A_o0 → K40 x1 x2 x3 s = some (r, t) → (∀ (b2 : Nat → Nat) (S2 : h_S), c_ext b s b2 t → c_R E g b2 t S2 → c_F t → Q r S2) → WK40 A_o0 x1 x2 x3 S_s) {b : Nat → Nat} {s S_s : h_S} {A_o0 : Nat} {x1 : Int32} {x2 : Int32} {x3 : Int32} {r4 : Option Nat} {R_r4 : Option Nat} (hR : c_R E g b s S_s) (hF : c_F s) (f_o0 : c_at b s 0 A_o0) (f_r4 : c_ao b s r4 R_r4) (h : fn_X11_take_78 K40 x1 x2 x3 r4 s = some (r, t)) (hQ : ∀ (b2 : Nat → Nat) (S2 : h_S), c_ext b s b2 t → c_R E g b2 t S2 → c_F t → Q r S2) : w_X11_take_78 Q WK40 A_o0 x1 x2 x3 R_r4 S_s := by
  unfold fn_X11_take_78 at h
  unfold w_X11_take_78
  obtain ⟨a1, o_a1, h⟩ := fg_o_s h
  obtain ⟨A_a1, w_a1, f_a1⟩ := cr_aos f_r4 o_a1
  refine ⟨A_a1, w_a1, ?_⟩
  obtain ⟨c_a1_1, h⟩ := fg_g_s h
  refine ⟨(cr_k hR f_a1).trans c_a1_1, ?_⟩
  obtain ⟨p4, s3, e_s3, h⟩ := fg_b_s h
  refine ft_X3_isThere hR hF f_a1 e_s3 (fun b_s3 S_s3 x_s3 r_s3 F_s3 => ?_)
  refine fg_ite Iff.rfl (fun d => ?_) (fun d => ?_)
  · have h := fg_if_t d h
    unfold w_X11_take_100
    exact hK40 r_s3 F_s3 (cr_atx f_o0 x_s3) h (fun b2 S2 x2 => hQ b2 S2 (cr_xt x_s3 x2))
  · have h := fg_if_e d h
    refine ⟨(cr_k r_s3 (cr_atx f_o0 x_s3)).trans (cf_k (a := 0) F_s3 rfl (by decide)), ?_⟩
    obtain ⟨a7, o_a7, h⟩ := fg_o_s h
    obtain ⟨A_a7, w_a7, f_a7⟩ := cr_aos f_r4 o_a7
    refine ⟨A_a7, w_a7, ?_⟩
    obtain ⟨c_a7_2, h⟩ := fg_g_s h
    refine ⟨(cr_k r_s3 (cr_atx f_a7 x_s3)).trans c_a7_2, ?_⟩
    try simp -zeta -zetaUnused only [cr_i r_s3 (cr_atx f_o0 x_s3)]
    obtain ⟨s9, e_s9, h⟩ := fg_let_s h
    intro S_s9
    have r_s9 : c_R E g b_s3 s9 S_s9 := by rw [e_s9]; exact cr_si r_s3 (cr_atx f_a7 x_s3) _ _
    have F_s9 : c_F s9 := by rw [e_s9]; exact cf_si F_s3 _ _
    have x_s9 : c_ext b_s3 s3 b_s3 s9 := by rw [e_s9]; exact cx_si _ _
    clear_value S_s9
    unfold w_X11_take_100
    exact hK40 r_s9 F_s9 (cr_atx (cr_atx f_o0 x_s3) x_s9) h (fun b2 S2 x2 => hQ b2 S2 (cr_xt (cr_xt x_s3 x_s9) x2))
set_option maxRecDepth 100000 in
set_option maxHeartbeats 4000000 in
theorem ft_X11_take_40b {E : h_S} {g : h_G} {r : Int32} {t : h_S} {Q : Int32 → h_S → Prop} {K40 : Int32 → Int32 → Int32 → h_S → Option ((Int32) × h_S)} {WK40 : Nat → Int32 → Int32 → Int32 → h_S → Prop} (hK40 : ∀ {b : Nat → Nat} {s S_s : h_S} {A_o0 : Nat} {x1 : Int32} {x2 : Int32} {x3 : Int32}, c_R E g b s S_s → c_F s → c_at b s 0 A_o0 → K40 x1 x2 x3 s = some (r, t) → (∀ (b2 : Nat → Nat) (S2 : h_S), c_ext b s b2 t → c_R E g b2 t S2 → c_F t → Q r S2) → WK40 A_o0 x1 x2 x3 S_s) {b : Nat → Nat} {s S_s : h_S} {A_o0 : Nat} {x1 : Int32} {x2 : Int32} {x3 : Int32} (hR : c_R E g b s S_s) (hF : c_F s) (f_o0 : c_at b s 0 A_o0) (h : fn_X11_take_40b K40 x1 x2 x3 s = some (r, t)) (hQ : ∀ (b2 : Nat → Nat) (S2 : h_S), c_ext b s b2 t → c_R E g b2 t S2 → c_F t → Q r S2) : w_X11_take_40b Q WK40 A_o0 x1 x2 x3 S_s := by
  unfold fn_X11_take_40b at h
  unfold w_X11_take_40b
  refine ⟨(cr_k hR f_o0).trans (cf_k (a := 0) hF rfl (by decide)), ?_⟩
  obtain ⟨A_a2, w_a2, f_a2⟩ := cr_aos (cr_r hR f_o0 _) (cf_r (a := 0) (j := 8) (y := 8) hF rfl)
  refine ⟨A_a2, w_a2, ?_⟩
  refine ⟨(cr_k hR f_a2).trans (cf_k (a := 8) hF rfl (by decide)), ?_⟩
  obtain ⟨p5, s4, e_s4, h⟩ := fg_b_s h
  refine ft_Jx4a65c_size_8abf5 hR hF f_a2 e_s4 (fun b_s4 S_s4 x_s4 r_s4 F_s4 => ?_)
  refine fg_ite Iff.rfl (fun d => ?_) (fun d => ?_)
  · have h := fg_if_t d h
    refine ⟨(cr_k r_s4 (cr_atx f_o0 x_s4)).trans (cf_k (a := 0) F_s4 rfl (by decide)), ?_⟩
    obtain ⟨p9, s8, e_s8, h⟩ := fg_b_s h
    refine ft_X11_acted r_s4 F_s4 (cr_atx f_o0 x_s4) e_s8 (fun b_s8 S_s8 x_s8 r_s8 F_s8 => ?_)
    obtain ⟨q, q2⟩ := fg_ret h
    subst q
    subst q2
    exact hQ _ _ (cr_xt x_s4 x_s8) r_s8 F_s8
  · have h := fg_if_e d h
    refine ⟨(cr_k r_s4 (cr_atx f_o0 x_s4)).trans (cf_k (a := 0) F_s4 rfl (by decide)), ?_⟩
    obtain ⟨A_a11, w_a11, f_a11⟩ := cr_aos (cr_r r_s4 (cr_atx f_o0 x_s4) _) (cf_r (a := 0) (j := 8) (y := 8) F_s4 rfl)
    refine ⟨A_a11, w_a11, ?_⟩
    refine ⟨(cr_k r_s4 f_a11).trans (cf_k (a := 8) F_s4 rfl (by decide)), ?_⟩
    obtain ⟨p14, s13, e_s13, h⟩ := fg_b_s h
    refine ft_Jx4a65c_get_915e3 r_s4 F_s4 f_a11 e_s13 (fun b_s13 R_p14 S_s13 x_s13 r_s13 F_s13 f_p14 => ?_)
    obtain ⟨c, h⟩ := fg_g_s h
    refine ⟨cr_cast r_s13 f_p14 c, ?_⟩
    refine fg_ite Iff.rfl (fun d => ?_) (fun d => ?_)
    · have h := fg_if_t d h
      exact ft_X11_take_78 @hK40 r_s13 F_s13 (cr_atx (cr_atx f_o0 x_s4) x_s13) f_p14 h (fun b2 S2 x2 => hQ b2 S2 (cr_xt (cr_xt x_s4 x_s13) x2))
    · have h := fg_if_e d h
      obtain ⟨a17, o_a17, h⟩ := fg_o_s h
      obtain ⟨A_a17, w_a17, f_a17⟩ := cr_aos f_p14 o_a17
      refine ⟨A_a17, w_a17, ?_⟩
      obtain ⟨c_a17_1, h⟩ := fg_g_s h
      refine ⟨(cr_k r_s13 f_a17).trans c_a17_1, ?_⟩
      try simp -zeta -zetaUnused only [cr_i r_s13 f_a17]
      refine fg_ite Iff.rfl (fun d => ?_) (fun d => ?_)
      · have h := fg_if_t d h
        exact ft_X11_take_78 @hK40 r_s13 F_s13 (cr_atx (cr_atx f_o0 x_s4) x_s13) f_p14 h (fun b2 S2 x2 => hQ b2 S2 (cr_xt (cr_xt x_s4 x_s13) x2))
      · have h := fg_if_e d h
        unfold w_X11_take_100
        exact hK40 r_s13 F_s13 (cr_atx (cr_atx f_o0 x_s4) x_s13) h (fun b2 S2 x2 => hQ b2 S2 (cr_xt (cr_xt x_s4 x_s13) x2))
set_option maxRecDepth 100000 in
set_option maxHeartbeats 4000000 in
theorem ft_X11_take_40 {E : h_S} {g : h_G} {r : Int32} {t : h_S} {Q : Int32 → h_S → Prop} : ∀ (n : Nat) {b : Nat → Nat} {s S_s : h_S} {A_o0 : Nat} {x1 : Int32} {x2 : Int32} {x3 : Int32}, c_R E g b s S_s → c_F s → c_at b s 0 A_o0 → fn_X11_take_40 n x1 x2 x3 s = some (r, t) → (∀ (b2 : Nat → Nat) (S2 : h_S), c_ext b s b2 t → c_R E g b2 t S2 → c_F t → Q r S2) → w_X11_take_40 Q n A_o0 x1 x2 x3 S_s := by
  intro n
  induction n with
  | zero => intros; rename_i h _; exact fg_none h
  | succ n ih => exact ft_X11_take_40b @ih
set_option maxRecDepth 100000 in
set_option maxHeartbeats 4000000 in
theorem ft_X11_take {E : h_S} {g : h_G} {r : Int32} {t : h_S} {Q : Int32 → h_S → Prop} {b : Nat → Nat} {s S_s : h_S} {A_o0 : Nat} {x1 : Int32} (hR : c_R E g b s S_s) (hF : c_F s) (f_o0 : c_at b s 0 A_o0) (h : fn_X11_take x1 s = some (r, t)) (hQ : ∀ (b2 : Nat → Nat) (S2 : h_S), c_ext b s b2 t → c_R E g b2 t S2 → c_F t → Q r S2) : w_X11_take A_o0 x1 S_s Q := by
  unfold fn_X11_take at h
  unfold w_X11_take
  refine ⟨(cr_k hR f_o0).trans (cf_k (a := 0) hF rfl (by decide)), ?_⟩
  obtain ⟨A_a2, w_a2, f_a2⟩ := cr_aos (cr_r hR f_o0 _) (cf_r (a := 0) (j := 8) (y := 8) hF rfl)
  refine ⟨A_a2, w_a2, ?_⟩
  refine ⟨(cr_k hR f_a2).trans (cf_k (a := 8) hF rfl (by decide)), ?_⟩
  obtain ⟨p5, s4, e_s4, h⟩ := fg_b_s h
  refine ft_Jx4a65c_size_8abf5 hR hF f_a2 e_s4 (fun b_s4 S_s4 x_s4 r_s4 F_s4 => ?_)
  obtain ⟨p7, s6, e_s6, h⟩ := fg_b_s h
  refine ft_X11_within r_s4 F_s4 e_s6 (fun b_s6 S_s6 x_s6 r_s6 F_s6 => ?_)
  refine fg_ite Iff.rfl (fun d => ?_) (fun d => ?_)
  · have h := fg_if_t d h
    obtain ⟨q, q2⟩ := fg_ret h
    subst q
    subst q2
    exact hQ _ _ (cr_xt x_s4 x_s6) r_s6 F_s6
  · have h := fg_if_e d h
    refine ⟨(cr_k r_s6 (cr_atx (cr_atx f_o0 x_s4) x_s6)).trans (cf_k (a := 0) F_s6 rfl (by decide)), ?_⟩
    obtain ⟨A_a10, w_a10, f_a10⟩ := cr_aos (cr_r r_s6 (cr_atx (cr_atx f_o0 x_s4) x_s6) _) (cf_r (a := 0) (j := 8) (y := 8) F_s6 rfl)
    refine ⟨A_a10, w_a10, ?_⟩
    refine ⟨(cr_k r_s6 f_a10).trans (cf_k (a := 8) F_s6 rfl (by decide)), ?_⟩
    obtain ⟨p13, s12, e_s12, h⟩ := fg_b_s h
    refine ft_Jx4a65c_get_915e3 r_s6 F_s6 f_a10 e_s12 (fun b_s12 R_p13 S_s12 x_s12 r_s12 F_s12 f_p13 => ?_)
    obtain ⟨c, h⟩ := fg_g_s h
    refine ⟨cr_cast r_s12 f_p13 c, ?_⟩
    obtain ⟨a15, o_a15, h⟩ := fg_o_s h
    obtain ⟨A_a15, w_a15, f_a15⟩ := cr_aos f_p13 o_a15
    refine ⟨A_a15, w_a15, ?_⟩
    obtain ⟨c_a15_1, h⟩ := fg_g_s h
    refine ⟨(cr_k r_s12 f_a15).trans c_a15_1, ?_⟩
    obtain ⟨p18, s17, e_s17, h⟩ := fg_b_s h
    refine ft_X3_isThere r_s12 F_s12 f_a15 e_s17 (fun b_s17 S_s17 x_s17 r_s17 F_s17 => ?_)
    refine fg_ite Iff.rfl (fun d => ?_) (fun d => ?_)
    · have h := fg_if_t d h
      obtain ⟨q, q2⟩ := fg_ret h
      subst q
      subst q2
      exact hQ _ _ (cr_xt x_s4 (cr_xt x_s6 (cr_xt x_s12 x_s17))) r_s17 F_s17
    · have h := fg_if_e d h
      exact ⟨g_N, ft_X11_take_40 g_N r_s17 F_s17 (cr_atx (cr_atx (cr_atx (cr_atx f_o0 x_s4) x_s6) x_s12) x_s17) h (fun b2 S2 x2 => hQ b2 S2 (cr_xt (cr_xt x_s4 (cr_xt x_s6 (cr_xt x_s12 x_s17))) x2))⟩
set_option maxRecDepth 100000 in
set_option maxHeartbeats 4000000 in
theorem ft_X11_ofRight {E : h_S} {g : h_G} {r : Int32} {t : h_S} {Q : Int32 → h_S → Prop} {b : Nat → Nat} {s S_s : h_S} {A_o0 : Nat} {x1 : Int32} {x2 : Int32} (hR : c_R E g b s S_s) (hF : c_F s) (f_o0 : c_at b s 0 A_o0) (h : fn_X11_ofRight x1 x2 s = some (r, t)) (hQ : ∀ (b2 : Nat → Nat) (S2 : h_S), c_ext b s b2 t → c_R E g b2 t S2 → c_F t → Q r S2) : w_X11_ofRight A_o0 x1 x2 S_s Q := by
  unfold fn_X11_ofRight at h
  unfold w_X11_ofRight
  refine ⟨(cr_k hR f_o0).trans (cf_k (a := 0) hF rfl (by decide)), ?_⟩
  obtain ⟨A_a2, w_a2, f_a2⟩ := cr_aos (cr_r hR f_o0 _) (cf_r (a := 0) (j := 8) (y := 8) hF rfl)
  refine ⟨A_a2, w_a2, ?_⟩
  refine ⟨(cr_k hR f_a2).trans (cf_k (a := 8) hF rfl (by decide)), ?_⟩
  obtain ⟨p5, s4, e_s4, h⟩ := fg_b_s h
  refine ft_Jx4a65c_size_8abf5 hR hF f_a2 e_s4 (fun b_s4 S_s4 x_s4 r_s4 F_s4 => ?_)
  obtain ⟨p7, s6, e_s6, h⟩ := fg_b_s h
  refine ft_X11_within r_s4 F_s4 e_s6 (fun b_s6 S_s6 x_s6 r_s6 F_s6 => ?_)
  refine fg_ite Iff.rfl (fun d => ?_) (fun d => ?_)
  · have h := fg_if_t d h
    obtain ⟨q, q2⟩ := fg_ret h
    subst q
    subst q2
    exact hQ _ _ (cr_xt x_s4 x_s6) r_s6 F_s6
  · have h := fg_if_e d h
    refine ⟨(cr_k r_s6 (cr_atx (cr_atx f_o0 x_s4) x_s6)).trans (cf_k (a := 0) F_s6 rfl (by decide)), ?_⟩
    obtain ⟨A_a10, w_a10, f_a10⟩ := cr_aos (cr_r r_s6 (cr_atx (cr_atx f_o0 x_s4) x_s6) _) (cf_r (a := 0) (j := 8) (y := 8) F_s6 rfl)
    refine ⟨A_a10, w_a10, ?_⟩
    refine ⟨(cr_k r_s6 f_a10).trans (cf_k (a := 8) F_s6 rfl (by decide)), ?_⟩
    obtain ⟨p13, s12, e_s12, h⟩ := fg_b_s h
    refine ft_Jx4a65c_get_915e3 r_s6 F_s6 f_a10 e_s12 (fun b_s12 R_p13 S_s12 x_s12 r_s12 F_s12 f_p13 => ?_)
    obtain ⟨c, h⟩ := fg_g_s h
    refine ⟨cr_cast r_s12 f_p13 c, ?_⟩
    refine fg_ite Iff.rfl (fun d => ?_) (fun d => ?_)
    · have h := fg_if_t d h
      obtain ⟨a16, o_a16, h⟩ := fg_o_s h
      obtain ⟨A_a16, w_a16, f_a16⟩ := cr_aos f_p13 o_a16
      refine ⟨A_a16, w_a16, ?_⟩
      obtain ⟨c_a16_1, h⟩ := fg_g_s h
      refine ⟨(cr_k r_s12 f_a16).trans c_a16_1, ?_⟩
      try simp -zeta -zetaUnused only [cr_i r_s12 f_a16]
      obtain ⟨q, q2⟩ := fg_ret h
      subst q
      subst q2
      exact hQ _ _ (cr_xt x_s4 (cr_xt x_s6 x_s12)) r_s12 F_s12
    · have h := fg_if_e d h
      refine fg_ite Iff.rfl (fun d => ?_) (fun d => ?_)
      · have h := fg_if_t d h
        obtain ⟨a19, o_a19, h⟩ := fg_o_s h
        obtain ⟨A_a19, w_a19, f_a19⟩ := cr_aos f_p13 o_a19
        refine ⟨A_a19, w_a19, ?_⟩
        obtain ⟨c_a19_1, h⟩ := fg_g_s h
        refine ⟨(cr_k r_s12 f_a19).trans c_a19_1, ?_⟩
        try simp -zeta -zetaUnused only [cr_i r_s12 f_a19]
        obtain ⟨q, q2⟩ := fg_ret h
        subst q
        subst q2
        exact hQ _ _ (cr_xt x_s4 (cr_xt x_s6 x_s12)) r_s12 F_s12
      · have h := fg_if_e d h
        refine fg_ite Iff.rfl (fun d => ?_) (fun d => ?_)
        · have h := fg_if_t d h
          obtain ⟨a22, o_a22, h⟩ := fg_o_s h
          obtain ⟨A_a22, w_a22, f_a22⟩ := cr_aos f_p13 o_a22
          refine ⟨A_a22, w_a22, ?_⟩
          obtain ⟨c_a22_1, h⟩ := fg_g_s h
          refine ⟨(cr_k r_s12 f_a22).trans c_a22_1, ?_⟩
          try simp -zeta -zetaUnused only [cr_i r_s12 f_a22]
          obtain ⟨q, q2⟩ := fg_ret h
          subst q
          subst q2
          exact hQ _ _ (cr_xt x_s4 (cr_xt x_s6 x_s12)) r_s12 F_s12
        · have h := fg_if_e d h
          refine fg_ite Iff.rfl (fun d => ?_) (fun d => ?_)
          · have h := fg_if_t d h
            obtain ⟨a25, o_a25, h⟩ := fg_o_s h
            obtain ⟨A_a25, w_a25, f_a25⟩ := cr_aos f_p13 o_a25
            refine ⟨A_a25, w_a25, ?_⟩
            obtain ⟨c_a25_1, h⟩ := fg_g_s h
            refine ⟨(cr_k r_s12 f_a25).trans c_a25_1, ?_⟩
            try simp -zeta -zetaUnused only [cr_i r_s12 f_a25]
            obtain ⟨q, q2⟩ := fg_ret h
            subst q
            subst q2
            exact hQ _ _ (cr_xt x_s4 (cr_xt x_s6 x_s12)) r_s12 F_s12
          · have h := fg_if_e d h
            refine fg_ite Iff.rfl (fun d => ?_) (fun d => ?_)
            · have h := fg_if_t d h
              obtain ⟨a28, o_a28, h⟩ := fg_o_s h
              obtain ⟨A_a28, w_a28, f_a28⟩ := cr_aos f_p13 o_a28
              refine ⟨A_a28, w_a28, ?_⟩
              obtain ⟨c_a28_1, h⟩ := fg_g_s h
              refine ⟨(cr_k r_s12 f_a28).trans c_a28_1, ?_⟩
              try simp -zeta -zetaUnused only [cr_i r_s12 f_a28]
              obtain ⟨q, q2⟩ := fg_ret h
              subst q
              subst q2
              exact hQ _ _ (cr_xt x_s4 (cr_xt x_s6 x_s12)) r_s12 F_s12
            · have h := fg_if_e d h
              refine fg_ite Iff.rfl (fun d => ?_) (fun d => ?_)
              · have h := fg_if_t d h
                obtain ⟨a31, o_a31, h⟩ := fg_o_s h
                obtain ⟨A_a31, w_a31, f_a31⟩ := cr_aos f_p13 o_a31
                refine ⟨A_a31, w_a31, ?_⟩
                obtain ⟨c_a31_1, h⟩ := fg_g_s h
                refine ⟨(cr_k r_s12 f_a31).trans c_a31_1, ?_⟩
                try simp -zeta -zetaUnused only [cr_i r_s12 f_a31]
                obtain ⟨q, q2⟩ := fg_ret h
                subst q
                subst q2
                exact hQ _ _ (cr_xt x_s4 (cr_xt x_s6 x_s12)) r_s12 F_s12
              · have h := fg_if_e d h
                refine fg_ite Iff.rfl (fun d => ?_) (fun d => ?_)
                · have h := fg_if_t d h
                  obtain ⟨a34, o_a34, h⟩ := fg_o_s h
                  obtain ⟨A_a34, w_a34, f_a34⟩ := cr_aos f_p13 o_a34
                  refine ⟨A_a34, w_a34, ?_⟩
                  obtain ⟨c_a34_1, h⟩ := fg_g_s h
                  refine ⟨(cr_k r_s12 f_a34).trans c_a34_1, ?_⟩
                  obtain ⟨p37, s36, e_s36, h⟩ := fg_b_s h
                  refine ft_X3_isThere r_s12 F_s12 f_a34 e_s36 (fun b_s36 S_s36 x_s36 r_s36 F_s36 => ?_)
                  refine fg_ite Iff.rfl (fun d => ?_) (fun d => ?_)
                  · have h := fg_if_t d h
                    unfold w_X11_ofRight_114
                    obtain ⟨q, q2⟩ := fg_ret h
                    subst q
                    subst q2
                    exact hQ _ _ (cr_xt x_s4 (cr_xt x_s6 (cr_xt x_s12 x_s36))) r_s36 F_s36
                  · have h := fg_if_e d h
                    unfold w_X11_ofRight_114
                    obtain ⟨q, q2⟩ := fg_ret h
                    subst q
                    subst q2
                    exact hQ _ _ (cr_xt x_s4 (cr_xt x_s6 (cr_xt x_s12 x_s36))) r_s36 F_s36
                · have h := fg_if_e d h
                  obtain ⟨q, q2⟩ := fg_ret h
                  subst q
                  subst q2
                  exact hQ _ _ (cr_xt x_s4 (cr_xt x_s6 x_s12)) r_s12 F_s12
set_option maxRecDepth 100000 in
set_option maxHeartbeats 4000000 in
theorem ft_X11_may {E : h_S} {g : h_G} {r : Int32} {t : h_S} {Q : Int32 → h_S → Prop} {b : Nat → Nat} {s S_s : h_S} {A_o0 : Nat} {x1 : Int32} {x2 : Int32} {x3 : Int32} {x4 : Int32} (hR : c_R E g b s S_s) (hF : c_F s) (f_o0 : c_at b s 0 A_o0) (h : fn_X11_may x1 x2 x3 x4 s = some (r, t)) (hQ : ∀ (b2 : Nat → Nat) (S2 : h_S), c_ext b s b2 t → c_R E g b2 t S2 → c_F t → Q r S2) : w_X11_may A_o0 x1 x2 x3 x4 S_s Q := by
  unfold fn_X11_may at h
  unfold w_X11_may
  refine ⟨(cr_k hR f_o0).trans (cf_k (a := 0) hF rfl (by decide)), ?_⟩
  obtain ⟨p3, s2, e_s2, h⟩ := fg_b_s h
  refine ft_X11_isHand hR hF f_o0 e_s2 (fun b_s2 S_s2 x_s2 r_s2 F_s2 => ?_)
  refine fg_ite Iff.rfl (fun d => ?_) (fun d => ?_)
  · have h := fg_if_t d h
    unfold w_X11_may_25
    obtain ⟨q, q2⟩ := fg_ret h
    subst q
    subst q2
    exact hQ _ _ x_s2 r_s2 F_s2
  · have h := fg_if_e d h
    refine ⟨(cr_k r_s2 (cr_atx f_o0 x_s2)).trans (cf_k (a := 0) F_s2 rfl (by decide)), ?_⟩
    obtain ⟨p7, s6, e_s6, h⟩ := fg_b_s h
    refine ft_X11_isWriting r_s2 F_s2 (cr_atx f_o0 x_s2) e_s6 (fun b_s6 S_s6 x_s6 r_s6 F_s6 => ?_)
    refine fg_ite Iff.rfl (fun d => ?_) (fun d => ?_)
    · have h := fg_if_t d h
      unfold w_X11_may_25
      obtain ⟨q, q2⟩ := fg_ret h
      subst q
      subst q2
      exact hQ _ _ (cr_xt x_s2 x_s6) r_s6 F_s6
    · have h := fg_if_e d h
      refine ⟨(cr_k r_s6 (cr_atx (cr_atx f_o0 x_s2) x_s6)).trans (cf_k (a := 0) F_s6 rfl (by decide)), ?_⟩
      obtain ⟨p11, s10, e_s10, h⟩ := fg_b_s h
      refine ft_X11_isMoment r_s6 F_s6 (cr_atx (cr_atx f_o0 x_s2) x_s6) e_s10 (fun b_s10 S_s10 x_s10 r_s10 F_s10 => ?_)
      refine fg_ite Iff.rfl (fun d => ?_) (fun d => ?_)
      · have h := fg_if_t d h
        unfold w_X11_may_25
        obtain ⟨q, q2⟩ := fg_ret h
        subst q
        subst q2
        exact hQ _ _ (cr_xt x_s2 (cr_xt x_s6 x_s10)) r_s10 F_s10
      · have h := fg_if_e d h
        obtain ⟨p14, s13, e_s13, h⟩ := fg_b_s h
        refine ft_X11_within r_s10 F_s10 e_s13 (fun b_s13 S_s13 x_s13 r_s13 F_s13 => ?_)
        refine fg_ite Iff.rfl (fun d => ?_) (fun d => ?_)
        · have h := fg_if_t d h
          obtain ⟨q, q2⟩ := fg_ret h
          subst q
          subst q2
          exact hQ _ _ (cr_xt x_s2 (cr_xt x_s6 (cr_xt x_s10 x_s13))) r_s13 F_s13
        · have h := fg_if_e d h
          refine ⟨(cr_k r_s13 (cr_atx (cr_atx (cr_atx (cr_atx f_o0 x_s2) x_s6) x_s10) x_s13)).trans (cf_k (a := 0) F_s13 rfl (by decide)), ?_⟩
          obtain ⟨p18, s17, e_s17, h⟩ := fg_b_s h
          refine ft_X11_mayUse r_s13 F_s13 (cr_atx (cr_atx (cr_atx (cr_atx f_o0 x_s2) x_s6) x_s10) x_s13) e_s17 (fun b_s17 S_s17 x_s17 r_s17 F_s17 => ?_)
          refine fg_ite Iff.rfl (fun d => ?_) (fun d => ?_)
          · have h := fg_if_t d h
            unfold w_X11_may_55
            obtain ⟨q, q2⟩ := fg_ret h
            subst q
            subst q2
            exact hQ _ _ (cr_xt x_s2 (cr_xt x_s6 (cr_xt x_s10 (cr_xt x_s13 x_s17)))) r_s17 F_s17
          · have h := fg_if_e d h
            unfold w_X11_may_55
            obtain ⟨q, q2⟩ := fg_ret h
            subst q
            subst q2
            exact hQ _ _ (cr_xt x_s2 (cr_xt x_s6 (cr_xt x_s10 (cr_xt x_s13 x_s17)))) r_s17 F_s17
set_option maxRecDepth 100000 in
set_option maxHeartbeats 4000000 in
theorem ft_X11_why {E : h_S} {g : h_G} {r : Int32} {t : h_S} {Q : Int32 → h_S → Prop} {b : Nat → Nat} {s S_s : h_S} {A_o0 : Nat} {x1 : Int32} {x2 : Int32} {x3 : Int32} {x4 : Int32} (hR : c_R E g b s S_s) (hF : c_F s) (f_o0 : c_at b s 0 A_o0) (h : fn_X11_why x1 x2 x3 x4 s = some (r, t)) (hQ : ∀ (b2 : Nat → Nat) (S2 : h_S), c_ext b s b2 t → c_R E g b2 t S2 → c_F t → Q r S2) : w_X11_why A_o0 x1 x2 x3 x4 S_s Q := by
  unfold fn_X11_why at h
  unfold w_X11_why
  refine ⟨(cr_k hR f_o0).trans (cf_k (a := 0) hF rfl (by decide)), ?_⟩
  obtain ⟨p3, s2, e_s2, h⟩ := fg_b_s h
  refine ft_X11_isHand hR hF f_o0 e_s2 (fun b_s2 S_s2 x_s2 r_s2 F_s2 => ?_)
  refine fg_ite Iff.rfl (fun d => ?_) (fun d => ?_)
  · have h := fg_if_t d h
    unfold w_X11_why_25
    obtain ⟨q, q2⟩ := fg_ret h
    subst q
    subst q2
    exact hQ _ _ x_s2 r_s2 F_s2
  · have h := fg_if_e d h
    refine ⟨(cr_k r_s2 (cr_atx f_o0 x_s2)).trans (cf_k (a := 0) F_s2 rfl (by decide)), ?_⟩
    obtain ⟨p7, s6, e_s6, h⟩ := fg_b_s h
    refine ft_X11_isWriting r_s2 F_s2 (cr_atx f_o0 x_s2) e_s6 (fun b_s6 S_s6 x_s6 r_s6 F_s6 => ?_)
    refine fg_ite Iff.rfl (fun d => ?_) (fun d => ?_)
    · have h := fg_if_t d h
      unfold w_X11_why_25
      obtain ⟨q, q2⟩ := fg_ret h
      subst q
      subst q2
      exact hQ _ _ (cr_xt x_s2 x_s6) r_s6 F_s6
    · have h := fg_if_e d h
      refine ⟨(cr_k r_s6 (cr_atx (cr_atx f_o0 x_s2) x_s6)).trans (cf_k (a := 0) F_s6 rfl (by decide)), ?_⟩
      obtain ⟨p11, s10, e_s10, h⟩ := fg_b_s h
      refine ft_X11_isMoment r_s6 F_s6 (cr_atx (cr_atx f_o0 x_s2) x_s6) e_s10 (fun b_s10 S_s10 x_s10 r_s10 F_s10 => ?_)
      refine fg_ite Iff.rfl (fun d => ?_) (fun d => ?_)
      · have h := fg_if_t d h
        unfold w_X11_why_25
        obtain ⟨q, q2⟩ := fg_ret h
        subst q
        subst q2
        exact hQ _ _ (cr_xt x_s2 (cr_xt x_s6 x_s10)) r_s10 F_s10
      · have h := fg_if_e d h
        obtain ⟨p14, s13, e_s13, h⟩ := fg_b_s h
        refine ft_X11_within r_s10 F_s10 e_s13 (fun b_s13 S_s13 x_s13 r_s13 F_s13 => ?_)
        refine fg_ite Iff.rfl (fun d => ?_) (fun d => ?_)
        · have h := fg_if_t d h
          obtain ⟨q, q2⟩ := fg_ret h
          subst q
          subst q2
          exact hQ _ _ (cr_xt x_s2 (cr_xt x_s6 (cr_xt x_s10 x_s13))) r_s13 F_s13
        · have h := fg_if_e d h
          refine ⟨(cr_k r_s13 (cr_atx (cr_atx (cr_atx (cr_atx f_o0 x_s2) x_s6) x_s10) x_s13)).trans (cf_k (a := 0) F_s13 rfl (by decide)), ?_⟩
          obtain ⟨p18, s17, e_s17, h⟩ := fg_b_s h
          refine ft_X11_reason r_s13 F_s13 (cr_atx (cr_atx (cr_atx (cr_atx f_o0 x_s2) x_s6) x_s10) x_s13) e_s17 (fun b_s17 S_s17 x_s17 r_s17 F_s17 => ?_)
          obtain ⟨q, q2⟩ := fg_ret h
          subst q
          subst q2
          exact hQ _ _ (cr_xt x_s2 (cr_xt x_s6 (cr_xt x_s10 (cr_xt x_s13 x_s17)))) r_s17 F_s17
set_option maxRecDepth 100000 in
set_option maxHeartbeats 4000000 in
theorem ft_X11_openHomes_49 {E : h_S} {g : h_G} {r : Int32} {t : h_S} {Q : Int32 → h_S → Prop} {b : Nat → Nat} {s S_s : h_S} {A_o0 : Nat} {x1 : Int32} {x3 : Int32} (hR : c_R E g b s S_s) (hF : c_F s) (f_o0 : c_at b s 0 A_o0) (h : fn_X11_openHomes_49 x1 x3 s = some (r, t)) (hQ : ∀ (b2 : Nat → Nat) (S2 : h_S), c_ext b s b2 t → c_R E g b2 t S2 → c_F t → Q r S2) : w_X11_openHomes_49 Q A_o0 x1 x3 S_s := by
  unfold fn_X11_openHomes_49 at h
  unfold w_X11_openHomes_49
  refine ⟨(cr_k hR f_o0).trans (cf_k (a := 0) hF rfl (by decide)), ?_⟩
  obtain ⟨p3, s2, e_s2, h⟩ := fg_b_s h
  refine ft_X11_usable hR hF f_o0 e_s2 (fun b_s2 S_s2 x_s2 r_s2 F_s2 => ?_)
  obtain ⟨q, q2⟩ := fg_ret h
  subst q
  subst q2
  exact hQ _ _ x_s2 r_s2 F_s2
set_option maxRecDepth 100000 in
set_option maxHeartbeats 4000000 in
theorem ft_X11_openHomes_20 {E : h_S} {g : h_G} {r : Int32} {t : h_S} {Q : Int32 → h_S → Prop} {b : Nat → Nat} {s S_s : h_S} {A_o0 : Nat} {x1 : Int32} {r2 : Option Nat} {R_r2 : Option Nat} {x3 : Int32} {y0 : Int32} (hR : c_R E g b s S_s) (hF : c_F s) (f_o0 : c_at b s 0 A_o0) (f_r2 : c_ao b s r2 R_r2) (h : fn_X11_openHomes_20 x1 r2 x3 y0 s = some (r, t)) (hQ : ∀ (b2 : Nat → Nat) (S2 : h_S), c_ext b s b2 t → c_R E g b2 t S2 → c_F t → Q r S2) : w_X11_openHomes_20 Q A_o0 x1 R_r2 x3 y0 S_s := by
  unfold fn_X11_openHomes_20 at h
  unfold w_X11_openHomes_20
  refine fg_ite Iff.rfl (fun d => ?_) (fun d => ?_)
  · have h := fg_if_t d h
    obtain ⟨a2, o_a2, h⟩ := fg_o_s h
    obtain ⟨A_a2, w_a2, f_a2⟩ := cr_aos f_r2 o_a2
    refine ⟨A_a2, w_a2, ?_⟩
    obtain ⟨c_a2_1, h⟩ := fg_g_s h
    refine ⟨(cr_k hR f_a2).trans c_a2_1, ?_⟩
    obtain ⟨p5, s4, e_s4, h⟩ := fg_b_s h
    refine ft_X8_isGivenAt hR hF f_a2 e_s4 (fun b_s4 S_s4 x_s4 r_s4 F_s4 => ?_)
    refine fg_ite Iff.rfl (fun d => ?_) (fun d => ?_)
    · have h := fg_if_t d h
      unfold w_X11_openHomes_57
      obtain ⟨q, q2⟩ := fg_ret h
      subst q
      subst q2
      exact hQ _ _ x_s4 r_s4 F_s4
    · have h := fg_if_e d h
      obtain ⟨a7, o_a7, h⟩ := fg_o_s h
      obtain ⟨A_a7, w_a7, f_a7⟩ := cr_aos f_r2 o_a7
      refine ⟨A_a7, w_a7, ?_⟩
      obtain ⟨c_a7_2, h⟩ := fg_g_s h
      refine ⟨(cr_k r_s4 (cr_atx f_a7 x_s4)).trans c_a7_2, ?_⟩
      refine ⟨(cr_k r_s4 (cr_atx f_o0 x_s4)).trans (cf_k (a := 0) F_s4 rfl (by decide)), ?_⟩
      try simp -zeta -zetaUnused only [cr_i r_s4 (cr_atx f_a7 x_s4)]
      obtain ⟨p11, s10, e_s10, h⟩ := fg_b_s h
      refine ft_X11_mayUse r_s4 F_s4 (cr_atx f_o0 x_s4) e_s10 (fun b_s10 S_s10 x_s10 r_s10 F_s10 => ?_)
      refine fg_ite Iff.rfl (fun d => ?_) (fun d => ?_)
      · have h := fg_if_t d h
        unfold w_X11_openHomes_57
        obtain ⟨q, q2⟩ := fg_ret h
        subst q
        subst q2
        exact hQ _ _ (cr_xt x_s4 x_s10) r_s10 F_s10
      · have h := fg_if_e d h
        exact ft_X11_openHomes_49 r_s10 F_s10 (cr_atx (cr_atx f_o0 x_s4) x_s10) h (fun b2 S2 x2 => hQ b2 S2 (cr_xt (cr_xt x_s4 x_s10) x2))
  · have h := fg_if_e d h
    exact ft_X11_openHomes_49 hR hF f_o0 h (fun b2 S2 x2 => hQ b2 S2 (cr_xt cr_xr x2))
set_option maxRecDepth 100000 in
set_option maxHeartbeats 4000000 in
theorem ft_X11_openHomes {E : h_S} {g : h_G} {r : Int32} {t : h_S} {Q : Int32 → h_S → Prop} {b : Nat → Nat} {s S_s : h_S} {A_o0 : Nat} {x1 : Int32} {r2 : Option Nat} {R_r2 : Option Nat} {x3 : Int32} (hR : c_R E g b s S_s) (hF : c_F s) (f_o0 : c_at b s 0 A_o0) (f_r2 : c_ao b s r2 R_r2) (h : fn_X11_openHomes x1 r2 x3 s = some (r, t)) (hQ : ∀ (b2 : Nat → Nat) (S2 : h_S), c_ext b s b2 t → c_R E g b2 t S2 → c_F t → Q r S2) : w_X11_openHomes A_o0 x1 R_r2 x3 S_s Q := by
  unfold fn_X11_openHomes at h
  unfold w_X11_openHomes
  refine ⟨(cr_k hR f_o0).trans (cf_k (a := 0) hF rfl (by decide)), ?_⟩
  obtain ⟨a2, o_a2, h⟩ := fg_o_s h
  obtain ⟨A_a2, w_a2, f_a2⟩ := cr_aos f_r2 o_a2
  refine ⟨A_a2, w_a2, ?_⟩
  obtain ⟨c_a2_1, h⟩ := fg_g_s h
  refine ⟨(cr_k hR f_a2).trans c_a2_1, ?_⟩
  obtain ⟨A_a4, w_a4, f_a4⟩ := cr_aos (cr_r hR f_o0 _) (cf_r (a := 0) (j := 4) (y := 3) hF rfl)
  refine ⟨A_a4, w_a4, ?_⟩
  refine ⟨(cr_k hR f_a4).trans (cf_k (a := 3) hF rfl (by decide)), ?_⟩
  try simp -zeta -zetaUnused only [cr_i hR f_a2]
  obtain ⟨p7, s6, e_s6, h⟩ := fg_b_s h
  refine ft_X7_ownerOf hR hF f_a4 e_s6 (fun b_s6 S_s6 x_s6 r_s6 F_s6 => ?_)
  refine fg_ite Iff.rfl (fun d => ?_) (fun d => ?_)
  · have h := fg_if_t d h
    exact ft_X11_openHomes_20 r_s6 F_s6 (cr_atx f_o0 x_s6) (cr_aox f_r2 x_s6) h (fun b2 S2 x2 => hQ b2 S2 (cr_xt x_s6 x2))
  · have h := fg_if_e d h
    exact ft_X11_openHomes_20 r_s6 F_s6 (cr_atx f_o0 x_s6) (cr_aox f_r2 x_s6) h (fun b2 S2 x2 => hQ b2 S2 (cr_xt x_s6 x2))
set_option maxRecDepth 100000 in
set_option maxHeartbeats 4000000 in
theorem ft_X11_view {E : h_S} {g : h_G} {r : Int32} {t : h_S} {Q : Int32 → h_S → Prop} {b : Nat → Nat} {s S_s : h_S} {A_o0 : Nat} {x1 : Int32} {x2 : Int32} {x3 : Int32} {x4 : Int32} (hR : c_R E g b s S_s) (hF : c_F s) (f_o0 : c_at b s 0 A_o0) (h : fn_X11_view x1 x2 x3 x4 s = some (r, t)) (hQ : ∀ (b2 : Nat → Nat) (S2 : h_S), c_ext b s b2 t → c_R E g b2 t S2 → c_F t → Q r S2) : w_X11_view A_o0 x1 x2 x3 x4 S_s Q := by
  unfold fn_X11_view at h
  unfold w_X11_view
  refine ⟨(cr_k hR f_o0).trans (cf_k (a := 0) hF rfl (by decide)), ?_⟩
  obtain ⟨p3, s2, e_s2, h⟩ := fg_b_s h
  refine ft_X11_versionAt hR hF f_o0 e_s2 (fun b_s2 R_p3 S_s2 x_s2 r_s2 F_s2 f_p3 => ?_)
  refine ⟨(cr_k r_s2 (cr_atx f_o0 x_s2)).trans (cf_k (a := 0) F_s2 rfl (by decide)), ?_⟩
  obtain ⟨p6, s5, e_s5, h⟩ := fg_b_s h
  refine ft_X11_isHand r_s2 F_s2 (cr_atx f_o0 x_s2) e_s5 (fun b_s5 S_s5 x_s5 r_s5 F_s5 => ?_)
  refine fg_ite Iff.rfl (fun d => ?_) (fun d => ?_)
  · have h := fg_if_t d h
    unfold w_X11_view_42
    obtain ⟨q, q2⟩ := fg_ret h
    subst q
    subst q2
    exact hQ _ _ (cr_xt x_s2 x_s5) r_s5 F_s5
  · have h := fg_if_e d h
    refine fg_ite (cr_isn (cr_aox f_p3 x_s5)) (fun d => ?_) (fun d => ?_)
    · have h := fg_if_t d h
      unfold w_X11_view_42
      obtain ⟨q, q2⟩ := fg_ret h
      subst q
      subst q2
      exact hQ _ _ (cr_xt x_s2 x_s5) r_s5 F_s5
    · have h := fg_if_e d h
      obtain ⟨a9, o_a9, h⟩ := fg_o_s h
      obtain ⟨A_a9, w_a9, f_a9⟩ := cr_aos f_p3 o_a9
      refine ⟨A_a9, w_a9, ?_⟩
      obtain ⟨c_a9_1, h⟩ := fg_g_s h
      refine ⟨(cr_k r_s5 (cr_atx f_a9 x_s5)).trans c_a9_1, ?_⟩
      obtain ⟨a11, o_a11, h⟩ := fg_o_s h
      obtain ⟨A_a11, w_a11, f_a11⟩ := cr_aos (cr_r r_s5 (cr_atx f_a9 x_s5) _) o_a11
      refine ⟨A_a11, w_a11, ?_⟩
      obtain ⟨c_a11_2, h⟩ := fg_g_s h
      refine ⟨(cr_k r_s5 f_a11).trans c_a11_2, ?_⟩
      try simp -zeta -zetaUnused only [cr_n r_s5 f_a11]
      obtain ⟨p14, s13, e_s13, h⟩ := fg_b_s h
      refine ft_X11_within r_s5 F_s5 e_s13 (fun b_s13 S_s13 x_s13 r_s13 F_s13 => ?_)
      refine fg_ite Iff.rfl (fun d => ?_) (fun d => ?_)
      · have h := fg_if_t d h
        unfold w_X11_view_42
        obtain ⟨q, q2⟩ := fg_ret h
        subst q
        subst q2
        exact hQ _ _ (cr_xt x_s2 (cr_xt x_s5 x_s13)) r_s13 F_s13
      · have h := fg_if_e d h
        refine ⟨(cr_k r_s13 (cr_atx (cr_atx (cr_atx f_o0 x_s2) x_s5) x_s13)).trans (cf_k (a := 0) F_s13 rfl (by decide)), ?_⟩
        obtain ⟨p18, s17, e_s17, h⟩ := fg_b_s h
        refine ft_X11_isMoment r_s13 F_s13 (cr_atx (cr_atx (cr_atx f_o0 x_s2) x_s5) x_s13) e_s17 (fun b_s17 S_s17 x_s17 r_s17 F_s17 => ?_)
        refine fg_ite Iff.rfl (fun d => ?_) (fun d => ?_)
        · have h := fg_if_t d h
          unfold w_X11_view_42
          obtain ⟨q, q2⟩ := fg_ret h
          subst q
          subst q2
          exact hQ _ _ (cr_xt x_s2 (cr_xt x_s5 (cr_xt x_s13 x_s17))) r_s17 F_s17
        · have h := fg_if_e d h
          obtain ⟨a20, o_a20, h⟩ := fg_o_s h
          obtain ⟨A_a20, w_a20, f_a20⟩ := cr_aos f_p3 o_a20
          refine ⟨A_a20, w_a20, ?_⟩
          obtain ⟨c_a20_3, h⟩ := fg_g_s h
          refine ⟨(cr_k r_s17 (cr_atx (cr_atx (cr_atx f_a20 x_s5) x_s13) x_s17)).trans c_a20_3, ?_⟩
          try simp -zeta -zetaUnused only [cr_i r_s17 (cr_atx (cr_atx (cr_atx f_a20 x_s5) x_s13) x_s17)]
          refine fg_ite Iff.rfl (fun d => ?_) (fun d => ?_)
          · have h := fg_if_t d h
            refine ⟨(cr_k r_s17 (cr_atx (cr_atx (cr_atx (cr_atx f_o0 x_s2) x_s5) x_s13) x_s17)).trans (cf_k (a := 0) F_s17 rfl (by decide)), ?_⟩
            obtain ⟨p25, s24, e_s24, h⟩ := fg_b_s h
            refine ft_X11_openHomes r_s17 F_s17 (cr_atx (cr_atx (cr_atx (cr_atx f_o0 x_s2) x_s5) x_s13) x_s17) (cr_aox (cr_aox (cr_aox f_p3 x_s5) x_s13) x_s17) e_s24 (fun b_s24 S_s24 x_s24 r_s24 F_s24 => ?_)
            obtain ⟨a26, o_a26, h⟩ := fg_o_s h
            obtain ⟨A_a26, w_a26, f_a26⟩ := cr_aos f_p3 o_a26
            refine ⟨A_a26, w_a26, ?_⟩
            obtain ⟨c_a26_4, h⟩ := fg_g_s h
            refine ⟨(cr_k r_s24 (cr_atx (cr_atx (cr_atx (cr_atx f_a26 x_s5) x_s13) x_s17) x_s24)).trans c_a26_4, ?_⟩
            obtain ⟨a28, o_a28, h⟩ := fg_o_s h
            obtain ⟨A_a28, w_a28, f_a28⟩ := cr_aos (cr_r r_s24 (cr_atx (cr_atx (cr_atx (cr_atx f_a26 x_s5) x_s13) x_s17) x_s24) _) o_a28
            refine ⟨A_a28, w_a28, ?_⟩
            obtain ⟨c_a28_5, h⟩ := fg_g_s h
            refine ⟨(cr_k r_s24 f_a28).trans c_a28_5, ?_⟩
            obtain ⟨c, h⟩ := fg_g_s h
            refine ⟨cr_vp (cr_n r_s24 f_a28) rfl c, ?_⟩
            refine ⟨(cr_k r_s24 (cr_atx (cr_atx (cr_atx (cr_atx (cr_atx f_o0 x_s2) x_s5) x_s13) x_s17) x_s24)).trans (cf_k (a := 0) F_s24 rfl (by decide)), ?_⟩
            obtain ⟨A_a32, w_a32, f_a32⟩ := cr_aos (cr_r r_s24 (cr_atx (cr_atx (cr_atx (cr_atx (cr_atx f_o0 x_s2) x_s5) x_s13) x_s17) x_s24) _) (cf_r (a := 0) (j := 4) (y := 3) F_s24 rfl)
            refine ⟨A_a32, w_a32, ?_⟩
            refine ⟨(cr_k r_s24 f_a32).trans (cf_k (a := 3) F_s24 rfl (by decide)), ?_⟩
            try simp -zeta -zetaUnused only [cr_i r_s24 f_a28]
            obtain ⟨p35, s34, e_s34, h⟩ := fg_b_s h
            refine ft_X7_isIn r_s24 F_s24 f_a32 e_s34 (fun b_s34 S_s34 x_s34 r_s34 F_s34 => ?_)
            refine fg_ite Iff.rfl (fun d => ?_) (fun d => ?_)
            · have h := fg_if_t d h
              unfold w_X11_view_98
              obtain ⟨q, q2⟩ := fg_ret h
              subst q
              subst q2
              exact hQ _ _ (cr_xt x_s2 (cr_xt x_s5 (cr_xt x_s13 (cr_xt x_s17 (cr_xt x_s24 x_s34))))) r_s34 F_s34
            · have h := fg_if_e d h
              unfold w_X11_view_98
              obtain ⟨q, q2⟩ := fg_ret h
              subst q
              subst q2
              exact hQ _ _ (cr_xt x_s2 (cr_xt x_s5 (cr_xt x_s13 (cr_xt x_s17 (cr_xt x_s24 x_s34))))) r_s34 F_s34
          · have h := fg_if_e d h
            obtain ⟨q, q2⟩ := fg_ret h
            subst q
            subst q2
            exact hQ _ _ (cr_xt x_s2 (cr_xt x_s5 (cr_xt x_s13 x_s17))) r_s17 F_s17
set_option maxRecDepth 100000 in
set_option maxHeartbeats 4000000 in
theorem ft_X11_rule {E : h_S} {g : h_G} {r : Int32} {t : h_S} {Q : Int32 → h_S → Prop} {b : Nat → Nat} {s S_s : h_S} {A_o0 : Nat} {x1 : Int32} {x2 : Int32} (hR : c_R E g b s S_s) (hF : c_F s) (f_o0 : c_at b s 0 A_o0) (h : fn_X11_rule x1 x2 s = some (r, t)) (hQ : ∀ (b2 : Nat → Nat) (S2 : h_S), c_ext b s b2 t → c_R E g b2 t S2 → c_F t → Q r S2) : w_X11_rule A_o0 x1 x2 S_s Q := by
  unfold fn_X11_rule at h
  unfold w_X11_rule
  obtain ⟨p2, s1, e_s1, h⟩ := fg_b_s h
  refine ft_X11_within hR hF e_s1 (fun b_s1 S_s1 x_s1 r_s1 F_s1 => ?_)
  refine fg_ite Iff.rfl (fun d => ?_) (fun d => ?_)
  · have h := fg_if_t d h
    unfold w_X11_rule_18
    obtain ⟨q, q2⟩ := fg_ret h
    subst q
    subst q2
    exact hQ _ _ x_s1 r_s1 F_s1
  · have h := fg_if_e d h
    obtain ⟨p5, s4, e_s4, h⟩ := fg_b_s h
    refine ft_X11_within r_s1 F_s1 e_s4 (fun b_s4 S_s4 x_s4 r_s4 F_s4 => ?_)
    refine fg_ite Iff.rfl (fun d => ?_) (fun d => ?_)
    · have h := fg_if_t d h
      unfold w_X11_rule_18
      obtain ⟨q, q2⟩ := fg_ret h
      subst q
      subst q2
      exact hQ _ _ (cr_xt x_s1 x_s4) r_s4 F_s4
    · have h := fg_if_e d h
      refine ⟨(cr_k r_s4 (cr_atx (cr_atx f_o0 x_s1) x_s4)).trans (cf_k (a := 0) F_s4 rfl (by decide)), ?_⟩
      obtain ⟨s8, e_s8, h⟩ := fg_let_s h
      intro S_s8
      have r_s8 : c_R E g b_s4 s8 S_s8 := by rw [e_s8]; exact cr_si r_s4 (cr_atx (cr_atx f_o0 x_s1) x_s4) _ _
      have F_s8 : c_F s8 := by rw [e_s8]; exact cf_si F_s4 _ _
      have x_s8 : c_ext b_s4 s4 b_s4 s8 := by rw [e_s8]; exact cx_si _ _
      clear_value S_s8
      try simp -zeta -zetaUnused only [cr_i r_s4 (cr_atx (cr_atx f_o0 x_s1) x_s4)]
      obtain ⟨p10, s9, e_s9, h⟩ := fg_b_s h
      refine ft_X11_acted r_s8 F_s8 (cr_atx (cr_atx (cr_atx f_o0 x_s1) x_s4) x_s8) e_s9 (fun b_s9 S_s9 x_s9 r_s9 F_s9 => ?_)
      obtain ⟨q, q2⟩ := fg_ret h
      subst q
      subst q2
      exact hQ _ _ (cr_xt x_s1 (cr_xt x_s4 (cr_xt x_s8 x_s9))) r_s9 F_s9
set_option maxRecDepth 100000 in
set_option maxHeartbeats 4000000 in
theorem ft_X11_owe_59 {E : h_S} {g : h_G} {r : Int32} {t : h_S} {Q : Int32 → h_S → Prop} {b : Nat → Nat} {s S_s : h_S} {A_o0 : Nat} {x1 : Int32} {x2 : Int32} {x3 : Int32} {x4 : Int32} {y0 : Int32} (hR : c_R E g b s S_s) (hF : c_F s) (f_o0 : c_at b s 0 A_o0) (h : fn_X11_owe_59 x1 x2 x3 x4 y0 s = some (r, t)) (hQ : ∀ (b2 : Nat → Nat) (S2 : h_S), c_ext b s b2 t → c_R E g b2 t S2 → c_F t → Q r S2) : w_X11_owe_59 Q A_o0 x1 x2 x3 x4 y0 S_s := by
  unfold fn_X11_owe_59 at h
  unfold w_X11_owe_59
  refine ⟨(cr_k hR f_o0).trans (cf_k (a := 0) hF rfl (by decide)), ?_⟩
  obtain ⟨A_a2, w_a2, f_a2⟩ := cr_aos (cr_r hR f_o0 _) (cf_r (a := 0) (j := 11) (y := 11) hF rfl)
  refine ⟨A_a2, w_a2, ?_⟩
  refine ⟨(cr_k hR f_a2).trans (cf_k (a := 11) hF rfl (by decide)), ?_⟩
  obtain ⟨c, h⟩ := fg_g_s h
  refine ⟨cr_vp (cr_n hR f_a2) (cf_n (a := 11) hF rfl (by decide) rfl) c, ?_⟩
  obtain ⟨A_a5, w_a5, f_a5⟩ := cr_aos (cr_r hR f_o0 _) (cf_r (a := 0) (j := 11) (y := 11) hF rfl)
  refine ⟨A_a5, w_a5, ?_⟩
  refine ⟨(cr_k hR f_a5).trans (cf_k (a := 11) hF rfl (by decide)), ?_⟩
  obtain ⟨c, h⟩ := fg_g_s h
  refine ⟨cr_vp (cr_n hR f_a5) (cf_n (a := 11) hF rfl (by decide) rfl) c, ?_⟩
  try simp -zeta -zetaUnused only [cr_i hR f_a2]
  obtain ⟨s8, e_s8, h⟩ := fg_let_s h
  intro S_s8
  have r_s8 : c_R E g b s8 S_s8 := by rw [e_s8]; exact cr_si hR f_a5 _ _
  have F_s8 : c_F s8 := by rw [e_s8]; exact cf_si hF _ _
  have x_s8 : c_ext b s b s8 := by rw [e_s8]; exact cx_si _ _
  clear_value S_s8
  obtain ⟨A_a9, w_a9, f_a9⟩ := cr_aos (cr_r r_s8 (cr_atx f_o0 x_s8) _) (cf_r (a := 0) (j := 11) (y := 11) F_s8 rfl)
  refine ⟨A_a9, w_a9, ?_⟩
  refine ⟨(cr_k r_s8 f_a9).trans (cf_k (a := 11) F_s8 rfl (by decide)), ?_⟩
  obtain ⟨c, h⟩ := fg_g_s h
  refine ⟨cr_vp (cr_n r_s8 f_a9) (cf_n (a := 11) F_s8 rfl (by decide) rfl) c, ?_⟩
  obtain ⟨A_a12, w_a12, f_a12⟩ := cr_aos (cr_r r_s8 (cr_atx f_o0 x_s8) _) (cf_r (a := 0) (j := 11) (y := 11) F_s8 rfl)
  refine ⟨A_a12, w_a12, ?_⟩
  refine ⟨(cr_k r_s8 f_a12).trans (cf_k (a := 11) F_s8 rfl (by decide)), ?_⟩
  obtain ⟨c, h⟩ := fg_g_s h
  refine ⟨cr_vp (cr_n r_s8 f_a12) (cf_n (a := 11) F_s8 rfl (by decide) rfl) c, ?_⟩
  try simp -zeta -zetaUnused only [cr_i r_s8 f_a9]
  obtain ⟨s15, e_s15, h⟩ := fg_let_s h
  intro S_s15
  have r_s15 : c_R E g b s15 S_s15 := by rw [e_s15]; exact cr_si r_s8 f_a12 _ _
  have F_s15 : c_F s15 := by rw [e_s15]; exact cf_si F_s8 _ _
  have x_s15 : c_ext b s8 b s15 := by rw [e_s15]; exact cx_si _ _
  clear_value S_s15
  obtain ⟨q, q2⟩ := fg_ret h
  subst q
  subst q2
  exact hQ _ _ (cr_xt x_s8 x_s15) r_s15 F_s15
set_option maxRecDepth 100000 in
set_option maxHeartbeats 4000000 in
theorem ft_X11_owe_42 {E : h_S} {g : h_G} {r : Int32} {t : h_S} {Q : Int32 → h_S → Prop} {b : Nat → Nat} {s S_s : h_S} {A_o0 : Nat} {x1 : Int32} {x2 : Int32} {x3 : Int32} {x4 : Int32} (hR : c_R E g b s S_s) (hF : c_F s) (f_o0 : c_at b s 0 A_o0) (h : fn_X11_owe_42 x1 x2 x3 x4 s = some (r, t)) (hQ : ∀ (b2 : Nat → Nat) (S2 : h_S), c_ext b s b2 t → c_R E g b2 t S2 → c_F t → Q r S2) : w_X11_owe_42 Q A_o0 x1 x2 x3 x4 S_s := by
  unfold fn_X11_owe_42 at h
  unfold w_X11_owe_42
  exact ft_X11_owe_59 hR hF f_o0 h (fun b2 S2 x2 => hQ b2 S2 (cr_xt cr_xr x2))
set_option maxRecDepth 100000 in
set_option maxHeartbeats 4000000 in
theorem ft_X11_owe {E : h_S} {g : h_G} {r : Int32} {t : h_S} {Q : Int32 → h_S → Prop} {b : Nat → Nat} {s S_s : h_S} {A_o0 : Nat} {x1 : Int32} {x2 : Int32} {x3 : Int32} (hR : c_R E g b s S_s) (hF : c_F s) (f_o0 : c_at b s 0 A_o0) (h : fn_X11_owe x1 x2 x3 s = some (r, t)) (hQ : ∀ (b2 : Nat → Nat) (S2 : h_S), c_ext b s b2 t → c_R E g b2 t S2 → c_F t → Q r S2) : w_X11_owe A_o0 x1 x2 x3 S_s Q := by
  unfold fn_X11_owe at h
  unfold w_X11_owe
  refine fg_ite Iff.rfl (fun d => ?_) (fun d => ?_)
  · have h := fg_if_t d h
    unfold w_X11_owe_21
    obtain ⟨q, q2⟩ := fg_ret h
    subst q
    subst q2
    exact hQ _ _ cr_xr hR hF
  · have h := fg_if_e d h
    refine ⟨(cr_k hR f_o0).trans (cf_k (a := 0) hF rfl (by decide)), ?_⟩
    obtain ⟨p4, s3, e_s3, h⟩ := fg_b_s h
    refine ft_X11_isHand hR hF f_o0 e_s3 (fun b_s3 S_s3 x_s3 r_s3 F_s3 => ?_)
    refine fg_ite Iff.rfl (fun d => ?_) (fun d => ?_)
    · have h := fg_if_t d h
      unfold w_X11_owe_21
      obtain ⟨q, q2⟩ := fg_ret h
      subst q
      subst q2
      exact hQ _ _ x_s3 r_s3 F_s3
    · have h := fg_if_e d h
      refine ⟨(cr_k r_s3 (cr_atx f_o0 x_s3)).trans (cf_k (a := 0) F_s3 rfl (by decide)), ?_⟩
      obtain ⟨p8, s7, e_s7, h⟩ := fg_b_s h
      refine ft_X11_isHand r_s3 F_s3 (cr_atx f_o0 x_s3) e_s7 (fun b_s7 S_s7 x_s7 r_s7 F_s7 => ?_)
      refine fg_ite Iff.rfl (fun d => ?_) (fun d => ?_)
      · have h := fg_if_t d h
        unfold w_X11_owe_21
        obtain ⟨q, q2⟩ := fg_ret h
        subst q
        subst q2
        exact hQ _ _ (cr_xt x_s3 x_s7) r_s7 F_s7
      · have h := fg_if_e d h
        refine ⟨(cr_k r_s7 (cr_atx (cr_atx f_o0 x_s3) x_s7)).trans (cf_k (a := 0) F_s7 rfl (by decide)), ?_⟩
        try simp -zeta -zetaUnused only [cr_i r_s7 (cr_atx (cr_atx f_o0 x_s3) x_s7)]
        obtain ⟨v12, e_v12, h⟩ := fg_let_s h
        intro S_v12
        have z_v12 : v12 = S_v12 := e_v12
        clear_value S_v12
        subst z_v12
        refine fg_ite Iff.rfl (fun d => ?_) (fun d => ?_)
        · have h := fg_if_t d h
          exact ft_X11_owe_42 r_s7 F_s7 (cr_atx (cr_atx f_o0 x_s3) x_s7) h (fun b2 S2 x2 => hQ b2 S2 (cr_xt (cr_xt x_s3 x_s7) x2))
        · have h := fg_if_e d h
          refine fg_ite Iff.rfl (fun d => ?_) (fun d => ?_)
          · have h := fg_if_t d h
            exact ft_X11_owe_42 r_s7 F_s7 (cr_atx (cr_atx f_o0 x_s3) x_s7) h (fun b2 S2 x2 => hQ b2 S2 (cr_xt (cr_xt x_s3 x_s7) x2))
          · have h := fg_if_e d h
            exact ft_X11_owe_59 r_s7 F_s7 (cr_atx (cr_atx f_o0 x_s3) x_s7) h (fun b2 S2 x2 => hQ b2 S2 (cr_xt (cr_xt x_s3 x_s7) x2))
set_option maxRecDepth 100000 in
set_option maxHeartbeats 4000000 in
theorem ft_X11_read_52b {E : h_S} {g : h_G} {r : Int32} {t : h_S} {Q : Int32 → h_S → Prop} {K52 : Int32 → Option Nat → Int32 → Int32 → Int32 → Option Nat → Int32 → Int32 → h_S → Option ((Int32) × h_S)} {WK52 : Nat → Int32 → Option Nat → Int32 → Int32 → Int32 → Option Nat → Int32 → Int32 → h_S → Prop} (hK52 : ∀ {b : Nat → Nat} {s S_s : h_S} {A_o0 : Nat} {x1 : Int32} {r3 : Option Nat} {R_r3 : Option Nat} {x4 : Int32} {x5 : Int32} {x6 : Int32} {r7 : Option Nat} {R_r7 : Option Nat} {x8 : Int32} {x9 : Int32}, c_R E g b s S_s → c_F s → c_at b s 0 A_o0 → c_ao b s r3 R_r3 → c_ao b s r7 R_r7 → K52 x1 r3 x4 x5 x6 r7 x8 x9 s = some (r, t) → (∀ (b2 : Nat → Nat) (S2 : h_S), c_ext b s b2 t → c_R E g b2 t S2 → c_F t → Q r S2) → WK52 A_o0 x1 R_r3 x4 x5 x6 R_r7 x8 x9 S_s) {b : Nat → Nat} {s S_s : h_S} {A_o0 : Nat} {x1 : Int32} {r3 : Option Nat} {R_r3 : Option Nat} {x4 : Int32} {x5 : Int32} {x6 : Int32} {r7 : Option Nat} {R_r7 : Option Nat} {x8 : Int32} {x9 : Int32} (hR : c_R E g b s S_s) (hF : c_F s) (f_o0 : c_at b s 0 A_o0) (f_r3 : c_ao b s r3 R_r3) (f_r7 : c_ao b s r7 R_r7) (h : fn_X11_read_52b K52 x1 r3 x4 x5 x6 r7 x8 x9 s = some (r, t)) (hQ : ∀ (b2 : Nat → Nat) (S2 : h_S), c_ext b s b2 t → c_R E g b2 t S2 → c_F t → Q r S2) : w_X11_read_52b Q WK52 A_o0 x1 R_r3 x4 x5 x6 R_r7 x8 x9 S_s := by
  unfold fn_X11_read_52b at h
  unfold w_X11_read_52b
  refine fg_ite Iff.rfl (fun d => ?_) (fun d => ?_)
  · have h := fg_if_t d h
    refine fg_ite Iff.rfl (fun d => ?_) (fun d => ?_)
    · have h := fg_if_t d h
      unfold w_X11_read_135
      obtain ⟨q, q2⟩ := fg_ret h
      subst q
      subst q2
      exact hQ _ _ cr_xr hR hF
    · have h := fg_if_e d h
      refine ⟨(cr_k hR f_o0).trans (cf_k (a := 0) hF rfl (by decide)), ?_⟩
      obtain ⟨p5, s4, e_s4, h⟩ := fg_b_s h
      refine ft_X11_acted hR hF f_o0 e_s4 (fun b_s4 S_s4 x_s4 r_s4 F_s4 => ?_)
      unfold w_X11_read_135
      obtain ⟨q, q2⟩ := fg_ret h
      subst q
      subst q2
      exact hQ _ _ x_s4 r_s4 F_s4
  · have h := fg_if_e d h
    obtain ⟨a6, o_a6, h⟩ := fg_o_s h
    obtain ⟨A_a6, w_a6, f_a6⟩ := cr_aos f_r7 o_a6
    refine ⟨A_a6, w_a6, ?_⟩
    obtain ⟨c_a6_1, h⟩ := fg_g_s h
    refine ⟨(cr_k hR f_a6).trans c_a6_1, ?_⟩
    obtain ⟨c, h⟩ := fg_g_s h
    refine ⟨cr_vp (cr_n hR f_a6) rfl c, ?_⟩
    refine ⟨(cr_k hR f_o0).trans (cf_k (a := 0) hF rfl (by decide)), ?_⟩
    obtain ⟨A_a10, w_a10, f_a10⟩ := cr_aos (cr_r hR f_o0 _) (cf_r (a := 0) (j := 4) (y := 3) hF rfl)
    refine ⟨A_a10, w_a10, ?_⟩
    refine ⟨(cr_k hR f_a10).trans (cf_k (a := 3) hF rfl (by decide)), ?_⟩
    try simp -zeta -zetaUnused only [cr_i hR f_a6]
    obtain ⟨p13, s12, e_s12, h⟩ := fg_b_s h
    refine ft_X7_isIn hR hF f_a10 e_s12 (fun b_s12 S_s12 x_s12 r_s12 F_s12 => ?_)
    refine fg_ite Iff.rfl (fun d => ?_) (fun d => ?_)
    · have h := fg_if_t d h
      unfold w_X11_read_113
      exact hK52 r_s12 F_s12 (cr_atx f_o0 x_s12) (cr_aox f_r3 x_s12) (cr_aox f_r7 x_s12) h (fun b2 S2 x2 => hQ b2 S2 (cr_xt x_s12 x2))
    · have h := fg_if_e d h
      refine ⟨(cr_k r_s12 (cr_atx f_o0 x_s12)).trans (cf_k (a := 0) F_s12 rfl (by decide)), ?_⟩
      obtain ⟨a16, o_a16, h⟩ := fg_o_s h
      obtain ⟨A_a16, w_a16, f_a16⟩ := cr_aos f_r3 o_a16
      refine ⟨A_a16, w_a16, ?_⟩
      obtain ⟨c_a16_2, h⟩ := fg_g_s h
      refine ⟨(cr_k r_s12 (cr_atx f_a16 x_s12)).trans c_a16_2, ?_⟩
      obtain ⟨A_a18, w_a18, f_a18⟩ := cr_aos (cr_r r_s12 (cr_atx f_o0 x_s12) _) (cf_r (a := 0) (j := 4) (y := 3) F_s12 rfl)
      refine ⟨A_a18, w_a18, ?_⟩
      refine ⟨(cr_k r_s12 f_a18).trans (cf_k (a := 3) F_s12 rfl (by decide)), ?_⟩
      try simp -zeta -zetaUnused only [cr_i r_s12 (cr_atx f_a16 x_s12)]
      obtain ⟨p21, s20, e_s20, h⟩ := fg_b_s h
      refine ft_X7_ownerOf r_s12 F_s12 f_a18 e_s20 (fun b_s20 S_s20 x_s20 r_s20 F_s20 => ?_)
      refine ⟨(cr_k r_s20 (cr_atx (cr_atx f_o0 x_s12) x_s20)).trans (cf_k (a := 0) F_s20 rfl (by decide)), ?_⟩
      obtain ⟨A_a23, w_a23, f_a23⟩ := cr_aos (cr_r r_s20 (cr_atx (cr_atx f_o0 x_s12) x_s20) _) (cf_r (a := 0) (j := 4) (y := 3) F_s20 rfl)
      refine ⟨A_a23, w_a23, ?_⟩
      refine ⟨(cr_k r_s20 f_a23).trans (cf_k (a := 3) F_s20 rfl (by decide)), ?_⟩
      obtain ⟨p26, s25, e_s25, h⟩ := fg_b_s h
      refine ft_X7_handOf r_s20 F_s20 f_a23 e_s25 (fun b_s25 S_s25 x_s25 r_s25 F_s25 => ?_)
      refine ⟨(cr_k r_s25 (cr_atx (cr_atx (cr_atx f_o0 x_s12) x_s20) x_s25)).trans (cf_k (a := 0) F_s25 rfl (by decide)), ?_⟩
      obtain ⟨p29, s28, e_s28, h⟩ := fg_b_s h
      refine ft_X11_owe r_s25 F_s25 (cr_atx (cr_atx (cr_atx f_o0 x_s12) x_s20) x_s25) e_s28 (fun b_s28 S_s28 x_s28 r_s28 F_s28 => ?_)
      unfold w_X11_read_113
      exact hK52 r_s28 F_s28 (cr_atx (cr_atx (cr_atx (cr_atx f_o0 x_s12) x_s20) x_s25) x_s28) (cr_aox (cr_aox (cr_aox (cr_aox f_r3 x_s12) x_s20) x_s25) x_s28) (cr_aox (cr_aox (cr_aox (cr_aox f_r7 x_s12) x_s20) x_s25) x_s28) h (fun b2 S2 x2 => hQ b2 S2 (cr_xt (cr_xt x_s12 (cr_xt x_s20 (cr_xt x_s25 x_s28))) x2))
set_option maxRecDepth 100000 in
set_option maxHeartbeats 4000000 in
theorem ft_X11_read_52 {E : h_S} {g : h_G} {r : Int32} {t : h_S} {Q : Int32 → h_S → Prop} : ∀ (n : Nat) {b : Nat → Nat} {s S_s : h_S} {A_o0 : Nat} {x1 : Int32} {r3 : Option Nat} {R_r3 : Option Nat} {x4 : Int32} {x5 : Int32} {x6 : Int32} {r7 : Option Nat} {R_r7 : Option Nat} {x8 : Int32} {x9 : Int32}, c_R E g b s S_s → c_F s → c_at b s 0 A_o0 → c_ao b s r3 R_r3 → c_ao b s r7 R_r7 → fn_X11_read_52 n x1 r3 x4 x5 x6 r7 x8 x9 s = some (r, t) → (∀ (b2 : Nat → Nat) (S2 : h_S), c_ext b s b2 t → c_R E g b2 t S2 → c_F t → Q r S2) → w_X11_read_52 Q n A_o0 x1 R_r3 x4 x5 x6 R_r7 x8 x9 S_s := by
  intro n
  induction n with
  | zero => intros; rename_i h _; exact fg_none h
  | succ n ih => exact ft_X11_read_52b @ih
set_option maxRecDepth 100000 in
set_option maxHeartbeats 4000000 in
theorem ft_X11_read {E : h_S} {g : h_G} {r : Int32} {t : h_S} {Q : Int32 → h_S → Prop} {b : Nat → Nat} {s S_s : h_S} {A_o0 : Nat} {x1 : Int32} {x2 : Int32} (hR : c_R E g b s S_s) (hF : c_F s) (f_o0 : c_at b s 0 A_o0) (h : fn_X11_read x1 x2 s = some (r, t)) (hQ : ∀ (b2 : Nat → Nat) (S2 : h_S), c_ext b s b2 t → c_R E g b2 t S2 → c_F t → Q r S2) : w_X11_read A_o0 x1 x2 S_s Q := by
  unfold fn_X11_read at h
  unfold w_X11_read
  refine ⟨(cr_k hR f_o0).trans (cf_k (a := 0) hF rfl (by decide)), ?_⟩
  obtain ⟨p3, s2, e_s2, h⟩ := fg_b_s h
  refine ft_X11_versionAt hR hF f_o0 e_s2 (fun b_s2 R_p3 S_s2 x_s2 r_s2 F_s2 f_p3 => ?_)
  refine ⟨(cr_k r_s2 (cr_atx f_o0 x_s2)).trans (cf_k (a := 0) F_s2 rfl (by decide)), ?_⟩
  obtain ⟨p6, s5, e_s5, h⟩ := fg_b_s h
  refine ft_X11_isHand r_s2 F_s2 (cr_atx f_o0 x_s2) e_s5 (fun b_s5 S_s5 x_s5 r_s5 F_s5 => ?_)
  refine fg_ite Iff.rfl (fun d => ?_) (fun d => ?_)
  · have h := fg_if_t d h
    unfold w_X11_read_18
    obtain ⟨q, q2⟩ := fg_ret h
    subst q
    subst q2
    exact hQ _ _ (cr_xt x_s2 x_s5) r_s5 F_s5
  · have h := fg_if_e d h
    refine fg_ite (cr_isn (cr_aox f_p3 x_s5)) (fun d => ?_) (fun d => ?_)
    · have h := fg_if_t d h
      unfold w_X11_read_18
      obtain ⟨q, q2⟩ := fg_ret h
      subst q
      subst q2
      exact hQ _ _ (cr_xt x_s2 x_s5) r_s5 F_s5
    · have h := fg_if_e d h
      refine ⟨(cr_k r_s5 (cr_atx (cr_atx f_o0 x_s2) x_s5)).trans (cf_k (a := 0) F_s5 rfl (by decide)), ?_⟩
      try simp -zeta -zetaUnused only [cr_i r_s5 (cr_atx (cr_atx f_o0 x_s2) x_s5)]
      obtain ⟨p11, s10, e_s10, h⟩ := fg_b_s h
      refine ft_X11_openHomes r_s5 F_s5 (cr_atx (cr_atx f_o0 x_s2) x_s5) (cr_aox f_p3 x_s5) e_s10 (fun b_s10 S_s10 x_s10 r_s10 F_s10 => ?_)
      obtain ⟨a12, o_a12, h⟩ := fg_o_s h
      obtain ⟨A_a12, w_a12, f_a12⟩ := cr_aos f_p3 o_a12
      refine ⟨A_a12, w_a12, ?_⟩
      obtain ⟨c_a12_1, h⟩ := fg_g_s h
      refine ⟨(cr_k r_s10 (cr_atx (cr_atx f_a12 x_s5) x_s10)).trans c_a12_1, ?_⟩
      obtain ⟨a14, o_a14, h⟩ := fg_o_s h
      obtain ⟨A_a14, w_a14, f_a14⟩ := cr_aos (cr_r r_s10 (cr_atx (cr_atx f_a12 x_s5) x_s10) _) o_a14
      refine ⟨A_a14, w_a14, ?_⟩
      obtain ⟨c_a14_2, h⟩ := fg_g_s h
      refine ⟨(cr_k r_s10 f_a14).trans c_a14_2, ?_⟩
      try simp -zeta -zetaUnused only [cr_n r_s10 f_a14]
      exact ⟨g_N, ft_X11_read_52 g_N r_s10 F_s10 (cr_atx (cr_atx (cr_atx f_o0 x_s2) x_s5) x_s10) (cr_aox (cr_aox f_p3 x_s5) x_s10) (cr_r r_s10 (cr_atx (cr_atx f_a12 x_s5) x_s10) _) h (fun b2 S2 x2 => hQ b2 S2 (cr_xt (cr_xt x_s2 (cr_xt x_s5 x_s10)) x2))⟩
