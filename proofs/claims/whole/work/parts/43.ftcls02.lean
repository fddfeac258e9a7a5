set_option maxRecDepth 100000 in
set_option maxHeartbeats 4000000 in
theorem ft_Jx4a65c_grow_92f84 {E : h_S} {g : h_G} {r : Option Nat} {t : h_S} {Q : Option Nat → h_S → Prop} {b : Nat → Nat} {s S_s : h_S} {C0 D0 mc ms : Nat} {o0 : Nat} {A_o0 : Nat} {x1 : Int32} (hR : c_R E g b s S_s) (hF : c_F s) (f_o0 : c_at b s o0 A_o0) (h : fn_Jx4a65c_grow_92f84 o0 x1 s = some (r, t, C0, D0)) (hQ : ∀ (b2 : Nat → Nat) (R2 : Option Nat) (S2 : h_S), c_ext b s b2 t → c_R E g b2 t S2 → c_F t → c_ao b2 t r R2 → Q R2 S2) (hc : C0 ≤ mc) (hd : D0 ≤ ms) : w_Jx4a65c_grow_92f84 g A_o0 x1 S_s mc ms Q := by
  unfold fn_Jx4a65c_grow_92f84 at h
  unfold w_Jx4a65c_grow_92f84
  obtain ⟨c_o0_1, h⟩ := fg_g_s h
  refine ⟨(cr_k hR f_o0).trans c_o0_1, ?_⟩
  obtain ⟨c, h⟩ := fg_g_s h
  refine ⟨cr_is7 hR (cr_r hR f_o0 _) c, ?_⟩
  try simp -zeta -zetaUnused only [cr_ln7 hR (cr_r hR f_o0 _)]
  refine fg_ite Iff.rfl (fun d => ?_) (fun d => ?_)
  · have h := fg_if_t d h
    try simp -zeta -zetaUnused only [cr_ln7 hR (cr_r hR f_o0 _)]
    exact ft_Jx4a65c_grow_92f84_20 hR hF f_o0 h (fun b2 R2 S2 x2 => hQ b2 R2 S2 (cr_xt cr_xr x2)) hc hd
  · have h := fg_if_e d h
    refine fg_ite (cr_eq hR (cr_r hR f_o0 _) (cr_g hR)) (fun d => ?_) (fun d => ?_)
    · have h := fg_if_t d h
      obtain ⟨c, h⟩ := fg_g_s h
      refine ⟨c, ?_⟩
      obtain ⟨c, h⟩ := fg_g_s h
      refine ⟨c, ?_⟩
      obtain ⟨q5, e_q5, h⟩ := fg_let_s h
      have z_q5 : h_k s q5 = 0 := cf_z hF e_q5
      obtain ⟨C_q5, D_q5, h, q_q5, w_q5⟩ := fg_c_s h
      obtain ⟨u1_q5, hc⟩ := fg_sp q_q5 hc
      obtain ⟨u2_q5, hd⟩ := fg_sp w_q5 hd
      refine ⟨u1_q5, u2_q5, fun A_q5 Z_q5 => ?_⟩
      obtain ⟨s11, e_s11, h⟩ := fg_let_s h
      intro S_s11
      have r_s11 : c_R E g (c_up b q5 A_q5) s11 S_s11 := by rw [e_s11]; exact cr_nw hR z_q5 Z_q5 (by decide)
      have F_s11 : c_F s11 := by rw [e_s11]; exact cf_nw hF e_q5 (by decide)
      have x_s11 : c_ext b s (c_up b q5 A_q5) s11 := by rw [e_s11]; exact cx_new z_q5
      have f_q5 : c_at (c_up b q5 A_q5) s11 q5 A_q5 := by rw [e_s11]; exact ca_nw (by decide)
      clear_value S_s11
      intro c12
      have hc : _ ≤ c12 := hc
      clear_value c12
      intro d13
      have hd : _ ≤ d13 := hd
      clear_value d13
      refine ⟨(cr_k r_s11 (cr_atx f_o0 x_s11)).trans (cr_kx c_o0_1 f_o0 x_s11), ?_⟩
      obtain ⟨s15, e_s15, h⟩ := fg_let_s h
      intro S_s15
      have r_s15 : c_R E g (c_up b q5 A_q5) s15 S_s15 := by rw [e_s15]; exact cr_sr r_s11 (cr_atx f_o0 x_s11) _ (cr_some f_q5)
      have F_s15 : c_F s15 := by rw [e_s15]; exact cf_sr F_s11 (cr_kx c_o0_1 f_o0 x_s11) (by decide) _
      have x_s15 : c_ext (c_up b q5 A_q5) s11 (c_up b q5 A_q5) s15 := by rw [e_s15]; exact cx_sr _
      clear_value S_s15
      obtain ⟨q, q2⟩ := fg_retc h
      subst q
      subst q2
      exact hQ _ _ _ (cr_xt x_s11 x_s15) r_s15 F_s15 (cr_some (cr_atx f_q5 x_s15))
    · have h := fg_if_e d h
      try simp -zeta -zetaUnused only [cr_ln7 hR (cr_r hR f_o0 _)]
      exact ft_Jx4a65c_grow_92f84_20 hR hF f_o0 h (fun b2 R2 S2 x2 => hQ b2 R2 S2 (cr_xt cr_xr x2)) hc hd
set_option maxRecDepth 100000 in
set_option maxHeartbeats 4000000 in
theorem ft_Jx4a65c_grow_d5877 {E : h_S} {g : h_G} {r : Option Nat} {t : h_S} {Q : Option Nat → h_S → Prop} {b : Nat → Nat} {s S_s : h_S} {C0 D0 mc ms : Nat} {o0 : Nat} {A_o0 : Nat} (hR : c_R E g b s S_s) (hF : c_F s) (f_o0 : c_at b s o0 A_o0) (h : fn_Jx4a65c_grow_d5877 o0 s = some (r, t, C0, D0)) (hQ : ∀ (b2 : Nat → Nat) (R2 : Option Nat) (S2 : h_S), c_ext b s b2 t → c_R E g b2 t S2 → c_F t → c_ao b2 t r R2 → Q R2 S2) (hc : C0 ≤ mc) (hd : D0 ≤ ms) : w_Jx4a65c_grow_d5877 g A_o0 S_s mc ms Q := by
  unfold fn_Jx4a65c_grow_d5877 at h
  unfold w_Jx4a65c_grow_d5877
  obtain ⟨c_o0_1, h⟩ := fg_g_s h
  refine ⟨(cr_k hR f_o0).trans c_o0_1, ?_⟩
  try simp -zeta -zetaUnused only [cr_i hR f_o0]
  obtain ⟨p3, s2, mc4, ms5, C_s2, D_s2, e_s2, h, q_s2, w_s2⟩ := fg_bc_s h
  obtain ⟨u1_s2, hc⟩ := fg_sp q_s2 hc
  obtain ⟨u2_s2, hd⟩ := fg_sp w_s2 hd
  refine ⟨mc4, ms5, u1_s2, u2_s2, ft_Jx4a65c_grow_92f84 hR hF f_o0 e_s2 (fun b_s2 R_p3 S_s2 x_s2 r_s2 F_s2 f_p3 => ?_) (Nat.le_refl _) (Nat.le_refl _)⟩
  obtain ⟨q, q2⟩ := fg_retc h
  subst q
  subst q2
  exact hQ _ _ _ x_s2 r_s2 F_s2 f_p3
set_option maxRecDepth 100000 in
set_option maxHeartbeats 4000000 in
theorem ft_Jx4a65c_add_72be8_11 {E : h_S} {g : h_G} {r : Unit} {t : h_S} {Q : h_S → Prop} {b : Nat → Nat} {s S_s : h_S} {C0 D0 bc bs : Nat} {o0 : Nat} {A_o0 : Nat} {r1 : Option Nat} {R_r1 : Option Nat} {r2 : Option Nat} {R_r2 : Option Nat} {x3 : Int32} (hR : c_R E g b s S_s) (hF : c_F s) (f_o0 : c_at b s o0 A_o0) (f_r1 : c_ao b s r1 R_r1) (f_r2 : c_ao b s r2 R_r2) (h : fn_Jx4a65c_add_72be8_11 o0 r1 r2 x3 s = some (r, t, C0, D0)) (hQ : ∀ (b2 : Nat → Nat) (S2 : h_S), c_ext b s b2 t → c_R E g b2 t S2 → c_F t → Q S2) (hc : C0 ≤ bc) (hd : D0 ≤ bs) : w_Jx4a65c_add_72be8_11 g Q A_o0 R_r1 R_r2 x3 S_s bc bs := by
  unfold fn_Jx4a65c_add_72be8_11 at h
  unfold w_Jx4a65c_add_72be8_11
  obtain ⟨a1, o_a1, h⟩ := fg_o_s h
  obtain ⟨A_a1, w_a1, f_a1⟩ := cr_aos f_r2 o_a1
  refine ⟨A_a1, w_a1, ?_⟩
  obtain ⟨c_a1_1, h⟩ := fg_g_s h
  refine ⟨(cr_k hR f_a1).trans c_a1_1, ?_⟩
  obtain ⟨c, h⟩ := fg_g_s h
  refine ⟨cr_vp (cr_n hR f_a1) rfl c, ?_⟩
  obtain ⟨a4, o_a4, h⟩ := fg_o_s h
  obtain ⟨A_a4, w_a4, f_a4⟩ := cr_aos f_r1 o_a4
  refine ⟨A_a4, w_a4, ?_⟩
  obtain ⟨c, h⟩ := fg_g_s h
  refine ⟨by rw [cr_k hR f_a4]; exact c, ?_⟩
  obtain ⟨s6, e_s6, h⟩ := fg_let_s h
  intro S_s6
  have r_s6 : c_R E g b s6 S_s6 := by rw [e_s6]; exact cr_sr hR f_a1 _ (cr_some f_a4)
  have F_s6 : c_F s6 := by rw [e_s6]; exact cf_sr hF c_a1_1 (by decide) _
  have x_s6 : c_ext b s b s6 := by rw [e_s6]; exact cx_sr _
  clear_value S_s6
  obtain ⟨c_o0_2, h⟩ := fg_g_s h
  refine ⟨(cr_k r_s6 (cr_atx f_o0 x_s6)).trans c_o0_2, ?_⟩
  obtain ⟨s8, e_s8, h⟩ := fg_let_s h
  intro S_s8
  have r_s8 : c_R E g b s8 S_s8 := by rw [e_s8]; exact cr_si r_s6 (cr_atx f_o0 x_s6) _ _
  have F_s8 : c_F s8 := by rw [e_s8]; exact cf_si F_s6 _ _
  have x_s8 : c_ext b s6 b s8 := by rw [e_s8]; exact cx_si _ _
  clear_value S_s8
  obtain ⟨_, q⟩ := fg_retc h
  subst q
  exact hQ _ _ (cr_xt x_s6 x_s8) r_s8 F_s8
set_option maxRecDepth 100000 in
set_option maxHeartbeats 4000000 in
theorem ft_Jx4a65c_add_72be8 {E : h_S} {g : h_G} {r : Unit} {t : h_S} {Q : h_S → Prop} {b : Nat → Nat} {s S_s : h_S} {C0 D0 mc ms : Nat} {o0 : Nat} {A_o0 : Nat} {r1 : Option Nat} {R_r1 : Option Nat} {r2 : Option Nat} {R_r2 : Option Nat} {x3 : Int32} (hR : c_R E g b s S_s) (hF : c_F s) (f_o0 : c_at b s o0 A_o0) (f_r1 : c_ao b s r1 R_r1) (f_r2 : c_ao b s r2 R_r2) (h : fn_Jx4a65c_add_72be8 o0 r1 r2 x3 s = some (r, t, C0, D0)) (hQ : ∀ (b2 : Nat → Nat) (S2 : h_S), c_ext b s b2 t → c_R E g b2 t S2 → c_F t → Q S2) (hc : C0 ≤ mc) (hd : D0 ≤ ms) : w_Jx4a65c_add_72be8 g A_o0 R_r1 R_r2 x3 S_s mc ms Q := by
  unfold fn_Jx4a65c_add_72be8 at h
  unfold w_Jx4a65c_add_72be8
  obtain ⟨c, h⟩ := fg_g_s h
  refine ⟨cr_is7 hR f_r2 c, ?_⟩
  try simp -zeta -zetaUnused only [cr_ln7 hR f_r2]
  refine fg_ite Iff.rfl (fun d => ?_) (fun d => ?_)
  · have h := fg_if_t d h
    obtain ⟨c_o0_1, h⟩ := fg_g_s h
    refine ⟨(cr_k hR f_o0).trans c_o0_1, ?_⟩
    obtain ⟨p5, s4, mc6, ms7, C_s4, D_s4, e_s4, h, q_s4, w_s4⟩ := fg_bc_s h
    obtain ⟨u1_s4, hc⟩ := fg_sp q_s4 hc
    obtain ⟨u2_s4, hd⟩ := fg_sp w_s4 hd
    refine ⟨mc6, ms7, u1_s4, u2_s4, ft_Jx4a65c_grow_d5877 hR hF f_o0 e_s4 (fun b_s4 R_p5 S_s4 x_s4 r_s4 F_s4 f_p5 => ?_) (Nat.le_refl _) (Nat.le_refl _)⟩
    exact ft_Jx4a65c_add_72be8_11 r_s4 F_s4 (cr_atx f_o0 x_s4) (cr_aox f_r1 x_s4) f_p5 h (fun b2 S2 x2 => hQ b2 S2 (cr_xt x_s4 x2)) hc hd
  · have h := fg_if_e d h
    exact ft_Jx4a65c_add_72be8_11 hR hF f_o0 f_r1 f_r2 h (fun b2 S2 x2 => hQ b2 S2 (cr_xt cr_xr x2)) hc hd
set_option maxRecDepth 100000 in
set_option maxHeartbeats 4000000 in
theorem ft_Jx4a65c_add_9ea2d {E : h_S} {g : h_G} {r : Int32} {t : h_S} {Q : Int32 → h_S → Prop} {b : Nat → Nat} {s S_s : h_S} {C0 D0 mc ms : Nat} {o0 : Nat} {A_o0 : Nat} {r1 : Option Nat} {R_r1 : Option Nat} (hR : c_R E g b s S_s) (hF : c_F s) (f_o0 : c_at b s o0 A_o0) (f_r1 : c_ao b s r1 R_r1) (h : fn_Jx4a65c_add_9ea2d o0 r1 s = some (r, t, C0, D0)) (hQ : ∀ (b2 : Nat → Nat) (S2 : h_S), c_ext b s b2 t → c_R E g b2 t S2 → c_F t → Q r S2) (hc : C0 ≤ mc) (hd : D0 ≤ ms) : w_Jx4a65c_add_9ea2d g A_o0 R_r1 S_s mc ms Q := by
  unfold fn_Jx4a65c_add_9ea2d at h
  unfold w_Jx4a65c_add_9ea2d
  obtain ⟨c_o0_1, h⟩ := fg_g_s h
  refine ⟨(cr_k hR f_o0).trans c_o0_1, ?_⟩
  try simp -zeta -zetaUnused only [cr_i hR f_o0]
  obtain ⟨s2, e_s2, h⟩ := fg_let_s h
  intro S_s2
  have r_s2 : c_R E g b s2 S_s2 := by rw [e_s2]; exact cr_si hR f_o0 _ _
  have F_s2 : c_F s2 := by rw [e_s2]; exact cf_si hF _ _
  have x_s2 : c_ext b s b s2 := by rw [e_s2]; exact cx_si _ _
  clear_value S_s2
  try simp -zeta -zetaUnused only [cr_i r_s2 (cr_atx f_o0 x_s2)]
  obtain ⟨u_, s3, mc5, ms6, C_s3, D_s3, e_s3, h, q_s3, w_s3⟩ := fg_bc_s h
  obtain ⟨u1_s3, hc⟩ := fg_sp q_s3 hc
  obtain ⟨u2_s3, hd⟩ := fg_sp w_s3 hd
  refine ⟨mc5, ms6, u1_s3, u2_s3, ft_Jx4a65c_add_72be8 r_s2 F_s2 (cr_atx f_o0 x_s2) (cr_aox f_r1 x_s2) (cr_r r_s2 (cr_atx f_o0 x_s2) _) e_s3 (fun b_s3 S_s3 x_s3 r_s3 F_s3 => ?_) (Nat.le_refl _) (Nat.le_refl _)⟩
  obtain ⟨q, q2⟩ := fg_retc h
  subst q
  subst q2
  exact hQ _ _ (cr_xt x_s2 x_s3) r_s3 F_s3
set_option maxRecDepth 100000 in
set_option maxHeartbeats 4000000 in
theorem ft_X7_addWord {E : h_S} {g : h_G} {r : Unit} {t : h_S} {Q : h_S → Prop} {b : Nat → Nat} {s S_s : h_S} {C0 D0 mc ms : Nat} {A_o0 : Nat} {x1 : Int32} {x2 : Int32} {x3 : Int32} (hR : c_R E g b s S_s) (hF : c_F s) (f_o0 : c_at b s 3 A_o0) (h : fn_X7_addWord x1 x2 x3 s = some (r, t, C0, D0)) (hQ : ∀ (b2 : Nat → Nat) (S2 : h_S), c_ext b s b2 t → c_R E g b2 t S2 → c_F t → Q S2) (hc : C0 ≤ mc) (hd : D0 ≤ ms) : w_X7_addWord g A_o0 x1 x2 x3 S_s mc ms Q := by
  unfold fn_X7_addWord at h
  unfold w_X7_addWord
  refine ⟨(cr_k hR f_o0).trans (cf_k (a := 3) hF rfl (by decide)), ?_⟩
  obtain ⟨p3, s2, e_s2, h⟩ := fg_b_s h
  refine ft_X7_ownerOf hR hF f_o0 e_s2 (fun b_s2 S_s2 x_s2 r_s2 F_s2 => ?_)
  obtain ⟨p5, s4, e_s4, h⟩ := fg_b_s h
  refine ft_X11_within r_s2 F_s2 e_s4 (fun b_s4 S_s4 x_s4 r_s4 F_s4 => ?_)
  refine fg_ite Iff.rfl (fun d => ?_) (fun d => ?_)
  · have h := fg_if_t d h
    unfold w_X7_addWord_55
    obtain ⟨_, q⟩ := fg_retc h
    subst q
    exact hQ _ _ (cr_xt x_s2 x_s4) r_s4 F_s4
  · have h := fg_if_e d h
    refine ⟨(cr_k r_s4 (cr_atx (cr_atx f_o0 x_s2) x_s4)).trans (cf_k (a := 3) F_s4 rfl (by decide)), ?_⟩
    obtain ⟨q8, e_q8, h⟩ := fg_let_s h
    have z_q8 : h_k s4 q8 = 0 := cf_z F_s4 e_q8
    obtain ⟨C_q8, D_q8, h, q_q8, w_q8⟩ := fg_c_s h
    obtain ⟨u1_q8, hc⟩ := fg_sp q_q8 hc
    obtain ⟨u2_q8, hd⟩ := fg_sp w_q8 hd
    refine ⟨u1_q8, u2_q8, fun A_q8 Z_q8 => ?_⟩
    obtain ⟨s12, e_s12, h⟩ := fg_let_s h
    intro S_s12
    have r_s12 : c_R E g (c_up b_s4 q8 A_q8) s12 S_s12 := by rw [e_s12]; exact cr_nw r_s4 z_q8 Z_q8 (by decide)
    have F_s12 : c_F s12 := by rw [e_s12]; exact cf_nw F_s4 e_q8 (by decide)
    have x_s12 : c_ext b_s4 s4 (c_up b_s4 q8 A_q8) s12 := by rw [e_s12]; exact cx_new z_q8
    have f_q8 : c_at (c_up b_s4 q8 A_q8) s12 q8 A_q8 := by rw [e_s12]; exact ca_nw (by decide)
    clear_value S_s12
    intro c13
    have hc : _ ≤ c13 := hc
    clear_value c13
    intro d14
    have hd : _ ≤ d14 := hd
    clear_value d14
    refine ⟨(cr_k r_s12 (cr_atx (cr_atx (cr_atx f_o0 x_s2) x_s4) x_s12)).trans (cf_k (a := 3) F_s12 rfl (by decide)), ?_⟩
    obtain ⟨A_a16, w_a16, f_a16⟩ := cr_aos (cr_r r_s12 (cr_atx (cr_atx (cr_atx f_o0 x_s2) x_s4) x_s12) _) (cf_r (a := 3) (j := 5) (y := 19) F_s12 rfl)
    refine ⟨A_a16, w_a16, ?_⟩
    refine ⟨(cr_k r_s12 f_a16).trans (cf_k (a := 19) F_s12 rfl (by decide)), ?_⟩
    obtain ⟨c, h⟩ := fg_g_s h
    refine ⟨cr_vp (cr_n r_s12 f_a16) (cf_n (a := 19) F_s12 rfl (by decide) rfl) c, ?_⟩
    try simp -zeta -zetaUnused only [cr_i r_s12 f_a16]
    obtain ⟨u_, s19, e_s19, h⟩ := fg_b_s h
    refine ft_X10_init r_s12 F_s12 f_q8 e_s19 (fun b_s19 S_s19 x_s19 r_s19 F_s19 => ?_)
    obtain ⟨A_a21, w_a21, f_a21⟩ := cr_aos (cr_r r_s4 (cr_atx (cr_atx f_o0 x_s2) x_s4) _) (cf_r (a := 3) (j := 4) (y := 18) F_s4 rfl)
    refine ⟨A_a21, w_a21, ?_⟩
    refine ⟨(cr_k r_s19 (cr_atx (cr_atx f_a21 x_s12) x_s19)).trans (cf_k (a := 18) F_s19 rfl (by decide)), ?_⟩
    obtain ⟨p24, s23, mc25, ms26, C_s23, D_s23, e_s23, h, q_s23, w_s23⟩ := fg_bc_s h
    obtain ⟨u1_s23, hc⟩ := fg_sp q_s23 hc
    obtain ⟨u2_s23, hd⟩ := fg_sp w_s23 hd
    refine ⟨mc25, ms26, u1_s23, u2_s23, ft_Jx4a65c_add_9ea2d r_s19 F_s19 (cr_atx (cr_atx f_a21 x_s12) x_s19) (cr_some (cr_atx f_q8 x_s19)) e_s23 (fun b_s23 S_s23 x_s23 r_s23 F_s23 => ?_) (Nat.le_refl _) (Nat.le_refl _)⟩
    refine ⟨(cr_k r_s23 (cr_atx (cr_atx (cr_atx (cr_atx (cr_atx f_o0 x_s2) x_s4) x_s12) x_s19) x_s23)).trans (cf_k (a := 3) F_s23 rfl (by decide)), ?_⟩
    obtain ⟨A_a30, w_a30, f_a30⟩ := cr_aos (cr_r r_s23 (cr_atx (cr_atx (cr_atx (cr_atx (cr_atx f_o0 x_s2) x_s4) x_s12) x_s19) x_s23) _) (cf_r (a := 3) (j := 5) (y := 19) F_s23 rfl)
    refine ⟨A_a30, w_a30, ?_⟩
    refine ⟨(cr_k r_s23 f_a30).trans (cf_k (a := 19) F_s23 rfl (by decide)), ?_⟩
    obtain ⟨c, h⟩ := fg_g_s h
    refine ⟨cr_vp (cr_n r_s23 f_a30) (cf_n (a := 19) F_s23 rfl (by decide) rfl) c, ?_⟩
    obtain ⟨A_a33, w_a33, f_a33⟩ := cr_aos (cr_r r_s23 (cr_atx (cr_atx (cr_atx (cr_atx (cr_atx f_o0 x_s2) x_s4) x_s12) x_s19) x_s23) _) (cf_r (a := 3) (j := 5) (y := 19) F_s23 rfl)
    refine ⟨A_a33, w_a33, ?_⟩
    refine ⟨(cr_k r_s23 f_a33).trans (cf_k (a := 19) F_s23 rfl (by decide)), ?_⟩
    obtain ⟨c, h⟩ := fg_g_s h
    refine ⟨cr_vp (cr_n r_s23 f_a33) (cf_n (a := 19) F_s23 rfl (by decide) rfl) c, ?_⟩
    try simp -zeta -zetaUnused only [cr_i r_s23 f_a30]
    obtain ⟨s36, e_s36, h⟩ := fg_let_s h
    intro S_s36
    have r_s36 : c_R E g b_s23 s36 S_s36 := by rw [e_s36]; exact cr_si r_s23 f_a33 _ _
    have F_s36 : c_F s36 := by rw [e_s36]; exact cf_si F_s23 _ _
    have x_s36 : c_ext b_s23 s23 b_s23 s36 := by rw [e_s36]; exact cx_si _ _
    clear_value S_s36
    unfold w_X7_addWord_55
    obtain ⟨_, q⟩ := fg_retc h
    subst q
    exact hQ _ _ (cr_xt x_s2 (cr_xt x_s4 (cr_xt x_s12 (cr_xt x_s19 (cr_xt x_s23 x_s36))))) r_s36 F_s36
set_option maxRecDepth 100000 in
set_option maxHeartbeats 4000000 in
theorem ft_X7_areWords {E : h_S} {g : h_G} {r : Int32} {t : h_S} {Q : Int32 → h_S → Prop} {b : Nat → Nat} {s S_s : h_S} {A_o0 : Nat} {x1 : Int32} {x2 : Int32} (hR : c_R E g b s S_s) (hF : c_F s) (f_o0 : c_at b s 3 A_o0) (h : fn_X7_areWords x1 x2 s = some (r, t)) (hQ : ∀ (b2 : Nat → Nat) (S2 : h_S), c_ext b s b2 t → c_R E g b2 t S2 → c_F t → Q r S2) : w_X7_areWords A_o0 x1 x2 S_s Q := by
  unfold fn_X7_areWords at h
  unfold w_X7_areWords
  refine fg_ite Iff.rfl (fun d => ?_) (fun d => ?_)
  · have h := fg_if_t d h
    unfold w_X7_areWords_37
    unfold w_X7_areWords_38
    refine ⟨Or.inl rfl, ?_⟩
    obtain ⟨q, q2⟩ := fg_ret h
    subst q
    subst q2
    exact hQ _ _ cr_xr hR hF
  · have h := fg_if_e d h
    refine fg_ite Iff.rfl (fun d => ?_) (fun d => ?_)
    · have h := fg_if_t d h
      unfold w_X7_areWords_37
      unfold w_X7_areWords_38
      refine ⟨Or.inl rfl, ?_⟩
      obtain ⟨q, q2⟩ := fg_ret h
      subst q
      subst q2
      exact hQ _ _ cr_xr hR hF
    · have h := fg_if_e d h
      refine ⟨(cr_k hR f_o0).trans (cf_k (a := 3) hF rfl (by decide)), ?_⟩
      obtain ⟨A_a4, w_a4, f_a4⟩ := cr_aos (cr_r hR f_o0 _) (cf_r (a := 3) (j := 4) (y := 18) hF rfl)
      refine ⟨A_a4, w_a4, ?_⟩
      refine ⟨(cr_k hR f_a4).trans (cf_k (a := 18) hF rfl (by decide)), ?_⟩
      obtain ⟨p7, s6, e_s6, h⟩ := fg_b_s h
      refine ft_Jx4a65c_size_8abf5 hR hF f_a4 e_s6 (fun b_s6 S_s6 x_s6 r_s6 F_s6 => ?_)
      refine fg_ite Iff.rfl (fun d => ?_) (fun d => ?_)
      · have h := fg_if_t d h
        unfold w_X7_areWords_37
        unfold w_X7_areWords_38
        refine ⟨Or.inl rfl, ?_⟩
        obtain ⟨q, q2⟩ := fg_ret h
        subst q
        subst q2
        exact hQ _ _ x_s6 r_s6 F_s6
      · have h := fg_if_e d h
        refine ⟨(cr_k r_s6 (cr_atx f_o0 x_s6)).trans (cf_k (a := 3) F_s6 rfl (by decide)), ?_⟩
        obtain ⟨A_a10, w_a10, f_a10⟩ := cr_aos (cr_r r_s6 (cr_atx f_o0 x_s6) _) (cf_r (a := 3) (j := 4) (y := 18) F_s6 rfl)
        refine ⟨A_a10, w_a10, ?_⟩
        refine ⟨(cr_k r_s6 f_a10).trans (cf_k (a := 18) F_s6 rfl (by decide)), ?_⟩
        obtain ⟨p13, s12, e_s12, h⟩ := fg_b_s h
        refine ft_Jx4a65c_size_8abf5 r_s6 F_s6 f_a10 e_s12 (fun b_s12 S_s12 x_s12 r_s12 F_s12 => ?_)
        refine fg_ite Iff.rfl (fun d => ?_) (fun d => ?_)
        · have h := fg_if_t d h
          unfold w_X7_areWords_37
          unfold w_X7_areWords_38
          refine ⟨Or.inl rfl, ?_⟩
          obtain ⟨q, q2⟩ := fg_ret h
          subst q
          subst q2
          exact hQ _ _ (cr_xt x_s6 x_s12) r_s12 F_s12
        · have h := fg_if_e d h
          unfold w_X7_areWords_38
          refine ⟨Or.inr rfl, ?_⟩
          obtain ⟨q, q2⟩ := fg_ret h
          subst q
          subst q2
          exact hQ _ _ (cr_xt x_s6 x_s12) r_s12 F_s12
set_option maxRecDepth 100000 in
set_option maxHeartbeats 4000000 in
theorem ft_X7_codeOf {E : h_S} {g : h_G} {r : Int32} {t : h_S} {Q : Int32 → h_S → Prop} {b : Nat → Nat} {s S_s : h_S} {A_o0 : Nat} {x1 : Int32} (hR : c_R E g b s S_s) (hF : c_F s) (f_o0 : c_at b s 3 A_o0) (h : fn_X7_codeOf x1 s = some (r, t)) (hQ : ∀ (b2 : Nat → Nat) (S2 : h_S), c_ext b s b2 t → c_R E g b2 t S2 → c_F t → Q r S2) : w_X7_codeOf A_o0 x1 S_s Q := by
  unfold fn_X7_codeOf at h
  unfold w_X7_codeOf
  refine ⟨(cr_k hR f_o0).trans (cf_k (a := 3) hF rfl (by decide)), ?_⟩
  obtain ⟨p3, s2, e_s2, h⟩ := fg_b_s h
  refine ft_X7_wordAt hR hF f_o0 e_s2 (fun b_s2 R_p3 S_s2 x_s2 r_s2 F_s2 f_p3 => ?_)
  refine fg_ite (cr_isn f_p3) (fun d => ?_) (fun d => ?_)
  · have h := fg_if_t d h
    unfold w_X7_codeOf_19
    obtain ⟨q, q2⟩ := fg_ret h
    subst q
    subst q2
    exact hQ _ _ x_s2 r_s2 F_s2
  · have h := fg_if_e d h
    obtain ⟨a5, o_a5, h⟩ := fg_o_s h
    obtain ⟨A_a5, w_a5, f_a5⟩ := cr_aos f_p3 o_a5
    refine ⟨A_a5, w_a5, ?_⟩
    obtain ⟨c_a5_1, h⟩ := fg_g_s h
    refine ⟨(cr_k r_s2 f_a5).trans c_a5_1, ?_⟩
    unfold w_X7_codeOf_19
    try simp -zeta -zetaUnused only [cr_i r_s2 f_a5]
    obtain ⟨q, q2⟩ := fg_ret h
    subst q
    subst q2
    exact hQ _ _ x_s2 r_s2 F_s2
set_option maxRecDepth 100000 in
set_option maxHeartbeats 4000000 in
theorem ft_X7_handOf {E : h_S} {g : h_G} {r : Int32} {t : h_S} {Q : Int32 → h_S → Prop} {b : Nat → Nat} {s S_s : h_S} {A_o0 : Nat} {x1 : Int32} (hR : c_R E g b s S_s) (hF : c_F s) (f_o0 : c_at b s 3 A_o0) (h : fn_X7_handOf x1 s = some (r, t)) (hQ : ∀ (b2 : Nat → Nat) (S2 : h_S), c_ext b s b2 t → c_R E g b2 t S2 → c_F t → Q r S2) : w_X7_handOf A_o0 x1 S_s Q := by
  unfold fn_X7_handOf at h
  unfold w_X7_handOf
  refine ⟨(cr_k hR f_o0).trans (cf_k (a := 3) hF rfl (by decide)), ?_⟩
  obtain ⟨p3, s2, e_s2, h⟩ := fg_b_s h
  refine ft_X7_wordAt hR hF f_o0 e_s2 (fun b_s2 R_p3 S_s2 x_s2 r_s2 F_s2 f_p3 => ?_)
  refine fg_ite (cr_isn f_p3) (fun d => ?_) (fun d => ?_)
  · have h := fg_if_t d h
    unfold w_X7_handOf_19
    obtain ⟨q, q2⟩ := fg_ret h
    subst q
    subst q2
    exact hQ _ _ x_s2 r_s2 F_s2
  · have h := fg_if_e d h
    obtain ⟨a5, o_a5, h⟩ := fg_o_s h
    obtain ⟨A_a5, w_a5, f_a5⟩ := cr_aos f_p3 o_a5
    refine ⟨A_a5, w_a5, ?_⟩
    obtain ⟨c_a5_1, h⟩ := fg_g_s h
    refine ⟨(cr_k r_s2 f_a5).trans c_a5_1, ?_⟩
    unfold w_X7_handOf_19
    try simp -zeta -zetaUnused only [cr_i r_s2 f_a5]
    obtain ⟨q, q2⟩ := fg_ret h
    subst q
    subst q2
    exact hQ _ _ x_s2 r_s2 F_s2
set_option maxRecDepth 100000 in
set_option maxHeartbeats 4000000 in
theorem ft_X7_isIn {E : h_S} {g : h_G} {r : Int32} {t : h_S} {Q : Int32 → h_S → Prop} {b : Nat → Nat} {s S_s : h_S} {A_o0 : Nat} {x1 : Int32} {x2 : Int32} (hR : c_R E g b s S_s) (hF : c_F s) (f_o0 : c_at b s 3 A_o0) (h : fn_X7_isIn x1 x2 s = some (r, t)) (hQ : ∀ (b2 : Nat → Nat) (S2 : h_S), c_ext b s b2 t → c_R E g b2 t S2 → c_F t → Q r S2) : w_X7_isIn A_o0 x1 x2 S_s Q := by
  unfold fn_X7_isIn at h
  unfold w_X7_isIn
  refine ⟨(cr_k hR f_o0).trans (cf_k (a := 3) hF rfl (by decide)), ?_⟩
  obtain ⟨p3, s2, e_s2, h⟩ := fg_b_s h
  refine ft_X7_wordAt hR hF f_o0 e_s2 (fun b_s2 R_p3 S_s2 x_s2 r_s2 F_s2 f_p3 => ?_)
  refine fg_ite (cr_isn f_p3) (fun d => ?_) (fun d => ?_)
  · have h := fg_if_t d h
    unfold w_X7_isIn_26
    unfold w_X7_isIn_27
    refine ⟨Or.inl rfl, ?_⟩
    obtain ⟨q, q2⟩ := fg_ret h
    subst q
    subst q2
    exact hQ _ _ x_s2 r_s2 F_s2
  · have h := fg_if_e d h
    obtain ⟨a5, o_a5, h⟩ := fg_o_s h
    obtain ⟨A_a5, w_a5, f_a5⟩ := cr_aos f_p3 o_a5
    refine ⟨A_a5, w_a5, ?_⟩
    obtain ⟨c_a5_1, h⟩ := fg_g_s h
    refine ⟨(cr_k r_s2 f_a5).trans c_a5_1, ?_⟩
    try simp -zeta -zetaUnused only [cr_i r_s2 f_a5]
    refine fg_ite Iff.rfl (fun d => ?_) (fun d => ?_)
    · have h := fg_if_t d h
      unfold w_X7_isIn_27
      refine ⟨Or.inr rfl, ?_⟩
      obtain ⟨q, q2⟩ := fg_ret h
      subst q
      subst q2
      exact hQ _ _ x_s2 r_s2 F_s2
    · have h := fg_if_e d h
      unfold w_X7_isIn_26
      unfold w_X7_isIn_27
      refine ⟨Or.inl rfl, ?_⟩
      obtain ⟨q, q2⟩ := fg_ret h
      subst q
      subst q2
      exact hQ _ _ x_s2 r_s2 F_s2
set_option maxRecDepth 100000 in
set_option maxHeartbeats 4000000 in
theorem ft_X7_homesOf_5b {E : h_S} {g : h_G} {r : Int32} {t : h_S} {Q : Int32 → h_S → Prop} {K5 : Int32 → Int32 → Int32 → Int32 → h_S → Option ((Int32) × h_S)} {WK5 : Nat → Int32 → Int32 → Int32 → Int32 → h_S → Prop} (hK5 : ∀ {b : Nat → Nat} {s S_s : h_S} {A_o0 : Nat} {x1 : Int32} {x2 : Int32} {x3 : Int32} {x4 : Int32}, c_R E g b s S_s → c_F s → c_at b s 3 A_o0 → K5 x1 x2 x3 x4 s = some (r, t) → (∀ (b2 : Nat → Nat) (S2 : h_S), c_ext b s b2 t → c_R E g b2 t S2 → c_F t → Q r S2) → WK5 A_o0 x1 x2 x3 x4 S_s) {b : Nat → Nat} {s S_s : h_S} {A_o0 : Nat} {x1 : Int32} {x2 : Int32} {x3 : Int32} {x4 : Int32} (hR : c_R E g b s S_s) (hF : c_F s) (f_o0 : c_at b s 3 A_o0) (h : fn_X7_homesOf_5b K5 x1 x2 x3 x4 s = some (r, t)) (hQ : ∀ (b2 : Nat → Nat) (S2 : h_S), c_ext b s b2 t → c_R E g b2 t S2 → c_F t → Q r S2) : w_X7_homesOf_5b Q WK5 A_o0 x1 x2 x3 x4 S_s := by
  unfold fn_X7_homesOf_5b at h
  unfold w_X7_homesOf_5b
  refine fg_ite Iff.rfl (fun d => ?_) (fun d => ?_)
  · have h := fg_if_t d h
    obtain ⟨q, q2⟩ := fg_ret h
    subst q
    subst q2
    exact hQ _ _ cr_xr hR hF
  · have h := fg_if_e d h
    refine ⟨(cr_k hR f_o0).trans (cf_k (a := 3) hF rfl (by decide)), ?_⟩
    obtain ⟨p4, s3, e_s3, h⟩ := fg_b_s h
    refine ft_X7_wordAt hR hF f_o0 e_s3 (fun b_s3 R_p4 S_s3 x_s3 r_s3 F_s3 f_p4 => ?_)
    refine fg_ite (cr_isn f_p4) (fun d => ?_) (fun d => ?_)
    · have h := fg_if_t d h
      unfold w_X7_homesOf_36
      exact hK5 r_s3 F_s3 (cr_atx f_o0 x_s3) h (fun b2 S2 x2 => hQ b2 S2 (cr_xt x_s3 x2))
    · have h := fg_if_e d h
      obtain ⟨a6, o_a6, h⟩ := fg_o_s h
      obtain ⟨A_a6, w_a6, f_a6⟩ := cr_aos f_p4 o_a6
      refine ⟨A_a6, w_a6, ?_⟩
      obtain ⟨c_a6_1, h⟩ := fg_g_s h
      refine ⟨(cr_k r_s3 f_a6).trans c_a6_1, ?_⟩
      try simp -zeta -zetaUnused only [cr_i r_s3 f_a6]
      obtain ⟨v8, e_v8, h⟩ := fg_let_s h
      intro S_v8
      have z_v8 : v8 = S_v8 := e_v8
      clear_value S_v8
      subst z_v8
      unfold w_X7_homesOf_36
      exact hK5 r_s3 F_s3 (cr_atx f_o0 x_s3) h (fun b2 S2 x2 => hQ b2 S2 (cr_xt x_s3 x2))
set_option maxRecDepth 100000 in
set_option maxHeartbeats 4000000 in
theorem ft_X7_homesOf_5 {E : h_S} {g : h_G} {r : Int32} {t : h_S} {Q : Int32 → h_S → Prop} : ∀ (n : Nat) {b : Nat → Nat} {s S_s : h_S} {A_o0 : Nat} {x1 : Int32} {x2 : Int32} {x3 : Int32} {x4 : Int32}, c_R E g b s S_s → c_F s → c_at b s 3 A_o0 → fn_X7_homesOf_5 n x1 x2 x3 x4 s = some (r, t) → (∀ (b2 : Nat → Nat) (S2 : h_S), c_ext b s b2 t → c_R E g b2 t S2 → c_F t → Q r S2) → w_X7_homesOf_5 Q n A_o0 x1 x2 x3 x4 S_s := by
  intro n
  induction n with
  | zero => intros; rename_i h _; exact fg_none h
  | succ n ih => exact ft_X7_homesOf_5b @ih
set_option maxRecDepth 100000 in
set_option maxHeartbeats 4000000 in
theorem ft_X7_homesOf {E : h_S} {g : h_G} {r : Int32} {t : h_S} {Q : Int32 → h_S → Prop} {b : Nat → Nat} {s S_s : h_S} {A_o0 : Nat} {x1 : Int32} {x2 : Int32} (hR : c_R E g b s S_s) (hF : c_F s) (f_o0 : c_at b s 3 A_o0) (h : fn_X7_homesOf x1 x2 s = some (r, t)) (hQ : ∀ (b2 : Nat → Nat) (S2 : h_S), c_ext b s b2 t → c_R E g b2 t S2 → c_F t → Q r S2) : w_X7_homesOf A_o0 x1 x2 S_s Q := by
  unfold fn_X7_homesOf at h
  unfold w_X7_homesOf
  exact ⟨g_N, ft_X7_homesOf_5 g_N hR hF f_o0 h (fun b2 S2 x2 => hQ b2 S2 (cr_xt cr_xr x2))⟩
set_option maxRecDepth 100000 in
set_option maxHeartbeats 4000000 in
theorem ft_X7_codesAlike_3b {E : h_S} {g : h_G} {r : Int32} {t : h_S} {Q : Int32 → h_S → Prop} {K3 : Int32 → Int32 → Int32 → Int32 → h_S → Option ((Int32) × h_S)} {WK3 : Nat → Int32 → Int32 → Int32 → Int32 → h_S → Prop} (hK3 : ∀ {b : Nat → Nat} {s S_s : h_S} {A_o0 : Nat} {x1 : Int32} {x2 : Int32} {x3 : Int32} {x4 : Int32}, c_R E g b s S_s → c_F s → c_at b s 3 A_o0 → K3 x1 x2 x3 x4 s = some (r, t) → (∀ (b2 : Nat → Nat) (S2 : h_S), c_ext b s b2 t → c_R E g b2 t S2 → c_F t → Q r S2) → WK3 A_o0 x1 x2 x3 x4 S_s) {b : Nat → Nat} {s S_s : h_S} {A_o0 : Nat} {x1 : Int32} {x2 : Int32} {x3 : Int32} {x4 : Int32} (hR : c_R E g b s S_s) (hF : c_F s) (f_o0 : c_at b s 3 A_o0) (h : fn_X7_codesAlike_3b K3 x1 x2 x3 x4 s = some (r, t)) (hQ : ∀ (b2 : Nat → Nat) (S2 : h_S), c_ext b s b2 t → c_R E g b2 t S2 → c_F t → Q r S2) : w_X7_codesAlike_3b Q WK3 A_o0 x1 x2 x3 x4 S_s := by
  unfold fn_X7_codesAlike_3b at h
  unfold w_X7_codesAlike_3b
  refine fg_ite Iff.rfl (fun d => ?_) (fun d => ?_)
  · have h := fg_if_t d h
    obtain ⟨q, q2⟩ := fg_ret h
    subst q
    subst q2
    exact hQ _ _ cr_xr hR hF
  · have h := fg_if_e d h
    refine ⟨(cr_k hR f_o0).trans (cf_k (a := 3) hF rfl (by decide)), ?_⟩
    obtain ⟨p4, s3, e_s3, h⟩ := fg_b_s h
    refine ft_X7_codeOf hR hF f_o0 e_s3 (fun b_s3 S_s3 x_s3 r_s3 F_s3 => ?_)
    refine ⟨(cr_k r_s3 (cr_atx f_o0 x_s3)).trans (cf_k (a := 3) F_s3 rfl (by decide)), ?_⟩
    obtain ⟨p7, s6, e_s6, h⟩ := fg_b_s h
    refine ft_X7_codeOf r_s3 F_s3 (cr_atx f_o0 x_s3) e_s6 (fun b_s6 S_s6 x_s6 r_s6 F_s6 => ?_)
    refine fg_ite Iff.rfl (fun d => ?_) (fun d => ?_)
    · have h := fg_if_t d h
      exact hK3 r_s6 F_s6 (cr_atx (cr_atx f_o0 x_s3) x_s6) h (fun b2 S2 x2 => hQ b2 S2 (cr_xt (cr_xt x_s3 x_s6) x2))
    · have h := fg_if_e d h
      obtain ⟨q, q2⟩ := fg_ret h
      subst q
      subst q2
      exact hQ _ _ (cr_xt x_s3 x_s6) r_s6 F_s6
set_option maxRecDepth 100000 in
set_option maxHeartbeats 4000000 in
theorem ft_X7_codesAlike_3 {E : h_S} {g : h_G} {r : Int32} {t : h_S} {Q : Int32 → h_S → Prop} : ∀ (n : Nat) {b : Nat → Nat} {s S_s : h_S} {A_o0 : Nat} {x1 : Int32} {x2 : Int32} {x3 : Int32} {x4 : Int32}, c_R E g b s S_s → c_F s → c_at b s 3 A_o0 → fn_X7_codesAlike_3 n x1 x2 x3 x4 s = some (r, t) → (∀ (b2 : Nat → Nat) (S2 : h_S), c_ext b s b2 t → c_R E g b2 t S2 → c_F t → Q r S2) → w_X7_codesAlike_3 Q n A_o0 x1 x2 x3 x4 S_s := by
  intro n
  induction n with
  | zero => intros; rename_i h _; exact fg_none h
  | succ n ih => exact ft_X7_codesAlike_3b @ih
set_option maxRecDepth 100000 in
set_option maxHeartbeats 4000000 in
theorem ft_X7_codesAlike {E : h_S} {g : h_G} {r : Int32} {t : h_S} {Q : Int32 → h_S → Prop} {b : Nat → Nat} {s S_s : h_S} {A_o0 : Nat} {x1 : Int32} {x2 : Int32} {x3 : Int32} (hR : c_R E g b s S_s) (hF : c_F s) (f_o0 : c_at b s 3 A_o0) (h : fn_X7_codesAlike x1 x2 x3 s = some (r, t)) (hQ : ∀ (b2 : Nat → Nat) (S2 : h_S), c_ext b s b2 t → c_R E g b2 t S2 → c_F t → Q r S2) : w_X7_codesAlike A_o0 x1 x2 x3 S_s Q := by
  unfold fn_X7_codesAlike at h
  unfold w_X7_codesAlike
  exact ⟨g_N, ft_X7_codesAlike_3 g_N hR hF f_o0 h (fun b2 S2 x2 => hQ b2 S2 (cr_xt cr_xr x2))⟩
set_option maxRecDepth 100000 in
set_option maxHeartbeats 4000000 in
theorem ft_X7_piecesAsOf_43 {E : h_S} {g : h_G} {r : Option Nat} {t : h_S} {Q : Option Nat → h_S → Prop} {b : Nat → Nat} {s S_s : h_S} {A_o0 : Nat} (hR : c_R E g b s S_s) (hF : c_F s) (f_o0 : c_at b s 3 A_o0) (h : fn_X7_piecesAsOf_43 s = some (r, t)) (hQ : ∀ (b2 : Nat → Nat) (R2 : Option Nat) (S2 : h_S), c_ext b s b2 t → c_R E g b2 t S2 → c_F t → c_ao b2 t r R2 → Q R2 S2) : w_X7_piecesAsOf_43 Q A_o0 S_s := by
  unfold fn_X7_piecesAsOf_43 at h
  unfold w_X7_piecesAsOf_43
  refine ⟨(cr_k hR f_o0).trans (cf_k (a := 3) hF rfl (by decide)), ?_⟩
  obtain ⟨q, q2⟩ := fg_ret h
  subst q
  subst q2
  exact hQ _ _ _ cr_xr hR hF (cr_r hR f_o0 _)
set_option maxRecDepth 100000 in
set_option maxHeartbeats 4000000 in
theorem ft_X7_piecesAsOf_18b {E : h_S} {g : h_G} {r : Option Nat} {t : h_S} {Q : Option Nat → h_S → Prop} {K18 : Int32 → Option Nat → h_S → Option ((Option Nat) × h_S)} {WK18 : Nat → Int32 → Option Nat → h_S → Prop} (hK18 : ∀ {b : Nat → Nat} {s S_s : h_S} {A_o0 : Nat} {x2 : Int32} {r3 : Option Nat} {R_r3 : Option Nat}, c_R E g b s S_s → c_F s → c_at b s 3 A_o0 → c_ao b s r3 R_r3 → K18 x2 r3 s = some (r, t) → (∀ (b2 : Nat → Nat) (R2 : Option Nat) (S2 : h_S), c_ext b s b2 t → c_R E g b2 t S2 → c_F t → c_ao b2 t r R2 → Q R2 S2) → WK18 A_o0 x2 R_r3 S_s) {b : Nat → Nat} {s S_s : h_S} {A_o0 : Nat} {x2 : Int32} {r3 : Option Nat} {R_r3 : Option Nat} (hR : c_R E g b s S_s) (hF : c_F s) (f_o0 : c_at b s 3 A_o0) (f_r3 : c_ao b s r3 R_r3) (h : fn_X7_piecesAsOf_18b K18 x2 r3 s = some (r, t)) (hQ : ∀ (b2 : Nat → Nat) (R2 : Option Nat) (S2 : h_S), c_ext b s b2 t → c_R E g b2 t S2 → c_F t → c_ao b2 t r R2 → Q R2 S2) : w_X7_piecesAsOf_18b Q WK18 A_o0 x2 R_r3 S_s := by
  unfold fn_X7_piecesAsOf_18b at h
  unfold w_X7_piecesAsOf_18b
  refine fg_ite (cr_isn f_r3) (fun d => ?_) (fun d => ?_)
  · have h := fg_if_t d h
    exact ft_X7_piecesAsOf_43 hR hF f_o0 h (fun b2 R2 S2 x2 => hQ b2 R2 S2 (cr_xt cr_xr x2))
  · have h := fg_if_e d h
    obtain ⟨a2, o_a2, h⟩ := fg_o_s h
    obtain ⟨A_a2, w_a2, f_a2⟩ := cr_aos f_r3 o_a2
    refine ⟨A_a2, w_a2, ?_⟩
    obtain ⟨c_a2_1, h⟩ := fg_g_s h
    refine ⟨(cr_k hR f_a2).trans c_a2_1, ?_⟩
    try simp -zeta -zetaUnused only [cr_i hR f_a2]
    refine fg_ite Iff.rfl (fun d => ?_) (fun d => ?_)
    · have h := fg_if_t d h
      obtain ⟨a5, o_a5, h⟩ := fg_o_s h
      obtain ⟨A_a5, w_a5, f_a5⟩ := cr_aos f_r3 o_a5
      refine ⟨A_a5, w_a5, ?_⟩
      obtain ⟨c_a5_2, h⟩ := fg_g_s h
      refine ⟨(cr_k hR f_a5).trans c_a5_2, ?_⟩
      exact hK18 hR hF f_o0 (cr_r hR f_a5 _) h (fun b2 R2 S2 x2 => hQ b2 R2 S2 (cr_xt cr_xr x2))
    · have h := fg_if_e d h
      obtain ⟨a7, o_a7, h⟩ := fg_o_s h
      obtain ⟨A_a7, w_a7, f_a7⟩ := cr_aos f_r3 o_a7
      refine ⟨A_a7, w_a7, ?_⟩
      obtain ⟨c_a7_2, h⟩ := fg_g_s h
      refine ⟨(cr_k hR f_a7).trans c_a7_2, ?_⟩
      obtain ⟨q, q2⟩ := fg_ret h
      subst q
      subst q2
      exact hQ _ _ _ cr_xr hR hF (cr_r hR f_a7 _)
set_option maxRecDepth 100000 in
set_option maxHeartbeats 4000000 in
theorem ft_X7_piecesAsOf_18 {E : h_S} {g : h_G} {r : Option Nat} {t : h_S} {Q : Option Nat → h_S → Prop} : ∀ (n : Nat) {b : Nat → Nat} {s S_s : h_S} {A_o0 : Nat} {x2 : Int32} {r3 : Option Nat} {R_r3 : Option Nat}, c_R E g b s S_s → c_F s → c_at b s 3 A_o0 → c_ao b s r3 R_r3 → fn_X7_piecesAsOf_18 n x2 r3 s = some (r, t) → (∀ (b2 : Nat → Nat) (R2 : Option Nat) (S2 : h_S), c_ext b s b2 t → c_R E g b2 t S2 → c_F t → c_ao b2 t r R2 → Q R2 S2) → w_X7_piecesAsOf_18 Q n A_o0 x2 R_r3 S_s := by
  intro n
  induction n with
  | zero => intros; rename_i h _; exact fg_none h
  | succ n ih => exact ft_X7_piecesAsOf_18b @ih
set_option maxRecDepth 100000 in
set_option maxHeartbeats 4000000 in
theorem ft_X7_piecesAsOf {E : h_S} {g : h_G} {r : Option Nat} {t : h_S} {Q : Option Nat → h_S → Prop} {b : Nat → Nat} {s S_s : h_S} {A_o0 : Nat} {x1 : Int32} {x2 : Int32} (hR : c_R E g b s S_s) (hF : c_F s) (f_o0 : c_at b s 3 A_o0) (h : fn_X7_piecesAsOf x1 x2 s = some (r, t)) (hQ : ∀ (b2 : Nat → Nat) (R2 : Option Nat) (S2 : h_S), c_ext b s b2 t → c_R E g b2 t S2 → c_F t → c_ao b2 t r R2 → Q R2 S2) : w_X7_piecesAsOf A_o0 x1 x2 S_s Q := by
  unfold fn_X7_piecesAsOf at h
  unfold w_X7_piecesAsOf
  refine ⟨(cr_k hR f_o0).trans (cf_k (a := 3) hF rfl (by decide)), ?_⟩
  try simp -zeta -zetaUnused only [cr_i hR f_o0]
  obtain ⟨p3, s2, e_s2, h⟩ := fg_b_s h
  refine ft_X11_within hR hF e_s2 (fun b_s2 S_s2 x_s2 r_s2 F_s2 => ?_)
  refine fg_ite Iff.rfl (fun d => ?_) (fun d => ?_)
  · have h := fg_if_t d h
    exact ft_X7_piecesAsOf_43 r_s2 F_s2 (cr_atx f_o0 x_s2) h (fun b2 R2 S2 x2 => hQ b2 R2 S2 (cr_xt x_s2 x2))
  · have h := fg_if_e d h
    refine ⟨(cr_k r_s2 (cr_atx f_o0 x_s2)).trans (cf_k (a := 3) F_s2 rfl (by decide)), ?_⟩
    obtain ⟨A_a6, w_a6, f_a6⟩ := cr_aos (cr_r r_s2 (cr_atx f_o0 x_s2) _) (cf_r (a := 3) (j := 2) (y := 16) F_s2 rfl)
    refine ⟨A_a6, w_a6, ?_⟩
    refine ⟨(cr_k r_s2 f_a6).trans (cf_k (a := 16) F_s2 rfl (by decide)), ?_⟩
    obtain ⟨c, h⟩ := fg_g_s h
    refine ⟨cr_vp (cr_n r_s2 f_a6) (cf_n (a := 16) F_s2 rfl (by decide) rfl) c, ?_⟩
    exact ⟨g_N, ft_X7_piecesAsOf_18 g_N r_s2 F_s2 (cr_atx f_o0 x_s2) (cr_r r_s2 f_a6 _) h (fun b2 R2 S2 x2 => hQ b2 R2 S2 (cr_xt x_s2 x2))⟩
set_option maxRecDepth 100000 in
set_option maxHeartbeats 4000000 in
theorem ft_X7_pieceCount {E : h_S} {g : h_G} {r : Int32} {t : h_S} {Q : Int32 → h_S → Prop} {b : Nat → Nat} {s S_s : h_S} {A_o0 : Nat} {x1 : Int32} (hR : c_R E g b s S_s) (hF : c_F s) (f_o0 : c_at b s 3 A_o0) (h : fn_X7_pieceCount x1 s = some (r, t)) (hQ : ∀ (b2 : Nat → Nat) (S2 : h_S), c_ext b s b2 t → c_R E g b2 t S2 → c_F t → Q r S2) : w_X7_pieceCount A_o0 x1 S_s Q := by
  unfold fn_X7_pieceCount at h
  unfold w_X7_pieceCount
  refine ⟨(cr_k hR f_o0).trans (cf_k (a := 3) hF rfl (by decide)), ?_⟩
  try simp -zeta -zetaUnused only [cr_i hR f_o0]
  obtain ⟨p3, s2, e_s2, h⟩ := fg_b_s h
  refine ft_X11_within hR hF e_s2 (fun b_s2 S_s2 x_s2 r_s2 F_s2 => ?_)
  refine fg_ite Iff.rfl (fun d => ?_) (fun d => ?_)
  · have h := fg_if_t d h
    unfold w_X7_pieceCount_33
    unfold w_X7_pieceCount_34
    obtain ⟨q, q2⟩ := fg_ret h
    subst q
    subst q2
    exact hQ _ _ x_s2 r_s2 F_s2
  · have h := fg_if_e d h
    refine ⟨(cr_k r_s2 (cr_atx f_o0 x_s2)).trans (cf_k (a := 3) F_s2 rfl (by decide)), ?_⟩
    obtain ⟨A_a6, w_a6, f_a6⟩ := cr_aos (cr_r r_s2 (cr_atx f_o0 x_s2) _) (cf_r (a := 3) (j := 2) (y := 16) F_s2 rfl)
    refine ⟨A_a6, w_a6, ?_⟩
    refine ⟨(cr_k r_s2 f_a6).trans (cf_k (a := 16) F_s2 rfl (by decide)), ?_⟩
    obtain ⟨c, h⟩ := fg_g_s h
    refine ⟨cr_vp (cr_n r_s2 f_a6) (cf_n (a := 16) F_s2 rfl (by decide) rfl) c, ?_⟩
    refine fg_ite (cr_isn (cr_r r_s2 f_a6 _)) (fun d => ?_) (fun d => ?_)
    · have h := fg_if_t d h
      unfold w_X7_pieceCount_33
      unfold w_X7_pieceCount_34
      obtain ⟨q, q2⟩ := fg_ret h
      subst q
      subst q2
      exact hQ _ _ x_s2 r_s2 F_s2
    · have h := fg_if_e d h
      obtain ⟨A_a10, w_a10, f_a10⟩ := cr_aos (cr_r r_s2 (cr_atx f_o0 x_s2) _) (cf_r (a := 3) (j := 2) (y := 16) F_s2 rfl)
      refine ⟨A_a10, w_a10, ?_⟩
      refine ⟨(cr_k r_s2 f_a10).trans (cf_k (a := 16) F_s2 rfl (by decide)), ?_⟩
      obtain ⟨c, h⟩ := fg_g_s h
      refine ⟨cr_vp (cr_n r_s2 f_a10) (cf_n (a := 16) F_s2 rfl (by decide) rfl) c, ?_⟩
      obtain ⟨a13, o_a13, h⟩ := fg_o_s h
      obtain ⟨A_a13, w_a13, f_a13⟩ := cr_aos (cr_r r_s2 f_a10 _) o_a13
      refine ⟨A_a13, w_a13, ?_⟩
      obtain ⟨c_a13_1, h⟩ := fg_g_s h
      refine ⟨(cr_k r_s2 f_a13).trans c_a13_1, ?_⟩
      obtain ⟨a15, o_a15, h⟩ := fg_o_s h
      obtain ⟨A_a15, w_a15, f_a15⟩ := cr_aos (cr_r r_s2 f_a13 _) o_a15
      refine ⟨A_a15, w_a15, ?_⟩
      obtain ⟨c_a15_2, h⟩ := fg_g_s h
      refine ⟨(cr_k r_s2 f_a15).trans c_a15_2, ?_⟩
      unfold w_X7_pieceCount_34
      try simp -zeta -zetaUnused only [cr_n r_s2 f_a15]
      obtain ⟨q, q2⟩ := fg_ret h
      subst q
      subst q2
      exact hQ _ _ x_s2 r_s2 F_s2
set_option maxRecDepth 100000 in
set_option maxHeartbeats 4000000 in
theorem ft_X7_pieceAt {E : h_S} {g : h_G} {r : Option Nat} {t : h_S} {Q : Option Nat → h_S → Prop} {b : Nat → Nat} {s S_s : h_S} {A_o0 : Nat} {x1 : Int32} {x2 : Int32} (hR : c_R E g b s S_s) (hF : c_F s) (f_o0 : c_at b s 3 A_o0) (h : fn_X7_pieceAt x1 x2 s = some (r, t)) (hQ : ∀ (b2 : Nat → Nat) (R2 : Option Nat) (S2 : h_S), c_ext b s b2 t → c_R E g b2 t S2 → c_F t → c_ao b2 t r R2 → Q R2 S2) : w_X7_pieceAt A_o0 x1 x2 S_s Q := by
  unfold fn_X7_pieceAt at h
  unfold w_X7_pieceAt
  refine ⟨(cr_k hR f_o0).trans (cf_k (a := 3) hF rfl (by decide)), ?_⟩
  obtain ⟨p3, s2, e_s2, h⟩ := fg_b_s h
  refine ft_X7_pieceCount hR hF f_o0 e_s2 (fun b_s2 S_s2 x_s2 r_s2 F_s2 => ?_)
  obtain ⟨p5, s4, e_s4, h⟩ := fg_b_s h
  refine ft_X11_within r_s2 F_s2 e_s4 (fun b_s4 S_s4 x_s4 r_s4 F_s4 => ?_)
  refine fg_ite Iff.rfl (fun d => ?_) (fun d => ?_)
  · have h := fg_if_t d h
    unfold w_X7_pieceAt_27
    obtain ⟨q, q2⟩ := fg_ret h
    subst q
    subst q2
    exact hQ _ _ _ (cr_xt x_s2 x_s4) r_s4 F_s4 cr_none
  · have h := fg_if_e d h
    refine ⟨(cr_k r_s4 (cr_atx (cr_atx f_o0 x_s2) x_s4)).trans (cf_k (a := 3) F_s4 rfl (by decide)), ?_⟩
    obtain ⟨A_a8, w_a8, f_a8⟩ := cr_aos (cr_r r_s4 (cr_atx (cr_atx f_o0 x_s2) x_s4) _) (cf_r (a := 3) (j := 2) (y := 16) F_s4 rfl)
    refine ⟨A_a8, w_a8, ?_⟩
    refine ⟨(cr_k r_s4 f_a8).trans (cf_k (a := 16) F_s4 rfl (by decide)), ?_⟩
    obtain ⟨c, h⟩ := fg_g_s h
    refine ⟨cr_vp (cr_n r_s4 f_a8) (cf_n (a := 16) F_s4 rfl (by decide) rfl) c, ?_⟩
    obtain ⟨a11, o_a11, h⟩ := fg_o_s h
    obtain ⟨A_a11, w_a11, f_a11⟩ := cr_aos (cr_r r_s4 f_a8 _) o_a11
    refine ⟨A_a11, w_a11, ?_⟩
    obtain ⟨c_a11_1, h⟩ := fg_g_s h
    refine ⟨(cr_k r_s4 f_a11).trans c_a11_1, ?_⟩
    obtain ⟨a13, o_a13, h⟩ := fg_o_s h
    obtain ⟨A_a13, w_a13, f_a13⟩ := cr_aos (cr_r r_s4 f_a11 _) o_a13
    refine ⟨A_a13, w_a13, ?_⟩
    obtain ⟨c_a13_2, h⟩ := fg_g_s h
    refine ⟨(cr_k r_s4 f_a13).trans c_a13_2, ?_⟩
    obtain ⟨c, h⟩ := fg_g_s h
    refine ⟨cr_vp (cr_n r_s4 f_a13) rfl c, ?_⟩
    unfold w_X7_pieceAt_27
    obtain ⟨q, q2⟩ := fg_ret h
    subst q
    subst q2
    exact hQ _ _ _ (cr_xt x_s2 x_s4) r_s4 F_s4 (cr_r r_s4 f_a13 _)
set_option maxRecDepth 100000 in
set_option maxHeartbeats 4000000 in
theorem ft_X7_stretch_18 {E : h_S} {g : h_G} {r : Int32} {t : h_S} {Q : Int32 → h_S → Prop} {b : Nat → Nat} {s S_s : h_S} {r0 : Option Nat} {R_r0 : Option Nat} {y0 : Int32} (hR : c_R E g b s S_s) (hF : c_F s) (f_r0 : c_ao b s r0 R_r0) (h : fn_X7_stretch_18 r0 y0 s = some (r, t)) (hQ : ∀ (b2 : Nat → Nat) (S2 : h_S), c_ext b s b2 t → c_R E g b2 t S2 → c_F t → Q r S2) : w_X7_stretch_18 Q R_r0 y0 S_s := by
  unfold fn_X7_stretch_18 at h
  unfold w_X7_stretch_18
  obtain ⟨a1, o_a1, h⟩ := fg_o_s h
  obtain ⟨A_a1, w_a1, f_a1⟩ := cr_aos f_r0 o_a1
  refine ⟨A_a1, w_a1, ?_⟩
  obtain ⟨c_a1_1, h⟩ := fg_g_s h
  refine ⟨(cr_k hR f_a1).trans c_a1_1, ?_⟩
  try simp -zeta -zetaUnused only [cr_i hR f_a1]
  refine fg_ite Iff.rfl (fun d => ?_) (fun d => ?_)
  · have h := fg_if_t d h
    obtain ⟨a4, o_a4, h⟩ := fg_o_s h
    obtain ⟨A_a4, w_a4, f_a4⟩ := cr_aos f_r0 o_a4
    refine ⟨A_a4, w_a4, ?_⟩
    obtain ⟨c_a4_2, h⟩ := fg_g_s h
    refine ⟨(cr_k hR f_a4).trans c_a4_2, ?_⟩
    unfold w_X7_stretch_35
    try simp -zeta -zetaUnused only [cr_i hR f_a4]
    obtain ⟨q, q2⟩ := fg_ret h
    subst q
    subst q2
    exact hQ _ _ cr_xr hR hF
  · have h := fg_if_e d h
    unfold w_X7_stretch_35
    obtain ⟨q, q2⟩ := fg_ret h
    subst q
    subst q2
    exact hQ _ _ cr_xr hR hF
set_option maxRecDepth 100000 in
set_option maxHeartbeats 4000000 in
theorem ft_X7_stretch {E : h_S} {g : h_G} {r : Int32} {t : h_S} {Q : Int32 → h_S → Prop} {b : Nat → Nat} {s S_s : h_S} {r0 : Option Nat} {R_r0 : Option Nat} {x1 : Int32} (hR : c_R E g b s S_s) (hF : c_F s) (f_r0 : c_ao b s r0 R_r0) (h : fn_X7_stretch r0 x1 s = some (r, t)) (hQ : ∀ (b2 : Nat → Nat) (S2 : h_S), c_ext b s b2 t → c_R E g b2 t S2 → c_F t → Q r S2) : w_X7_stretch R_r0 x1 S_s Q := by
  unfold fn_X7_stretch at h
  unfold w_X7_stretch
  obtain ⟨a1, o_a1, h⟩ := fg_o_s h
  obtain ⟨A_a1, w_a1, f_a1⟩ := cr_aos f_r0 o_a1
  refine ⟨A_a1, w_a1, ?_⟩
  obtain ⟨c_a1_1, h⟩ := fg_g_s h
  refine ⟨(cr_k hR f_a1).trans c_a1_1, ?_⟩
  try simp -zeta -zetaUnused only [cr_i hR f_a1]
  refine fg_ite Iff.rfl (fun d => ?_) (fun d => ?_)
  · have h := fg_if_t d h
    exact ft_X7_stretch_18 hR hF f_r0 h (fun b2 S2 x2 => hQ b2 S2 (cr_xt cr_xr x2))
  · have h := fg_if_e d h
    obtain ⟨a4, o_a4, h⟩ := fg_o_s h
    obtain ⟨A_a4, w_a4, f_a4⟩ := cr_aos f_r0 o_a4
    refine ⟨A_a4, w_a4, ?_⟩
    obtain ⟨c_a4_2, h⟩ := fg_g_s h
    refine ⟨(cr_k hR f_a4).trans c_a4_2, ?_⟩
    try simp -zeta -zetaUnused only [cr_i hR f_a4]
    exact ft_X7_stretch_18 hR hF f_r0 h (fun b2 S2 x2 => hQ b2 S2 (cr_xt cr_xr x2))
set_option maxRecDepth 100000 in
set_option maxHeartbeats 4000000 in
theorem ft_X7_lay_37b {E : h_S} {g : h_G} {C : Int32 → Int32 → Int32 → h_S → fg_R (Option Nat) h_S} {WC : Nat → Int32 → Int32 → Int32 → h_S → Nat → Nat → (Option Nat → h_S → Prop) → Prop} (hC : ∀ {b : Nat → Nat} {s S_s : h_S} {r : Option Nat} {t : h_S} {Q : Option Nat → h_S → Prop} {c d mc ms : Nat} {A_o0 : Nat} {x1 : Int32} {x2 : Int32} {x3 : Int32}, c_R E g b s S_s → c_F s → c_at b s 3 A_o0 → C x1 x2 x3 s = some (r, t, c, d) → (∀ (b2 : Nat → Nat) (R2 : Option Nat) (S2 : h_S), c_ext b s b2 t → c_R E g b2 t S2 → c_F t → c_ao b2 t r R2 → Q R2 S2) → c ≤ mc → d ≤ ms → WC A_o0 x1 x2 x3 S_s mc ms Q) {r : Int32} {t : h_S} {Q : Int32 → h_S → Prop} {K37 : Option Nat → Int32 → Option Nat → Int32 → Int32 → h_S → fg_R (Int32) h_S} {WK37 : Option Nat → Int32 → Option Nat → Int32 → Int32 → h_S → Nat → Nat → Prop} (hK37 : ∀ {b : Nat → Nat} {s S_s : h_S} {C D bc bs : Nat} {r1 : Option Nat} {R_r1 : Option Nat} {x4 : Int32} {r5 : Option Nat} {R_r5 : Option Nat} {x7 : Int32} {x8 : Int32}, c_R E g b s S_s → c_F s → c_ao b s r1 R_r1 → c_ao b s r5 R_r5 → K37 r1 x4 r5 x7 x8 s = some (r, t, C, D) → (∀ (b2 : Nat → Nat) (S2 : h_S), c_ext b s b2 t → c_R E g b2 t S2 → c_F t → Q r S2) → C ≤ bc → D ≤ bs → WK37 R_r1 x4 R_r5 x7 x8 S_s bc bs) {b : Nat → Nat} {s S_s : h_S} {C0 D0 bc bs : Nat} {r1 : Option Nat} {R_r1 : Option Nat} {x4 : Int32} {r5 : Option Nat} {R_r5 : Option Nat} {x7 : Int32} {x8 : Int32} (hR : c_R E g b s S_s) (hF : c_F s) (f_r1 : c_ao b s r1 R_r1) (f_r5 : c_ao b s r5 R_r5) (h : fn_X7_lay_37b C K37 r1 x4 r5 x7 x8 s = some (r, t, C0, D0)) (hQ : ∀ (b2 : Nat → Nat) (S2 : h_S), c_ext b s b2 t → c_R E g b2 t S2 → c_F t → Q r S2) (hc : C0 ≤ bc) (hd : D0 ≤ bs) : w_X7_lay_37b WC Q WK37 R_r1 x4 R_r5 x7 x8 S_s bc bs := by
  unfold fn_X7_lay_37b at h
  unfold w_X7_lay_37b
  refine fg_ite Iff.rfl (fun d => ?_) (fun d => ?_)
  · have h := fg_if_t d h
    obtain ⟨q, q2⟩ := fg_retc h
    subst q
    subst q2
    exact hQ _ _ cr_xr hR hF
  · have h := fg_if_e d h
    obtain ⟨a2, o_a2, h⟩ := fg_o_s h
    obtain ⟨A_a2, w_a2, f_a2⟩ := cr_aos f_r1 o_a2
    refine ⟨A_a2, w_a2, ?_⟩
    obtain ⟨c_a2_1, h⟩ := fg_g_s h
    refine ⟨(cr_k hR f_a2).trans c_a2_1, ?_⟩
    obtain ⟨a4, o_a4, h⟩ := fg_o_s h
    obtain ⟨A_a4, w_a4, f_a4⟩ := cr_aos f_r5 o_a4
    refine ⟨A_a4, w_a4, ?_⟩
    obtain ⟨c_a4_2, h⟩ := fg_g_s h
    refine ⟨(cr_k hR f_a4).trans c_a4_2, ?_⟩
    obtain ⟨c, h⟩ := fg_g_s h
    refine ⟨cr_vp (cr_n hR f_a4) rfl c, ?_⟩
    try simp -zeta -zetaUnused only [cr_i hR f_a2]
    obtain ⟨s7, e_s7, h⟩ := fg_let_s h
    intro S_s7
    have r_s7 : c_R E g b s7 S_s7 := by rw [e_s7]; exact cr_si hR f_a4 _ _
    have F_s7 : c_F s7 := by rw [e_s7]; exact cf_si hF _ _
    have x_s7 : c_ext b s b s7 := by rw [e_s7]; exact cx_si _ _
    clear_value S_s7
    exact hK37 r_s7 F_s7 (cr_aox f_r1 x_s7) (cr_aox f_r5 x_s7) h (fun b2 S2 x2 => hQ b2 S2 (cr_xt x_s7 x2)) hc hd
set_option maxRecDepth 100000 in
set_option maxHeartbeats 4000000 in
theorem ft_X7_lay_37 {E : h_S} {g : h_G} {C : Int32 → Int32 → Int32 → h_S → fg_R (Option Nat) h_S} {WC : Nat → Int32 → Int32 → Int32 → h_S → Nat → Nat → (Option Nat → h_S → Prop) → Prop} (hC : ∀ {b : Nat → Nat} {s S_s : h_S} {r : Option Nat} {t : h_S} {Q : Option Nat → h_S → Prop} {c d mc ms : Nat} {A_o0 : Nat} {x1 : Int32} {x2 : Int32} {x3 : Int32}, c_R E g b s S_s → c_F s → c_at b s 3 A_o0 → C x1 x2 x3 s = some (r, t, c, d) → (∀ (b2 : Nat → Nat) (R2 : Option Nat) (S2 : h_S), c_ext b s b2 t → c_R E g b2 t S2 → c_F t → c_ao b2 t r R2 → Q R2 S2) → c ≤ mc → d ≤ ms → WC A_o0 x1 x2 x3 S_s mc ms Q) {r : Int32} {t : h_S} {Q : Int32 → h_S → Prop} : ∀ (n : Nat) {b : Nat → Nat} {s S_s : h_S} {c0 d0 bc bs : Nat} {r1 : Option Nat} {R_r1 : Option Nat} {x4 : Int32} {r5 : Option Nat} {R_r5 : Option Nat} {x7 : Int32} {x8 : Int32}, c_R E g b s S_s → c_F s → c_ao b s r1 R_r1 → c_ao b s r5 R_r5 → fn_X7_lay_37 C n r1 x4 r5 x7 x8 s = some (r, t, c0, d0) → (∀ (b2 : Nat → Nat) (S2 : h_S), c_ext b s b2 t → c_R E g b2 t S2 → c_F t → Q r S2) → c0 ≤ bc → d0 ≤ bs → w_X7_lay_37 WC Q n R_r1 x4 R_r5 x7 x8 S_s bc bs := by
  intro n
  induction n with
  | zero => intros; rename_i h _ _ _; exact fg_none h
  | succ n ih => exact ft_X7_lay_37b @hC @ih
set_option maxRecDepth 100000 in
set_option maxHeartbeats 4000000 in
theorem ftx_X7_lay {E : h_S} {g : h_G} {C : Int32 → Int32 → Int32 → h_S → fg_R (Option Nat) h_S} {WC : Nat → Int32 → Int32 → Int32 → h_S → Nat → Nat → (Option Nat → h_S → Prop) → Prop} (hC : ∀ {b : Nat → Nat} {s S_s : h_S} {r : Option Nat} {t : h_S} {Q : Option Nat → h_S → Prop} {c d mc ms : Nat} {A_o0 : Nat} {x1 : Int32} {x2 : Int32} {x3 : Int32}, c_R E g b s S_s → c_F s → c_at b s 3 A_o0 → C x1 x2 x3 s = some (r, t, c, d) → (∀ (b2 : Nat → Nat) (R2 : Option Nat) (S2 : h_S), c_ext b s b2 t → c_R E g b2 t S2 → c_F t → c_ao b2 t r R2 → Q R2 S2) → c ≤ mc → d ≤ ms → WC A_o0 x1 x2 x3 S_s mc ms Q) {r : Int32} {t : h_S} {Q : Int32 → h_S → Prop} {b : Nat → Nat} {s S_s : h_S} {C0 D0 mc ms : Nat} {A_o0 : Nat} {r1 : Option Nat} {R_r1 : Option Nat} {x2 : Int32} {x3 : Int32} {x4 : Int32} (hR : c_R E g b s S_s) (hF : c_F s) (f_o0 : c_at b s 3 A_o0) (f_r1 : c_ao b s r1 R_r1) (h : fnx_X7_lay C r1 x2 x3 x4 s = some (r, t, C0, D0)) (hQ : ∀ (b2 : Nat → Nat) (S2 : h_S), c_ext b s b2 t → c_R E g b2 t S2 → c_F t → Q r S2) (hc : C0 ≤ mc) (hd : D0 ≤ ms) : wx_X7_lay WC A_o0 R_r1 x2 x3 x4 S_s mc ms Q := by
  unfold fnx_X7_lay at h
  unfold wx_X7_lay
  refine ⟨(cr_k hR f_o0).trans (cf_k (a := 3) hF rfl (by decide)), ?_⟩
  obtain ⟨A_a2, w_a2, f_a2⟩ := cr_aos (cr_r hR f_o0 _) (cf_r (a := 3) (j := 7) (y := 21) hF rfl)
  refine ⟨A_a2, w_a2, ?_⟩
  refine ⟨(cr_k hR f_a2).trans (cf_k (a := 21) hF rfl (by decide)), ?_⟩
  obtain ⟨c, h⟩ := fg_g_s h
  refine ⟨cr_vp (cr_n hR f_a2) (cf_n (a := 21) hF rfl (by decide) rfl) c, ?_⟩
  obtain ⟨a5, o_a5, h⟩ := fg_o_s h
  obtain ⟨A_a5, w_a5, f_a5⟩ := cr_aos f_r1 o_a5
  refine ⟨A_a5, w_a5, ?_⟩
  obtain ⟨c_a5_1, h⟩ := fg_g_s h
  refine ⟨(cr_k hR f_a5).trans c_a5_1, ?_⟩
  obtain ⟨p8, s7, e_s7, h⟩ := fg_b_s h
  refine ft_X2_hasWords hR hF f_a5 e_s7 (fun b_s7 S_s7 x_s7 r_s7 F_s7 => ?_)
  refine fg_ite Iff.rfl (fun d => ?_) (fun d => ?_)
  · have h := fg_if_t d h
    refine fg_ite Iff.rfl (fun d => ?_) (fun d => ?_)
    · have h := fg_if_t d h
      obtain ⟨a11, o_a11, h⟩ := fg_o_s h
      obtain ⟨A_a11, w_a11, f_a11⟩ := cr_aos f_r1 o_a11
      refine ⟨A_a11, w_a11, ?_⟩
      obtain ⟨c_a11_2, h⟩ := fg_g_s h
      refine ⟨(cr_k r_s7 (cr_atx f_a11 x_s7)).trans c_a11_2, ?_⟩
      obtain ⟨a13, o_a13, h⟩ := fg_o_s h
      obtain ⟨A_a13, w_a13, f_a13⟩ := cr_aos f_r1 o_a13
      refine ⟨A_a13, w_a13, ?_⟩
      obtain ⟨c_a13_3, h⟩ := fg_g_s h
      refine ⟨(cr_k r_s7 (cr_atx f_a13 x_s7)).trans c_a13_3, ?_⟩
      obtain ⟨p16, s15, e_s15, h⟩ := fg_b_s h
      refine ft_X2_momentWithin r_s7 F_s7 (cr_atx f_a13 x_s7) e_s15 (fun b_s15 S_s15 x_s15 r_s15 F_s15 => ?_)
      refine ⟨(cr_k r_s15 (cr_atx (cr_atx f_o0 x_s7) x_s15)).trans (cf_k (a := 3) F_s15 rfl (by decide)), ?_⟩
      try simp -zeta -zetaUnused only [cr_i r_s7 (cr_atx f_a11 x_s7)]
      obtain ⟨p19, s18, mc20, ms21, C_s18, D_s18, e_s18, h, q_s18, w_s18⟩ := fg_bc_s h
      obtain ⟨u1_s18, hc⟩ := fg_sp q_s18 hc
      obtain ⟨u2_s18, hd⟩ := fg_sp w_s18 hd
      refine ⟨mc20, ms21, u1_s18, u2_s18, hC r_s15 F_s15 (cr_atx (cr_atx f_o0 x_s7) x_s15) e_s18 (fun b_s18 R_p19 S_s18 x_s18 r_s18 F_s18 f_p19 => ?_) (Nat.le_refl _) (Nat.le_refl _)⟩
      obtain ⟨a24, o_a24, h⟩ := fg_o_s h
      obtain ⟨A_a24, w_a24, f_a24⟩ := cr_aos f_p19 o_a24
      refine ⟨A_a24, w_a24, ?_⟩
      obtain ⟨c_a24_4, h⟩ := fg_g_s h
      refine ⟨(cr_k r_s18 f_a24).trans c_a24_4, ?_⟩
      try simp -zeta -zetaUnused only [cr_i r_s18 f_a24]
      obtain ⟨p27, s26, e_s26, h⟩ := fg_b_s h
      refine ft_X7_stretch r_s18 F_s18 (cr_aox (cr_aox (cr_aox f_r1 x_s7) x_s15) x_s18) e_s26 (fun b_s26 S_s26 x_s26 r_s26 F_s26 => ?_)
      obtain ⟨v28, e_v28, h⟩ := fg_let_s h
      intro S_v28
      have z_v28 : v28 = S_v28 := e_v28
      clear_value S_v28
      subst z_v28
      refine fg_ite Iff.rfl (fun d => ?_) (fun d => ?_)
      · have h := fg_if_t d h
        unfold w_X7_lay_145
        obtain ⟨q, q2⟩ := fg_retc h
        subst q
        subst q2
        exact hQ _ _ (cr_xt x_s7 (cr_xt x_s15 (cr_xt x_s18 x_s26))) r_s26 F_s26
      · have h := fg_if_e d h
        obtain ⟨a30, o_a30, h⟩ := fg_o_s h
        obtain ⟨A_a30, w_a30, f_a30⟩ := cr_aos f_p19 o_a30
        refine ⟨A_a30, w_a30, ?_⟩
        obtain ⟨c_a30_5, h⟩ := fg_g_s h
        refine ⟨(cr_k r_s26 (cr_atx f_a30 x_s26)).trans c_a30_5, ?_⟩
        obtain ⟨a32, o_a32, h⟩ := fg_o_s h
        obtain ⟨A_a32, w_a32, f_a32⟩ := cr_aos f_r1 o_a32
        refine ⟨A_a32, w_a32, ?_⟩
        obtain ⟨c_a32_6, h⟩ := fg_g_s h
        refine ⟨(cr_k r_s26 (cr_atx (cr_atx (cr_atx (cr_atx f_a32 x_s7) x_s15) x_s18) x_s26)).trans c_a32_6, ?_⟩
        obtain ⟨a34, o_a34, h⟩ := fg_o_s h
        obtain ⟨A_a34, w_a34, f_a34⟩ := cr_aos (cr_r hR f_a2 _) o_a34
        refine ⟨A_a34, w_a34, ?_⟩
        obtain ⟨c_a34_7, h⟩ := fg_g_s h
        refine ⟨(cr_k r_s26 (cr_atx (cr_atx (cr_atx (cr_atx f_a34 x_s7) x_s15) x_s18) x_s26)).trans c_a34_7, ?_⟩
        obtain ⟨a36, o_a36, h⟩ := fg_o_s h
        obtain ⟨A_a36, w_a36, f_a36⟩ := cr_aos (cr_r r_s26 (cr_atx f_a30 x_s26) _) o_a36
        refine ⟨A_a36, w_a36, ?_⟩
        obtain ⟨c_a36_8, h⟩ := fg_g_s h
        refine ⟨(cr_k r_s26 f_a36).trans c_a36_8, ?_⟩
        try simp -zeta -zetaUnused only [cr_i r_s26 (cr_atx (cr_atx (cr_atx (cr_atx f_a32 x_s7) x_s15) x_s18) x_s26)]
        obtain ⟨c, h⟩ := fg_g_s h
        refine ⟨c, ?_⟩
        obtain ⟨c, h⟩ := fg_g_s h
        refine ⟨c, ?_⟩
        obtain ⟨c, h⟩ := fg_g_s h
        refine ⟨c, ?_⟩
        try simp -zeta -zetaUnused only [cr_n r_s26 f_a36]
        obtain ⟨c, h⟩ := fg_g_s h
        refine ⟨c, ?_⟩
        try simp -zeta -zetaUnused only [cr_n r_s26 (cr_atx (cr_atx (cr_atx (cr_atx f_a34 x_s7) x_s15) x_s18) x_s26)]
        obtain ⟨c, h⟩ := fg_g_s h
        refine ⟨c, ?_⟩
        obtain ⟨s43, e_s43, h⟩ := fg_let_s h
        intro S_s43
        have r_s43 : c_R E g b_s26 s43 S_s43 := by rw [e_s43]; exact cr_cp r_s26 f_a36 (cr_atx (cr_atx (cr_atx (cr_atx f_a34 x_s7) x_s15) x_s18) x_s26) _ _ _
        have F_s43 : c_F s43 := by rw [e_s43]; exact cf_cp F_s26 _ _ _
        have x_s43 : c_ext b_s26 s26 b_s26 s43 := by rw [e_s43]; exact cx_cp _ _ _
        clear_value S_s43
        unfold w_X7_lay_145
        obtain ⟨q, q2⟩ := fg_retc h
        subst q
        subst q2
        exact hQ _ _ (cr_xt x_s7 (cr_xt x_s15 (cr_xt x_s18 (cr_xt x_s26 x_s43)))) r_s43 F_s43
    · have h := fg_if_e d h
      obtain ⟨a44, o_a44, h⟩ := fg_o_s h
      obtain ⟨A_a44, w_a44, f_a44⟩ := cr_aos (cr_r hR f_a2 _) o_a44
      refine ⟨A_a44, w_a44, ?_⟩
      obtain ⟨c_a44_2, h⟩ := fg_g_s h
      refine ⟨(cr_k r_s7 (cr_atx f_a44 x_s7)).trans c_a44_2, ?_⟩
      obtain ⟨c, h⟩ := fg_g_s h
      refine ⟨cr_vp (cr_n r_s7 (cr_atx f_a44 x_s7)) rfl c, ?_⟩
      obtain ⟨s47, e_s47, h⟩ := fg_let_s h
      intro S_s47
      have r_s47 : c_R E g b_s7 s47 S_s47 := by rw [e_s47]; exact cr_si r_s7 (cr_atx f_a44 x_s7) _ _
      have F_s47 : c_F s47 := by rw [e_s47]; exact cf_si F_s7 _ _
      have x_s47 : c_ext b_s7 s7 b_s7 s47 := by rw [e_s47]; exact cx_si _ _
      clear_value S_s47
      obtain ⟨q, q2⟩ := fg_retc h
      subst q
      subst q2
      exact hQ _ _ (cr_xt x_s7 x_s47) r_s47 F_s47
  · have h := fg_if_e d h
    obtain ⟨a48, o_a48, h⟩ := fg_o_s h
    obtain ⟨A_a48, w_a48, f_a48⟩ := cr_aos f_r1 o_a48
    refine ⟨A_a48, w_a48, ?_⟩
    obtain ⟨c_a48_2, h⟩ := fg_g_s h
    refine ⟨(cr_k r_s7 (cr_atx f_a48 x_s7)).trans c_a48_2, ?_⟩
    try simp -zeta -zetaUnused only [cr_i r_s7 (cr_atx f_a48 x_s7)]
    obtain ⟨v50, e_v50, h⟩ := fg_let_s h
    intro S_v50
    have z_v50 : v50 = S_v50 := e_v50
    clear_value S_v50
    subst z_v50
    exact ⟨g_N, ft_X7_lay_37 @hC g_N r_s7 F_s7 (cr_aox f_r1 x_s7) (cr_aox (cr_r hR f_a2 _) x_s7) h (fun b2 S2 x2 => hQ b2 S2 (cr_xt x_s7 x2)) hc hd⟩
set_option maxRecDepth 100000 in
set_option maxHeartbeats 4000000 in
theorem ft_X7_shownOf_128 {E : h_S} {g : h_G} {C : Int32 → Int32 → Int32 → h_S → fg_R (Option Nat) h_S} {WC : Nat → Int32 → Int32 → Int32 → h_S → Nat → Nat → (Option Nat → h_S → Prop) → Prop} (hC : ∀ {b : Nat → Nat} {s S_s : h_S} {r : Option Nat} {t : h_S} {Q : Option Nat → h_S → Prop} {c d mc ms : Nat} {A_o0 : Nat} {x1 : Int32} {x2 : Int32} {x3 : Int32}, c_R E g b s S_s → c_F s → c_at b s 3 A_o0 → C x1 x2 x3 s = some (r, t, c, d) → (∀ (b2 : Nat → Nat) (R2 : Option Nat) (S2 : h_S), c_ext b s b2 t → c_R E g b2 t S2 → c_F t → c_ao b2 t r R2 → Q R2 S2) → c ≤ mc → d ≤ ms → WC A_o0 x1 x2 x3 S_s mc ms Q) {r : Option Nat} {t : h_S} {Q : Option Nat → h_S → Prop} {b : Nat → Nat} {s S_s : h_S} {C0 D0 bc bs : Nat} {A_o0 : Nat} {x4 : Int32} {r6 : Option Nat} {R_r6 : Option Nat} {x7 : Int32} {x9 : Int32} (hR : c_R E g b s S_s) (hF : c_F s) (f_o0 : c_at b s 3 A_o0) (f_r6 : c_ao b s r6 R_r6) (h : fn_X7_shownOf_128 C x4 r6 x7 x9 s = some (r, t, C0, D0)) (hQ : ∀ (b2 : Nat → Nat) (R2 : Option Nat) (S2 : h_S), c_ext b s b2 t → c_R E g b2 t S2 → c_F t → c_ao b2 t r R2 → Q R2 S2) (hc : C0 ≤ bc) (hd : D0 ≤ bs) : w_X7_shownOf_128 WC Q A_o0 x4 R_r6 x7 x9 S_s bc bs := by
  unfold fn_X7_shownOf_128 at h
  unfold w_X7_shownOf_128
  refine ⟨(cr_k hR f_o0).trans (cf_k (a := 3) hF rfl (by decide)), ?_⟩
  obtain ⟨A_a2, w_a2, f_a2⟩ := cr_aos (cr_r hR f_o0 _) (cf_r (a := 3) (j := 7) (y := 21) hF rfl)
  refine ⟨A_a2, w_a2, ?_⟩
  refine ⟨(cr_k hR f_a2).trans (cf_k (a := 21) hF rfl (by decide)), ?_⟩
  obtain ⟨c, h⟩ := fg_g_s h
  refine ⟨cr_vp (cr_n hR f_a2) (cf_n (a := 21) hF rfl (by decide) rfl) c, ?_⟩
  obtain ⟨a5, o_a5, h⟩ := fg_o_s h
  obtain ⟨A_a5, w_a5, f_a5⟩ := cr_aos f_r6 o_a5
  refine ⟨A_a5, w_a5, ?_⟩
  obtain ⟨c_a5_1, h⟩ := fg_g_s h
  refine ⟨(cr_k hR f_a5).trans c_a5_1, ?_⟩
  obtain ⟨u_, s7, mc9, ms10, C_s7, D_s7, e_s7, h, q_s7, w_s7⟩ := fg_bc_s h
  obtain ⟨u1_s7, hc⟩ := fg_sp q_s7 hc
  obtain ⟨u2_s7, hd⟩ := fg_sp w_s7 hd
  refine ⟨mc9, ms10, u1_s7, u2_s7, ft_X6_keep hR hF f_a5 (cr_r hR f_a2 _) e_s7 (fun b_s7 S_s7 x_s7 r_s7 F_s7 => ?_) (Nat.le_refl _) (Nat.le_refl _)⟩
  unfold w_X7_shownOf_144
  obtain ⟨q, q2⟩ := fg_retc h
  subst q
  subst q2
  exact hQ _ _ _ x_s7 r_s7 F_s7 (cr_aox f_r6 x_s7)
set_option maxRecDepth 100000 in
set_option maxHeartbeats 4000000 in
theorem ft_X7_shownOf_90b {E : h_S} {g : h_G} {C : Int32 → Int32 → Int32 → h_S → fg_R (Option Nat) h_S} {WC : Nat → Int32 → Int32 → Int32 → h_S → Nat → Nat → (Option Nat → h_S → Prop) → Prop} (hC : ∀ {b : Nat → Nat} {s S_s : h_S} {r : Option Nat} {t : h_S} {Q : Option Nat → h_S → Prop} {c d mc ms : Nat} {A_o0 : Nat} {x1 : Int32} {x2 : Int32} {x3 : Int32}, c_R E g b s S_s → c_F s → c_at b s 3 A_o0 → C x1 x2 x3 s = some (r, t, c, d) → (∀ (b2 : Nat → Nat) (R2 : Option Nat) (S2 : h_S), c_ext b s b2 t → c_R E g b2 t S2 → c_F t → c_ao b2 t r R2 → Q R2 S2) → c ≤ mc → d ≤ ms → WC A_o0 x1 x2 x3 S_s mc ms Q) {r : Option Nat} {t : h_S} {Q : Option Nat → h_S → Prop} {K90 : Int32 → Int32 → Option Nat → Int32 → Option Nat → Int32 → Int32 → h_S → fg_R (Option Nat) h_S} {WK90 : Nat → Int32 → Int32 → Option Nat → Int32 → Option Nat → Int32 → Int32 → h_S → Nat → Nat → Prop} (hK90 : ∀ {b : Nat → Nat} {s S_s : h_S} {C D bc bs : Nat} {A_o0 : Nat} {x2 : Int32} {x4 : Int32} {r6 : Option Nat} {R_r6 : Option Nat} {x7 : Int32} {r8 : Option Nat} {R_r8 : Option Nat} {x9 : Int32} {x10 : Int32}, c_R E g b s S_s → c_F s → c_at b s 3 A_o0 → c_ao b s r6 R_r6 → c_ao b s r8 R_r8 → K90 x2 x4 r6 x7 r8 x9 x10 s = some (r, t, C, D) → (∀ (b2 : Nat → Nat) (R2 : Option Nat) (S2 : h_S), c_ext b s b2 t → c_R E g b2 t S2 → c_F t → c_ao b2 t r R2 → Q R2 S2) → C ≤ bc → D ≤ bs → WK90 A_o0 x2 x4 R_r6 x7 R_r8 x9 x10 S_s bc bs) {b : Nat → Nat} {s S_s : h_S} {C0 D0 bc bs : Nat} {A_o0 : Nat} {x2 : Int32} {x4 : Int32} {r6 : Option Nat} {R_r6 : Option Nat} {x7 : Int32} {r8 : Option Nat} {R_r8 : Option Nat} {x9 : Int32} {x10 : Int32} (hR : c_R E g b s S_s) (hF : c_F s) (f_o0 : c_at b s 3 A_o0) (f_r6 : c_ao b s r6 R_r6) (f_r8 : c_ao b s r8 R_r8) (h : fn_X7_shownOf_90b C K90 x2 x4 r6 x7 r8 x9 x10 s = some (r, t, C0, D0)) (hQ : ∀ (b2 : Nat → Nat) (R2 : Option Nat) (S2 : h_S), c_ext b s b2 t → c_R E g b2 t S2 → c_F t → c_ao b2 t r R2 → Q R2 S2) (hc : C0 ≤ bc) (hd : D0 ≤ bs) : w_X7_shownOf_90b WC Q WK90 A_o0 x2 x4 R_r6 x7 R_r8 x9 x10 S_s bc bs := by
  unfold fn_X7_shownOf_90b at h
  unfold w_X7_shownOf_90b
  obtain ⟨a1, o_a1, h⟩ := fg_o_s h
  obtain ⟨A_a1, w_a1, f_a1⟩ := cr_aos f_r8 o_a1
  refine ⟨A_a1, w_a1, ?_⟩
  obtain ⟨c_a1_1, h⟩ := fg_g_s h
  refine ⟨(cr_k hR f_a1).trans c_a1_1, ?_⟩
  try simp -zeta -zetaUnused only [cr_n hR f_a1]
  refine fg_ite Iff.rfl (fun d => ?_) (fun d => ?_)
  · have h := fg_if_t d h
    exact ft_X7_shownOf_128 @hC hR hF f_o0 f_r6 h (fun b2 R2 S2 x2 => hQ b2 R2 S2 (cr_xt cr_xr x2)) hc hd
  · have h := fg_if_e d h
    refine fg_ite Iff.rfl (fun d => ?_) (fun d => ?_)
    · have h := fg_if_t d h
      exact ft_X7_shownOf_128 @hC hR hF f_o0 f_r6 h (fun b2 R2 S2 x2 => hQ b2 R2 S2 (cr_xt cr_xr x2)) hc hd
    · have h := fg_if_e d h
      obtain ⟨a5, o_a5, h⟩ := fg_o_s h
      obtain ⟨A_a5, w_a5, f_a5⟩ := cr_aos f_r8 o_a5
      refine ⟨A_a5, w_a5, ?_⟩
      obtain ⟨c_a5_2, h⟩ := fg_g_s h
      refine ⟨(cr_k hR f_a5).trans c_a5_2, ?_⟩
      obtain ⟨c, h⟩ := fg_g_s h
      refine ⟨cr_vp (cr_n hR f_a5) rfl c, ?_⟩
      refine ⟨(cr_k hR f_o0).trans (cf_k (a := 3) hF rfl (by decide)), ?_⟩
      obtain ⟨p10, s9, mc11, ms12, C_s9, D_s9, e_s9, h, q_s9, w_s9⟩ := fg_bc_s h
      obtain ⟨u1_s9, hc⟩ := fg_sp q_s9 hc
      obtain ⟨u2_s9, hd⟩ := fg_sp w_s9 hd
      refine ⟨mc11, ms12, u1_s9, u2_s9, ftx_X7_lay @hC hR hF f_o0 (cr_r hR f_a5 _) e_s9 (fun b_s9 S_s9 x_s9 r_s9 F_s9 => ?_) (Nat.le_refl _) (Nat.le_refl _)⟩
      exact hK90 r_s9 F_s9 (cr_atx f_o0 x_s9) (cr_aox f_r6 x_s9) (cr_aox f_r8 x_s9) h (fun b2 R2 S2 x2 => hQ b2 R2 S2 (cr_xt x_s9 x2)) hc hd
set_option maxRecDepth 100000 in
set_option maxHeartbeats 4000000 in
theorem ft_X7_shownOf_90 {E : h_S} {g : h_G} {C : Int32 → Int32 → Int32 → h_S → fg_R (Option Nat) h_S} {WC : Nat → Int32 → Int32 → Int32 → h_S → Nat → Nat → (Option Nat → h_S → Prop) → Prop} (hC : ∀ {b : Nat → Nat} {s S_s : h_S} {r : Option Nat} {t : h_S} {Q : Option Nat → h_S → Prop} {c d mc ms : Nat} {A_o0 : Nat} {x1 : Int32} {x2 : Int32} {x3 : Int32}, c_R E g b s S_s → c_F s → c_at b s 3 A_o0 → C x1 x2 x3 s = some (r, t, c, d) → (∀ (b2 : Nat → Nat) (R2 : Option Nat) (S2 : h_S), c_ext b s b2 t → c_R E g b2 t S2 → c_F t → c_ao b2 t r R2 → Q R2 S2) → c ≤ mc → d ≤ ms → WC A_o0 x1 x2 x3 S_s mc ms Q) {r : Option Nat} {t : h_S} {Q : Option Nat → h_S → Prop} : ∀ (n : Nat) {b : Nat → Nat} {s S_s : h_S} {c0 d0 bc bs : Nat} {A_o0 : Nat} {x2 : Int32} {x4 : Int32} {r6 : Option Nat} {R_r6 : Option Nat} {x7 : Int32} {r8 : Option Nat} {R_r8 : Option Nat} {x9 : Int32} {x10 : Int32}, c_R E g b s S_s → c_F s → c_at b s 3 A_o0 → c_ao b s r6 R_r6 → c_ao b s r8 R_r8 → fn_X7_shownOf_90 C n x2 x4 r6 x7 r8 x9 x10 s = some (r, t, c0, d0) → (∀ (b2 : Nat → Nat) (R2 : Option Nat) (S2 : h_S), c_ext b s b2 t → c_R E g b2 t S2 → c_F t → c_ao b2 t r R2 → Q R2 S2) → c0 ≤ bc → d0 ≤ bs → w_X7_shownOf_90 WC Q n A_o0 x2 x4 R_r6 x7 R_r8 x9 x10 S_s bc bs := by
  intro n
  induction n with
  | zero => intros; rename_i h _ _ _; exact fg_none h
  | succ n ih => exact ft_X7_shownOf_90b @hC @ih
set_option maxRecDepth 100000 in
set_option maxHeartbeats 4000000 in
theorem ft_X7_shownOf_46 {E : h_S} {g : h_G} {C : Int32 → Int32 → Int32 → h_S → fg_R (Option Nat) h_S} {WC : Nat → Int32 → Int32 → Int32 → h_S → Nat → Nat → (Option Nat → h_S → Prop) → Prop} (hC : ∀ {b : Nat → Nat} {s S_s : h_S} {r : Option Nat} {t : h_S} {Q : Option Nat → h_S → Prop} {c d mc ms : Nat} {A_o0 : Nat} {x1 : Int32} {x2 : Int32} {x3 : Int32}, c_R E g b s S_s → c_F s → c_at b s 3 A_o0 → C x1 x2 x3 s = some (r, t, c, d) → (∀ (b2 : Nat → Nat) (R2 : Option Nat) (S2 : h_S), c_ext b s b2 t → c_R E g b2 t S2 → c_F t → c_ao b2 t r R2 → Q R2 S2) → c ≤ mc → d ≤ ms → WC A_o0 x1 x2 x3 S_s mc ms Q) {r : Option Nat} {t : h_S} {Q : Option Nat → h_S → Prop} {b : Nat → Nat} {s S_s : h_S} {C0 D0 bc bs : Nat} {A_o0 : Nat} {x1 : Int32} {x2 : Int32} {x3 : Int32} {x4 : Int32} {x5 : Int32} (hR : c_R E g b s S_s) (hF : c_F s) (f_o0 : c_at b s 3 A_o0) (h : fn_X7_shownOf_46 C x1 x2 x3 x4 x5 s = some (r, t, C0, D0)) (hQ : ∀ (b2 : Nat → Nat) (R2 : Option Nat) (S2 : h_S), c_ext b s b2 t → c_R E g b2 t S2 → c_F t → c_ao b2 t r R2 → Q R2 S2) (hc : C0 ≤ bc) (hd : D0 ≤ bs) : w_X7_shownOf_46 WC Q A_o0 x1 x2 x3 x4 x5 S_s bc bs := by
  unfold fn_X7_shownOf_46 at h
  unfold w_X7_shownOf_46
  refine ⟨(cr_k hR f_o0).trans (cf_k (a := 3) hF rfl (by decide)), ?_⟩
  obtain ⟨A_a2, w_a2, f_a2⟩ := cr_aos (cr_r hR f_o0 _) (cf_r (a := 3) (j := 6) (y := 20) hF rfl)
  refine ⟨A_a2, w_a2, ?_⟩
  refine ⟨(cr_k hR f_a2).trans (cf_k (a := 20) hF rfl (by decide)), ?_⟩
  obtain ⟨c, h⟩ := fg_g_s h
  refine ⟨cr_vp (cr_n hR f_a2) (cf_n (a := 20) hF rfl (by decide) rfl) c, ?_⟩
  obtain ⟨a5, o_a5, h⟩ := fg_o_s h
  obtain ⟨A_a5, w_a5, f_a5⟩ := cr_aos (cr_r hR f_a2 _) o_a5
  refine ⟨A_a5, w_a5, ?_⟩
  obtain ⟨c_a5_1, h⟩ := fg_g_s h
  refine ⟨(cr_k hR f_a5).trans c_a5_1, ?_⟩
  try simp -zeta -zetaUnused only [cr_i hR f_a5]
  refine fg_ite Iff.rfl (fun d => ?_) (fun d => ?_)
  · have h := fg_if_t d h
    unfold w_X7_shownOf_144
    obtain ⟨q, q2⟩ := fg_retc h
    subst q
    subst q2
    exact hQ _ _ _ cr_xr hR hF (cr_r hR f_a2 _)
  · have h := fg_if_e d h
    obtain ⟨v8, e_v8, h⟩ := fg_let_s h
    intro S_v8
    have z_v8 : v8 = S_v8 := e_v8
    clear_value S_v8
    subst z_v8
    obtain ⟨p10, s9, e_s9, h⟩ := fg_b_s h
    refine ft_X7_piecesAsOf hR hF f_o0 e_s9 (fun b_s9 R_p10 S_s9 x_s9 r_s9 F_s9 f_p10 => ?_)
    exact ⟨g_N, ft_X7_shownOf_90 @hC g_N r_s9 F_s9 (cr_atx f_o0 x_s9) (cr_aox (cr_r hR f_a2 _) x_s9) f_p10 h (fun b2 R2 S2 x2 => hQ b2 R2 S2 (cr_xt x_s9 x2)) hc hd⟩
set_option maxRecDepth 100000 in
set_option maxHeartbeats 4000000 in
theorem ftx_X7_shownOf {E : h_S} {g : h_G} {C : Int32 → Int32 → Int32 → h_S → fg_R (Option Nat) h_S} {WC : Nat → Int32 → Int32 → Int32 → h_S → Nat → Nat → (Option Nat → h_S → Prop) → Prop} (hC : ∀ {b : Nat → Nat} {s S_s : h_S} {r : Option Nat} {t : h_S} {Q : Option Nat → h_S → Prop} {c d mc ms : Nat} {A_o0 : Nat} {x1 : Int32} {x2 : Int32} {x3 : Int32}, c_R E g b s S_s → c_F s → c_at b s 3 A_o0 → C x1 x2 x3 s = some (r, t, c, d) → (∀ (b2 : Nat → Nat) (R2 : Option Nat) (S2 : h_S), c_ext b s b2 t → c_R E g b2 t S2 → c_F t → c_ao b2 t r R2 → Q R2 S2) → c ≤ mc → d ≤ ms → WC A_o0 x1 x2 x3 S_s mc ms Q) {r : Option Nat} {t : h_S} {Q : Option Nat → h_S → Prop} {b : Nat → Nat} {s S_s : h_S} {C0 D0 mc ms : Nat} {A_o0 : Nat} {x1 : Int32} {x2 : Int32} {x3 : Int32} (hR : c_R E g b s S_s) (hF : c_F s) (f_o0 : c_at b s 3 A_o0) (h : fnx_X7_shownOf C x1 x2 x3 s = some (r, t, C0, D0)) (hQ : ∀ (b2 : Nat → Nat) (R2 : Option Nat) (S2 : h_S), c_ext b s b2 t → c_R E g b2 t S2 → c_F t → c_ao b2 t r R2 → Q R2 S2) (hc : C0 ≤ mc) (hd : D0 ≤ ms) : wx_X7_shownOf WC A_o0 x1 x2 x3 S_s mc ms Q := by
  unfold fnx_X7_shownOf at h
  unfold wx_X7_shownOf
  obtain ⟨v1, e_v1, h⟩ := fg_let_s h
  intro S_v1
  have z_v1 : v1 = S_v1 := e_v1
  clear_value S_v1
  subst z_v1
  obtain ⟨v2, e_v2, h⟩ := fg_let_s h
  intro S_v2
  have z_v2 : v2 = S_v2 := e_v2
  clear_value S_v2
  subst z_v2
  refine ⟨(cr_k hR f_o0).trans (cf_k (a := 3) hF rfl (by decide)), ?_⟩
  obtain ⟨A_a4, w_a4, f_a4⟩ := cr_aos (cr_r hR f_o0 _) (cf_r (a := 3) (j := 6) (y := 20) hF rfl)
  refine ⟨A_a4, w_a4, ?_⟩
  refine ⟨(cr_k hR f_a4).trans (cf_k (a := 20) hF rfl (by decide)), ?_⟩
  obtain ⟨c, h⟩ := fg_g_s h
  refine ⟨cr_vp (cr_n hR f_a4) (cf_n (a := 20) hF rfl (by decide) rfl) c, ?_⟩
  refine fg_ite (cr_isn (cr_r hR f_a4 _)) (fun d => ?_) (fun d => ?_)
  · have h := fg_if_t d h
    obtain ⟨q8, e_q8, h⟩ := fg_let_s h
    have z_q8 : h_k s q8 = 0 := cf_z hF e_q8
    obtain ⟨C_q8, D_q8, h, q_q8, w_q8⟩ := fg_c_s h
    obtain ⟨u1_q8, hc⟩ := fg_sp q_q8 hc
    obtain ⟨u2_q8, hd⟩ := fg_sp w_q8 hd
    refine ⟨u1_q8, u2_q8, fun A_q8 Z_q8 => ?_⟩
    obtain ⟨s12, e_s12, h⟩ := fg_let_s h
    intro S_s12
    have r_s12 : c_R E g (c_up b q8 A_q8) s12 S_s12 := by rw [e_s12]; exact cr_nw hR z_q8 Z_q8 (by decide)
    have F_s12 : c_F s12 := by rw [e_s12]; exact cf_nw hF e_q8 (by decide)
    have x_s12 : c_ext b s (c_up b q8 A_q8) s12 := by rw [e_s12]; exact cx_new z_q8
    have f_q8 : c_at (c_up b q8 A_q8) s12 q8 A_q8 := by rw [e_s12]; exact ca_nw (by decide)
    clear_value S_s12
    intro c13
    have hc : _ ≤ c13 := hc
    clear_value c13
    intro d14
    have hd : _ ≤ d14 := hd
    clear_value d14
    obtain ⟨u_, s15, mc17, ms18, C_s15, D_s15, e_s15, h, q_s15, w_s15⟩ := fg_bc_s h
    obtain ⟨u1_s15, hc⟩ := fg_sp q_s15 hc
    obtain ⟨u2_s15, hd⟩ := fg_sp w_s15 hd
    refine ⟨mc17, ms18, u1_s15, u2_s15, ft_X6_init r_s12 F_s12 f_q8 e_s15 (fun b_s15 S_s15 x_s15 r_s15 F_s15 => ?_) (Nat.le_refl _) (Nat.le_refl _)⟩
    obtain ⟨A_a21, w_a21, f_a21⟩ := cr_aos (cr_r hR f_o0 _) (cf_r (a := 3) (j := 6) (y := 20) hF rfl)
    refine ⟨A_a21, w_a21, ?_⟩
    refine ⟨(cr_k r_s15 (cr_atx (cr_atx f_a21 x_s12) x_s15)).trans (cf_k (a := 20) F_s15 rfl (by decide)), ?_⟩
    obtain ⟨c, h⟩ := fg_g_s h
    refine ⟨cr_vp (cr_n r_s15 (cr_atx (cr_atx f_a21 x_s12) x_s15)) (cf_n (a := 20) F_s15 rfl (by decide) rfl) c, ?_⟩
    obtain ⟨c_q8_2, h⟩ := fg_g_s h
    refine ⟨(cr_k r_s15 (cr_atx f_q8 x_s15)).trans c_q8_2, ?_⟩
    obtain ⟨s25, e_s25, h⟩ := fg_let_s h
    intro S_s25
    have r_s25 : c_R E g b_s15 s25 S_s25 := by rw [e_s25]; exact cr_sr r_s15 (cr_atx (cr_atx f_a21 x_s12) x_s15) _ (cr_some (cr_atx f_q8 x_s15))
    have F_s25 : c_F s25 := by rw [e_s25]; exact cf_sr F_s15 (cf_k (a := 20) F_s15 rfl (by decide)) (by decide) _
    have x_s25 : c_ext b_s15 s15 b_s15 s25 := by rw [e_s25]; exact cx_sr _
    clear_value S_s25
    exact ft_X7_shownOf_46 @hC r_s25 F_s25 (cr_atx (cr_atx (cr_atx f_o0 x_s12) x_s15) x_s25) h (fun b2 R2 S2 x2 => hQ b2 R2 S2 (cr_xt (cr_xt x_s12 (cr_xt x_s15 x_s25)) x2)) hc hd
  · have h := fg_if_e d h
    exact ft_X7_shownOf_46 @hC hR hF f_o0 h (fun b2 R2 S2 x2 => hQ b2 R2 S2 (cr_xt cr_xr x2)) hc hd
set_option maxRecDepth 100000 in
set_option maxHeartbeats 4000000 in
theorem ft_X7_shownOf {E : h_S} {g : h_G} : ∀ (d : Nat) {b : Nat → Nat} {s S_s : h_S} {r : Option Nat} {t : h_S} {Q : Option Nat → h_S → Prop} {c e mc ms : Nat} {A_o0 : Nat} {x1 : Int32} {x2 : Int32} {x3 : Int32}, c_R E g b s S_s → c_F s → c_at b s 3 A_o0 → fn_X7_shownOf d x1 x2 x3 s = some (r, t, c, e) → (∀ (b2 : Nat → Nat) (R2 : Option Nat) (S2 : h_S), c_ext b s b2 t → c_R E g b2 t S2 → c_F t → c_ao b2 t r R2 → Q R2 S2) → c ≤ mc → e ≤ ms → w_X7_shownOf d A_o0 x1 x2 x3 S_s mc ms Q := by
  intro d
  induction d with
  | zero => intros; rename_i h _ _ _; exact fg_none h
  | succ d ih => exact ftx_X7_shownOf (C := fn_X7_shownOf d) (WC := w_X7_shownOf d) @ih
set_option maxRecDepth 100000 in
set_option maxHeartbeats 4000000 in
theorem ft_X7_sizeAsOf {E : h_S} {g : h_G} {r : Int32} {t : h_S} {Q : Int32 → h_S → Prop} {b : Nat → Nat} {s S_s : h_S} {C0 D0 mc ms : Nat} {A_o0 : Nat} {x1 : Int32} {x2 : Int32} (hR : c_R E g b s S_s) (hF : c_F s) (f_o0 : c_at b s 3 A_o0) (h : fn_X7_sizeAsOf x1 x2 s = some (r, t, C0, D0)) (hQ : ∀ (b2 : Nat → Nat) (S2 : h_S), c_ext b s b2 t → c_R E g b2 t S2 → c_F t → Q r S2) (hc : C0 ≤ mc) (hd : D0 ≤ ms) : w_X7_sizeAsOf A_o0 x1 x2 S_s mc ms Q := by
  unfold fn_X7_sizeAsOf at h
  unfold w_X7_sizeAsOf
  refine ⟨(cr_k hR f_o0).trans (cf_k (a := 3) hF rfl (by decide)), ?_⟩
  obtain ⟨p3, s2, mc4, ms5, C_s2, D_s2, e_s2, h, q_s2, w_s2⟩ := fg_bc_s h
  obtain ⟨u1_s2, hc⟩ := fg_sp q_s2 hc
  obtain ⟨u2_s2, hd⟩ := fg_sp w_s2 hd
  refine ⟨mc4, ms5, u1_s2, u2_s2, ft_X7_shownOf 6 hR hF f_o0 e_s2 (fun b_s2 R_p3 S_s2 x_s2 r_s2 F_s2 f_p3 => ?_) (Nat.le_refl _) (Nat.le_refl _)⟩
  obtain ⟨a8, o_a8, h⟩ := fg_o_s h
  obtain ⟨A_a8, w_a8, f_a8⟩ := cr_aos f_p3 o_a8
  refine ⟨A_a8, w_a8, ?_⟩
  obtain ⟨c_a8_1, h⟩ := fg_g_s h
  refine ⟨(cr_k r_s2 f_a8).trans c_a8_1, ?_⟩
  try simp -zeta -zetaUnused only [cr_i r_s2 f_a8]
  obtain ⟨q, q2⟩ := fg_retc h
  subst q
  subst q2
  exact hQ _ _ x_s2 r_s2 F_s2
set_option maxRecDepth 100000 in
set_option maxHeartbeats 4000000 in
theorem ft_X7_sizeOf {E : h_S} {g : h_G} {r : Int32} {t : h_S} {Q : Int32 → h_S → Prop} {b : Nat → Nat} {s S_s : h_S} {C0 D0 mc ms : Nat} {A_o0 : Nat} {r1 : Option Nat} {R_r1 : Option Nat} {x2 : Int32} {x3 : Int32} (hR : c_R E g b s S_s) (hF : c_F s) (f_o0 : c_at b s 3 A_o0) (f_r1 : c_ao b s r1 R_r1) (h : fn_X7_sizeOf r1 x2 x3 s = some (r, t, C0, D0)) (hQ : ∀ (b2 : Nat → Nat) (S2 : h_S), c_ext b s b2 t → c_R E g b2 t S2 → c_F t → Q r S2) (hc : C0 ≤ mc) (hd : D0 ≤ ms) : w_X7_sizeOf A_o0 R_r1 x2 x3 S_s mc ms Q := by
  unfold fn_X7_sizeOf at h
  unfold w_X7_sizeOf
  obtain ⟨a1, o_a1, h⟩ := fg_o_s h
  obtain ⟨A_a1, w_a1, f_a1⟩ := cr_aos f_r1 o_a1
  refine ⟨A_a1, w_a1, ?_⟩
  obtain ⟨c_a1_1, h⟩ := fg_g_s h
  refine ⟨(cr_k hR f_a1).trans c_a1_1, ?_⟩
  obtain ⟨p4, s3, e_s3, h⟩ := fg_b_s h
  refine ft_X2_hasWords hR hF f_a1 e_s3 (fun b_s3 S_s3 x_s3 r_s3 F_s3 => ?_)
  refine fg_ite Iff.rfl (fun d => ?_) (fun d => ?_)
  · have h := fg_if_t d h
    refine fg_ite Iff.rfl (fun d => ?_) (fun d => ?_)
    · have h := fg_if_t d h
      obtain ⟨a7, o_a7, h⟩ := fg_o_s h
      obtain ⟨A_a7, w_a7, f_a7⟩ := cr_aos f_r1 o_a7
      refine ⟨A_a7, w_a7, ?_⟩
      obtain ⟨c_a7_2, h⟩ := fg_g_s h
      refine ⟨(cr_k r_s3 (cr_atx f_a7 x_s3)).trans c_a7_2, ?_⟩
      obtain ⟨a9, o_a9, h⟩ := fg_o_s h
      obtain ⟨A_a9, w_a9, f_a9⟩ := cr_aos f_r1 o_a9
      refine ⟨A_a9, w_a9, ?_⟩
      obtain ⟨c_a9_3, h⟩ := fg_g_s h
      refine ⟨(cr_k r_s3 (cr_atx f_a9 x_s3)).trans c_a9_3, ?_⟩
      obtain ⟨p12, s11, e_s11, h⟩ := fg_b_s h
      refine ft_X2_momentWithin r_s3 F_s3 (cr_atx f_a9 x_s3) e_s11 (fun b_s11 S_s11 x_s11 r_s11 F_s11 => ?_)
      refine ⟨(cr_k r_s11 (cr_atx (cr_atx f_o0 x_s3) x_s11)).trans (cf_k (a := 3) F_s11 rfl (by decide)), ?_⟩
      try simp -zeta -zetaUnused only [cr_i r_s3 (cr_atx f_a7 x_s3)]
      obtain ⟨p15, s14, mc16, ms17, C_s14, D_s14, e_s14, h, q_s14, w_s14⟩ := fg_bc_s h
      obtain ⟨u1_s14, hc⟩ := fg_sp q_s14 hc
      obtain ⟨u2_s14, hd⟩ := fg_sp w_s14 hd
      refine ⟨mc16, ms17, u1_s14, u2_s14, ft_X7_shownOf 6 r_s11 F_s11 (cr_atx (cr_atx f_o0 x_s3) x_s11) e_s14 (fun b_s14 R_p15 S_s14 x_s14 r_s14 F_s14 f_p15 => ?_) (Nat.le_refl _) (Nat.le_refl _)⟩
      obtain ⟨a20, o_a20, h⟩ := fg_o_s h
      obtain ⟨A_a20, w_a20, f_a20⟩ := cr_aos f_p15 o_a20
      refine ⟨A_a20, w_a20, ?_⟩
      obtain ⟨c_a20_4, h⟩ := fg_g_s h
      refine ⟨(cr_k r_s14 f_a20).trans c_a20_4, ?_⟩
      try simp -zeta -zetaUnused only [cr_i r_s14 f_a20]
      obtain ⟨p23, s22, e_s22, h⟩ := fg_b_s h
      refine ft_X7_stretch r_s14 F_s14 (cr_aox (cr_aox (cr_aox f_r1 x_s3) x_s11) x_s14) e_s22 (fun b_s22 S_s22 x_s22 r_s22 F_s22 => ?_)
      obtain ⟨q, q2⟩ := fg_retc h
      subst q
      subst q2
      exact hQ _ _ (cr_xt x_s3 (cr_xt x_s11 (cr_xt x_s14 x_s22))) r_s22 F_s22
    · have h := fg_if_e d h
      obtain ⟨q, q2⟩ := fg_retc h
      subst q
      subst q2
      exact hQ _ _ x_s3 r_s3 F_s3
  · have h := fg_if_e d h
    obtain ⟨a24, o_a24, h⟩ := fg_o_s h
    obtain ⟨A_a24, w_a24, f_a24⟩ := cr_aos f_r1 o_a24
    refine ⟨A_a24, w_a24, ?_⟩
    obtain ⟨c_a24_2, h⟩ := fg_g_s h
    refine ⟨(cr_k r_s3 (cr_atx f_a24 x_s3)).trans c_a24_2, ?_⟩
    try simp -zeta -zetaUnused only [cr_i r_s3 (cr_atx f_a24 x_s3)]
    obtain ⟨q, q2⟩ := fg_retc h
    subst q
    subst q2
    exact hQ _ _ x_s3 r_s3 F_s3
set_option maxRecDepth 100000 in
set_option maxHeartbeats 4000000 in
theorem ft_X7_layOut_7b {E : h_S} {g : h_G} {r : Unit} {t : h_S} {Q : h_S → Prop} {K7 : Int32 → Int32 → h_S → Option ((Unit) × h_S)} {WK7 : Nat → Int32 → Int32 → h_S → Prop} (hK7 : ∀ {b : Nat → Nat} {s S_s : h_S} {A_o0 : Nat} {x1 : Int32} {x2 : Int32}, c_R E g b s S_s → c_F s → c_at b s 3 A_o0 → K7 x1 x2 s = some (r, t) → (∀ (b2 : Nat → Nat) (S2 : h_S), c_ext b s b2 t → c_R E g b2 t S2 → c_F t → Q S2) → WK7 A_o0 x1 x2 S_s) {b : Nat → Nat} {s S_s : h_S} {A_o0 : Nat} {x1 : Int32} {x2 : Int32} (hR : c_R E g b s S_s) (hF : c_F s) (f_o0 : c_at b s 3 A_o0) (h : fn_X7_layOut_7b K7 x1 x2 s = some (r, t)) (hQ : ∀ (b2 : Nat → Nat) (S2 : h_S), c_ext b s b2 t → c_R E g b2 t S2 → c_F t → Q S2) : w_X7_layOut_7b Q WK7 A_o0 x1 x2 S_s := by
  unfold fn_X7_layOut_7b at h
  unfold w_X7_layOut_7b
  refine ⟨(cr_k hR f_o0).trans (cf_k (a := 3) hF rfl (by decide)), ?_⟩
  obtain ⟨p3, s2, e_s2, h⟩ := fg_b_s h
  refine ft_X7_pieceCount hR hF f_o0 e_s2 (fun b_s2 S_s2 x_s2 r_s2 F_s2 => ?_)
  refine fg_ite Iff.rfl (fun d => ?_) (fun d => ?_)
  · have h := fg_if_t d h
    unfold w_X7_layOut_55
    obtain ⟨_, q⟩ := fg_ret h
    subst q
    exact hQ _ _ x_s2 r_s2 F_s2
  · have h := fg_if_e d h
    refine fg_ite Iff.rfl (fun d => ?_) (fun d => ?_)
    · have h := fg_if_t d h
      unfold w_X7_layOut_55
      obtain ⟨_, q⟩ := fg_ret h
      subst q
      exact hQ _ _ x_s2 r_s2 F_s2
    · have h := fg_if_e d h
      refine ⟨(cr_k r_s2 (cr_atx f_o0 x_s2)).trans (cf_k (a := 3) F_s2 rfl (by decide)), ?_⟩
      obtain ⟨A_a7, w_a7, f_a7⟩ := cr_aos (cr_r r_s2 (cr_atx f_o0 x_s2) _) (cf_r (a := 3) (j := 2) (y := 16) F_s2 rfl)
      refine ⟨A_a7, w_a7, ?_⟩
      refine ⟨(cr_k r_s2 f_a7).trans (cf_k (a := 16) F_s2 rfl (by decide)), ?_⟩
      obtain ⟨c, h⟩ := fg_g_s h
      refine ⟨cr_vp (cr_n r_s2 f_a7) (cf_n (a := 16) F_s2 rfl (by decide) rfl) c, ?_⟩
      obtain ⟨a10, o_a10, h⟩ := fg_o_s h
      obtain ⟨A_a10, w_a10, f_a10⟩ := cr_aos (cr_r r_s2 f_a7 _) o_a10
      refine ⟨A_a10, w_a10, ?_⟩
      obtain ⟨c_a10_1, h⟩ := fg_g_s h
      refine ⟨(cr_k r_s2 f_a10).trans c_a10_1, ?_⟩
      obtain ⟨a12, o_a12, h⟩ := fg_o_s h
      obtain ⟨A_a12, w_a12, f_a12⟩ := cr_aos (cr_r r_s2 f_a10 _) o_a12
      refine ⟨A_a12, w_a12, ?_⟩
      obtain ⟨c_a12_2, h⟩ := fg_g_s h
      refine ⟨(cr_k r_s2 f_a12).trans c_a12_2, ?_⟩
      obtain ⟨c, h⟩ := fg_g_s h
      refine ⟨cr_vp (cr_n r_s2 f_a12) rfl c, ?_⟩
      obtain ⟨A_a15, w_a15, f_a15⟩ := cr_aos (cr_r r_s2 (cr_atx f_o0 x_s2) _) (cf_r (a := 3) (j := 8) (y := 27) F_s2 rfl)
      refine ⟨A_a15, w_a15, ?_⟩
      refine ⟨(cr_k r_s2 f_a15).trans (cf_k (a := 27) F_s2 rfl (by decide)), ?_⟩
      obtain ⟨c, h⟩ := fg_g_s h
      refine ⟨cr_vp (cr_n r_s2 f_a15) (cf_n (a := 27) F_s2 rfl (by decide) rfl) c, ?_⟩
      obtain ⟨c, h⟩ := fg_g_s h
      refine ⟨cr_cast r_s2 (cr_r r_s2 f_a12 _) c, ?_⟩
      obtain ⟨s19, e_s19, h⟩ := fg_let_s h
      intro S_s19
      have r_s19 : c_R E g b_s2 s19 S_s19 := by rw [e_s19]; exact cr_sr r_s2 f_a15 _ (cr_r r_s2 f_a12 _)
      have F_s19 : c_F s19 := by rw [e_s19]; exact cf_sr F_s2 (cf_k (a := 27) F_s2 rfl (by decide)) (by decide) _
      have x_s19 : c_ext b_s2 s2 b_s2 s19 := by rw [e_s19]; exact cx_sr _
      clear_value S_s19
      try simp -zeta -zetaUnused only [cr_i r_s19 (cr_atx (cr_atx f_o0 x_s2) x_s19)]
      obtain ⟨s20, e_s20, h⟩ := fg_let_s h
      intro S_s20
      have r_s20 : c_R E g b_s2 s20 S_s20 := by rw [e_s20]; exact cr_si r_s19 (cr_atx (cr_atx f_o0 x_s2) x_s19) _ _
      have F_s20 : c_F s20 := by rw [e_s20]; exact cf_si F_s19 _ _
      have x_s20 : c_ext b_s2 s19 b_s2 s20 := by rw [e_s20]; exact cx_si _ _
      clear_value S_s20
      exact hK7 r_s20 F_s20 (cr_atx (cr_atx (cr_atx f_o0 x_s2) x_s19) x_s20) h (fun b2 S2 x2 => hQ b2 S2 (cr_xt (cr_xt x_s2 (cr_xt x_s19 x_s20)) x2))
set_option maxRecDepth 100000 in
set_option maxHeartbeats 4000000 in
theorem ft_X7_layOut_7 {E : h_S} {g : h_G} {r : Unit} {t : h_S} {Q : h_S → Prop} : ∀ (n : Nat) {b : Nat → Nat} {s S_s : h_S} {A_o0 : Nat} {x1 : Int32} {x2 : Int32}, c_R E g b s S_s → c_F s → c_at b s 3 A_o0 → fn_X7_layOut_7 n x1 x2 s = some (r, t) → (∀ (b2 : Nat → Nat) (S2 : h_S), c_ext b s b2 t → c_R E g b2 t S2 → c_F t → Q S2) → w_X7_layOut_7 Q n A_o0 x1 x2 S_s := by
  intro n
  induction n with
  | zero => intros; rename_i h _; exact fg_none h
  | succ n ih => exact ft_X7_layOut_7b @ih
set_option maxRecDepth 100000 in
set_option maxHeartbeats 4000000 in
theorem ft_X7_layOut {E : h_S} {g : h_G} {r : Unit} {t : h_S} {Q : h_S → Prop} {b : Nat → Nat} {s S_s : h_S} {A_o0 : Nat} {x1 : Int32} (hR : c_R E g b s S_s) (hF : c_F s) (f_o0 : c_at b s 3 A_o0) (h : fn_X7_layOut x1 s = some (r, t)) (hQ : ∀ (b2 : Nat → Nat) (S2 : h_S), c_ext b s b2 t → c_R E g b2 t S2 → c_F t → Q S2) : w_X7_layOut A_o0 x1 S_s Q := by
  unfold fn_X7_layOut at h
  unfold w_X7_layOut
  refine ⟨(cr_k hR f_o0).trans (cf_k (a := 3) hF rfl (by decide)), ?_⟩
  obtain ⟨s2, e_s2, h⟩ := fg_let_s h
  intro S_s2
  have r_s2 : c_R E g b s2 S_s2 := by rw [e_s2]; exact cr_si hR f_o0 _ _
  have F_s2 : c_F s2 := by rw [e_s2]; exact cf_si hF _ _
  have x_s2 : c_ext b s b s2 := by rw [e_s2]; exact cx_si _ _
  clear_value S_s2
  exact ⟨g_N, ft_X7_layOut_7 g_N r_s2 F_s2 (cr_atx f_o0 x_s2) h (fun b2 S2 x2 => hQ b2 S2 (cr_xt x_s2 x2))⟩
set_option maxRecDepth 100000 in
set_option maxHeartbeats 4000000 in
theorem ft_X7_insert_27b {E : h_S} {g : h_G} {r : Unit} {t : h_S} {Q : h_S → Prop} {K27 : Int32 → Option Nat → Int32 → h_S → Option ((Unit) × h_S)} {WK27 : Nat → Int32 → Option Nat → Int32 → h_S → Prop} (hK27 : ∀ {b : Nat → Nat} {s S_s : h_S} {A_o0 : Nat} {x1 : Int32} {r2 : Option Nat} {R_r2 : Option Nat} {x3 : Int32}, c_R E g b s S_s → c_F s → c_at b s 3 A_o0 → c_ao b s r2 R_r2 → K27 x1 r2 x3 s = some (r, t) → (∀ (b2 : Nat → Nat) (S2 : h_S), c_ext b s b2 t → c_R E g b2 t S2 → c_F t → Q S2) → WK27 A_o0 x1 R_r2 x3 S_s) {b : Nat → Nat} {s S_s : h_S} {A_o0 : Nat} {x1 : Int32} {r2 : Option Nat} {R_r2 : Option Nat} {x3 : Int32} (hR : c_R E g b s S_s) (hF : c_F s) (f_o0 : c_at b s 3 A_o0) (f_r2 : c_ao b s r2 R_r2) (h : fn_X7_insert_27b K27 x1 r2 x3 s = some (r, t)) (hQ : ∀ (b2 : Nat → Nat) (S2 : h_S), c_ext b s b2 t → c_R E g b2 t S2 → c_F t → Q S2) : w_X7_insert_27b Q WK27 A_o0 x1 R_r2 x3 S_s := by
  unfold fn_X7_insert_27b at h
  unfold w_X7_insert_27b
  refine fg_ite Iff.rfl (fun d => ?_) (fun d => ?_)
  · have h := fg_if_t d h
    refine ⟨(cr_k hR f_o0).trans (cf_k (a := 3) hF rfl (by decide)), ?_⟩
    obtain ⟨A_a3, w_a3, f_a3⟩ := cr_aos (cr_r hR f_o0 _) (cf_r (a := 3) (j := 8) (y := 27) hF rfl)
    refine ⟨A_a3, w_a3, ?_⟩
    refine ⟨(cr_k hR f_a3).trans (cf_k (a := 27) hF rfl (by decide)), ?_⟩
    obtain ⟨c, h⟩ := fg_g_s h
    refine ⟨cr_vp (cr_n hR f_a3) (cf_n (a := 27) hF rfl (by decide) rfl) c, ?_⟩
    obtain ⟨c, h⟩ := fg_g_s h
    refine ⟨cr_cast hR f_r2 c, ?_⟩
    obtain ⟨s7, e_s7, h⟩ := fg_let_s h
    intro S_s7
    have r_s7 : c_R E g b s7 S_s7 := by rw [e_s7]; exact cr_sr hR f_a3 _ f_r2
    have F_s7 : c_F s7 := by rw [e_s7]; exact cf_sr hF (cf_k (a := 27) hF rfl (by decide)) (by decide) _
    have x_s7 : c_ext b s b s7 := by rw [e_s7]; exact cx_sr _
    clear_value S_s7
    try simp -zeta -zetaUnused only [cr_i r_s7 (cr_atx f_o0 x_s7)]
    obtain ⟨s8, e_s8, h⟩ := fg_let_s h
    intro S_s8
    have r_s8 : c_R E g b s8 S_s8 := by rw [e_s8]; exact cr_si r_s7 (cr_atx f_o0 x_s7) _ _
    have F_s8 : c_F s8 := by rw [e_s8]; exact cf_si F_s7 _ _
    have x_s8 : c_ext b s7 b s8 := by rw [e_s8]; exact cx_si _ _
    clear_value S_s8
    obtain ⟨_, q⟩ := fg_ret h
    subst q
    exact hQ _ _ (cr_xt x_s7 x_s8) r_s8 F_s8
  · have h := fg_if_e d h
    refine ⟨(cr_k hR f_o0).trans (cf_k (a := 3) hF rfl (by decide)), ?_⟩
    obtain ⟨A_a10, w_a10, f_a10⟩ := cr_aos (cr_r hR f_o0 _) (cf_r (a := 3) (j := 8) (y := 27) hF rfl)
    refine ⟨A_a10, w_a10, ?_⟩
    refine ⟨(cr_k hR f_a10).trans (cf_k (a := 27) hF rfl (by decide)), ?_⟩
    obtain ⟨c, h⟩ := fg_g_s h
    refine ⟨cr_vp (cr_n hR f_a10) (cf_n (a := 27) hF rfl (by decide) rfl) c, ?_⟩
    obtain ⟨A_a13, w_a13, f_a13⟩ := cr_aos (cr_r hR f_o0 _) (cf_r (a := 3) (j := 8) (y := 27) hF rfl)
    refine ⟨A_a13, w_a13, ?_⟩
    refine ⟨(cr_k hR f_a13).trans (cf_k (a := 27) hF rfl (by decide)), ?_⟩
    obtain ⟨c, h⟩ := fg_g_s h
    refine ⟨cr_vp (cr_n hR f_a13) (cf_n (a := 27) hF rfl (by decide) rfl) c, ?_⟩
    obtain ⟨c, h⟩ := fg_g_s h
    refine ⟨cr_cast hR (cr_r hR f_a10 _) c, ?_⟩
    obtain ⟨s17, e_s17, h⟩ := fg_let_s h
    intro S_s17
    have r_s17 : c_R E g b s17 S_s17 := by rw [e_s17]; exact cr_sr hR f_a13 _ (cr_r hR f_a10 _)
    have F_s17 : c_F s17 := by rw [e_s17]; exact cf_sr hF (cf_k (a := 27) hF rfl (by decide)) (by decide) _
    have x_s17 : c_ext b s b s17 := by rw [e_s17]; exact cx_sr _
    clear_value S_s17
    exact hK27 r_s17 F_s17 (cr_atx f_o0 x_s17) (cr_aox f_r2 x_s17) h (fun b2 S2 x2 => hQ b2 S2 (cr_xt x_s17 x2))
set_option maxRecDepth 100000 in
set_option maxHeartbeats 4000000 in
theorem ft_X7_insert_27 {E : h_S} {g : h_G} {r : Unit} {t : h_S} {Q : h_S → Prop} : ∀ (n : Nat) {b : Nat → Nat} {s S_s : h_S} {A_o0 : Nat} {x1 : Int32} {r2 : Option Nat} {R_r2 : Option Nat} {x3 : Int32}, c_R E g b s S_s → c_F s → c_at b s 3 A_o0 → c_ao b s r2 R_r2 → fn_X7_insert_27 n x1 r2 x3 s = some (r, t) → (∀ (b2 : Nat → Nat) (S2 : h_S), c_ext b s b2 t → c_R E g b2 t S2 → c_F t → Q S2) → w_X7_insert_27 Q n A_o0 x1 R_r2 x3 S_s := by
  intro n
  induction n with
  | zero => intros; rename_i h _; exact fg_none h
  | succ n ih => exact ft_X7_insert_27b @ih
