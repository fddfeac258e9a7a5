set_option maxRecDepth 100000 in
set_option maxHeartbeats 4000000 in
theorem ft_X7_insert {E : h_S} {g : h_G} {r : Unit} {t : h_S} {Q : h_S → Prop} {b : Nat → Nat} {s S_s : h_S} {A_o0 : Nat} {x1 : Int32} {r2 : Option Nat} {R_r2 : Option Nat} (hR : c_R E g b s S_s) (hF : c_F s) (f_o0 : c_at b s 3 A_o0) (f_r2 : c_ao b s r2 R_r2) (h : fn_X7_insert x1 r2 s = some (r, t)) (hQ : ∀ (b2 : Nat → Nat) (S2 : h_S), c_ext b s b2 t → c_R E g b2 t S2 → c_F t → Q S2) : w_X7_insert A_o0 x1 R_r2 S_s Q := by
  unfold fn_X7_insert at h
  unfold w_X7_insert
  refine ⟨(cr_k hR f_o0).trans (cf_k (a := 3) hF rfl (by decide)), ?_⟩
  try simp -zeta -zetaUnused only [cr_i hR f_o0]
  refine fg_ite Iff.rfl (fun d => ?_) (fun d => ?_)
  · have h := fg_if_t d h
    unfold w_X7_insert_21
    obtain ⟨_, q⟩ := fg_ret h
    subst q
    exact hQ _ _ cr_xr hR hF
  · have h := fg_if_e d h
    refine fg_ite Iff.rfl (fun d => ?_) (fun d => ?_)
    · have h := fg_if_t d h
      unfold w_X7_insert_21
      obtain ⟨_, q⟩ := fg_ret h
      subst q
      exact hQ _ _ cr_xr hR hF
    · have h := fg_if_e d h
      refine fg_ite Iff.rfl (fun d => ?_) (fun d => ?_)
      · have h := fg_if_t d h
        exact ⟨g_N, ft_X7_insert_27 g_N hR hF f_o0 f_r2 h (fun b2 S2 x2 => hQ b2 S2 (cr_xt cr_xr x2))⟩
      · have h := fg_if_e d h
        unfold w_X7_insert_21
        obtain ⟨_, q⟩ := fg_ret h
        subst q
        exact hQ _ _ cr_xr hR hF
set_option maxRecDepth 100000 in
set_option maxHeartbeats 4000000 in
theorem ft_X7_layRuns_44 {E : h_S} {g : h_G} {r : Unit} {t : h_S} {Q : h_S → Prop} {K10 : Option Nat → Int32 → Int32 → Int32 → h_S → fg_R (Unit) h_S} {WK10 : Nat → Option Nat → Int32 → Int32 → Int32 → h_S → Nat → Nat → Prop} (hK10 : ∀ {b : Nat → Nat} {s S_s : h_S} {C D bc bs : Nat} {A_o0 : Nat} {r1 : Option Nat} {R_r1 : Option Nat} {x2 : Int32} {x3 : Int32} {x4 : Int32}, c_R E g b s S_s → c_F s → c_at b s 3 A_o0 → c_ao b s r1 R_r1 → K10 r1 x2 x3 x4 s = some (r, t, C, D) → (∀ (b2 : Nat → Nat) (S2 : h_S), c_ext b s b2 t → c_R E g b2 t S2 → c_F t → Q S2) → C ≤ bc → D ≤ bs → WK10 A_o0 R_r1 x2 x3 x4 S_s bc bs) {b : Nat → Nat} {s S_s : h_S} {C0 D0 bc bs : Nat} {A_o0 : Nat} {r1 : Option Nat} {R_r1 : Option Nat} {x2 : Int32} {x3 : Int32} {x4 : Int32} (hR : c_R E g b s S_s) (hF : c_F s) (f_o0 : c_at b s 3 A_o0) (f_r1 : c_ao b s r1 R_r1) (h : fn_X7_layRuns_44 K10 r1 x2 x3 x4 s = some (r, t, C0, D0)) (hQ : ∀ (b2 : Nat → Nat) (S2 : h_S), c_ext b s b2 t → c_R E g b2 t S2 → c_F t → Q S2) (hc : C0 ≤ bc) (hd : D0 ≤ bs) : w_X7_layRuns_44 Q WK10 A_o0 R_r1 x2 x3 x4 S_s bc bs := by
  unfold fn_X7_layRuns_44 at h
  unfold w_X7_layRuns_44
  refine ⟨(cr_k hR f_o0).trans (cf_k (a := 3) hF rfl (by decide)), ?_⟩
  obtain ⟨q2, e_q2, h⟩ := fg_let_s h
  have z_q2 : h_k s q2 = 0 := cf_z hF e_q2
  obtain ⟨C_q2, D_q2, h, q_q2, w_q2⟩ := fg_c_s h
  obtain ⟨u1_q2, hc⟩ := fg_sp q_q2 hc
  obtain ⟨u2_q2, hd⟩ := fg_sp w_q2 hd
  refine ⟨u1_q2, u2_q2, fun A_q2 Z_q2 => ?_⟩
  obtain ⟨s6, e_s6, h⟩ := fg_let_s h
  intro S_s6
  have r_s6 : c_R E g (c_up b q2 A_q2) s6 S_s6 := by rw [e_s6]; exact cr_nw hR z_q2 Z_q2 (by decide)
  have F_s6 : c_F s6 := by rw [e_s6]; exact cf_nw hF e_q2 (by decide)
  have x_s6 : c_ext b s (c_up b q2 A_q2) s6 := by rw [e_s6]; exact cx_new z_q2
  have f_q2 : c_at (c_up b q2 A_q2) s6 q2 A_q2 := by rw [e_s6]; exact ca_nw (by decide)
  clear_value S_s6
  intro c7
  have hc : _ ≤ c7 := hc
  clear_value c7
  intro d8
  have hd : _ ≤ d8 := hd
  clear_value d8
  obtain ⟨a9, o_a9, h⟩ := fg_o_s h
  obtain ⟨A_a9, w_a9, f_a9⟩ := cr_aos f_r1 o_a9
  refine ⟨A_a9, w_a9, ?_⟩
  obtain ⟨c_a9_2, h⟩ := fg_g_s h
  refine ⟨(cr_k r_s6 (cr_atx f_a9 x_s6)).trans c_a9_2, ?_⟩
  obtain ⟨c, h⟩ := fg_g_s h
  refine ⟨cr_vp (cr_n r_s6 (cr_atx f_a9 x_s6)) rfl c, ?_⟩
  try simp -zeta -zetaUnused only [cr_i r_s6 (cr_atx f_a9 x_s6)]
  obtain ⟨u_, s12, e_s12, h⟩ := fg_b_s h
  refine ft_X2_init r_s6 F_s6 f_q2 e_s12 (fun b_s12 S_s12 x_s12 r_s12 F_s12 => ?_)
  refine ⟨(cr_k r_s12 (cr_atx (cr_atx f_o0 x_s6) x_s12)).trans (cf_k (a := 3) F_s12 rfl (by decide)), ?_⟩
  try simp -zeta -zetaUnused only [cr_i hR f_o0]
  obtain ⟨u_, s15, e_s15, h⟩ := fg_b_s h
  refine ft_X7_insert r_s12 F_s12 (cr_atx (cr_atx f_o0 x_s6) x_s12) (cr_some (cr_atx f_q2 x_s12)) e_s15 (fun b_s15 S_s15 x_s15 r_s15 F_s15 => ?_)
  unfold w_X7_layRuns_74
  exact hK10 r_s15 F_s15 (cr_atx (cr_atx (cr_atx f_o0 x_s6) x_s12) x_s15) (cr_aox (cr_aox (cr_aox f_r1 x_s6) x_s12) x_s15) h (fun b2 S2 x2 => hQ b2 S2 (cr_xt (cr_xt x_s6 (cr_xt x_s12 x_s15)) x2)) hc hd
set_option maxRecDepth 100000 in
set_option maxHeartbeats 4000000 in
theorem ft_X7_layRuns_10b {E : h_S} {g : h_G} {r : Unit} {t : h_S} {Q : h_S → Prop} {K10 : Option Nat → Int32 → Int32 → Int32 → h_S → fg_R (Unit) h_S} {WK10 : Nat → Option Nat → Int32 → Int32 → Int32 → h_S → Nat → Nat → Prop} (hK10 : ∀ {b : Nat → Nat} {s S_s : h_S} {C D bc bs : Nat} {A_o0 : Nat} {r1 : Option Nat} {R_r1 : Option Nat} {x2 : Int32} {x3 : Int32} {x4 : Int32}, c_R E g b s S_s → c_F s → c_at b s 3 A_o0 → c_ao b s r1 R_r1 → K10 r1 x2 x3 x4 s = some (r, t, C, D) → (∀ (b2 : Nat → Nat) (S2 : h_S), c_ext b s b2 t → c_R E g b2 t S2 → c_F t → Q S2) → C ≤ bc → D ≤ bs → WK10 A_o0 R_r1 x2 x3 x4 S_s bc bs) {b : Nat → Nat} {s S_s : h_S} {C0 D0 bc bs : Nat} {A_o0 : Nat} {r1 : Option Nat} {R_r1 : Option Nat} {x2 : Int32} {x3 : Int32} {x4 : Int32} (hR : c_R E g b s S_s) (hF : c_F s) (f_o0 : c_at b s 3 A_o0) (f_r1 : c_ao b s r1 R_r1) (h : fn_X7_layRuns_10b K10 r1 x2 x3 x4 s = some (r, t, C0, D0)) (hQ : ∀ (b2 : Nat → Nat) (S2 : h_S), c_ext b s b2 t → c_R E g b2 t S2 → c_F t → Q S2) (hc : C0 ≤ bc) (hd : D0 ≤ bs) : w_X7_layRuns_10b Q WK10 A_o0 R_r1 x2 x3 x4 S_s bc bs := by
  unfold fn_X7_layRuns_10b at h
  unfold w_X7_layRuns_10b
  refine fg_ite Iff.rfl (fun d => ?_) (fun d => ?_)
  · have h := fg_if_t d h
    unfold w_X7_layRuns_80
    obtain ⟨_, q⟩ := fg_retc h
    subst q
    exact hQ _ _ cr_xr hR hF
  · have h := fg_if_e d h
    obtain ⟨a2, o_a2, h⟩ := fg_o_s h
    obtain ⟨A_a2, w_a2, f_a2⟩ := cr_aos f_r1 o_a2
    refine ⟨A_a2, w_a2, ?_⟩
    obtain ⟨c_a2_1, h⟩ := fg_g_s h
    refine ⟨(cr_k hR f_a2).trans c_a2_1, ?_⟩
    try simp -zeta -zetaUnused only [cr_n hR f_a2]
    refine fg_ite Iff.rfl (fun d => ?_) (fun d => ?_)
    · have h := fg_if_t d h
      unfold w_X7_layRuns_80
      obtain ⟨_, q⟩ := fg_retc h
      subst q
      exact hQ _ _ cr_xr hR hF
    · have h := fg_if_e d h
      refine fg_ite Iff.rfl (fun d => ?_) (fun d => ?_)
      · have h := fg_if_t d h
        exact ft_X7_layRuns_44 @hK10 hR hF f_o0 f_r1 h (fun b2 S2 x2 => hQ b2 S2 (cr_xt cr_xr x2)) hc hd
      · have h := fg_if_e d h
        obtain ⟨a6, o_a6, h⟩ := fg_o_s h
        obtain ⟨A_a6, w_a6, f_a6⟩ := cr_aos f_r1 o_a6
        refine ⟨A_a6, w_a6, ?_⟩
        obtain ⟨c_a6_2, h⟩ := fg_g_s h
        refine ⟨(cr_k hR f_a6).trans c_a6_2, ?_⟩
        obtain ⟨c, h⟩ := fg_g_s h
        refine ⟨cr_vp (cr_n hR f_a6) rfl c, ?_⟩
        obtain ⟨a9, o_a9, h⟩ := fg_o_s h
        obtain ⟨A_a9, w_a9, f_a9⟩ := cr_aos f_r1 o_a9
        refine ⟨A_a9, w_a9, ?_⟩
        obtain ⟨c_a9_3, h⟩ := fg_g_s h
        refine ⟨(cr_k hR f_a9).trans c_a9_3, ?_⟩
        obtain ⟨c, h⟩ := fg_g_s h
        refine ⟨cr_vp (cr_n hR f_a9) rfl c, ?_⟩
        try simp -zeta -zetaUnused only [cr_i hR f_a6, cr_i hR f_a9]
        refine fg_ite Iff.rfl (fun d => ?_) (fun d => ?_)
        · have h := fg_if_t d h
          unfold w_X7_layRuns_74
          exact hK10 hR hF f_o0 f_r1 h (fun b2 S2 x2 => hQ b2 S2 (cr_xt cr_xr x2)) hc hd
        · have h := fg_if_e d h
          exact ft_X7_layRuns_44 @hK10 hR hF f_o0 f_r1 h (fun b2 S2 x2 => hQ b2 S2 (cr_xt cr_xr x2)) hc hd
set_option maxRecDepth 100000 in
set_option maxHeartbeats 4000000 in
theorem ft_X7_layRuns_10 {E : h_S} {g : h_G} {r : Unit} {t : h_S} {Q : h_S → Prop} : ∀ (n : Nat) {b : Nat → Nat} {s S_s : h_S} {C D bc bs : Nat} {A_o0 : Nat} {r1 : Option Nat} {R_r1 : Option Nat} {x2 : Int32} {x3 : Int32} {x4 : Int32}, c_R E g b s S_s → c_F s → c_at b s 3 A_o0 → c_ao b s r1 R_r1 → fn_X7_layRuns_10 n r1 x2 x3 x4 s = some (r, t, C, D) → (∀ (b2 : Nat → Nat) (S2 : h_S), c_ext b s b2 t → c_R E g b2 t S2 → c_F t → Q S2) → C ≤ bc → D ≤ bs → w_X7_layRuns_10 Q n A_o0 R_r1 x2 x3 x4 S_s bc bs := by
  intro n
  induction n with
  | zero => intros; rename_i h _ _ _; exact fg_none h
  | succ n ih => exact ft_X7_layRuns_10b @ih
set_option maxRecDepth 100000 in
set_option maxHeartbeats 4000000 in
theorem ft_X7_layRuns {E : h_S} {g : h_G} {r : Unit} {t : h_S} {Q : h_S → Prop} {b : Nat → Nat} {s S_s : h_S} {C0 D0 mc ms : Nat} {A_o0 : Nat} {r1 : Option Nat} {R_r1 : Option Nat} {x2 : Int32} (hR : c_R E g b s S_s) (hF : c_F s) (f_o0 : c_at b s 3 A_o0) (f_r1 : c_ao b s r1 R_r1) (h : fn_X7_layRuns r1 x2 s = some (r, t, C0, D0)) (hQ : ∀ (b2 : Nat → Nat) (S2 : h_S), c_ext b s b2 t → c_R E g b2 t S2 → c_F t → Q S2) (hc : C0 ≤ mc) (hd : D0 ≤ ms) : w_X7_layRuns A_o0 R_r1 x2 S_s mc ms Q := by
  unfold fn_X7_layRuns at h
  unfold w_X7_layRuns
  refine ⟨(cr_k hR f_o0).trans (cf_k (a := 3) hF rfl (by decide)), ?_⟩
  obtain ⟨s2, e_s2, h⟩ := fg_let_s h
  intro S_s2
  have r_s2 : c_R E g b s2 S_s2 := by rw [e_s2]; exact cr_si hR f_o0 _ _
  have F_s2 : c_F s2 := by rw [e_s2]; exact cf_si hF _ _
  have x_s2 : c_ext b s b s2 := by rw [e_s2]; exact cx_si _ _
  clear_value S_s2
  exact ⟨g_N, ft_X7_layRuns_10 g_N r_s2 F_s2 (cr_atx f_o0 x_s2) (cr_aox f_r1 x_s2) h (fun b2 S2 x2 => hQ b2 S2 (cr_xt x_s2 x2)) hc hd⟩
set_option maxRecDepth 100000 in
set_option maxHeartbeats 4000000 in
theorem ft_X7_partAt {E : h_S} {g : h_G} {r : Int32} {t : h_S} {Q : Int32 → h_S → Prop} {b : Nat → Nat} {s S_s : h_S} {C0 D0 mc ms : Nat} {A_o0 : Nat} {x1 : Int32} {x2 : Int32} (hR : c_R E g b s S_s) (hF : c_F s) (f_o0 : c_at b s 3 A_o0) (h : fn_X7_partAt x1 x2 s = some (r, t, C0, D0)) (hQ : ∀ (b2 : Nat → Nat) (S2 : h_S), c_ext b s b2 t → c_R E g b2 t S2 → c_F t → Q r S2) (hc : C0 ≤ mc) (hd : D0 ≤ ms) : w_X7_partAt A_o0 x1 x2 S_s mc ms Q := by
  unfold fn_X7_partAt at h
  unfold w_X7_partAt
  refine ⟨(cr_k hR f_o0).trans (cf_k (a := 3) hF rfl (by decide)), ?_⟩
  obtain ⟨A_a2, w_a2, f_a2⟩ := cr_aos (cr_r hR f_o0 _) (cf_r (a := 3) (j := 8) (y := 27) hF rfl)
  refine ⟨A_a2, w_a2, ?_⟩
  refine ⟨(cr_k hR f_a2).trans (cf_k (a := 27) hF rfl (by decide)), ?_⟩
  obtain ⟨c, h⟩ := fg_g_s h
  refine ⟨cr_vp (cr_n hR f_a2) (cf_n (a := 27) hF rfl (by decide) rfl) c, ?_⟩
  obtain ⟨a5, o_a5, h⟩ := fg_o_s h
  obtain ⟨A_a5, w_a5, f_a5⟩ := cr_aos (cr_r hR f_a2 _) o_a5
  refine ⟨A_a5, w_a5, ?_⟩
  obtain ⟨c_a5_1, h⟩ := fg_g_s h
  refine ⟨(cr_k hR f_a5).trans c_a5_1, ?_⟩
  obtain ⟨p8, s7, mc9, ms10, C_s7, D_s7, e_s7, h, q_s7, w_s7⟩ := fg_bc_s h
  obtain ⟨u1_s7, hc⟩ := fg_sp q_s7 hc
  obtain ⟨u2_s7, hd⟩ := fg_sp w_s7 hd
  refine ⟨mc9, ms10, u1_s7, u2_s7, ft_X2_head hR hF f_a5 e_s7 (fun b_s7 R_p8 S_s7 x_s7 r_s7 F_s7 f_p8 => ?_) (Nat.le_refl _) (Nat.le_refl _)⟩
  obtain ⟨A_a13, w_a13, f_a13⟩ := cr_aos (cr_r hR f_o0 _) (cf_r (a := 3) (j := 8) (y := 27) hF rfl)
  refine ⟨A_a13, w_a13, ?_⟩
  refine ⟨(cr_k r_s7 (cr_atx f_a13 x_s7)).trans (cf_k (a := 27) F_s7 rfl (by decide)), ?_⟩
  obtain ⟨c, h⟩ := fg_g_s h
  refine ⟨cr_vp (cr_n r_s7 (cr_atx f_a13 x_s7)) (cf_n (a := 27) F_s7 rfl (by decide) rfl) c, ?_⟩
  obtain ⟨c, h⟩ := fg_g_s h
  refine ⟨cr_cast r_s7 f_p8 c, ?_⟩
  obtain ⟨s17, e_s17, h⟩ := fg_let_s h
  intro S_s17
  have r_s17 : c_R E g b_s7 s17 S_s17 := by rw [e_s17]; exact cr_sr r_s7 (cr_atx f_a13 x_s7) _ f_p8
  have F_s17 : c_F s17 := by rw [e_s17]; exact cf_sr F_s7 (cf_k (a := 27) F_s7 rfl (by decide)) (by decide) _
  have x_s17 : c_ext b_s7 s7 b_s7 s17 := by rw [e_s17]; exact cx_sr _
  clear_value S_s17
  obtain ⟨a18, o_a18, h⟩ := fg_o_s h
  obtain ⟨A_a18, w_a18, f_a18⟩ := cr_aos (cr_r hR f_a2 _) o_a18
  refine ⟨A_a18, w_a18, ?_⟩
  obtain ⟨c_a18_2, h⟩ := fg_g_s h
  refine ⟨(cr_k r_s17 (cr_atx (cr_atx f_a18 x_s7) x_s17)).trans c_a18_2, ?_⟩
  obtain ⟨p21, s20, mc22, ms23, C_s20, D_s20, e_s20, h, q_s20, w_s20⟩ := fg_bc_s h
  obtain ⟨u1_s20, hc⟩ := fg_sp q_s20 hc
  obtain ⟨u2_s20, hd⟩ := fg_sp w_s20 hd
  refine ⟨mc22, ms23, u1_s20, u2_s20, ft_X2_tail r_s17 F_s17 (cr_atx (cr_atx f_a18 x_s7) x_s17) e_s20 (fun b_s20 R_p21 S_s20 x_s20 r_s20 F_s20 f_p21 => ?_) (Nat.le_refl _) (Nat.le_refl _)⟩
  refine ⟨(cr_k r_s20 (cr_atx (cr_atx (cr_atx f_o0 x_s7) x_s17) x_s20)).trans (cf_k (a := 3) F_s20 rfl (by decide)), ?_⟩
  obtain ⟨u_, s27, e_s27, h⟩ := fg_b_s h
  refine ft_X7_insert r_s20 F_s20 (cr_atx (cr_atx (cr_atx f_o0 x_s7) x_s17) x_s20) f_p21 e_s27 (fun b_s27 S_s27 x_s27 r_s27 F_s27 => ?_)
  obtain ⟨q, q2⟩ := fg_retc h
  subst q
  subst q2
  exact hQ _ _ (cr_xt x_s7 (cr_xt x_s17 (cr_xt x_s20 x_s27))) r_s27 F_s27
set_option maxRecDepth 100000 in
set_option maxHeartbeats 4000000 in
theorem ft_X7_openAhead_5b {E : h_S} {g : h_G} {r : Int32} {t : h_S} {Q : Int32 → h_S → Prop} {K5 : Int32 → Int32 → Int32 → Int32 → h_S → fg_R (Int32) h_S} {WK5 : Nat → Int32 → Int32 → Int32 → Int32 → h_S → Nat → Nat → Prop} (hK5 : ∀ {b : Nat → Nat} {s S_s : h_S} {C D bc bs : Nat} {A_o0 : Nat} {x1 : Int32} {x2 : Int32} {x3 : Int32} {x4 : Int32}, c_R E g b s S_s → c_F s → c_at b s 3 A_o0 → K5 x1 x2 x3 x4 s = some (r, t, C, D) → (∀ (b2 : Nat → Nat) (S2 : h_S), c_ext b s b2 t → c_R E g b2 t S2 → c_F t → Q r S2) → C ≤ bc → D ≤ bs → WK5 A_o0 x1 x2 x3 x4 S_s bc bs) {b : Nat → Nat} {s S_s : h_S} {C0 D0 bc bs : Nat} {A_o0 : Nat} {x1 : Int32} {x2 : Int32} {x3 : Int32} {x4 : Int32} (hR : c_R E g b s S_s) (hF : c_F s) (f_o0 : c_at b s 3 A_o0) (h : fn_X7_openAhead_5b K5 x1 x2 x3 x4 s = some (r, t, C0, D0)) (hQ : ∀ (b2 : Nat → Nat) (S2 : h_S), c_ext b s b2 t → c_R E g b2 t S2 → c_F t → Q r S2) (hc : C0 ≤ bc) (hd : D0 ≤ bs) : w_X7_openAhead_5b Q WK5 A_o0 x1 x2 x3 x4 S_s bc bs := by
  unfold fn_X7_openAhead_5b at h
  unfold w_X7_openAhead_5b
  refine ⟨(cr_k hR f_o0).trans (cf_k (a := 3) hF rfl (by decide)), ?_⟩
  try simp -zeta -zetaUnused only [cr_i hR f_o0]
  refine fg_ite Iff.rfl (fun d => ?_) (fun d => ?_)
  · have h := fg_if_t d h
    obtain ⟨q, q2⟩ := fg_retc h
    subst q
    subst q2
    exact hQ _ _ cr_xr hR hF
  · have h := fg_if_e d h
    obtain ⟨A_a3, w_a3, f_a3⟩ := cr_aos (cr_r hR f_o0 _) (cf_r (a := 3) (j := 8) (y := 27) hF rfl)
    refine ⟨A_a3, w_a3, ?_⟩
    refine ⟨(cr_k hR f_a3).trans (cf_k (a := 27) hF rfl (by decide)), ?_⟩
    obtain ⟨c, h⟩ := fg_g_s h
    refine ⟨cr_vp (cr_n hR f_a3) (cf_n (a := 27) hF rfl (by decide) rfl) c, ?_⟩
    obtain ⟨p7, s6, mc8, ms9, C_s6, D_s6, e_s6, h, q_s6, w_s6⟩ := fg_bc_s h
    obtain ⟨u1_s6, hc⟩ := fg_sp q_s6 hc
    obtain ⟨u2_s6, hd⟩ := fg_sp w_s6 hd
    refine ⟨mc8, ms9, u1_s6, u2_s6, ft_X7_sizeOf hR hF f_o0 (cr_r hR f_a3 _) e_s6 (fun b_s6 S_s6 x_s6 r_s6 F_s6 => ?_) (Nat.le_refl _) (Nat.le_refl _)⟩
    obtain ⟨v12, e_v12, h⟩ := fg_let_s h
    intro S_v12
    have z_v12 : v12 = S_v12 := e_v12
    clear_value S_v12
    subst z_v12
    refine fg_ite Iff.rfl (fun d => ?_) (fun d => ?_)
    · have h := fg_if_t d h
      exact hK5 r_s6 F_s6 (cr_atx f_o0 x_s6) h (fun b2 S2 x2 => hQ b2 S2 (cr_xt x_s6 x2)) hc hd
    · have h := fg_if_e d h
      refine fg_ite Iff.rfl (fun d => ?_) (fun d => ?_)
      · have h := fg_if_t d h
        unfold w_X7_openAhead_62
        obtain ⟨q, q2⟩ := fg_retc h
        subst q
        subst q2
        exact hQ _ _ x_s6 r_s6 F_s6
      · have h := fg_if_e d h
        refine ⟨(cr_k r_s6 (cr_atx f_o0 x_s6)).trans (cf_k (a := 3) F_s6 rfl (by decide)), ?_⟩
        obtain ⟨p17, s16, mc18, ms19, C_s16, D_s16, e_s16, h, q_s16, w_s16⟩ := fg_bc_s h
        obtain ⟨u1_s16, hc⟩ := fg_sp q_s16 hc
        obtain ⟨u2_s16, hd⟩ := fg_sp w_s16 hd
        refine ⟨mc18, ms19, u1_s16, u2_s16, ft_X7_partAt r_s6 F_s6 (cr_atx f_o0 x_s6) e_s16 (fun b_s16 S_s16 x_s16 r_s16 F_s16 => ?_) (Nat.le_refl _) (Nat.le_refl _)⟩
        unfold w_X7_openAhead_62
        obtain ⟨q, q2⟩ := fg_retc h
        subst q
        subst q2
        exact hQ _ _ (cr_xt x_s6 x_s16) r_s16 F_s16
set_option maxRecDepth 100000 in
set_option maxHeartbeats 4000000 in
theorem ft_X7_openAhead_5 {E : h_S} {g : h_G} {r : Int32} {t : h_S} {Q : Int32 → h_S → Prop} : ∀ (n : Nat) {b : Nat → Nat} {s S_s : h_S} {C D bc bs : Nat} {A_o0 : Nat} {x1 : Int32} {x2 : Int32} {x3 : Int32} {x4 : Int32}, c_R E g b s S_s → c_F s → c_at b s 3 A_o0 → fn_X7_openAhead_5 n x1 x2 x3 x4 s = some (r, t, C, D) → (∀ (b2 : Nat → Nat) (S2 : h_S), c_ext b s b2 t → c_R E g b2 t S2 → c_F t → Q r S2) → C ≤ bc → D ≤ bs → w_X7_openAhead_5 Q n A_o0 x1 x2 x3 x4 S_s bc bs := by
  intro n
  induction n with
  | zero => intros; rename_i h _ _ _; exact fg_none h
  | succ n ih => exact ft_X7_openAhead_5b @ih
set_option maxRecDepth 100000 in
set_option maxHeartbeats 4000000 in
theorem ft_X7_openAhead {E : h_S} {g : h_G} {r : Int32} {t : h_S} {Q : Int32 → h_S → Prop} {b : Nat → Nat} {s S_s : h_S} {C0 D0 mc ms : Nat} {A_o0 : Nat} {x1 : Int32} {x2 : Int32} (hR : c_R E g b s S_s) (hF : c_F s) (f_o0 : c_at b s 3 A_o0) (h : fn_X7_openAhead x1 x2 s = some (r, t, C0, D0)) (hQ : ∀ (b2 : Nat → Nat) (S2 : h_S), c_ext b s b2 t → c_R E g b2 t S2 → c_F t → Q r S2) (hc : C0 ≤ mc) (hd : D0 ≤ ms) : w_X7_openAhead A_o0 x1 x2 S_s mc ms Q := by
  unfold fn_X7_openAhead at h
  unfold w_X7_openAhead
  exact ⟨g_N, ft_X7_openAhead_5 g_N hR hF f_o0 h (fun b2 S2 x2 => hQ b2 S2 (cr_xt cr_xr x2)) hc hd⟩
set_option maxRecDepth 100000 in
set_option maxHeartbeats 4000000 in
theorem ft_X7_openBehind_5b {E : h_S} {g : h_G} {r : Int32} {t : h_S} {Q : Int32 → h_S → Prop} {K5 : Int32 → Int32 → Int32 → Int32 → h_S → fg_R (Int32) h_S} {WK5 : Nat → Int32 → Int32 → Int32 → Int32 → h_S → Nat → Nat → Prop} (hK5 : ∀ {b : Nat → Nat} {s S_s : h_S} {C D bc bs : Nat} {A_o0 : Nat} {x1 : Int32} {x2 : Int32} {x3 : Int32} {x4 : Int32}, c_R E g b s S_s → c_F s → c_at b s 3 A_o0 → K5 x1 x2 x3 x4 s = some (r, t, C, D) → (∀ (b2 : Nat → Nat) (S2 : h_S), c_ext b s b2 t → c_R E g b2 t S2 → c_F t → Q r S2) → C ≤ bc → D ≤ bs → WK5 A_o0 x1 x2 x3 x4 S_s bc bs) {b : Nat → Nat} {s S_s : h_S} {C0 D0 bc bs : Nat} {A_o0 : Nat} {x1 : Int32} {x2 : Int32} {x3 : Int32} {x4 : Int32} (hR : c_R E g b s S_s) (hF : c_F s) (f_o0 : c_at b s 3 A_o0) (h : fn_X7_openBehind_5b K5 x1 x2 x3 x4 s = some (r, t, C0, D0)) (hQ : ∀ (b2 : Nat → Nat) (S2 : h_S), c_ext b s b2 t → c_R E g b2 t S2 → c_F t → Q r S2) (hc : C0 ≤ bc) (hd : D0 ≤ bs) : w_X7_openBehind_5b Q WK5 A_o0 x1 x2 x3 x4 S_s bc bs := by
  unfold fn_X7_openBehind_5b at h
  unfold w_X7_openBehind_5b
  refine ⟨(cr_k hR f_o0).trans (cf_k (a := 3) hF rfl (by decide)), ?_⟩
  try simp -zeta -zetaUnused only [cr_i hR f_o0]
  refine fg_ite Iff.rfl (fun d => ?_) (fun d => ?_)
  · have h := fg_if_t d h
    obtain ⟨q, q2⟩ := fg_retc h
    subst q
    subst q2
    exact hQ _ _ cr_xr hR hF
  · have h := fg_if_e d h
    obtain ⟨A_a3, w_a3, f_a3⟩ := cr_aos (cr_r hR f_o0 _) (cf_r (a := 3) (j := 8) (y := 27) hF rfl)
    refine ⟨A_a3, w_a3, ?_⟩
    refine ⟨(cr_k hR f_a3).trans (cf_k (a := 27) hF rfl (by decide)), ?_⟩
    obtain ⟨c, h⟩ := fg_g_s h
    refine ⟨cr_vp (cr_n hR f_a3) (cf_n (a := 27) hF rfl (by decide) rfl) c, ?_⟩
    obtain ⟨p7, s6, mc8, ms9, C_s6, D_s6, e_s6, h, q_s6, w_s6⟩ := fg_bc_s h
    obtain ⟨u1_s6, hc⟩ := fg_sp q_s6 hc
    obtain ⟨u2_s6, hd⟩ := fg_sp w_s6 hd
    refine ⟨mc8, ms9, u1_s6, u2_s6, ft_X7_sizeOf hR hF f_o0 (cr_r hR f_a3 _) e_s6 (fun b_s6 S_s6 x_s6 r_s6 F_s6 => ?_) (Nat.le_refl _) (Nat.le_refl _)⟩
    obtain ⟨v12, e_v12, h⟩ := fg_let_s h
    intro S_v12
    have z_v12 : v12 = S_v12 := e_v12
    clear_value S_v12
    subst z_v12
    refine fg_ite Iff.rfl (fun d => ?_) (fun d => ?_)
    · have h := fg_if_t d h
      exact hK5 r_s6 F_s6 (cr_atx f_o0 x_s6) h (fun b2 S2 x2 => hQ b2 S2 (cr_xt x_s6 x2)) hc hd
    · have h := fg_if_e d h
      refine fg_ite Iff.rfl (fun d => ?_) (fun d => ?_)
      · have h := fg_if_t d h
        unfold w_X7_openBehind_65
        obtain ⟨q, q2⟩ := fg_retc h
        subst q
        subst q2
        exact hQ _ _ x_s6 r_s6 F_s6
      · have h := fg_if_e d h
        refine ⟨(cr_k r_s6 (cr_atx f_o0 x_s6)).trans (cf_k (a := 3) F_s6 rfl (by decide)), ?_⟩
        obtain ⟨p17, s16, mc18, ms19, C_s16, D_s16, e_s16, h, q_s16, w_s16⟩ := fg_bc_s h
        obtain ⟨u1_s16, hc⟩ := fg_sp q_s16 hc
        obtain ⟨u2_s16, hd⟩ := fg_sp w_s16 hd
        refine ⟨mc18, ms19, u1_s16, u2_s16, ft_X7_partAt r_s6 F_s6 (cr_atx f_o0 x_s6) e_s16 (fun b_s16 S_s16 x_s16 r_s16 F_s16 => ?_) (Nat.le_refl _) (Nat.le_refl _)⟩
        unfold w_X7_openBehind_65
        obtain ⟨q, q2⟩ := fg_retc h
        subst q
        subst q2
        exact hQ _ _ (cr_xt x_s6 x_s16) r_s16 F_s16
set_option maxRecDepth 100000 in
set_option maxHeartbeats 4000000 in
theorem ft_X7_openBehind_5 {E : h_S} {g : h_G} {r : Int32} {t : h_S} {Q : Int32 → h_S → Prop} : ∀ (n : Nat) {b : Nat → Nat} {s S_s : h_S} {C D bc bs : Nat} {A_o0 : Nat} {x1 : Int32} {x2 : Int32} {x3 : Int32} {x4 : Int32}, c_R E g b s S_s → c_F s → c_at b s 3 A_o0 → fn_X7_openBehind_5 n x1 x2 x3 x4 s = some (r, t, C, D) → (∀ (b2 : Nat → Nat) (S2 : h_S), c_ext b s b2 t → c_R E g b2 t S2 → c_F t → Q r S2) → C ≤ bc → D ≤ bs → w_X7_openBehind_5 Q n A_o0 x1 x2 x3 x4 S_s bc bs := by
  intro n
  induction n with
  | zero => intros; rename_i h _ _ _; exact fg_none h
  | succ n ih => exact ft_X7_openBehind_5b @ih
set_option maxRecDepth 100000 in
set_option maxHeartbeats 4000000 in
theorem ft_X7_openBehind {E : h_S} {g : h_G} {r : Int32} {t : h_S} {Q : Int32 → h_S → Prop} {b : Nat → Nat} {s S_s : h_S} {C0 D0 mc ms : Nat} {A_o0 : Nat} {x1 : Int32} {x2 : Int32} (hR : c_R E g b s S_s) (hF : c_F s) (f_o0 : c_at b s 3 A_o0) (h : fn_X7_openBehind x1 x2 s = some (r, t, C0, D0)) (hQ : ∀ (b2 : Nat → Nat) (S2 : h_S), c_ext b s b2 t → c_R E g b2 t S2 → c_F t → Q r S2) (hc : C0 ≤ mc) (hd : D0 ≤ ms) : w_X7_openBehind A_o0 x1 x2 S_s mc ms Q := by
  unfold fn_X7_openBehind at h
  unfold w_X7_openBehind
  exact ⟨g_N, ft_X7_openBehind_5 g_N hR hF f_o0 h (fun b2 S2 x2 => hQ b2 S2 (cr_xt cr_xr x2)) hc hd⟩
set_option maxRecDepth 100000 in
set_option maxHeartbeats 4000000 in
theorem ft_X7_keepLaid_33b {E : h_S} {g : h_G} {r : Int32} {t : h_S} {Q : Int32 → h_S → Prop} {K33 : Int32 → Int32 → Nat → Int32 → h_S → fg_R (Int32) h_S} {WK33 : Nat → Int32 → Int32 → Nat → Int32 → h_S → Nat → Nat → Prop} (hK33 : ∀ {b : Nat → Nat} {s S_s : h_S} {C D bc bs : Nat} {A_o0 : Nat} {x1 : Int32} {x2 : Int32} {o3 : Nat} {A_o3 : Nat} {x4 : Int32}, c_R E g b s S_s → c_F s → c_at b s 3 A_o0 → c_at b s o3 A_o3 → K33 x1 x2 o3 x4 s = some (r, t, C, D) → (∀ (b2 : Nat → Nat) (S2 : h_S), c_ext b s b2 t → c_R E g b2 t S2 → c_F t → Q r S2) → C ≤ bc → D ≤ bs → WK33 A_o0 x1 x2 A_o3 x4 S_s bc bs) {b : Nat → Nat} {s S_s : h_S} {C0 D0 bc bs : Nat} {A_o0 : Nat} {x1 : Int32} {x2 : Int32} {o3 : Nat} {A_o3 : Nat} {x4 : Int32} (hR : c_R E g b s S_s) (hF : c_F s) (f_o0 : c_at b s 3 A_o0) (f_o3 : c_at b s o3 A_o3) (h : fn_X7_keepLaid_33b K33 x1 x2 o3 x4 s = some (r, t, C0, D0)) (hQ : ∀ (b2 : Nat → Nat) (S2 : h_S), c_ext b s b2 t → c_R E g b2 t S2 → c_F t → Q r S2) (hc : C0 ≤ bc) (hd : D0 ≤ bs) : w_X7_keepLaid_33b Q WK33 A_o0 x1 x2 A_o3 x4 S_s bc bs := by
  unfold fn_X7_keepLaid_33b at h
  unfold w_X7_keepLaid_33b
  refine ⟨(cr_k hR f_o0).trans (cf_k (a := 3) hF rfl (by decide)), ?_⟩
  try simp -zeta -zetaUnused only [cr_i hR f_o0]
  refine fg_ite Iff.rfl (fun d => ?_) (fun d => ?_)
  · have h := fg_if_t d h
    obtain ⟨q3, e_q3, h⟩ := fg_let_s h
    have z_q3 : h_k s q3 = 0 := cf_z hF e_q3
    obtain ⟨C_q3, D_q3, h, q_q3, w_q3⟩ := fg_c_s h
    obtain ⟨u1_q3, hc⟩ := fg_sp q_q3 hc
    obtain ⟨u2_q3, hd⟩ := fg_sp w_q3 hd
    refine ⟨u1_q3, u2_q3, fun A_q3 Z_q3 => ?_⟩
    obtain ⟨s7, e_s7, h⟩ := fg_let_s h
    intro S_s7
    have r_s7 : c_R E g (c_up b q3 A_q3) s7 S_s7 := by rw [e_s7]; exact cr_nw hR z_q3 Z_q3 (by decide)
    have F_s7 : c_F s7 := by rw [e_s7]; exact cf_nw hF e_q3 (by decide)
    have x_s7 : c_ext b s (c_up b q3 A_q3) s7 := by rw [e_s7]; exact cx_new z_q3
    have f_q3 : c_at (c_up b q3 A_q3) s7 q3 A_q3 := by rw [e_s7]; exact ca_nw (by decide)
    clear_value S_s7
    intro c8
    have hc : _ ≤ c8 := hc
    clear_value c8
    intro d9
    have hd : _ ≤ d9 := hd
    clear_value d9
    refine ⟨(cr_k r_s7 (cr_atx f_o0 x_s7)).trans (cf_k (a := 3) F_s7 rfl (by decide)), ?_⟩
    obtain ⟨A_a11, w_a11, f_a11⟩ := cr_aos (cr_r r_s7 (cr_atx f_o0 x_s7) _) (cf_r (a := 3) (j := 2) (y := 16) F_s7 rfl)
    refine ⟨A_a11, w_a11, ?_⟩
    refine ⟨(cr_k r_s7 f_a11).trans (cf_k (a := 16) F_s7 rfl (by decide)), ?_⟩
    obtain ⟨c, h⟩ := fg_g_s h
    refine ⟨cr_vp (cr_n r_s7 f_a11) (cf_n (a := 16) F_s7 rfl (by decide) rfl) c, ?_⟩
    obtain ⟨u_, s14, e_s14, h⟩ := fg_b_s h
    refine ft_X4_init r_s7 F_s7 f_q3 (cr_some (cr_atx f_o3 x_s7)) (cr_r r_s7 f_a11 _) e_s14 (fun b_s14 S_s14 x_s14 r_s14 F_s14 => ?_)
    obtain ⟨A_a16, w_a16, f_a16⟩ := cr_aos (cr_r hR f_o0 _) (cf_r (a := 3) (j := 2) (y := 16) hF rfl)
    refine ⟨A_a16, w_a16, ?_⟩
    refine ⟨(cr_k r_s14 (cr_atx (cr_atx f_a16 x_s7) x_s14)).trans (cf_k (a := 16) F_s14 rfl (by decide)), ?_⟩
    obtain ⟨c, h⟩ := fg_g_s h
    refine ⟨cr_vp (cr_n r_s14 (cr_atx (cr_atx f_a16 x_s7) x_s14)) (cf_n (a := 16) F_s14 rfl (by decide) rfl) c, ?_⟩
    obtain ⟨c_q3_2, h⟩ := fg_g_s h
    refine ⟨(cr_k r_s14 (cr_atx f_q3 x_s14)).trans c_q3_2, ?_⟩
    obtain ⟨s20, e_s20, h⟩ := fg_let_s h
    intro S_s20
    have r_s20 : c_R E g b_s14 s20 S_s20 := by rw [e_s20]; exact cr_sr r_s14 (cr_atx (cr_atx f_a16 x_s7) x_s14) _ (cr_some (cr_atx f_q3 x_s14))
    have F_s20 : c_F s20 := by rw [e_s20]; exact cf_sr F_s14 (cf_k (a := 16) F_s14 rfl (by decide)) (by decide) _
    have x_s20 : c_ext b_s14 s14 b_s14 s20 := by rw [e_s20]; exact cx_sr _
    clear_value S_s20
    obtain ⟨q, q2⟩ := fg_retc h
    subst q
    subst q2
    exact hQ _ _ (cr_xt x_s7 (cr_xt x_s14 x_s20)) r_s20 F_s20
  · have h := fg_if_e d h
    obtain ⟨A_a21, w_a21, f_a21⟩ := cr_aos (cr_r hR f_o0 _) (cf_r (a := 3) (j := 8) (y := 27) hF rfl)
    refine ⟨A_a21, w_a21, ?_⟩
    refine ⟨(cr_k hR f_a21).trans (cf_k (a := 27) hF rfl (by decide)), ?_⟩
    obtain ⟨c, h⟩ := fg_g_s h
    refine ⟨cr_vp (cr_n hR f_a21) (cf_n (a := 27) hF rfl (by decide) rfl) c, ?_⟩
    obtain ⟨c_o3_1, h⟩ := fg_g_s h
    refine ⟨(cr_k hR f_o3).trans c_o3_1, ?_⟩
    obtain ⟨c, h⟩ := fg_g_s h
    refine ⟨cr_vp (cr_n hR f_o3) rfl c, ?_⟩
    obtain ⟨c, h⟩ := fg_g_s h
    refine ⟨cr_cast hR (cr_r hR f_a21 _) c, ?_⟩
    obtain ⟨s27, e_s27, h⟩ := fg_let_s h
    intro S_s27
    have r_s27 : c_R E g b s27 S_s27 := by rw [e_s27]; exact cr_sr hR f_o3 _ (cr_r hR f_a21 _)
    have F_s27 : c_F s27 := by rw [e_s27]; exact cf_sr hF c_o3_1 (by decide) _
    have x_s27 : c_ext b s b s27 := by rw [e_s27]; exact cx_sr _
    clear_value S_s27
    exact hK33 r_s27 F_s27 (cr_atx f_o0 x_s27) (cr_atx f_o3 x_s27) h (fun b2 S2 x2 => hQ b2 S2 (cr_xt x_s27 x2)) hc hd
set_option maxRecDepth 100000 in
set_option maxHeartbeats 4000000 in
theorem ft_X7_keepLaid_33 {E : h_S} {g : h_G} {r : Int32} {t : h_S} {Q : Int32 → h_S → Prop} : ∀ (n : Nat) {b : Nat → Nat} {s S_s : h_S} {C D bc bs : Nat} {A_o0 : Nat} {x1 : Int32} {x2 : Int32} {o3 : Nat} {A_o3 : Nat} {x4 : Int32}, c_R E g b s S_s → c_F s → c_at b s 3 A_o0 → c_at b s o3 A_o3 → fn_X7_keepLaid_33 n x1 x2 o3 x4 s = some (r, t, C, D) → (∀ (b2 : Nat → Nat) (S2 : h_S), c_ext b s b2 t → c_R E g b2 t S2 → c_F t → Q r S2) → C ≤ bc → D ≤ bs → w_X7_keepLaid_33 Q n A_o0 x1 x2 A_o3 x4 S_s bc bs := by
  intro n
  induction n with
  | zero => intros; rename_i h _ _ _; exact fg_none h
  | succ n ih => exact ft_X7_keepLaid_33b @ih
set_option maxRecDepth 100000 in
set_option maxHeartbeats 4000000 in
theorem ft_X7_keepLaid {E : h_S} {g : h_G} {r : Int32} {t : h_S} {Q : Int32 → h_S → Prop} {b : Nat → Nat} {s S_s : h_S} {C0 D0 mc ms : Nat} {A_o0 : Nat} {x1 : Int32} {x2 : Int32} (hR : c_R E g b s S_s) (hF : c_F s) (f_o0 : c_at b s 3 A_o0) (h : fn_X7_keepLaid x1 x2 s = some (r, t, C0, D0)) (hQ : ∀ (b2 : Nat → Nat) (S2 : h_S), c_ext b s b2 t → c_R E g b2 t S2 → c_F t → Q r S2) (hc : C0 ≤ mc) (hd : D0 ≤ ms) : w_X7_keepLaid A_o0 x1 x2 S_s mc ms Q := by
  unfold fn_X7_keepLaid at h
  unfold w_X7_keepLaid
  refine ⟨(cr_k hR f_o0).trans (cf_k (a := 3) hF rfl (by decide)), ?_⟩
  try simp -zeta -zetaUnused only [cr_i hR f_o0]
  refine fg_ite Iff.rfl (fun d => ?_) (fun d => ?_)
  · have h := fg_if_t d h
    unfold w_X7_keepLaid_20
    obtain ⟨q, q2⟩ := fg_retc h
    subst q
    subst q2
    exact hQ _ _ cr_xr hR hF
  · have h := fg_if_e d h
    obtain ⟨p4, s3, e_s3, h⟩ := fg_b_s h
    refine ft_X11_within hR hF e_s3 (fun b_s3 S_s3 x_s3 r_s3 F_s3 => ?_)
    refine fg_ite Iff.rfl (fun d => ?_) (fun d => ?_)
    · have h := fg_if_t d h
      unfold w_X7_keepLaid_20
      obtain ⟨q, q2⟩ := fg_retc h
      subst q
      subst q2
      exact hQ _ _ x_s3 r_s3 F_s3
    · have h := fg_if_e d h
      refine ⟨(cr_k r_s3 (cr_atx f_o0 x_s3)).trans (cf_k (a := 3) F_s3 rfl (by decide)), ?_⟩
      try simp -zeta -zetaUnused only [cr_i r_s3 (cr_atx f_o0 x_s3)]
      obtain ⟨c, h⟩ := fg_g_s h
      refine ⟨c, ?_⟩
      obtain ⟨c, h⟩ := fg_g_s h
      refine ⟨c, ?_⟩
      obtain ⟨q7, e_q7, h⟩ := fg_let_s h
      have z_q7 : h_k s3 q7 = 0 := cf_z F_s3 e_q7
      obtain ⟨C_q7, D_q7, h, q_q7, w_q7⟩ := fg_c_s h
      obtain ⟨u1_q7, hc⟩ := fg_sp q_q7 hc
      obtain ⟨u2_q7, hd⟩ := fg_sp w_q7 hd
      refine ⟨u1_q7, u2_q7, fun A_q7 Z_q7 => ?_⟩
      obtain ⟨s13, e_s13, h⟩ := fg_let_s h
      intro S_s13
      have r_s13 : c_R E g (c_up b_s3 q7 A_q7) s13 S_s13 := by rw [e_s13]; exact cr_nw r_s3 z_q7 Z_q7 (by decide)
      have F_s13 : c_F s13 := by rw [e_s13]; exact cf_nw F_s3 e_q7 (by decide)
      have x_s13 : c_ext b_s3 s3 (c_up b_s3 q7 A_q7) s13 := by rw [e_s13]; exact cx_new z_q7
      have f_q7 : c_at (c_up b_s3 q7 A_q7) s13 q7 A_q7 := by rw [e_s13]; exact ca_nw (by decide)
      clear_value S_s13
      intro c14
      have hc : _ ≤ c14 := hc
      clear_value c14
      intro d15
      have hd : _ ≤ d15 := hd
      clear_value d15
      exact ⟨g_N, ft_X7_keepLaid_33 g_N r_s13 F_s13 (cr_atx (cr_atx f_o0 x_s3) x_s13) f_q7 h (fun b2 S2 x2 => hQ b2 S2 (cr_xt (cr_xt x_s3 x_s13) x2)) hc hd⟩
set_option maxRecDepth 100000 in
set_option maxHeartbeats 4000000 in
theorem ft_X7_bring {E : h_S} {g : h_G} {r : Int32} {t : h_S} {Q : Int32 → h_S → Prop} {b : Nat → Nat} {s S_s : h_S} {C0 D0 mc ms : Nat} {A_o0 : Nat} {x1 : Int32} {x2 : Int32} {r3 : Option Nat} {R_r3 : Option Nat} {x4 : Int32} (hR : c_R E g b s S_s) (hF : c_F s) (f_o0 : c_at b s 3 A_o0) (f_r3 : c_ao b s r3 R_r3) (h : fn_X7_bring x1 x2 r3 x4 s = some (r, t, C0, D0)) (hQ : ∀ (b2 : Nat → Nat) (S2 : h_S), c_ext b s b2 t → c_R E g b2 t S2 → c_F t → Q r S2) (hc : C0 ≤ mc) (hd : D0 ≤ ms) : w_X7_bring A_o0 x1 x2 R_r3 x4 S_s mc ms Q := by
  unfold fn_X7_bring at h
  unfold w_X7_bring
  refine ⟨(cr_k hR f_o0).trans (cf_k (a := 3) hF rfl (by decide)), ?_⟩
  obtain ⟨u_, s2, e_s2, h⟩ := fg_b_s h
  refine ft_X7_layOut hR hF f_o0 e_s2 (fun b_s2 S_s2 x_s2 r_s2 F_s2 => ?_)
  refine ⟨(cr_k r_s2 (cr_atx f_o0 x_s2)).trans (cf_k (a := 3) F_s2 rfl (by decide)), ?_⟩
  obtain ⟨p6, s5, mc7, ms8, C_s5, D_s5, e_s5, h, q_s5, w_s5⟩ := fg_bc_s h
  obtain ⟨u1_s5, hc⟩ := fg_sp q_s5 hc
  obtain ⟨u2_s5, hd⟩ := fg_sp w_s5 hd
  refine ⟨mc7, ms8, u1_s5, u2_s5, ft_X7_openAhead r_s2 F_s2 (cr_atx f_o0 x_s2) e_s5 (fun b_s5 S_s5 x_s5 r_s5 F_s5 => ?_) (Nat.le_refl _) (Nat.le_refl _)⟩
  refine ⟨(cr_k r_s5 (cr_atx (cr_atx f_o0 x_s2) x_s5)).trans (cf_k (a := 3) F_s5 rfl (by decide)), ?_⟩
  obtain ⟨u_, s12, e_s12, h⟩ := fg_b_s h
  refine ft_X7_insert r_s5 F_s5 (cr_atx (cr_atx f_o0 x_s2) x_s5) (cr_aox (cr_aox f_r3 x_s2) x_s5) e_s12 (fun b_s12 S_s12 x_s12 r_s12 F_s12 => ?_)
  refine ⟨(cr_k r_s12 (cr_atx (cr_atx (cr_atx f_o0 x_s2) x_s5) x_s12)).trans (cf_k (a := 3) F_s12 rfl (by decide)), ?_⟩
  obtain ⟨p16, s15, mc17, ms18, C_s15, D_s15, e_s15, h, q_s15, w_s15⟩ := fg_bc_s h
  obtain ⟨u1_s15, hc⟩ := fg_sp q_s15 hc
  obtain ⟨u2_s15, hd⟩ := fg_sp w_s15 hd
  refine ⟨mc17, ms18, u1_s15, u2_s15, ft_X7_keepLaid r_s12 F_s12 (cr_atx (cr_atx (cr_atx f_o0 x_s2) x_s5) x_s12) e_s15 (fun b_s15 S_s15 x_s15 r_s15 F_s15 => ?_) (Nat.le_refl _) (Nat.le_refl _)⟩
  obtain ⟨c, h⟩ := fg_g_s h
  refine ⟨c, ?_⟩
  obtain ⟨q, q2⟩ := fg_retc h
  subst q
  subst q2
  exact hQ _ _ (cr_xt x_s2 (cr_xt x_s5 (cr_xt x_s12 x_s15))) r_s15 F_s15
set_option maxRecDepth 100000 in
set_option maxHeartbeats 4000000 in
theorem ft_X7_lift_118 {E : h_S} {g : h_G} {r : Unit} {t : h_S} {Q : h_S → Prop} {b : Nat → Nat} {s S_s : h_S} {C0 D0 bc bs : Nat} {A_o0 : Nat} (hR : c_R E g b s S_s) (hF : c_F s) (f_o0 : c_at b s 3 A_o0) (h : fn_X7_lift_118 s = some (r, t, C0, D0)) (hQ : ∀ (b2 : Nat → Nat) (S2 : h_S), c_ext b s b2 t → c_R E g b2 t S2 → c_F t → Q S2) (hc : C0 ≤ bc) (hd : D0 ≤ bs) : w_X7_lift_118 Q A_o0 S_s bc bs := by
  unfold fn_X7_lift_118 at h
  unfold w_X7_lift_118
  refine ⟨(cr_k hR f_o0).trans (cf_k (a := 3) hF rfl (by decide)), ?_⟩
  try simp -zeta -zetaUnused only [cr_i hR f_o0]
  obtain ⟨s2, e_s2, h⟩ := fg_let_s h
  intro S_s2
  have r_s2 : c_R E g b s2 S_s2 := by rw [e_s2]; exact cr_si hR f_o0 _ _
  have F_s2 : c_F s2 := by rw [e_s2]; exact cf_si hF _ _
  have x_s2 : c_ext b s b s2 := by rw [e_s2]; exact cx_si _ _
  clear_value S_s2
  obtain ⟨_, q⟩ := fg_retc h
  subst q
  exact hQ _ _ x_s2 r_s2 F_s2
set_option maxRecDepth 100000 in
set_option maxHeartbeats 4000000 in
theorem ft_X7_lift_77b {E : h_S} {g : h_G} {r : Unit} {t : h_S} {Q : h_S → Prop} {K77 : Int32 → h_S → fg_R (Unit) h_S} {WK77 : Nat → Int32 → h_S → Nat → Nat → Prop} (hK77 : ∀ {b : Nat → Nat} {s S_s : h_S} {C D bc bs : Nat} {A_o0 : Nat} {x7 : Int32}, c_R E g b s S_s → c_F s → c_at b s 3 A_o0 → K77 x7 s = some (r, t, C, D) → (∀ (b2 : Nat → Nat) (S2 : h_S), c_ext b s b2 t → c_R E g b2 t S2 → c_F t → Q S2) → C ≤ bc → D ≤ bs → WK77 A_o0 x7 S_s bc bs) {b : Nat → Nat} {s S_s : h_S} {C0 D0 bc bs : Nat} {A_o0 : Nat} {x7 : Int32} (hR : c_R E g b s S_s) (hF : c_F s) (f_o0 : c_at b s 3 A_o0) (h : fn_X7_lift_77b K77 x7 s = some (r, t, C0, D0)) (hQ : ∀ (b2 : Nat → Nat) (S2 : h_S), c_ext b s b2 t → c_R E g b2 t S2 → c_F t → Q S2) (hc : C0 ≤ bc) (hd : D0 ≤ bs) : w_X7_lift_77b Q WK77 A_o0 x7 S_s bc bs := by
  unfold fn_X7_lift_77b at h
  unfold w_X7_lift_77b
  refine ⟨(cr_k hR f_o0).trans (cf_k (a := 3) hF rfl (by decide)), ?_⟩
  try simp -zeta -zetaUnused only [cr_i hR f_o0]
  refine fg_ite Iff.rfl (fun d => ?_) (fun d => ?_)
  · have h := fg_if_t d h
    exact ft_X7_lift_118 hR hF f_o0 h (fun b2 S2 x2 => hQ b2 S2 (cr_xt cr_xr x2)) hc hd
  · have h := fg_if_e d h
    refine fg_ite Iff.rfl (fun d => ?_) (fun d => ?_)
    · have h := fg_if_t d h
      exact ft_X7_lift_118 hR hF f_o0 h (fun b2 S2 x2 => hQ b2 S2 (cr_xt cr_xr x2)) hc hd
    · have h := fg_if_e d h
      obtain ⟨A_a4, w_a4, f_a4⟩ := cr_aos (cr_r hR f_o0 _) (cf_r (a := 3) (j := 8) (y := 27) hF rfl)
      refine ⟨A_a4, w_a4, ?_⟩
      refine ⟨(cr_k hR f_a4).trans (cf_k (a := 27) hF rfl (by decide)), ?_⟩
      obtain ⟨c, h⟩ := fg_g_s h
      refine ⟨cr_vp (cr_n hR f_a4) (cf_n (a := 27) hF rfl (by decide) rfl) c, ?_⟩
      obtain ⟨A_a7, w_a7, f_a7⟩ := cr_aos (cr_r hR f_o0 _) (cf_r (a := 3) (j := 8) (y := 27) hF rfl)
      refine ⟨A_a7, w_a7, ?_⟩
      refine ⟨(cr_k hR f_a7).trans (cf_k (a := 27) hF rfl (by decide)), ?_⟩
      obtain ⟨c, h⟩ := fg_g_s h
      refine ⟨cr_vp (cr_n hR f_a7) (cf_n (a := 27) hF rfl (by decide) rfl) c, ?_⟩
      obtain ⟨c, h⟩ := fg_g_s h
      refine ⟨cr_cast hR (cr_r hR f_a4 _) c, ?_⟩
      obtain ⟨s11, e_s11, h⟩ := fg_let_s h
      intro S_s11
      have r_s11 : c_R E g b s11 S_s11 := by rw [e_s11]; exact cr_sr hR f_a7 _ (cr_r hR f_a4 _)
      have F_s11 : c_F s11 := by rw [e_s11]; exact cf_sr hF (cf_k (a := 27) hF rfl (by decide)) (by decide) _
      have x_s11 : c_ext b s b s11 := by rw [e_s11]; exact cx_sr _
      clear_value S_s11
      exact hK77 r_s11 F_s11 (cr_atx f_o0 x_s11) h (fun b2 S2 x2 => hQ b2 S2 (cr_xt x_s11 x2)) hc hd
set_option maxRecDepth 100000 in
set_option maxHeartbeats 4000000 in
theorem ft_X7_lift_77 {E : h_S} {g : h_G} {r : Unit} {t : h_S} {Q : h_S → Prop} : ∀ (n : Nat) {b : Nat → Nat} {s S_s : h_S} {C D bc bs : Nat} {A_o0 : Nat} {x7 : Int32}, c_R E g b s S_s → c_F s → c_at b s 3 A_o0 → fn_X7_lift_77 n x7 s = some (r, t, C, D) → (∀ (b2 : Nat → Nat) (S2 : h_S), c_ext b s b2 t → c_R E g b2 t S2 → c_F t → Q S2) → C ≤ bc → D ≤ bs → w_X7_lift_77 Q n A_o0 x7 S_s bc bs := by
  intro n
  induction n with
  | zero => intros; rename_i h _ _ _; exact fg_none h
  | succ n ih => exact ft_X7_lift_77b @ih
set_option maxRecDepth 100000 in
set_option maxHeartbeats 4000000 in
theorem ft_X7_lift_41b {E : h_S} {g : h_G} {r : Unit} {t : h_S} {Q : h_S → Prop} {K41 : Int32 → Int32 → Int32 → h_S → fg_R (Unit) h_S} {WK41 : Nat → Int32 → Int32 → Int32 → h_S → Nat → Nat → Prop} (hK41 : ∀ {b : Nat → Nat} {s S_s : h_S} {C D bc bs : Nat} {A_o0 : Nat} {x5 : Int32} {x6 : Int32} {x7 : Int32}, c_R E g b s S_s → c_F s → c_at b s 3 A_o0 → K41 x5 x6 x7 s = some (r, t, C, D) → (∀ (b2 : Nat → Nat) (S2 : h_S), c_ext b s b2 t → c_R E g b2 t S2 → c_F t → Q S2) → C ≤ bc → D ≤ bs → WK41 A_o0 x5 x6 x7 S_s bc bs) {b : Nat → Nat} {s S_s : h_S} {C0 D0 bc bs : Nat} {A_o0 : Nat} {x5 : Int32} {x6 : Int32} {x7 : Int32} (hR : c_R E g b s S_s) (hF : c_F s) (f_o0 : c_at b s 3 A_o0) (h : fn_X7_lift_41b K41 x5 x6 x7 s = some (r, t, C0, D0)) (hQ : ∀ (b2 : Nat → Nat) (S2 : h_S), c_ext b s b2 t → c_R E g b2 t S2 → c_F t → Q S2) (hc : C0 ≤ bc) (hd : D0 ≤ bs) : w_X7_lift_41b Q WK41 A_o0 x5 x6 x7 S_s bc bs := by
  unfold fn_X7_lift_41b at h
  unfold w_X7_lift_41b
  refine ⟨(cr_k hR f_o0).trans (cf_k (a := 3) hF rfl (by decide)), ?_⟩
  try simp -zeta -zetaUnused only [cr_i hR f_o0]
  refine fg_ite Iff.rfl (fun d => ?_) (fun d => ?_)
  · have h := fg_if_t d h
    exact ⟨g_N, ft_X7_lift_77 g_N hR hF f_o0 h (fun b2 S2 x2 => hQ b2 S2 (cr_xt cr_xr x2)) hc hd⟩
  · have h := fg_if_e d h
    obtain ⟨A_a3, w_a3, f_a3⟩ := cr_aos (cr_r hR f_o0 _) (cf_r (a := 3) (j := 8) (y := 27) hF rfl)
    refine ⟨A_a3, w_a3, ?_⟩
    refine ⟨(cr_k hR f_a3).trans (cf_k (a := 27) hF rfl (by decide)), ?_⟩
    obtain ⟨c, h⟩ := fg_g_s h
    refine ⟨cr_vp (cr_n hR f_a3) (cf_n (a := 27) hF rfl (by decide) rfl) c, ?_⟩
    obtain ⟨A_a6, w_a6, f_a6⟩ := cr_aos (cr_r hR f_o0 _) (cf_r (a := 3) (j := 10) (y := 28) hF rfl)
    refine ⟨A_a6, w_a6, ?_⟩
    refine ⟨(cr_k hR f_a6).trans (cf_k (a := 28) hF rfl (by decide)), ?_⟩
    obtain ⟨c, h⟩ := fg_g_s h
    refine ⟨cr_vp (cr_n hR f_a6) (cf_n (a := 28) hF rfl (by decide) rfl) c, ?_⟩
    obtain ⟨c, h⟩ := fg_g_s h
    refine ⟨cr_cast hR (cr_r hR f_a3 _) c, ?_⟩
    obtain ⟨s10, e_s10, h⟩ := fg_let_s h
    intro S_s10
    have r_s10 : c_R E g b s10 S_s10 := by rw [e_s10]; exact cr_sr hR f_a6 _ (cr_r hR f_a3 _)
    have F_s10 : c_F s10 := by rw [e_s10]; exact cf_sr hF (cf_k (a := 28) hF rfl (by decide)) (by decide) _
    have x_s10 : c_ext b s b s10 := by rw [e_s10]; exact cx_sr _
    clear_value S_s10
    exact hK41 r_s10 F_s10 (cr_atx f_o0 x_s10) h (fun b2 S2 x2 => hQ b2 S2 (cr_xt x_s10 x2)) hc hd
set_option maxRecDepth 100000 in
set_option maxHeartbeats 4000000 in
theorem ft_X7_lift_41 {E : h_S} {g : h_G} {r : Unit} {t : h_S} {Q : h_S → Prop} : ∀ (n : Nat) {b : Nat → Nat} {s S_s : h_S} {C D bc bs : Nat} {A_o0 : Nat} {x5 : Int32} {x6 : Int32} {x7 : Int32}, c_R E g b s S_s → c_F s → c_at b s 3 A_o0 → fn_X7_lift_41 n x5 x6 x7 s = some (r, t, C, D) → (∀ (b2 : Nat → Nat) (S2 : h_S), c_ext b s b2 t → c_R E g b2 t S2 → c_F t → Q S2) → C ≤ bc → D ≤ bs → w_X7_lift_41 Q n A_o0 x5 x6 x7 S_s bc bs := by
  intro n
  induction n with
  | zero => intros; rename_i h _ _ _; exact fg_none h
  | succ n ih => exact ft_X7_lift_41b @ih
set_option maxRecDepth 100000 in
set_option maxHeartbeats 4000000 in
theorem ft_X7_lift {E : h_S} {g : h_G} {r : Unit} {t : h_S} {Q : h_S → Prop} {b : Nat → Nat} {s S_s : h_S} {C0 D0 mc ms : Nat} {A_o0 : Nat} {x1 : Int32} {x2 : Int32} {x3 : Int32} {x4 : Int32} (hR : c_R E g b s S_s) (hF : c_F s) (f_o0 : c_at b s 3 A_o0) (h : fn_X7_lift x1 x2 x3 x4 s = some (r, t, C0, D0)) (hQ : ∀ (b2 : Nat → Nat) (S2 : h_S), c_ext b s b2 t → c_R E g b2 t S2 → c_F t → Q S2) (hc : C0 ≤ mc) (hd : D0 ≤ ms) : w_X7_lift A_o0 x1 x2 x3 x4 S_s mc ms Q := by
  unfold fn_X7_lift at h
  unfold w_X7_lift
  refine ⟨(cr_k hR f_o0).trans (cf_k (a := 3) hF rfl (by decide)), ?_⟩
  obtain ⟨u_, s2, e_s2, h⟩ := fg_b_s h
  refine ft_X7_layOut hR hF f_o0 e_s2 (fun b_s2 S_s2 x_s2 r_s2 F_s2 => ?_)
  refine ⟨(cr_k r_s2 (cr_atx f_o0 x_s2)).trans (cf_k (a := 3) F_s2 rfl (by decide)), ?_⟩
  obtain ⟨p6, s5, mc7, ms8, C_s5, D_s5, e_s5, h, q_s5, w_s5⟩ := fg_bc_s h
  obtain ⟨u1_s5, hc⟩ := fg_sp q_s5 hc
  obtain ⟨u2_s5, hd⟩ := fg_sp w_s5 hd
  refine ⟨mc7, ms8, u1_s5, u2_s5, ft_X7_openAhead r_s2 F_s2 (cr_atx f_o0 x_s2) e_s5 (fun b_s5 S_s5 x_s5 r_s5 F_s5 => ?_) (Nat.le_refl _) (Nat.le_refl _)⟩
  refine ⟨(cr_k r_s5 (cr_atx (cr_atx f_o0 x_s2) x_s5)).trans (cf_k (a := 3) F_s5 rfl (by decide)), ?_⟩
  obtain ⟨p13, s12, mc14, ms15, C_s12, D_s12, e_s12, h, q_s12, w_s12⟩ := fg_bc_s h
  obtain ⟨u1_s12, hc⟩ := fg_sp q_s12 hc
  obtain ⟨u2_s12, hd⟩ := fg_sp w_s12 hd
  refine ⟨mc14, ms15, u1_s12, u2_s12, ft_X7_openBehind r_s5 F_s5 (cr_atx (cr_atx f_o0 x_s2) x_s5) e_s12 (fun b_s12 S_s12 x_s12 r_s12 F_s12 => ?_) (Nat.le_refl _) (Nat.le_refl _)⟩
  refine ⟨(cr_k r_s12 (cr_atx (cr_atx (cr_atx f_o0 x_s2) x_s5) x_s12)).trans (cf_k (a := 3) F_s12 rfl (by decide)), ?_⟩
  obtain ⟨s19, e_s19, h⟩ := fg_let_s h
  intro S_s19
  have r_s19 : c_R E g b_s12 s19 S_s19 := by rw [e_s19]; exact cr_si r_s12 (cr_atx (cr_atx (cr_atx f_o0 x_s2) x_s5) x_s12) _ _
  have F_s19 : c_F s19 := by rw [e_s19]; exact cf_si F_s12 _ _
  have x_s19 : c_ext b_s12 s12 b_s12 s19 := by rw [e_s19]; exact cx_si _ _
  clear_value S_s19
  exact ⟨g_N, ft_X7_lift_41 g_N r_s19 F_s19 (cr_atx (cr_atx (cr_atx (cr_atx f_o0 x_s2) x_s5) x_s12) x_s19) h (fun b2 S2 x2 => hQ b2 S2 (cr_xt (cr_xt x_s2 (cr_xt x_s5 (cr_xt x_s12 x_s19))) x2)) hc hd⟩
set_option maxRecDepth 100000 in
set_option maxHeartbeats 4000000 in
theorem ft_X7_bringLifted_10b {E : h_S} {g : h_G} {r : Unit} {t : h_S} {Q : h_S → Prop} {K10 : Int32 → Int32 → h_S → fg_R (Unit) h_S} {WK10 : Nat → Int32 → Int32 → h_S → Nat → Nat → Prop} (hK10 : ∀ {b : Nat → Nat} {s S_s : h_S} {C D bc bs : Nat} {A_o0 : Nat} {x3 : Int32} {x4 : Int32}, c_R E g b s S_s → c_F s → c_at b s 3 A_o0 → K10 x3 x4 s = some (r, t, C, D) → (∀ (b2 : Nat → Nat) (S2 : h_S), c_ext b s b2 t → c_R E g b2 t S2 → c_F t → Q S2) → C ≤ bc → D ≤ bs → WK10 A_o0 x3 x4 S_s bc bs) {b : Nat → Nat} {s S_s : h_S} {C0 D0 bc bs : Nat} {A_o0 : Nat} {x3 : Int32} {x4 : Int32} (hR : c_R E g b s S_s) (hF : c_F s) (f_o0 : c_at b s 3 A_o0) (h : fn_X7_bringLifted_10b K10 x3 x4 s = some (r, t, C0, D0)) (hQ : ∀ (b2 : Nat → Nat) (S2 : h_S), c_ext b s b2 t → c_R E g b2 t S2 → c_F t → Q S2) (hc : C0 ≤ bc) (hd : D0 ≤ bs) : w_X7_bringLifted_10b Q WK10 A_o0 x3 x4 S_s bc bs := by
  unfold fn_X7_bringLifted_10b at h
  unfold w_X7_bringLifted_10b
  refine ⟨(cr_k hR f_o0).trans (cf_k (a := 3) hF rfl (by decide)), ?_⟩
  try simp -zeta -zetaUnused only [cr_i hR f_o0]
  refine fg_ite Iff.rfl (fun d => ?_) (fun d => ?_)
  · have h := fg_if_t d h
    obtain ⟨_, q⟩ := fg_retc h
    subst q
    exact hQ _ _ cr_xr hR hF
  · have h := fg_if_e d h
    obtain ⟨A_a3, w_a3, f_a3⟩ := cr_aos (cr_r hR f_o0 _) (cf_r (a := 3) (j := 10) (y := 28) hF rfl)
    refine ⟨A_a3, w_a3, ?_⟩
    refine ⟨(cr_k hR f_a3).trans (cf_k (a := 28) hF rfl (by decide)), ?_⟩
    obtain ⟨c, h⟩ := fg_g_s h
    refine ⟨cr_vp (cr_n hR f_a3) (cf_n (a := 28) hF rfl (by decide) rfl) c, ?_⟩
    obtain ⟨u_, s6, e_s6, h⟩ := fg_b_s h
    refine ft_X7_insert hR hF f_o0 (cr_r hR f_a3 _) e_s6 (fun b_s6 S_s6 x_s6 r_s6 F_s6 => ?_)
    exact hK10 r_s6 F_s6 (cr_atx f_o0 x_s6) h (fun b2 S2 x2 => hQ b2 S2 (cr_xt x_s6 x2)) hc hd
set_option maxRecDepth 100000 in
set_option maxHeartbeats 4000000 in
theorem ft_X7_bringLifted_10 {E : h_S} {g : h_G} {r : Unit} {t : h_S} {Q : h_S → Prop} : ∀ (n : Nat) {b : Nat → Nat} {s S_s : h_S} {C D bc bs : Nat} {A_o0 : Nat} {x3 : Int32} {x4 : Int32}, c_R E g b s S_s → c_F s → c_at b s 3 A_o0 → fn_X7_bringLifted_10 n x3 x4 s = some (r, t, C, D) → (∀ (b2 : Nat → Nat) (S2 : h_S), c_ext b s b2 t → c_R E g b2 t S2 → c_F t → Q S2) → C ≤ bc → D ≤ bs → w_X7_bringLifted_10 Q n A_o0 x3 x4 S_s bc bs := by
  intro n
  induction n with
  | zero => intros; rename_i h _ _ _; exact fg_none h
  | succ n ih => exact ft_X7_bringLifted_10b @ih
set_option maxRecDepth 100000 in
set_option maxHeartbeats 4000000 in
theorem ft_X7_bringLifted {E : h_S} {g : h_G} {r : Unit} {t : h_S} {Q : h_S → Prop} {b : Nat → Nat} {s S_s : h_S} {C0 D0 mc ms : Nat} {A_o0 : Nat} {x1 : Int32} {x2 : Int32} (hR : c_R E g b s S_s) (hF : c_F s) (f_o0 : c_at b s 3 A_o0) (h : fn_X7_bringLifted x1 x2 s = some (r, t, C0, D0)) (hQ : ∀ (b2 : Nat → Nat) (S2 : h_S), c_ext b s b2 t → c_R E g b2 t S2 → c_F t → Q S2) (hc : C0 ≤ mc) (hd : D0 ≤ ms) : w_X7_bringLifted A_o0 x1 x2 S_s mc ms Q := by
  unfold fn_X7_bringLifted at h
  unfold w_X7_bringLifted
  refine ⟨(cr_k hR f_o0).trans (cf_k (a := 3) hF rfl (by decide)), ?_⟩
  obtain ⟨p3, s2, mc4, ms5, C_s2, D_s2, e_s2, h, q_s2, w_s2⟩ := fg_bc_s h
  obtain ⟨u1_s2, hc⟩ := fg_sp q_s2 hc
  obtain ⟨u2_s2, hd⟩ := fg_sp w_s2 hd
  refine ⟨mc4, ms5, u1_s2, u2_s2, ft_X7_openAhead hR hF f_o0 e_s2 (fun b_s2 S_s2 x_s2 r_s2 F_s2 => ?_) (Nat.le_refl _) (Nat.le_refl _)⟩
  exact ⟨g_N, ft_X7_bringLifted_10 g_N r_s2 F_s2 (cr_atx f_o0 x_s2) h (fun b2 S2 x2 => hQ b2 S2 (cr_xt x_s2 x2)) hc hd⟩
set_option maxRecDepth 100000 in
set_option maxHeartbeats 4000000 in
theorem ft_X7_returnTo {E : h_S} {g : h_G} {r : Unit} {t : h_S} {Q : h_S → Prop} {b : Nat → Nat} {s S_s : h_S} {C0 D0 mc ms : Nat} {A_o0 : Nat} {x1 : Int32} {x2 : Int32} {x3 : Int32} (hR : c_R E g b s S_s) (hF : c_F s) (f_o0 : c_at b s 3 A_o0) (h : fn_X7_returnTo x1 x2 x3 s = some (r, t, C0, D0)) (hQ : ∀ (b2 : Nat → Nat) (S2 : h_S), c_ext b s b2 t → c_R E g b2 t S2 → c_F t → Q S2) (hc : C0 ≤ mc) (hd : D0 ≤ ms) : w_X7_returnTo A_o0 x1 x2 x3 S_s mc ms Q := by
  unfold fn_X7_returnTo at h
  unfold w_X7_returnTo
  refine ⟨(cr_k hR f_o0).trans (cf_k (a := 3) hF rfl (by decide)), ?_⟩
  try simp -zeta -zetaUnused only [cr_i hR f_o0]
  obtain ⟨p3, s2, e_s2, h⟩ := fg_b_s h
  refine ft_X11_within hR hF e_s2 (fun b_s2 S_s2 x_s2 r_s2 F_s2 => ?_)
  refine fg_ite Iff.rfl (fun d => ?_) (fun d => ?_)
  · have h := fg_if_t d h
    unfold w_X7_returnTo_37
    obtain ⟨_, q⟩ := fg_retc h
    subst q
    exact hQ _ _ x_s2 r_s2 F_s2
  · have h := fg_if_e d h
    refine ⟨(cr_k r_s2 (cr_atx f_o0 x_s2)).trans (cf_k (a := 3) F_s2 rfl (by decide)), ?_⟩
    obtain ⟨q6, e_q6, h⟩ := fg_let_s h
    have z_q6 : h_k s2 q6 = 0 := cf_z F_s2 e_q6
    obtain ⟨C_q6, D_q6, h, q_q6, w_q6⟩ := fg_c_s h
    obtain ⟨u1_q6, hc⟩ := fg_sp q_q6 hc
    obtain ⟨u2_q6, hd⟩ := fg_sp w_q6 hd
    refine ⟨u1_q6, u2_q6, fun A_q6 Z_q6 => ?_⟩
    obtain ⟨s10, e_s10, h⟩ := fg_let_s h
    intro S_s10
    have r_s10 : c_R E g (c_up b_s2 q6 A_q6) s10 S_s10 := by rw [e_s10]; exact cr_nw r_s2 z_q6 Z_q6 (by decide)
    have F_s10 : c_F s10 := by rw [e_s10]; exact cf_nw F_s2 e_q6 (by decide)
    have x_s10 : c_ext b_s2 s2 (c_up b_s2 q6 A_q6) s10 := by rw [e_s10]; exact cx_new z_q6
    have f_q6 : c_at (c_up b_s2 q6 A_q6) s10 q6 A_q6 := by rw [e_s10]; exact ca_nw (by decide)
    clear_value S_s10
    intro c11
    have hc : _ ≤ c11 := hc
    clear_value c11
    intro d12
    have hd : _ ≤ d12 := hd
    clear_value d12
    refine ⟨(cr_k r_s10 (cr_atx (cr_atx f_o0 x_s2) x_s10)).trans (cf_k (a := 3) F_s10 rfl (by decide)), ?_⟩
    obtain ⟨p15, s14, e_s14, h⟩ := fg_b_s h
    refine ft_X7_piecesAsOf r_s10 F_s10 (cr_atx (cr_atx f_o0 x_s2) x_s10) e_s14 (fun b_s14 R_p15 S_s14 x_s14 r_s14 F_s14 f_p15 => ?_)
    refine ⟨(cr_k r_s14 (cr_atx (cr_atx (cr_atx f_o0 x_s2) x_s10) x_s14)).trans (cf_k (a := 3) F_s14 rfl (by decide)), ?_⟩
    obtain ⟨A_a17, w_a17, f_a17⟩ := cr_aos (cr_r r_s14 (cr_atx (cr_atx (cr_atx f_o0 x_s2) x_s10) x_s14) _) (cf_r (a := 3) (j := 2) (y := 16) F_s14 rfl)
    refine ⟨A_a17, w_a17, ?_⟩
    refine ⟨(cr_k r_s14 f_a17).trans (cf_k (a := 16) F_s14 rfl (by decide)), ?_⟩
    obtain ⟨c, h⟩ := fg_g_s h
    refine ⟨cr_vp (cr_n r_s14 f_a17) (cf_n (a := 16) F_s14 rfl (by decide) rfl) c, ?_⟩
    obtain ⟨u_, s20, e_s20, h⟩ := fg_b_s h
    refine ft_X4_init r_s14 F_s14 (cr_atx f_q6 x_s14) f_p15 (cr_r r_s14 f_a17 _) e_s20 (fun b_s20 S_s20 x_s20 r_s20 F_s20 => ?_)
    obtain ⟨A_a22, w_a22, f_a22⟩ := cr_aos (cr_r r_s2 (cr_atx f_o0 x_s2) _) (cf_r (a := 3) (j := 2) (y := 16) F_s2 rfl)
    refine ⟨A_a22, w_a22, ?_⟩
    refine ⟨(cr_k r_s20 (cr_atx (cr_atx (cr_atx f_a22 x_s10) x_s14) x_s20)).trans (cf_k (a := 16) F_s20 rfl (by decide)), ?_⟩
    obtain ⟨c, h⟩ := fg_g_s h
    refine ⟨cr_vp (cr_n r_s20 (cr_atx (cr_atx (cr_atx f_a22 x_s10) x_s14) x_s20)) (cf_n (a := 16) F_s20 rfl (by decide) rfl) c, ?_⟩
    obtain ⟨c_q6_2, h⟩ := fg_g_s h
    refine ⟨(cr_k r_s20 (cr_atx (cr_atx f_q6 x_s14) x_s20)).trans c_q6_2, ?_⟩
    obtain ⟨s26, e_s26, h⟩ := fg_let_s h
    intro S_s26
    have r_s26 : c_R E g b_s20 s26 S_s26 := by rw [e_s26]; exact cr_sr r_s20 (cr_atx (cr_atx (cr_atx f_a22 x_s10) x_s14) x_s20) _ (cr_some (cr_atx (cr_atx f_q6 x_s14) x_s20))
    have F_s26 : c_F s26 := by rw [e_s26]; exact cf_sr F_s20 (cf_k (a := 16) F_s20 rfl (by decide)) (by decide) _
    have x_s26 : c_ext b_s20 s20 b_s20 s26 := by rw [e_s26]; exact cx_sr _
    clear_value S_s26
    unfold w_X7_returnTo_37
    obtain ⟨_, q⟩ := fg_retc h
    subst q
    exact hQ _ _ (cr_xt x_s2 (cr_xt x_s10 (cr_xt x_s14 (cr_xt x_s20 x_s26)))) r_s26 F_s26
set_option maxRecDepth 100000 in
set_option maxHeartbeats 4000000 in
theorem ft_X7_endAtHome {E : h_S} {g : h_G} {r : Int32} {t : h_S} {Q : Int32 → h_S → Prop} {b : Nat → Nat} {s S_s : h_S} {A_o0 : Nat} {x1 : Int32} {x2 : Int32} {x3 : Int32} (hR : c_R E g b s S_s) (hF : c_F s) (f_o0 : c_at b s 3 A_o0) (h : fn_X7_endAtHome x1 x2 x3 s = some (r, t)) (hQ : ∀ (b2 : Nat → Nat) (S2 : h_S), c_ext b s b2 t → c_R E g b2 t S2 → c_F t → Q r S2) : w_X7_endAtHome A_o0 x1 x2 x3 S_s Q := by
  unfold fn_X7_endAtHome at h
  unfold w_X7_endAtHome
  refine ⟨(cr_k hR f_o0).trans (cf_k (a := 3) hF rfl (by decide)), ?_⟩
  obtain ⟨p3, s2, e_s2, h⟩ := fg_b_s h
  refine ft_X7_wordAt hR hF f_o0 e_s2 (fun b_s2 R_p3 S_s2 x_s2 r_s2 F_s2 f_p3 => ?_)
  refine fg_ite (cr_isn f_p3) (fun d => ?_) (fun d => ?_)
  · have h := fg_if_t d h
    unfold w_X7_endAtHome_30
    obtain ⟨q, q2⟩ := fg_ret h
    subst q
    subst q2
    exact hQ _ _ x_s2 r_s2 F_s2
  · have h := fg_if_e d h
    obtain ⟨a5, o_a5, h⟩ := fg_o_s h
    obtain ⟨A_a5, w_a5, f_a5⟩ := cr_aos f_p3 o_a5
    refine ⟨A_a5, w_a5, ?_⟩
    obtain ⟨c_a5_1, h⟩ := fg_g_s h
    refine ⟨(cr_k r_s2 f_a5).trans c_a5_1, ?_⟩
    try simp -zeta -zetaUnused only [cr_i r_s2 f_a5]
    refine fg_ite Iff.rfl (fun d => ?_) (fun d => ?_)
    · have h := fg_if_t d h
      unfold w_X7_endAtHome_30
      obtain ⟨q, q2⟩ := fg_ret h
      subst q
      subst q2
      exact hQ _ _ x_s2 r_s2 F_s2
    · have h := fg_if_e d h
      refine ⟨(cr_k r_s2 (cr_atx f_o0 x_s2)).trans (cf_k (a := 3) F_s2 rfl (by decide)), ?_⟩
      obtain ⟨A_a9, w_a9, f_a9⟩ := cr_aos (cr_r r_s2 (cr_atx f_o0 x_s2) _) (cf_r (a := 3) (j := 12) (y := 29) F_s2 rfl)
      refine ⟨A_a9, w_a9, ?_⟩
      refine ⟨(cr_k r_s2 f_a9).trans (cf_k (a := 29) F_s2 rfl (by decide)), ?_⟩
      try simp -zeta -zetaUnused only [cr_n r_s2 f_a9]
      refine fg_ite Iff.rfl (fun d => ?_) (fun d => ?_)
      · have h := fg_if_t d h
        obtain ⟨a12, o_a12, h⟩ := fg_o_s h
        obtain ⟨A_a12, w_a12, f_a12⟩ := cr_aos f_p3 o_a12
        refine ⟨A_a12, w_a12, ?_⟩
        obtain ⟨c_a12_2, h⟩ := fg_g_s h
        refine ⟨(cr_k r_s2 f_a12).trans c_a12_2, ?_⟩
        obtain ⟨A_a14, w_a14, f_a14⟩ := cr_aos (cr_r r_s2 (cr_atx f_o0 x_s2) _) (cf_r (a := 3) (j := 12) (y := 29) F_s2 rfl)
        refine ⟨A_a14, w_a14, ?_⟩
        refine ⟨(cr_k r_s2 f_a14).trans (cf_k (a := 29) F_s2 rfl (by decide)), ?_⟩
        obtain ⟨c, h⟩ := fg_g_s h
        refine ⟨cr_vp (cr_n r_s2 f_a14) (cf_n (a := 29) F_s2 rfl (by decide) rfl) c, ?_⟩
        try simp -zeta -zetaUnused only [cr_i r_s2 f_a12]
        obtain ⟨s17, e_s17, h⟩ := fg_let_s h
        intro S_s17
        have r_s17 : c_R E g b_s2 s17 S_s17 := by rw [e_s17]; exact cr_si r_s2 f_a14 _ _
        have F_s17 : c_F s17 := by rw [e_s17]; exact cf_si F_s2 _ _
        have x_s17 : c_ext b_s2 s2 b_s2 s17 := by rw [e_s17]; exact cx_si _ _
        clear_value S_s17
        obtain ⟨q, q2⟩ := fg_ret h
        subst q
        subst q2
        exact hQ _ _ (cr_xt x_s2 x_s17) r_s17 F_s17
      · have h := fg_if_e d h
        unfold w_X7_endAtHome_30
        obtain ⟨q, q2⟩ := fg_ret h
        subst q
        subst q2
        exact hQ _ _ x_s2 r_s2 F_s2
set_option maxRecDepth 100000 in
set_option maxHeartbeats 4000000 in
theorem ft_X7_follow_101 {E : h_S} {g : h_G} {r : Int32} {t : h_S} {Q : Int32 → h_S → Prop} {K12 : Int32 → Int32 → Int32 → Int32 → h_S → fg_R (Int32) h_S} {WK12 : Nat → Int32 → Int32 → Int32 → Int32 → h_S → Nat → Nat → Prop} (hK12 : ∀ {b : Nat → Nat} {s S_s : h_S} {C D bc bs : Nat} {A_o0 : Nat} {x4 : Int32} {x5 : Int32} {x6 : Int32} {x7 : Int32}, c_R E g b s S_s → c_F s → c_at b s 3 A_o0 → K12 x4 x5 x6 x7 s = some (r, t, C, D) → (∀ (b2 : Nat → Nat) (S2 : h_S), c_ext b s b2 t → c_R E g b2 t S2 → c_F t → Q r S2) → C ≤ bc → D ≤ bs → WK12 A_o0 x4 x5 x6 x7 S_s bc bs) {b : Nat → Nat} {s S_s : h_S} {C0 D0 bc bs : Nat} {A_o0 : Nat} {x4 : Int32} {x5 : Int32} {x6 : Int32} {x7 : Int32} {r9 : Option Nat} {R_r9 : Option Nat} (hR : c_R E g b s S_s) (hF : c_F s) (f_o0 : c_at b s 3 A_o0) (f_r9 : c_ao b s r9 R_r9) (h : fn_X7_follow_101 K12 x4 x5 x6 x7 r9 s = some (r, t, C0, D0)) (hQ : ∀ (b2 : Nat → Nat) (S2 : h_S), c_ext b s b2 t → c_R E g b2 t S2 → c_F t → Q r S2) (hc : C0 ≤ bc) (hd : D0 ≤ bs) : w_X7_follow_101 Q WK12 A_o0 x4 x5 x6 x7 R_r9 S_s bc bs := by
  unfold fn_X7_follow_101 at h
  unfold w_X7_follow_101
  refine fg_ite (cr_isn f_r9) (fun d => ?_) (fun d => ?_)
  · have h := fg_if_t d h
    obtain ⟨q, q2⟩ := fg_retc h
    subst q
    subst q2
    exact hQ _ _ cr_xr hR hF
  · have h := fg_if_e d h
    obtain ⟨a2, o_a2, h⟩ := fg_o_s h
    obtain ⟨A_a2, w_a2, f_a2⟩ := cr_aos f_r9 o_a2
    refine ⟨A_a2, w_a2, ?_⟩
    obtain ⟨c_a2_1, h⟩ := fg_g_s h
    refine ⟨(cr_k hR f_a2).trans c_a2_1, ?_⟩
    obtain ⟨p5, s4, e_s4, h⟩ := fg_b_s h
    refine ft_X2_hasWords hR hF f_a2 e_s4 (fun b_s4 S_s4 x_s4 r_s4 F_s4 => ?_)
    refine fg_ite Iff.rfl (fun d => ?_) (fun d => ?_)
    · have h := fg_if_t d h
      obtain ⟨a7, o_a7, h⟩ := fg_o_s h
      obtain ⟨A_a7, w_a7, f_a7⟩ := cr_aos f_r9 o_a7
      refine ⟨A_a7, w_a7, ?_⟩
      obtain ⟨c_a7_2, h⟩ := fg_g_s h
      refine ⟨(cr_k r_s4 (cr_atx f_a7 x_s4)).trans c_a7_2, ?_⟩
      obtain ⟨a9, o_a9, h⟩ := fg_o_s h
      obtain ⟨A_a9, w_a9, f_a9⟩ := cr_aos f_r9 o_a9
      refine ⟨A_a9, w_a9, ?_⟩
      obtain ⟨c_a9_3, h⟩ := fg_g_s h
      refine ⟨(cr_k r_s4 (cr_atx f_a9 x_s4)).trans c_a9_3, ?_⟩
      obtain ⟨p12, s11, e_s11, h⟩ := fg_b_s h
      refine ft_X2_momentWithin r_s4 F_s4 (cr_atx f_a9 x_s4) e_s11 (fun b_s11 S_s11 x_s11 r_s11 F_s11 => ?_)
      obtain ⟨a13, o_a13, h⟩ := fg_o_s h
      obtain ⟨A_a13, w_a13, f_a13⟩ := cr_aos f_r9 o_a13
      refine ⟨A_a13, w_a13, ?_⟩
      obtain ⟨c_a13_4, h⟩ := fg_g_s h
      refine ⟨(cr_k r_s11 (cr_atx (cr_atx f_a13 x_s4) x_s11)).trans c_a13_4, ?_⟩
      try simp -zeta -zetaUnused only [cr_i r_s4 (cr_atx f_a7 x_s4), cr_i r_s11 (cr_atx (cr_atx f_a13 x_s4) x_s11)]
      exact hK12 r_s11 F_s11 (cr_atx (cr_atx f_o0 x_s4) x_s11) h (fun b2 S2 x2 => hQ b2 S2 (cr_xt (cr_xt x_s4 x_s11) x2)) hc hd
    · have h := fg_if_e d h
      obtain ⟨a15, o_a15, h⟩ := fg_o_s h
      obtain ⟨A_a15, w_a15, f_a15⟩ := cr_aos f_r9 o_a15
      refine ⟨A_a15, w_a15, ?_⟩
      obtain ⟨c_a15_2, h⟩ := fg_g_s h
      refine ⟨(cr_k r_s4 (cr_atx f_a15 x_s4)).trans c_a15_2, ?_⟩
      refine ⟨(cr_k r_s4 (cr_atx f_o0 x_s4)).trans (cf_k (a := 3) F_s4 rfl (by decide)), ?_⟩
      try simp -zeta -zetaUnused only [cr_i r_s4 (cr_atx f_a15 x_s4)]
      obtain ⟨p19, s18, e_s18, h⟩ := fg_b_s h
      refine ft_X7_endAtHome r_s4 F_s4 (cr_atx f_o0 x_s4) e_s18 (fun b_s18 S_s18 x_s18 r_s18 F_s18 => ?_)
      obtain ⟨q, q2⟩ := fg_retc h
      subst q
      subst q2
      exact hQ _ _ (cr_xt x_s4 x_s18) r_s18 F_s18
set_option maxRecDepth 100000 in
set_option maxHeartbeats 4000000 in
theorem ft_X7_follow_43b {E : h_S} {g : h_G} {r : Int32} {t : h_S} {Q : Int32 → h_S → Prop} {K12 : Int32 → Int32 → Int32 → Int32 → h_S → fg_R (Int32) h_S} {WK12 : Nat → Int32 → Int32 → Int32 → Int32 → h_S → Nat → Nat → Prop} (hK12 : ∀ {b : Nat → Nat} {s S_s : h_S} {C D bc bs : Nat} {A_o0 : Nat} {x4 : Int32} {x5 : Int32} {x6 : Int32} {x7 : Int32}, c_R E g b s S_s → c_F s → c_at b s 3 A_o0 → K12 x4 x5 x6 x7 s = some (r, t, C, D) → (∀ (b2 : Nat → Nat) (S2 : h_S), c_ext b s b2 t → c_R E g b2 t S2 → c_F t → Q r S2) → C ≤ bc → D ≤ bs → WK12 A_o0 x4 x5 x6 x7 S_s bc bs) {K43 : Int32 → Int32 → Int32 → Int32 → Option Nat → Option Nat → Int32 → h_S → fg_R (Int32) h_S} {WK43 : Nat → Int32 → Int32 → Int32 → Int32 → Option Nat → Option Nat → Int32 → h_S → Nat → Nat → Prop} (hK43 : ∀ {b : Nat → Nat} {s S_s : h_S} {C D bc bs : Nat} {A_o0 : Nat} {x4 : Int32} {x5 : Int32} {x6 : Int32} {x7 : Int32} {r8 : Option Nat} {R_r8 : Option Nat} {r9 : Option Nat} {R_r9 : Option Nat} {x10 : Int32}, c_R E g b s S_s → c_F s → c_at b s 3 A_o0 → c_ao b s r8 R_r8 → c_ao b s r9 R_r9 → K43 x4 x5 x6 x7 r8 r9 x10 s = some (r, t, C, D) → (∀ (b2 : Nat → Nat) (S2 : h_S), c_ext b s b2 t → c_R E g b2 t S2 → c_F t → Q r S2) → C ≤ bc → D ≤ bs → WK43 A_o0 x4 x5 x6 x7 R_r8 R_r9 x10 S_s bc bs) {b : Nat → Nat} {s S_s : h_S} {C0 D0 bc bs : Nat} {A_o0 : Nat} {x4 : Int32} {x5 : Int32} {x6 : Int32} {x7 : Int32} {r8 : Option Nat} {R_r8 : Option Nat} {r9 : Option Nat} {R_r9 : Option Nat} {x10 : Int32} (hR : c_R E g b s S_s) (hF : c_F s) (f_o0 : c_at b s 3 A_o0) (f_r8 : c_ao b s r8 R_r8) (f_r9 : c_ao b s r9 R_r9) (h : fn_X7_follow_43b K12 K43 x4 x5 x6 x7 r8 r9 x10 s = some (r, t, C0, D0)) (hQ : ∀ (b2 : Nat → Nat) (S2 : h_S), c_ext b s b2 t → c_R E g b2 t S2 → c_F t → Q r S2) (hc : C0 ≤ bc) (hd : D0 ≤ bs) : w_X7_follow_43b Q WK12 WK43 A_o0 x4 x5 x6 x7 R_r8 R_r9 x10 S_s bc bs := by
  unfold fn_X7_follow_43b at h
  unfold w_X7_follow_43b
  obtain ⟨a1, o_a1, h⟩ := fg_o_s h
  obtain ⟨A_a1, w_a1, f_a1⟩ := cr_aos f_r8 o_a1
  refine ⟨A_a1, w_a1, ?_⟩
  obtain ⟨c_a1_1, h⟩ := fg_g_s h
  refine ⟨(cr_k hR f_a1).trans c_a1_1, ?_⟩
  try simp -zeta -zetaUnused only [cr_n hR f_a1]
  refine fg_ite Iff.rfl (fun d => ?_) (fun d => ?_)
  · have h := fg_if_t d h
    exact ft_X7_follow_101 @hK12 hR hF f_o0 f_r9 h (fun b2 S2 x2 => hQ b2 S2 (cr_xt cr_xr x2)) hc hd
  · have h := fg_if_e d h
    refine fg_ite (cr_isn f_r9) (fun d => ?_) (fun d => ?_)
    · have h := fg_if_t d h
      obtain ⟨a5, o_a5, h⟩ := fg_o_s h
      obtain ⟨A_a5, w_a5, f_a5⟩ := cr_aos f_r8 o_a5
      refine ⟨A_a5, w_a5, ?_⟩
      obtain ⟨c_a5_2, h⟩ := fg_g_s h
      refine ⟨(cr_k hR f_a5).trans c_a5_2, ?_⟩
      obtain ⟨c, h⟩ := fg_g_s h
      refine ⟨cr_vp (cr_n hR f_a5) rfl c, ?_⟩
      refine ⟨(cr_k hR f_o0).trans (cf_k (a := 3) hF rfl (by decide)), ?_⟩
      obtain ⟨p10, s9, mc11, ms12, C_s9, D_s9, e_s9, h, q_s9, w_s9⟩ := fg_bc_s h
      obtain ⟨u1_s9, hc⟩ := fg_sp q_s9 hc
      obtain ⟨u2_s9, hd⟩ := fg_sp w_s9 hd
      refine ⟨mc11, ms12, u1_s9, u2_s9, ft_X7_sizeOf hR hF f_o0 (cr_r hR f_a5 _) e_s9 (fun b_s9 S_s9 x_s9 r_s9 F_s9 => ?_) (Nat.le_refl _) (Nat.le_refl _)⟩
      refine fg_ite Iff.rfl (fun d => ?_) (fun d => ?_)
      · have h := fg_if_t d h
        unfold w_X7_follow_95
        exact hK43 r_s9 F_s9 (cr_atx f_o0 x_s9) (cr_aox f_r8 x_s9) (cr_aox f_r9 x_s9) h (fun b2 S2 x2 => hQ b2 S2 (cr_xt x_s9 x2)) hc hd
      · have h := fg_if_e d h
        obtain ⟨a16, o_a16, h⟩ := fg_o_s h
        obtain ⟨A_a16, w_a16, f_a16⟩ := cr_aos f_r8 o_a16
        refine ⟨A_a16, w_a16, ?_⟩
        obtain ⟨c_a16_3, h⟩ := fg_g_s h
        refine ⟨(cr_k r_s9 (cr_atx f_a16 x_s9)).trans c_a16_3, ?_⟩
        obtain ⟨c, h⟩ := fg_g_s h
        refine ⟨cr_vp (cr_n r_s9 (cr_atx f_a16 x_s9)) rfl c, ?_⟩
        unfold w_X7_follow_95
        exact hK43 r_s9 F_s9 (cr_atx f_o0 x_s9) (cr_aox f_r8 x_s9) (cr_r r_s9 (cr_atx f_a16 x_s9) _) h (fun b2 S2 x2 => hQ b2 S2 (cr_xt x_s9 x2)) hc hd
    · have h := fg_if_e d h
      exact ft_X7_follow_101 @hK12 hR hF f_o0 f_r9 h (fun b2 S2 x2 => hQ b2 S2 (cr_xt cr_xr x2)) hc hd
set_option maxRecDepth 100000 in
set_option maxHeartbeats 4000000 in
theorem ft_X7_follow_43 {E : h_S} {g : h_G} {r : Int32} {t : h_S} {Q : Int32 → h_S → Prop} {K12 : Int32 → Int32 → Int32 → Int32 → h_S → fg_R (Int32) h_S} {WK12 : Nat → Int32 → Int32 → Int32 → Int32 → h_S → Nat → Nat → Prop} (hK12 : ∀ {b : Nat → Nat} {s S_s : h_S} {C D bc bs : Nat} {A_o0 : Nat} {x4 : Int32} {x5 : Int32} {x6 : Int32} {x7 : Int32}, c_R E g b s S_s → c_F s → c_at b s 3 A_o0 → K12 x4 x5 x6 x7 s = some (r, t, C, D) → (∀ (b2 : Nat → Nat) (S2 : h_S), c_ext b s b2 t → c_R E g b2 t S2 → c_F t → Q r S2) → C ≤ bc → D ≤ bs → WK12 A_o0 x4 x5 x6 x7 S_s bc bs) : ∀ (n : Nat) {b : Nat → Nat} {s S_s : h_S} {C D bc bs : Nat} {A_o0 : Nat} {x4 : Int32} {x5 : Int32} {x6 : Int32} {x7 : Int32} {r8 : Option Nat} {R_r8 : Option Nat} {r9 : Option Nat} {R_r9 : Option Nat} {x10 : Int32}, c_R E g b s S_s → c_F s → c_at b s 3 A_o0 → c_ao b s r8 R_r8 → c_ao b s r9 R_r9 → fn_X7_follow_43 K12 n x4 x5 x6 x7 r8 r9 x10 s = some (r, t, C, D) → (∀ (b2 : Nat → Nat) (S2 : h_S), c_ext b s b2 t → c_R E g b2 t S2 → c_F t → Q r S2) → C ≤ bc → D ≤ bs → w_X7_follow_43 Q WK12 n A_o0 x4 x5 x6 x7 R_r8 R_r9 x10 S_s bc bs := by
  intro n
  induction n with
  | zero => intros; rename_i h _ _ _; exact fg_none h
  | succ n ih => exact ft_X7_follow_43b @hK12 @ih
set_option maxRecDepth 100000 in
set_option maxHeartbeats 4000000 in
theorem ft_X7_follow_12b {E : h_S} {g : h_G} {r : Int32} {t : h_S} {Q : Int32 → h_S → Prop} {K12 : Int32 → Int32 → Int32 → Int32 → h_S → fg_R (Int32) h_S} {WK12 : Nat → Int32 → Int32 → Int32 → Int32 → h_S → Nat → Nat → Prop} (hK12 : ∀ {b : Nat → Nat} {s S_s : h_S} {C D bc bs : Nat} {A_o0 : Nat} {x4 : Int32} {x5 : Int32} {x6 : Int32} {x7 : Int32}, c_R E g b s S_s → c_F s → c_at b s 3 A_o0 → K12 x4 x5 x6 x7 s = some (r, t, C, D) → (∀ (b2 : Nat → Nat) (S2 : h_S), c_ext b s b2 t → c_R E g b2 t S2 → c_F t → Q r S2) → C ≤ bc → D ≤ bs → WK12 A_o0 x4 x5 x6 x7 S_s bc bs) {b : Nat → Nat} {s S_s : h_S} {C0 D0 bc bs : Nat} {A_o0 : Nat} {x4 : Int32} {x5 : Int32} {x6 : Int32} {x7 : Int32} (hR : c_R E g b s S_s) (hF : c_F s) (f_o0 : c_at b s 3 A_o0) (h : fn_X7_follow_12b K12 x4 x5 x6 x7 s = some (r, t, C0, D0)) (hQ : ∀ (b2 : Nat → Nat) (S2 : h_S), c_ext b s b2 t → c_R E g b2 t S2 → c_F t → Q r S2) (hc : C0 ≤ bc) (hd : D0 ≤ bs) : w_X7_follow_12b Q WK12 A_o0 x4 x5 x6 x7 S_s bc bs := by
  unfold fn_X7_follow_12b at h
  unfold w_X7_follow_12b
  refine fg_ite Iff.rfl (fun d => ?_) (fun d => ?_)
  · have h := fg_if_t d h
    obtain ⟨q, q2⟩ := fg_retc h
    subst q
    subst q2
    exact hQ _ _ cr_xr hR hF
  · have h := fg_if_e d h
    refine ⟨(cr_k hR f_o0).trans (cf_k (a := 3) hF rfl (by decide)), ?_⟩
    obtain ⟨A_a3, w_a3, f_a3⟩ := cr_aos (cr_r hR f_o0 _) (cf_r (a := 3) (j := 12) (y := 29) hF rfl)
    refine ⟨A_a3, w_a3, ?_⟩
    refine ⟨(cr_k hR f_a3).trans (cf_k (a := 29) hF rfl (by decide)), ?_⟩
    obtain ⟨c, h⟩ := fg_g_s h
    refine ⟨cr_vp (cr_n hR f_a3) (cf_n (a := 29) hF rfl (by decide) rfl) c, ?_⟩
    obtain ⟨s6, e_s6, h⟩ := fg_let_s h
    intro S_s6
    have r_s6 : c_R E g b s6 S_s6 := by rw [e_s6]; exact cr_si hR f_a3 _ _
    have F_s6 : c_F s6 := by rw [e_s6]; exact cf_si hF _ _
    have x_s6 : c_ext b s b s6 := by rw [e_s6]; exact cx_si _ _
    clear_value S_s6
    obtain ⟨p8, s7, e_s7, h⟩ := fg_b_s h
    refine ft_X7_piecesAsOf r_s6 F_s6 (cr_atx f_o0 x_s6) e_s7 (fun b_s7 R_p8 S_s7 x_s7 r_s7 F_s7 f_p8 => ?_)
    exact ⟨g_N, ft_X7_follow_43 @hK12 g_N r_s7 F_s7 (cr_atx (cr_atx f_o0 x_s6) x_s7) f_p8 cr_none h (fun b2 S2 x2 => hQ b2 S2 (cr_xt (cr_xt x_s6 x_s7) x2)) hc hd⟩
set_option maxRecDepth 100000 in
set_option maxHeartbeats 4000000 in
theorem ft_X7_follow_12 {E : h_S} {g : h_G} {r : Int32} {t : h_S} {Q : Int32 → h_S → Prop} : ∀ (n : Nat) {b : Nat → Nat} {s S_s : h_S} {C D bc bs : Nat} {A_o0 : Nat} {x4 : Int32} {x5 : Int32} {x6 : Int32} {x7 : Int32}, c_R E g b s S_s → c_F s → c_at b s 3 A_o0 → fn_X7_follow_12 n x4 x5 x6 x7 s = some (r, t, C, D) → (∀ (b2 : Nat → Nat) (S2 : h_S), c_ext b s b2 t → c_R E g b2 t S2 → c_F t → Q r S2) → C ≤ bc → D ≤ bs → w_X7_follow_12 Q n A_o0 x4 x5 x6 x7 S_s bc bs := by
  intro n
  induction n with
  | zero => intros; rename_i h _ _ _; exact fg_none h
  | succ n ih => exact ft_X7_follow_12b @ih
set_option maxRecDepth 100000 in
set_option maxHeartbeats 4000000 in
theorem ft_X7_follow {E : h_S} {g : h_G} {r : Int32} {t : h_S} {Q : Int32 → h_S → Prop} {b : Nat → Nat} {s S_s : h_S} {C0 D0 mc ms : Nat} {A_o0 : Nat} {x1 : Int32} {x2 : Int32} {x3 : Int32} (hR : c_R E g b s S_s) (hF : c_F s) (f_o0 : c_at b s 3 A_o0) (h : fn_X7_follow x1 x2 x3 s = some (r, t, C0, D0)) (hQ : ∀ (b2 : Nat → Nat) (S2 : h_S), c_ext b s b2 t → c_R E g b2 t S2 → c_F t → Q r S2) (hc : C0 ≤ mc) (hd : D0 ≤ ms) : w_X7_follow A_o0 x1 x2 x3 S_s mc ms Q := by
  unfold fn_X7_follow at h
  unfold w_X7_follow
  exact ⟨g_N, ft_X7_follow_12 g_N hR hF f_o0 h (fun b2 S2 x2 => hQ b2 S2 (cr_xt cr_xr x2)) hc hd⟩
set_option maxRecDepth 100000 in
set_option maxHeartbeats 4000000 in
theorem ft_X7_livesOf_4b {E : h_S} {g : h_G} {r : Int32} {t : h_S} {Q : Int32 → h_S → Prop} {K4 : Int32 → Int32 → Int32 → h_S → Option ((Int32) × h_S)} {WK4 : Nat → Int32 → Int32 → Int32 → h_S → Prop} (hK4 : ∀ {b : Nat → Nat} {s S_s : h_S} {A_o0 : Nat} {x1 : Int32} {x2 : Int32} {x3 : Int32}, c_R E g b s S_s → c_F s → c_at b s 3 A_o0 → K4 x1 x2 x3 s = some (r, t) → (∀ (b2 : Nat → Nat) (S2 : h_S), c_ext b s b2 t → c_R E g b2 t S2 → c_F t → Q r S2) → WK4 A_o0 x1 x2 x3 S_s) {b : Nat → Nat} {s S_s : h_S} {A_o0 : Nat} {x1 : Int32} {x2 : Int32} {x3 : Int32} (hR : c_R E g b s S_s) (hF : c_F s) (f_o0 : c_at b s 3 A_o0) (h : fn_X7_livesOf_4b K4 x1 x2 x3 s = some (r, t)) (hQ : ∀ (b2 : Nat → Nat) (S2 : h_S), c_ext b s b2 t → c_R E g b2 t S2 → c_F t → Q r S2) : w_X7_livesOf_4b Q WK4 A_o0 x1 x2 x3 S_s := by
  unfold fn_X7_livesOf_4b at h
  unfold w_X7_livesOf_4b
  refine ⟨(cr_k hR f_o0).trans (cf_k (a := 3) hF rfl (by decide)), ?_⟩
  obtain ⟨p3, s2, e_s2, h⟩ := fg_b_s h
  refine ft_X7_pieceCount hR hF f_o0 e_s2 (fun b_s2 S_s2 x_s2 r_s2 F_s2 => ?_)
  refine fg_ite Iff.rfl (fun d => ?_) (fun d => ?_)
  · have h := fg_if_t d h
    obtain ⟨q, q2⟩ := fg_ret h
    subst q
    subst q2
    exact hQ _ _ x_s2 r_s2 F_s2
  · have h := fg_if_e d h
    refine ⟨(cr_k r_s2 (cr_atx f_o0 x_s2)).trans (cf_k (a := 3) F_s2 rfl (by decide)), ?_⟩
    obtain ⟨A_a6, w_a6, f_a6⟩ := cr_aos (cr_r r_s2 (cr_atx f_o0 x_s2) _) (cf_r (a := 3) (j := 2) (y := 16) F_s2 rfl)
    refine ⟨A_a6, w_a6, ?_⟩
    refine ⟨(cr_k r_s2 f_a6).trans (cf_k (a := 16) F_s2 rfl (by decide)), ?_⟩
    obtain ⟨c, h⟩ := fg_g_s h
    refine ⟨cr_vp (cr_n r_s2 f_a6) (cf_n (a := 16) F_s2 rfl (by decide) rfl) c, ?_⟩
    obtain ⟨a9, o_a9, h⟩ := fg_o_s h
    obtain ⟨A_a9, w_a9, f_a9⟩ := cr_aos (cr_r r_s2 f_a6 _) o_a9
    refine ⟨A_a9, w_a9, ?_⟩
    obtain ⟨c_a9_1, h⟩ := fg_g_s h
    refine ⟨(cr_k r_s2 f_a9).trans c_a9_1, ?_⟩
    obtain ⟨a11, o_a11, h⟩ := fg_o_s h
    obtain ⟨A_a11, w_a11, f_a11⟩ := cr_aos (cr_r r_s2 f_a9 _) o_a11
    refine ⟨A_a11, w_a11, ?_⟩
    obtain ⟨c_a11_2, h⟩ := fg_g_s h
    refine ⟨(cr_k r_s2 f_a11).trans c_a11_2, ?_⟩
    obtain ⟨c, h⟩ := fg_g_s h
    refine ⟨cr_vp (cr_n r_s2 f_a11) rfl c, ?_⟩
    obtain ⟨a14, o_a14, h⟩ := fg_o_s h
    obtain ⟨A_a14, w_a14, f_a14⟩ := cr_aos (cr_r r_s2 f_a11 _) o_a14
    refine ⟨A_a14, w_a14, ?_⟩
    obtain ⟨c_a14_3, h⟩ := fg_g_s h
    refine ⟨(cr_k r_s2 f_a14).trans c_a14_3, ?_⟩
    try simp -zeta -zetaUnused only [cr_i r_s2 f_a14]
    refine fg_ite Iff.rfl (fun d => ?_) (fun d => ?_)
    · have h := fg_if_t d h
      obtain ⟨a17, o_a17, h⟩ := fg_o_s h
      obtain ⟨A_a17, w_a17, f_a17⟩ := cr_aos (cr_r r_s2 f_a11 _) o_a17
      refine ⟨A_a17, w_a17, ?_⟩
      obtain ⟨c_a17_4, h⟩ := fg_g_s h
      refine ⟨(cr_k r_s2 f_a17).trans c_a17_4, ?_⟩
      try simp -zeta -zetaUnused only [cr_i r_s2 f_a17]
      obtain ⟨v19, e_v19, h⟩ := fg_let_s h
      intro S_v19
      have z_v19 : v19 = S_v19 := e_v19
      clear_value S_v19
      subst z_v19
      unfold w_X7_livesOf_45
      exact hK4 r_s2 F_s2 (cr_atx f_o0 x_s2) h (fun b2 S2 x2 => hQ b2 S2 (cr_xt x_s2 x2))
    · have h := fg_if_e d h
      unfold w_X7_livesOf_45
      exact hK4 r_s2 F_s2 (cr_atx f_o0 x_s2) h (fun b2 S2 x2 => hQ b2 S2 (cr_xt x_s2 x2))
set_option maxRecDepth 100000 in
set_option maxHeartbeats 4000000 in
theorem ft_X7_livesOf_4 {E : h_S} {g : h_G} {r : Int32} {t : h_S} {Q : Int32 → h_S → Prop} : ∀ (n : Nat) {b : Nat → Nat} {s S_s : h_S} {A_o0 : Nat} {x1 : Int32} {x2 : Int32} {x3 : Int32}, c_R E g b s S_s → c_F s → c_at b s 3 A_o0 → fn_X7_livesOf_4 n x1 x2 x3 s = some (r, t) → (∀ (b2 : Nat → Nat) (S2 : h_S), c_ext b s b2 t → c_R E g b2 t S2 → c_F t → Q r S2) → w_X7_livesOf_4 Q n A_o0 x1 x2 x3 S_s := by
  intro n
  induction n with
  | zero => intros; rename_i h _; exact fg_none h
  | succ n ih => exact ft_X7_livesOf_4b @ih
set_option maxRecDepth 100000 in
set_option maxHeartbeats 4000000 in
theorem ft_X7_livesOf {E : h_S} {g : h_G} {r : Int32} {t : h_S} {Q : Int32 → h_S → Prop} {b : Nat → Nat} {s S_s : h_S} {A_o0 : Nat} {x1 : Int32} (hR : c_R E g b s S_s) (hF : c_F s) (f_o0 : c_at b s 3 A_o0) (h : fn_X7_livesOf x1 s = some (r, t)) (hQ : ∀ (b2 : Nat → Nat) (S2 : h_S), c_ext b s b2 t → c_R E g b2 t S2 → c_F t → Q r S2) : w_X7_livesOf A_o0 x1 S_s Q := by
  unfold fn_X7_livesOf at h
  unfold w_X7_livesOf
  exact ⟨g_N, ft_X7_livesOf_4 g_N hR hF f_o0 h (fun b2 S2 x2 => hQ b2 S2 (cr_xt cr_xr x2))⟩
set_option maxRecDepth 100000 in
set_option maxHeartbeats 4000000 in
theorem ft_X7_quotedBy_4b {E : h_S} {g : h_G} {r : Int32} {t : h_S} {Q : Int32 → h_S → Prop} {K4 : Int32 → Int32 → Int32 → h_S → Option ((Int32) × h_S)} {WK4 : Nat → Int32 → Int32 → Int32 → h_S → Prop} (hK4 : ∀ {b : Nat → Nat} {s S_s : h_S} {A_o0 : Nat} {x1 : Int32} {x2 : Int32} {x3 : Int32}, c_R E g b s S_s → c_F s → c_at b s 3 A_o0 → K4 x1 x2 x3 s = some (r, t) → (∀ (b2 : Nat → Nat) (S2 : h_S), c_ext b s b2 t → c_R E g b2 t S2 → c_F t → Q r S2) → WK4 A_o0 x1 x2 x3 S_s) {b : Nat → Nat} {s S_s : h_S} {A_o0 : Nat} {x1 : Int32} {x2 : Int32} {x3 : Int32} (hR : c_R E g b s S_s) (hF : c_F s) (f_o0 : c_at b s 3 A_o0) (h : fn_X7_quotedBy_4b K4 x1 x2 x3 s = some (r, t)) (hQ : ∀ (b2 : Nat → Nat) (S2 : h_S), c_ext b s b2 t → c_R E g b2 t S2 → c_F t → Q r S2) : w_X7_quotedBy_4b Q WK4 A_o0 x1 x2 x3 S_s := by
  unfold fn_X7_quotedBy_4b at h
  unfold w_X7_quotedBy_4b
  refine ⟨(cr_k hR f_o0).trans (cf_k (a := 3) hF rfl (by decide)), ?_⟩
  obtain ⟨p3, s2, e_s2, h⟩ := fg_b_s h
  refine ft_X7_pieceCount hR hF f_o0 e_s2 (fun b_s2 S_s2 x_s2 r_s2 F_s2 => ?_)
  refine fg_ite Iff.rfl (fun d => ?_) (fun d => ?_)
  · have h := fg_if_t d h
    obtain ⟨q, q2⟩ := fg_ret h
    subst q
    subst q2
    exact hQ _ _ x_s2 r_s2 F_s2
  · have h := fg_if_e d h
    refine ⟨(cr_k r_s2 (cr_atx f_o0 x_s2)).trans (cf_k (a := 3) F_s2 rfl (by decide)), ?_⟩
    obtain ⟨A_a6, w_a6, f_a6⟩ := cr_aos (cr_r r_s2 (cr_atx f_o0 x_s2) _) (cf_r (a := 3) (j := 2) (y := 16) F_s2 rfl)
    refine ⟨A_a6, w_a6, ?_⟩
    refine ⟨(cr_k r_s2 f_a6).trans (cf_k (a := 16) F_s2 rfl (by decide)), ?_⟩
    obtain ⟨c, h⟩ := fg_g_s h
    refine ⟨cr_vp (cr_n r_s2 f_a6) (cf_n (a := 16) F_s2 rfl (by decide) rfl) c, ?_⟩
    obtain ⟨a9, o_a9, h⟩ := fg_o_s h
    obtain ⟨A_a9, w_a9, f_a9⟩ := cr_aos (cr_r r_s2 f_a6 _) o_a9
    refine ⟨A_a9, w_a9, ?_⟩
    obtain ⟨c_a9_1, h⟩ := fg_g_s h
    refine ⟨(cr_k r_s2 f_a9).trans c_a9_1, ?_⟩
    obtain ⟨a11, o_a11, h⟩ := fg_o_s h
    obtain ⟨A_a11, w_a11, f_a11⟩ := cr_aos (cr_r r_s2 f_a9 _) o_a11
    refine ⟨A_a11, w_a11, ?_⟩
    obtain ⟨c_a11_2, h⟩ := fg_g_s h
    refine ⟨(cr_k r_s2 f_a11).trans c_a11_2, ?_⟩
    obtain ⟨c, h⟩ := fg_g_s h
    refine ⟨cr_vp (cr_n r_s2 f_a11) rfl c, ?_⟩
    obtain ⟨a14, o_a14, h⟩ := fg_o_s h
    obtain ⟨A_a14, w_a14, f_a14⟩ := cr_aos (cr_r r_s2 f_a11 _) o_a14
    refine ⟨A_a14, w_a14, ?_⟩
    obtain ⟨c_a14_3, h⟩ := fg_g_s h
    refine ⟨(cr_k r_s2 f_a14).trans c_a14_3, ?_⟩
    try simp -zeta -zetaUnused only [cr_i r_s2 f_a14]
    refine fg_ite Iff.rfl (fun d => ?_) (fun d => ?_)
    · have h := fg_if_t d h
      obtain ⟨a25, o_a25, h⟩ := fg_o_s h
      obtain ⟨A_a25, w_a25, f_a25⟩ := cr_aos (cr_r r_s2 f_a11 _) o_a25
      refine ⟨A_a25, w_a25, ?_⟩
      obtain ⟨c_a25_4, h⟩ := fg_g_s h
      refine ⟨(cr_k r_s2 f_a25).trans c_a25_4, ?_⟩
      obtain ⟨a27, o_a27, h⟩ := fg_o_s h
      obtain ⟨A_a27, w_a27, f_a27⟩ := cr_aos (cr_r r_s2 f_a11 _) o_a27
      refine ⟨A_a27, w_a27, ?_⟩
      obtain ⟨c_a27_5, h⟩ := fg_g_s h
      refine ⟨(cr_k r_s2 f_a27).trans c_a27_5, ?_⟩
      try simp -zeta -zetaUnused only [cr_i r_s2 f_a25, cr_i r_s2 f_a27]
      obtain ⟨p30, s29, e_s29, h⟩ := fg_b_s h
      refine ft_X7_homesOf r_s2 F_s2 (cr_atx f_o0 x_s2) e_s29 (fun b_s29 S_s29 x_s29 r_s29 F_s29 => ?_)
      unfold w_X7_quotedBy_73
      exact hK4 r_s29 F_s29 (cr_atx (cr_atx f_o0 x_s2) x_s29) h (fun b2 S2 x2 => hQ b2 S2 (cr_xt (cr_xt x_s2 x_s29) x2))
    · have h := fg_if_e d h
      obtain ⟨a17, o_a17, h⟩ := fg_o_s h
      obtain ⟨A_a17, w_a17, f_a17⟩ := cr_aos (cr_r r_s2 f_a11 _) o_a17
      refine ⟨A_a17, w_a17, ?_⟩
      obtain ⟨c_a17_4, h⟩ := fg_g_s h
      refine ⟨(cr_k r_s2 f_a17).trans c_a17_4, ?_⟩
      obtain ⟨p20, s19, e_s19, h⟩ := fg_b_s h
      refine ft_X2_hasWords r_s2 F_s2 f_a17 e_s19 (fun b_s19 S_s19 x_s19 r_s19 F_s19 => ?_)
      refine fg_ite Iff.rfl (fun d => ?_) (fun d => ?_)
      · have h := fg_if_t d h
        obtain ⟨a22, o_a22, h⟩ := fg_o_s h
        obtain ⟨A_a22, w_a22, f_a22⟩ := cr_aos (cr_r r_s2 f_a11 _) o_a22
        refine ⟨A_a22, w_a22, ?_⟩
        obtain ⟨c_a22_5, h⟩ := fg_g_s h
        refine ⟨(cr_k r_s19 (cr_atx f_a22 x_s19)).trans c_a22_5, ?_⟩
        try simp -zeta -zetaUnused only [cr_i r_s19 (cr_atx f_a22 x_s19)]
        obtain ⟨v24, e_v24, h⟩ := fg_let_s h
        intro S_v24
        have z_v24 : v24 = S_v24 := e_v24
        clear_value S_v24
        subst z_v24
        unfold w_X7_quotedBy_73
        exact hK4 r_s19 F_s19 (cr_atx (cr_atx f_o0 x_s2) x_s19) h (fun b2 S2 x2 => hQ b2 S2 (cr_xt (cr_xt x_s2 x_s19) x2))
      · have h := fg_if_e d h
        unfold w_X7_quotedBy_73
        exact hK4 r_s19 F_s19 (cr_atx (cr_atx f_o0 x_s2) x_s19) h (fun b2 S2 x2 => hQ b2 S2 (cr_xt (cr_xt x_s2 x_s19) x2))
set_option maxRecDepth 100000 in
set_option maxHeartbeats 4000000 in
theorem ft_X7_quotedBy_4 {E : h_S} {g : h_G} {r : Int32} {t : h_S} {Q : Int32 → h_S → Prop} : ∀ (n : Nat) {b : Nat → Nat} {s S_s : h_S} {A_o0 : Nat} {x1 : Int32} {x2 : Int32} {x3 : Int32}, c_R E g b s S_s → c_F s → c_at b s 3 A_o0 → fn_X7_quotedBy_4 n x1 x2 x3 s = some (r, t) → (∀ (b2 : Nat → Nat) (S2 : h_S), c_ext b s b2 t → c_R E g b2 t S2 → c_F t → Q r S2) → w_X7_quotedBy_4 Q n A_o0 x1 x2 x3 S_s := by
  intro n
  induction n with
  | zero => intros; rename_i h _; exact fg_none h
  | succ n ih => exact ft_X7_quotedBy_4b @ih
set_option maxRecDepth 100000 in
set_option maxHeartbeats 4000000 in
theorem ft_X7_quotedBy {E : h_S} {g : h_G} {r : Int32} {t : h_S} {Q : Int32 → h_S → Prop} {b : Nat → Nat} {s S_s : h_S} {A_o0 : Nat} {x1 : Int32} (hR : c_R E g b s S_s) (hF : c_F s) (f_o0 : c_at b s 3 A_o0) (h : fn_X7_quotedBy x1 s = some (r, t)) (hQ : ∀ (b2 : Nat → Nat) (S2 : h_S), c_ext b s b2 t → c_R E g b2 t S2 → c_F t → Q r S2) : w_X7_quotedBy A_o0 x1 S_s Q := by
  unfold fn_X7_quotedBy at h
  unfold w_X7_quotedBy
  exact ⟨g_N, ft_X7_quotedBy_4 g_N hR hF f_o0 h (fun b2 S2 x2 => hQ b2 S2 (cr_xt cr_xr x2))⟩
set_option maxRecDepth 100000 in
set_option maxHeartbeats 4000000 in
theorem ft_X7_stepsBetween_38b {E : h_S} {g : h_G} {r : Int32} {t : h_S} {Q : Int32 → h_S → Prop} {K12 : Int32 → Int32 → Int32 → Int32 → Int32 → h_S → Option ((Int32) × h_S)} {WK12 : Nat → Int32 → Int32 → Int32 → Int32 → Int32 → h_S → Prop} (hK12 : ∀ {b : Nat → Nat} {s S_s : h_S} {A_o0 : Nat} {x2 : Int32} {x3 : Int32} {x4 : Int32} {x5 : Int32} {x6 : Int32}, c_R E g b s S_s → c_F s → c_at b s 3 A_o0 → K12 x2 x3 x4 x5 x6 s = some (r, t) → (∀ (b2 : Nat → Nat) (S2 : h_S), c_ext b s b2 t → c_R E g b2 t S2 → c_F t → Q r S2) → WK12 A_o0 x2 x3 x4 x5 x6 S_s) {K38 : Int32 → Int32 → Int32 → Int32 → Int32 → Int32 → Int32 → h_S → Option ((Int32) × h_S)} {WK38 : Nat → Int32 → Int32 → Int32 → Int32 → Int32 → Int32 → Int32 → h_S → Prop} (hK38 : ∀ {b : Nat → Nat} {s S_s : h_S} {A_o0 : Nat} {x2 : Int32} {x3 : Int32} {x4 : Int32} {x5 : Int32} {x6 : Int32} {x7 : Int32} {x8 : Int32}, c_R E g b s S_s → c_F s → c_at b s 3 A_o0 → K38 x2 x3 x4 x5 x6 x7 x8 s = some (r, t) → (∀ (b2 : Nat → Nat) (S2 : h_S), c_ext b s b2 t → c_R E g b2 t S2 → c_F t → Q r S2) → WK38 A_o0 x2 x3 x4 x5 x6 x7 x8 S_s) {b : Nat → Nat} {s S_s : h_S} {A_o0 : Nat} {x2 : Int32} {x3 : Int32} {x4 : Int32} {x5 : Int32} {x6 : Int32} {x7 : Int32} {x8 : Int32} (hR : c_R E g b s S_s) (hF : c_F s) (f_o0 : c_at b s 3 A_o0) (h : fn_X7_stepsBetween_38b K12 K38 x2 x3 x4 x5 x6 x7 x8 s = some (r, t)) (hQ : ∀ (b2 : Nat → Nat) (S2 : h_S), c_ext b s b2 t → c_R E g b2 t S2 → c_F t → Q r S2) : w_X7_stepsBetween_38b Q WK12 WK38 A_o0 x2 x3 x4 x5 x6 x7 x8 S_s := by
  unfold fn_X7_stepsBetween_38b at h
  unfold w_X7_stepsBetween_38b
  refine ⟨(cr_k hR f_o0).trans (cf_k (a := 3) hF rfl (by decide)), ?_⟩
  try simp -zeta -zetaUnused only [cr_i hR f_o0]
  refine fg_ite Iff.rfl (fun d => ?_) (fun d => ?_)
  · have h := fg_if_t d h
    obtain ⟨v3, e_v3, h⟩ := fg_let_s h
    intro S_v3
    have z_v3 : v3 = S_v3 := e_v3
    clear_value S_v3
    subst z_v3
    exact hK12 hR hF f_o0 h (fun b2 S2 x2 => hQ b2 S2 (cr_xt cr_xr x2))
  · have h := fg_if_e d h
    refine fg_ite Iff.rfl (fun d => ?_) (fun d => ?_)
    · have h := fg_if_t d h
      refine fg_ite Iff.rfl (fun d => ?_) (fun d => ?_)
      · have h := fg_if_t d h
        obtain ⟨p7, s6, e_s6, h⟩ := fg_b_s h
        refine ft_X7_quotedBy hR hF f_o0 e_s6 (fun b_s6 S_s6 x_s6 r_s6 F_s6 => ?_)
        unfold w_X7_stepsBetween_79
        unfold w_X7_stepsBetween_82
        exact hK38 r_s6 F_s6 (cr_atx f_o0 x_s6) h (fun b2 S2 x2 => hQ b2 S2 (cr_xt x_s6 x2))
      · have h := fg_if_e d h
        obtain ⟨p9, s8, e_s8, h⟩ := fg_b_s h
        refine ft_X7_livesOf hR hF f_o0 e_s8 (fun b_s8 S_s8 x_s8 r_s8 F_s8 => ?_)
        unfold w_X7_stepsBetween_79
        unfold w_X7_stepsBetween_82
        exact hK38 r_s8 F_s8 (cr_atx f_o0 x_s8) h (fun b2 S2 x2 => hQ b2 S2 (cr_xt x_s8 x2))
    · have h := fg_if_e d h
      unfold w_X7_stepsBetween_82
      exact hK38 hR hF f_o0 h (fun b2 S2 x2 => hQ b2 S2 (cr_xt cr_xr x2))
