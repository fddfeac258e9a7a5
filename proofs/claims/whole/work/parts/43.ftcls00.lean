set_option maxRecDepth 100000 in
set_option maxHeartbeats 4000000 in
theorem ft_X0_init {E : h_S} {g : h_G} {r : Unit} {t : h_S} {Q : h_S → Prop} {b : Nat → Nat} {s S_s : h_S} {o0 : Nat} {A_o0 : Nat} {x1 : Int32} {r2 : Option Nat} {R_r2 : Option Nat} {x3 : Int32} (hR : c_R E g b s S_s) (hF : c_F s) (f_o0 : c_at b s o0 A_o0) (f_r2 : c_ao b s r2 R_r2) (h : fn_X0_init o0 x1 r2 x3 s = some (r, t)) (hQ : ∀ (b2 : Nat → Nat) (S2 : h_S), c_ext b s b2 t → c_R E g b2 t S2 → c_F t → Q S2) : w_X0_init A_o0 x1 R_r2 x3 S_s Q := by
  unfold fn_X0_init at h
  unfold w_X0_init
  obtain ⟨c_o0_1, h⟩ := fg_g_s h
  refine ⟨(cr_k hR f_o0).trans c_o0_1, ?_⟩
  obtain ⟨s2, e_s2, h⟩ := fg_let_s h
  intro S_s2
  have r_s2 : c_R E g b s2 S_s2 := by rw [e_s2]; exact cr_si hR f_o0 _ _
  have F_s2 : c_F s2 := by rw [e_s2]; exact cf_si hF _ _
  have x_s2 : c_ext b s b s2 := by rw [e_s2]; exact cx_si _ _
  clear_value S_s2
  obtain ⟨s3, e_s3, h⟩ := fg_let_s h
  intro S_s3
  have r_s3 : c_R E g b s3 S_s3 := by rw [e_s3]; exact cr_sr r_s2 (cr_atx f_o0 x_s2) _ (cr_aox f_r2 x_s2)
  have F_s3 : c_F s3 := by rw [e_s3]; exact cf_sr F_s2 (cr_kx c_o0_1 f_o0 x_s2) (by decide) _
  have x_s3 : c_ext b s2 b s3 := by rw [e_s3]; exact cx_sr _
  clear_value S_s3
  obtain ⟨s4, e_s4, h⟩ := fg_let_s h
  intro S_s4
  have r_s4 : c_R E g b s4 S_s4 := by rw [e_s4]; exact cr_si r_s3 (cr_atx (cr_atx f_o0 x_s2) x_s3) _ _
  have F_s4 : c_F s4 := by rw [e_s4]; exact cf_si F_s3 _ _
  have x_s4 : c_ext b s3 b s4 := by rw [e_s4]; exact cx_si _ _
  clear_value S_s4
  obtain ⟨_, q⟩ := fg_ret h
  subst q
  exact hQ _ _ (cr_xt x_s2 (cr_xt x_s3 x_s4)) r_s4 F_s4
set_option maxRecDepth 100000 in
set_option maxHeartbeats 4000000 in
theorem ft_X0_placeIn_50 {E : h_S} {g : h_G} {r : Int32} {t : h_S} {Q : Int32 → h_S → Prop} {K2 : Nat → Option Nat → Int32 → h_S → Option ((Int32) × h_S)} {WK2 : Nat → Option Nat → Int32 → h_S → Prop} (hK2 : ∀ {b : Nat → Nat} {s S_s : h_S} {o0 : Nat} {A_o0 : Nat} {r1 : Option Nat} {R_r1 : Option Nat} {x2 : Int32}, c_R E g b s S_s → c_F s → c_at b s o0 A_o0 → c_ao b s r1 R_r1 → K2 o0 r1 x2 s = some (r, t) → (∀ (b2 : Nat → Nat) (S2 : h_S), c_ext b s b2 t → c_R E g b2 t S2 → c_F t → Q r S2) → WK2 A_o0 R_r1 x2 S_s) {b : Nat → Nat} {s S_s : h_S} {o0 : Nat} {A_o0 : Nat} {r1 : Option Nat} {R_r1 : Option Nat} {x2 : Int32} {x3 : Int32} (hR : c_R E g b s S_s) (hF : c_F s) (f_o0 : c_at b s o0 A_o0) (f_r1 : c_ao b s r1 R_r1) (h : fn_X0_placeIn_50 K2 o0 r1 x2 x3 s = some (r, t)) (hQ : ∀ (b2 : Nat → Nat) (S2 : h_S), c_ext b s b2 t → c_R E g b2 t S2 → c_F t → Q r S2) : w_X0_placeIn_50 Q WK2 A_o0 R_r1 x2 x3 S_s := by
  unfold fn_X0_placeIn_50 at h
  unfold w_X0_placeIn_50
  obtain ⟨c_o0_1, h⟩ := fg_g_s h
  refine ⟨(cr_k hR f_o0).trans c_o0_1, ?_⟩
  obtain ⟨a2, o_a2, h⟩ := fg_o_s h
  obtain ⟨A_a2, w_a2, f_a2⟩ := cr_aos (cr_r hR f_o0 _) o_a2
  refine ⟨A_a2, w_a2, ?_⟩
  obtain ⟨c_a2_2, h⟩ := fg_g_s h
  refine ⟨(cr_k hR f_a2).trans c_a2_2, ?_⟩
  try simp -zeta -zetaUnused only [cr_n hR f_a2]
  refine fg_ite Iff.rfl (fun d => ?_) (fun d => ?_)
  · have h := fg_if_t d h
    obtain ⟨q, q2⟩ := fg_ret h
    subst q
    subst q2
    exact hQ _ _ cr_xr hR hF
  · have h := fg_if_e d h
    exact hK2 hR hF f_o0 f_r1 h (fun b2 S2 x2 => hQ b2 S2 (cr_xt cr_xr x2))
set_option maxRecDepth 100000 in
set_option maxHeartbeats 4000000 in
theorem ft_X0_placeIn_18b {E : h_S} {g : h_G} {r : Int32} {t : h_S} {Q : Int32 → h_S → Prop} {K2 : Nat → Option Nat → Int32 → h_S → Option ((Int32) × h_S)} {WK2 : Nat → Option Nat → Int32 → h_S → Prop} (hK2 : ∀ {b : Nat → Nat} {s S_s : h_S} {o0 : Nat} {A_o0 : Nat} {r1 : Option Nat} {R_r1 : Option Nat} {x2 : Int32}, c_R E g b s S_s → c_F s → c_at b s o0 A_o0 → c_ao b s r1 R_r1 → K2 o0 r1 x2 s = some (r, t) → (∀ (b2 : Nat → Nat) (S2 : h_S), c_ext b s b2 t → c_R E g b2 t S2 → c_F t → Q r S2) → WK2 A_o0 R_r1 x2 S_s) {K18 : Nat → Option Nat → Int32 → Int32 → h_S → Option ((Int32) × h_S)} {WK18 : Nat → Option Nat → Int32 → Int32 → h_S → Prop} (hK18 : ∀ {b : Nat → Nat} {s S_s : h_S} {o0 : Nat} {A_o0 : Nat} {r1 : Option Nat} {R_r1 : Option Nat} {x2 : Int32} {x3 : Int32}, c_R E g b s S_s → c_F s → c_at b s o0 A_o0 → c_ao b s r1 R_r1 → K18 o0 r1 x2 x3 s = some (r, t) → (∀ (b2 : Nat → Nat) (S2 : h_S), c_ext b s b2 t → c_R E g b2 t S2 → c_F t → Q r S2) → WK18 A_o0 R_r1 x2 x3 S_s) {b : Nat → Nat} {s S_s : h_S} {o0 : Nat} {A_o0 : Nat} {r1 : Option Nat} {R_r1 : Option Nat} {x2 : Int32} {x3 : Int32} (hR : c_R E g b s S_s) (hF : c_F s) (f_o0 : c_at b s o0 A_o0) (f_r1 : c_ao b s r1 R_r1) (h : fn_X0_placeIn_18b K2 K18 o0 r1 x2 x3 s = some (r, t)) (hQ : ∀ (b2 : Nat → Nat) (S2 : h_S), c_ext b s b2 t → c_R E g b2 t S2 → c_F t → Q r S2) : w_X0_placeIn_18b Q WK2 WK18 A_o0 R_r1 x2 x3 S_s := by
  unfold fn_X0_placeIn_18b at h
  unfold w_X0_placeIn_18b
  obtain ⟨c_o0_1, h⟩ := fg_g_s h
  refine ⟨(cr_k hR f_o0).trans c_o0_1, ?_⟩
  obtain ⟨a2, o_a2, h⟩ := fg_o_s h
  obtain ⟨A_a2, w_a2, f_a2⟩ := cr_aos (cr_r hR f_o0 _) o_a2
  refine ⟨A_a2, w_a2, ?_⟩
  obtain ⟨c_a2_2, h⟩ := fg_g_s h
  refine ⟨(cr_k hR f_a2).trans c_a2_2, ?_⟩
  try simp -zeta -zetaUnused only [cr_n hR f_a2]
  refine fg_ite Iff.rfl (fun d => ?_) (fun d => ?_)
  · have h := fg_if_t d h
    exact ft_X0_placeIn_50 @hK2 hR hF f_o0 f_r1 h (fun b2 S2 x2 => hQ b2 S2 (cr_xt cr_xr x2))
  · have h := fg_if_e d h
    obtain ⟨a5, o_a5, h⟩ := fg_o_s h
    obtain ⟨A_a5, w_a5, f_a5⟩ := cr_aos f_r1 o_a5
    refine ⟨A_a5, w_a5, ?_⟩
    obtain ⟨c_a5_3, h⟩ := fg_g_s h
    refine ⟨(cr_k hR f_a5).trans c_a5_3, ?_⟩
    obtain ⟨a7, o_a7, h⟩ := fg_o_s h
    obtain ⟨A_a7, w_a7, f_a7⟩ := cr_aos (cr_r hR f_a5 _) o_a7
    refine ⟨A_a7, w_a7, ?_⟩
    obtain ⟨c_a7_4, h⟩ := fg_g_s h
    refine ⟨(cr_k hR f_a7).trans c_a7_4, ?_⟩
    obtain ⟨c, h⟩ := fg_g_s h
    refine ⟨cr_vp (cr_n hR f_a7) rfl c, ?_⟩
    obtain ⟨a10, o_a10, h⟩ := fg_o_s h
    obtain ⟨A_a10, w_a10, f_a10⟩ := cr_aos (cr_r hR f_o0 _) o_a10
    refine ⟨A_a10, w_a10, ?_⟩
    obtain ⟨c_a10_5, h⟩ := fg_g_s h
    refine ⟨(cr_k hR f_a10).trans c_a10_5, ?_⟩
    obtain ⟨c, h⟩ := fg_g_s h
    refine ⟨cr_vp (cr_n hR f_a10) rfl c, ?_⟩
    try simp -zeta -zetaUnused only [cr_i hR f_a7, cr_i hR f_a10]
    refine fg_ite Iff.rfl (fun d => ?_) (fun d => ?_)
    · have h := fg_if_t d h
      exact hK18 hR hF f_o0 f_r1 h (fun b2 S2 x2 => hQ b2 S2 (cr_xt cr_xr x2))
    · have h := fg_if_e d h
      exact ft_X0_placeIn_50 @hK2 hR hF f_o0 f_r1 h (fun b2 S2 x2 => hQ b2 S2 (cr_xt cr_xr x2))
set_option maxRecDepth 100000 in
set_option maxHeartbeats 4000000 in
theorem ft_X0_placeIn_18 {E : h_S} {g : h_G} {r : Int32} {t : h_S} {Q : Int32 → h_S → Prop} {K2 : Nat → Option Nat → Int32 → h_S → Option ((Int32) × h_S)} {WK2 : Nat → Option Nat → Int32 → h_S → Prop} (hK2 : ∀ {b : Nat → Nat} {s S_s : h_S} {o0 : Nat} {A_o0 : Nat} {r1 : Option Nat} {R_r1 : Option Nat} {x2 : Int32}, c_R E g b s S_s → c_F s → c_at b s o0 A_o0 → c_ao b s r1 R_r1 → K2 o0 r1 x2 s = some (r, t) → (∀ (b2 : Nat → Nat) (S2 : h_S), c_ext b s b2 t → c_R E g b2 t S2 → c_F t → Q r S2) → WK2 A_o0 R_r1 x2 S_s) : ∀ (n : Nat) {b : Nat → Nat} {s S_s : h_S} {o0 : Nat} {A_o0 : Nat} {r1 : Option Nat} {R_r1 : Option Nat} {x2 : Int32} {x3 : Int32}, c_R E g b s S_s → c_F s → c_at b s o0 A_o0 → c_ao b s r1 R_r1 → fn_X0_placeIn_18 K2 n o0 r1 x2 x3 s = some (r, t) → (∀ (b2 : Nat → Nat) (S2 : h_S), c_ext b s b2 t → c_R E g b2 t S2 → c_F t → Q r S2) → w_X0_placeIn_18 Q WK2 n A_o0 R_r1 x2 x3 S_s := by
  intro n
  induction n with
  | zero => intros; rename_i h _; exact fg_none h
  | succ n ih => exact ft_X0_placeIn_18b @hK2 @ih
set_option maxRecDepth 100000 in
set_option maxHeartbeats 4000000 in
theorem ft_X0_placeIn_2b {E : h_S} {g : h_G} {r : Int32} {t : h_S} {Q : Int32 → h_S → Prop} {K2 : Nat → Option Nat → Int32 → h_S → Option ((Int32) × h_S)} {WK2 : Nat → Option Nat → Int32 → h_S → Prop} (hK2 : ∀ {b : Nat → Nat} {s S_s : h_S} {o0 : Nat} {A_o0 : Nat} {r1 : Option Nat} {R_r1 : Option Nat} {x2 : Int32}, c_R E g b s S_s → c_F s → c_at b s o0 A_o0 → c_ao b s r1 R_r1 → K2 o0 r1 x2 s = some (r, t) → (∀ (b2 : Nat → Nat) (S2 : h_S), c_ext b s b2 t → c_R E g b2 t S2 → c_F t → Q r S2) → WK2 A_o0 R_r1 x2 S_s) {b : Nat → Nat} {s S_s : h_S} {o0 : Nat} {A_o0 : Nat} {r1 : Option Nat} {R_r1 : Option Nat} {x2 : Int32} (hR : c_R E g b s S_s) (hF : c_F s) (f_o0 : c_at b s o0 A_o0) (f_r1 : c_ao b s r1 R_r1) (h : fn_X0_placeIn_2b K2 o0 r1 x2 s = some (r, t)) (hQ : ∀ (b2 : Nat → Nat) (S2 : h_S), c_ext b s b2 t → c_R E g b2 t S2 → c_F t → Q r S2) : w_X0_placeIn_2b Q WK2 A_o0 R_r1 x2 S_s := by
  unfold fn_X0_placeIn_2b at h
  unfold w_X0_placeIn_2b
  obtain ⟨a1, o_a1, h⟩ := fg_o_s h
  obtain ⟨A_a1, w_a1, f_a1⟩ := cr_aos f_r1 o_a1
  refine ⟨A_a1, w_a1, ?_⟩
  obtain ⟨c_a1_1, h⟩ := fg_g_s h
  refine ⟨(cr_k hR f_a1).trans c_a1_1, ?_⟩
  obtain ⟨c_o0_2, h⟩ := fg_g_s h
  refine ⟨(cr_k hR f_o0).trans c_o0_2, ?_⟩
  obtain ⟨a4, o_a4, h⟩ := fg_o_s h
  obtain ⟨A_a4, w_a4, f_a4⟩ := cr_aos (cr_r hR f_o0 _) o_a4
  refine ⟨A_a4, w_a4, ?_⟩
  obtain ⟨c_a4_3, h⟩ := fg_g_s h
  refine ⟨(cr_k hR f_a4).trans c_a4_3, ?_⟩
  try simp -zeta -zetaUnused only [cr_i hR f_a1, cr_n hR f_a4]
  refine fg_ite Iff.rfl (fun d => ?_) (fun d => ?_)
  · have h := fg_if_t d h
    obtain ⟨q, q2⟩ := fg_ret h
    subst q
    subst q2
    exact hQ _ _ cr_xr hR hF
  · have h := fg_if_e d h
    exact ⟨g_N, ft_X0_placeIn_18 @hK2 g_N hR hF f_o0 f_r1 h (fun b2 S2 x2 => hQ b2 S2 (cr_xt cr_xr x2))⟩
set_option maxRecDepth 100000 in
set_option maxHeartbeats 4000000 in
theorem ft_X0_placeIn_2 {E : h_S} {g : h_G} {r : Int32} {t : h_S} {Q : Int32 → h_S → Prop} : ∀ (n : Nat) {b : Nat → Nat} {s S_s : h_S} {o0 : Nat} {A_o0 : Nat} {r1 : Option Nat} {R_r1 : Option Nat} {x2 : Int32}, c_R E g b s S_s → c_F s → c_at b s o0 A_o0 → c_ao b s r1 R_r1 → fn_X0_placeIn_2 n o0 r1 x2 s = some (r, t) → (∀ (b2 : Nat → Nat) (S2 : h_S), c_ext b s b2 t → c_R E g b2 t S2 → c_F t → Q r S2) → w_X0_placeIn_2 Q n A_o0 R_r1 x2 S_s := by
  intro n
  induction n with
  | zero => intros; rename_i h _; exact fg_none h
  | succ n ih => exact ft_X0_placeIn_2b @ih
set_option maxRecDepth 100000 in
set_option maxHeartbeats 4000000 in
theorem ft_X0_placeIn {E : h_S} {g : h_G} {r : Int32} {t : h_S} {Q : Int32 → h_S → Prop} {b : Nat → Nat} {s S_s : h_S} {o0 : Nat} {A_o0 : Nat} {r1 : Option Nat} {R_r1 : Option Nat} (hR : c_R E g b s S_s) (hF : c_F s) (f_o0 : c_at b s o0 A_o0) (f_r1 : c_ao b s r1 R_r1) (h : fn_X0_placeIn o0 r1 s = some (r, t)) (hQ : ∀ (b2 : Nat → Nat) (S2 : h_S), c_ext b s b2 t → c_R E g b2 t S2 → c_F t → Q r S2) : w_X0_placeIn A_o0 R_r1 S_s Q := by
  unfold fn_X0_placeIn at h
  unfold w_X0_placeIn
  exact ⟨g_N, ft_X0_placeIn_2 g_N hR hF f_o0 f_r1 h (fun b2 S2 x2 => hQ b2 S2 (cr_xt cr_xr x2))⟩
set_option maxRecDepth 100000 in
set_option maxHeartbeats 4000000 in
theorem ft_X1_init {E : h_S} {g : h_G} {r : Unit} {t : h_S} {Q : h_S → Prop} {b : Nat → Nat} {s S_s : h_S} {C0 D0 mc ms : Nat} {o0 : Nat} {A_o0 : Nat} {x1 : Int32} {x2 : Int32} {x3 : Int32} {x4 : Int32} {x5 : Int32} {x6 : Int32} (hR : c_R E g b s S_s) (hF : c_F s) (f_o0 : c_at b s o0 A_o0) (h : fn_X1_init o0 x1 x2 x3 x4 x5 x6 s = some (r, t, C0, D0)) (hQ : ∀ (b2 : Nat → Nat) (S2 : h_S), c_ext b s b2 t → c_R E g b2 t S2 → c_F t → Q S2) (hc : C0 ≤ mc) (hd : D0 ≤ ms) : w_X1_init A_o0 x1 x2 x3 x4 x5 x6 S_s mc ms Q := by
  unfold fn_X1_init at h
  unfold w_X1_init
  obtain ⟨q1, e_q1, h⟩ := fg_let_s h
  have z_q1 : h_k s q1 = 0 := cf_z hF e_q1
  obtain ⟨C_q1, D_q1, h, q_q1, w_q1⟩ := fg_c_s h
  obtain ⟨u1_q1, hc⟩ := fg_sp q_q1 hc
  obtain ⟨u2_q1, hd⟩ := fg_sp w_q1 hd
  refine ⟨u1_q1, u2_q1, fun A_q1 Z_q1 => ?_⟩
  obtain ⟨s5, e_s5, h⟩ := fg_let_s h
  intro S_s5
  have r_s5 : c_R E g (c_up b q1 A_q1) s5 S_s5 := by rw [e_s5]; exact cr_nw hR z_q1 Z_q1 (by decide)
  have F_s5 : c_F s5 := by rw [e_s5]; exact cf_nw hF e_q1 (by decide)
  have x_s5 : c_ext b s (c_up b q1 A_q1) s5 := by rw [e_s5]; exact cx_new z_q1
  have f_q1 : c_at (c_up b q1 A_q1) s5 q1 A_q1 := by rw [e_s5]; exact ca_nw (by decide)
  clear_value S_s5
  intro c6
  have hc : _ ≤ c6 := hc
  clear_value c6
  intro d7
  have hd : _ ≤ d7 := hd
  clear_value d7
  obtain ⟨c_o0_2, h⟩ := fg_g_s h
  refine ⟨(cr_k r_s5 (cr_atx f_o0 x_s5)).trans c_o0_2, ?_⟩
  obtain ⟨s9, e_s9, h⟩ := fg_let_s h
  intro S_s9
  have r_s9 : c_R E g (c_up b q1 A_q1) s9 S_s9 := by rw [e_s9]; exact cr_sr r_s5 (cr_atx f_o0 x_s5) _ (cr_some f_q1)
  have F_s9 : c_F s9 := by rw [e_s9]; exact cf_sr F_s5 c_o0_2 (by decide) _
  have x_s9 : c_ext (c_up b q1 A_q1) s5 (c_up b q1 A_q1) s9 := by rw [e_s9]; exact cx_sr _
  clear_value S_s9
  obtain ⟨q10, e_q10, h⟩ := fg_let_s h
  have z_q10 : h_k s9 q10 = 0 := cf_z F_s9 e_q10
  obtain ⟨C_q10, D_q10, h, q_q10, w_q10⟩ := fg_c_s h
  obtain ⟨u1_q10, hc⟩ := fg_sp q_q10 hc
  obtain ⟨u2_q10, hd⟩ := fg_sp w_q10 hd
  refine ⟨u1_q10, u2_q10, fun A_q10 Z_q10 => ?_⟩
  obtain ⟨s14, e_s14, h⟩ := fg_let_s h
  intro S_s14
  have r_s14 : c_R E g (c_up (c_up b q1 A_q1) q10 A_q10) s14 S_s14 := by rw [e_s14]; exact cr_nw r_s9 z_q10 Z_q10 (by decide)
  have F_s14 : c_F s14 := by rw [e_s14]; exact cf_nw F_s9 e_q10 (by decide)
  have x_s14 : c_ext (c_up b q1 A_q1) s9 (c_up (c_up b q1 A_q1) q10 A_q10) s14 := by rw [e_s14]; exact cx_new z_q10
  have f_q10 : c_at (c_up (c_up b q1 A_q1) q10 A_q10) s14 q10 A_q10 := by rw [e_s14]; exact ca_nw (by decide)
  clear_value S_s14
  intro c15
  have hc : _ ≤ c15 := hc
  clear_value c15
  intro d16
  have hd : _ ≤ d16 := hd
  clear_value d16
  refine ⟨(cr_k r_s14 (cr_atx (cr_atx (cr_atx f_o0 x_s5) x_s9) x_s14)).trans (cr_kx (cr_kx c_o0_2 (cr_atx f_o0 x_s5) x_s9) (cr_atx (cr_atx f_o0 x_s5) x_s9) x_s14), ?_⟩
  obtain ⟨s18, e_s18, h⟩ := fg_let_s h
  intro S_s18
  have r_s18 : c_R E g (c_up (c_up b q1 A_q1) q10 A_q10) s18 S_s18 := by rw [e_s18]; exact cr_sr r_s14 (cr_atx (cr_atx (cr_atx f_o0 x_s5) x_s9) x_s14) _ (cr_some f_q10)
  have F_s18 : c_F s18 := by rw [e_s18]; exact cf_sr F_s14 (cr_kx (cr_kx c_o0_2 (cr_atx f_o0 x_s5) x_s9) (cr_atx (cr_atx f_o0 x_s5) x_s9) x_s14) (by decide) _
  have x_s18 : c_ext (c_up (c_up b q1 A_q1) q10 A_q10) s14 (c_up (c_up b q1 A_q1) q10 A_q10) s18 := by rw [e_s18]; exact cx_sr _
  clear_value S_s18
  obtain ⟨s19, e_s19, h⟩ := fg_let_s h
  intro S_s19
  have r_s19 : c_R E g (c_up (c_up b q1 A_q1) q10 A_q10) s19 S_s19 := by rw [e_s19]; exact cr_si r_s18 (cr_atx (cr_atx (cr_atx (cr_atx f_o0 x_s5) x_s9) x_s14) x_s18) _ _
  have F_s19 : c_F s19 := by rw [e_s19]; exact cf_si F_s18 _ _
  have x_s19 : c_ext (c_up (c_up b q1 A_q1) q10 A_q10) s18 (c_up (c_up b q1 A_q1) q10 A_q10) s19 := by rw [e_s19]; exact cx_si _ _
  clear_value S_s19
  obtain ⟨a20, o_a20, h⟩ := fg_o_s h
  obtain ⟨A_a20, w_a20, f_a20⟩ := cr_aos (cr_r r_s19 (cr_atx (cr_atx (cr_atx (cr_atx (cr_atx f_o0 x_s5) x_s9) x_s14) x_s18) x_s19) _) o_a20
  refine ⟨A_a20, w_a20, ?_⟩
  obtain ⟨c_a20_4, h⟩ := fg_g_s h
  refine ⟨(cr_k r_s19 f_a20).trans c_a20_4, ?_⟩
  obtain ⟨c, h⟩ := fg_g_s h
  refine ⟨cr_vp (cr_n r_s19 f_a20) rfl c, ?_⟩
  obtain ⟨s23, e_s23, h⟩ := fg_let_s h
  intro S_s23
  have r_s23 : c_R E g (c_up (c_up b q1 A_q1) q10 A_q10) s23 S_s23 := by rw [e_s23]; exact cr_si r_s19 f_a20 _ _
  have F_s23 : c_F s23 := by rw [e_s23]; exact cf_si F_s19 _ _
  have x_s23 : c_ext (c_up (c_up b q1 A_q1) q10 A_q10) s19 (c_up (c_up b q1 A_q1) q10 A_q10) s23 := by rw [e_s23]; exact cx_si _ _
  clear_value S_s23
  obtain ⟨a24, o_a24, h⟩ := fg_o_s h
  obtain ⟨A_a24, w_a24, f_a24⟩ := cr_aos (cr_r r_s23 (cr_atx (cr_atx (cr_atx (cr_atx (cr_atx (cr_atx f_o0 x_s5) x_s9) x_s14) x_s18) x_s19) x_s23) _) o_a24
  refine ⟨A_a24, w_a24, ?_⟩
  obtain ⟨c_a24_5, h⟩ := fg_g_s h
  refine ⟨(cr_k r_s23 f_a24).trans c_a24_5, ?_⟩
  obtain ⟨c, h⟩ := fg_g_s h
  refine ⟨cr_vp (cr_n r_s23 f_a24) rfl c, ?_⟩
  obtain ⟨s27, e_s27, h⟩ := fg_let_s h
  intro S_s27
  have r_s27 : c_R E g (c_up (c_up b q1 A_q1) q10 A_q10) s27 S_s27 := by rw [e_s27]; exact cr_si r_s23 f_a24 _ _
  have F_s27 : c_F s27 := by rw [e_s27]; exact cf_si F_s23 _ _
  have x_s27 : c_ext (c_up (c_up b q1 A_q1) q10 A_q10) s23 (c_up (c_up b q1 A_q1) q10 A_q10) s27 := by rw [e_s27]; exact cx_si _ _
  clear_value S_s27
  obtain ⟨a28, o_a28, h⟩ := fg_o_s h
  obtain ⟨A_a28, w_a28, f_a28⟩ := cr_aos (cr_r r_s27 (cr_atx (cr_atx (cr_atx (cr_atx (cr_atx (cr_atx (cr_atx f_o0 x_s5) x_s9) x_s14) x_s18) x_s19) x_s23) x_s27) _) o_a28
  refine ⟨A_a28, w_a28, ?_⟩
  obtain ⟨c_a28_6, h⟩ := fg_g_s h
  refine ⟨(cr_k r_s27 f_a28).trans c_a28_6, ?_⟩
  obtain ⟨c, h⟩ := fg_g_s h
  refine ⟨cr_vp (cr_n r_s27 f_a28) rfl c, ?_⟩
  obtain ⟨s31, e_s31, h⟩ := fg_let_s h
  intro S_s31
  have r_s31 : c_R E g (c_up (c_up b q1 A_q1) q10 A_q10) s31 S_s31 := by rw [e_s31]; exact cr_si r_s27 f_a28 _ _
  have F_s31 : c_F s31 := by rw [e_s31]; exact cf_si F_s27 _ _
  have x_s31 : c_ext (c_up (c_up b q1 A_q1) q10 A_q10) s27 (c_up (c_up b q1 A_q1) q10 A_q10) s31 := by rw [e_s31]; exact cx_si _ _
  clear_value S_s31
  obtain ⟨a32, o_a32, h⟩ := fg_o_s h
  obtain ⟨A_a32, w_a32, f_a32⟩ := cr_aos (cr_r r_s31 (cr_atx (cr_atx (cr_atx (cr_atx (cr_atx (cr_atx (cr_atx (cr_atx f_o0 x_s5) x_s9) x_s14) x_s18) x_s19) x_s23) x_s27) x_s31) _) o_a32
  refine ⟨A_a32, w_a32, ?_⟩
  obtain ⟨c_a32_7, h⟩ := fg_g_s h
  refine ⟨(cr_k r_s31 f_a32).trans c_a32_7, ?_⟩
  obtain ⟨c, h⟩ := fg_g_s h
  refine ⟨cr_vp (cr_n r_s31 f_a32) rfl c, ?_⟩
  obtain ⟨s35, e_s35, h⟩ := fg_let_s h
  intro S_s35
  have r_s35 : c_R E g (c_up (c_up b q1 A_q1) q10 A_q10) s35 S_s35 := by rw [e_s35]; exact cr_si r_s31 f_a32 _ _
  have F_s35 : c_F s35 := by rw [e_s35]; exact cf_si F_s31 _ _
  have x_s35 : c_ext (c_up (c_up b q1 A_q1) q10 A_q10) s31 (c_up (c_up b q1 A_q1) q10 A_q10) s35 := by rw [e_s35]; exact cx_si _ _
  clear_value S_s35
  obtain ⟨s36, e_s36, h⟩ := fg_let_s h
  intro S_s36
  have r_s36 : c_R E g (c_up (c_up b q1 A_q1) q10 A_q10) s36 S_s36 := by rw [e_s36]; exact cr_si r_s35 (cr_atx (cr_atx (cr_atx (cr_atx (cr_atx (cr_atx (cr_atx (cr_atx (cr_atx f_o0 x_s5) x_s9) x_s14) x_s18) x_s19) x_s23) x_s27) x_s31) x_s35) _ _
  have F_s36 : c_F s36 := by rw [e_s36]; exact cf_si F_s35 _ _
  have x_s36 : c_ext (c_up (c_up b q1 A_q1) q10 A_q10) s35 (c_up (c_up b q1 A_q1) q10 A_q10) s36 := by rw [e_s36]; exact cx_si _ _
  clear_value S_s36
  obtain ⟨_, q⟩ := fg_retc h
  subst q
  exact hQ _ _ (cr_xt x_s5 (cr_xt x_s9 (cr_xt x_s14 (cr_xt x_s18 (cr_xt x_s19 (cr_xt x_s23 (cr_xt x_s27 (cr_xt x_s31 (cr_xt x_s35 x_s36))))))))) r_s36 F_s36
set_option maxRecDepth 100000 in
set_option maxHeartbeats 4000000 in
theorem ft_X11_within {E : h_S} {g : h_G} {r : Int32} {t : h_S} {Q : Int32 → h_S → Prop} {b : Nat → Nat} {s S_s : h_S} {x0 : Int32} {x1 : Int32} (hR : c_R E g b s S_s) (hF : c_F s) (h : fn_X11_within x0 x1 s = some (r, t)) (hQ : ∀ (b2 : Nat → Nat) (S2 : h_S), c_ext b s b2 t → c_R E g b2 t S2 → c_F t → Q r S2) : w_X11_within x0 x1 S_s Q := by
  unfold fn_X11_within at h
  unfold w_X11_within
  refine fg_ite Iff.rfl (fun d => ?_) (fun d => ?_)
  · have h := fg_if_t d h
    unfold w_X11_within_13
    unfold w_X11_within_14
    refine ⟨Or.inl rfl, ?_⟩
    obtain ⟨q, q2⟩ := fg_ret h
    subst q
    subst q2
    exact hQ _ _ cr_xr hR hF
  · have h := fg_if_e d h
    refine fg_ite Iff.rfl (fun d => ?_) (fun d => ?_)
    · have h := fg_if_t d h
      unfold w_X11_within_13
      unfold w_X11_within_14
      refine ⟨Or.inl rfl, ?_⟩
      obtain ⟨q, q2⟩ := fg_ret h
      subst q
      subst q2
      exact hQ _ _ cr_xr hR hF
    · have h := fg_if_e d h
      unfold w_X11_within_14
      refine ⟨Or.inr rfl, ?_⟩
      obtain ⟨q, q2⟩ := fg_ret h
      subst q
      subst q2
      exact hQ _ _ cr_xr hR hF
set_option maxRecDepth 100000 in
set_option maxHeartbeats 4000000 in
theorem ft_X1_isA_7b {E : h_S} {g : h_G} {r : Int32} {t : h_S} {Q : Int32 → h_S → Prop} {K7 : Int32 → Int32 → Int32 → h_S → Option ((Int32) × h_S)} {WK7 : Int32 → Int32 → Int32 → h_S → Prop} (hK7 : ∀ {b : Nat → Nat} {s S_s : h_S} {x1 : Int32} {x2 : Int32} {x3 : Int32}, c_R E g b s S_s → c_F s → K7 x1 x2 x3 s = some (r, t) → (∀ (b2 : Nat → Nat) (S2 : h_S), c_ext b s b2 t → c_R E g b2 t S2 → c_F t → Q r S2) → WK7 x1 x2 x3 S_s) {b : Nat → Nat} {s S_s : h_S} {x1 : Int32} {x2 : Int32} {x3 : Int32} (hR : c_R E g b s S_s) (hF : c_F s) (h : fn_X1_isA_7b K7 x1 x2 x3 s = some (r, t)) (hQ : ∀ (b2 : Nat → Nat) (S2 : h_S), c_ext b s b2 t → c_R E g b2 t S2 → c_F t → Q r S2) : w_X1_isA_7b Q WK7 x1 x2 x3 S_s := by
  unfold fn_X1_isA_7b at h
  unfold w_X1_isA_7b
  refine fg_ite Iff.rfl (fun d => ?_) (fun d => ?_)
  · have h := fg_if_t d h
    unfold w_X1_isA_39
    obtain ⟨q, q2⟩ := fg_ret h
    subst q
    subst q2
    exact hQ _ _ cr_xr hR hF
  · have h := fg_if_e d h
    obtain ⟨p3, s2, e_s2, h⟩ := fg_b_s h
    refine ft_X11_within hR hF e_s2 (fun b_s2 S_s2 x_s2 r_s2 F_s2 => ?_)
    refine fg_ite Iff.rfl (fun d => ?_) (fun d => ?_)
    · have h := fg_if_t d h
      unfold w_X1_isA_39
      obtain ⟨q, q2⟩ := fg_ret h
      subst q
      subst q2
      exact hQ _ _ x_s2 r_s2 F_s2
    · have h := fg_if_e d h
      refine fg_ite Iff.rfl (fun d => ?_) (fun d => ?_)
      · have h := fg_if_t d h
        obtain ⟨q, q2⟩ := fg_ret h
        subst q
        subst q2
        exact hQ _ _ x_s2 r_s2 F_s2
      · have h := fg_if_e d h
        obtain ⟨c, h⟩ := fg_g_s h
        refine ⟨c, ?_⟩
        exact hK7 r_s2 F_s2 h (fun b2 S2 x2 => hQ b2 S2 (cr_xt x_s2 x2))
set_option maxRecDepth 100000 in
set_option maxHeartbeats 4000000 in
theorem ft_X1_isA_7 {E : h_S} {g : h_G} {r : Int32} {t : h_S} {Q : Int32 → h_S → Prop} : ∀ (n : Nat) {b : Nat → Nat} {s S_s : h_S} {x1 : Int32} {x2 : Int32} {x3 : Int32}, c_R E g b s S_s → c_F s → fn_X1_isA_7 n x1 x2 x3 s = some (r, t) → (∀ (b2 : Nat → Nat) (S2 : h_S), c_ext b s b2 t → c_R E g b2 t S2 → c_F t → Q r S2) → w_X1_isA_7 Q n x1 x2 x3 S_s := by
  intro n
  induction n with
  | zero => intros; rename_i h _; exact fg_none h
  | succ n ih => exact ft_X1_isA_7b @ih
set_option maxRecDepth 100000 in
set_option maxHeartbeats 4000000 in
theorem ft_X1_isA {E : h_S} {g : h_G} {r : Int32} {t : h_S} {Q : Int32 → h_S → Prop} {b : Nat → Nat} {s S_s : h_S} {o0 : Nat} {A_o0 : Nat} {x1 : Int32} (hR : c_R E g b s S_s) (hF : c_F s) (f_o0 : c_at b s o0 A_o0) (h : fn_X1_isA o0 x1 s = some (r, t)) (hQ : ∀ (b2 : Nat → Nat) (S2 : h_S), c_ext b s b2 t → c_R E g b2 t S2 → c_F t → Q r S2) : w_X1_isA A_o0 x1 S_s Q := by
  unfold fn_X1_isA at h
  unfold w_X1_isA
  obtain ⟨c_o0_1, h⟩ := fg_g_s h
  refine ⟨(cr_k hR f_o0).trans c_o0_1, ?_⟩
  try simp -zeta -zetaUnused only [cr_i hR f_o0]
  exact ⟨g_N, ft_X1_isA_7 g_N hR hF h (fun b2 S2 x2 => hQ b2 S2 (cr_xt cr_xr x2))⟩
set_option maxRecDepth 100000 in
set_option maxHeartbeats 4000000 in
theorem ft_X1_endHolds {E : h_S} {g : h_G} {r : Int32} {t : h_S} {Q : Int32 → h_S → Prop} {b : Nat → Nat} {s S_s : h_S} {o0 : Nat} {A_o0 : Nat} {x1 : Int32} {x2 : Int32} (hR : c_R E g b s S_s) (hF : c_F s) (f_o0 : c_at b s o0 A_o0) (h : fn_X1_endHolds o0 x1 x2 s = some (r, t)) (hQ : ∀ (b2 : Nat → Nat) (S2 : h_S), c_ext b s b2 t → c_R E g b2 t S2 → c_F t → Q r S2) : w_X1_endHolds A_o0 x1 x2 S_s Q := by
  unfold fn_X1_endHolds at h
  unfold w_X1_endHolds
  obtain ⟨c_o0_1, h⟩ := fg_g_s h
  refine ⟨(cr_k hR f_o0).trans c_o0_1, ?_⟩
  obtain ⟨a2, o_a2, h⟩ := fg_o_s h
  obtain ⟨A_a2, w_a2, f_a2⟩ := cr_aos (cr_r hR f_o0 _) o_a2
  refine ⟨A_a2, w_a2, ?_⟩
  obtain ⟨c_a2_2, h⟩ := fg_g_s h
  refine ⟨(cr_k hR f_a2).trans c_a2_2, ?_⟩
  obtain ⟨c, h⟩ := fg_g_s h
  refine ⟨cr_vp (cr_n hR f_a2) rfl c, ?_⟩
  try simp -zeta -zetaUnused only [cr_i hR f_a2]
  refine fg_ite Iff.rfl (fun d => ?_) (fun d => ?_)
  · have h := fg_if_t d h
    unfold w_X1_endHolds_31
    unfold w_X1_endHolds_32
    refine ⟨Or.inl rfl, ?_⟩
    obtain ⟨q, q2⟩ := fg_ret h
    subst q
    subst q2
    exact hQ _ _ cr_xr hR hF
  · have h := fg_if_e d h
    obtain ⟨a6, o_a6, h⟩ := fg_o_s h
    obtain ⟨A_a6, w_a6, f_a6⟩ := cr_aos (cr_r hR f_o0 _) o_a6
    refine ⟨A_a6, w_a6, ?_⟩
    obtain ⟨c_a6_3, h⟩ := fg_g_s h
    refine ⟨(cr_k hR f_a6).trans c_a6_3, ?_⟩
    obtain ⟨c, h⟩ := fg_g_s h
    refine ⟨cr_vp (cr_n hR f_a6) rfl c, ?_⟩
    obtain ⟨a9, o_a9, h⟩ := fg_o_s h
    obtain ⟨A_a9, w_a9, f_a9⟩ := cr_aos (cr_r hR f_o0 _) o_a9
    refine ⟨A_a9, w_a9, ?_⟩
    obtain ⟨c_a9_4, h⟩ := fg_g_s h
    refine ⟨(cr_k hR f_a9).trans c_a9_4, ?_⟩
    obtain ⟨c, h⟩ := fg_g_s h
    refine ⟨cr_vp (cr_n hR f_a9) rfl c, ?_⟩
    try simp -zeta -zetaUnused only [cr_i hR f_a9, cr_i hR f_a6]
    refine fg_ite Iff.rfl (fun d => ?_) (fun d => ?_)
    · have h := fg_if_t d h
      unfold w_X1_endHolds_31
      unfold w_X1_endHolds_32
      refine ⟨Or.inl rfl, ?_⟩
      obtain ⟨q, q2⟩ := fg_ret h
      subst q
      subst q2
      exact hQ _ _ cr_xr hR hF
    · have h := fg_if_e d h
      unfold w_X1_endHolds_32
      refine ⟨Or.inr rfl, ?_⟩
      obtain ⟨q, q2⟩ := fg_ret h
      subst q
      subst q2
      exact hQ _ _ cr_xr hR hF
set_option maxRecDepth 100000 in
set_option maxHeartbeats 4000000 in
theorem ft_X1_holds {E : h_S} {g : h_G} {r : Int32} {t : h_S} {Q : Int32 → h_S → Prop} {b : Nat → Nat} {s S_s : h_S} {o0 : Nat} {A_o0 : Nat} {x1 : Int32} (hR : c_R E g b s S_s) (hF : c_F s) (f_o0 : c_at b s o0 A_o0) (h : fn_X1_holds o0 x1 s = some (r, t)) (hQ : ∀ (b2 : Nat → Nat) (S2 : h_S), c_ext b s b2 t → c_R E g b2 t S2 → c_F t → Q r S2) : w_X1_holds A_o0 x1 S_s Q := by
  unfold fn_X1_holds at h
  unfold w_X1_holds
  obtain ⟨c_o0_1, h⟩ := fg_g_s h
  refine ⟨(cr_k hR f_o0).trans c_o0_1, ?_⟩
  obtain ⟨p3, s2, e_s2, h⟩ := fg_b_s h
  refine ft_X1_endHolds hR hF f_o0 e_s2 (fun b_s2 S_s2 x_s2 r_s2 F_s2 => ?_)
  refine fg_ite Iff.rfl (fun d => ?_) (fun d => ?_)
  · have h := fg_if_t d h
    refine ⟨(cr_k r_s2 (cr_atx f_o0 x_s2)).trans (cr_kx c_o0_1 f_o0 x_s2), ?_⟩
    obtain ⟨p7, s6, e_s6, h⟩ := fg_b_s h
    refine ft_X1_endHolds r_s2 F_s2 (cr_atx f_o0 x_s2) e_s6 (fun b_s6 S_s6 x_s6 r_s6 F_s6 => ?_)
    refine fg_ite Iff.rfl (fun d => ?_) (fun d => ?_)
    · have h := fg_if_t d h
      unfold w_X1_holds_23
      refine ⟨Or.inl rfl, ?_⟩
      obtain ⟨q, q2⟩ := fg_ret h
      subst q
      subst q2
      exact hQ _ _ (cr_xt x_s2 x_s6) r_s6 F_s6
    · have h := fg_if_e d h
      unfold w_X1_holds_18
      unfold w_X1_holds_23
      refine ⟨Or.inr rfl, ?_⟩
      obtain ⟨q, q2⟩ := fg_ret h
      subst q
      subst q2
      exact hQ _ _ (cr_xt x_s2 x_s6) r_s6 F_s6
  · have h := fg_if_e d h
    unfold w_X1_holds_18
    unfold w_X1_holds_23
    refine ⟨Or.inr rfl, ?_⟩
    obtain ⟨q, q2⟩ := fg_ret h
    subst q
    subst q2
    exact hQ _ _ x_s2 r_s2 F_s2
set_option maxRecDepth 100000 in
set_option maxHeartbeats 4000000 in
theorem ft_X1_partFrom_7b {E : h_S} {g : h_G} {r : Int32} {t : h_S} {Q : Int32 → h_S → Prop} {K7 : Nat → Int32 → Option Nat → Int32 → h_S → Option ((Int32) × h_S)} {WK7 : Nat → Int32 → Option Nat → Int32 → h_S → Prop} (hK7 : ∀ {b : Nat → Nat} {s S_s : h_S} {o0 : Nat} {A_o0 : Nat} {x1 : Int32} {r2 : Option Nat} {R_r2 : Option Nat} {x4 : Int32}, c_R E g b s S_s → c_F s → c_at b s o0 A_o0 → c_ao b s r2 R_r2 → K7 o0 x1 r2 x4 s = some (r, t) → (∀ (b2 : Nat → Nat) (S2 : h_S), c_ext b s b2 t → c_R E g b2 t S2 → c_F t → Q r S2) → WK7 A_o0 x1 R_r2 x4 S_s) {b : Nat → Nat} {s S_s : h_S} {o0 : Nat} {A_o0 : Nat} {x1 : Int32} {r2 : Option Nat} {R_r2 : Option Nat} {x4 : Int32} (hR : c_R E g b s S_s) (hF : c_F s) (f_o0 : c_at b s o0 A_o0) (f_r2 : c_ao b s r2 R_r2) (h : fn_X1_partFrom_7b K7 o0 x1 r2 x4 s = some (r, t)) (hQ : ∀ (b2 : Nat → Nat) (S2 : h_S), c_ext b s b2 t → c_R E g b2 t S2 → c_F t → Q r S2) : w_X1_partFrom_7b Q WK7 A_o0 x1 R_r2 x4 S_s := by
  unfold fn_X1_partFrom_7b at h
  unfold w_X1_partFrom_7b
  obtain ⟨a1, o_a1, h⟩ := fg_o_s h
  obtain ⟨A_a1, w_a1, f_a1⟩ := cr_aos f_r2 o_a1
  refine ⟨A_a1, w_a1, ?_⟩
  obtain ⟨c_a1_1, h⟩ := fg_g_s h
  refine ⟨(cr_k hR f_a1).trans c_a1_1, ?_⟩
  try simp -zeta -zetaUnused only [cr_n hR f_a1]
  refine fg_ite Iff.rfl (fun d => ?_) (fun d => ?_)
  · have h := fg_if_t d h
    obtain ⟨q, q2⟩ := fg_ret h
    subst q
    subst q2
    exact hQ _ _ cr_xr hR hF
  · have h := fg_if_e d h
    obtain ⟨a4, o_a4, h⟩ := fg_o_s h
    obtain ⟨A_a4, w_a4, f_a4⟩ := cr_aos f_r2 o_a4
    refine ⟨A_a4, w_a4, ?_⟩
    obtain ⟨c_a4_2, h⟩ := fg_g_s h
    refine ⟨(cr_k hR f_a4).trans c_a4_2, ?_⟩
    obtain ⟨c, h⟩ := fg_g_s h
    refine ⟨cr_vp (cr_n hR f_a4) rfl c, ?_⟩
    obtain ⟨c_o0_3, h⟩ := fg_g_s h
    refine ⟨(cr_k hR f_o0).trans c_o0_3, ?_⟩
    try simp -zeta -zetaUnused only [cr_i hR f_a4]
    obtain ⟨p9, s8, e_s8, h⟩ := fg_b_s h
    refine ft_X1_endHolds hR hF f_o0 e_s8 (fun b_s8 S_s8 x_s8 r_s8 F_s8 => ?_)
    refine fg_ite Iff.rfl (fun d => ?_) (fun d => ?_)
    · have h := fg_if_t d h
      exact hK7 r_s8 F_s8 (cr_atx f_o0 x_s8) (cr_aox f_r2 x_s8) h (fun b2 S2 x2 => hQ b2 S2 (cr_xt x_s8 x2))
    · have h := fg_if_e d h
      obtain ⟨q, q2⟩ := fg_ret h
      subst q
      subst q2
      exact hQ _ _ x_s8 r_s8 F_s8
set_option maxRecDepth 100000 in
set_option maxHeartbeats 4000000 in
theorem ft_X1_partFrom_7 {E : h_S} {g : h_G} {r : Int32} {t : h_S} {Q : Int32 → h_S → Prop} : ∀ (n : Nat) {b : Nat → Nat} {s S_s : h_S} {o0 : Nat} {A_o0 : Nat} {x1 : Int32} {r2 : Option Nat} {R_r2 : Option Nat} {x4 : Int32}, c_R E g b s S_s → c_F s → c_at b s o0 A_o0 → c_ao b s r2 R_r2 → fn_X1_partFrom_7 n o0 x1 r2 x4 s = some (r, t) → (∀ (b2 : Nat → Nat) (S2 : h_S), c_ext b s b2 t → c_R E g b2 t S2 → c_F t → Q r S2) → w_X1_partFrom_7 Q n A_o0 x1 R_r2 x4 S_s := by
  intro n
  induction n with
  | zero => intros; rename_i h _; exact fg_none h
  | succ n ih => exact ft_X1_partFrom_7b @ih
set_option maxRecDepth 100000 in
set_option maxHeartbeats 4000000 in
theorem ft_X1_partFrom {E : h_S} {g : h_G} {r : Int32} {t : h_S} {Q : Int32 → h_S → Prop} {b : Nat → Nat} {s S_s : h_S} {o0 : Nat} {A_o0 : Nat} {x1 : Int32} {r2 : Option Nat} {R_r2 : Option Nat} {x3 : Int32} (hR : c_R E g b s S_s) (hF : c_F s) (f_o0 : c_at b s o0 A_o0) (f_r2 : c_ao b s r2 R_r2) (h : fn_X1_partFrom o0 x1 r2 x3 s = some (r, t)) (hQ : ∀ (b2 : Nat → Nat) (S2 : h_S), c_ext b s b2 t → c_R E g b2 t S2 → c_F t → Q r S2) : w_X1_partFrom A_o0 x1 R_r2 x3 S_s Q := by
  unfold fn_X1_partFrom at h
  unfold w_X1_partFrom
  exact ⟨g_N, ft_X1_partFrom_7 g_N hR hF f_o0 f_r2 h (fun b2 S2 x2 => hQ b2 S2 (cr_xt cr_xr x2))⟩
set_option maxRecDepth 100000 in
set_option maxHeartbeats 4000000 in
theorem ft_X1_partSize_5b {E : h_S} {g : h_G} {r : Int32} {t : h_S} {Q : Int32 → h_S → Prop} {K5 : Nat → Int32 → Option Nat → Int32 → Int32 → h_S → Option ((Int32) × h_S)} {WK5 : Nat → Int32 → Option Nat → Int32 → Int32 → h_S → Prop} (hK5 : ∀ {b : Nat → Nat} {s S_s : h_S} {o0 : Nat} {A_o0 : Nat} {x1 : Int32} {r2 : Option Nat} {R_r2 : Option Nat} {x3 : Int32} {x4 : Int32}, c_R E g b s S_s → c_F s → c_at b s o0 A_o0 → c_ao b s r2 R_r2 → K5 o0 x1 r2 x3 x4 s = some (r, t) → (∀ (b2 : Nat → Nat) (S2 : h_S), c_ext b s b2 t → c_R E g b2 t S2 → c_F t → Q r S2) → WK5 A_o0 x1 R_r2 x3 x4 S_s) {b : Nat → Nat} {s S_s : h_S} {o0 : Nat} {A_o0 : Nat} {x1 : Int32} {r2 : Option Nat} {R_r2 : Option Nat} {x3 : Int32} {x4 : Int32} (hR : c_R E g b s S_s) (hF : c_F s) (f_o0 : c_at b s o0 A_o0) (f_r2 : c_ao b s r2 R_r2) (h : fn_X1_partSize_5b K5 o0 x1 r2 x3 x4 s = some (r, t)) (hQ : ∀ (b2 : Nat → Nat) (S2 : h_S), c_ext b s b2 t → c_R E g b2 t S2 → c_F t → Q r S2) : w_X1_partSize_5b Q WK5 A_o0 x1 R_r2 x3 x4 S_s := by
  unfold fn_X1_partSize_5b at h
  unfold w_X1_partSize_5b
  refine fg_ite Iff.rfl (fun d => ?_) (fun d => ?_)
  · have h := fg_if_t d h
    unfold w_X1_partSize_50
    obtain ⟨q, q2⟩ := fg_ret h
    subst q
    subst q2
    exact hQ _ _ cr_xr hR hF
  · have h := fg_if_e d h
    obtain ⟨a2, o_a2, h⟩ := fg_o_s h
    obtain ⟨A_a2, w_a2, f_a2⟩ := cr_aos f_r2 o_a2
    refine ⟨A_a2, w_a2, ?_⟩
    obtain ⟨c_a2_1, h⟩ := fg_g_s h
    refine ⟨(cr_k hR f_a2).trans c_a2_1, ?_⟩
    try simp -zeta -zetaUnused only [cr_n hR f_a2]
    refine fg_ite Iff.rfl (fun d => ?_) (fun d => ?_)
    · have h := fg_if_t d h
      unfold w_X1_partSize_50
      obtain ⟨q, q2⟩ := fg_ret h
      subst q
      subst q2
      exact hQ _ _ cr_xr hR hF
    · have h := fg_if_e d h
      obtain ⟨a5, o_a5, h⟩ := fg_o_s h
      obtain ⟨A_a5, w_a5, f_a5⟩ := cr_aos f_r2 o_a5
      refine ⟨A_a5, w_a5, ?_⟩
      obtain ⟨c_a5_2, h⟩ := fg_g_s h
      refine ⟨(cr_k hR f_a5).trans c_a5_2, ?_⟩
      obtain ⟨c, h⟩ := fg_g_s h
      refine ⟨cr_vp (cr_n hR f_a5) rfl c, ?_⟩
      obtain ⟨c_o0_3, h⟩ := fg_g_s h
      refine ⟨(cr_k hR f_o0).trans c_o0_3, ?_⟩
      try simp -zeta -zetaUnused only [cr_i hR f_a5]
      obtain ⟨p10, s9, e_s9, h⟩ := fg_b_s h
      refine ft_X1_endHolds hR hF f_o0 e_s9 (fun b_s9 S_s9 x_s9 r_s9 F_s9 => ?_)
      refine fg_ite Iff.rfl (fun d => ?_) (fun d => ?_)
      · have h := fg_if_t d h
        unfold w_X1_partSize_50
        obtain ⟨q, q2⟩ := fg_ret h
        subst q
        subst q2
        exact hQ _ _ x_s9 r_s9 F_s9
      · have h := fg_if_e d h
        obtain ⟨a12, o_a12, h⟩ := fg_o_s h
        obtain ⟨A_a12, w_a12, f_a12⟩ := cr_aos f_r2 o_a12
        refine ⟨A_a12, w_a12, ?_⟩
        obtain ⟨c_a12_4, h⟩ := fg_g_s h
        refine ⟨(cr_k r_s9 (cr_atx f_a12 x_s9)).trans c_a12_4, ?_⟩
        obtain ⟨c, h⟩ := fg_g_s h
        refine ⟨cr_vp (cr_n r_s9 (cr_atx f_a12 x_s9)) rfl c, ?_⟩
        obtain ⟨a15, o_a15, h⟩ := fg_o_s h
        obtain ⟨A_a15, w_a15, f_a15⟩ := cr_aos f_r2 o_a15
        refine ⟨A_a15, w_a15, ?_⟩
        obtain ⟨c_a15_5, h⟩ := fg_g_s h
        refine ⟨(cr_k r_s9 (cr_atx f_a15 x_s9)).trans c_a15_5, ?_⟩
        obtain ⟨c, h⟩ := fg_g_s h
        refine ⟨cr_vp (cr_n r_s9 (cr_atx f_a15 x_s9)) rfl c, ?_⟩
        try simp -zeta -zetaUnused only [cr_i r_s9 (cr_atx f_a12 x_s9), cr_i r_s9 (cr_atx f_a15 x_s9)]
        refine fg_ite Iff.rfl (fun d => ?_) (fun d => ?_)
        · have h := fg_if_t d h
          exact hK5 r_s9 F_s9 (cr_atx f_o0 x_s9) (cr_aox f_r2 x_s9) h (fun b2 S2 x2 => hQ b2 S2 (cr_xt x_s9 x2))
        · have h := fg_if_e d h
          unfold w_X1_partSize_50
          obtain ⟨q, q2⟩ := fg_ret h
          subst q
          subst q2
          exact hQ _ _ x_s9 r_s9 F_s9
set_option maxRecDepth 100000 in
set_option maxHeartbeats 4000000 in
theorem ft_X1_partSize_5 {E : h_S} {g : h_G} {r : Int32} {t : h_S} {Q : Int32 → h_S → Prop} : ∀ (n : Nat) {b : Nat → Nat} {s S_s : h_S} {o0 : Nat} {A_o0 : Nat} {x1 : Int32} {r2 : Option Nat} {R_r2 : Option Nat} {x3 : Int32} {x4 : Int32}, c_R E g b s S_s → c_F s → c_at b s o0 A_o0 → c_ao b s r2 R_r2 → fn_X1_partSize_5 n o0 x1 r2 x3 x4 s = some (r, t) → (∀ (b2 : Nat → Nat) (S2 : h_S), c_ext b s b2 t → c_R E g b2 t S2 → c_F t → Q r S2) → w_X1_partSize_5 Q n A_o0 x1 R_r2 x3 x4 S_s := by
  intro n
  induction n with
  | zero => intros; rename_i h _; exact fg_none h
  | succ n ih => exact ft_X1_partSize_5b @ih
set_option maxRecDepth 100000 in
set_option maxHeartbeats 4000000 in
theorem ft_X1_partSize {E : h_S} {g : h_G} {r : Int32} {t : h_S} {Q : Int32 → h_S → Prop} {b : Nat → Nat} {s S_s : h_S} {o0 : Nat} {A_o0 : Nat} {x1 : Int32} {r2 : Option Nat} {R_r2 : Option Nat} {x3 : Int32} (hR : c_R E g b s S_s) (hF : c_F s) (f_o0 : c_at b s o0 A_o0) (f_r2 : c_ao b s r2 R_r2) (h : fn_X1_partSize o0 x1 r2 x3 s = some (r, t)) (hQ : ∀ (b2 : Nat → Nat) (S2 : h_S), c_ext b s b2 t → c_R E g b2 t S2 → c_F t → Q r S2) : w_X1_partSize A_o0 x1 R_r2 x3 S_s Q := by
  unfold fn_X1_partSize at h
  unfold w_X1_partSize
  exact ⟨g_N, ft_X1_partSize_5 g_N hR hF f_o0 f_r2 h (fun b2 S2 x2 => hQ b2 S2 (cr_xt cr_xr x2))⟩
set_option maxRecDepth 100000 in
set_option maxHeartbeats 4000000 in
theorem ft_X1_partBehind {E : h_S} {g : h_G} {r : Int32} {t : h_S} {Q : Int32 → h_S → Prop} {b : Nat → Nat} {s S_s : h_S} {o0 : Nat} {A_o0 : Nat} {x1 : Int32} {r2 : Option Nat} {R_r2 : Option Nat} {x3 : Int32} (hR : c_R E g b s S_s) (hF : c_F s) (f_o0 : c_at b s o0 A_o0) (f_r2 : c_ao b s r2 R_r2) (h : fn_X1_partBehind o0 x1 r2 x3 s = some (r, t)) (hQ : ∀ (b2 : Nat → Nat) (S2 : h_S), c_ext b s b2 t → c_R E g b2 t S2 → c_F t → Q r S2) : w_X1_partBehind A_o0 x1 R_r2 x3 S_s Q := by
  unfold fn_X1_partBehind at h
  unfold w_X1_partBehind
  obtain ⟨c_o0_1, h⟩ := fg_g_s h
  refine ⟨(cr_k hR f_o0).trans c_o0_1, ?_⟩
  obtain ⟨p3, s2, e_s2, h⟩ := fg_b_s h
  refine ft_X1_partSize hR hF f_o0 f_r2 e_s2 (fun b_s2 S_s2 x_s2 r_s2 F_s2 => ?_)
  refine ⟨(cr_k r_s2 (cr_atx f_o0 x_s2)).trans (cr_kx c_o0_1 f_o0 x_s2), ?_⟩
  obtain ⟨p6, s5, e_s5, h⟩ := fg_b_s h
  refine ft_X1_partFrom r_s2 F_s2 (cr_atx f_o0 x_s2) (cr_aox f_r2 x_s2) e_s5 (fun b_s5 S_s5 x_s5 r_s5 F_s5 => ?_)
  obtain ⟨q, q2⟩ := fg_ret h
  subst q
  subst q2
  exact hQ _ _ (cr_xt x_s2 x_s5) r_s5 F_s5
set_option maxRecDepth 100000 in
set_option maxHeartbeats 4000000 in
theorem ft_X2_init {E : h_S} {g : h_G} {r : Unit} {t : h_S} {Q : h_S → Prop} {b : Nat → Nat} {s S_s : h_S} {o0 : Nat} {A_o0 : Nat} {x1 : Int32} {x2 : Int32} {x3 : Int32} {x4 : Int32} {x5 : Int32} (hR : c_R E g b s S_s) (hF : c_F s) (f_o0 : c_at b s o0 A_o0) (h : fn_X2_init o0 x1 x2 x3 x4 x5 s = some (r, t)) (hQ : ∀ (b2 : Nat → Nat) (S2 : h_S), c_ext b s b2 t → c_R E g b2 t S2 → c_F t → Q S2) : w_X2_init A_o0 x1 x2 x3 x4 x5 S_s Q := by
  unfold fn_X2_init at h
  unfold w_X2_init
  obtain ⟨c_o0_1, h⟩ := fg_g_s h
  refine ⟨(cr_k hR f_o0).trans c_o0_1, ?_⟩
  obtain ⟨s2, e_s2, h⟩ := fg_let_s h
  intro S_s2
  have r_s2 : c_R E g b s2 S_s2 := by rw [e_s2]; exact cr_si hR f_o0 _ _
  have F_s2 : c_F s2 := by rw [e_s2]; exact cf_si hF _ _
  have x_s2 : c_ext b s b s2 := by rw [e_s2]; exact cx_si _ _
  clear_value S_s2
  obtain ⟨s3, e_s3, h⟩ := fg_let_s h
  intro S_s3
  have r_s3 : c_R E g b s3 S_s3 := by rw [e_s3]; exact cr_si r_s2 (cr_atx f_o0 x_s2) _ _
  have F_s3 : c_F s3 := by rw [e_s3]; exact cf_si F_s2 _ _
  have x_s3 : c_ext b s2 b s3 := by rw [e_s3]; exact cx_si _ _
  clear_value S_s3
  obtain ⟨s4, e_s4, h⟩ := fg_let_s h
  intro S_s4
  have r_s4 : c_R E g b s4 S_s4 := by rw [e_s4]; exact cr_si r_s3 (cr_atx (cr_atx f_o0 x_s2) x_s3) _ _
  have F_s4 : c_F s4 := by rw [e_s4]; exact cf_si F_s3 _ _
  have x_s4 : c_ext b s3 b s4 := by rw [e_s4]; exact cx_si _ _
  clear_value S_s4
  obtain ⟨s5, e_s5, h⟩ := fg_let_s h
  intro S_s5
  have r_s5 : c_R E g b s5 S_s5 := by rw [e_s5]; exact cr_si r_s4 (cr_atx (cr_atx (cr_atx f_o0 x_s2) x_s3) x_s4) _ _
  have F_s5 : c_F s5 := by rw [e_s5]; exact cf_si F_s4 _ _
  have x_s5 : c_ext b s4 b s5 := by rw [e_s5]; exact cx_si _ _
  clear_value S_s5
  obtain ⟨s6, e_s6, h⟩ := fg_let_s h
  intro S_s6
  have r_s6 : c_R E g b s6 S_s6 := by rw [e_s6]; exact cr_si r_s5 (cr_atx (cr_atx (cr_atx (cr_atx f_o0 x_s2) x_s3) x_s4) x_s5) _ _
  have F_s6 : c_F s6 := by rw [e_s6]; exact cf_si F_s5 _ _
  have x_s6 : c_ext b s5 b s6 := by rw [e_s6]; exact cx_si _ _
  clear_value S_s6
  obtain ⟨_, q⟩ := fg_ret h
  subst q
  exact hQ _ _ (cr_xt x_s2 (cr_xt x_s3 (cr_xt x_s4 (cr_xt x_s5 x_s6)))) r_s6 F_s6
set_option maxRecDepth 100000 in
set_option maxHeartbeats 4000000 in
theorem ft_X2_hasWords {E : h_S} {g : h_G} {r : Int32} {t : h_S} {Q : Int32 → h_S → Prop} {b : Nat → Nat} {s S_s : h_S} {o0 : Nat} {A_o0 : Nat} (hR : c_R E g b s S_s) (hF : c_F s) (f_o0 : c_at b s o0 A_o0) (h : fn_X2_hasWords o0 s = some (r, t)) (hQ : ∀ (b2 : Nat → Nat) (S2 : h_S), c_ext b s b2 t → c_R E g b2 t S2 → c_F t → Q r S2) : w_X2_hasWords A_o0 S_s Q := by
  unfold fn_X2_hasWords at h
  unfold w_X2_hasWords
  obtain ⟨c_o0_1, h⟩ := fg_g_s h
  refine ⟨(cr_k hR f_o0).trans c_o0_1, ?_⟩
  try simp -zeta -zetaUnused only [cr_i hR f_o0]
  refine fg_ite Iff.rfl (fun d => ?_) (fun d => ?_)
  · have h := fg_if_t d h
    unfold w_X2_hasWords_15
    unfold w_X2_hasWords_20
    refine ⟨Or.inr rfl, ?_⟩
    obtain ⟨q, q2⟩ := fg_ret h
    subst q
    subst q2
    exact hQ _ _ cr_xr hR hF
  · have h := fg_if_e d h
    refine fg_ite Iff.rfl (fun d => ?_) (fun d => ?_)
    · have h := fg_if_t d h
      unfold w_X2_hasWords_15
      unfold w_X2_hasWords_20
      refine ⟨Or.inr rfl, ?_⟩
      obtain ⟨q, q2⟩ := fg_ret h
      subst q
      subst q2
      exact hQ _ _ cr_xr hR hF
    · have h := fg_if_e d h
      unfold w_X2_hasWords_20
      refine ⟨Or.inl rfl, ?_⟩
      obtain ⟨q, q2⟩ := fg_ret h
      subst q
      subst q2
      exact hQ _ _ cr_xr hR hF
set_option maxRecDepth 100000 in
set_option maxHeartbeats 4000000 in
theorem ft_X2_head {E : h_S} {g : h_G} {r : Option Nat} {t : h_S} {Q : Option Nat → h_S → Prop} {b : Nat → Nat} {s S_s : h_S} {C0 D0 mc ms : Nat} {o0 : Nat} {A_o0 : Nat} {x1 : Int32} (hR : c_R E g b s S_s) (hF : c_F s) (f_o0 : c_at b s o0 A_o0) (h : fn_X2_head o0 x1 s = some (r, t, C0, D0)) (hQ : ∀ (b2 : Nat → Nat) (R2 : Option Nat) (S2 : h_S), c_ext b s b2 t → c_R E g b2 t S2 → c_F t → c_ao b2 t r R2 → Q R2 S2) (hc : C0 ≤ mc) (hd : D0 ≤ ms) : w_X2_head A_o0 x1 S_s mc ms Q := by
  unfold fn_X2_head at h
  unfold w_X2_head
  obtain ⟨q1, e_q1, h⟩ := fg_let_s h
  have z_q1 : h_k s q1 = 0 := cf_z hF e_q1
  obtain ⟨C_q1, D_q1, h, q_q1, w_q1⟩ := fg_c_s h
  obtain ⟨u1_q1, hc⟩ := fg_sp q_q1 hc
  obtain ⟨u2_q1, hd⟩ := fg_sp w_q1 hd
  refine ⟨u1_q1, u2_q1, fun A_q1 Z_q1 => ?_⟩
  obtain ⟨s5, e_s5, h⟩ := fg_let_s h
  intro S_s5
  have r_s5 : c_R E g (c_up b q1 A_q1) s5 S_s5 := by rw [e_s5]; exact cr_nw hR z_q1 Z_q1 (by decide)
  have F_s5 : c_F s5 := by rw [e_s5]; exact cf_nw hF e_q1 (by decide)
  have x_s5 : c_ext b s (c_up b q1 A_q1) s5 := by rw [e_s5]; exact cx_new z_q1
  have f_q1 : c_at (c_up b q1 A_q1) s5 q1 A_q1 := by rw [e_s5]; exact ca_nw (by decide)
  clear_value S_s5
  intro c6
  have hc : _ ≤ c6 := hc
  clear_value c6
  intro d7
  have hd : _ ≤ d7 := hd
  clear_value d7
  obtain ⟨c_o0_2, h⟩ := fg_g_s h
  refine ⟨(cr_k r_s5 (cr_atx f_o0 x_s5)).trans c_o0_2, ?_⟩
  try simp -zeta -zetaUnused only [cr_i r_s5 (cr_atx f_o0 x_s5)]
  obtain ⟨u_, s9, e_s9, h⟩ := fg_b_s h
  refine ft_X2_init r_s5 F_s5 f_q1 e_s9 (fun b_s9 S_s9 x_s9 r_s9 F_s9 => ?_)
  obtain ⟨q, q2⟩ := fg_retc h
  subst q
  subst q2
  exact hQ _ _ _ (cr_xt x_s5 x_s9) r_s9 F_s9 (cr_some (cr_atx f_q1 x_s9))
set_option maxRecDepth 100000 in
set_option maxHeartbeats 4000000 in
theorem ft_X2_tail {E : h_S} {g : h_G} {r : Option Nat} {t : h_S} {Q : Option Nat → h_S → Prop} {b : Nat → Nat} {s S_s : h_S} {C0 D0 mc ms : Nat} {o0 : Nat} {A_o0 : Nat} {x1 : Int32} (hR : c_R E g b s S_s) (hF : c_F s) (f_o0 : c_at b s o0 A_o0) (h : fn_X2_tail o0 x1 s = some (r, t, C0, D0)) (hQ : ∀ (b2 : Nat → Nat) (R2 : Option Nat) (S2 : h_S), c_ext b s b2 t → c_R E g b2 t S2 → c_F t → c_ao b2 t r R2 → Q R2 S2) (hc : C0 ≤ mc) (hd : D0 ≤ ms) : w_X2_tail A_o0 x1 S_s mc ms Q := by
  unfold fn_X2_tail at h
  unfold w_X2_tail
  obtain ⟨q1, e_q1, h⟩ := fg_let_s h
  have z_q1 : h_k s q1 = 0 := cf_z hF e_q1
  obtain ⟨C_q1, D_q1, h, q_q1, w_q1⟩ := fg_c_s h
  obtain ⟨u1_q1, hc⟩ := fg_sp q_q1 hc
  obtain ⟨u2_q1, hd⟩ := fg_sp w_q1 hd
  refine ⟨u1_q1, u2_q1, fun A_q1 Z_q1 => ?_⟩
  obtain ⟨s5, e_s5, h⟩ := fg_let_s h
  intro S_s5
  have r_s5 : c_R E g (c_up b q1 A_q1) s5 S_s5 := by rw [e_s5]; exact cr_nw hR z_q1 Z_q1 (by decide)
  have F_s5 : c_F s5 := by rw [e_s5]; exact cf_nw hF e_q1 (by decide)
  have x_s5 : c_ext b s (c_up b q1 A_q1) s5 := by rw [e_s5]; exact cx_new z_q1
  have f_q1 : c_at (c_up b q1 A_q1) s5 q1 A_q1 := by rw [e_s5]; exact ca_nw (by decide)
  clear_value S_s5
  intro c6
  have hc : _ ≤ c6 := hc
  clear_value c6
  intro d7
  have hd : _ ≤ d7 := hd
  clear_value d7
  obtain ⟨c_o0_2, h⟩ := fg_g_s h
  refine ⟨(cr_k r_s5 (cr_atx f_o0 x_s5)).trans c_o0_2, ?_⟩
  try simp -zeta -zetaUnused only [cr_i r_s5 (cr_atx f_o0 x_s5)]
  obtain ⟨u_, s9, e_s9, h⟩ := fg_b_s h
  refine ft_X2_init r_s5 F_s5 f_q1 e_s9 (fun b_s9 S_s9 x_s9 r_s9 F_s9 => ?_)
  obtain ⟨q, q2⟩ := fg_retc h
  subst q
  subst q2
  exact hQ _ _ _ (cr_xt x_s5 x_s9) r_s9 F_s9 (cr_some (cr_atx f_q1 x_s9))
set_option maxRecDepth 100000 in
set_option maxHeartbeats 4000000 in
theorem ft_X2_momentWithin {E : h_S} {g : h_G} {r : Int32} {t : h_S} {Q : Int32 → h_S → Prop} {b : Nat → Nat} {s S_s : h_S} {o0 : Nat} {A_o0 : Nat} {x1 : Int32} (hR : c_R E g b s S_s) (hF : c_F s) (f_o0 : c_at b s o0 A_o0) (h : fn_X2_momentWithin o0 x1 s = some (r, t)) (hQ : ∀ (b2 : Nat → Nat) (S2 : h_S), c_ext b s b2 t → c_R E g b2 t S2 → c_F t → Q r S2) : w_X2_momentWithin A_o0 x1 S_s Q := by
  unfold fn_X2_momentWithin at h
  unfold w_X2_momentWithin
  obtain ⟨c_o0_1, h⟩ := fg_g_s h
  refine ⟨(cr_k hR f_o0).trans c_o0_1, ?_⟩
  try simp -zeta -zetaUnused only [cr_i hR f_o0]
  refine fg_ite Iff.rfl (fun d => ?_) (fun d => ?_)
  · have h := fg_if_t d h
    unfold w_X2_momentWithin_16
    obtain ⟨q, q2⟩ := fg_ret h
    subst q
    subst q2
    exact hQ _ _ cr_xr hR hF
  · have h := fg_if_e d h
    unfold w_X2_momentWithin_16
    obtain ⟨q, q2⟩ := fg_ret h
    subst q
    subst q2
    exact hQ _ _ cr_xr hR hF
set_option maxRecDepth 100000 in
set_option maxHeartbeats 4000000 in
theorem ft_X3_init {E : h_S} {g : h_G} {r : Unit} {t : h_S} {Q : h_S → Prop} {b : Nat → Nat} {s S_s : h_S} {o0 : Nat} {A_o0 : Nat} {x1 : Int32} {x2 : Int32} (hR : c_R E g b s S_s) (hF : c_F s) (f_o0 : c_at b s o0 A_o0) (h : fn_X3_init o0 x1 x2 s = some (r, t)) (hQ : ∀ (b2 : Nat → Nat) (S2 : h_S), c_ext b s b2 t → c_R E g b2 t S2 → c_F t → Q S2) : w_X3_init A_o0 x1 x2 S_s Q := by
  unfold fn_X3_init at h
  unfold w_X3_init
  obtain ⟨c_o0_1, h⟩ := fg_g_s h
  refine ⟨(cr_k hR f_o0).trans c_o0_1, ?_⟩
  obtain ⟨s2, e_s2, h⟩ := fg_let_s h
  intro S_s2
  have r_s2 : c_R E g b s2 S_s2 := by rw [e_s2]; exact cr_si hR f_o0 _ _
  have F_s2 : c_F s2 := by rw [e_s2]; exact cf_si hF _ _
  have x_s2 : c_ext b s b s2 := by rw [e_s2]; exact cx_si _ _
  clear_value S_s2
  obtain ⟨s3, e_s3, h⟩ := fg_let_s h
  intro S_s3
  have r_s3 : c_R E g b s3 S_s3 := by rw [e_s3]; exact cr_si r_s2 (cr_atx f_o0 x_s2) _ _
  have F_s3 : c_F s3 := by rw [e_s3]; exact cf_si F_s2 _ _
  have x_s3 : c_ext b s2 b s3 := by rw [e_s3]; exact cx_si _ _
  clear_value S_s3
  obtain ⟨s4, e_s4, h⟩ := fg_let_s h
  intro S_s4
  have r_s4 : c_R E g b s4 S_s4 := by rw [e_s4]; exact cr_si r_s3 (cr_atx (cr_atx f_o0 x_s2) x_s3) _ _
  have F_s4 : c_F s4 := by rw [e_s4]; exact cf_si F_s3 _ _
  have x_s4 : c_ext b s3 b s4 := by rw [e_s4]; exact cx_si _ _
  clear_value S_s4
  obtain ⟨s5, e_s5, h⟩ := fg_let_s h
  intro S_s5
  have r_s5 : c_R E g b s5 S_s5 := by rw [e_s5]; exact cr_si r_s4 (cr_atx (cr_atx (cr_atx f_o0 x_s2) x_s3) x_s4) _ _
  have F_s5 : c_F s5 := by rw [e_s5]; exact cf_si F_s4 _ _
  have x_s5 : c_ext b s4 b s5 := by rw [e_s5]; exact cx_si _ _
  clear_value S_s5
  obtain ⟨s6, e_s6, h⟩ := fg_let_s h
  intro S_s6
  have r_s6 : c_R E g b s6 S_s6 := by rw [e_s6]; exact cr_si r_s5 (cr_atx (cr_atx (cr_atx (cr_atx f_o0 x_s2) x_s3) x_s4) x_s5) _ _
  have F_s6 : c_F s6 := by rw [e_s6]; exact cf_si F_s5 _ _
  have x_s6 : c_ext b s5 b s6 := by rw [e_s6]; exact cx_si _ _
  clear_value S_s6
  obtain ⟨_, q⟩ := fg_ret h
  subst q
  exact hQ _ _ (cr_xt x_s2 (cr_xt x_s3 (cr_xt x_s4 (cr_xt x_s5 x_s6)))) r_s6 F_s6
set_option maxRecDepth 100000 in
set_option maxHeartbeats 4000000 in
theorem ft_X3_hangOn {E : h_S} {g : h_G} {r : Unit} {t : h_S} {Q : h_S → Prop} {b : Nat → Nat} {s S_s : h_S} {o0 : Nat} {A_o0 : Nat} {r1 : Option Nat} {R_r1 : Option Nat} {x2 : Int32} {x3 : Int32} (hR : c_R E g b s S_s) (hF : c_F s) (f_o0 : c_at b s o0 A_o0) (f_r1 : c_ao b s r1 R_r1) (h : fn_X3_hangOn o0 r1 x2 x3 s = some (r, t)) (hQ : ∀ (b2 : Nat → Nat) (S2 : h_S), c_ext b s b2 t → c_R E g b2 t S2 → c_F t → Q S2) : w_X3_hangOn A_o0 R_r1 x2 x3 S_s Q := by
  unfold fn_X3_hangOn at h
  unfold w_X3_hangOn
  obtain ⟨c_o0_1, h⟩ := fg_g_s h
  refine ⟨(cr_k hR f_o0).trans c_o0_1, ?_⟩
  obtain ⟨s2, e_s2, h⟩ := fg_let_s h
  intro S_s2
  have r_s2 : c_R E g b s2 S_s2 := by rw [e_s2]; exact cr_si hR f_o0 _ _
  have F_s2 : c_F s2 := by rw [e_s2]; exact cf_si hF _ _
  have x_s2 : c_ext b s b s2 := by rw [e_s2]; exact cx_si _ _
  clear_value S_s2
  obtain ⟨a3, o_a3, h⟩ := fg_o_s h
  obtain ⟨A_a3, w_a3, f_a3⟩ := cr_aos f_r1 o_a3
  refine ⟨A_a3, w_a3, ?_⟩
  obtain ⟨c_a3_2, h⟩ := fg_g_s h
  refine ⟨(cr_k r_s2 (cr_atx f_a3 x_s2)).trans c_a3_2, ?_⟩
  try simp -zeta -zetaUnused only [cr_i r_s2 (cr_atx f_a3 x_s2)]
  obtain ⟨s5, e_s5, h⟩ := fg_let_s h
  intro S_s5
  have r_s5 : c_R E g b s5 S_s5 := by rw [e_s5]; exact cr_si r_s2 (cr_atx f_o0 x_s2) _ _
  have F_s5 : c_F s5 := by rw [e_s5]; exact cf_si F_s2 _ _
  have x_s5 : c_ext b s2 b s5 := by rw [e_s5]; exact cx_si _ _
  clear_value S_s5
  obtain ⟨a6, o_a6, h⟩ := fg_o_s h
  obtain ⟨A_a6, w_a6, f_a6⟩ := cr_aos f_r1 o_a6
  refine ⟨A_a6, w_a6, ?_⟩
  obtain ⟨c_a6_3, h⟩ := fg_g_s h
  refine ⟨(cr_k r_s5 (cr_atx (cr_atx f_a6 x_s2) x_s5)).trans c_a6_3, ?_⟩
  try simp -zeta -zetaUnused only [cr_i r_s5 (cr_atx (cr_atx f_a6 x_s2) x_s5)]
  obtain ⟨s8, e_s8, h⟩ := fg_let_s h
  intro S_s8
  have r_s8 : c_R E g b s8 S_s8 := by rw [e_s8]; exact cr_si r_s5 (cr_atx (cr_atx f_o0 x_s2) x_s5) _ _
  have F_s8 : c_F s8 := by rw [e_s8]; exact cf_si F_s5 _ _
  have x_s8 : c_ext b s5 b s8 := by rw [e_s8]; exact cx_si _ _
  clear_value S_s8
  obtain ⟨a9, o_a9, h⟩ := fg_o_s h
  obtain ⟨A_a9, w_a9, f_a9⟩ := cr_aos f_r1 o_a9
  refine ⟨A_a9, w_a9, ?_⟩
  obtain ⟨c_a9_4, h⟩ := fg_g_s h
  refine ⟨(cr_k r_s8 (cr_atx (cr_atx (cr_atx f_a9 x_s2) x_s5) x_s8)).trans c_a9_4, ?_⟩
  try simp -zeta -zetaUnused only [cr_i r_s8 (cr_atx (cr_atx (cr_atx f_a9 x_s2) x_s5) x_s8)]
  obtain ⟨s11, e_s11, h⟩ := fg_let_s h
  intro S_s11
  have r_s11 : c_R E g b s11 S_s11 := by rw [e_s11]; exact cr_si r_s8 (cr_atx (cr_atx (cr_atx f_o0 x_s2) x_s5) x_s8) _ _
  have F_s11 : c_F s11 := by rw [e_s11]; exact cf_si F_s8 _ _
  have x_s11 : c_ext b s8 b s11 := by rw [e_s11]; exact cx_si _ _
  clear_value S_s11
  obtain ⟨s12, e_s12, h⟩ := fg_let_s h
  intro S_s12
  have r_s12 : c_R E g b s12 S_s12 := by rw [e_s12]; exact cr_si r_s11 (cr_atx (cr_atx (cr_atx (cr_atx f_o0 x_s2) x_s5) x_s8) x_s11) _ _
  have F_s12 : c_F s12 := by rw [e_s12]; exact cf_si F_s11 _ _
  have x_s12 : c_ext b s11 b s12 := by rw [e_s12]; exact cx_si _ _
  clear_value S_s12
  obtain ⟨_, q⟩ := fg_ret h
  subst q
  exact hQ _ _ (cr_xt x_s2 (cr_xt x_s5 (cr_xt x_s8 (cr_xt x_s11 x_s12)))) r_s12 F_s12
set_option maxRecDepth 100000 in
set_option maxHeartbeats 4000000 in
theorem ft_X3_isLent {E : h_S} {g : h_G} {r : Int32} {t : h_S} {Q : Int32 → h_S → Prop} {b : Nat → Nat} {s S_s : h_S} {o0 : Nat} {A_o0 : Nat} (hR : c_R E g b s S_s) (hF : c_F s) (f_o0 : c_at b s o0 A_o0) (h : fn_X3_isLent o0 s = some (r, t)) (hQ : ∀ (b2 : Nat → Nat) (S2 : h_S), c_ext b s b2 t → c_R E g b2 t S2 → c_F t → Q r S2) : w_X3_isLent A_o0 S_s Q := by
  unfold fn_X3_isLent at h
  unfold w_X3_isLent
  obtain ⟨c_o0_1, h⟩ := fg_g_s h
  refine ⟨(cr_k hR f_o0).trans c_o0_1, ?_⟩
  try simp -zeta -zetaUnused only [cr_i hR f_o0]
  refine fg_ite Iff.rfl (fun d => ?_) (fun d => ?_)
  · have h := fg_if_t d h
    unfold w_X3_isLent_14
    refine ⟨Or.inl rfl, ?_⟩
    obtain ⟨q, q2⟩ := fg_ret h
    subst q
    subst q2
    exact hQ _ _ cr_xr hR hF
  · have h := fg_if_e d h
    unfold w_X3_isLent_14
    refine ⟨Or.inr rfl, ?_⟩
    obtain ⟨q, q2⟩ := fg_ret h
    subst q
    subst q2
    exact hQ _ _ cr_xr hR hF
set_option maxRecDepth 100000 in
set_option maxHeartbeats 4000000 in
theorem ft_X3_isThere {E : h_S} {g : h_G} {r : Int32} {t : h_S} {Q : Int32 → h_S → Prop} {b : Nat → Nat} {s S_s : h_S} {o0 : Nat} {A_o0 : Nat} (hR : c_R E g b s S_s) (hF : c_F s) (f_o0 : c_at b s o0 A_o0) (h : fn_X3_isThere o0 s = some (r, t)) (hQ : ∀ (b2 : Nat → Nat) (S2 : h_S), c_ext b s b2 t → c_R E g b2 t S2 → c_F t → Q r S2) : w_X3_isThere A_o0 S_s Q := by
  unfold fn_X3_isThere at h
  unfold w_X3_isThere
  obtain ⟨c_o0_1, h⟩ := fg_g_s h
  refine ⟨(cr_k hR f_o0).trans c_o0_1, ?_⟩
  try simp -zeta -zetaUnused only [cr_i hR f_o0]
  refine fg_ite Iff.rfl (fun d => ?_) (fun d => ?_)
  · have h := fg_if_t d h
    unfold w_X3_isThere_14
    refine ⟨Or.inr rfl, ?_⟩
    obtain ⟨q, q2⟩ := fg_ret h
    subst q
    subst q2
    exact hQ _ _ cr_xr hR hF
  · have h := fg_if_e d h
    unfold w_X3_isThere_14
    refine ⟨Or.inl rfl, ?_⟩
    obtain ⟨q, q2⟩ := fg_ret h
    subst q
    subst q2
    exact hQ _ _ cr_xr hR hF
set_option maxRecDepth 100000 in
set_option maxHeartbeats 4000000 in
theorem ft_X3_holdsAt {E : h_S} {g : h_G} {r : Int32} {t : h_S} {Q : Int32 → h_S → Prop} {b : Nat → Nat} {s S_s : h_S} {o0 : Nat} {A_o0 : Nat} {x1 : Int32} (hR : c_R E g b s S_s) (hF : c_F s) (f_o0 : c_at b s o0 A_o0) (h : fn_X3_holdsAt o0 x1 s = some (r, t)) (hQ : ∀ (b2 : Nat → Nat) (S2 : h_S), c_ext b s b2 t → c_R E g b2 t S2 → c_F t → Q r S2) : w_X3_holdsAt A_o0 x1 S_s Q := by
  unfold fn_X3_holdsAt at h
  unfold w_X3_holdsAt
  obtain ⟨c_o0_1, h⟩ := fg_g_s h
  refine ⟨(cr_k hR f_o0).trans c_o0_1, ?_⟩
  try simp -zeta -zetaUnused only [cr_i hR f_o0]
  refine fg_ite Iff.rfl (fun d => ?_) (fun d => ?_)
  · have h := fg_if_t d h
    unfold w_X3_holdsAt_36
    unfold w_X3_holdsAt_37
    refine ⟨Or.inl rfl, ?_⟩
    obtain ⟨q, q2⟩ := fg_ret h
    subst q
    subst q2
    exact hQ _ _ cr_xr hR hF
  · have h := fg_if_e d h
    refine fg_ite Iff.rfl (fun d => ?_) (fun d => ?_)
    · have h := fg_if_t d h
      unfold w_X3_holdsAt_36
      unfold w_X3_holdsAt_37
      refine ⟨Or.inl rfl, ?_⟩
      obtain ⟨q, q2⟩ := fg_ret h
      subst q
      subst q2
      exact hQ _ _ cr_xr hR hF
    · have h := fg_if_e d h
      refine fg_ite Iff.rfl (fun d => ?_) (fun d => ?_)
      · have h := fg_if_t d h
        unfold w_X3_holdsAt_36
        unfold w_X3_holdsAt_37
        refine ⟨Or.inl rfl, ?_⟩
        obtain ⟨q, q2⟩ := fg_ret h
        subst q
        subst q2
        exact hQ _ _ cr_xr hR hF
      · have h := fg_if_e d h
        refine fg_ite Iff.rfl (fun d => ?_) (fun d => ?_)
        · have h := fg_if_t d h
          unfold w_X3_holdsAt_36
          unfold w_X3_holdsAt_37
          refine ⟨Or.inl rfl, ?_⟩
          obtain ⟨q, q2⟩ := fg_ret h
          subst q
          subst q2
          exact hQ _ _ cr_xr hR hF
        · have h := fg_if_e d h
          unfold w_X3_holdsAt_37
          refine ⟨Or.inr rfl, ?_⟩
          obtain ⟨q, q2⟩ := fg_ret h
          subst q
          subst q2
          exact hQ _ _ cr_xr hR hF
set_option maxRecDepth 100000 in
set_option maxHeartbeats 4000000 in
theorem ft_X5_cellAt {E : h_S} {g : h_G} {r : Int32} {t : h_S} {Q : Int32 → h_S → Prop} {b : Nat → Nat} {s S_s : h_S} {o0 : Nat} {A_o0 : Nat} {x1 : Int32} (hR : c_R E g b s S_s) (hF : c_F s) (f_o0 : c_at b s o0 A_o0) (h : fn_X5_cellAt o0 x1 s = some (r, t)) (hQ : ∀ (b2 : Nat → Nat) (S2 : h_S), c_ext b s b2 t → c_R E g b2 t S2 → c_F t → Q r S2) : w_X5_cellAt A_o0 x1 S_s Q := by
  unfold fn_X5_cellAt at h
  unfold w_X5_cellAt
  obtain ⟨p2, s1, e_s1, h⟩ := fg_b_s h
  refine ft_X11_within hR hF e_s1 (fun b_s1 S_s1 x_s1 r_s1 F_s1 => ?_)
  refine fg_ite Iff.rfl (fun d => ?_) (fun d => ?_)
  · have h := fg_if_t d h
    unfold w_X5_cellAt_19
    obtain ⟨q, q2⟩ := fg_ret h
    subst q
    subst q2
    exact hQ _ _ x_s1 r_s1 F_s1
  · have h := fg_if_e d h
    obtain ⟨c_o0_1, h⟩ := fg_g_s h
    refine ⟨(cr_k r_s1 (cr_atx f_o0 x_s1)).trans c_o0_1, ?_⟩
    obtain ⟨a5, o_a5, h⟩ := fg_o_s h
    obtain ⟨A_a5, w_a5, f_a5⟩ := cr_aos (cr_r r_s1 (cr_atx f_o0 x_s1) _) o_a5
    refine ⟨A_a5, w_a5, ?_⟩
    obtain ⟨c_a5_2, h⟩ := fg_g_s h
    refine ⟨(cr_k r_s1 f_a5).trans c_a5_2, ?_⟩
    obtain ⟨c, h⟩ := fg_g_s h
    refine ⟨cr_vp (cr_n r_s1 f_a5) rfl c, ?_⟩
    unfold w_X5_cellAt_19
    try simp -zeta -zetaUnused only [cr_i r_s1 f_a5]
    obtain ⟨q, q2⟩ := fg_ret h
    subst q
    subst q2
    exact hQ _ _ x_s1 r_s1 F_s1
set_option maxRecDepth 100000 in
set_option maxHeartbeats 4000000 in
theorem ft_X3_goesOnUses_51 {E : h_S} {g : h_G} {r : Int32} {t : h_S} {Q : Int32 → h_S → Prop} {b : Nat → Nat} {s S_s : h_S} {o0 : Nat} {A_o0 : Nat} {y0 : Int32} (hR : c_R E g b s S_s) (hF : c_F s) (f_o0 : c_at b s o0 A_o0) (h : fn_X3_goesOnUses_51 o0 y0 s = some (r, t)) (hQ : ∀ (b2 : Nat → Nat) (S2 : h_S), c_ext b s b2 t → c_R E g b2 t S2 → c_F t → Q r S2) : w_X3_goesOnUses_51 Q A_o0 y0 S_s := by
  unfold fn_X3_goesOnUses_51 at h
  unfold w_X3_goesOnUses_51
  refine fg_ite Iff.rfl (fun d => ?_) (fun d => ?_)
  · have h := fg_if_t d h
    unfold w_X3_goesOnUses_65
    obtain ⟨q, q2⟩ := fg_ret h
    subst q
    subst q2
    exact hQ _ _ cr_xr hR hF
  · have h := fg_if_e d h
    obtain ⟨c_o0_1, h⟩ := fg_g_s h
    refine ⟨(cr_k hR f_o0).trans c_o0_1, ?_⟩
    try simp -zeta -zetaUnused only [cr_i hR f_o0]
    refine fg_ite Iff.rfl (fun d => ?_) (fun d => ?_)
    · have h := fg_if_t d h
      obtain ⟨s4, e_s4, h⟩ := fg_let_s h
      intro S_s4
      have r_s4 : c_R E g b s4 S_s4 := by rw [e_s4]; exact cr_si hR f_o0 _ _
      have F_s4 : c_F s4 := by rw [e_s4]; exact cf_si hF _ _
      have x_s4 : c_ext b s b s4 := by rw [e_s4]; exact cx_si _ _
      clear_value S_s4
      obtain ⟨q, q2⟩ := fg_ret h
      subst q
      subst q2
      exact hQ _ _ x_s4 r_s4 F_s4
    · have h := fg_if_e d h
      unfold w_X3_goesOnUses_65
      obtain ⟨q, q2⟩ := fg_ret h
      subst q
      subst q2
      exact hQ _ _ cr_xr hR hF
set_option maxRecDepth 100000 in
set_option maxHeartbeats 4000000 in
theorem ft_X3_goesOnUses_20 {E : h_S} {g : h_G} {r : Int32} {t : h_S} {Q : Int32 → h_S → Prop} {b : Nat → Nat} {s S_s : h_S} {o0 : Nat} {A_o0 : Nat} {x1 : Int32} (hR : c_R E g b s S_s) (hF : c_F s) (f_o0 : c_at b s o0 A_o0) (h : fn_X3_goesOnUses_20 o0 x1 s = some (r, t)) (hQ : ∀ (b2 : Nat → Nat) (S2 : h_S), c_ext b s b2 t → c_R E g b2 t S2 → c_F t → Q r S2) : w_X3_goesOnUses_20 Q A_o0 x1 S_s := by
  unfold fn_X3_goesOnUses_20 at h
  unfold w_X3_goesOnUses_20
  refine fg_ite Iff.rfl (fun d => ?_) (fun d => ?_)
  · have h := fg_if_t d h
    exact ft_X3_goesOnUses_51 hR hF f_o0 h (fun b2 S2 x2 => hQ b2 S2 (cr_xt cr_xr x2))
  · have h := fg_if_e d h
    refine fg_ite Iff.rfl (fun d => ?_) (fun d => ?_)
    · have h := fg_if_t d h
      exact ft_X3_goesOnUses_51 hR hF f_o0 h (fun b2 S2 x2 => hQ b2 S2 (cr_xt cr_xr x2))
    · have h := fg_if_e d h
      refine fg_ite Iff.rfl (fun d => ?_) (fun d => ?_)
      · have h := fg_if_t d h
        exact ft_X3_goesOnUses_51 hR hF f_o0 h (fun b2 S2 x2 => hQ b2 S2 (cr_xt cr_xr x2))
      · have h := fg_if_e d h
        exact ft_X3_goesOnUses_51 hR hF f_o0 h (fun b2 S2 x2 => hQ b2 S2 (cr_xt cr_xr x2))
set_option maxRecDepth 100000 in
set_option maxHeartbeats 4000000 in
theorem ft_X3_goesOnUses {E : h_S} {g : h_G} {r : Int32} {t : h_S} {Q : Int32 → h_S → Prop} {b : Nat → Nat} {s S_s : h_S} {o0 : Nat} {A_o0 : Nat} {x1 : Int32} (hR : c_R E g b s S_s) (hF : c_F s) (f_o0 : c_at b s o0 A_o0) (h : fn_X3_goesOnUses o0 x1 s = some (r, t)) (hQ : ∀ (b2 : Nat → Nat) (S2 : h_S), c_ext b s b2 t → c_R E g b2 t S2 → c_F t → Q r S2) : w_X3_goesOnUses A_o0 x1 S_s Q := by
  unfold fn_X3_goesOnUses at h
  unfold w_X3_goesOnUses
  refine fg_ite Iff.rfl (fun d => ?_) (fun d => ?_)
  · have h := fg_if_t d h
    obtain ⟨c_o0_1, h⟩ := fg_g_s h
    refine ⟨(cr_k hR f_o0).trans c_o0_1, ?_⟩
    try simp -zeta -zetaUnused only [cr_i hR f_o0]
    refine fg_ite Iff.rfl (fun d => ?_) (fun d => ?_)
    · have h := fg_if_t d h
      exact ft_X3_goesOnUses_20 hR hF f_o0 h (fun b2 S2 x2 => hQ b2 S2 (cr_xt cr_xr x2))
    · have h := fg_if_e d h
      obtain ⟨s4, e_s4, h⟩ := fg_let_s h
      intro S_s4
      have r_s4 : c_R E g b s4 S_s4 := by rw [e_s4]; exact cr_si hR f_o0 _ _
      have F_s4 : c_F s4 := by rw [e_s4]; exact cf_si hF _ _
      have x_s4 : c_ext b s b s4 := by rw [e_s4]; exact cx_si _ _
      clear_value S_s4
      obtain ⟨q, q2⟩ := fg_ret h
      subst q
      subst q2
      exact hQ _ _ x_s4 r_s4 F_s4
  · have h := fg_if_e d h
    exact ft_X3_goesOnUses_20 hR hF f_o0 h (fun b2 S2 x2 => hQ b2 S2 (cr_xt cr_xr x2))
set_option maxRecDepth 100000 in
set_option maxHeartbeats 4000000 in
theorem ft_X3_goesOnNumber_33 {E : h_S} {g : h_G} {r : Int32} {t : h_S} {Q : Int32 → h_S → Prop} {b : Nat → Nat} {s S_s : h_S} {o0 : Nat} {A_o0 : Nat} {x1 : Int32} (hR : c_R E g b s S_s) (hF : c_F s) (f_o0 : c_at b s o0 A_o0) (h : fn_X3_goesOnNumber_33 o0 x1 s = some (r, t)) (hQ : ∀ (b2 : Nat → Nat) (S2 : h_S), c_ext b s b2 t → c_R E g b2 t S2 → c_F t → Q r S2) : w_X3_goesOnNumber_33 Q A_o0 x1 S_s := by
  unfold fn_X3_goesOnNumber_33 at h
  unfold w_X3_goesOnNumber_33
  obtain ⟨p2, s1, e_s1, h⟩ := fg_b_s h
  refine ft_X11_within hR hF e_s1 (fun b_s1 S_s1 x_s1 r_s1 F_s1 => ?_)
  refine fg_ite Iff.rfl (fun d => ?_) (fun d => ?_)
  · have h := fg_if_t d h
    unfold w_X3_goesOnNumber_53
    obtain ⟨q, q2⟩ := fg_ret h
    subst q
    subst q2
    exact hQ _ _ x_s1 r_s1 F_s1
  · have h := fg_if_e d h
    obtain ⟨c_o0_1, h⟩ := fg_g_s h
    refine ⟨(cr_k r_s1 (cr_atx f_o0 x_s1)).trans c_o0_1, ?_⟩
    try simp -zeta -zetaUnused only [cr_i r_s1 (cr_atx f_o0 x_s1)]
    refine fg_ite Iff.rfl (fun d => ?_) (fun d => ?_)
    · have h := fg_if_t d h
      obtain ⟨s6, e_s6, h⟩ := fg_let_s h
      intro S_s6
      have r_s6 : c_R E g b_s1 s6 S_s6 := by rw [e_s6]; exact cr_si r_s1 (cr_atx f_o0 x_s1) _ _
      have F_s6 : c_F s6 := by rw [e_s6]; exact cf_si F_s1 _ _
      have x_s6 : c_ext b_s1 s1 b_s1 s6 := by rw [e_s6]; exact cx_si _ _
      clear_value S_s6
      try simp -zeta -zetaUnused only [cr_i r_s6 (cr_atx (cr_atx f_o0 x_s1) x_s6)]
      refine fg_ite Iff.rfl (fun d => ?_) (fun d => ?_)
      · have h := fg_if_t d h
        obtain ⟨s9, e_s9, h⟩ := fg_let_s h
        intro S_s9
        have r_s9 : c_R E g b_s1 s9 S_s9 := by rw [e_s9]; exact cr_si r_s6 (cr_atx (cr_atx f_o0 x_s1) x_s6) _ _
        have F_s9 : c_F s9 := by rw [e_s9]; exact cf_si F_s6 _ _
        have x_s9 : c_ext b_s1 s6 b_s1 s9 := by rw [e_s9]; exact cx_si _ _
        clear_value S_s9
        unfold w_X3_goesOnNumber_108
        obtain ⟨q, q2⟩ := fg_ret h
        subst q
        subst q2
        exact hQ _ _ (cr_xt x_s1 (cr_xt x_s6 x_s9)) r_s9 F_s9
      · have h := fg_if_e d h
        obtain ⟨s8, e_s8, h⟩ := fg_let_s h
        intro S_s8
        have r_s8 : c_R E g b_s1 s8 S_s8 := by rw [e_s8]; exact cr_si r_s6 (cr_atx (cr_atx f_o0 x_s1) x_s6) _ _
        have F_s8 : c_F s8 := by rw [e_s8]; exact cf_si F_s6 _ _
        have x_s8 : c_ext b_s1 s6 b_s1 s8 := by rw [e_s8]; exact cx_si _ _
        clear_value S_s8
        unfold w_X3_goesOnNumber_108
        obtain ⟨q, q2⟩ := fg_ret h
        subst q
        subst q2
        exact hQ _ _ (cr_xt x_s1 (cr_xt x_s6 x_s8)) r_s8 F_s8
    · have h := fg_if_e d h
      unfold w_X3_goesOnNumber_53
      obtain ⟨q, q2⟩ := fg_ret h
      subst q
      subst q2
      exact hQ _ _ x_s1 r_s1 F_s1
set_option maxRecDepth 100000 in
set_option maxHeartbeats 4000000 in
theorem ft_X3_goesOnNumber {E : h_S} {g : h_G} {r : Int32} {t : h_S} {Q : Int32 → h_S → Prop} {b : Nat → Nat} {s S_s : h_S} {o0 : Nat} {A_o0 : Nat} {x1 : Int32} (hR : c_R E g b s S_s) (hF : c_F s) (f_o0 : c_at b s o0 A_o0) (h : fn_X3_goesOnNumber o0 x1 s = some (r, t)) (hQ : ∀ (b2 : Nat → Nat) (S2 : h_S), c_ext b s b2 t → c_R E g b2 t S2 → c_F t → Q r S2) : w_X3_goesOnNumber A_o0 x1 S_s Q := by
  unfold fn_X3_goesOnNumber at h
  unfold w_X3_goesOnNumber
  refine fg_ite Iff.rfl (fun d => ?_) (fun d => ?_)
  · have h := fg_if_t d h
    obtain ⟨c_o0_1, h⟩ := fg_g_s h
    refine ⟨(cr_k hR f_o0).trans c_o0_1, ?_⟩
    try simp -zeta -zetaUnused only [cr_i hR f_o0]
    refine fg_ite Iff.rfl (fun d => ?_) (fun d => ?_)
    · have h := fg_if_t d h
      refine fg_ite Iff.rfl (fun d => ?_) (fun d => ?_)
      · have h := fg_if_t d h
        exact ft_X3_goesOnNumber_33 hR hF f_o0 h (fun b2 S2 x2 => hQ b2 S2 (cr_xt cr_xr x2))
      · have h := fg_if_e d h
        obtain ⟨s5, e_s5, h⟩ := fg_let_s h
        intro S_s5
        have r_s5 : c_R E g b s5 S_s5 := by rw [e_s5]; exact cr_si hR f_o0 _ _
        have F_s5 : c_F s5 := by rw [e_s5]; exact cf_si hF _ _
        have x_s5 : c_ext b s b s5 := by rw [e_s5]; exact cx_si _ _
        clear_value S_s5
        obtain ⟨s6, e_s6, h⟩ := fg_let_s h
        intro S_s6
        have r_s6 : c_R E g b s6 S_s6 := by rw [e_s6]; exact cr_si r_s5 (cr_atx f_o0 x_s5) _ _
        have F_s6 : c_F s6 := by rw [e_s6]; exact cf_si F_s5 _ _
        have x_s6 : c_ext b s5 b s6 := by rw [e_s6]; exact cx_si _ _
        clear_value S_s6
        obtain ⟨q, q2⟩ := fg_ret h
        subst q
        subst q2
        exact hQ _ _ (cr_xt x_s5 x_s6) r_s6 F_s6
    · have h := fg_if_e d h
      exact ft_X3_goesOnNumber_33 hR hF f_o0 h (fun b2 S2 x2 => hQ b2 S2 (cr_xt cr_xr x2))
  · have h := fg_if_e d h
    exact ft_X3_goesOnNumber_33 hR hF f_o0 h (fun b2 S2 x2 => hQ b2 S2 (cr_xt cr_xr x2))
set_option maxRecDepth 100000 in
set_option maxHeartbeats 4000000 in
theorem ft_X3_goesOn {E : h_S} {g : h_G} {r : Int32} {t : h_S} {Q : Int32 → h_S → Prop} {b : Nat → Nat} {s S_s : h_S} {o0 : Nat} {A_o0 : Nat} {x1 : Int32} (hR : c_R E g b s S_s) (hF : c_F s) (f_o0 : c_at b s o0 A_o0) (h : fn_X3_goesOn o0 x1 s = some (r, t)) (hQ : ∀ (b2 : Nat → Nat) (S2 : h_S), c_ext b s b2 t → c_R E g b2 t S2 → c_F t → Q r S2) : w_X3_goesOn A_o0 x1 S_s Q := by
  unfold fn_X3_goesOn at h
  unfold w_X3_goesOn
  obtain ⟨c_o0_1, h⟩ := fg_g_s h
  refine ⟨(cr_k hR f_o0).trans c_o0_1, ?_⟩
  try simp -zeta -zetaUnused only [cr_i hR f_o0]
  refine fg_ite Iff.rfl (fun d => ?_) (fun d => ?_)
  · have h := fg_if_t d h
    obtain ⟨s3, e_s3, h⟩ := fg_let_s h
    intro S_s3
    have r_s3 : c_R E g b s3 S_s3 := by rw [e_s3]; exact cr_si hR f_o0 _ _
    have F_s3 : c_F s3 := by rw [e_s3]; exact cf_si hF _ _
    have x_s3 : c_ext b s b s3 := by rw [e_s3]; exact cx_si _ _
    clear_value S_s3
    obtain ⟨s4, e_s4, h⟩ := fg_let_s h
    intro S_s4
    have r_s4 : c_R E g b s4 S_s4 := by rw [e_s4]; exact cr_si r_s3 (cr_atx f_o0 x_s3) _ _
    have F_s4 : c_F s4 := by rw [e_s4]; exact cf_si F_s3 _ _
    have x_s4 : c_ext b s3 b s4 := by rw [e_s4]; exact cx_si _ _
    clear_value S_s4
    try simp -zeta -zetaUnused only [cr_i r_s4 (cr_atx (cr_atx f_o0 x_s3) x_s4)]
    obtain ⟨p6, s5, e_s5, h⟩ := fg_b_s h
    refine ft_X11_within r_s4 F_s4 e_s5 (fun b_s5 S_s5 x_s5 r_s5 F_s5 => ?_)
    obtain ⟨c, h⟩ := fg_g_s h
    refine ⟨c, ?_⟩
    obtain ⟨q, q2⟩ := fg_ret h
    subst q
    subst q2
    exact hQ _ _ (cr_xt x_s3 (cr_xt x_s4 x_s5)) r_s5 F_s5
  · have h := fg_if_e d h
    refine fg_ite Iff.rfl (fun d => ?_) (fun d => ?_)
    · have h := fg_if_t d h
      obtain ⟨s8, e_s8, h⟩ := fg_let_s h
      intro S_s8
      have r_s8 : c_R E g b s8 S_s8 := by rw [e_s8]; exact cr_si hR f_o0 _ _
      have F_s8 : c_F s8 := by rw [e_s8]; exact cf_si hF _ _
      have x_s8 : c_ext b s b s8 := by rw [e_s8]; exact cx_si _ _
      clear_value S_s8
      refine fg_ite Iff.rfl (fun d => ?_) (fun d => ?_)
      · have h := fg_if_t d h
        unfold w_X3_goesOn_70
        refine ⟨Or.inr rfl, ?_⟩
        obtain ⟨q, q2⟩ := fg_ret h
        subst q
        subst q2
        exact hQ _ _ x_s8 r_s8 F_s8
      · have h := fg_if_e d h
        unfold w_X3_goesOn_70
        refine ⟨Or.inl rfl, ?_⟩
        obtain ⟨q, q2⟩ := fg_ret h
        subst q
        subst q2
        exact hQ _ _ x_s8 r_s8 F_s8
    · have h := fg_if_e d h
      refine fg_ite Iff.rfl (fun d => ?_) (fun d => ?_)
      · have h := fg_if_t d h
        obtain ⟨p12, s11, e_s11, h⟩ := fg_b_s h
        refine ft_X3_goesOnUses hR hF f_o0 e_s11 (fun b_s11 S_s11 x_s11 r_s11 F_s11 => ?_)
        obtain ⟨c, h⟩ := fg_g_s h
        refine ⟨c, ?_⟩
        obtain ⟨q, q2⟩ := fg_ret h
        subst q
        subst q2
        exact hQ _ _ x_s11 r_s11 F_s11
      · have h := fg_if_e d h
        obtain ⟨p14, s13, e_s13, h⟩ := fg_b_s h
        refine ft_X3_goesOnNumber hR hF f_o0 e_s13 (fun b_s13 S_s13 x_s13 r_s13 F_s13 => ?_)
        obtain ⟨c, h⟩ := fg_g_s h
        refine ⟨c, ?_⟩
        obtain ⟨q, q2⟩ := fg_ret h
        subst q
        subst q2
        exact hQ _ _ x_s13 r_s13 F_s13
set_option maxRecDepth 100000 in
set_option maxHeartbeats 4000000 in
theorem ft_X3_readText_3b {E : h_S} {g : h_G} {r : Int32} {t : h_S} {Q : Int32 → h_S → Prop} {K3 : Nat → Option Nat → Int32 → Int32 → Int32 → h_S → Option ((Int32) × h_S)} {WK3 : Nat → Option Nat → Int32 → Int32 → Int32 → h_S → Prop} (hK3 : ∀ {b : Nat → Nat} {s S_s : h_S} {o0 : Nat} {A_o0 : Nat} {r1 : Option Nat} {R_r1 : Option Nat} {x2 : Int32} {x3 : Int32} {x4 : Int32}, c_R E g b s S_s → c_F s → c_at b s o0 A_o0 → c_ao b s r1 R_r1 → K3 o0 r1 x2 x3 x4 s = some (r, t) → (∀ (b2 : Nat → Nat) (S2 : h_S), c_ext b s b2 t → c_R E g b2 t S2 → c_F t → Q r S2) → WK3 A_o0 R_r1 x2 x3 x4 S_s) {b : Nat → Nat} {s S_s : h_S} {o0 : Nat} {A_o0 : Nat} {r1 : Option Nat} {R_r1 : Option Nat} {x2 : Int32} {x3 : Int32} {x4 : Int32} (hR : c_R E g b s S_s) (hF : c_F s) (f_o0 : c_at b s o0 A_o0) (f_r1 : c_ao b s r1 R_r1) (h : fn_X3_readText_3b K3 o0 r1 x2 x3 x4 s = some (r, t)) (hQ : ∀ (b2 : Nat → Nat) (S2 : h_S), c_ext b s b2 t → c_R E g b2 t S2 → c_F t → Q r S2) : w_X3_readText_3b Q WK3 A_o0 R_r1 x2 x3 x4 S_s := by
  unfold fn_X3_readText_3b at h
  unfold w_X3_readText_3b
  refine fg_ite Iff.rfl (fun d => ?_) (fun d => ?_)
  · have h := fg_if_t d h
    obtain ⟨c_o0_1, h⟩ := fg_g_s h
    refine ⟨(cr_k hR f_o0).trans c_o0_1, ?_⟩
    try simp -zeta -zetaUnused only [cr_i hR f_o0]
    refine fg_ite Iff.rfl (fun d => ?_) (fun d => ?_)
    · have h := fg_if_t d h
      refine fg_ite Iff.rfl (fun d => ?_) (fun d => ?_)
      · have h := fg_if_t d h
        unfold w_X3_readText_53
        unfold w_X3_readText_54
        obtain ⟨q, q2⟩ := fg_ret h
        subst q
        subst q2
        exact hQ _ _ cr_xr hR hF
      · have h := fg_if_e d h
        unfold w_X3_readText_54
        obtain ⟨q, q2⟩ := fg_ret h
        subst q
        subst q2
        exact hQ _ _ cr_xr hR hF
    · have h := fg_if_e d h
      unfold w_X3_readText_53
      unfold w_X3_readText_54
      obtain ⟨q, q2⟩ := fg_ret h
      subst q
      subst q2
      exact hQ _ _ cr_xr hR hF
  · have h := fg_if_e d h
    obtain ⟨a5, o_a5, h⟩ := fg_o_s h
    obtain ⟨A_a5, w_a5, f_a5⟩ := cr_aos f_r1 o_a5
    refine ⟨A_a5, w_a5, ?_⟩
    obtain ⟨c_a5_1, h⟩ := fg_g_s h
    refine ⟨(cr_k hR f_a5).trans c_a5_1, ?_⟩
    obtain ⟨p8, s7, e_s7, h⟩ := fg_b_s h
    refine ft_X5_cellAt hR hF f_a5 e_s7 (fun b_s7 S_s7 x_s7 r_s7 F_s7 => ?_)
    obtain ⟨c_o0_2, h⟩ := fg_g_s h
    refine ⟨(cr_k r_s7 (cr_atx f_o0 x_s7)).trans c_o0_2, ?_⟩
    obtain ⟨p11, s10, e_s10, h⟩ := fg_b_s h
    refine ft_X3_goesOn r_s7 F_s7 (cr_atx f_o0 x_s7) e_s10 (fun b_s10 S_s10 x_s10 r_s10 F_s10 => ?_)
    refine fg_ite Iff.rfl (fun d => ?_) (fun d => ?_)
    · have h := fg_if_t d h
      obtain ⟨q, q2⟩ := fg_ret h
      subst q
      subst q2
      exact hQ _ _ (cr_xt x_s7 x_s10) r_s10 F_s10
    · have h := fg_if_e d h
      exact hK3 r_s10 F_s10 (cr_atx (cr_atx f_o0 x_s7) x_s10) (cr_aox (cr_aox f_r1 x_s7) x_s10) h (fun b2 S2 x2 => hQ b2 S2 (cr_xt (cr_xt x_s7 x_s10) x2))
set_option maxRecDepth 100000 in
set_option maxHeartbeats 4000000 in
theorem ft_X3_readText_3 {E : h_S} {g : h_G} {r : Int32} {t : h_S} {Q : Int32 → h_S → Prop} : ∀ (n : Nat) {b : Nat → Nat} {s S_s : h_S} {o0 : Nat} {A_o0 : Nat} {r1 : Option Nat} {R_r1 : Option Nat} {x2 : Int32} {x3 : Int32} {x4 : Int32}, c_R E g b s S_s → c_F s → c_at b s o0 A_o0 → c_ao b s r1 R_r1 → fn_X3_readText_3 n o0 r1 x2 x3 x4 s = some (r, t) → (∀ (b2 : Nat → Nat) (S2 : h_S), c_ext b s b2 t → c_R E g b2 t S2 → c_F t → Q r S2) → w_X3_readText_3 Q n A_o0 R_r1 x2 x3 x4 S_s := by
  intro n
  induction n with
  | zero => intros; rename_i h _; exact fg_none h
  | succ n ih => exact ft_X3_readText_3b @ih
