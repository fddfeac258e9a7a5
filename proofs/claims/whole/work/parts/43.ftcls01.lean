set_option maxRecDepth 100000 in
set_option maxHeartbeats 4000000 in
theorem ft_X3_readText {E : h_S} {g : h_G} {r : Int32} {t : h_S} {Q : Int32 → h_S → Prop} {b : Nat → Nat} {s S_s : h_S} {o0 : Nat} {A_o0 : Nat} {r1 : Option Nat} {R_r1 : Option Nat} {x2 : Int32} {x3 : Int32} (hR : c_R E g b s S_s) (hF : c_F s) (f_o0 : c_at b s o0 A_o0) (f_r1 : c_ao b s r1 R_r1) (h : fn_X3_readText o0 r1 x2 x3 s = some (r, t)) (hQ : ∀ (b2 : Nat → Nat) (S2 : h_S), c_ext b s b2 t → c_R E g b2 t S2 → c_F t → Q r S2) : w_X3_readText A_o0 R_r1 x2 x3 S_s Q := by
  unfold fn_X3_readText at h
  unfold w_X3_readText
  exact ⟨g_N, ft_X3_readText_3 g_N hR hF f_o0 f_r1 h (fun b2 S2 x2 => hQ b2 S2 (cr_xt cr_xr x2))⟩
set_option maxRecDepth 100000 in
set_option maxHeartbeats 4000000 in
theorem ft_X4_init {E : h_S} {g : h_G} {r : Unit} {t : h_S} {Q : h_S → Prop} {b : Nat → Nat} {s S_s : h_S} {o0 : Nat} {A_o0 : Nat} {x1 : Int32} {r2 : Option Nat} {R_r2 : Option Nat} {r3 : Option Nat} {R_r3 : Option Nat} (hR : c_R E g b s S_s) (hF : c_F s) (f_o0 : c_at b s o0 A_o0) (f_r2 : c_ao b s r2 R_r2) (f_r3 : c_ao b s r3 R_r3) (h : fn_X4_init o0 x1 r2 r3 s = some (r, t)) (hQ : ∀ (b2 : Nat → Nat) (S2 : h_S), c_ext b s b2 t → c_R E g b2 t S2 → c_F t → Q S2) : w_X4_init A_o0 x1 R_r2 R_r3 S_s Q := by
  unfold fn_X4_init at h
  unfold w_X4_init
  obtain ⟨c_o0_1, h⟩ := fg_g_s h
  refine ⟨(cr_k hR f_o0).trans c_o0_1, ?_⟩
  obtain ⟨s2, e_s2, h⟩ := fg_let_s h
  intro S_s2
  have r_s2 : c_R E g b s2 S_s2 := by rw [e_s2]; exact cr_si hR f_o0 _ _
  have F_s2 : c_F s2 := by rw [e_s2]; exact cf_si hF _ _
  have x_s2 : c_ext b s b s2 := by rw [e_s2]; exact cx_si _ _
  clear_value S_s2
  obtain ⟨s3, e_s3, h⟩ := fg_let_s h
  intro S_s3
  have r_s3 : c_R E g b s3 S_s3 := by rw [e_s3]; exact cr_sr r_s2 (cr_atx f_o0 x_s2) _ (cr_aox f_r2 x_s2)
  have F_s3 : c_F s3 := by rw [e_s3]; exact cf_sr F_s2 (cr_kx c_o0_1 f_o0 x_s2) (by decide) _
  have x_s3 : c_ext b s2 b s3 := by rw [e_s3]; exact cx_sr _
  clear_value S_s3
  obtain ⟨s4, e_s4, h⟩ := fg_let_s h
  intro S_s4
  have r_s4 : c_R E g b s4 S_s4 := by rw [e_s4]; exact cr_sr r_s3 (cr_atx (cr_atx f_o0 x_s2) x_s3) _ (cr_aox (cr_aox f_r3 x_s2) x_s3)
  have F_s4 : c_F s4 := by rw [e_s4]; exact cf_sr F_s3 (cr_kx (cr_kx c_o0_1 f_o0 x_s2) (cr_atx f_o0 x_s2) x_s3) (by decide) _
  have x_s4 : c_ext b s3 b s4 := by rw [e_s4]; exact cx_sr _
  clear_value S_s4
  obtain ⟨_, q⟩ := fg_ret h
  subst q
  exact hQ _ _ (cr_xt x_s2 (cr_xt x_s3 x_s4)) r_s4 F_s4
set_option maxRecDepth 100000 in
set_option maxHeartbeats 4000000 in
theorem ft_X5_init {E : h_S} {g : h_G} {r : Unit} {t : h_S} {Q : h_S → Prop} {b : Nat → Nat} {s S_s : h_S} {C0 D0 mc ms : Nat} {o0 : Nat} {A_o0 : Nat} (hR : c_R E g b s S_s) (f_o0 : c_at b s o0 A_o0) (h : fn_X5_init o0 s = some (r, t, C0, D0)) (hQ : ∀ (b2 : Nat → Nat) (S2 : h_S), c_ext b s b2 t → c_R E g b2 t S2 → Q S2) (hc : C0 ≤ mc) (hd : D0 ≤ ms) : w_X5_init A_o0 S_s mc ms Q := by
  unfold fn_X5_init at h
  unfold w_X5_init
  obtain ⟨c_o0_1, h⟩ := fg_g_s h
  refine ⟨(cr_k hR f_o0).trans c_o0_1, ?_⟩
  obtain ⟨s2, e_s2, h⟩ := fg_let_s h
  intro S_s2
  have r_s2 : c_R E g b s2 S_s2 := by rw [e_s2]; exact cr_si hR f_o0 _ _
  have x_s2 : c_ext b s b s2 := by rw [e_s2]; exact cx_si _ _
  clear_value S_s2
  obtain ⟨q3, e_q3, h⟩ := fg_let_s h
  obtain ⟨z_q3, h⟩ := fg_g_s h
  obtain ⟨C_q3, D_q3, h, q_q3, w_q3⟩ := fg_c_s h
  obtain ⟨u1_q3, hc⟩ := fg_sp q_q3 hc
  obtain ⟨u2_q3, hd⟩ := fg_sp w_q3 hd
  refine ⟨u1_q3, u2_q3, fun A_q3 Z_q3 => ?_⟩
  obtain ⟨s7, e_s7, h⟩ := fg_let_s h
  intro S_s7
  have r_s7 : c_R E g (c_up b q3 A_q3) s7 S_s7 := by rw [e_s7]; exact cr_nw r_s2 z_q3 Z_q3 (by decide)
  have x_s7 : c_ext b s2 (c_up b q3 A_q3) s7 := by rw [e_s7]; exact cx_new z_q3
  have f_q3 : c_at (c_up b q3 A_q3) s7 q3 A_q3 := by rw [e_s7]; exact ca_nw (by decide)
  clear_value S_s7
  intro c8
  have hc : _ ≤ c8 := hc
  clear_value c8
  intro d9
  have hd : _ ≤ d9 := hd
  clear_value d9
  refine ⟨(cr_k r_s7 (cr_atx (cr_atx f_o0 x_s2) x_s7)).trans (cr_kx (cr_kx c_o0_1 f_o0 x_s2) (cr_atx f_o0 x_s2) x_s7), ?_⟩
  obtain ⟨s11, e_s11, h⟩ := fg_let_s h
  intro S_s11
  have r_s11 : c_R E g (c_up b q3 A_q3) s11 S_s11 := by rw [e_s11]; exact cr_sr r_s7 (cr_atx (cr_atx f_o0 x_s2) x_s7) _ (cr_some f_q3)
  have x_s11 : c_ext (c_up b q3 A_q3) s7 (c_up b q3 A_q3) s11 := by rw [e_s11]; exact cx_sr _
  clear_value S_s11
  obtain ⟨_, q⟩ := fg_retc h
  subst q
  exact hQ _ _ (cr_xt x_s2 (cr_xt x_s7 x_s11)) r_s11
set_option maxRecDepth 100000 in
set_option maxHeartbeats 4000000 in
theorem ft_X5_isNothing {E : h_S} {g : h_G} {r : Int32} {t : h_S} {Q : Int32 → h_S → Prop} {b : Nat → Nat} {s S_s : h_S} {o0 : Nat} {A_o0 : Nat} (hR : c_R E g b s S_s) (hF : c_F s) (f_o0 : c_at b s o0 A_o0) (h : fn_X5_isNothing o0 s = some (r, t)) (hQ : ∀ (b2 : Nat → Nat) (S2 : h_S), c_ext b s b2 t → c_R E g b2 t S2 → c_F t → Q r S2) : w_X5_isNothing A_o0 S_s Q := by
  unfold fn_X5_isNothing at h
  unfold w_X5_isNothing
  obtain ⟨c_o0_1, h⟩ := fg_g_s h
  refine ⟨(cr_k hR f_o0).trans c_o0_1, ?_⟩
  try simp -zeta -zetaUnused only [cr_i hR f_o0]
  refine fg_ite Iff.rfl (fun d => ?_) (fun d => ?_)
  · have h := fg_if_t d h
    unfold w_X5_isNothing_13
    refine ⟨Or.inr rfl, ?_⟩
    obtain ⟨q, q2⟩ := fg_ret h
    subst q
    subst q2
    exact hQ _ _ cr_xr hR hF
  · have h := fg_if_e d h
    unfold w_X5_isNothing_13
    refine ⟨Or.inl rfl, ?_⟩
    obtain ⟨q, q2⟩ := fg_ret h
    subst q
    subst q2
    exact hQ _ _ cr_xr hR hF
set_option maxRecDepth 100000 in
set_option maxHeartbeats 4000000 in
theorem ft_J7_fill_53178_5b {E : h_S} {g : h_G} {r : Unit} {t : h_S} {Q : h_S → Prop} {K5 : Option Nat → Int32 → Int32 → Int32 → h_S → Option ((Unit) × h_S)} {WK5 : Option Nat → Int32 → Int32 → Int32 → h_S → Prop} (hK5 : ∀ {b : Nat → Nat} {s S_s : h_S} {r0 : Option Nat} {R_r0 : Option Nat} {x1 : Int32} {x2 : Int32} {x3 : Int32}, c_R E g b s S_s → c_F s → c_ao b s r0 R_r0 → K5 r0 x1 x2 x3 s = some (r, t) → (∀ (b2 : Nat → Nat) (S2 : h_S), c_ext b s b2 t → c_R E g b2 t S2 → c_F t → Q S2) → WK5 R_r0 x1 x2 x3 S_s) {b : Nat → Nat} {s S_s : h_S} {r0 : Option Nat} {R_r0 : Option Nat} {x1 : Int32} {x2 : Int32} {x3 : Int32} (hR : c_R E g b s S_s) (hF : c_F s) (f_r0 : c_ao b s r0 R_r0) (h : fn_J7_fill_53178_5b K5 r0 x1 x2 x3 s = some (r, t)) (hQ : ∀ (b2 : Nat → Nat) (S2 : h_S), c_ext b s b2 t → c_R E g b2 t S2 → c_F t → Q S2) : w_J7_fill_53178_5b Q WK5 R_r0 x1 x2 x3 S_s := by
  unfold fn_J7_fill_53178_5b at h
  unfold w_J7_fill_53178_5b
  refine fg_ite Iff.rfl (fun d => ?_) (fun d => ?_)
  · have h := fg_if_t d h
    obtain ⟨_, q⟩ := fg_ret h
    subst q
    exact hQ _ _ cr_xr hR hF
  · have h := fg_if_e d h
    obtain ⟨a2, o_a2, h⟩ := fg_o_s h
    obtain ⟨A_a2, w_a2, f_a2⟩ := cr_aos f_r0 o_a2
    refine ⟨A_a2, w_a2, ?_⟩
    obtain ⟨c_a2_1, h⟩ := fg_g_s h
    refine ⟨(cr_k hR f_a2).trans c_a2_1, ?_⟩
    obtain ⟨c, h⟩ := fg_g_s h
    refine ⟨cr_vp (cr_n hR f_a2) rfl c, ?_⟩
    obtain ⟨s5, e_s5, h⟩ := fg_let_s h
    intro S_s5
    have r_s5 : c_R E g b s5 S_s5 := by rw [e_s5]; exact cr_si hR f_a2 _ _
    have F_s5 : c_F s5 := by rw [e_s5]; exact cf_si hF _ _
    have x_s5 : c_ext b s b s5 := by rw [e_s5]; exact cx_si _ _
    clear_value S_s5
    exact hK5 r_s5 F_s5 (cr_aox f_r0 x_s5) h (fun b2 S2 x2 => hQ b2 S2 (cr_xt x_s5 x2))
set_option maxRecDepth 100000 in
set_option maxHeartbeats 4000000 in
theorem ft_J7_fill_53178_5 {E : h_S} {g : h_G} {r : Unit} {t : h_S} {Q : h_S → Prop} : ∀ (n : Nat) {b : Nat → Nat} {s S_s : h_S} {r0 : Option Nat} {R_r0 : Option Nat} {x1 : Int32} {x2 : Int32} {x3 : Int32}, c_R E g b s S_s → c_F s → c_ao b s r0 R_r0 → fn_J7_fill_53178_5 n r0 x1 x2 x3 s = some (r, t) → (∀ (b2 : Nat → Nat) (S2 : h_S), c_ext b s b2 t → c_R E g b2 t S2 → c_F t → Q S2) → w_J7_fill_53178_5 Q n R_r0 x1 x2 x3 S_s := by
  intro n
  induction n with
  | zero => intros; rename_i h _; exact fg_none h
  | succ n ih => exact ft_J7_fill_53178_5b @ih
set_option maxRecDepth 100000 in
set_option maxHeartbeats 4000000 in
theorem ft_J7_fill_53178 {E : h_S} {g : h_G} {r : Unit} {t : h_S} {Q : h_S → Prop} {b : Nat → Nat} {s S_s : h_S} {r0 : Option Nat} {R_r0 : Option Nat} {x1 : Int32} (hR : c_R E g b s S_s) (hF : c_F s) (f_r0 : c_ao b s r0 R_r0) (h : fn_J7_fill_53178 r0 x1 s = some (r, t)) (hQ : ∀ (b2 : Nat → Nat) (S2 : h_S), c_ext b s b2 t → c_R E g b2 t S2 → c_F t → Q S2) : w_J7_fill_53178 R_r0 x1 S_s Q := by
  unfold fn_J7_fill_53178 at h
  unfold w_J7_fill_53178
  obtain ⟨a1, o_a1, h⟩ := fg_o_s h
  obtain ⟨A_a1, w_a1, f_a1⟩ := cr_aos f_r0 o_a1
  refine ⟨A_a1, w_a1, ?_⟩
  obtain ⟨c_a1_1, h⟩ := fg_g_s h
  refine ⟨(cr_k hR f_a1).trans c_a1_1, ?_⟩
  try simp -zeta -zetaUnused only [cr_n hR f_a1]
  exact ⟨g_N, ft_J7_fill_53178_5 g_N hR hF f_r0 h (fun b2 S2 x2 => hQ b2 S2 (cr_xt cr_xr x2))⟩
set_option maxRecDepth 100000 in
set_option maxHeartbeats 4000000 in
theorem ft_X5_renew {E : h_S} {g : h_G} {r : Unit} {t : h_S} {Q : h_S → Prop} {b : Nat → Nat} {s S_s : h_S} {o0 : Nat} {A_o0 : Nat} {x1 : Int32} {x2 : Int32} (hR : c_R E g b s S_s) (hF : c_F s) (f_o0 : c_at b s o0 A_o0) (h : fn_X5_renew o0 x1 x2 s = some (r, t)) (hQ : ∀ (b2 : Nat → Nat) (S2 : h_S), c_ext b s b2 t → c_R E g b2 t S2 → c_F t → Q S2) : w_X5_renew A_o0 x1 x2 S_s Q := by
  unfold fn_X5_renew at h
  unfold w_X5_renew
  obtain ⟨c_o0_1, h⟩ := fg_g_s h
  refine ⟨(cr_k hR f_o0).trans c_o0_1, ?_⟩
  obtain ⟨s2, e_s2, h⟩ := fg_let_s h
  intro S_s2
  have r_s2 : c_R E g b s2 S_s2 := by rw [e_s2]; exact cr_si hR f_o0 _ _
  have F_s2 : c_F s2 := by rw [e_s2]; exact cf_si hF _ _
  have x_s2 : c_ext b s b s2 := by rw [e_s2]; exact cx_si _ _
  clear_value S_s2
  obtain ⟨s3, e_s3, h⟩ := fg_let_s h
  intro S_s3
  have r_s3 : c_R E g b s3 S_s3 := by rw [e_s3]; exact cr_si r_s2 (cr_atx f_o0 x_s2) _ _
  have F_s3 : c_F s3 := by rw [e_s3]; exact cf_si F_s2 _ _
  have x_s3 : c_ext b s2 b s3 := by rw [e_s3]; exact cx_si _ _
  clear_value S_s3
  obtain ⟨u_, s4, e_s4, h⟩ := fg_b_s h
  refine ft_J7_fill_53178 r_s3 F_s3 (cr_r r_s3 (cr_atx (cr_atx f_o0 x_s2) x_s3) _) e_s4 (fun b_s4 S_s4 x_s4 r_s4 F_s4 => ?_)
  obtain ⟨_, q⟩ := fg_ret h
  subst q
  exact hQ _ _ (cr_xt x_s2 (cr_xt x_s3 x_s4)) r_s4 F_s4
set_option maxRecDepth 100000 in
set_option maxHeartbeats 4000000 in
theorem ft_X5_hasCells {E : h_S} {g : h_G} {r : Int32} {t : h_S} {Q : Int32 → h_S → Prop} {b : Nat → Nat} {s S_s : h_S} {o0 : Nat} {A_o0 : Nat} {x1 : Int32} {x2 : Int32} (hR : c_R E g b s S_s) (hF : c_F s) (f_o0 : c_at b s o0 A_o0) (h : fn_X5_hasCells o0 x1 x2 s = some (r, t)) (hQ : ∀ (b2 : Nat → Nat) (S2 : h_S), c_ext b s b2 t → c_R E g b2 t S2 → c_F t → Q r S2) : w_X5_hasCells A_o0 x1 x2 S_s Q := by
  unfold fn_X5_hasCells at h
  unfold w_X5_hasCells
  refine fg_ite Iff.rfl (fun d => ?_) (fun d => ?_)
  · have h := fg_if_t d h
    unfold w_X5_hasCells_30
    unfold w_X5_hasCells_31
    refine ⟨Or.inl rfl, ?_⟩
    obtain ⟨q, q2⟩ := fg_ret h
    subst q
    subst q2
    exact hQ _ _ cr_xr hR hF
  · have h := fg_if_e d h
    refine fg_ite Iff.rfl (fun d => ?_) (fun d => ?_)
    · have h := fg_if_t d h
      unfold w_X5_hasCells_30
      unfold w_X5_hasCells_31
      refine ⟨Or.inl rfl, ?_⟩
      obtain ⟨q, q2⟩ := fg_ret h
      subst q
      subst q2
      exact hQ _ _ cr_xr hR hF
    · have h := fg_if_e d h
      obtain ⟨c_o0_1, h⟩ := fg_g_s h
      refine ⟨(cr_k hR f_o0).trans c_o0_1, ?_⟩
      try simp -zeta -zetaUnused only [cr_i hR f_o0]
      refine fg_ite Iff.rfl (fun d => ?_) (fun d => ?_)
      · have h := fg_if_t d h
        unfold w_X5_hasCells_30
        unfold w_X5_hasCells_31
        refine ⟨Or.inl rfl, ?_⟩
        obtain ⟨q, q2⟩ := fg_ret h
        subst q
        subst q2
        exact hQ _ _ cr_xr hR hF
      · have h := fg_if_e d h
        refine fg_ite Iff.rfl (fun d => ?_) (fun d => ?_)
        · have h := fg_if_t d h
          unfold w_X5_hasCells_30
          unfold w_X5_hasCells_31
          refine ⟨Or.inl rfl, ?_⟩
          obtain ⟨q, q2⟩ := fg_ret h
          subst q
          subst q2
          exact hQ _ _ cr_xr hR hF
        · have h := fg_if_e d h
          unfold w_X5_hasCells_31
          refine ⟨Or.inr rfl, ?_⟩
          obtain ⟨q, q2⟩ := fg_ret h
          subst q
          subst q2
          exact hQ _ _ cr_xr hR hF
set_option maxRecDepth 100000 in
set_option maxHeartbeats 4000000 in
theorem ft_X5_faultOf {E : h_S} {g : h_G} {r : Int32} {t : h_S} {Q : Int32 → h_S → Prop} {b : Nat → Nat} {s S_s : h_S} {o0 : Nat} {A_o0 : Nat} {x1 : Int32} {x2 : Int32} {x3 : Int32} (hR : c_R E g b s S_s) (hF : c_F s) (f_o0 : c_at b s o0 A_o0) (h : fn_X5_faultOf o0 x1 x2 x3 s = some (r, t)) (hQ : ∀ (b2 : Nat → Nat) (S2 : h_S), c_ext b s b2 t → c_R E g b2 t S2 → c_F t → Q r S2) : w_X5_faultOf A_o0 x1 x2 x3 S_s Q := by
  unfold fn_X5_faultOf at h
  unfold w_X5_faultOf
  obtain ⟨c_o0_1, h⟩ := fg_g_s h
  refine ⟨(cr_k hR f_o0).trans c_o0_1, ?_⟩
  obtain ⟨p3, s2, e_s2, h⟩ := fg_b_s h
  refine ft_X5_isNothing hR hF f_o0 e_s2 (fun b_s2 S_s2 x_s2 r_s2 F_s2 => ?_)
  refine fg_ite Iff.rfl (fun d => ?_) (fun d => ?_)
  · have h := fg_if_t d h
    refine ⟨(cr_k r_s2 (cr_atx f_o0 x_s2)).trans (cr_kx c_o0_1 f_o0 x_s2), ?_⟩
    try simp -zeta -zetaUnused only [cr_i r_s2 (cr_atx f_o0 x_s2)]
    refine fg_ite Iff.rfl (fun d => ?_) (fun d => ?_)
    · have h := fg_if_t d h
      refine fg_ite Iff.rfl (fun d => ?_) (fun d => ?_)
      · have h := fg_if_t d h
        obtain ⟨p9, s8, e_s8, h⟩ := fg_b_s h
        refine ft_X5_hasCells r_s2 F_s2 (cr_atx f_o0 x_s2) e_s8 (fun b_s8 S_s8 x_s8 r_s8 F_s8 => ?_)
        refine fg_ite Iff.rfl (fun d => ?_) (fun d => ?_)
        · have h := fg_if_t d h
          unfold w_X5_faultOf_39
          obtain ⟨q, q2⟩ := fg_ret h
          subst q
          subst q2
          exact hQ _ _ (cr_xt x_s2 x_s8) r_s8 F_s8
        · have h := fg_if_e d h
          unfold w_X5_faultOf_39
          obtain ⟨q, q2⟩ := fg_ret h
          subst q
          subst q2
          exact hQ _ _ (cr_xt x_s2 x_s8) r_s8 F_s8
      · have h := fg_if_e d h
        obtain ⟨q, q2⟩ := fg_ret h
        subst q
        subst q2
        exact hQ _ _ x_s2 r_s2 F_s2
    · have h := fg_if_e d h
      obtain ⟨q, q2⟩ := fg_ret h
      subst q
      subst q2
      exact hQ _ _ x_s2 r_s2 F_s2
  · have h := fg_if_e d h
    obtain ⟨q, q2⟩ := fg_ret h
    subst q
    subst q2
    exact hQ _ _ x_s2 r_s2 F_s2
set_option maxRecDepth 100000 in
set_option maxHeartbeats 4000000 in
theorem ft_X5_write_40 {E : h_S} {g : h_G} {r : Unit} {t : h_S} {Q : h_S → Prop} {b : Nat → Nat} {s S_s : h_S} {y0 : Int32} {y1 : Int32} {t2 : Option Nat} {R_t2 : Option Nat} (hR : c_R E g b s S_s) (hF : c_F s) (f_t2 : c_ao b s t2 R_t2) (h : fn_X5_write_40 y0 y1 t2 s = some (r, t)) (hQ : ∀ (b2 : Nat → Nat) (S2 : h_S), c_ext b s b2 t → c_R E g b2 t S2 → c_F t → Q S2) : w_X5_write_40 Q y0 y1 R_t2 S_s := by
  unfold fn_X5_write_40 at h
  unfold w_X5_write_40
  obtain ⟨a1, o_a1, h⟩ := fg_o_s h
  obtain ⟨A_a1, w_a1, f_a1⟩ := cr_aos f_t2 o_a1
  refine ⟨A_a1, w_a1, ?_⟩
  obtain ⟨c_a1_1, h⟩ := fg_g_s h
  refine ⟨(cr_k hR f_a1).trans c_a1_1, ?_⟩
  obtain ⟨c, h⟩ := fg_g_s h
  refine ⟨cr_vp (cr_n hR f_a1) rfl c, ?_⟩
  obtain ⟨s4, e_s4, h⟩ := fg_let_s h
  intro S_s4
  have r_s4 : c_R E g b s4 S_s4 := by rw [e_s4]; exact cr_si hR f_a1 _ _
  have F_s4 : c_F s4 := by rw [e_s4]; exact cf_si hF _ _
  have x_s4 : c_ext b s b s4 := by rw [e_s4]; exact cx_si _ _
  clear_value S_s4
  unfold w_X5_write_41
  obtain ⟨_, q⟩ := fg_ret h
  subst q
  exact hQ _ _ x_s4 r_s4 F_s4
set_option maxRecDepth 100000 in
set_option maxHeartbeats 4000000 in
theorem ft_X5_write {E : h_S} {g : h_G} {r : Unit} {t : h_S} {Q : h_S → Prop} {b : Nat → Nat} {s S_s : h_S} {o0 : Nat} {A_o0 : Nat} {x1 : Int32} {x2 : Int32} (hR : c_R E g b s S_s) (hF : c_F s) (f_o0 : c_at b s o0 A_o0) (h : fn_X5_write o0 x1 x2 s = some (r, t)) (hQ : ∀ (b2 : Nat → Nat) (S2 : h_S), c_ext b s b2 t → c_R E g b2 t S2 → c_F t → Q S2) : w_X5_write A_o0 x1 x2 S_s Q := by
  unfold fn_X5_write at h
  unfold w_X5_write
  obtain ⟨p2, s1, e_s1, h⟩ := fg_b_s h
  refine ft_X11_within hR hF e_s1 (fun b_s1 S_s1 x_s1 r_s1 F_s1 => ?_)
  refine fg_ite Iff.rfl (fun d => ?_) (fun d => ?_)
  · have h := fg_if_t d h
    unfold w_X5_write_41
    obtain ⟨_, q⟩ := fg_ret h
    subst q
    exact hQ _ _ x_s1 r_s1 F_s1
  · have h := fg_if_e d h
    obtain ⟨c_o0_1, h⟩ := fg_g_s h
    refine ⟨(cr_k r_s1 (cr_atx f_o0 x_s1)).trans c_o0_1, ?_⟩
    try simp -zeta -zetaUnused only [cr_i r_s1 (cr_atx f_o0 x_s1)]
    refine fg_ite Iff.rfl (fun d => ?_) (fun d => ?_)
    · have h := fg_if_t d h
      exact ft_X5_write_40 r_s1 F_s1 (cr_r r_s1 (cr_atx f_o0 x_s1) _) h (fun b2 S2 x2 => hQ b2 S2 (cr_xt x_s1 x2))
    · have h := fg_if_e d h
      refine fg_ite Iff.rfl (fun d => ?_) (fun d => ?_)
      · have h := fg_if_t d h
        exact ft_X5_write_40 r_s1 F_s1 (cr_r r_s1 (cr_atx f_o0 x_s1) _) h (fun b2 S2 x2 => hQ b2 S2 (cr_xt x_s1 x2))
      · have h := fg_if_e d h
        exact ft_X5_write_40 r_s1 F_s1 (cr_r r_s1 (cr_atx f_o0 x_s1) _) h (fun b2 S2 x2 => hQ b2 S2 (cr_xt x_s1 x2))
set_option maxRecDepth 100000 in
set_option maxHeartbeats 4000000 in
theorem ft_X5_areCodes_2b {E : h_S} {g : h_G} {r : Int32} {t : h_S} {Q : Int32 → h_S → Prop} {K2 : Nat → Int32 → Int32 → Int32 → h_S → Option ((Int32) × h_S)} {WK2 : Nat → Int32 → Int32 → Int32 → h_S → Prop} (hK2 : ∀ {b : Nat → Nat} {s S_s : h_S} {o0 : Nat} {A_o0 : Nat} {x1 : Int32} {x2 : Int32} {x3 : Int32}, c_R E g b s S_s → c_F s → c_at b s o0 A_o0 → K2 o0 x1 x2 x3 s = some (r, t) → (∀ (b2 : Nat → Nat) (S2 : h_S), c_ext b s b2 t → c_R E g b2 t S2 → c_F t → Q r S2) → WK2 A_o0 x1 x2 x3 S_s) {b : Nat → Nat} {s S_s : h_S} {o0 : Nat} {A_o0 : Nat} {x1 : Int32} {x2 : Int32} {x3 : Int32} (hR : c_R E g b s S_s) (hF : c_F s) (f_o0 : c_at b s o0 A_o0) (h : fn_X5_areCodes_2b K2 o0 x1 x2 x3 s = some (r, t)) (hQ : ∀ (b2 : Nat → Nat) (S2 : h_S), c_ext b s b2 t → c_R E g b2 t S2 → c_F t → Q r S2) : w_X5_areCodes_2b Q WK2 A_o0 x1 x2 x3 S_s := by
  unfold fn_X5_areCodes_2b at h
  unfold w_X5_areCodes_2b
  refine fg_ite Iff.rfl (fun d => ?_) (fun d => ?_)
  · have h := fg_if_t d h
    obtain ⟨q, q2⟩ := fg_ret h
    subst q
    subst q2
    exact hQ _ _ cr_xr hR hF
  · have h := fg_if_e d h
    obtain ⟨c_o0_1, h⟩ := fg_g_s h
    refine ⟨(cr_k hR f_o0).trans c_o0_1, ?_⟩
    obtain ⟨p4, s3, e_s3, h⟩ := fg_b_s h
    refine ft_X5_cellAt hR hF f_o0 e_s3 (fun b_s3 S_s3 x_s3 r_s3 F_s3 => ?_)
    refine fg_ite Iff.rfl (fun d => ?_) (fun d => ?_)
    · have h := fg_if_t d h
      unfold w_X5_areCodes_29
      obtain ⟨q, q2⟩ := fg_ret h
      subst q
      subst q2
      exact hQ _ _ x_s3 r_s3 F_s3
    · have h := fg_if_e d h
      refine fg_ite Iff.rfl (fun d => ?_) (fun d => ?_)
      · have h := fg_if_t d h
        exact hK2 r_s3 F_s3 (cr_atx f_o0 x_s3) h (fun b2 S2 x2 => hQ b2 S2 (cr_xt x_s3 x2))
      · have h := fg_if_e d h
        unfold w_X5_areCodes_29
        obtain ⟨q, q2⟩ := fg_ret h
        subst q
        subst q2
        exact hQ _ _ x_s3 r_s3 F_s3
set_option maxRecDepth 100000 in
set_option maxHeartbeats 4000000 in
theorem ft_X5_areCodes_2 {E : h_S} {g : h_G} {r : Int32} {t : h_S} {Q : Int32 → h_S → Prop} : ∀ (n : Nat) {b : Nat → Nat} {s S_s : h_S} {o0 : Nat} {A_o0 : Nat} {x1 : Int32} {x2 : Int32} {x3 : Int32}, c_R E g b s S_s → c_F s → c_at b s o0 A_o0 → fn_X5_areCodes_2 n o0 x1 x2 x3 s = some (r, t) → (∀ (b2 : Nat → Nat) (S2 : h_S), c_ext b s b2 t → c_R E g b2 t S2 → c_F t → Q r S2) → w_X5_areCodes_2 Q n A_o0 x1 x2 x3 S_s := by
  intro n
  induction n with
  | zero => intros; rename_i h _; exact fg_none h
  | succ n ih => exact ft_X5_areCodes_2b @ih
set_option maxRecDepth 100000 in
set_option maxHeartbeats 4000000 in
theorem ft_X5_areCodes {E : h_S} {g : h_G} {r : Int32} {t : h_S} {Q : Int32 → h_S → Prop} {b : Nat → Nat} {s S_s : h_S} {o0 : Nat} {A_o0 : Nat} {x1 : Int32} {x2 : Int32} (hR : c_R E g b s S_s) (hF : c_F s) (f_o0 : c_at b s o0 A_o0) (h : fn_X5_areCodes o0 x1 x2 s = some (r, t)) (hQ : ∀ (b2 : Nat → Nat) (S2 : h_S), c_ext b s b2 t → c_R E g b2 t S2 → c_F t → Q r S2) : w_X5_areCodes A_o0 x1 x2 S_s Q := by
  unfold fn_X5_areCodes at h
  unfold w_X5_areCodes
  exact ⟨g_N, ft_X5_areCodes_2 g_N hR hF f_o0 h (fun b2 S2 x2 => hQ b2 S2 (cr_xt cr_xr x2))⟩
set_option maxRecDepth 100000 in
set_option maxHeartbeats 4000000 in
theorem ft_X6_init {E : h_S} {g : h_G} {r : Unit} {t : h_S} {Q : h_S → Prop} {b : Nat → Nat} {s S_s : h_S} {C0 D0 mc ms : Nat} {o0 : Nat} {A_o0 : Nat} (hR : c_R E g b s S_s) (hF : c_F s) (f_o0 : c_at b s o0 A_o0) (h : fn_X6_init o0 s = some (r, t, C0, D0)) (hQ : ∀ (b2 : Nat → Nat) (S2 : h_S), c_ext b s b2 t → c_R E g b2 t S2 → c_F t → Q S2) (hc : C0 ≤ mc) (hd : D0 ≤ ms) : w_X6_init A_o0 S_s mc ms Q := by
  unfold fn_X6_init at h
  unfold w_X6_init
  obtain ⟨c_o0_1, h⟩ := fg_g_s h
  refine ⟨(cr_k hR f_o0).trans c_o0_1, ?_⟩
  obtain ⟨s2, e_s2, h⟩ := fg_let_s h
  intro S_s2
  have r_s2 : c_R E g b s2 S_s2 := by rw [e_s2]; exact cr_si hR f_o0 _ _
  have F_s2 : c_F s2 := by rw [e_s2]; exact cf_si hF _ _
  have x_s2 : c_ext b s b s2 := by rw [e_s2]; exact cx_si _ _
  clear_value S_s2
  obtain ⟨q3, e_q3, h⟩ := fg_let_s h
  have z_q3 : h_k s2 q3 = 0 := cf_z F_s2 e_q3
  obtain ⟨C_q3, D_q3, h, q_q3, w_q3⟩ := fg_c_s h
  obtain ⟨u1_q3, hc⟩ := fg_sp q_q3 hc
  obtain ⟨u2_q3, hd⟩ := fg_sp w_q3 hd
  refine ⟨u1_q3, u2_q3, fun A_q3 Z_q3 => ?_⟩
  obtain ⟨s7, e_s7, h⟩ := fg_let_s h
  intro S_s7
  have r_s7 : c_R E g (c_up b q3 A_q3) s7 S_s7 := by rw [e_s7]; exact cr_nw r_s2 z_q3 Z_q3 (by decide)
  have F_s7 : c_F s7 := by rw [e_s7]; exact cf_nw F_s2 e_q3 (by decide)
  have x_s7 : c_ext b s2 (c_up b q3 A_q3) s7 := by rw [e_s7]; exact cx_new z_q3
  have f_q3 : c_at (c_up b q3 A_q3) s7 q3 A_q3 := by rw [e_s7]; exact ca_nw (by decide)
  clear_value S_s7
  intro c8
  have hc : _ ≤ c8 := hc
  clear_value c8
  intro d9
  have hd : _ ≤ d9 := hd
  clear_value d9
  refine ⟨(cr_k r_s7 (cr_atx (cr_atx f_o0 x_s2) x_s7)).trans (cr_kx (cr_kx c_o0_1 f_o0 x_s2) (cr_atx f_o0 x_s2) x_s7), ?_⟩
  obtain ⟨s11, e_s11, h⟩ := fg_let_s h
  intro S_s11
  have r_s11 : c_R E g (c_up b q3 A_q3) s11 S_s11 := by rw [e_s11]; exact cr_sr r_s7 (cr_atx (cr_atx f_o0 x_s2) x_s7) _ (cr_some f_q3)
  have F_s11 : c_F s11 := by rw [e_s11]; exact cf_sr F_s7 (cr_kx (cr_kx c_o0_1 f_o0 x_s2) (cr_atx f_o0 x_s2) x_s7) (by decide) _
  have x_s11 : c_ext (c_up b q3 A_q3) s7 (c_up b q3 A_q3) s11 := by rw [e_s11]; exact cx_sr _
  clear_value S_s11
  obtain ⟨_, q⟩ := fg_retc h
  subst q
  exact hQ _ _ (cr_xt x_s2 (cr_xt x_s7 x_s11)) r_s11 F_s11
set_option maxRecDepth 100000 in
set_option maxHeartbeats 4000000 in
theorem ft_X6_keep_32 {E : h_S} {g : h_G} {r : Unit} {t : h_S} {Q : h_S → Prop} {b : Nat → Nat} {s S_s : h_S} {C0 D0 bc bs : Nat} {o0 : Nat} {A_o0 : Nat} {x1 : Int32} {r2 : Option Nat} {R_r2 : Option Nat} {x3 : Int32} (hR : c_R E g b s S_s) (hF : c_F s) (f_o0 : c_at b s o0 A_o0) (f_r2 : c_ao b s r2 R_r2) (h : fn_X6_keep_32 o0 x1 r2 x3 s = some (r, t, C0, D0)) (hQ : ∀ (b2 : Nat → Nat) (S2 : h_S), c_ext b s b2 t → c_R E g b2 t S2 → c_F t → Q S2) (hc : C0 ≤ bc) (hd : D0 ≤ bs) : w_X6_keep_32 Q A_o0 x1 R_r2 x3 S_s bc bs := by
  unfold fn_X6_keep_32 at h
  unfold w_X6_keep_32
  obtain ⟨c_o0_1, h⟩ := fg_g_s h
  refine ⟨(cr_k hR f_o0).trans c_o0_1, ?_⟩
  obtain ⟨a2, o_a2, h⟩ := fg_o_s h
  obtain ⟨A_a2, w_a2, f_a2⟩ := cr_aos (cr_r hR f_o0 _) o_a2
  refine ⟨A_a2, w_a2, ?_⟩
  obtain ⟨c_a2_2, h⟩ := fg_g_s h
  refine ⟨(cr_k hR f_a2).trans c_a2_2, ?_⟩
  obtain ⟨a4, o_a4, h⟩ := fg_o_s h
  obtain ⟨A_a4, w_a4, f_a4⟩ := cr_aos f_r2 o_a4
  refine ⟨A_a4, w_a4, ?_⟩
  obtain ⟨c_a4_3, h⟩ := fg_g_s h
  refine ⟨(cr_k hR f_a4).trans c_a4_3, ?_⟩
  obtain ⟨c, h⟩ := fg_g_s h
  refine ⟨c, ?_⟩
  obtain ⟨c, h⟩ := fg_g_s h
  refine ⟨c, ?_⟩
  obtain ⟨c, h⟩ := fg_g_s h
  refine ⟨c, ?_⟩
  try simp -zeta -zetaUnused only [cr_n hR f_a4]
  obtain ⟨c, h⟩ := fg_g_s h
  refine ⟨c, ?_⟩
  try simp -zeta -zetaUnused only [cr_n hR f_a2]
  obtain ⟨c, h⟩ := fg_g_s h
  refine ⟨c, ?_⟩
  obtain ⟨s11, e_s11, h⟩ := fg_let_s h
  intro S_s11
  have r_s11 : c_R E g b s11 S_s11 := by rw [e_s11]; exact cr_cp hR f_a4 f_a2 _ _ _
  have F_s11 : c_F s11 := by rw [e_s11]; exact cf_cp hF _ _ _
  have x_s11 : c_ext b s b s11 := by rw [e_s11]; exact cx_cp _ _ _
  clear_value S_s11
  obtain ⟨s12, e_s12, h⟩ := fg_let_s h
  intro S_s12
  have r_s12 : c_R E g b s12 S_s12 := by rw [e_s12]; exact cr_si r_s11 (cr_atx f_o0 x_s11) _ _
  have F_s12 : c_F s12 := by rw [e_s12]; exact cf_si F_s11 _ _
  have x_s12 : c_ext b s11 b s12 := by rw [e_s12]; exact cx_si _ _
  clear_value S_s12
  obtain ⟨s13, e_s13, h⟩ := fg_let_s h
  intro S_s13
  have r_s13 : c_R E g b s13 S_s13 := by rw [e_s13]; exact cr_si r_s12 (cr_atx (cr_atx f_o0 x_s11) x_s12) _ _
  have F_s13 : c_F s13 := by rw [e_s13]; exact cf_si F_s12 _ _
  have x_s13 : c_ext b s12 b s13 := by rw [e_s13]; exact cx_si _ _
  clear_value S_s13
  obtain ⟨_, q⟩ := fg_retc h
  subst q
  exact hQ _ _ (cr_xt x_s11 (cr_xt x_s12 x_s13)) r_s13 F_s13
set_option maxRecDepth 100000 in
set_option maxHeartbeats 4000000 in
theorem ft_X6_keep {E : h_S} {g : h_G} {r : Unit} {t : h_S} {Q : h_S → Prop} {b : Nat → Nat} {s S_s : h_S} {C0 D0 mc ms : Nat} {o0 : Nat} {A_o0 : Nat} {x1 : Int32} {r2 : Option Nat} {R_r2 : Option Nat} {x3 : Int32} (hR : c_R E g b s S_s) (hF : c_F s) (f_o0 : c_at b s o0 A_o0) (f_r2 : c_ao b s r2 R_r2) (h : fn_X6_keep o0 x1 r2 x3 s = some (r, t, C0, D0)) (hQ : ∀ (b2 : Nat → Nat) (S2 : h_S), c_ext b s b2 t → c_R E g b2 t S2 → c_F t → Q S2) (hc : C0 ≤ mc) (hd : D0 ≤ ms) : w_X6_keep A_o0 x1 R_r2 x3 S_s mc ms Q := by
  unfold fn_X6_keep at h
  unfold w_X6_keep
  obtain ⟨c_o0_1, h⟩ := fg_g_s h
  refine ⟨(cr_k hR f_o0).trans c_o0_1, ?_⟩
  obtain ⟨a2, o_a2, h⟩ := fg_o_s h
  obtain ⟨A_a2, w_a2, f_a2⟩ := cr_aos (cr_r hR f_o0 _) o_a2
  refine ⟨A_a2, w_a2, ?_⟩
  obtain ⟨c_a2_2, h⟩ := fg_g_s h
  refine ⟨(cr_k hR f_a2).trans c_a2_2, ?_⟩
  try simp -zeta -zetaUnused only [cr_n hR f_a2]
  refine fg_ite Iff.rfl (fun d => ?_) (fun d => ?_)
  · have h := fg_if_t d h
    exact ft_X6_keep_32 hR hF f_o0 f_r2 h (fun b2 S2 x2 => hQ b2 S2 (cr_xt cr_xr x2)) hc hd
  · have h := fg_if_e d h
    obtain ⟨a5, o_a5, h⟩ := fg_o_s h
    obtain ⟨A_a5, w_a5, f_a5⟩ := cr_aos (cr_r hR f_o0 _) o_a5
    refine ⟨A_a5, w_a5, ?_⟩
    obtain ⟨c_a5_3, h⟩ := fg_g_s h
    refine ⟨(cr_k hR f_a5).trans c_a5_3, ?_⟩
    try simp -zeta -zetaUnused only [cr_n hR f_a5]
    obtain ⟨c, h⟩ := fg_g_s h
    refine ⟨c, ?_⟩
    obtain ⟨c, h⟩ := fg_g_s h
    refine ⟨c, ?_⟩
    obtain ⟨q7, e_q7, h⟩ := fg_let_s h
    have z_q7 : h_k s q7 = 0 := cf_z hF e_q7
    obtain ⟨C_q7, D_q7, h, q_q7, w_q7⟩ := fg_c_s h
    obtain ⟨u1_q7, hc⟩ := fg_sp q_q7 hc
    obtain ⟨u2_q7, hd⟩ := fg_sp w_q7 hd
    refine ⟨u1_q7, u2_q7, fun A_q7 Z_q7 => ?_⟩
    obtain ⟨s13, e_s13, h⟩ := fg_let_s h
    intro S_s13
    have r_s13 : c_R E g (c_up b q7 A_q7) s13 S_s13 := by rw [e_s13]; exact cr_nw hR z_q7 Z_q7 (by decide)
    have F_s13 : c_F s13 := by rw [e_s13]; exact cf_nw hF e_q7 (by decide)
    have x_s13 : c_ext b s (c_up b q7 A_q7) s13 := by rw [e_s13]; exact cx_new z_q7
    have f_q7 : c_at (c_up b q7 A_q7) s13 q7 A_q7 := by rw [e_s13]; exact ca_nw (by decide)
    clear_value S_s13
    intro c14
    have hc : _ ≤ c14 := hc
    clear_value c14
    intro d15
    have hd : _ ≤ d15 := hd
    clear_value d15
    refine ⟨(cr_k r_s13 (cr_atx f_o0 x_s13)).trans (cr_kx c_o0_1 f_o0 x_s13), ?_⟩
    obtain ⟨s17, e_s17, h⟩ := fg_let_s h
    intro S_s17
    have r_s17 : c_R E g (c_up b q7 A_q7) s17 S_s17 := by rw [e_s17]; exact cr_sr r_s13 (cr_atx f_o0 x_s13) _ (cr_some f_q7)
    have F_s17 : c_F s17 := by rw [e_s17]; exact cf_sr F_s13 (cr_kx c_o0_1 f_o0 x_s13) (by decide) _
    have x_s17 : c_ext (c_up b q7 A_q7) s13 (c_up b q7 A_q7) s17 := by rw [e_s17]; exact cx_sr _
    clear_value S_s17
    exact ft_X6_keep_32 r_s17 F_s17 (cr_atx (cr_atx f_o0 x_s13) x_s17) (cr_aox (cr_aox f_r2 x_s13) x_s17) h (fun b2 S2 x2 => hQ b2 S2 (cr_xt (cr_xt x_s13 x_s17) x2)) hc hd
set_option maxRecDepth 100000 in
set_option maxHeartbeats 4000000 in
theorem ft_Jxa1e45_init_da8c8 {E : h_S} {g : h_G} {r : Unit} {t : h_S} {Q : h_S → Prop} {b : Nat → Nat} {s S_s : h_S} {o0 : Nat} {A_o0 : Nat} (hR : c_R E g b s S_s) (f_o0 : c_at b s o0 A_o0) (h : fn_Jxa1e45_init_da8c8 o0 s = some (r, t)) (hQ : ∀ (b2 : Nat → Nat) (S2 : h_S), c_ext b s b2 t → c_R E g b2 t S2 → Q S2) : w_Jxa1e45_init_da8c8 A_o0 S_s Q := by
  unfold fn_Jxa1e45_init_da8c8 at h
  unfold w_Jxa1e45_init_da8c8
  obtain ⟨_, q⟩ := fg_ret h
  subst q
  exact hQ _ _ cr_xr hR
set_option maxRecDepth 100000 in
set_option maxHeartbeats 4000000 in
theorem ft_Jxc12de_init_da8c8 {E : h_S} {g : h_G} {r : Unit} {t : h_S} {Q : h_S → Prop} {b : Nat → Nat} {s S_s : h_S} {o0 : Nat} {A_o0 : Nat} (hR : c_R E g b s S_s) (f_o0 : c_at b s o0 A_o0) (h : fn_Jxc12de_init_da8c8 o0 s = some (r, t)) (hQ : ∀ (b2 : Nat → Nat) (S2 : h_S), c_ext b s b2 t → c_R E g b2 t S2 → Q S2) : w_Jxc12de_init_da8c8 A_o0 S_s Q := by
  unfold fn_Jxc12de_init_da8c8 at h
  unfold w_Jxc12de_init_da8c8
  obtain ⟨u_, s1, e_s1, h⟩ := fg_b_s h
  refine ft_Jxa1e45_init_da8c8 hR f_o0 e_s1 (fun b_s1 S_s1 x_s1 r_s1 => ?_)
  obtain ⟨c_o0_1, h⟩ := fg_g_s h
  refine ⟨(cr_k r_s1 (cr_atx f_o0 x_s1)).trans c_o0_1, ?_⟩
  obtain ⟨s4, e_s4, h⟩ := fg_let_s h
  intro S_s4
  have r_s4 : c_R E g b_s1 s4 S_s4 := by rw [e_s4]; exact cr_si r_s1 (cr_atx f_o0 x_s1) _ _
  have x_s4 : c_ext b_s1 s1 b_s1 s4 := by rw [e_s4]; exact cx_si _ _
  clear_value S_s4
  obtain ⟨_, q⟩ := fg_ret h
  subst q
  exact hQ _ _ (cr_xt x_s1 x_s4) r_s4
set_option maxRecDepth 100000 in
set_option maxHeartbeats 4000000 in
theorem ft_Jx4a65c_init_da8c8 {E : h_S} {g : h_G} {r : Unit} {t : h_S} {Q : h_S → Prop} {b : Nat → Nat} {s S_s : h_S} {o0 : Nat} {A_o0 : Nat} (hR : c_R E g b s S_s) (f_o0 : c_at b s o0 A_o0) (h : fn_Jx4a65c_init_da8c8 o0 s = some (r, t)) (hQ : ∀ (b2 : Nat → Nat) (S2 : h_S), c_ext b s b2 t → c_R E g b2 t S2 → Q S2) : w_Jx4a65c_init_da8c8 g A_o0 S_s Q := by
  unfold fn_Jx4a65c_init_da8c8 at h
  unfold w_Jx4a65c_init_da8c8
  obtain ⟨u_, s1, e_s1, h⟩ := fg_b_s h
  refine ft_Jxc12de_init_da8c8 hR f_o0 e_s1 (fun b_s1 S_s1 x_s1 r_s1 => ?_)
  obtain ⟨c_o0_1, h⟩ := fg_g_s h
  refine ⟨(cr_k r_s1 (cr_atx f_o0 x_s1)).trans c_o0_1, ?_⟩
  obtain ⟨s4, e_s4, h⟩ := fg_let_s h
  intro S_s4
  have r_s4 : c_R E g b_s1 s4 S_s4 := by rw [e_s4]; exact cr_sr r_s1 (cr_atx f_o0 x_s1) _ (cr_some (cr_g r_s1))
  have x_s4 : c_ext b_s1 s1 b_s1 s4 := by rw [e_s4]; exact cx_sr _
  clear_value S_s4
  obtain ⟨_, q⟩ := fg_ret h
  subst q
  exact hQ _ _ (cr_xt x_s1 x_s4) r_s4
set_option maxRecDepth 100000 in
set_option maxHeartbeats 4000000 in
theorem ft_X7_init {E : h_S} {g : h_G} {r : Unit} {t : h_S} {Q : h_S → Prop} {b : Nat → Nat} {s S_s : h_S} {C0 D0 mc ms : Nat} {o0 : Nat} {A_o0 : Nat} (hR : c_R E g b s S_s) (f_o0 : c_at b s o0 A_o0) (h : fn_X7_init o0 s = some (r, t, C0, D0)) (hQ : ∀ (b2 : Nat → Nat) (S2 : h_S), c_ext b s b2 t → c_R E g b2 t S2 → Q S2) (hc : C0 ≤ mc) (hd : D0 ≤ ms) : w_X7_init g A_o0 S_s mc ms Q := by
  unfold fn_X7_init at h
  unfold w_X7_init
  obtain ⟨q1, e_q1, h⟩ := fg_let_s h
  obtain ⟨z_q1, h⟩ := fg_g_s h
  obtain ⟨C_q1, D_q1, h, q_q1, w_q1⟩ := fg_c_s h
  obtain ⟨u1_q1, hc⟩ := fg_sp q_q1 hc
  obtain ⟨u2_q1, hd⟩ := fg_sp w_q1 hd
  refine ⟨u1_q1, u2_q1, fun A_q1 Z_q1 => ?_⟩
  obtain ⟨s5, e_s5, h⟩ := fg_let_s h
  intro S_s5
  have r_s5 : c_R E g (c_up b q1 A_q1) s5 S_s5 := by rw [e_s5]; exact cr_nw hR z_q1 Z_q1 (by decide)
  have x_s5 : c_ext b s (c_up b q1 A_q1) s5 := by rw [e_s5]; exact cx_new z_q1
  have f_q1 : c_at (c_up b q1 A_q1) s5 q1 A_q1 := by rw [e_s5]; exact ca_nw (by decide)
  clear_value S_s5
  have f_o0 := cr_atx f_o0 x_s5
  intro c6
  have hc : _ ≤ c6 := hc
  clear_value c6
  intro d7
  have hd : _ ≤ d7 := hd
  clear_value d7
  obtain ⟨c_o0_2, h⟩ := fg_g_s h
  refine ⟨(cr_k r_s5 f_o0).trans c_o0_2, ?_⟩
  obtain ⟨s9, e_s9, h⟩ := fg_let_s h
  intro S_s9
  have r_s9 : c_R E g (c_up b q1 A_q1) s9 S_s9 := by rw [e_s9]; exact cr_sr r_s5 f_o0 _ (cr_some f_q1)
  have x_s9 : c_ext (c_up b q1 A_q1) s5 (c_up b q1 A_q1) s9 := by rw [e_s9]; exact cx_sr _
  clear_value S_s9
  have c_o0_2 := cr_kx c_o0_2 f_o0 x_s9
  have f_o0 := cr_atx f_o0 x_s9
  have f_q1 := cr_atx f_q1 x_s9
  obtain ⟨q10, e_q10, h⟩ := fg_let_s h
  obtain ⟨z_q10, h⟩ := fg_g_s h
  obtain ⟨C_q10, D_q10, h, q_q10, w_q10⟩ := fg_c_s h
  obtain ⟨u1_q10, hc⟩ := fg_sp q_q10 hc
  obtain ⟨u2_q10, hd⟩ := fg_sp w_q10 hd
  refine ⟨u1_q10, u2_q10, fun A_q10 Z_q10 => ?_⟩
  obtain ⟨s14, e_s14, h⟩ := fg_let_s h
  intro S_s14
  have r_s14 : c_R E g (c_up (c_up b q1 A_q1) q10 A_q10) s14 S_s14 := by rw [e_s14]; exact cr_nw r_s9 z_q10 Z_q10 (by decide)
  have x_s14 : c_ext (c_up b q1 A_q1) s9 (c_up (c_up b q1 A_q1) q10 A_q10) s14 := by rw [e_s14]; exact cx_new z_q10
  have f_q10 : c_at (c_up (c_up b q1 A_q1) q10 A_q10) s14 q10 A_q10 := by rw [e_s14]; exact ca_nw (by decide)
  clear_value S_s14
  have c_o0_2 := cr_kx c_o0_2 f_o0 x_s14
  have f_o0 := cr_atx f_o0 x_s14
  have f_q1 := cr_atx f_q1 x_s14
  intro c15
  have hc : _ ≤ c15 := hc
  clear_value c15
  intro d16
  have hd : _ ≤ d16 := hd
  clear_value d16
  refine ⟨(cr_k r_s14 f_o0).trans c_o0_2, ?_⟩
  obtain ⟨s18, e_s18, h⟩ := fg_let_s h
  intro S_s18
  have r_s18 : c_R E g (c_up (c_up b q1 A_q1) q10 A_q10) s18 S_s18 := by rw [e_s18]; exact cr_sr r_s14 f_o0 _ (cr_some f_q10)
  have x_s18 : c_ext (c_up (c_up b q1 A_q1) q10 A_q10) s14 (c_up (c_up b q1 A_q1) q10 A_q10) s18 := by rw [e_s18]; exact cx_sr _
  clear_value S_s18
  have c_o0_2 := cr_kx c_o0_2 f_o0 x_s18
  have f_o0 := cr_atx f_o0 x_s18
  have f_q1 := cr_atx f_q1 x_s18
  have f_q10 := cr_atx f_q10 x_s18
  obtain ⟨q19, e_q19, h⟩ := fg_let_s h
  obtain ⟨z_q19, h⟩ := fg_g_s h
  obtain ⟨C_q19, D_q19, h, q_q19, w_q19⟩ := fg_c_s h
  obtain ⟨u1_q19, hc⟩ := fg_sp q_q19 hc
  obtain ⟨u2_q19, hd⟩ := fg_sp w_q19 hd
  refine ⟨u1_q19, u2_q19, fun A_q19 Z_q19 => ?_⟩
  obtain ⟨s23, e_s23, h⟩ := fg_let_s h
  intro S_s23
  have r_s23 : c_R E g (c_up (c_up (c_up b q1 A_q1) q10 A_q10) q19 A_q19) s23 S_s23 := by rw [e_s23]; exact cr_nw r_s18 z_q19 Z_q19 (by decide)
  have x_s23 : c_ext (c_up (c_up b q1 A_q1) q10 A_q10) s18 (c_up (c_up (c_up b q1 A_q1) q10 A_q10) q19 A_q19) s23 := by rw [e_s23]; exact cx_new z_q19
  have f_q19 : c_at (c_up (c_up (c_up b q1 A_q1) q10 A_q10) q19 A_q19) s23 q19 A_q19 := by rw [e_s23]; exact ca_nw (by decide)
  clear_value S_s23
  have c_o0_2 := cr_kx c_o0_2 f_o0 x_s23
  have f_o0 := cr_atx f_o0 x_s23
  have f_q1 := cr_atx f_q1 x_s23
  have f_q10 := cr_atx f_q10 x_s23
  intro c24
  have hc : _ ≤ c24 := hc
  clear_value c24
  intro d25
  have hd : _ ≤ d25 := hd
  clear_value d25
  refine ⟨(cr_k r_s23 f_o0).trans c_o0_2, ?_⟩
  obtain ⟨s27, e_s27, h⟩ := fg_let_s h
  intro S_s27
  have r_s27 : c_R E g (c_up (c_up (c_up b q1 A_q1) q10 A_q10) q19 A_q19) s27 S_s27 := by rw [e_s27]; exact cr_sr r_s23 f_o0 _ (cr_some f_q19)
  have x_s27 : c_ext (c_up (c_up (c_up b q1 A_q1) q10 A_q10) q19 A_q19) s23 (c_up (c_up (c_up b q1 A_q1) q10 A_q10) q19 A_q19) s27 := by rw [e_s27]; exact cx_sr _
  clear_value S_s27
  have c_o0_2 := cr_kx c_o0_2 f_o0 x_s27
  have f_o0 := cr_atx f_o0 x_s27
  have f_q1 := cr_atx f_q1 x_s27
  have f_q10 := cr_atx f_q10 x_s27
  have f_q19 := cr_atx f_q19 x_s27
  obtain ⟨q28, e_q28, h⟩ := fg_let_s h
  obtain ⟨z_q28, h⟩ := fg_g_s h
  obtain ⟨C_q28, D_q28, h, q_q28, w_q28⟩ := fg_c_s h
  obtain ⟨u1_q28, hc⟩ := fg_sp q_q28 hc
  obtain ⟨u2_q28, hd⟩ := fg_sp w_q28 hd
  refine ⟨u1_q28, u2_q28, fun A_q28 Z_q28 => ?_⟩
  obtain ⟨s32, e_s32, h⟩ := fg_let_s h
  intro S_s32
  have r_s32 : c_R E g (c_up (c_up (c_up (c_up b q1 A_q1) q10 A_q10) q19 A_q19) q28 A_q28) s32 S_s32 := by rw [e_s32]; exact cr_nw r_s27 z_q28 Z_q28 (by decide)
  have x_s32 : c_ext (c_up (c_up (c_up b q1 A_q1) q10 A_q10) q19 A_q19) s27 (c_up (c_up (c_up (c_up b q1 A_q1) q10 A_q10) q19 A_q19) q28 A_q28) s32 := by rw [e_s32]; exact cx_new z_q28
  have f_q28 : c_at (c_up (c_up (c_up (c_up b q1 A_q1) q10 A_q10) q19 A_q19) q28 A_q28) s32 q28 A_q28 := by rw [e_s32]; exact ca_nw (by decide)
  clear_value S_s32
  have c_o0_2 := cr_kx c_o0_2 f_o0 x_s32
  have f_o0 := cr_atx f_o0 x_s32
  have f_q1 := cr_atx f_q1 x_s32
  have f_q10 := cr_atx f_q10 x_s32
  have f_q19 := cr_atx f_q19 x_s32
  intro c33
  have hc : _ ≤ c33 := hc
  clear_value c33
  intro d34
  have hd : _ ≤ d34 := hd
  clear_value d34
  obtain ⟨u_, s35, e_s35, h⟩ := fg_b_s h
  refine ft_Jx4a65c_init_da8c8 r_s32 f_q28 e_s35 (fun b_s35 S_s35 x_s35 r_s35 => ?_)
  have c_o0_2 := cr_kx c_o0_2 f_o0 x_s35
  have f_o0 := cr_atx f_o0 x_s35
  have f_q1 := cr_atx f_q1 x_s35
  have f_q10 := cr_atx f_q10 x_s35
  have f_q19 := cr_atx f_q19 x_s35
  have f_q28 := cr_atx f_q28 x_s35
  refine ⟨(cr_k r_s35 f_o0).trans c_o0_2, ?_⟩
  obtain ⟨s38, e_s38, h⟩ := fg_let_s h
  intro S_s38
  have r_s38 : c_R E g b_s35 s38 S_s38 := by rw [e_s38]; exact cr_sr r_s35 f_o0 _ (cr_some f_q28)
  have x_s38 : c_ext b_s35 s35 b_s35 s38 := by rw [e_s38]; exact cx_sr _
  clear_value S_s38
  have c_o0_2 := cr_kx c_o0_2 f_o0 x_s38
  have f_o0 := cr_atx f_o0 x_s38
  have f_q1 := cr_atx f_q1 x_s38
  have f_q10 := cr_atx f_q10 x_s38
  have f_q19 := cr_atx f_q19 x_s38
  have f_q28 := cr_atx f_q28 x_s38
  obtain ⟨q39, e_q39, h⟩ := fg_let_s h
  obtain ⟨z_q39, h⟩ := fg_g_s h
  obtain ⟨C_q39, D_q39, h, q_q39, w_q39⟩ := fg_c_s h
  obtain ⟨u1_q39, hc⟩ := fg_sp q_q39 hc
  obtain ⟨u2_q39, hd⟩ := fg_sp w_q39 hd
  refine ⟨u1_q39, u2_q39, fun A_q39 Z_q39 => ?_⟩
  obtain ⟨s43, e_s43, h⟩ := fg_let_s h
  intro S_s43
  have r_s43 : c_R E g (c_up b_s35 q39 A_q39) s43 S_s43 := by rw [e_s43]; exact cr_nw r_s38 z_q39 Z_q39 (by decide)
  have x_s43 : c_ext b_s35 s38 (c_up b_s35 q39 A_q39) s43 := by rw [e_s43]; exact cx_new z_q39
  have f_q39 : c_at (c_up b_s35 q39 A_q39) s43 q39 A_q39 := by rw [e_s43]; exact ca_nw (by decide)
  clear_value S_s43
  have c_o0_2 := cr_kx c_o0_2 f_o0 x_s43
  have f_o0 := cr_atx f_o0 x_s43
  have f_q1 := cr_atx f_q1 x_s43
  have f_q10 := cr_atx f_q10 x_s43
  have f_q19 := cr_atx f_q19 x_s43
  have f_q28 := cr_atx f_q28 x_s43
  intro c44
  have hc : _ ≤ c44 := hc
  clear_value c44
  intro d45
  have hd : _ ≤ d45 := hd
  clear_value d45
  refine ⟨(cr_k r_s43 f_o0).trans c_o0_2, ?_⟩
  obtain ⟨s47, e_s47, h⟩ := fg_let_s h
  intro S_s47
  have r_s47 : c_R E g (c_up b_s35 q39 A_q39) s47 S_s47 := by rw [e_s47]; exact cr_sr r_s43 f_o0 _ (cr_some f_q39)
  have x_s47 : c_ext (c_up b_s35 q39 A_q39) s43 (c_up b_s35 q39 A_q39) s47 := by rw [e_s47]; exact cx_sr _
  clear_value S_s47
  have c_o0_2 := cr_kx c_o0_2 f_o0 x_s47
  have f_o0 := cr_atx f_o0 x_s47
  have f_q1 := cr_atx f_q1 x_s47
  have f_q10 := cr_atx f_q10 x_s47
  have f_q19 := cr_atx f_q19 x_s47
  have f_q28 := cr_atx f_q28 x_s47
  have f_q39 := cr_atx f_q39 x_s47
  obtain ⟨q48, e_q48, h⟩ := fg_let_s h
  obtain ⟨z_q48, h⟩ := fg_g_s h
  obtain ⟨C_q48, D_q48, h, q_q48, w_q48⟩ := fg_c_s h
  obtain ⟨u1_q48, hc⟩ := fg_sp q_q48 hc
  obtain ⟨u2_q48, hd⟩ := fg_sp w_q48 hd
  refine ⟨u1_q48, u2_q48, fun A_q48 Z_q48 => ?_⟩
  obtain ⟨s52, e_s52, h⟩ := fg_let_s h
  intro S_s52
  have r_s52 : c_R E g (c_up (c_up b_s35 q39 A_q39) q48 A_q48) s52 S_s52 := by rw [e_s52]; exact cr_nw r_s47 z_q48 Z_q48 (by decide)
  have x_s52 : c_ext (c_up b_s35 q39 A_q39) s47 (c_up (c_up b_s35 q39 A_q39) q48 A_q48) s52 := by rw [e_s52]; exact cx_new z_q48
  have f_q48 : c_at (c_up (c_up b_s35 q39 A_q39) q48 A_q48) s52 q48 A_q48 := by rw [e_s52]; exact ca_nw (by decide)
  clear_value S_s52
  have c_o0_2 := cr_kx c_o0_2 f_o0 x_s52
  have f_o0 := cr_atx f_o0 x_s52
  have f_q1 := cr_atx f_q1 x_s52
  have f_q10 := cr_atx f_q10 x_s52
  have f_q19 := cr_atx f_q19 x_s52
  have f_q28 := cr_atx f_q28 x_s52
  have f_q39 := cr_atx f_q39 x_s52
  intro c53
  have hc : _ ≤ c53 := hc
  clear_value c53
  intro d54
  have hd : _ ≤ d54 := hd
  clear_value d54
  refine ⟨(cr_k r_s52 f_o0).trans c_o0_2, ?_⟩
  obtain ⟨s56, e_s56, h⟩ := fg_let_s h
  intro S_s56
  have r_s56 : c_R E g (c_up (c_up b_s35 q39 A_q39) q48 A_q48) s56 S_s56 := by rw [e_s56]; exact cr_sr r_s52 f_o0 _ (cr_some f_q48)
  have x_s56 : c_ext (c_up (c_up b_s35 q39 A_q39) q48 A_q48) s52 (c_up (c_up b_s35 q39 A_q39) q48 A_q48) s56 := by rw [e_s56]; exact cx_sr _
  clear_value S_s56
  have c_o0_2 := cr_kx c_o0_2 f_o0 x_s56
  have f_o0 := cr_atx f_o0 x_s56
  have f_q1 := cr_atx f_q1 x_s56
  have f_q10 := cr_atx f_q10 x_s56
  have f_q19 := cr_atx f_q19 x_s56
  have f_q28 := cr_atx f_q28 x_s56
  have f_q39 := cr_atx f_q39 x_s56
  have f_q48 := cr_atx f_q48 x_s56
  obtain ⟨q57, e_q57, h⟩ := fg_let_s h
  obtain ⟨z_q57, h⟩ := fg_g_s h
  obtain ⟨y0_q57, h⟩ := fg_g_s h
  have y_q57 : ∀ i, i < 5 → h_k s56 ((fun i => 22 + i) i) = 0 ∧ (fun i => 22 + i) i ≠ q57 := fun i hi => ⟨y0_q57 i hi, by rw [e_q57]; simp; omega⟩
  obtain ⟨C_q57, D_q57, h, q_q57, w_q57⟩ := fg_c_s h
  obtain ⟨u1_q57, hc⟩ := fg_sp q_q57 hc
  obtain ⟨u2_q57, hd⟩ := fg_sp w_q57 hd
  refine ⟨u1_q57, u2_q57, fun A_q57 J_q57 Z_q57 Zp_q57 Zi_q57 => ?_⟩
  obtain ⟨s64, e_s64, h⟩ := fg_let_s h
  intro S_s64
  obtain ⟨b_s64, r_s64, x_s64, f_q57, _, _⟩ := cr_mn (n := 300) (N := 5) (p := (fun i => 22 + i)) r_s56 z_q57 Z_q57 (fun i hi => y_q57 i hi) Zp_q57 (fun i j _ _ e => by omega) Zi_q57 5 (Nat.le_refl _)
  rw [← e_s64] at r_s64 x_s64 f_q57
  have r_s64 : c_R E g b_s64 s64 S_s64 := r_s64
  clear_value S_s64
  have c_o0_2 := cr_kx c_o0_2 f_o0 x_s64
  have f_o0 := cr_atx f_o0 x_s64
  have f_q1 := cr_atx f_q1 x_s64
  have f_q10 := cr_atx f_q10 x_s64
  have f_q19 := cr_atx f_q19 x_s64
  have f_q28 := cr_atx f_q28 x_s64
  have f_q39 := cr_atx f_q39 x_s64
  have f_q48 := cr_atx f_q48 x_s64
  intro c65
  have hc : _ ≤ c65 := hc
  clear_value c65
  intro d66
  have hd : _ ≤ d66 := hd
  clear_value d66
  refine ⟨(cr_k r_s64 f_o0).trans c_o0_2, ?_⟩
  obtain ⟨s68, e_s68, h⟩ := fg_let_s h
  intro S_s68
  have r_s68 : c_R E g b_s64 s68 S_s68 := by rw [e_s68]; exact cr_sr r_s64 f_o0 _ (cr_some f_q57)
  have x_s68 : c_ext b_s64 s64 b_s64 s68 := by rw [e_s68]; exact cx_sr _
  clear_value S_s68
  have c_o0_2 := cr_kx c_o0_2 f_o0 x_s68
  have f_o0 := cr_atx f_o0 x_s68
  have f_q1 := cr_atx f_q1 x_s68
  have f_q10 := cr_atx f_q10 x_s68
  have f_q19 := cr_atx f_q19 x_s68
  have f_q28 := cr_atx f_q28 x_s68
  have f_q39 := cr_atx f_q39 x_s68
  have f_q48 := cr_atx f_q48 x_s68
  have f_q57 := cr_atx f_q57 x_s68
  obtain ⟨q69, e_q69, h⟩ := fg_let_s h
  obtain ⟨z_q69, h⟩ := fg_g_s h
  obtain ⟨C_q69, D_q69, h, q_q69, w_q69⟩ := fg_c_s h
  obtain ⟨u1_q69, hc⟩ := fg_sp q_q69 hc
  obtain ⟨u2_q69, hd⟩ := fg_sp w_q69 hd
  refine ⟨u1_q69, u2_q69, fun A_q69 Z_q69 => ?_⟩
  obtain ⟨s73, e_s73, h⟩ := fg_let_s h
  intro S_s73
  have r_s73 : c_R E g (c_up b_s64 q69 A_q69) s73 S_s73 := by rw [e_s73]; exact cr_nw r_s68 z_q69 Z_q69 (by decide)
  have x_s73 : c_ext b_s64 s68 (c_up b_s64 q69 A_q69) s73 := by rw [e_s73]; exact cx_new z_q69
  have f_q69 : c_at (c_up b_s64 q69 A_q69) s73 q69 A_q69 := by rw [e_s73]; exact ca_nw (by decide)
  clear_value S_s73
  have c_o0_2 := cr_kx c_o0_2 f_o0 x_s73
  have f_o0 := cr_atx f_o0 x_s73
  have f_q1 := cr_atx f_q1 x_s73
  have f_q10 := cr_atx f_q10 x_s73
  have f_q19 := cr_atx f_q19 x_s73
  have f_q28 := cr_atx f_q28 x_s73
  have f_q39 := cr_atx f_q39 x_s73
  have f_q48 := cr_atx f_q48 x_s73
  have f_q57 := cr_atx f_q57 x_s73
  intro c74
  have hc : _ ≤ c74 := hc
  clear_value c74
  intro d75
  have hd : _ ≤ d75 := hd
  clear_value d75
  refine ⟨(cr_k r_s73 f_o0).trans c_o0_2, ?_⟩
  obtain ⟨s77, e_s77, h⟩ := fg_let_s h
  intro S_s77
  have r_s77 : c_R E g (c_up b_s64 q69 A_q69) s77 S_s77 := by rw [e_s77]; exact cr_sr r_s73 f_o0 _ (cr_some f_q69)
  have x_s77 : c_ext (c_up b_s64 q69 A_q69) s73 (c_up b_s64 q69 A_q69) s77 := by rw [e_s77]; exact cx_sr _
  clear_value S_s77
  have c_o0_2 := cr_kx c_o0_2 f_o0 x_s77
  have f_o0 := cr_atx f_o0 x_s77
  have f_q1 := cr_atx f_q1 x_s77
  have f_q10 := cr_atx f_q10 x_s77
  have f_q19 := cr_atx f_q19 x_s77
  have f_q28 := cr_atx f_q28 x_s77
  have f_q39 := cr_atx f_q39 x_s77
  have f_q48 := cr_atx f_q48 x_s77
  have f_q57 := cr_atx f_q57 x_s77
  have f_q69 := cr_atx f_q69 x_s77
  obtain ⟨q78, e_q78, h⟩ := fg_let_s h
  obtain ⟨z_q78, h⟩ := fg_g_s h
  obtain ⟨C_q78, D_q78, h, q_q78, w_q78⟩ := fg_c_s h
  obtain ⟨u1_q78, hc⟩ := fg_sp q_q78 hc
  obtain ⟨u2_q78, hd⟩ := fg_sp w_q78 hd
  refine ⟨u1_q78, u2_q78, fun A_q78 Z_q78 => ?_⟩
  obtain ⟨s82, e_s82, h⟩ := fg_let_s h
  intro S_s82
  have r_s82 : c_R E g (c_up (c_up b_s64 q69 A_q69) q78 A_q78) s82 S_s82 := by rw [e_s82]; exact cr_nw r_s77 z_q78 Z_q78 (by decide)
  have x_s82 : c_ext (c_up b_s64 q69 A_q69) s77 (c_up (c_up b_s64 q69 A_q69) q78 A_q78) s82 := by rw [e_s82]; exact cx_new z_q78
  have f_q78 : c_at (c_up (c_up b_s64 q69 A_q69) q78 A_q78) s82 q78 A_q78 := by rw [e_s82]; exact ca_nw (by decide)
  clear_value S_s82
  have c_o0_2 := cr_kx c_o0_2 f_o0 x_s82
  have f_o0 := cr_atx f_o0 x_s82
  have f_q1 := cr_atx f_q1 x_s82
  have f_q10 := cr_atx f_q10 x_s82
  have f_q19 := cr_atx f_q19 x_s82
  have f_q28 := cr_atx f_q28 x_s82
  have f_q39 := cr_atx f_q39 x_s82
  have f_q48 := cr_atx f_q48 x_s82
  have f_q57 := cr_atx f_q57 x_s82
  have f_q69 := cr_atx f_q69 x_s82
  intro c83
  have hc : _ ≤ c83 := hc
  clear_value c83
  intro d84
  have hd : _ ≤ d84 := hd
  clear_value d84
  refine ⟨(cr_k r_s82 f_o0).trans c_o0_2, ?_⟩
  obtain ⟨s86, e_s86, h⟩ := fg_let_s h
  intro S_s86
  have r_s86 : c_R E g (c_up (c_up b_s64 q69 A_q69) q78 A_q78) s86 S_s86 := by rw [e_s86]; exact cr_sr r_s82 f_o0 _ (cr_some f_q78)
  have x_s86 : c_ext (c_up (c_up b_s64 q69 A_q69) q78 A_q78) s82 (c_up (c_up b_s64 q69 A_q69) q78 A_q78) s86 := by rw [e_s86]; exact cx_sr _
  clear_value S_s86
  have c_o0_2 := cr_kx c_o0_2 f_o0 x_s86
  have f_o0 := cr_atx f_o0 x_s86
  have f_q1 := cr_atx f_q1 x_s86
  have f_q10 := cr_atx f_q10 x_s86
  have f_q19 := cr_atx f_q19 x_s86
  have f_q28 := cr_atx f_q28 x_s86
  have f_q39 := cr_atx f_q39 x_s86
  have f_q48 := cr_atx f_q48 x_s86
  have f_q57 := cr_atx f_q57 x_s86
  have f_q69 := cr_atx f_q69 x_s86
  have f_q78 := cr_atx f_q78 x_s86
  obtain ⟨q87, e_q87, h⟩ := fg_let_s h
  obtain ⟨z_q87, h⟩ := fg_g_s h
  obtain ⟨C_q87, D_q87, h, q_q87, w_q87⟩ := fg_c_s h
  obtain ⟨u1_q87, hc⟩ := fg_sp q_q87 hc
  obtain ⟨u2_q87, hd⟩ := fg_sp w_q87 hd
  refine ⟨u1_q87, u2_q87, fun A_q87 Z_q87 => ?_⟩
  obtain ⟨s91, e_s91, h⟩ := fg_let_s h
  intro S_s91
  have r_s91 : c_R E g (c_up (c_up (c_up b_s64 q69 A_q69) q78 A_q78) q87 A_q87) s91 S_s91 := by rw [e_s91]; exact cr_nw r_s86 z_q87 Z_q87 (by decide)
  have x_s91 : c_ext (c_up (c_up b_s64 q69 A_q69) q78 A_q78) s86 (c_up (c_up (c_up b_s64 q69 A_q69) q78 A_q78) q87 A_q87) s91 := by rw [e_s91]; exact cx_new z_q87
  have f_q87 : c_at (c_up (c_up (c_up b_s64 q69 A_q69) q78 A_q78) q87 A_q87) s91 q87 A_q87 := by rw [e_s91]; exact ca_nw (by decide)
  clear_value S_s91
  have c_o0_2 := cr_kx c_o0_2 f_o0 x_s91
  have f_o0 := cr_atx f_o0 x_s91
  have f_q1 := cr_atx f_q1 x_s91
  have f_q10 := cr_atx f_q10 x_s91
  have f_q19 := cr_atx f_q19 x_s91
  have f_q28 := cr_atx f_q28 x_s91
  have f_q39 := cr_atx f_q39 x_s91
  have f_q48 := cr_atx f_q48 x_s91
  have f_q57 := cr_atx f_q57 x_s91
  have f_q69 := cr_atx f_q69 x_s91
  have f_q78 := cr_atx f_q78 x_s91
  intro c92
  have hc : _ ≤ c92 := hc
  clear_value c92
  intro d93
  have hd : _ ≤ d93 := hd
  clear_value d93
  refine ⟨(cr_k r_s91 f_o0).trans c_o0_2, ?_⟩
  obtain ⟨s95, e_s95, h⟩ := fg_let_s h
  intro S_s95
  have r_s95 : c_R E g (c_up (c_up (c_up b_s64 q69 A_q69) q78 A_q78) q87 A_q87) s95 S_s95 := by rw [e_s95]; exact cr_sr r_s91 f_o0 _ (cr_some f_q87)
  have x_s95 : c_ext (c_up (c_up (c_up b_s64 q69 A_q69) q78 A_q78) q87 A_q87) s91 (c_up (c_up (c_up b_s64 q69 A_q69) q78 A_q78) q87 A_q87) s95 := by rw [e_s95]; exact cx_sr _
  clear_value S_s95
  have c_o0_2 := cr_kx c_o0_2 f_o0 x_s95
  have f_o0 := cr_atx f_o0 x_s95
  have f_q1 := cr_atx f_q1 x_s95
  have f_q10 := cr_atx f_q10 x_s95
  have f_q19 := cr_atx f_q19 x_s95
  have f_q28 := cr_atx f_q28 x_s95
  have f_q39 := cr_atx f_q39 x_s95
  have f_q48 := cr_atx f_q48 x_s95
  have f_q57 := cr_atx f_q57 x_s95
  have f_q69 := cr_atx f_q69 x_s95
  have f_q78 := cr_atx f_q78 x_s95
  have f_q87 := cr_atx f_q87 x_s95
  obtain ⟨_, q⟩ := fg_retc h
  subst q
  exact hQ _ _ (cr_xt x_s5 (cr_xt x_s9 (cr_xt x_s14 (cr_xt x_s18 (cr_xt x_s23 (cr_xt x_s27 (cr_xt x_s32 (cr_xt x_s35 (cr_xt x_s38 (cr_xt x_s43 (cr_xt x_s47 (cr_xt x_s52 (cr_xt x_s56 (cr_xt x_s64 (cr_xt x_s68 (cr_xt x_s73 (cr_xt x_s77 (cr_xt x_s82 (cr_xt x_s86 (cr_xt x_s91 x_s95)))))))))))))))))))) r_s95
set_option maxRecDepth 100000 in
set_option maxHeartbeats 4000000 in
theorem ft_X7_isFull {E : h_S} {g : h_G} {r : Int32} {t : h_S} {Q : Int32 → h_S → Prop} {b : Nat → Nat} {s S_s : h_S} {A_o0 : Nat} (hR : c_R E g b s S_s) (hF : c_F s) (f_o0 : c_at b s 3 A_o0) (h : fn_X7_isFull s = some (r, t)) (hQ : ∀ (b2 : Nat → Nat) (S2 : h_S), c_ext b s b2 t → c_R E g b2 t S2 → c_F t → Q r S2) : w_X7_isFull A_o0 S_s Q := by
  unfold fn_X7_isFull at h
  unfold w_X7_isFull
  refine ⟨(cr_k hR f_o0).trans (cf_k (a := 3) hF rfl (by decide)), ?_⟩
  try simp -zeta -zetaUnused only [cr_i hR f_o0]
  refine fg_ite Iff.rfl (fun d => ?_) (fun d => ?_)
  · have h := fg_if_t d h
    unfold w_X7_isFull_14
    refine ⟨Or.inl rfl, ?_⟩
    obtain ⟨q, q2⟩ := fg_ret h
    subst q
    subst q2
    exact hQ _ _ cr_xr hR hF
  · have h := fg_if_e d h
    unfold w_X7_isFull_14
    refine ⟨Or.inr rfl, ?_⟩
    obtain ⟨q, q2⟩ := fg_ret h
    subst q
    subst q2
    exact hQ _ _ cr_xr hR hF
set_option maxRecDepth 100000 in
set_option maxHeartbeats 4000000 in
theorem ft_X7_begin {E : h_S} {g : h_G} {r : Int32} {t : h_S} {Q : Int32 → h_S → Prop} {b : Nat → Nat} {s S_s : h_S} {C0 D0 mc ms : Nat} {A_o0 : Nat} {x1 : Int32} {x2 : Int32} (hR : c_R E g b s S_s) (hF : c_F s) (f_o0 : c_at b s 3 A_o0) (h : fn_X7_begin x1 x2 s = some (r, t, C0, D0)) (hQ : ∀ (b2 : Nat → Nat) (S2 : h_S), c_ext b s b2 t → c_R E g b2 t S2 → c_F t → Q r S2) (hc : C0 ≤ mc) (hd : D0 ≤ ms) : w_X7_begin A_o0 x1 x2 S_s mc ms Q := by
  unfold fn_X7_begin at h
  unfold w_X7_begin
  refine ⟨(cr_k hR f_o0).trans (cf_k (a := 3) hF rfl (by decide)), ?_⟩
  obtain ⟨p3, s2, e_s2, h⟩ := fg_b_s h
  refine ft_X7_isFull hR hF f_o0 e_s2 (fun b_s2 S_s2 x_s2 r_s2 F_s2 => ?_)
  refine fg_ite Iff.rfl (fun d => ?_) (fun d => ?_)
  · have h := fg_if_t d h
    refine ⟨(cr_k r_s2 (cr_atx f_o0 x_s2)).trans (cf_k (a := 3) F_s2 rfl (by decide)), ?_⟩
    obtain ⟨A_a6, w_a6, f_a6⟩ := cr_aos (cr_r r_s2 (cr_atx f_o0 x_s2) _) (cf_r (a := 3) (j := 1) (y := 15) F_s2 rfl)
    refine ⟨A_a6, w_a6, ?_⟩
    refine ⟨(cr_k r_s2 f_a6).trans (cf_k (a := 15) F_s2 rfl (by decide)), ?_⟩
    try simp -zeta -zetaUnused only [cr_i r_s2 (cr_atx f_o0 x_s2)]
    obtain ⟨c, h⟩ := fg_g_s h
    refine ⟨cr_vp (cr_n r_s2 f_a6) (cf_n (a := 15) F_s2 rfl (by decide) rfl) c, ?_⟩
    obtain ⟨s9, e_s9, h⟩ := fg_let_s h
    intro S_s9
    have r_s9 : c_R E g b_s2 s9 S_s9 := by rw [e_s9]; exact cr_si r_s2 f_a6 _ _
    have F_s9 : c_F s9 := by rw [e_s9]; exact cf_si F_s2 _ _
    have x_s9 : c_ext b_s2 s2 b_s2 s9 := by rw [e_s9]; exact cx_si _ _
    clear_value S_s9
    obtain ⟨q10, e_q10, h⟩ := fg_let_s h
    have z_q10 : h_k s9 q10 = 0 := cf_z F_s9 e_q10
    obtain ⟨C_q10, D_q10, h, q_q10, w_q10⟩ := fg_c_s h
    obtain ⟨u1_q10, hc⟩ := fg_sp q_q10 hc
    obtain ⟨u2_q10, hd⟩ := fg_sp w_q10 hd
    refine ⟨u1_q10, u2_q10, fun A_q10 Z_q10 => ?_⟩
    obtain ⟨s14, e_s14, h⟩ := fg_let_s h
    intro S_s14
    have r_s14 : c_R E g (c_up b_s2 q10 A_q10) s14 S_s14 := by rw [e_s14]; exact cr_nw r_s9 z_q10 Z_q10 (by decide)
    have F_s14 : c_F s14 := by rw [e_s14]; exact cf_nw F_s9 e_q10 (by decide)
    have x_s14 : c_ext b_s2 s9 (c_up b_s2 q10 A_q10) s14 := by rw [e_s14]; exact cx_new z_q10
    have f_q10 : c_at (c_up b_s2 q10 A_q10) s14 q10 A_q10 := by rw [e_s14]; exact ca_nw (by decide)
    clear_value S_s14
    intro c15
    have hc : _ ≤ c15 := hc
    clear_value c15
    intro d16
    have hd : _ ≤ d16 := hd
    clear_value d16
    refine ⟨(cr_k r_s14 (cr_atx (cr_atx (cr_atx f_o0 x_s2) x_s9) x_s14)).trans (cf_k (a := 3) F_s14 rfl (by decide)), ?_⟩
    obtain ⟨u_, s18, e_s18, h⟩ := fg_b_s h
    refine ft_X4_init r_s14 F_s14 f_q10 (cr_r r_s14 (cr_atx (cr_atx (cr_atx f_o0 x_s2) x_s9) x_s14) _) cr_none e_s18 (fun b_s18 S_s18 x_s18 r_s18 F_s18 => ?_)
    obtain ⟨A_a20, w_a20, f_a20⟩ := cr_aos (cr_r r_s9 (cr_atx (cr_atx f_o0 x_s2) x_s9) _) (cf_r (a := 3) (j := 2) (y := 16) F_s9 rfl)
    refine ⟨A_a20, w_a20, ?_⟩
    refine ⟨(cr_k r_s18 (cr_atx (cr_atx f_a20 x_s14) x_s18)).trans (cf_k (a := 16) F_s18 rfl (by decide)), ?_⟩
    try simp -zeta -zetaUnused only [cr_i r_s9 (cr_atx (cr_atx f_o0 x_s2) x_s9)]
    obtain ⟨c, h⟩ := fg_g_s h
    refine ⟨cr_vp (cr_n r_s18 (cr_atx (cr_atx f_a20 x_s14) x_s18)) (cf_n (a := 16) F_s18 rfl (by decide) rfl) c, ?_⟩
    obtain ⟨c_q10_2, h⟩ := fg_g_s h
    refine ⟨(cr_k r_s18 (cr_atx f_q10 x_s18)).trans c_q10_2, ?_⟩
    obtain ⟨s24, e_s24, h⟩ := fg_let_s h
    intro S_s24
    have r_s24 : c_R E g b_s18 s24 S_s24 := by rw [e_s24]; exact cr_sr r_s18 (cr_atx (cr_atx f_a20 x_s14) x_s18) _ (cr_some (cr_atx f_q10 x_s18))
    have F_s24 : c_F s24 := by rw [e_s24]; exact cf_sr F_s18 (cf_k (a := 16) F_s18 rfl (by decide)) (by decide) _
    have x_s24 : c_ext b_s18 s18 b_s18 s24 := by rw [e_s24]; exact cx_sr _
    clear_value S_s24
    refine ⟨(cr_k r_s24 (cr_atx (cr_atx (cr_atx (cr_atx (cr_atx f_o0 x_s2) x_s9) x_s14) x_s18) x_s24)).trans (cf_k (a := 3) F_s24 rfl (by decide)), ?_⟩
    try simp -zeta -zetaUnused only [cr_i r_s24 (cr_atx (cr_atx (cr_atx (cr_atx (cr_atx f_o0 x_s2) x_s9) x_s14) x_s18) x_s24)]
    obtain ⟨s26, e_s26, h⟩ := fg_let_s h
    intro S_s26
    have r_s26 : c_R E g b_s18 s26 S_s26 := by rw [e_s26]; exact cr_si r_s24 (cr_atx (cr_atx (cr_atx (cr_atx (cr_atx f_o0 x_s2) x_s9) x_s14) x_s18) x_s24) _ _
    have F_s26 : c_F s26 := by rw [e_s26]; exact cf_si F_s24 _ _
    have x_s26 : c_ext b_s18 s24 b_s18 s26 := by rw [e_s26]; exact cx_si _ _
    clear_value S_s26
    try simp -zeta -zetaUnused only [cr_i r_s26 (cr_atx (cr_atx (cr_atx (cr_atx (cr_atx (cr_atx f_o0 x_s2) x_s9) x_s14) x_s18) x_s24) x_s26)]
    obtain ⟨q, q2⟩ := fg_retc h
    subst q
    subst q2
    exact hQ _ _ (cr_xt x_s2 (cr_xt x_s9 (cr_xt x_s14 (cr_xt x_s18 (cr_xt x_s24 x_s26))))) r_s26 F_s26
  · have h := fg_if_e d h
    obtain ⟨q, q2⟩ := fg_retc h
    subst q
    subst q2
    exact hQ _ _ x_s2 r_s2 F_s2
set_option maxRecDepth 100000 in
set_option maxHeartbeats 4000000 in
theorem ft_X7_ownerOf {E : h_S} {g : h_G} {r : Int32} {t : h_S} {Q : Int32 → h_S → Prop} {b : Nat → Nat} {s S_s : h_S} {A_o0 : Nat} {x1 : Int32} (hR : c_R E g b s S_s) (hF : c_F s) (f_o0 : c_at b s 3 A_o0) (h : fn_X7_ownerOf x1 s = some (r, t)) (hQ : ∀ (b2 : Nat → Nat) (S2 : h_S), c_ext b s b2 t → c_R E g b2 t S2 → c_F t → Q r S2) : w_X7_ownerOf A_o0 x1 S_s Q := by
  unfold fn_X7_ownerOf at h
  unfold w_X7_ownerOf
  refine ⟨(cr_k hR f_o0).trans (cf_k (a := 3) hF rfl (by decide)), ?_⟩
  try simp -zeta -zetaUnused only [cr_i hR f_o0]
  obtain ⟨p3, s2, e_s2, h⟩ := fg_b_s h
  refine ft_X11_within hR hF e_s2 (fun b_s2 S_s2 x_s2 r_s2 F_s2 => ?_)
  refine fg_ite Iff.rfl (fun d => ?_) (fun d => ?_)
  · have h := fg_if_t d h
    unfold w_X7_ownerOf_22
    obtain ⟨q, q2⟩ := fg_ret h
    subst q
    subst q2
    exact hQ _ _ x_s2 r_s2 F_s2
  · have h := fg_if_e d h
    refine ⟨(cr_k r_s2 (cr_atx f_o0 x_s2)).trans (cf_k (a := 3) F_s2 rfl (by decide)), ?_⟩
    obtain ⟨A_a6, w_a6, f_a6⟩ := cr_aos (cr_r r_s2 (cr_atx f_o0 x_s2) _) (cf_r (a := 3) (j := 1) (y := 15) F_s2 rfl)
    refine ⟨A_a6, w_a6, ?_⟩
    refine ⟨(cr_k r_s2 f_a6).trans (cf_k (a := 15) F_s2 rfl (by decide)), ?_⟩
    obtain ⟨c, h⟩ := fg_g_s h
    refine ⟨cr_vp (cr_n r_s2 f_a6) (cf_n (a := 15) F_s2 rfl (by decide) rfl) c, ?_⟩
    unfold w_X7_ownerOf_22
    try simp -zeta -zetaUnused only [cr_i r_s2 f_a6]
    obtain ⟨q, q2⟩ := fg_ret h
    subst q
    subst q2
    exact hQ _ _ x_s2 r_s2 F_s2
set_option maxRecDepth 100000 in
set_option maxHeartbeats 4000000 in
theorem ft_Jx4a65c_size_8abf5 {E : h_S} {g : h_G} {r : Int32} {t : h_S} {Q : Int32 → h_S → Prop} {b : Nat → Nat} {s S_s : h_S} {o0 : Nat} {A_o0 : Nat} (hR : c_R E g b s S_s) (hF : c_F s) (f_o0 : c_at b s o0 A_o0) (h : fn_Jx4a65c_size_8abf5 o0 s = some (r, t)) (hQ : ∀ (b2 : Nat → Nat) (S2 : h_S), c_ext b s b2 t → c_R E g b2 t S2 → c_F t → Q r S2) : w_Jx4a65c_size_8abf5 A_o0 S_s Q := by
  unfold fn_Jx4a65c_size_8abf5 at h
  unfold w_Jx4a65c_size_8abf5
  obtain ⟨c_o0_1, h⟩ := fg_g_s h
  refine ⟨(cr_k hR f_o0).trans c_o0_1, ?_⟩
  try simp -zeta -zetaUnused only [cr_i hR f_o0]
  obtain ⟨q, q2⟩ := fg_ret h
  subst q
  subst q2
  exact hQ _ _ cr_xr hR hF
set_option maxRecDepth 100000 in
set_option maxHeartbeats 4000000 in
theorem ft_X7_wordCount {E : h_S} {g : h_G} {r : Int32} {t : h_S} {Q : Int32 → h_S → Prop} {b : Nat → Nat} {s S_s : h_S} {A_o0 : Nat} (hR : c_R E g b s S_s) (hF : c_F s) (f_o0 : c_at b s 3 A_o0) (h : fn_X7_wordCount s = some (r, t)) (hQ : ∀ (b2 : Nat → Nat) (S2 : h_S), c_ext b s b2 t → c_R E g b2 t S2 → c_F t → Q r S2) : w_X7_wordCount A_o0 S_s Q := by
  unfold fn_X7_wordCount at h
  unfold w_X7_wordCount
  refine ⟨(cr_k hR f_o0).trans (cf_k (a := 3) hF rfl (by decide)), ?_⟩
  obtain ⟨A_a2, w_a2, f_a2⟩ := cr_aos (cr_r hR f_o0 _) (cf_r (a := 3) (j := 4) (y := 18) hF rfl)
  refine ⟨A_a2, w_a2, ?_⟩
  refine ⟨(cr_k hR f_a2).trans (cf_k (a := 18) hF rfl (by decide)), ?_⟩
  obtain ⟨p5, s4, e_s4, h⟩ := fg_b_s h
  refine ft_Jx4a65c_size_8abf5 hR hF f_a2 e_s4 (fun b_s4 S_s4 x_s4 r_s4 F_s4 => ?_)
  obtain ⟨q, q2⟩ := fg_ret h
  subst q
  subst q2
  exact hQ _ _ x_s4 r_s4 F_s4
set_option maxRecDepth 100000 in
set_option maxHeartbeats 4000000 in
theorem ft_J3_checkIndex_8e157_9 {E : h_S} {g : h_G} {r : Int32} {t : h_S} {Q : Int32 → h_S → Prop} {b : Nat → Nat} {s S_s : h_S} {x0 : Int32} {x1 : Int32} {r2 : Option Nat} {R_r2 : Option Nat} (hR : c_R E g b s S_s) (hF : c_F s) (f_r2 : c_ao b s r2 R_r2) (h : fn_J3_checkIndex_8e157_9 x0 x1 r2 s = some (r, t)) (hQ : ∀ (b2 : Nat → Nat) (S2 : h_S), c_ext b s b2 t → c_R E g b2 t S2 → c_F t → Q r S2) : w_J3_checkIndex_8e157_9 Q x0 x1 R_r2 S_s := by
  unfold fn_J3_checkIndex_8e157_9 at h
  unfold w_J3_checkIndex_8e157_9
  exact fg_none h
set_option maxRecDepth 100000 in
set_option maxHeartbeats 4000000 in
theorem ft_J3_checkIndex_8e157 {E : h_S} {g : h_G} {r : Int32} {t : h_S} {Q : Int32 → h_S → Prop} {b : Nat → Nat} {s S_s : h_S} {x0 : Int32} {x1 : Int32} {r2 : Option Nat} {R_r2 : Option Nat} (hR : c_R E g b s S_s) (hF : c_F s) (f_r2 : c_ao b s r2 R_r2) (h : fn_J3_checkIndex_8e157 x0 x1 r2 s = some (r, t)) (hQ : ∀ (b2 : Nat → Nat) (S2 : h_S), c_ext b s b2 t → c_R E g b2 t S2 → c_F t → Q r S2) : w_J3_checkIndex_8e157 x0 x1 R_r2 S_s Q := by
  unfold fn_J3_checkIndex_8e157 at h
  unfold w_J3_checkIndex_8e157
  refine fg_ite Iff.rfl (fun d => ?_) (fun d => ?_)
  · have h := fg_if_t d h
    exact ft_J3_checkIndex_8e157_9 hR hF f_r2 h (fun b2 S2 x2 => hQ b2 S2 (cr_xt cr_xr x2))
  · have h := fg_if_e d h
    refine fg_ite Iff.rfl (fun d => ?_) (fun d => ?_)
    · have h := fg_if_t d h
      obtain ⟨q, q2⟩ := fg_ret h
      subst q
      subst q2
      exact hQ _ _ cr_xr hR hF
    · have h := fg_if_e d h
      exact ft_J3_checkIndex_8e157_9 hR hF f_r2 h (fun b2 S2 x2 => hQ b2 S2 (cr_xt cr_xr x2))
set_option maxRecDepth 100000 in
set_option maxHeartbeats 4000000 in
theorem ft_J15_checkIndex_7cf53 {E : h_S} {g : h_G} {r : Int32} {t : h_S} {Q : Int32 → h_S → Prop} {b : Nat → Nat} {s S_s : h_S} {x0 : Int32} {x1 : Int32} (hR : c_R E g b s S_s) (hF : c_F s) (h : fn_J15_checkIndex_7cf53 x0 x1 s = some (r, t)) (hQ : ∀ (b2 : Nat → Nat) (S2 : h_S), c_ext b s b2 t → c_R E g b2 t S2 → c_F t → Q r S2) : w_J15_checkIndex_7cf53 x0 x1 S_s Q := by
  unfold fn_J15_checkIndex_7cf53 at h
  unfold w_J15_checkIndex_7cf53
  obtain ⟨p2, s1, e_s1, h⟩ := fg_b_s h
  refine ft_J3_checkIndex_8e157 hR hF cr_none e_s1 (fun b_s1 S_s1 x_s1 r_s1 F_s1 => ?_)
  obtain ⟨q, q2⟩ := fg_ret h
  subst q
  subst q2
  exact hQ _ _ x_s1 r_s1 F_s1
set_option maxRecDepth 100000 in
set_option maxHeartbeats 4000000 in
theorem ft_Jx4a65c_elementData_915e3 {E : h_S} {g : h_G} {r : Option Nat} {t : h_S} {Q : Option Nat → h_S → Prop} {b : Nat → Nat} {s S_s : h_S} {o0 : Nat} {A_o0 : Nat} {x1 : Int32} (hR : c_R E g b s S_s) (hF : c_F s) (f_o0 : c_at b s o0 A_o0) (h : fn_Jx4a65c_elementData_915e3 o0 x1 s = some (r, t)) (hQ : ∀ (b2 : Nat → Nat) (R2 : Option Nat) (S2 : h_S), c_ext b s b2 t → c_R E g b2 t S2 → c_F t → c_ao b2 t r R2 → Q R2 S2) : w_Jx4a65c_elementData_915e3 A_o0 x1 S_s Q := by
  unfold fn_Jx4a65c_elementData_915e3 at h
  unfold w_Jx4a65c_elementData_915e3
  obtain ⟨c_o0_1, h⟩ := fg_g_s h
  refine ⟨(cr_k hR f_o0).trans c_o0_1, ?_⟩
  obtain ⟨a2, o_a2, h⟩ := fg_o_s h
  obtain ⟨A_a2, w_a2, f_a2⟩ := cr_aos (cr_r hR f_o0 _) o_a2
  refine ⟨A_a2, w_a2, ?_⟩
  obtain ⟨c_a2_2, h⟩ := fg_g_s h
  refine ⟨(cr_k hR f_a2).trans c_a2_2, ?_⟩
  obtain ⟨c, h⟩ := fg_g_s h
  refine ⟨cr_vp (cr_n hR f_a2) rfl c, ?_⟩
  obtain ⟨q, q2⟩ := fg_ret h
  subst q
  subst q2
  exact hQ _ _ _ cr_xr hR hF (cr_r hR f_a2 _)
set_option maxRecDepth 100000 in
set_option maxHeartbeats 4000000 in
theorem ft_Jx4a65c_get_915e3 {E : h_S} {g : h_G} {r : Option Nat} {t : h_S} {Q : Option Nat → h_S → Prop} {b : Nat → Nat} {s S_s : h_S} {o0 : Nat} {A_o0 : Nat} {x1 : Int32} (hR : c_R E g b s S_s) (hF : c_F s) (f_o0 : c_at b s o0 A_o0) (h : fn_Jx4a65c_get_915e3 o0 x1 s = some (r, t)) (hQ : ∀ (b2 : Nat → Nat) (R2 : Option Nat) (S2 : h_S), c_ext b s b2 t → c_R E g b2 t S2 → c_F t → c_ao b2 t r R2 → Q R2 S2) : w_Jx4a65c_get_915e3 A_o0 x1 S_s Q := by
  unfold fn_Jx4a65c_get_915e3 at h
  unfold w_Jx4a65c_get_915e3
  obtain ⟨c_o0_1, h⟩ := fg_g_s h
  refine ⟨(cr_k hR f_o0).trans c_o0_1, ?_⟩
  try simp -zeta -zetaUnused only [cr_i hR f_o0]
  obtain ⟨p3, s2, e_s2, h⟩ := fg_b_s h
  refine ft_J15_checkIndex_7cf53 hR hF e_s2 (fun b_s2 S_s2 x_s2 r_s2 F_s2 => ?_)
  refine ⟨(cr_k r_s2 (cr_atx f_o0 x_s2)).trans (cr_kx c_o0_1 f_o0 x_s2), ?_⟩
  obtain ⟨p6, s5, e_s5, h⟩ := fg_b_s h
  refine ft_Jx4a65c_elementData_915e3 r_s2 F_s2 (cr_atx f_o0 x_s2) e_s5 (fun b_s5 R_p6 S_s5 x_s5 r_s5 F_s5 f_p6 => ?_)
  obtain ⟨q, q2⟩ := fg_ret h
  subst q
  subst q2
  exact hQ _ _ _ (cr_xt x_s2 x_s5) r_s5 F_s5 f_p6
set_option maxRecDepth 100000 in
set_option maxHeartbeats 4000000 in
theorem ft_X7_wordAt {E : h_S} {g : h_G} {r : Option Nat} {t : h_S} {Q : Option Nat → h_S → Prop} {b : Nat → Nat} {s S_s : h_S} {A_o0 : Nat} {x1 : Int32} (hR : c_R E g b s S_s) (hF : c_F s) (f_o0 : c_at b s 3 A_o0) (h : fn_X7_wordAt x1 s = some (r, t)) (hQ : ∀ (b2 : Nat → Nat) (R2 : Option Nat) (S2 : h_S), c_ext b s b2 t → c_R E g b2 t S2 → c_F t → c_ao b2 t r R2 → Q R2 S2) : w_X7_wordAt A_o0 x1 S_s Q := by
  unfold fn_X7_wordAt at h
  unfold w_X7_wordAt
  refine ⟨(cr_k hR f_o0).trans (cf_k (a := 3) hF rfl (by decide)), ?_⟩
  obtain ⟨A_a2, w_a2, f_a2⟩ := cr_aos (cr_r hR f_o0 _) (cf_r (a := 3) (j := 4) (y := 18) hF rfl)
  refine ⟨A_a2, w_a2, ?_⟩
  refine ⟨(cr_k hR f_a2).trans (cf_k (a := 18) hF rfl (by decide)), ?_⟩
  obtain ⟨p5, s4, e_s4, h⟩ := fg_b_s h
  refine ft_Jx4a65c_size_8abf5 hR hF f_a2 e_s4 (fun b_s4 S_s4 x_s4 r_s4 F_s4 => ?_)
  obtain ⟨p7, s6, e_s6, h⟩ := fg_b_s h
  refine ft_X11_within r_s4 F_s4 e_s6 (fun b_s6 S_s6 x_s6 r_s6 F_s6 => ?_)
  refine fg_ite Iff.rfl (fun d => ?_) (fun d => ?_)
  · have h := fg_if_t d h
    unfold w_X7_wordAt_29
    obtain ⟨q, q2⟩ := fg_ret h
    subst q
    subst q2
    exact hQ _ _ _ (cr_xt x_s4 x_s6) r_s6 F_s6 cr_none
  · have h := fg_if_e d h
    refine ⟨(cr_k r_s6 (cr_atx (cr_atx f_o0 x_s4) x_s6)).trans (cf_k (a := 3) F_s6 rfl (by decide)), ?_⟩
    obtain ⟨A_a10, w_a10, f_a10⟩ := cr_aos (cr_r r_s6 (cr_atx (cr_atx f_o0 x_s4) x_s6) _) (cf_r (a := 3) (j := 4) (y := 18) F_s6 rfl)
    refine ⟨A_a10, w_a10, ?_⟩
    refine ⟨(cr_k r_s6 f_a10).trans (cf_k (a := 18) F_s6 rfl (by decide)), ?_⟩
    obtain ⟨p13, s12, e_s12, h⟩ := fg_b_s h
    refine ft_Jx4a65c_get_915e3 r_s6 F_s6 f_a10 e_s12 (fun b_s12 R_p13 S_s12 x_s12 r_s12 F_s12 f_p13 => ?_)
    obtain ⟨c, h⟩ := fg_g_s h
    refine ⟨cr_cast r_s12 f_p13 c, ?_⟩
    unfold w_X7_wordAt_29
    obtain ⟨q, q2⟩ := fg_ret h
    subst q
    subst q2
    exact hQ _ _ _ (cr_xt x_s4 (cr_xt x_s6 x_s12)) r_s12 F_s12 f_p13
set_option maxRecDepth 100000 in
set_option maxHeartbeats 4000000 in
theorem ft_X10_init {E : h_S} {g : h_G} {r : Unit} {t : h_S} {Q : h_S → Prop} {b : Nat → Nat} {s S_s : h_S} {o0 : Nat} {A_o0 : Nat} {x1 : Int32} {x2 : Int32} {x3 : Int32} {x4 : Int32} {x5 : Int32} (hR : c_R E g b s S_s) (hF : c_F s) (f_o0 : c_at b s o0 A_o0) (h : fn_X10_init o0 x1 x2 x3 x4 x5 s = some (r, t)) (hQ : ∀ (b2 : Nat → Nat) (S2 : h_S), c_ext b s b2 t → c_R E g b2 t S2 → c_F t → Q S2) : w_X10_init A_o0 x1 x2 x3 x4 x5 S_s Q := by
  unfold fn_X10_init at h
  unfold w_X10_init
  obtain ⟨c_o0_1, h⟩ := fg_g_s h
  refine ⟨(cr_k hR f_o0).trans c_o0_1, ?_⟩
  obtain ⟨s2, e_s2, h⟩ := fg_let_s h
  intro S_s2
  have r_s2 : c_R E g b s2 S_s2 := by rw [e_s2]; exact cr_si hR f_o0 _ _
  have F_s2 : c_F s2 := by rw [e_s2]; exact cf_si hF _ _
  have x_s2 : c_ext b s b s2 := by rw [e_s2]; exact cx_si _ _
  clear_value S_s2
  obtain ⟨s3, e_s3, h⟩ := fg_let_s h
  intro S_s3
  have r_s3 : c_R E g b s3 S_s3 := by rw [e_s3]; exact cr_si r_s2 (cr_atx f_o0 x_s2) _ _
  have F_s3 : c_F s3 := by rw [e_s3]; exact cf_si F_s2 _ _
  have x_s3 : c_ext b s2 b s3 := by rw [e_s3]; exact cx_si _ _
  clear_value S_s3
  obtain ⟨s4, e_s4, h⟩ := fg_let_s h
  intro S_s4
  have r_s4 : c_R E g b s4 S_s4 := by rw [e_s4]; exact cr_si r_s3 (cr_atx (cr_atx f_o0 x_s2) x_s3) _ _
  have F_s4 : c_F s4 := by rw [e_s4]; exact cf_si F_s3 _ _
  have x_s4 : c_ext b s3 b s4 := by rw [e_s4]; exact cx_si _ _
  clear_value S_s4
  obtain ⟨s5, e_s5, h⟩ := fg_let_s h
  intro S_s5
  have r_s5 : c_R E g b s5 S_s5 := by rw [e_s5]; exact cr_si r_s4 (cr_atx (cr_atx (cr_atx f_o0 x_s2) x_s3) x_s4) _ _
  have F_s5 : c_F s5 := by rw [e_s5]; exact cf_si F_s4 _ _
  have x_s5 : c_ext b s4 b s5 := by rw [e_s5]; exact cx_si _ _
  clear_value S_s5
  obtain ⟨s6, e_s6, h⟩ := fg_let_s h
  intro S_s6
  have r_s6 : c_R E g b s6 S_s6 := by rw [e_s6]; exact cr_si r_s5 (cr_atx (cr_atx (cr_atx (cr_atx f_o0 x_s2) x_s3) x_s4) x_s5) _ _
  have F_s6 : c_F s6 := by rw [e_s6]; exact cf_si F_s5 _ _
  have x_s6 : c_ext b s5 b s6 := by rw [e_s6]; exact cx_si _ _
  clear_value S_s6
  obtain ⟨_, q⟩ := fg_ret h
  subst q
  exact hQ _ _ (cr_xt x_s2 (cr_xt x_s3 (cr_xt x_s4 (cr_xt x_s5 x_s6)))) r_s6 F_s6
set_option maxRecDepth 100000 in
set_option maxHeartbeats 4000000 in
theorem ft_J8_hugeLength_7cf53 {E : h_S} {g : h_G} {r : Int32} {t : h_S} {Q : Int32 → h_S → Prop} {b : Nat → Nat} {s S_s : h_S} {C0 D0 mc ms : Nat} {x0 : Int32} {x1 : Int32} (hR : c_R E g b s S_s) (hF : c_F s) (h : fn_J8_hugeLength_7cf53 x0 x1 s = some (r, t, C0, D0)) (hQ : ∀ (b2 : Nat → Nat) (S2 : h_S), c_ext b s b2 t → c_R E g b2 t S2 → c_F t → Q r S2) (hc : C0 ≤ mc) (hd : D0 ≤ ms) : w_J8_hugeLength_7cf53 x0 x1 S_s mc ms Q := by
  unfold fn_J8_hugeLength_7cf53 at h
  unfold w_J8_hugeLength_7cf53
  refine fg_ite Iff.rfl (fun d => ?_) (fun d => ?_)
  · have h := fg_if_t d h
    refine fg_ite Iff.rfl (fun d => ?_) (fun d => ?_)
    · have h := fg_if_t d h
      obtain ⟨q, q2⟩ := fg_retc h
      subst q
      subst q2
      exact hQ _ _ cr_xr hR hF
    · have h := fg_if_e d h
      obtain ⟨q, q2⟩ := fg_retc h
      subst q
      subst q2
      exact hQ _ _ cr_xr hR hF
  · have h := fg_if_e d h
    exact fg_none h
set_option maxRecDepth 100000 in
set_option maxHeartbeats 4000000 in
theorem ft_J8_newLength_cabcc_21 {E : h_S} {g : h_G} {r : Int32} {t : h_S} {Q : Int32 → h_S → Prop} {b : Nat → Nat} {s S_s : h_S} {C0 D0 bc bs : Nat} {x0 : Int32} {x1 : Int32} (hR : c_R E g b s S_s) (hF : c_F s) (h : fn_J8_newLength_cabcc_21 x0 x1 s = some (r, t, C0, D0)) (hQ : ∀ (b2 : Nat → Nat) (S2 : h_S), c_ext b s b2 t → c_R E g b2 t S2 → c_F t → Q r S2) (hc : C0 ≤ bc) (hd : D0 ≤ bs) : w_J8_newLength_cabcc_21 Q x0 x1 S_s bc bs := by
  unfold fn_J8_newLength_cabcc_21 at h
  unfold w_J8_newLength_cabcc_21
  obtain ⟨p2, s1, mc3, ms4, C_s1, D_s1, e_s1, h, q_s1, w_s1⟩ := fg_bc_s h
  obtain ⟨u1_s1, hc⟩ := fg_sp q_s1 hc
  obtain ⟨u2_s1, hd⟩ := fg_sp w_s1 hd
  refine ⟨mc3, ms4, u1_s1, u2_s1, ft_J8_hugeLength_7cf53 hR hF e_s1 (fun b_s1 S_s1 x_s1 r_s1 F_s1 => ?_) (Nat.le_refl _) (Nat.le_refl _)⟩
  obtain ⟨q, q2⟩ := fg_retc h
  subst q
  subst q2
  exact hQ _ _ x_s1 r_s1 F_s1
set_option maxRecDepth 100000 in
set_option maxHeartbeats 4000000 in
theorem ft_J8_newLength_cabcc {E : h_S} {g : h_G} {r : Int32} {t : h_S} {Q : Int32 → h_S → Prop} {b : Nat → Nat} {s S_s : h_S} {C0 D0 mc ms : Nat} {x0 : Int32} {x1 : Int32} {x2 : Int32} (hR : c_R E g b s S_s) (hF : c_F s) (h : fn_J8_newLength_cabcc x0 x1 x2 s = some (r, t, C0, D0)) (hQ : ∀ (b2 : Nat → Nat) (S2 : h_S), c_ext b s b2 t → c_R E g b2 t S2 → c_F t → Q r S2) (hc : C0 ≤ mc) (hd : D0 ≤ ms) : w_J8_newLength_cabcc x0 x1 x2 S_s mc ms Q := by
  unfold fn_J8_newLength_cabcc at h
  unfold w_J8_newLength_cabcc
  refine fg_ite Iff.rfl (fun d => ?_) (fun d => ?_)
  · have h := fg_if_t d h
    exact ft_J8_newLength_cabcc_21 hR hF h (fun b2 S2 x2 => hQ b2 S2 (cr_xt cr_xr x2)) hc hd
  · have h := fg_if_e d h
    refine fg_ite Iff.rfl (fun d => ?_) (fun d => ?_)
    · have h := fg_if_t d h
      exact ft_J8_newLength_cabcc_21 hR hF h (fun b2 S2 x2 => hQ b2 S2 (cr_xt cr_xr x2)) hc hd
    · have h := fg_if_e d h
      obtain ⟨q, q2⟩ := fg_retc h
      subst q
      subst q2
      exact hQ _ _ cr_xr hR hF
set_option maxRecDepth 100000 in
set_option maxHeartbeats 4000000 in
theorem ft_J7_copyOf_6403c {E : h_S} {g : h_G} {r : Option Nat} {t : h_S} {Q : Option Nat → h_S → Prop} {b : Nat → Nat} {s S_s : h_S} {C0 D0 mc ms : Nat} {r0 : Option Nat} {R_r0 : Option Nat} {x1 : Int32} (hR : c_R E g b s S_s) (hF : c_F s) (f_r0 : c_ao b s r0 R_r0) (h : fn_J7_copyOf_6403c r0 x1 s = some (r, t, C0, D0)) (hQ : ∀ (b2 : Nat → Nat) (R2 : Option Nat) (S2 : h_S), c_ext b s b2 t → c_R E g b2 t S2 → c_F t → c_ao b2 t r R2 → Q R2 S2) (hc : C0 ≤ mc) (hd : D0 ≤ ms) : w_J7_copyOf_6403c g R_r0 x1 (some g.2.2) S_s mc ms Q := by
  unfold fn_J7_copyOf_6403c at h
  unfold w_J7_copyOf_6403c
  rw [if_pos rfl]
  obtain ⟨c, h⟩ := fg_g_s h
  refine ⟨c, ?_⟩
  obtain ⟨c, h⟩ := fg_g_s h
  refine ⟨c, ?_⟩
  obtain ⟨q2, e_q2, h⟩ := fg_let_s h
  have z_q2 : h_k s q2 = 0 := cf_z hF e_q2
  obtain ⟨C_q2, D_q2, h, q_q2, w_q2⟩ := fg_c_s h
  obtain ⟨u1_q2, hc⟩ := fg_sp q_q2 hc
  obtain ⟨u2_q2, hd⟩ := fg_sp w_q2 hd
  refine ⟨u1_q2, u2_q2, fun A_q2 Z_q2 => ?_⟩
  obtain ⟨s8, e_s8, h⟩ := fg_let_s h
  intro S_s8
  have r_s8 : c_R E g (c_up b q2 A_q2) s8 S_s8 := by rw [e_s8]; exact cr_nw hR z_q2 Z_q2 (by decide)
  have F_s8 : c_F s8 := by rw [e_s8]; exact cf_nw hF e_q2 (by decide)
  have x_s8 : c_ext b s (c_up b q2 A_q2) s8 := by rw [e_s8]; exact cx_new z_q2
  have f_q2 : c_at (c_up b q2 A_q2) s8 q2 A_q2 := by rw [e_s8]; exact ca_nw (by decide)
  clear_value S_s8
  intro c9
  have hc : _ ≤ c9 := hc
  clear_value c9
  intro d10
  have hd : _ ≤ d10 := hd
  clear_value d10
  obtain ⟨c, h⟩ := fg_g_s h
  refine ⟨cr_is7 r_s8 (cr_aox f_r0 x_s8) c, ?_⟩
  obtain ⟨c_q2_2, h⟩ := fg_g_s h
  refine ⟨(cr_k r_s8 f_q2).trans c_q2_2, ?_⟩
  obtain ⟨a13, o_a13, h⟩ := fg_o_s h
  obtain ⟨A_a13, w_a13, f_a13⟩ := cr_aos f_r0 o_a13
  refine ⟨A_a13, w_a13, ?_⟩
  obtain ⟨c_a13_3, h⟩ := fg_g_s h
  refine ⟨(cr_k r_s8 (cr_atx f_a13 x_s8)).trans c_a13_3, ?_⟩
  obtain ⟨c, h⟩ := fg_g_s h
  refine ⟨c, ?_⟩
  obtain ⟨c, h⟩ := fg_g_s h
  refine ⟨c, ?_⟩
  try simp -zeta -zetaUnused only [cr_ln7 r_s8 (cr_aox f_r0 x_s8)]
  obtain ⟨c, h⟩ := fg_g_s h
  refine ⟨c, ?_⟩
  try simp -zeta -zetaUnused only [cr_ln7 r_s8 (cr_aox f_r0 x_s8), cr_n r_s8 (cr_atx f_a13 x_s8)]
  obtain ⟨c, h⟩ := fg_g_s h
  refine ⟨c, ?_⟩
  try simp -zeta -zetaUnused only [cr_ln7 r_s8 (cr_aox f_r0 x_s8), cr_n r_s8 f_q2]
  obtain ⟨c, h⟩ := fg_g_s h
  refine ⟨c, ?_⟩
  try simp -zeta -zetaUnused only [cr_ln7 r_s8 (cr_aox f_r0 x_s8)]
  obtain ⟨c, h⟩ := fg_g_s h
  refine ⟨cr_elems r_s8 (cr_atx f_a13 x_s8) c, ?_⟩
  try simp -zeta -zetaUnused only [cr_ln7 r_s8 (cr_aox f_r0 x_s8)]
  obtain ⟨s21, e_s21, h⟩ := fg_let_s h
  intro S_s21
  have r_s21 : c_R E g (c_up b q2 A_q2) s21 S_s21 := by rw [e_s21]; exact cr_cpR r_s8 (cr_atx f_a13 x_s8) f_q2 _ _ _
  have F_s21 : c_F s21 := by rw [e_s21]; exact cf_cpR F_s8 c_q2_2 _ _ _
  have x_s21 : c_ext (c_up b q2 A_q2) s8 (c_up b q2 A_q2) s21 := by rw [e_s21]; exact cx_cpR _ _ _
  clear_value S_s21
  obtain ⟨q, q2⟩ := fg_retc h
  subst q
  subst q2
  exact hQ _ _ _ (cr_xt x_s8 x_s21) r_s21 F_s21 (cr_some (cr_atx f_q2 x_s21))
set_option maxRecDepth 100000 in
set_option maxHeartbeats 4000000 in
theorem ft_J7_copyOf_1904c {E : h_S} {g : h_G} {r : Option Nat} {t : h_S} {Q : Option Nat → h_S → Prop} {b : Nat → Nat} {s S_s : h_S} {C0 D0 mc ms : Nat} {r0 : Option Nat} {R_r0 : Option Nat} {x1 : Int32} (hR : c_R E g b s S_s) (hF : c_F s) (f_r0 : c_ao b s r0 R_r0) (h : fn_J7_copyOf_1904c r0 x1 s = some (r, t, C0, D0)) (hQ : ∀ (b2 : Nat → Nat) (R2 : Option Nat) (S2 : h_S), c_ext b s b2 t → c_R E g b2 t S2 → c_F t → c_ao b2 t r R2 → Q R2 S2) (hc : C0 ≤ mc) (hd : D0 ≤ ms) : w_J7_copyOf_1904c g R_r0 x1 S_s mc ms Q := by
  unfold fn_J7_copyOf_1904c at h
  unfold w_J7_copyOf_1904c
  obtain ⟨a1, o_a1, h⟩ := fg_o_s h
  obtain ⟨A_a1, w_a1, f_a1⟩ := cr_aos f_r0 o_a1
  refine ⟨A_a1, w_a1, ?_⟩
  obtain ⟨c_a1_1, h⟩ := fg_g_s h
  refine ⟨(cr_k hR f_a1).trans c_a1_1, ?_⟩
  obtain ⟨p4, s3, mc5, ms6, C_s3, D_s3, e_s3, h, q_s3, w_s3⟩ := fg_bc_s h
  obtain ⟨u1_s3, hc⟩ := fg_sp q_s3 hc
  obtain ⟨u2_s3, hd⟩ := fg_sp w_s3 hd
  refine ⟨mc5, ms6, u1_s3, u2_s3, ft_J7_copyOf_6403c hR hF f_r0 e_s3 (fun b_s3 R_p4 S_s3 x_s3 r_s3 F_s3 f_p4 => ?_) (Nat.le_refl _) (Nat.le_refl _)⟩
  obtain ⟨q, q2⟩ := fg_retc h
  subst q
  subst q2
  exact hQ _ _ _ x_s3 r_s3 F_s3 f_p4
set_option maxRecDepth 100000 in
set_option maxHeartbeats 4000000 in
theorem ft_Jx4a65c_grow_92f84_20 {E : h_S} {g : h_G} {r : Option Nat} {t : h_S} {Q : Option Nat → h_S → Prop} {b : Nat → Nat} {s S_s : h_S} {C0 D0 bc bs : Nat} {o0 : Nat} {A_o0 : Nat} {x1 : Int32} {x2 : Int32} (hR : c_R E g b s S_s) (hF : c_F s) (f_o0 : c_at b s o0 A_o0) (h : fn_Jx4a65c_grow_92f84_20 o0 x1 x2 s = some (r, t, C0, D0)) (hQ : ∀ (b2 : Nat → Nat) (R2 : Option Nat) (S2 : h_S), c_ext b s b2 t → c_R E g b2 t S2 → c_F t → c_ao b2 t r R2 → Q R2 S2) (hc : C0 ≤ bc) (hd : D0 ≤ bs) : w_Jx4a65c_grow_92f84_20 g Q A_o0 x1 x2 S_s bc bs := by
  unfold fn_Jx4a65c_grow_92f84_20 at h
  unfold w_Jx4a65c_grow_92f84_20
  obtain ⟨p2, s1, mc3, ms4, C_s1, D_s1, e_s1, h, q_s1, w_s1⟩ := fg_bc_s h
  obtain ⟨u1_s1, hc⟩ := fg_sp q_s1 hc
  obtain ⟨u2_s1, hd⟩ := fg_sp w_s1 hd
  refine ⟨mc3, ms4, u1_s1, u2_s1, ft_J8_newLength_cabcc hR hF e_s1 (fun b_s1 S_s1 x_s1 r_s1 F_s1 => ?_) (Nat.le_refl _) (Nat.le_refl _)⟩
  obtain ⟨c_o0_1, h⟩ := fg_g_s h
  refine ⟨(cr_k r_s1 (cr_atx f_o0 x_s1)).trans c_o0_1, ?_⟩
  obtain ⟨p9, s8, mc10, ms11, C_s8, D_s8, e_s8, h, q_s8, w_s8⟩ := fg_bc_s h
  obtain ⟨u1_s8, hc⟩ := fg_sp q_s8 hc
  obtain ⟨u2_s8, hd⟩ := fg_sp w_s8 hd
  refine ⟨mc10, ms11, u1_s8, u2_s8, ft_J7_copyOf_1904c r_s1 F_s1 (cr_r r_s1 (cr_atx f_o0 x_s1) _) e_s8 (fun b_s8 R_p9 S_s8 x_s8 r_s8 F_s8 f_p9 => ?_) (Nat.le_refl _) (Nat.le_refl _)⟩
  refine ⟨(cr_k r_s8 (cr_atx (cr_atx f_o0 x_s1) x_s8)).trans (cr_kx c_o0_1 (cr_atx f_o0 x_s1) x_s8), ?_⟩
  obtain ⟨s15, e_s15, h⟩ := fg_let_s h
  intro S_s15
  have r_s15 : c_R E g b_s8 s15 S_s15 := by rw [e_s15]; exact cr_sr r_s8 (cr_atx (cr_atx f_o0 x_s1) x_s8) _ f_p9
  have F_s15 : c_F s15 := by rw [e_s15]; exact cf_sr F_s8 (cr_kx c_o0_1 (cr_atx f_o0 x_s1) x_s8) (by decide) _
  have x_s15 : c_ext b_s8 s8 b_s8 s15 := by rw [e_s15]; exact cx_sr _
  clear_value S_s15
  obtain ⟨q, q2⟩ := fg_retc h
  subst q
  subst q2
  exact hQ _ _ _ (cr_xt x_s1 (cr_xt x_s8 x_s15)) r_s15 F_s15 (cr_aox f_p9 x_s15)
