set_option maxRecDepth 100000 in
set_option maxHeartbeats 4000000 in
theorem ft_X7_stepsBetween_38 {E : h_S} {g : h_G} {r : Int32} {t : h_S} {Q : Int32 → h_S → Prop} {K12 : Int32 → Int32 → Int32 → Int32 → Int32 → h_S → Option ((Int32) × h_S)} {WK12 : Nat → Int32 → Int32 → Int32 → Int32 → Int32 → h_S → Prop} (hK12 : ∀ {b : Nat → Nat} {s S_s : h_S} {A_o0 : Nat} {x2 : Int32} {x3 : Int32} {x4 : Int32} {x5 : Int32} {x6 : Int32}, c_R E g b s S_s → c_F s → c_at b s 3 A_o0 → K12 x2 x3 x4 x5 x6 s = some (r, t) → (∀ (b2 : Nat → Nat) (S2 : h_S), c_ext b s b2 t → c_R E g b2 t S2 → c_F t → Q r S2) → WK12 A_o0 x2 x3 x4 x5 x6 S_s) : ∀ (n : Nat) {b : Nat → Nat} {s S_s : h_S} {A_o0 : Nat} {x2 : Int32} {x3 : Int32} {x4 : Int32} {x5 : Int32} {x6 : Int32} {x7 : Int32} {x8 : Int32}, c_R E g b s S_s → c_F s → c_at b s 3 A_o0 → fn_X7_stepsBetween_38 K12 n x2 x3 x4 x5 x6 x7 x8 s = some (r, t) → (∀ (b2 : Nat → Nat) (S2 : h_S), c_ext b s b2 t → c_R E g b2 t S2 → c_F t → Q r S2) → w_X7_stepsBetween_38 Q WK12 n A_o0 x2 x3 x4 x5 x6 x7 x8 S_s := by
  intro n
  induction n with
  | zero => intros; rename_i h _; exact fg_none h
  | succ n ih => exact ft_X7_stepsBetween_38b @hK12 @ih
set_option maxRecDepth 100000 in
set_option maxHeartbeats 4000000 in
theorem ft_X7_stepsBetween_12b {E : h_S} {g : h_G} {r : Int32} {t : h_S} {Q : Int32 → h_S → Prop} {K12 : Int32 → Int32 → Int32 → Int32 → Int32 → h_S → Option ((Int32) × h_S)} {WK12 : Nat → Int32 → Int32 → Int32 → Int32 → Int32 → h_S → Prop} (hK12 : ∀ {b : Nat → Nat} {s S_s : h_S} {A_o0 : Nat} {x2 : Int32} {x3 : Int32} {x4 : Int32} {x5 : Int32} {x6 : Int32}, c_R E g b s S_s → c_F s → c_at b s 3 A_o0 → K12 x2 x3 x4 x5 x6 s = some (r, t) → (∀ (b2 : Nat → Nat) (S2 : h_S), c_ext b s b2 t → c_R E g b2 t S2 → c_F t → Q r S2) → WK12 A_o0 x2 x3 x4 x5 x6 S_s) {b : Nat → Nat} {s S_s : h_S} {A_o0 : Nat} {x2 : Int32} {x3 : Int32} {x4 : Int32} {x5 : Int32} {x6 : Int32} (hR : c_R E g b s S_s) (hF : c_F s) (f_o0 : c_at b s 3 A_o0) (h : fn_X7_stepsBetween_12b K12 x2 x3 x4 x5 x6 s = some (r, t)) (hQ : ∀ (b2 : Nat → Nat) (S2 : h_S), c_ext b s b2 t → c_R E g b2 t S2 → c_F t → Q r S2) : w_X7_stepsBetween_12b Q WK12 A_o0 x2 x3 x4 x5 x6 S_s := by
  unfold fn_X7_stepsBetween_12b at h
  unfold w_X7_stepsBetween_12b
  refine fg_ite Iff.rfl (fun d => ?_) (fun d => ?_)
  · have h := fg_if_t d h
    obtain ⟨q, q2⟩ := fg_ret h
    subst q
    subst q2
    exact hQ _ _ cr_xr hR hF
  · have h := fg_if_e d h
    refine fg_ite Iff.rfl (fun d => ?_) (fun d => ?_)
    · have h := fg_if_t d h
      obtain ⟨q, q2⟩ := fg_ret h
      subst q
      subst q2
      exact hQ _ _ cr_xr hR hF
    · have h := fg_if_e d h
      exact ⟨g_N, ft_X7_stepsBetween_38 @hK12 g_N hR hF f_o0 h (fun b2 S2 x2 => hQ b2 S2 (cr_xt cr_xr x2))⟩
set_option maxRecDepth 100000 in
set_option maxHeartbeats 4000000 in
theorem ft_X7_stepsBetween_12 {E : h_S} {g : h_G} {r : Int32} {t : h_S} {Q : Int32 → h_S → Prop} : ∀ (n : Nat) {b : Nat → Nat} {s S_s : h_S} {A_o0 : Nat} {x2 : Int32} {x3 : Int32} {x4 : Int32} {x5 : Int32} {x6 : Int32}, c_R E g b s S_s → c_F s → c_at b s 3 A_o0 → fn_X7_stepsBetween_12 n x2 x3 x4 x5 x6 s = some (r, t) → (∀ (b2 : Nat → Nat) (S2 : h_S), c_ext b s b2 t → c_R E g b2 t S2 → c_F t → Q r S2) → w_X7_stepsBetween_12 Q n A_o0 x2 x3 x4 x5 x6 S_s := by
  intro n
  induction n with
  | zero => intros; rename_i h _; exact fg_none h
  | succ n ih => exact ft_X7_stepsBetween_12b @ih
set_option maxRecDepth 100000 in
set_option maxHeartbeats 4000000 in
theorem ft_X7_stepsBetween {E : h_S} {g : h_G} {r : Int32} {t : h_S} {Q : Int32 → h_S → Prop} {b : Nat → Nat} {s S_s : h_S} {A_o0 : Nat} {x1 : Int32} {x2 : Int32} {x3 : Int32} (hR : c_R E g b s S_s) (hF : c_F s) (f_o0 : c_at b s 3 A_o0) (h : fn_X7_stepsBetween x1 x2 x3 s = some (r, t)) (hQ : ∀ (b2 : Nat → Nat) (S2 : h_S), c_ext b s b2 t → c_R E g b2 t S2 → c_F t → Q r S2) : w_X7_stepsBetween A_o0 x1 x2 x3 S_s Q := by
  unfold fn_X7_stepsBetween at h
  unfold w_X7_stepsBetween
  obtain ⟨v1, e_v1, h⟩ := fg_let_s h
  intro S_v1
  have z_v1 : v1 = S_v1 := e_v1
  clear_value S_v1
  subst z_v1
  exact ⟨g_N, ft_X7_stepsBetween_12 g_N hR hF f_o0 h (fun b2 S2 x2 => hQ b2 S2 (cr_xt cr_xr x2))⟩
set_option maxRecDepth 100000 in
set_option maxHeartbeats 4000000 in
theorem ft_X8_init {E : h_S} {g : h_G} {r : Unit} {t : h_S} {Q : h_S → Prop} {b : Nat → Nat} {s S_s : h_S} {o0 : Nat} {A_o0 : Nat} {x1 : Int32} {x2 : Int32} {r3 : Option Nat} {R_r3 : Option Nat} (hR : c_R E g b s S_s) (hF : c_F s) (f_o0 : c_at b s o0 A_o0) (f_r3 : c_ao b s r3 R_r3) (h : fn_X8_init o0 x1 x2 r3 s = some (r, t)) (hQ : ∀ (b2 : Nat → Nat) (S2 : h_S), c_ext b s b2 t → c_R E g b2 t S2 → c_F t → Q S2) : w_X8_init A_o0 x1 x2 R_r3 S_s Q := by
  unfold fn_X8_init at h
  unfold w_X8_init
  obtain ⟨c_o0_1, h⟩ := fg_g_s h
  refine ⟨(cr_k hR f_o0).trans c_o0_1, ?_⟩
  obtain ⟨s2, e_s2, h⟩ := fg_let_s h
  intro S_s2
  have r_s2 : c_R E g b s2 S_s2 := by rw [e_s2]; exact cr_si hR f_o0 _ _
  have F_s2 : c_F s2 := by rw [e_s2]; exact cf_si hF _ _
  have x_s2 : c_ext b s b s2 := by rw [e_s2]; exact cx_si _ _
  clear_value S_s2
  obtain ⟨s3, e_s3, h⟩ := fg_let_s h
  intro S_s3
  have r_s3 : c_R E g b s3 S_s3 := by rw [e_s3]; exact cr_si r_s2 (cr_atx f_o0 x_s2) _ _
  have F_s3 : c_F s3 := by rw [e_s3]; exact cf_si F_s2 _ _
  have x_s3 : c_ext b s2 b s3 := by rw [e_s3]; exact cx_si _ _
  clear_value S_s3
  obtain ⟨s4, e_s4, h⟩ := fg_let_s h
  intro S_s4
  have r_s4 : c_R E g b s4 S_s4 := by rw [e_s4]; exact cr_si r_s3 (cr_atx (cr_atx f_o0 x_s2) x_s3) _ _
  have F_s4 : c_F s4 := by rw [e_s4]; exact cf_si F_s3 _ _
  have x_s4 : c_ext b s3 b s4 := by rw [e_s4]; exact cx_si _ _
  clear_value S_s4
  obtain ⟨s5, e_s5, h⟩ := fg_let_s h
  intro S_s5
  have r_s5 : c_R E g b s5 S_s5 := by rw [e_s5]; exact cr_si r_s4 (cr_atx (cr_atx (cr_atx f_o0 x_s2) x_s3) x_s4) _ _
  have F_s5 : c_F s5 := by rw [e_s5]; exact cf_si F_s4 _ _
  have x_s5 : c_ext b s4 b s5 := by rw [e_s5]; exact cx_si _ _
  clear_value S_s5
  obtain ⟨s6, e_s6, h⟩ := fg_let_s h
  intro S_s6
  have r_s6 : c_R E g b s6 S_s6 := by rw [e_s6]; exact cr_sr r_s5 (cr_atx (cr_atx (cr_atx (cr_atx f_o0 x_s2) x_s3) x_s4) x_s5) _ (cr_aox (cr_aox (cr_aox (cr_aox f_r3 x_s2) x_s3) x_s4) x_s5)
  have F_s6 : c_F s6 := by rw [e_s6]; exact cf_sr F_s5 (cr_kx (cr_kx (cr_kx (cr_kx c_o0_1 f_o0 x_s2) (cr_atx f_o0 x_s2) x_s3) (cr_atx (cr_atx f_o0 x_s2) x_s3) x_s4) (cr_atx (cr_atx (cr_atx f_o0 x_s2) x_s3) x_s4) x_s5) (by decide) _
  have x_s6 : c_ext b s5 b s6 := by rw [e_s6]; exact cx_sr _
  clear_value S_s6
  obtain ⟨_, q⟩ := fg_ret h
  subst q
  exact hQ _ _ (cr_xt x_s2 (cr_xt x_s3 (cr_xt x_s4 (cr_xt x_s5 x_s6)))) r_s6 F_s6
set_option maxRecDepth 100000 in
set_option maxHeartbeats 4000000 in
theorem ft_X8_kind {E : h_S} {g : h_G} {r : Int32} {t : h_S} {Q : Int32 → h_S → Prop} {b : Nat → Nat} {s S_s : h_S} {o0 : Nat} {A_o0 : Nat} (hR : c_R E g b s S_s) (hF : c_F s) (f_o0 : c_at b s o0 A_o0) (h : fn_X8_kind o0 s = some (r, t)) (hQ : ∀ (b2 : Nat → Nat) (S2 : h_S), c_ext b s b2 t → c_R E g b2 t S2 → c_F t → Q r S2) : w_X8_kind A_o0 S_s Q := by
  unfold fn_X8_kind at h
  unfold w_X8_kind
  obtain ⟨c_o0_1, h⟩ := fg_g_s h
  refine ⟨(cr_k hR f_o0).trans c_o0_1, ?_⟩
  try simp -zeta -zetaUnused only [cr_i hR f_o0]
  refine fg_ite Iff.rfl (fun d => ?_) (fun d => ?_)
  · have h := fg_if_t d h
    obtain ⟨q, q2⟩ := fg_ret h
    subst q
    subst q2
    exact hQ _ _ cr_xr hR hF
  · have h := fg_if_e d h
    refine fg_ite Iff.rfl (fun d => ?_) (fun d => ?_)
    · have h := fg_if_t d h
      unfold w_X8_kind_25
      obtain ⟨q, q2⟩ := fg_ret h
      subst q
      subst q2
      exact hQ _ _ cr_xr hR hF
    · have h := fg_if_e d h
      unfold w_X8_kind_25
      obtain ⟨q, q2⟩ := fg_ret h
      subst q
      subst q2
      exact hQ _ _ cr_xr hR hF
set_option maxRecDepth 100000 in
set_option maxHeartbeats 4000000 in
theorem ft_X8_isGivenAt {E : h_S} {g : h_G} {r : Int32} {t : h_S} {Q : Int32 → h_S → Prop} {b : Nat → Nat} {s S_s : h_S} {o0 : Nat} {A_o0 : Nat} {x1 : Int32} (hR : c_R E g b s S_s) (hF : c_F s) (f_o0 : c_at b s o0 A_o0) (h : fn_X8_isGivenAt o0 x1 s = some (r, t)) (hQ : ∀ (b2 : Nat → Nat) (S2 : h_S), c_ext b s b2 t → c_R E g b2 t S2 → c_F t → Q r S2) : w_X8_isGivenAt A_o0 x1 S_s Q := by
  unfold fn_X8_isGivenAt at h
  unfold w_X8_isGivenAt
  obtain ⟨c_o0_1, h⟩ := fg_g_s h
  refine ⟨(cr_k hR f_o0).trans c_o0_1, ?_⟩
  try simp -zeta -zetaUnused only [cr_i hR f_o0]
  refine fg_ite Iff.rfl (fun d => ?_) (fun d => ?_)
  · have h := fg_if_t d h
    unfold w_X8_isGivenAt_20
    unfold w_X8_isGivenAt_21
    refine ⟨Or.inl rfl, ?_⟩
    obtain ⟨q, q2⟩ := fg_ret h
    subst q
    subst q2
    exact hQ _ _ cr_xr hR hF
  · have h := fg_if_e d h
    refine fg_ite Iff.rfl (fun d => ?_) (fun d => ?_)
    · have h := fg_if_t d h
      unfold w_X8_isGivenAt_20
      unfold w_X8_isGivenAt_21
      refine ⟨Or.inl rfl, ?_⟩
      obtain ⟨q, q2⟩ := fg_ret h
      subst q
      subst q2
      exact hQ _ _ cr_xr hR hF
    · have h := fg_if_e d h
      unfold w_X8_isGivenAt_21
      refine ⟨Or.inr rfl, ?_⟩
      obtain ⟨q, q2⟩ := fg_ret h
      subst q
      subst q2
      exact hQ _ _ cr_xr hR hF
set_option maxRecDepth 100000 in
set_option maxHeartbeats 4000000 in
theorem ft_X8_placeAt {E : h_S} {g : h_G} {r : Int32} {t : h_S} {Q : Int32 → h_S → Prop} {b : Nat → Nat} {s S_s : h_S} {o0 : Nat} {A_o0 : Nat} {x1 : Int32} (hR : c_R E g b s S_s) (hF : c_F s) (f_o0 : c_at b s o0 A_o0) (h : fn_X8_placeAt o0 x1 s = some (r, t)) (hQ : ∀ (b2 : Nat → Nat) (S2 : h_S), c_ext b s b2 t → c_R E g b2 t S2 → c_F t → Q r S2) : w_X8_placeAt A_o0 x1 S_s Q := by
  unfold fn_X8_placeAt at h
  unfold w_X8_placeAt
  obtain ⟨c_o0_1, h⟩ := fg_g_s h
  refine ⟨(cr_k hR f_o0).trans c_o0_1, ?_⟩
  obtain ⟨a2, o_a2, h⟩ := fg_o_s h
  obtain ⟨A_a2, w_a2, f_a2⟩ := cr_aos (cr_r hR f_o0 _) o_a2
  refine ⟨A_a2, w_a2, ?_⟩
  obtain ⟨c_a2_2, h⟩ := fg_g_s h
  refine ⟨(cr_k hR f_a2).trans c_a2_2, ?_⟩
  try simp -zeta -zetaUnused only [cr_n hR f_a2]
  obtain ⟨p5, s4, e_s4, h⟩ := fg_b_s h
  refine ft_X11_within hR hF e_s4 (fun b_s4 S_s4 x_s4 r_s4 F_s4 => ?_)
  refine fg_ite Iff.rfl (fun d => ?_) (fun d => ?_)
  · have h := fg_if_t d h
    unfold w_X8_placeAt_23
    obtain ⟨q, q2⟩ := fg_ret h
    subst q
    subst q2
    exact hQ _ _ x_s4 r_s4 F_s4
  · have h := fg_if_e d h
    refine ⟨(cr_k r_s4 (cr_atx f_o0 x_s4)).trans (cr_kx c_o0_1 f_o0 x_s4), ?_⟩
    obtain ⟨a8, o_a8, h⟩ := fg_o_s h
    obtain ⟨A_a8, w_a8, f_a8⟩ := cr_aos (cr_r r_s4 (cr_atx f_o0 x_s4) _) o_a8
    refine ⟨A_a8, w_a8, ?_⟩
    obtain ⟨c_a8_3, h⟩ := fg_g_s h
    refine ⟨(cr_k r_s4 f_a8).trans c_a8_3, ?_⟩
    obtain ⟨c, h⟩ := fg_g_s h
    refine ⟨cr_vp (cr_n r_s4 f_a8) rfl c, ?_⟩
    unfold w_X8_placeAt_23
    try simp -zeta -zetaUnused only [cr_i r_s4 f_a8]
    obtain ⟨q, q2⟩ := fg_ret h
    subst q
    subst q2
    exact hQ _ _ x_s4 r_s4 F_s4
set_option maxRecDepth 100000 in
set_option maxHeartbeats 4000000 in
theorem ft_X8_gaps_13b {E : h_S} {g : h_G} {r : Int32} {t : h_S} {Q : Int32 → h_S → Prop} {K13 : Int32 → Option Nat → Int32 → Int32 → h_S → Option ((Int32) × h_S)} {WK13 : Int32 → Option Nat → Int32 → Int32 → h_S → Prop} (hK13 : ∀ {b : Nat → Nat} {s S_s : h_S} {x1 : Int32} {r2 : Option Nat} {R_r2 : Option Nat} {x3 : Int32} {x4 : Int32}, c_R E g b s S_s → c_F s → c_ao b s r2 R_r2 → K13 x1 r2 x3 x4 s = some (r, t) → (∀ (b2 : Nat → Nat) (S2 : h_S), c_ext b s b2 t → c_R E g b2 t S2 → c_F t → Q r S2) → WK13 x1 R_r2 x3 x4 S_s) {b : Nat → Nat} {s S_s : h_S} {x1 : Int32} {r2 : Option Nat} {R_r2 : Option Nat} {x3 : Int32} {x4 : Int32} (hR : c_R E g b s S_s) (hF : c_F s) (f_r2 : c_ao b s r2 R_r2) (h : fn_X8_gaps_13b K13 x1 r2 x3 x4 s = some (r, t)) (hQ : ∀ (b2 : Nat → Nat) (S2 : h_S), c_ext b s b2 t → c_R E g b2 t S2 → c_F t → Q r S2) : w_X8_gaps_13b Q WK13 x1 R_r2 x3 x4 S_s := by
  unfold fn_X8_gaps_13b at h
  unfold w_X8_gaps_13b
  refine fg_ite Iff.rfl (fun d => ?_) (fun d => ?_)
  · have h := fg_if_t d h
    obtain ⟨q, q2⟩ := fg_ret h
    subst q
    subst q2
    exact hQ _ _ cr_xr hR hF
  · have h := fg_if_e d h
    obtain ⟨a2, o_a2, h⟩ := fg_o_s h
    obtain ⟨A_a2, w_a2, f_a2⟩ := cr_aos f_r2 o_a2
    refine ⟨A_a2, w_a2, ?_⟩
    obtain ⟨c_a2_1, h⟩ := fg_g_s h
    refine ⟨(cr_k hR f_a2).trans c_a2_1, ?_⟩
    obtain ⟨c, h⟩ := fg_g_s h
    refine ⟨cr_vp (cr_n hR f_a2) rfl c, ?_⟩
    try simp -zeta -zetaUnused only [cr_i hR f_a2]
    refine fg_ite Iff.rfl (fun d => ?_) (fun d => ?_)
    · have h := fg_if_t d h
      unfold w_X8_gaps_35
      exact hK13 hR hF f_r2 h (fun b2 S2 x2 => hQ b2 S2 (cr_xt cr_xr x2))
    · have h := fg_if_e d h
      unfold w_X8_gaps_35
      exact hK13 hR hF f_r2 h (fun b2 S2 x2 => hQ b2 S2 (cr_xt cr_xr x2))
set_option maxRecDepth 100000 in
set_option maxHeartbeats 4000000 in
theorem ft_X8_gaps_13 {E : h_S} {g : h_G} {r : Int32} {t : h_S} {Q : Int32 → h_S → Prop} : ∀ (n : Nat) {b : Nat → Nat} {s S_s : h_S} {x1 : Int32} {r2 : Option Nat} {R_r2 : Option Nat} {x3 : Int32} {x4 : Int32}, c_R E g b s S_s → c_F s → c_ao b s r2 R_r2 → fn_X8_gaps_13 n x1 r2 x3 x4 s = some (r, t) → (∀ (b2 : Nat → Nat) (S2 : h_S), c_ext b s b2 t → c_R E g b2 t S2 → c_F t → Q r S2) → w_X8_gaps_13 Q n x1 R_r2 x3 x4 S_s := by
  intro n
  induction n with
  | zero => intros; rename_i h _; exact fg_none h
  | succ n ih => exact ft_X8_gaps_13b @ih
set_option maxRecDepth 100000 in
set_option maxHeartbeats 4000000 in
theorem ft_X8_gaps {E : h_S} {g : h_G} {r : Int32} {t : h_S} {Q : Int32 → h_S → Prop} {b : Nat → Nat} {s S_s : h_S} {o0 : Nat} {A_o0 : Nat} (hR : c_R E g b s S_s) (hF : c_F s) (f_o0 : c_at b s o0 A_o0) (h : fn_X8_gaps o0 s = some (r, t)) (hQ : ∀ (b2 : Nat → Nat) (S2 : h_S), c_ext b s b2 t → c_R E g b2 t S2 → c_F t → Q r S2) : w_X8_gaps A_o0 S_s Q := by
  unfold fn_X8_gaps at h
  unfold w_X8_gaps
  obtain ⟨c_o0_1, h⟩ := fg_g_s h
  refine ⟨(cr_k hR f_o0).trans c_o0_1, ?_⟩
  obtain ⟨a2, o_a2, h⟩ := fg_o_s h
  obtain ⟨A_a2, w_a2, f_a2⟩ := cr_aos (cr_r hR f_o0 _) o_a2
  refine ⟨A_a2, w_a2, ?_⟩
  obtain ⟨c_a2_2, h⟩ := fg_g_s h
  refine ⟨(cr_k hR f_a2).trans c_a2_2, ?_⟩
  try simp -zeta -zetaUnused only [cr_n hR f_a2]
  exact ⟨g_N, ft_X8_gaps_13 g_N hR hF (cr_r hR f_o0 _) h (fun b2 S2 x2 => hQ b2 S2 (cr_xt cr_xr x2))⟩
set_option maxRecDepth 100000 in
set_option maxHeartbeats 4000000 in
theorem ft_X9_init {E : h_S} {g : h_G} {r : Unit} {t : h_S} {Q : h_S → Prop} {b : Nat → Nat} {s S_s : h_S} {C0 D0 mc ms : Nat} {o0 : Nat} {A_o0 : Nat} (hR : c_R E g b s S_s) (f_o0 : c_at b s o0 A_o0) (h : fn_X9_init o0 s = some (r, t, C0, D0)) (hQ : ∀ (b2 : Nat → Nat) (S2 : h_S), c_ext b s b2 t → c_R E g b2 t S2 → Q S2) (hc : C0 ≤ mc) (hd : D0 ≤ ms) : w_X9_init A_o0 S_s mc ms Q := by
  unfold fn_X9_init at h
  unfold w_X9_init
  obtain ⟨q1, e_q1, h⟩ := fg_let_s h
  obtain ⟨z_q1, h⟩ := fg_g_s h
  obtain ⟨y0_q1, h⟩ := fg_g_s h
  have y_q1 : ∀ i, i < 2 → h_k s ((fun i => 31 + i) i) = 0 ∧ (fun i => 31 + i) i ≠ q1 := fun i hi => ⟨y0_q1 i hi, by rw [e_q1]; simp; omega⟩
  obtain ⟨C_q1, D_q1, h, q_q1, w_q1⟩ := fg_c_s h
  obtain ⟨u1_q1, hc⟩ := fg_sp q_q1 hc
  obtain ⟨u2_q1, hd⟩ := fg_sp w_q1 hd
  refine ⟨u1_q1, u2_q1, fun A_q1 J_q1 Z_q1 Zp_q1 Zi_q1 => ?_⟩
  obtain ⟨s8, e_s8, h⟩ := fg_let_s h
  intro S_s8
  obtain ⟨b_s8, r_s8, x_s8, f_q1, _, _⟩ := cr_mn (n := 301) (N := 2) (p := (fun i => 31 + i)) hR z_q1 Z_q1 (fun i hi => y_q1 i hi) Zp_q1 (fun i j _ _ e => by omega) Zi_q1 2 (Nat.le_refl _)
  rw [← e_s8] at r_s8 x_s8 f_q1
  have r_s8 : c_R E g b_s8 s8 S_s8 := r_s8
  clear_value S_s8
  have f_o0 := cr_atx f_o0 x_s8
  intro c9
  have hc : _ ≤ c9 := hc
  clear_value c9
  intro d10
  have hd : _ ≤ d10 := hd
  clear_value d10
  obtain ⟨c_o0_1, h⟩ := fg_g_s h
  refine ⟨(cr_k r_s8 f_o0).trans c_o0_1, ?_⟩
  obtain ⟨s12, e_s12, h⟩ := fg_let_s h
  intro S_s12
  have r_s12 : c_R E g b_s8 s12 S_s12 := by rw [e_s12]; exact cr_sr r_s8 f_o0 _ (cr_some f_q1)
  have x_s12 : c_ext b_s8 s8 b_s8 s12 := by rw [e_s12]; exact cx_sr _
  clear_value S_s12
  have c_o0_1 := cr_kx c_o0_1 f_o0 x_s12
  have f_o0 := cr_atx f_o0 x_s12
  have f_q1 := cr_atx f_q1 x_s12
  obtain ⟨q13, e_q13, h⟩ := fg_let_s h
  obtain ⟨z_q13, h⟩ := fg_g_s h
  obtain ⟨C_q13, D_q13, h, q_q13, w_q13⟩ := fg_c_s h
  obtain ⟨u1_q13, hc⟩ := fg_sp q_q13 hc
  obtain ⟨u2_q13, hd⟩ := fg_sp w_q13 hd
  refine ⟨u1_q13, u2_q13, fun A_q13 Z_q13 => ?_⟩
  obtain ⟨s17, e_s17, h⟩ := fg_let_s h
  intro S_s17
  have r_s17 : c_R E g (c_up b_s8 q13 A_q13) s17 S_s17 := by rw [e_s17]; exact cr_nw r_s12 z_q13 Z_q13 (by decide)
  have x_s17 : c_ext b_s8 s12 (c_up b_s8 q13 A_q13) s17 := by rw [e_s17]; exact cx_new z_q13
  have f_q13 : c_at (c_up b_s8 q13 A_q13) s17 q13 A_q13 := by rw [e_s17]; exact ca_nw (by decide)
  clear_value S_s17
  have c_o0_1 := cr_kx c_o0_1 f_o0 x_s17
  have f_o0 := cr_atx f_o0 x_s17
  have f_q1 := cr_atx f_q1 x_s17
  intro c18
  have hc : _ ≤ c18 := hc
  clear_value c18
  intro d19
  have hd : _ ≤ d19 := hd
  clear_value d19
  refine ⟨(cr_k r_s17 f_o0).trans c_o0_1, ?_⟩
  obtain ⟨s21, e_s21, h⟩ := fg_let_s h
  intro S_s21
  have r_s21 : c_R E g (c_up b_s8 q13 A_q13) s21 S_s21 := by rw [e_s21]; exact cr_sr r_s17 f_o0 _ (cr_some f_q13)
  have x_s21 : c_ext (c_up b_s8 q13 A_q13) s17 (c_up b_s8 q13 A_q13) s21 := by rw [e_s21]; exact cx_sr _
  clear_value S_s21
  have c_o0_1 := cr_kx c_o0_1 f_o0 x_s21
  have f_o0 := cr_atx f_o0 x_s21
  have f_q1 := cr_atx f_q1 x_s21
  have f_q13 := cr_atx f_q13 x_s21
  obtain ⟨q22, e_q22, h⟩ := fg_let_s h
  obtain ⟨z_q22, h⟩ := fg_g_s h
  obtain ⟨C_q22, D_q22, h, q_q22, w_q22⟩ := fg_c_s h
  obtain ⟨u1_q22, hc⟩ := fg_sp q_q22 hc
  obtain ⟨u2_q22, hd⟩ := fg_sp w_q22 hd
  refine ⟨u1_q22, u2_q22, fun A_q22 Z_q22 => ?_⟩
  obtain ⟨s26, e_s26, h⟩ := fg_let_s h
  intro S_s26
  have r_s26 : c_R E g (c_up (c_up b_s8 q13 A_q13) q22 A_q22) s26 S_s26 := by rw [e_s26]; exact cr_nw r_s21 z_q22 Z_q22 (by decide)
  have x_s26 : c_ext (c_up b_s8 q13 A_q13) s21 (c_up (c_up b_s8 q13 A_q13) q22 A_q22) s26 := by rw [e_s26]; exact cx_new z_q22
  have f_q22 : c_at (c_up (c_up b_s8 q13 A_q13) q22 A_q22) s26 q22 A_q22 := by rw [e_s26]; exact ca_nw (by decide)
  clear_value S_s26
  have c_o0_1 := cr_kx c_o0_1 f_o0 x_s26
  have f_o0 := cr_atx f_o0 x_s26
  have f_q1 := cr_atx f_q1 x_s26
  have f_q13 := cr_atx f_q13 x_s26
  intro c27
  have hc : _ ≤ c27 := hc
  clear_value c27
  intro d28
  have hd : _ ≤ d28 := hd
  clear_value d28
  refine ⟨(cr_k r_s26 f_o0).trans c_o0_1, ?_⟩
  obtain ⟨s30, e_s30, h⟩ := fg_let_s h
  intro S_s30
  have r_s30 : c_R E g (c_up (c_up b_s8 q13 A_q13) q22 A_q22) s30 S_s30 := by rw [e_s30]; exact cr_sr r_s26 f_o0 _ (cr_some f_q22)
  have x_s30 : c_ext (c_up (c_up b_s8 q13 A_q13) q22 A_q22) s26 (c_up (c_up b_s8 q13 A_q13) q22 A_q22) s30 := by rw [e_s30]; exact cx_sr _
  clear_value S_s30
  have c_o0_1 := cr_kx c_o0_1 f_o0 x_s30
  have f_o0 := cr_atx f_o0 x_s30
  have f_q1 := cr_atx f_q1 x_s30
  have f_q13 := cr_atx f_q13 x_s30
  have f_q22 := cr_atx f_q22 x_s30
  obtain ⟨q31, e_q31, h⟩ := fg_let_s h
  obtain ⟨z_q31, h⟩ := fg_g_s h
  obtain ⟨C_q31, D_q31, h, q_q31, w_q31⟩ := fg_c_s h
  obtain ⟨u1_q31, hc⟩ := fg_sp q_q31 hc
  obtain ⟨u2_q31, hd⟩ := fg_sp w_q31 hd
  refine ⟨u1_q31, u2_q31, fun A_q31 Z_q31 => ?_⟩
  obtain ⟨s35, e_s35, h⟩ := fg_let_s h
  intro S_s35
  have r_s35 : c_R E g (c_up (c_up (c_up b_s8 q13 A_q13) q22 A_q22) q31 A_q31) s35 S_s35 := by rw [e_s35]; exact cr_nw r_s30 z_q31 Z_q31 (by decide)
  have x_s35 : c_ext (c_up (c_up b_s8 q13 A_q13) q22 A_q22) s30 (c_up (c_up (c_up b_s8 q13 A_q13) q22 A_q22) q31 A_q31) s35 := by rw [e_s35]; exact cx_new z_q31
  have f_q31 : c_at (c_up (c_up (c_up b_s8 q13 A_q13) q22 A_q22) q31 A_q31) s35 q31 A_q31 := by rw [e_s35]; exact ca_nw (by decide)
  clear_value S_s35
  have c_o0_1 := cr_kx c_o0_1 f_o0 x_s35
  have f_o0 := cr_atx f_o0 x_s35
  have f_q1 := cr_atx f_q1 x_s35
  have f_q13 := cr_atx f_q13 x_s35
  have f_q22 := cr_atx f_q22 x_s35
  intro c36
  have hc : _ ≤ c36 := hc
  clear_value c36
  intro d37
  have hd : _ ≤ d37 := hd
  clear_value d37
  refine ⟨(cr_k r_s35 f_o0).trans c_o0_1, ?_⟩
  obtain ⟨s39, e_s39, h⟩ := fg_let_s h
  intro S_s39
  have r_s39 : c_R E g (c_up (c_up (c_up b_s8 q13 A_q13) q22 A_q22) q31 A_q31) s39 S_s39 := by rw [e_s39]; exact cr_sr r_s35 f_o0 _ (cr_some f_q31)
  have x_s39 : c_ext (c_up (c_up (c_up b_s8 q13 A_q13) q22 A_q22) q31 A_q31) s35 (c_up (c_up (c_up b_s8 q13 A_q13) q22 A_q22) q31 A_q31) s39 := by rw [e_s39]; exact cx_sr _
  clear_value S_s39
  have c_o0_1 := cr_kx c_o0_1 f_o0 x_s39
  have f_o0 := cr_atx f_o0 x_s39
  have f_q1 := cr_atx f_q1 x_s39
  have f_q13 := cr_atx f_q13 x_s39
  have f_q22 := cr_atx f_q22 x_s39
  have f_q31 := cr_atx f_q31 x_s39
  obtain ⟨q40, e_q40, h⟩ := fg_let_s h
  obtain ⟨z_q40, h⟩ := fg_g_s h
  obtain ⟨y0_q40, h⟩ := fg_g_s h
  have y_q40 : ∀ i, i < 2 → h_k s39 ((fun i => 37 + i) i) = 0 ∧ (fun i => 37 + i) i ≠ q40 := fun i hi => ⟨y0_q40 i hi, by rw [e_q40]; simp; omega⟩
  obtain ⟨C_q40, D_q40, h, q_q40, w_q40⟩ := fg_c_s h
  obtain ⟨u1_q40, hc⟩ := fg_sp q_q40 hc
  obtain ⟨u2_q40, hd⟩ := fg_sp w_q40 hd
  refine ⟨u1_q40, u2_q40, fun A_q40 J_q40 Z_q40 Zp_q40 Zi_q40 => ?_⟩
  obtain ⟨s47, e_s47, h⟩ := fg_let_s h
  intro S_s47
  obtain ⟨b_s47, r_s47, x_s47, f_q40, _, _⟩ := cr_mn (n := 300) (N := 2) (p := (fun i => 37 + i)) r_s39 z_q40 Z_q40 (fun i hi => y_q40 i hi) Zp_q40 (fun i j _ _ e => by omega) Zi_q40 2 (Nat.le_refl _)
  rw [← e_s47] at r_s47 x_s47 f_q40
  have r_s47 : c_R E g b_s47 s47 S_s47 := r_s47
  clear_value S_s47
  have c_o0_1 := cr_kx c_o0_1 f_o0 x_s47
  have f_o0 := cr_atx f_o0 x_s47
  have f_q1 := cr_atx f_q1 x_s47
  have f_q13 := cr_atx f_q13 x_s47
  have f_q22 := cr_atx f_q22 x_s47
  have f_q31 := cr_atx f_q31 x_s47
  intro c48
  have hc : _ ≤ c48 := hc
  clear_value c48
  intro d49
  have hd : _ ≤ d49 := hd
  clear_value d49
  refine ⟨(cr_k r_s47 f_o0).trans c_o0_1, ?_⟩
  obtain ⟨s51, e_s51, h⟩ := fg_let_s h
  intro S_s51
  have r_s51 : c_R E g b_s47 s51 S_s51 := by rw [e_s51]; exact cr_sr r_s47 f_o0 _ (cr_some f_q40)
  have x_s51 : c_ext b_s47 s47 b_s47 s51 := by rw [e_s51]; exact cx_sr _
  clear_value S_s51
  have c_o0_1 := cr_kx c_o0_1 f_o0 x_s51
  have f_o0 := cr_atx f_o0 x_s51
  have f_q1 := cr_atx f_q1 x_s51
  have f_q13 := cr_atx f_q13 x_s51
  have f_q22 := cr_atx f_q22 x_s51
  have f_q31 := cr_atx f_q31 x_s51
  have f_q40 := cr_atx f_q40 x_s51
  obtain ⟨q52, e_q52, h⟩ := fg_let_s h
  obtain ⟨z_q52, h⟩ := fg_g_s h
  obtain ⟨C_q52, D_q52, h, q_q52, w_q52⟩ := fg_c_s h
  obtain ⟨u1_q52, hc⟩ := fg_sp q_q52 hc
  obtain ⟨u2_q52, hd⟩ := fg_sp w_q52 hd
  refine ⟨u1_q52, u2_q52, fun A_q52 Z_q52 => ?_⟩
  obtain ⟨s56, e_s56, h⟩ := fg_let_s h
  intro S_s56
  have r_s56 : c_R E g (c_up b_s47 q52 A_q52) s56 S_s56 := by rw [e_s56]; exact cr_nw r_s51 z_q52 Z_q52 (by decide)
  have x_s56 : c_ext b_s47 s51 (c_up b_s47 q52 A_q52) s56 := by rw [e_s56]; exact cx_new z_q52
  have f_q52 : c_at (c_up b_s47 q52 A_q52) s56 q52 A_q52 := by rw [e_s56]; exact ca_nw (by decide)
  clear_value S_s56
  have c_o0_1 := cr_kx c_o0_1 f_o0 x_s56
  have f_o0 := cr_atx f_o0 x_s56
  have f_q1 := cr_atx f_q1 x_s56
  have f_q13 := cr_atx f_q13 x_s56
  have f_q22 := cr_atx f_q22 x_s56
  have f_q31 := cr_atx f_q31 x_s56
  have f_q40 := cr_atx f_q40 x_s56
  intro c57
  have hc : _ ≤ c57 := hc
  clear_value c57
  intro d58
  have hd : _ ≤ d58 := hd
  clear_value d58
  refine ⟨(cr_k r_s56 f_o0).trans c_o0_1, ?_⟩
  obtain ⟨s60, e_s60, h⟩ := fg_let_s h
  intro S_s60
  have r_s60 : c_R E g (c_up b_s47 q52 A_q52) s60 S_s60 := by rw [e_s60]; exact cr_sr r_s56 f_o0 _ (cr_some f_q52)
  have x_s60 : c_ext (c_up b_s47 q52 A_q52) s56 (c_up b_s47 q52 A_q52) s60 := by rw [e_s60]; exact cx_sr _
  clear_value S_s60
  have c_o0_1 := cr_kx c_o0_1 f_o0 x_s60
  have f_o0 := cr_atx f_o0 x_s60
  have f_q1 := cr_atx f_q1 x_s60
  have f_q13 := cr_atx f_q13 x_s60
  have f_q22 := cr_atx f_q22 x_s60
  have f_q31 := cr_atx f_q31 x_s60
  have f_q40 := cr_atx f_q40 x_s60
  have f_q52 := cr_atx f_q52 x_s60
  obtain ⟨q61, e_q61, h⟩ := fg_let_s h
  obtain ⟨z_q61, h⟩ := fg_g_s h
  obtain ⟨y0_q61, h⟩ := fg_g_s h
  have y_q61 : ∀ i, i < 2 → h_k s60 ((fun i => 41 + i) i) = 0 ∧ (fun i => 41 + i) i ≠ q61 := fun i hi => ⟨y0_q61 i hi, by rw [e_q61]; simp; omega⟩
  obtain ⟨C_q61, D_q61, h, q_q61, w_q61⟩ := fg_c_s h
  obtain ⟨u1_q61, hc⟩ := fg_sp q_q61 hc
  obtain ⟨u2_q61, hd⟩ := fg_sp w_q61 hd
  refine ⟨u1_q61, u2_q61, fun A_q61 J_q61 Z_q61 Zp_q61 Zi_q61 => ?_⟩
  obtain ⟨s68, e_s68, h⟩ := fg_let_s h
  intro S_s68
  obtain ⟨b_s68, r_s68, x_s68, f_q61, _, _⟩ := cr_mn (n := 301) (N := 2) (p := (fun i => 41 + i)) r_s60 z_q61 Z_q61 (fun i hi => y_q61 i hi) Zp_q61 (fun i j _ _ e => by omega) Zi_q61 2 (Nat.le_refl _)
  rw [← e_s68] at r_s68 x_s68 f_q61
  have r_s68 : c_R E g b_s68 s68 S_s68 := r_s68
  clear_value S_s68
  have c_o0_1 := cr_kx c_o0_1 f_o0 x_s68
  have f_o0 := cr_atx f_o0 x_s68
  have f_q1 := cr_atx f_q1 x_s68
  have f_q13 := cr_atx f_q13 x_s68
  have f_q22 := cr_atx f_q22 x_s68
  have f_q31 := cr_atx f_q31 x_s68
  have f_q40 := cr_atx f_q40 x_s68
  have f_q52 := cr_atx f_q52 x_s68
  intro c69
  have hc : _ ≤ c69 := hc
  clear_value c69
  intro d70
  have hd : _ ≤ d70 := hd
  clear_value d70
  refine ⟨(cr_k r_s68 f_o0).trans c_o0_1, ?_⟩
  obtain ⟨s72, e_s72, h⟩ := fg_let_s h
  intro S_s72
  have r_s72 : c_R E g b_s68 s72 S_s72 := by rw [e_s72]; exact cr_sr r_s68 f_o0 _ (cr_some f_q61)
  have x_s72 : c_ext b_s68 s68 b_s68 s72 := by rw [e_s72]; exact cx_sr _
  clear_value S_s72
  have c_o0_1 := cr_kx c_o0_1 f_o0 x_s72
  have f_o0 := cr_atx f_o0 x_s72
  have f_q1 := cr_atx f_q1 x_s72
  have f_q13 := cr_atx f_q13 x_s72
  have f_q22 := cr_atx f_q22 x_s72
  have f_q31 := cr_atx f_q31 x_s72
  have f_q40 := cr_atx f_q40 x_s72
  have f_q52 := cr_atx f_q52 x_s72
  have f_q61 := cr_atx f_q61 x_s72
  obtain ⟨q73, e_q73, h⟩ := fg_let_s h
  obtain ⟨z_q73, h⟩ := fg_g_s h
  obtain ⟨y0_q73, h⟩ := fg_g_s h
  have y_q73 : ∀ i, i < 2 → h_k s72 ((fun i => 44 + i) i) = 0 ∧ (fun i => 44 + i) i ≠ q73 := fun i hi => ⟨y0_q73 i hi, by rw [e_q73]; simp; omega⟩
  obtain ⟨C_q73, D_q73, h, q_q73, w_q73⟩ := fg_c_s h
  obtain ⟨u1_q73, hc⟩ := fg_sp q_q73 hc
  obtain ⟨u2_q73, hd⟩ := fg_sp w_q73 hd
  refine ⟨u1_q73, u2_q73, fun A_q73 J_q73 Z_q73 Zp_q73 Zi_q73 => ?_⟩
  obtain ⟨s80, e_s80, h⟩ := fg_let_s h
  intro S_s80
  obtain ⟨b_s80, r_s80, x_s80, f_q73, _, _⟩ := cr_mn (n := 301) (N := 2) (p := (fun i => 44 + i)) r_s72 z_q73 Z_q73 (fun i hi => y_q73 i hi) Zp_q73 (fun i j _ _ e => by omega) Zi_q73 2 (Nat.le_refl _)
  rw [← e_s80] at r_s80 x_s80 f_q73
  have r_s80 : c_R E g b_s80 s80 S_s80 := r_s80
  clear_value S_s80
  have c_o0_1 := cr_kx c_o0_1 f_o0 x_s80
  have f_o0 := cr_atx f_o0 x_s80
  have f_q1 := cr_atx f_q1 x_s80
  have f_q13 := cr_atx f_q13 x_s80
  have f_q22 := cr_atx f_q22 x_s80
  have f_q31 := cr_atx f_q31 x_s80
  have f_q40 := cr_atx f_q40 x_s80
  have f_q52 := cr_atx f_q52 x_s80
  have f_q61 := cr_atx f_q61 x_s80
  intro c81
  have hc : _ ≤ c81 := hc
  clear_value c81
  intro d82
  have hd : _ ≤ d82 := hd
  clear_value d82
  refine ⟨(cr_k r_s80 f_o0).trans c_o0_1, ?_⟩
  obtain ⟨s84, e_s84, h⟩ := fg_let_s h
  intro S_s84
  have r_s84 : c_R E g b_s80 s84 S_s84 := by rw [e_s84]; exact cr_sr r_s80 f_o0 _ (cr_some f_q73)
  have x_s84 : c_ext b_s80 s80 b_s80 s84 := by rw [e_s84]; exact cx_sr _
  clear_value S_s84
  have c_o0_1 := cr_kx c_o0_1 f_o0 x_s84
  have f_o0 := cr_atx f_o0 x_s84
  have f_q1 := cr_atx f_q1 x_s84
  have f_q13 := cr_atx f_q13 x_s84
  have f_q22 := cr_atx f_q22 x_s84
  have f_q31 := cr_atx f_q31 x_s84
  have f_q40 := cr_atx f_q40 x_s84
  have f_q52 := cr_atx f_q52 x_s84
  have f_q61 := cr_atx f_q61 x_s84
  have f_q73 := cr_atx f_q73 x_s84
  obtain ⟨q85, e_q85, h⟩ := fg_let_s h
  obtain ⟨z_q85, h⟩ := fg_g_s h
  obtain ⟨C_q85, D_q85, h, q_q85, w_q85⟩ := fg_c_s h
  obtain ⟨u1_q85, hc⟩ := fg_sp q_q85 hc
  obtain ⟨u2_q85, hd⟩ := fg_sp w_q85 hd
  refine ⟨u1_q85, u2_q85, fun A_q85 Z_q85 => ?_⟩
  obtain ⟨s89, e_s89, h⟩ := fg_let_s h
  intro S_s89
  have r_s89 : c_R E g (c_up b_s80 q85 A_q85) s89 S_s89 := by rw [e_s89]; exact cr_nw r_s84 z_q85 Z_q85 (by decide)
  have x_s89 : c_ext b_s80 s84 (c_up b_s80 q85 A_q85) s89 := by rw [e_s89]; exact cx_new z_q85
  have f_q85 : c_at (c_up b_s80 q85 A_q85) s89 q85 A_q85 := by rw [e_s89]; exact ca_nw (by decide)
  clear_value S_s89
  have c_o0_1 := cr_kx c_o0_1 f_o0 x_s89
  have f_o0 := cr_atx f_o0 x_s89
  have f_q1 := cr_atx f_q1 x_s89
  have f_q13 := cr_atx f_q13 x_s89
  have f_q22 := cr_atx f_q22 x_s89
  have f_q31 := cr_atx f_q31 x_s89
  have f_q40 := cr_atx f_q40 x_s89
  have f_q52 := cr_atx f_q52 x_s89
  have f_q61 := cr_atx f_q61 x_s89
  have f_q73 := cr_atx f_q73 x_s89
  intro c90
  have hc : _ ≤ c90 := hc
  clear_value c90
  intro d91
  have hd : _ ≤ d91 := hd
  clear_value d91
  refine ⟨(cr_k r_s89 f_o0).trans c_o0_1, ?_⟩
  obtain ⟨s93, e_s93, h⟩ := fg_let_s h
  intro S_s93
  have r_s93 : c_R E g (c_up b_s80 q85 A_q85) s93 S_s93 := by rw [e_s93]; exact cr_sr r_s89 f_o0 _ (cr_some f_q85)
  have x_s93 : c_ext (c_up b_s80 q85 A_q85) s89 (c_up b_s80 q85 A_q85) s93 := by rw [e_s93]; exact cx_sr _
  clear_value S_s93
  have c_o0_1 := cr_kx c_o0_1 f_o0 x_s93
  have f_o0 := cr_atx f_o0 x_s93
  have f_q1 := cr_atx f_q1 x_s93
  have f_q13 := cr_atx f_q13 x_s93
  have f_q22 := cr_atx f_q22 x_s93
  have f_q31 := cr_atx f_q31 x_s93
  have f_q40 := cr_atx f_q40 x_s93
  have f_q52 := cr_atx f_q52 x_s93
  have f_q61 := cr_atx f_q61 x_s93
  have f_q73 := cr_atx f_q73 x_s93
  have f_q85 := cr_atx f_q85 x_s93
  obtain ⟨q94, e_q94, h⟩ := fg_let_s h
  obtain ⟨z_q94, h⟩ := fg_g_s h
  obtain ⟨C_q94, D_q94, h, q_q94, w_q94⟩ := fg_c_s h
  obtain ⟨u1_q94, hc⟩ := fg_sp q_q94 hc
  obtain ⟨u2_q94, hd⟩ := fg_sp w_q94 hd
  refine ⟨u1_q94, u2_q94, fun A_q94 Z_q94 => ?_⟩
  obtain ⟨s98, e_s98, h⟩ := fg_let_s h
  intro S_s98
  have r_s98 : c_R E g (c_up (c_up b_s80 q85 A_q85) q94 A_q94) s98 S_s98 := by rw [e_s98]; exact cr_nw r_s93 z_q94 Z_q94 (by decide)
  have x_s98 : c_ext (c_up b_s80 q85 A_q85) s93 (c_up (c_up b_s80 q85 A_q85) q94 A_q94) s98 := by rw [e_s98]; exact cx_new z_q94
  have f_q94 : c_at (c_up (c_up b_s80 q85 A_q85) q94 A_q94) s98 q94 A_q94 := by rw [e_s98]; exact ca_nw (by decide)
  clear_value S_s98
  have c_o0_1 := cr_kx c_o0_1 f_o0 x_s98
  have f_o0 := cr_atx f_o0 x_s98
  have f_q1 := cr_atx f_q1 x_s98
  have f_q13 := cr_atx f_q13 x_s98
  have f_q22 := cr_atx f_q22 x_s98
  have f_q31 := cr_atx f_q31 x_s98
  have f_q40 := cr_atx f_q40 x_s98
  have f_q52 := cr_atx f_q52 x_s98
  have f_q61 := cr_atx f_q61 x_s98
  have f_q73 := cr_atx f_q73 x_s98
  have f_q85 := cr_atx f_q85 x_s98
  intro c99
  have hc : _ ≤ c99 := hc
  clear_value c99
  intro d100
  have hd : _ ≤ d100 := hd
  clear_value d100
  refine ⟨(cr_k r_s98 f_o0).trans c_o0_1, ?_⟩
  obtain ⟨s102, e_s102, h⟩ := fg_let_s h
  intro S_s102
  have r_s102 : c_R E g (c_up (c_up b_s80 q85 A_q85) q94 A_q94) s102 S_s102 := by rw [e_s102]; exact cr_sr r_s98 f_o0 _ (cr_some f_q94)
  have x_s102 : c_ext (c_up (c_up b_s80 q85 A_q85) q94 A_q94) s98 (c_up (c_up b_s80 q85 A_q85) q94 A_q94) s102 := by rw [e_s102]; exact cx_sr _
  clear_value S_s102
  have c_o0_1 := cr_kx c_o0_1 f_o0 x_s102
  have f_o0 := cr_atx f_o0 x_s102
  have f_q1 := cr_atx f_q1 x_s102
  have f_q13 := cr_atx f_q13 x_s102
  have f_q22 := cr_atx f_q22 x_s102
  have f_q31 := cr_atx f_q31 x_s102
  have f_q40 := cr_atx f_q40 x_s102
  have f_q52 := cr_atx f_q52 x_s102
  have f_q61 := cr_atx f_q61 x_s102
  have f_q73 := cr_atx f_q73 x_s102
  have f_q85 := cr_atx f_q85 x_s102
  have f_q94 := cr_atx f_q94 x_s102
  obtain ⟨q103, e_q103, h⟩ := fg_let_s h
  obtain ⟨z_q103, h⟩ := fg_g_s h
  obtain ⟨C_q103, D_q103, h, q_q103, w_q103⟩ := fg_c_s h
  obtain ⟨u1_q103, hc⟩ := fg_sp q_q103 hc
  obtain ⟨u2_q103, hd⟩ := fg_sp w_q103 hd
  refine ⟨u1_q103, u2_q103, fun A_q103 Z_q103 => ?_⟩
  obtain ⟨s107, e_s107, h⟩ := fg_let_s h
  intro S_s107
  have r_s107 : c_R E g (c_up (c_up (c_up b_s80 q85 A_q85) q94 A_q94) q103 A_q103) s107 S_s107 := by rw [e_s107]; exact cr_nw r_s102 z_q103 Z_q103 (by decide)
  have x_s107 : c_ext (c_up (c_up b_s80 q85 A_q85) q94 A_q94) s102 (c_up (c_up (c_up b_s80 q85 A_q85) q94 A_q94) q103 A_q103) s107 := by rw [e_s107]; exact cx_new z_q103
  have f_q103 : c_at (c_up (c_up (c_up b_s80 q85 A_q85) q94 A_q94) q103 A_q103) s107 q103 A_q103 := by rw [e_s107]; exact ca_nw (by decide)
  clear_value S_s107
  have c_o0_1 := cr_kx c_o0_1 f_o0 x_s107
  have f_o0 := cr_atx f_o0 x_s107
  have f_q1 := cr_atx f_q1 x_s107
  have f_q13 := cr_atx f_q13 x_s107
  have f_q22 := cr_atx f_q22 x_s107
  have f_q31 := cr_atx f_q31 x_s107
  have f_q40 := cr_atx f_q40 x_s107
  have f_q52 := cr_atx f_q52 x_s107
  have f_q61 := cr_atx f_q61 x_s107
  have f_q73 := cr_atx f_q73 x_s107
  have f_q85 := cr_atx f_q85 x_s107
  have f_q94 := cr_atx f_q94 x_s107
  intro c108
  have hc : _ ≤ c108 := hc
  clear_value c108
  intro d109
  have hd : _ ≤ d109 := hd
  clear_value d109
  refine ⟨(cr_k r_s107 f_o0).trans c_o0_1, ?_⟩
  obtain ⟨s111, e_s111, h⟩ := fg_let_s h
  intro S_s111
  have r_s111 : c_R E g (c_up (c_up (c_up b_s80 q85 A_q85) q94 A_q94) q103 A_q103) s111 S_s111 := by rw [e_s111]; exact cr_sr r_s107 f_o0 _ (cr_some f_q103)
  have x_s111 : c_ext (c_up (c_up (c_up b_s80 q85 A_q85) q94 A_q94) q103 A_q103) s107 (c_up (c_up (c_up b_s80 q85 A_q85) q94 A_q94) q103 A_q103) s111 := by rw [e_s111]; exact cx_sr _
  clear_value S_s111
  have c_o0_1 := cr_kx c_o0_1 f_o0 x_s111
  have f_o0 := cr_atx f_o0 x_s111
  have f_q1 := cr_atx f_q1 x_s111
  have f_q13 := cr_atx f_q13 x_s111
  have f_q22 := cr_atx f_q22 x_s111
  have f_q31 := cr_atx f_q31 x_s111
  have f_q40 := cr_atx f_q40 x_s111
  have f_q52 := cr_atx f_q52 x_s111
  have f_q61 := cr_atx f_q61 x_s111
  have f_q73 := cr_atx f_q73 x_s111
  have f_q85 := cr_atx f_q85 x_s111
  have f_q94 := cr_atx f_q94 x_s111
  have f_q103 := cr_atx f_q103 x_s111
  obtain ⟨q112, e_q112, h⟩ := fg_let_s h
  obtain ⟨z_q112, h⟩ := fg_g_s h
  obtain ⟨C_q112, D_q112, h, q_q112, w_q112⟩ := fg_c_s h
  obtain ⟨u1_q112, hc⟩ := fg_sp q_q112 hc
  obtain ⟨u2_q112, hd⟩ := fg_sp w_q112 hd
  refine ⟨u1_q112, u2_q112, fun A_q112 Z_q112 => ?_⟩
  obtain ⟨s116, e_s116, h⟩ := fg_let_s h
  intro S_s116
  have r_s116 : c_R E g (c_up (c_up (c_up (c_up b_s80 q85 A_q85) q94 A_q94) q103 A_q103) q112 A_q112) s116 S_s116 := by rw [e_s116]; exact cr_nw r_s111 z_q112 Z_q112 (by decide)
  have x_s116 : c_ext (c_up (c_up (c_up b_s80 q85 A_q85) q94 A_q94) q103 A_q103) s111 (c_up (c_up (c_up (c_up b_s80 q85 A_q85) q94 A_q94) q103 A_q103) q112 A_q112) s116 := by rw [e_s116]; exact cx_new z_q112
  have f_q112 : c_at (c_up (c_up (c_up (c_up b_s80 q85 A_q85) q94 A_q94) q103 A_q103) q112 A_q112) s116 q112 A_q112 := by rw [e_s116]; exact ca_nw (by decide)
  clear_value S_s116
  have c_o0_1 := cr_kx c_o0_1 f_o0 x_s116
  have f_o0 := cr_atx f_o0 x_s116
  have f_q1 := cr_atx f_q1 x_s116
  have f_q13 := cr_atx f_q13 x_s116
  have f_q22 := cr_atx f_q22 x_s116
  have f_q31 := cr_atx f_q31 x_s116
  have f_q40 := cr_atx f_q40 x_s116
  have f_q52 := cr_atx f_q52 x_s116
  have f_q61 := cr_atx f_q61 x_s116
  have f_q73 := cr_atx f_q73 x_s116
  have f_q85 := cr_atx f_q85 x_s116
  have f_q94 := cr_atx f_q94 x_s116
  have f_q103 := cr_atx f_q103 x_s116
  intro c117
  have hc : _ ≤ c117 := hc
  clear_value c117
  intro d118
  have hd : _ ≤ d118 := hd
  clear_value d118
  refine ⟨(cr_k r_s116 f_o0).trans c_o0_1, ?_⟩
  obtain ⟨s120, e_s120, h⟩ := fg_let_s h
  intro S_s120
  have r_s120 : c_R E g (c_up (c_up (c_up (c_up b_s80 q85 A_q85) q94 A_q94) q103 A_q103) q112 A_q112) s120 S_s120 := by rw [e_s120]; exact cr_sr r_s116 f_o0 _ (cr_some f_q112)
  have x_s120 : c_ext (c_up (c_up (c_up (c_up b_s80 q85 A_q85) q94 A_q94) q103 A_q103) q112 A_q112) s116 (c_up (c_up (c_up (c_up b_s80 q85 A_q85) q94 A_q94) q103 A_q103) q112 A_q112) s120 := by rw [e_s120]; exact cx_sr _
  clear_value S_s120
  have c_o0_1 := cr_kx c_o0_1 f_o0 x_s120
  have f_o0 := cr_atx f_o0 x_s120
  have f_q1 := cr_atx f_q1 x_s120
  have f_q13 := cr_atx f_q13 x_s120
  have f_q22 := cr_atx f_q22 x_s120
  have f_q31 := cr_atx f_q31 x_s120
  have f_q40 := cr_atx f_q40 x_s120
  have f_q52 := cr_atx f_q52 x_s120
  have f_q61 := cr_atx f_q61 x_s120
  have f_q73 := cr_atx f_q73 x_s120
  have f_q85 := cr_atx f_q85 x_s120
  have f_q94 := cr_atx f_q94 x_s120
  have f_q103 := cr_atx f_q103 x_s120
  have f_q112 := cr_atx f_q112 x_s120
  obtain ⟨q121, e_q121, h⟩ := fg_let_s h
  obtain ⟨z_q121, h⟩ := fg_g_s h
  obtain ⟨C_q121, D_q121, h, q_q121, w_q121⟩ := fg_c_s h
  obtain ⟨u1_q121, hc⟩ := fg_sp q_q121 hc
  obtain ⟨u2_q121, hd⟩ := fg_sp w_q121 hd
  refine ⟨u1_q121, u2_q121, fun A_q121 Z_q121 => ?_⟩
  obtain ⟨s125, e_s125, h⟩ := fg_let_s h
  intro S_s125
  have r_s125 : c_R E g (c_up (c_up (c_up (c_up (c_up b_s80 q85 A_q85) q94 A_q94) q103 A_q103) q112 A_q112) q121 A_q121) s125 S_s125 := by rw [e_s125]; exact cr_nw r_s120 z_q121 Z_q121 (by decide)
  have x_s125 : c_ext (c_up (c_up (c_up (c_up b_s80 q85 A_q85) q94 A_q94) q103 A_q103) q112 A_q112) s120 (c_up (c_up (c_up (c_up (c_up b_s80 q85 A_q85) q94 A_q94) q103 A_q103) q112 A_q112) q121 A_q121) s125 := by rw [e_s125]; exact cx_new z_q121
  have f_q121 : c_at (c_up (c_up (c_up (c_up (c_up b_s80 q85 A_q85) q94 A_q94) q103 A_q103) q112 A_q112) q121 A_q121) s125 q121 A_q121 := by rw [e_s125]; exact ca_nw (by decide)
  clear_value S_s125
  have c_o0_1 := cr_kx c_o0_1 f_o0 x_s125
  have f_o0 := cr_atx f_o0 x_s125
  have f_q1 := cr_atx f_q1 x_s125
  have f_q13 := cr_atx f_q13 x_s125
  have f_q22 := cr_atx f_q22 x_s125
  have f_q31 := cr_atx f_q31 x_s125
  have f_q40 := cr_atx f_q40 x_s125
  have f_q52 := cr_atx f_q52 x_s125
  have f_q61 := cr_atx f_q61 x_s125
  have f_q73 := cr_atx f_q73 x_s125
  have f_q85 := cr_atx f_q85 x_s125
  have f_q94 := cr_atx f_q94 x_s125
  have f_q103 := cr_atx f_q103 x_s125
  have f_q112 := cr_atx f_q112 x_s125
  intro c126
  have hc : _ ≤ c126 := hc
  clear_value c126
  intro d127
  have hd : _ ≤ d127 := hd
  clear_value d127
  refine ⟨(cr_k r_s125 f_o0).trans c_o0_1, ?_⟩
  obtain ⟨s129, e_s129, h⟩ := fg_let_s h
  intro S_s129
  have r_s129 : c_R E g (c_up (c_up (c_up (c_up (c_up b_s80 q85 A_q85) q94 A_q94) q103 A_q103) q112 A_q112) q121 A_q121) s129 S_s129 := by rw [e_s129]; exact cr_sr r_s125 f_o0 _ (cr_some f_q121)
  have x_s129 : c_ext (c_up (c_up (c_up (c_up (c_up b_s80 q85 A_q85) q94 A_q94) q103 A_q103) q112 A_q112) q121 A_q121) s125 (c_up (c_up (c_up (c_up (c_up b_s80 q85 A_q85) q94 A_q94) q103 A_q103) q112 A_q112) q121 A_q121) s129 := by rw [e_s129]; exact cx_sr _
  clear_value S_s129
  have c_o0_1 := cr_kx c_o0_1 f_o0 x_s129
  have f_o0 := cr_atx f_o0 x_s129
  have f_q1 := cr_atx f_q1 x_s129
  have f_q13 := cr_atx f_q13 x_s129
  have f_q22 := cr_atx f_q22 x_s129
  have f_q31 := cr_atx f_q31 x_s129
  have f_q40 := cr_atx f_q40 x_s129
  have f_q52 := cr_atx f_q52 x_s129
  have f_q61 := cr_atx f_q61 x_s129
  have f_q73 := cr_atx f_q73 x_s129
  have f_q85 := cr_atx f_q85 x_s129
  have f_q94 := cr_atx f_q94 x_s129
  have f_q103 := cr_atx f_q103 x_s129
  have f_q112 := cr_atx f_q112 x_s129
  have f_q121 := cr_atx f_q121 x_s129
  obtain ⟨_, q⟩ := fg_retc h
  subst q
  exact hQ _ _ (cr_xt x_s8 (cr_xt x_s12 (cr_xt x_s17 (cr_xt x_s21 (cr_xt x_s26 (cr_xt x_s30 (cr_xt x_s35 (cr_xt x_s39 (cr_xt x_s47 (cr_xt x_s51 (cr_xt x_s56 (cr_xt x_s60 (cr_xt x_s68 (cr_xt x_s72 (cr_xt x_s80 (cr_xt x_s84 (cr_xt x_s89 (cr_xt x_s93 (cr_xt x_s98 (cr_xt x_s102 (cr_xt x_s107 (cr_xt x_s111 (cr_xt x_s116 (cr_xt x_s120 (cr_xt x_s125 x_s129))))))))))))))))))))))))) r_s129
set_option maxRecDepth 100000 in
set_option maxHeartbeats 4000000 in
theorem ft_X9_alike {E : h_S} {g : h_G} {r : Int32} {t : h_S} {Q : Int32 → h_S → Prop} {b : Nat → Nat} {s S_s : h_S} {x0 : Int32} {x1 : Int32} (hR : c_R E g b s S_s) (hF : c_F s) (h : fn_X9_alike x0 x1 s = some (r, t)) (hQ : ∀ (b2 : Nat → Nat) (S2 : h_S), c_ext b s b2 t → c_R E g b2 t S2 → c_F t → Q r S2) : w_X9_alike x0 x1 S_s Q := by
  unfold fn_X9_alike at h
  unfold w_X9_alike
  refine fg_ite Iff.rfl (fun d => ?_) (fun d => ?_)
  · have h := fg_if_t d h
    refine fg_ite Iff.rfl (fun d => ?_) (fun d => ?_)
    · have h := fg_if_t d h
      unfold w_X9_alike_15
      unfold w_X9_alike_16
      refine ⟨Or.inl rfl, ?_⟩
      obtain ⟨q, q2⟩ := fg_ret h
      subst q
      subst q2
      exact hQ _ _ cr_xr hR hF
    · have h := fg_if_e d h
      unfold w_X9_alike_16
      refine ⟨Or.inr rfl, ?_⟩
      obtain ⟨q, q2⟩ := fg_ret h
      subst q
      subst q2
      exact hQ _ _ cr_xr hR hF
  · have h := fg_if_e d h
    unfold w_X9_alike_15
    unfold w_X9_alike_16
    refine ⟨Or.inl rfl, ?_⟩
    obtain ⟨q, q2⟩ := fg_ret h
    subst q
    subst q2
    exact hQ _ _ cr_xr hR hF
set_option maxRecDepth 100000 in
set_option maxHeartbeats 4000000 in
theorem ft_X9_sharedOf_153 {E : h_S} {g : h_G} {r : Int32} {t : h_S} {Q : Int32 → h_S → Prop} {K17 : Option Nat → Option Nat → Int32 → Int32 → h_S → Option ((Int32) × h_S)} {WK17 : Nat → Option Nat → Option Nat → Int32 → Int32 → h_S → Prop} (hK17 : ∀ {b : Nat → Nat} {s S_s : h_S} {A_o0 : Nat} {r1 : Option Nat} {R_r1 : Option Nat} {r3 : Option Nat} {R_r3 : Option Nat} {x4 : Int32} {x5 : Int32}, c_R E g b s S_s → c_F s → c_at b s 10 A_o0 → c_ao b s r1 R_r1 → c_ao b s r3 R_r3 → K17 r1 r3 x4 x5 s = some (r, t) → (∀ (b2 : Nat → Nat) (S2 : h_S), c_ext b s b2 t → c_R E g b2 t S2 → c_F t → Q r S2) → WK17 A_o0 R_r1 R_r3 x4 x5 S_s) {K61 : Option Nat → Option Nat → Int32 → Int32 → Option Nat → Option Nat → Int32 → Int32 → h_S → Option ((Int32) × h_S)} {WK61 : Nat → Option Nat → Option Nat → Int32 → Int32 → Option Nat → Option Nat → Int32 → Int32 → h_S → Prop} (hK61 : ∀ {b : Nat → Nat} {s S_s : h_S} {A_o0 : Nat} {r1 : Option Nat} {R_r1 : Option Nat} {r3 : Option Nat} {R_r3 : Option Nat} {x4 : Int32} {x5 : Int32} {r6 : Option Nat} {R_r6 : Option Nat} {r7 : Option Nat} {R_r7 : Option Nat} {x8 : Int32} {x9 : Int32}, c_R E g b s S_s → c_F s → c_at b s 10 A_o0 → c_ao b s r1 R_r1 → c_ao b s r3 R_r3 → c_ao b s r6 R_r6 → c_ao b s r7 R_r7 → K61 r1 r3 x4 x5 r6 r7 x8 x9 s = some (r, t) → (∀ (b2 : Nat → Nat) (S2 : h_S), c_ext b s b2 t → c_R E g b2 t S2 → c_F t → Q r S2) → WK61 A_o0 R_r1 R_r3 x4 x5 R_r6 R_r7 x8 x9 S_s) {b : Nat → Nat} {s S_s : h_S} {A_o0 : Nat} {r1 : Option Nat} {R_r1 : Option Nat} {r3 : Option Nat} {R_r3 : Option Nat} {x4 : Int32} {x5 : Int32} {r6 : Option Nat} {R_r6 : Option Nat} {r7 : Option Nat} {R_r7 : Option Nat} {x9 : Int32} {y0 : Int32} {y1 : Int32} (hR : c_R E g b s S_s) (hF : c_F s) (f_o0 : c_at b s 10 A_o0) (f_r1 : c_ao b s r1 R_r1) (f_r3 : c_ao b s r3 R_r3) (f_r6 : c_ao b s r6 R_r6) (f_r7 : c_ao b s r7 R_r7) (h : fn_X9_sharedOf_153 K17 K61 r1 r3 x4 x5 r6 r7 x9 y0 y1 s = some (r, t)) (hQ : ∀ (b2 : Nat → Nat) (S2 : h_S), c_ext b s b2 t → c_R E g b2 t S2 → c_F t → Q r S2) : w_X9_sharedOf_153 Q WK17 WK61 A_o0 R_r1 R_r3 x4 x5 R_r6 R_r7 x9 y0 y1 S_s := by
  unfold fn_X9_sharedOf_153 at h
  unfold w_X9_sharedOf_153
  refine fg_ite Iff.rfl (fun d => ?_) (fun d => ?_)
  · have h := fg_if_t d h
    refine ⟨(cr_k hR f_o0).trans (cf_k (a := 10) hF rfl (by decide)), ?_⟩
    obtain ⟨A_a3, w_a3, f_a3⟩ := cr_aos (cr_r hR f_o0 _) (cf_r (a := 10) (j := 1) (y := 33) hF rfl)
    refine ⟨A_a3, w_a3, ?_⟩
    refine ⟨(cr_k hR f_a3).trans (cf_k (a := 33) hF rfl (by decide)), ?_⟩
    obtain ⟨c, h⟩ := fg_g_s h
    refine ⟨cr_vp (cr_n hR f_a3) (cf_n (a := 33) hF rfl (by decide) rfl) c, ?_⟩
    obtain ⟨s6, e_s6, h⟩ := fg_let_s h
    intro S_s6
    have r_s6 : c_R E g b s6 S_s6 := by rw [e_s6]; exact cr_si hR f_a3 _ _
    have F_s6 : c_F s6 := by rw [e_s6]; exact cf_si hF _ _
    have x_s6 : c_ext b s b s6 := by rw [e_s6]; exact cx_si _ _
    clear_value S_s6
    unfold w_X9_sharedOf_184
    exact hK61 r_s6 F_s6 (cr_atx f_o0 x_s6) (cr_aox f_r1 x_s6) (cr_aox f_r3 x_s6) (cr_aox f_r6 x_s6) (cr_aox f_r7 x_s6) h (fun b2 S2 x2 => hQ b2 S2 (cr_xt x_s6 x2))
  · have h := fg_if_e d h
    unfold w_X9_sharedOf_184
    exact hK61 hR hF f_o0 f_r1 f_r3 f_r6 f_r7 h (fun b2 S2 x2 => hQ b2 S2 (cr_xt cr_xr x2))
set_option maxRecDepth 100000 in
set_option maxHeartbeats 4000000 in
theorem ft_X9_sharedOf_138 {E : h_S} {g : h_G} {r : Int32} {t : h_S} {Q : Int32 → h_S → Prop} {K17 : Option Nat → Option Nat → Int32 → Int32 → h_S → Option ((Int32) × h_S)} {WK17 : Nat → Option Nat → Option Nat → Int32 → Int32 → h_S → Prop} (hK17 : ∀ {b : Nat → Nat} {s S_s : h_S} {A_o0 : Nat} {r1 : Option Nat} {R_r1 : Option Nat} {r3 : Option Nat} {R_r3 : Option Nat} {x4 : Int32} {x5 : Int32}, c_R E g b s S_s → c_F s → c_at b s 10 A_o0 → c_ao b s r1 R_r1 → c_ao b s r3 R_r3 → K17 r1 r3 x4 x5 s = some (r, t) → (∀ (b2 : Nat → Nat) (S2 : h_S), c_ext b s b2 t → c_R E g b2 t S2 → c_F t → Q r S2) → WK17 A_o0 R_r1 R_r3 x4 x5 S_s) {K61 : Option Nat → Option Nat → Int32 → Int32 → Option Nat → Option Nat → Int32 → Int32 → h_S → Option ((Int32) × h_S)} {WK61 : Nat → Option Nat → Option Nat → Int32 → Int32 → Option Nat → Option Nat → Int32 → Int32 → h_S → Prop} (hK61 : ∀ {b : Nat → Nat} {s S_s : h_S} {A_o0 : Nat} {r1 : Option Nat} {R_r1 : Option Nat} {r3 : Option Nat} {R_r3 : Option Nat} {x4 : Int32} {x5 : Int32} {r6 : Option Nat} {R_r6 : Option Nat} {r7 : Option Nat} {R_r7 : Option Nat} {x8 : Int32} {x9 : Int32}, c_R E g b s S_s → c_F s → c_at b s 10 A_o0 → c_ao b s r1 R_r1 → c_ao b s r3 R_r3 → c_ao b s r6 R_r6 → c_ao b s r7 R_r7 → K61 r1 r3 x4 x5 r6 r7 x8 x9 s = some (r, t) → (∀ (b2 : Nat → Nat) (S2 : h_S), c_ext b s b2 t → c_R E g b2 t S2 → c_F t → Q r S2) → WK61 A_o0 R_r1 R_r3 x4 x5 R_r6 R_r7 x8 x9 S_s) {b : Nat → Nat} {s S_s : h_S} {A_o0 : Nat} {r1 : Option Nat} {R_r1 : Option Nat} {r3 : Option Nat} {R_r3 : Option Nat} {x4 : Int32} {x5 : Int32} {r6 : Option Nat} {R_r6 : Option Nat} {r7 : Option Nat} {R_r7 : Option Nat} {x8 : Int32} {x9 : Int32} {x10 : Int32} {y0 : Int32} {y1 : Int32} {t2 : Option Nat} {R_t2 : Option Nat} (hR : c_R E g b s S_s) (hF : c_F s) (f_o0 : c_at b s 10 A_o0) (f_r1 : c_ao b s r1 R_r1) (f_r3 : c_ao b s r3 R_r3) (f_r6 : c_ao b s r6 R_r6) (f_r7 : c_ao b s r7 R_r7) (f_t2 : c_ao b s t2 R_t2) (h : fn_X9_sharedOf_138 K17 K61 r1 r3 x4 x5 r6 r7 x8 x9 x10 y0 y1 t2 s = some (r, t)) (hQ : ∀ (b2 : Nat → Nat) (S2 : h_S), c_ext b s b2 t → c_R E g b2 t S2 → c_F t → Q r S2) : w_X9_sharedOf_138 Q WK17 WK61 A_o0 R_r1 R_r3 x4 x5 R_r6 R_r7 x8 x9 x10 y0 y1 R_t2 S_s := by
  unfold fn_X9_sharedOf_138 at h
  unfold w_X9_sharedOf_138
  obtain ⟨a1, o_a1, h⟩ := fg_o_s h
  obtain ⟨A_a1, w_a1, f_a1⟩ := cr_aos f_t2 o_a1
  refine ⟨A_a1, w_a1, ?_⟩
  obtain ⟨c_a1_1, h⟩ := fg_g_s h
  refine ⟨(cr_k hR f_a1).trans c_a1_1, ?_⟩
  obtain ⟨c, h⟩ := fg_g_s h
  refine ⟨cr_vp (cr_n hR f_a1) rfl c, ?_⟩
  obtain ⟨s4, e_s4, h⟩ := fg_let_s h
  intro S_s4
  have r_s4 : c_R E g b s4 S_s4 := by rw [e_s4]; exact cr_si hR f_a1 _ _
  have F_s4 : c_F s4 := by rw [e_s4]; exact cf_si hF _ _
  have x_s4 : c_ext b s b s4 := by rw [e_s4]; exact cx_si _ _
  clear_value S_s4
  refine fg_ite Iff.rfl (fun d => ?_) (fun d => ?_)
  · have h := fg_if_t d h
    exact ft_X9_sharedOf_153 @hK17 @hK61 r_s4 F_s4 (cr_atx f_o0 x_s4) (cr_aox f_r1 x_s4) (cr_aox f_r3 x_s4) (cr_aox f_r6 x_s4) (cr_aox f_r7 x_s4) h (fun b2 S2 x2 => hQ b2 S2 (cr_xt x_s4 x2))
  · have h := fg_if_e d h
    exact ft_X9_sharedOf_153 @hK17 @hK61 r_s4 F_s4 (cr_atx f_o0 x_s4) (cr_aox f_r1 x_s4) (cr_aox f_r3 x_s4) (cr_aox f_r6 x_s4) (cr_aox f_r7 x_s4) h (fun b2 S2 x2 => hQ b2 S2 (cr_xt x_s4 x2))
set_option maxRecDepth 100000 in
set_option maxHeartbeats 4000000 in
theorem ft_X9_sharedOf_86 {E : h_S} {g : h_G} {r : Int32} {t : h_S} {Q : Int32 → h_S → Prop} {K17 : Option Nat → Option Nat → Int32 → Int32 → h_S → Option ((Int32) × h_S)} {WK17 : Nat → Option Nat → Option Nat → Int32 → Int32 → h_S → Prop} (hK17 : ∀ {b : Nat → Nat} {s S_s : h_S} {A_o0 : Nat} {r1 : Option Nat} {R_r1 : Option Nat} {r3 : Option Nat} {R_r3 : Option Nat} {x4 : Int32} {x5 : Int32}, c_R E g b s S_s → c_F s → c_at b s 10 A_o0 → c_ao b s r1 R_r1 → c_ao b s r3 R_r3 → K17 r1 r3 x4 x5 s = some (r, t) → (∀ (b2 : Nat → Nat) (S2 : h_S), c_ext b s b2 t → c_R E g b2 t S2 → c_F t → Q r S2) → WK17 A_o0 R_r1 R_r3 x4 x5 S_s) {K61 : Option Nat → Option Nat → Int32 → Int32 → Option Nat → Option Nat → Int32 → Int32 → h_S → Option ((Int32) × h_S)} {WK61 : Nat → Option Nat → Option Nat → Int32 → Int32 → Option Nat → Option Nat → Int32 → Int32 → h_S → Prop} (hK61 : ∀ {b : Nat → Nat} {s S_s : h_S} {A_o0 : Nat} {r1 : Option Nat} {R_r1 : Option Nat} {r3 : Option Nat} {R_r3 : Option Nat} {x4 : Int32} {x5 : Int32} {r6 : Option Nat} {R_r6 : Option Nat} {r7 : Option Nat} {R_r7 : Option Nat} {x8 : Int32} {x9 : Int32}, c_R E g b s S_s → c_F s → c_at b s 10 A_o0 → c_ao b s r1 R_r1 → c_ao b s r3 R_r3 → c_ao b s r6 R_r6 → c_ao b s r7 R_r7 → K61 r1 r3 x4 x5 r6 r7 x8 x9 s = some (r, t) → (∀ (b2 : Nat → Nat) (S2 : h_S), c_ext b s b2 t → c_R E g b2 t S2 → c_F t → Q r S2) → WK61 A_o0 R_r1 R_r3 x4 x5 R_r6 R_r7 x8 x9 S_s) {b : Nat → Nat} {s S_s : h_S} {A_o0 : Nat} {r1 : Option Nat} {R_r1 : Option Nat} {r3 : Option Nat} {R_r3 : Option Nat} {x4 : Int32} {x5 : Int32} {r6 : Option Nat} {R_r6 : Option Nat} {r7 : Option Nat} {R_r7 : Option Nat} {x8 : Int32} {x9 : Int32} {y0 : Int32} (hR : c_R E g b s S_s) (hF : c_F s) (f_o0 : c_at b s 10 A_o0) (f_r1 : c_ao b s r1 R_r1) (f_r3 : c_ao b s r3 R_r3) (f_r6 : c_ao b s r6 R_r6) (f_r7 : c_ao b s r7 R_r7) (h : fn_X9_sharedOf_86 K17 K61 r1 r3 x4 x5 r6 r7 x8 x9 y0 s = some (r, t)) (hQ : ∀ (b2 : Nat → Nat) (S2 : h_S), c_ext b s b2 t → c_R E g b2 t S2 → c_F t → Q r S2) : w_X9_sharedOf_86 Q WK17 WK61 A_o0 R_r1 R_r3 x4 x5 R_r6 R_r7 x8 x9 y0 S_s := by
  unfold fn_X9_sharedOf_86 at h
  unfold w_X9_sharedOf_86
  obtain ⟨a1, o_a1, h⟩ := fg_o_s h
  obtain ⟨A_a1, w_a1, f_a1⟩ := cr_aos f_r1 o_a1
  refine ⟨A_a1, w_a1, ?_⟩
  obtain ⟨c_a1_1, h⟩ := fg_g_s h
  refine ⟨(cr_k hR f_a1).trans c_a1_1, ?_⟩
  obtain ⟨c, h⟩ := fg_g_s h
  refine ⟨cr_vp (cr_n hR f_a1) rfl c, ?_⟩
  obtain ⟨a4, o_a4, h⟩ := fg_o_s h
  obtain ⟨A_a4, w_a4, f_a4⟩ := cr_aos f_r3 o_a4
  refine ⟨A_a4, w_a4, ?_⟩
  obtain ⟨c_a4_2, h⟩ := fg_g_s h
  refine ⟨(cr_k hR f_a4).trans c_a4_2, ?_⟩
  obtain ⟨c, h⟩ := fg_g_s h
  refine ⟨cr_vp (cr_n hR f_a4) rfl c, ?_⟩
  try simp -zeta -zetaUnused only [cr_i hR f_a1, cr_i hR f_a4]
  obtain ⟨p8, s7, e_s7, h⟩ := fg_b_s h
  refine ft_X9_alike hR hF e_s7 (fun b_s7 S_s7 x_s7 r_s7 F_s7 => ?_)
  refine fg_ite Iff.rfl (fun d => ?_) (fun d => ?_)
  · have h := fg_if_t d h
    refine fg_ite Iff.rfl (fun d => ?_) (fun d => ?_)
    · have h := fg_if_t d h
      obtain ⟨a11, o_a11, h⟩ := fg_o_s h
      obtain ⟨A_a11, w_a11, f_a11⟩ := cr_aos f_r7 o_a11
      refine ⟨A_a11, w_a11, ?_⟩
      obtain ⟨c_a11_3, h⟩ := fg_g_s h
      refine ⟨(cr_k r_s7 (cr_atx f_a11 x_s7)).trans c_a11_3, ?_⟩
      obtain ⟨c, h⟩ := fg_g_s h
      refine ⟨cr_vp (cr_n r_s7 (cr_atx f_a11 x_s7)) rfl c, ?_⟩
      try simp -zeta -zetaUnused only [cr_i r_s7 (cr_atx f_a11 x_s7)]
      exact ft_X9_sharedOf_138 @hK17 @hK61 r_s7 F_s7 (cr_atx f_o0 x_s7) (cr_aox f_r1 x_s7) (cr_aox f_r3 x_s7) (cr_aox f_r6 x_s7) (cr_aox f_r7 x_s7) (cr_aox f_r7 x_s7) h (fun b2 S2 x2 => hQ b2 S2 (cr_xt x_s7 x2))
    · have h := fg_if_e d h
      obtain ⟨a14, o_a14, h⟩ := fg_o_s h
      obtain ⟨A_a14, w_a14, f_a14⟩ := cr_aos f_r6 o_a14
      refine ⟨A_a14, w_a14, ?_⟩
      obtain ⟨c_a14_3, h⟩ := fg_g_s h
      refine ⟨(cr_k r_s7 (cr_atx f_a14 x_s7)).trans c_a14_3, ?_⟩
      obtain ⟨c, h⟩ := fg_g_s h
      refine ⟨cr_vp (cr_n r_s7 (cr_atx f_a14 x_s7)) rfl c, ?_⟩
      try simp -zeta -zetaUnused only [cr_i r_s7 (cr_atx f_a14 x_s7)]
      exact ft_X9_sharedOf_138 @hK17 @hK61 r_s7 F_s7 (cr_atx f_o0 x_s7) (cr_aox f_r1 x_s7) (cr_aox f_r3 x_s7) (cr_aox f_r6 x_s7) (cr_aox f_r7 x_s7) (cr_aox f_r7 x_s7) h (fun b2 S2 x2 => hQ b2 S2 (cr_xt x_s7 x2))
  · have h := fg_if_e d h
    obtain ⟨a17, o_a17, h⟩ := fg_o_s h
    obtain ⟨A_a17, w_a17, f_a17⟩ := cr_aos f_r6 o_a17
    refine ⟨A_a17, w_a17, ?_⟩
    obtain ⟨c_a17_3, h⟩ := fg_g_s h
    refine ⟨(cr_k r_s7 (cr_atx f_a17 x_s7)).trans c_a17_3, ?_⟩
    obtain ⟨c, h⟩ := fg_g_s h
    refine ⟨cr_vp (cr_n r_s7 (cr_atx f_a17 x_s7)) rfl c, ?_⟩
    try simp -zeta -zetaUnused only [cr_i r_s7 (cr_atx f_a17 x_s7)]
    exact ft_X9_sharedOf_138 @hK17 @hK61 r_s7 F_s7 (cr_atx f_o0 x_s7) (cr_aox f_r1 x_s7) (cr_aox f_r3 x_s7) (cr_aox f_r6 x_s7) (cr_aox f_r7 x_s7) (cr_aox f_r7 x_s7) h (fun b2 S2 x2 => hQ b2 S2 (cr_xt x_s7 x2))
set_option maxRecDepth 100000 in
set_option maxHeartbeats 4000000 in
theorem ft_X9_sharedOf_61b {E : h_S} {g : h_G} {r : Int32} {t : h_S} {Q : Int32 → h_S → Prop} {K17 : Option Nat → Option Nat → Int32 → Int32 → h_S → Option ((Int32) × h_S)} {WK17 : Nat → Option Nat → Option Nat → Int32 → Int32 → h_S → Prop} (hK17 : ∀ {b : Nat → Nat} {s S_s : h_S} {A_o0 : Nat} {r1 : Option Nat} {R_r1 : Option Nat} {r3 : Option Nat} {R_r3 : Option Nat} {x4 : Int32} {x5 : Int32}, c_R E g b s S_s → c_F s → c_at b s 10 A_o0 → c_ao b s r1 R_r1 → c_ao b s r3 R_r3 → K17 r1 r3 x4 x5 s = some (r, t) → (∀ (b2 : Nat → Nat) (S2 : h_S), c_ext b s b2 t → c_R E g b2 t S2 → c_F t → Q r S2) → WK17 A_o0 R_r1 R_r3 x4 x5 S_s) {K61 : Option Nat → Option Nat → Int32 → Int32 → Option Nat → Option Nat → Int32 → Int32 → h_S → Option ((Int32) × h_S)} {WK61 : Nat → Option Nat → Option Nat → Int32 → Int32 → Option Nat → Option Nat → Int32 → Int32 → h_S → Prop} (hK61 : ∀ {b : Nat → Nat} {s S_s : h_S} {A_o0 : Nat} {r1 : Option Nat} {R_r1 : Option Nat} {r3 : Option Nat} {R_r3 : Option Nat} {x4 : Int32} {x5 : Int32} {r6 : Option Nat} {R_r6 : Option Nat} {r7 : Option Nat} {R_r7 : Option Nat} {x8 : Int32} {x9 : Int32}, c_R E g b s S_s → c_F s → c_at b s 10 A_o0 → c_ao b s r1 R_r1 → c_ao b s r3 R_r3 → c_ao b s r6 R_r6 → c_ao b s r7 R_r7 → K61 r1 r3 x4 x5 r6 r7 x8 x9 s = some (r, t) → (∀ (b2 : Nat → Nat) (S2 : h_S), c_ext b s b2 t → c_R E g b2 t S2 → c_F t → Q r S2) → WK61 A_o0 R_r1 R_r3 x4 x5 R_r6 R_r7 x8 x9 S_s) {b : Nat → Nat} {s S_s : h_S} {A_o0 : Nat} {r1 : Option Nat} {R_r1 : Option Nat} {r3 : Option Nat} {R_r3 : Option Nat} {x4 : Int32} {x5 : Int32} {r6 : Option Nat} {R_r6 : Option Nat} {r7 : Option Nat} {R_r7 : Option Nat} {x8 : Int32} {x9 : Int32} (hR : c_R E g b s S_s) (hF : c_F s) (f_o0 : c_at b s 10 A_o0) (f_r1 : c_ao b s r1 R_r1) (f_r3 : c_ao b s r3 R_r3) (f_r6 : c_ao b s r6 R_r6) (f_r7 : c_ao b s r7 R_r7) (h : fn_X9_sharedOf_61b K17 K61 r1 r3 x4 x5 r6 r7 x8 x9 s = some (r, t)) (hQ : ∀ (b2 : Nat → Nat) (S2 : h_S), c_ext b s b2 t → c_R E g b2 t S2 → c_F t → Q r S2) : w_X9_sharedOf_61b Q WK17 WK61 A_o0 R_r1 R_r3 x4 x5 R_r6 R_r7 x8 x9 S_s := by
  unfold fn_X9_sharedOf_61b at h
  unfold w_X9_sharedOf_61b
  refine fg_ite Iff.rfl (fun d => ?_) (fun d => ?_)
  · have h := fg_if_t d h
    exact hK17 hR hF f_o0 f_r1 f_r3 h (fun b2 S2 x2 => hQ b2 S2 (cr_xt cr_xr x2))
  · have h := fg_if_e d h
    obtain ⟨a2, o_a2, h⟩ := fg_o_s h
    obtain ⟨A_a2, w_a2, f_a2⟩ := cr_aos f_r6 o_a2
    refine ⟨A_a2, w_a2, ?_⟩
    obtain ⟨c_a2_1, h⟩ := fg_g_s h
    refine ⟨(cr_k hR f_a2).trans c_a2_1, ?_⟩
    obtain ⟨c, h⟩ := fg_g_s h
    refine ⟨cr_vp (cr_n hR f_a2) rfl c, ?_⟩
    obtain ⟨a5, o_a5, h⟩ := fg_o_s h
    obtain ⟨A_a5, w_a5, f_a5⟩ := cr_aos f_r7 o_a5
    refine ⟨A_a5, w_a5, ?_⟩
    obtain ⟨c_a5_2, h⟩ := fg_g_s h
    refine ⟨(cr_k hR f_a5).trans c_a5_2, ?_⟩
    obtain ⟨c, h⟩ := fg_g_s h
    refine ⟨cr_vp (cr_n hR f_a5) rfl c, ?_⟩
    try simp -zeta -zetaUnused only [cr_i hR f_a2, cr_i hR f_a5]
    refine fg_ite Iff.rfl (fun d => ?_) (fun d => ?_)
    · have h := fg_if_t d h
      exact ft_X9_sharedOf_86 @hK17 @hK61 hR hF f_o0 f_r1 f_r3 f_r6 f_r7 h (fun b2 S2 x2 => hQ b2 S2 (cr_xt cr_xr x2))
    · have h := fg_if_e d h
      exact ft_X9_sharedOf_86 @hK17 @hK61 hR hF f_o0 f_r1 f_r3 f_r6 f_r7 h (fun b2 S2 x2 => hQ b2 S2 (cr_xt cr_xr x2))
set_option maxRecDepth 100000 in
set_option maxHeartbeats 4000000 in
theorem ft_X9_sharedOf_61 {E : h_S} {g : h_G} {r : Int32} {t : h_S} {Q : Int32 → h_S → Prop} {K17 : Option Nat → Option Nat → Int32 → Int32 → h_S → Option ((Int32) × h_S)} {WK17 : Nat → Option Nat → Option Nat → Int32 → Int32 → h_S → Prop} (hK17 : ∀ {b : Nat → Nat} {s S_s : h_S} {A_o0 : Nat} {r1 : Option Nat} {R_r1 : Option Nat} {r3 : Option Nat} {R_r3 : Option Nat} {x4 : Int32} {x5 : Int32}, c_R E g b s S_s → c_F s → c_at b s 10 A_o0 → c_ao b s r1 R_r1 → c_ao b s r3 R_r3 → K17 r1 r3 x4 x5 s = some (r, t) → (∀ (b2 : Nat → Nat) (S2 : h_S), c_ext b s b2 t → c_R E g b2 t S2 → c_F t → Q r S2) → WK17 A_o0 R_r1 R_r3 x4 x5 S_s) : ∀ (n : Nat) {b : Nat → Nat} {s S_s : h_S} {A_o0 : Nat} {r1 : Option Nat} {R_r1 : Option Nat} {r3 : Option Nat} {R_r3 : Option Nat} {x4 : Int32} {x5 : Int32} {r6 : Option Nat} {R_r6 : Option Nat} {r7 : Option Nat} {R_r7 : Option Nat} {x8 : Int32} {x9 : Int32}, c_R E g b s S_s → c_F s → c_at b s 10 A_o0 → c_ao b s r1 R_r1 → c_ao b s r3 R_r3 → c_ao b s r6 R_r6 → c_ao b s r7 R_r7 → fn_X9_sharedOf_61 K17 n r1 r3 x4 x5 r6 r7 x8 x9 s = some (r, t) → (∀ (b2 : Nat → Nat) (S2 : h_S), c_ext b s b2 t → c_R E g b2 t S2 → c_F t → Q r S2) → w_X9_sharedOf_61 Q WK17 n A_o0 R_r1 R_r3 x4 x5 R_r6 R_r7 x8 x9 S_s := by
  intro n
  induction n with
  | zero => intros; rename_i h _; exact fg_none h
  | succ n ih => exact ft_X9_sharedOf_61b @hK17 @ih
set_option maxRecDepth 100000 in
set_option maxHeartbeats 4000000 in
theorem ft_X9_sharedOf_17b {E : h_S} {g : h_G} {r : Int32} {t : h_S} {Q : Int32 → h_S → Prop} {K17 : Option Nat → Option Nat → Int32 → Int32 → h_S → Option ((Int32) × h_S)} {WK17 : Nat → Option Nat → Option Nat → Int32 → Int32 → h_S → Prop} (hK17 : ∀ {b : Nat → Nat} {s S_s : h_S} {A_o0 : Nat} {r1 : Option Nat} {R_r1 : Option Nat} {r3 : Option Nat} {R_r3 : Option Nat} {x4 : Int32} {x5 : Int32}, c_R E g b s S_s → c_F s → c_at b s 10 A_o0 → c_ao b s r1 R_r1 → c_ao b s r3 R_r3 → K17 r1 r3 x4 x5 s = some (r, t) → (∀ (b2 : Nat → Nat) (S2 : h_S), c_ext b s b2 t → c_R E g b2 t S2 → c_F t → Q r S2) → WK17 A_o0 R_r1 R_r3 x4 x5 S_s) {b : Nat → Nat} {s S_s : h_S} {A_o0 : Nat} {r1 : Option Nat} {R_r1 : Option Nat} {r3 : Option Nat} {R_r3 : Option Nat} {x4 : Int32} {x5 : Int32} (hR : c_R E g b s S_s) (hF : c_F s) (f_o0 : c_at b s 10 A_o0) (f_r1 : c_ao b s r1 R_r1) (f_r3 : c_ao b s r3 R_r3) (h : fn_X9_sharedOf_17b K17 r1 r3 x4 x5 s = some (r, t)) (hQ : ∀ (b2 : Nat → Nat) (S2 : h_S), c_ext b s b2 t → c_R E g b2 t S2 → c_F t → Q r S2) : w_X9_sharedOf_17b Q WK17 A_o0 R_r1 R_r3 x4 x5 S_s := by
  unfold fn_X9_sharedOf_17b at h
  unfold w_X9_sharedOf_17b
  refine fg_ite Iff.rfl (fun d => ?_) (fun d => ?_)
  · have h := fg_if_t d h
    refine ⟨(cr_k hR f_o0).trans (cf_k (a := 10) hF rfl (by decide)), ?_⟩
    obtain ⟨A_a3, w_a3, f_a3⟩ := cr_aos (cr_r hR f_o0 _) (cf_r (a := 10) (j := 0) (y := 30) hF rfl)
    refine ⟨A_a3, w_a3, ?_⟩
    refine ⟨(cr_k hR f_a3).trans (cf_k (a := 30) hF rfl (by decide)), ?_⟩
    obtain ⟨c, h⟩ := fg_g_s h
    refine ⟨cr_vp (cr_n hR f_a3) (cf_n (a := 30) hF rfl (by decide) rfl) c, ?_⟩
    obtain ⟨a6, o_a6, h⟩ := fg_o_s h
    obtain ⟨A_a6, w_a6, f_a6⟩ := cr_aos (cr_r hR f_a3 _) o_a6
    refine ⟨A_a6, w_a6, ?_⟩
    obtain ⟨c_a6_1, h⟩ := fg_g_s h
    refine ⟨(cr_k hR f_a6).trans c_a6_1, ?_⟩
    obtain ⟨c, h⟩ := fg_g_s h
    refine ⟨cr_vp (cr_n hR f_a6) rfl c, ?_⟩
    try simp -zeta -zetaUnused only [cr_i hR f_a6]
    obtain ⟨q, q2⟩ := fg_ret h
    subst q
    subst q2
    exact hQ _ _ cr_xr hR hF
  · have h := fg_if_e d h
    refine ⟨(cr_k hR f_o0).trans (cf_k (a := 10) hF rfl (by decide)), ?_⟩
    obtain ⟨A_a10, w_a10, f_a10⟩ := cr_aos (cr_r hR f_o0 _) (cf_r (a := 10) (j := 0) (y := 30) hF rfl)
    refine ⟨A_a10, w_a10, ?_⟩
    refine ⟨(cr_k hR f_a10).trans (cf_k (a := 30) hF rfl (by decide)), ?_⟩
    obtain ⟨c, h⟩ := fg_g_s h
    refine ⟨cr_vp (cr_n hR f_a10) (cf_n (a := 30) hF rfl (by decide) rfl) c, ?_⟩
    obtain ⟨v13, e_v13, h⟩ := fg_let_s h
    intro S_v13
    have f_v13 : c_ao b s v13 S_v13 := by rw [e_v13]; exact (cr_r hR f_a10 _)
    clear_value S_v13
    obtain ⟨A_a14, w_a14, f_a14⟩ := cr_aos (cr_r hR f_o0 _) (cf_r (a := 10) (j := 0) (y := 30) hF rfl)
    refine ⟨A_a14, w_a14, ?_⟩
    refine ⟨(cr_k hR f_a14).trans (cf_k (a := 30) hF rfl (by decide)), ?_⟩
    obtain ⟨c, h⟩ := fg_g_s h
    refine ⟨cr_vp (cr_n hR f_a14) (cf_n (a := 30) hF rfl (by decide) rfl) c, ?_⟩
    obtain ⟨v17, e_v17, h⟩ := fg_let_s h
    intro S_v17
    have f_v17 : c_ao b s v17 S_v17 := by rw [e_v17]; exact (cr_r hR f_a14 _)
    clear_value S_v17
    obtain ⟨a18, o_a18, h⟩ := fg_o_s h
    obtain ⟨A_a18, w_a18, f_a18⟩ := cr_aos f_v17 o_a18
    refine ⟨A_a18, w_a18, ?_⟩
    obtain ⟨c_a18_1, h⟩ := fg_g_s h
    refine ⟨(cr_k hR f_a18).trans c_a18_1, ?_⟩
    obtain ⟨c, h⟩ := fg_g_s h
    refine ⟨cr_vp (cr_n hR f_a18) rfl c, ?_⟩
    obtain ⟨s21, e_s21, h⟩ := fg_let_s h
    intro S_s21
    have r_s21 : c_R E g b s21 S_s21 := by rw [e_s21]; exact cr_si hR f_a18 _ _
    have F_s21 : c_F s21 := by rw [e_s21]; exact cf_si hF _ _
    have x_s21 : c_ext b s b s21 := by rw [e_s21]; exact cx_si _ _
    clear_value S_s21
    exact ⟨g_N, ft_X9_sharedOf_61 @hK17 g_N r_s21 F_s21 (cr_atx f_o0 x_s21) (cr_aox f_r1 x_s21) (cr_aox f_r3 x_s21) (cr_aox f_v13 x_s21) (cr_aox f_v17 x_s21) h (fun b2 S2 x2 => hQ b2 S2 (cr_xt x_s21 x2))⟩
set_option maxRecDepth 100000 in
set_option maxHeartbeats 4000000 in
theorem ft_X9_sharedOf_17 {E : h_S} {g : h_G} {r : Int32} {t : h_S} {Q : Int32 → h_S → Prop} : ∀ (n : Nat) {b : Nat → Nat} {s S_s : h_S} {A_o0 : Nat} {r1 : Option Nat} {R_r1 : Option Nat} {r3 : Option Nat} {R_r3 : Option Nat} {x4 : Int32} {x5 : Int32}, c_R E g b s S_s → c_F s → c_at b s 10 A_o0 → c_ao b s r1 R_r1 → c_ao b s r3 R_r3 → fn_X9_sharedOf_17 n r1 r3 x4 x5 s = some (r, t) → (∀ (b2 : Nat → Nat) (S2 : h_S), c_ext b s b2 t → c_R E g b2 t S2 → c_F t → Q r S2) → w_X9_sharedOf_17 Q n A_o0 R_r1 R_r3 x4 x5 S_s := by
  intro n
  induction n with
  | zero => intros; rename_i h _; exact fg_none h
  | succ n ih => exact ft_X9_sharedOf_17b @ih
set_option maxRecDepth 100000 in
set_option maxHeartbeats 4000000 in
theorem ft_X9_sharedOf {E : h_S} {g : h_G} {r : Int32} {t : h_S} {Q : Int32 → h_S → Prop} {b : Nat → Nat} {s S_s : h_S} {A_o0 : Nat} {r1 : Option Nat} {R_r1 : Option Nat} {x2 : Int32} {r3 : Option Nat} {R_r3 : Option Nat} {x4 : Int32} (hR : c_R E g b s S_s) (hF : c_F s) (f_o0 : c_at b s 10 A_o0) (f_r1 : c_ao b s r1 R_r1) (f_r3 : c_ao b s r3 R_r3) (h : fn_X9_sharedOf r1 x2 r3 x4 s = some (r, t)) (hQ : ∀ (b2 : Nat → Nat) (S2 : h_S), c_ext b s b2 t → c_R E g b2 t S2 → c_F t → Q r S2) : w_X9_sharedOf A_o0 R_r1 x2 R_r3 x4 S_s Q := by
  unfold fn_X9_sharedOf at h
  unfold w_X9_sharedOf
  refine ⟨(cr_k hR f_o0).trans (cf_k (a := 10) hF rfl (by decide)), ?_⟩
  obtain ⟨A_a2, w_a2, f_a2⟩ := cr_aos (cr_r hR f_o0 _) (cf_r (a := 10) (j := 0) (y := 30) hF rfl)
  refine ⟨A_a2, w_a2, ?_⟩
  refine ⟨(cr_k hR f_a2).trans (cf_k (a := 30) hF rfl (by decide)), ?_⟩
  obtain ⟨c, h⟩ := fg_g_s h
  refine ⟨cr_vp (cr_n hR f_a2) (cf_n (a := 30) hF rfl (by decide) rfl) c, ?_⟩
  obtain ⟨u_, s5, e_s5, h⟩ := fg_b_s h
  refine ft_J7_fill_53178 hR hF (cr_r hR f_a2 _) e_s5 (fun b_s5 S_s5 x_s5 r_s5 F_s5 => ?_)
  exact ⟨g_N, ft_X9_sharedOf_17 g_N r_s5 F_s5 (cr_atx f_o0 x_s5) (cr_aox f_r1 x_s5) (cr_aox f_r3 x_s5) h (fun b2 S2 x2 => hQ b2 S2 (cr_xt x_s5 x2))⟩
set_option maxRecDepth 100000 in
set_option maxHeartbeats 4000000 in
theorem ft_X9_sharedBy {E : h_S} {g : h_G} {r : Int32} {t : h_S} {Q : Int32 → h_S → Prop} {b : Nat → Nat} {s S_s : h_S} {A_o0 : Nat} {r1 : Option Nat} {R_r1 : Option Nat} {r2 : Option Nat} {R_r2 : Option Nat} (hR : c_R E g b s S_s) (hF : c_F s) (f_o0 : c_at b s 10 A_o0) (f_r1 : c_ao b s r1 R_r1) (f_r2 : c_ao b s r2 R_r2) (h : fn_X9_sharedBy r1 r2 s = some (r, t)) (hQ : ∀ (b2 : Nat → Nat) (S2 : h_S), c_ext b s b2 t → c_R E g b2 t S2 → c_F t → Q r S2) : w_X9_sharedBy A_o0 R_r1 R_r2 S_s Q := by
  unfold fn_X9_sharedBy at h
  unfold w_X9_sharedBy
  obtain ⟨a1, o_a1, h⟩ := fg_o_s h
  obtain ⟨A_a1, w_a1, f_a1⟩ := cr_aos f_r1 o_a1
  refine ⟨A_a1, w_a1, ?_⟩
  obtain ⟨c_a1_1, h⟩ := fg_g_s h
  refine ⟨(cr_k hR f_a1).trans c_a1_1, ?_⟩
  obtain ⟨a3, o_a3, h⟩ := fg_o_s h
  obtain ⟨A_a3, w_a3, f_a3⟩ := cr_aos f_r2 o_a3
  refine ⟨A_a3, w_a3, ?_⟩
  obtain ⟨c_a3_2, h⟩ := fg_g_s h
  refine ⟨(cr_k hR f_a3).trans c_a3_2, ?_⟩
  refine ⟨(cr_k hR f_o0).trans (cf_k (a := 10) hF rfl (by decide)), ?_⟩
  try simp -zeta -zetaUnused only [cr_n hR f_a1, cr_n hR f_a3]
  obtain ⟨p7, s6, e_s6, h⟩ := fg_b_s h
  refine ft_X9_sharedOf hR hF f_o0 f_r1 f_r2 e_s6 (fun b_s6 S_s6 x_s6 r_s6 F_s6 => ?_)
  obtain ⟨q, q2⟩ := fg_ret h
  subst q
  subst q2
  exact hQ _ _ x_s6 r_s6 F_s6
set_option maxRecDepth 100000 in
set_option maxHeartbeats 4000000 in
theorem ft_X9_isCut {E : h_S} {g : h_G} {r : Int32} {t : h_S} {Q : Int32 → h_S → Prop} {b : Nat → Nat} {s S_s : h_S} {A_o0 : Nat} {x1 : Int32} {x2 : Int32} (hR : c_R E g b s S_s) (hF : c_F s) (f_o0 : c_at b s 10 A_o0) (h : fn_X9_isCut x1 x2 s = some (r, t)) (hQ : ∀ (b2 : Nat → Nat) (S2 : h_S), c_ext b s b2 t → c_R E g b2 t S2 → c_F t → Q r S2) : w_X9_isCut A_o0 x1 x2 S_s Q := by
  unfold fn_X9_isCut at h
  unfold w_X9_isCut
  refine ⟨(cr_k hR f_o0).trans (cf_k (a := 10) hF rfl (by decide)), ?_⟩
  obtain ⟨A_a2, w_a2, f_a2⟩ := cr_aos (cr_r hR f_o0 _) (cf_r (a := 10) (j := 1) (y := 33) hF rfl)
  refine ⟨A_a2, w_a2, ?_⟩
  refine ⟨(cr_k hR f_a2).trans (cf_k (a := 33) hF rfl (by decide)), ?_⟩
  obtain ⟨c, h⟩ := fg_g_s h
  refine ⟨cr_vp (cr_n hR f_a2) (cf_n (a := 33) hF rfl (by decide) rfl) c, ?_⟩
  try simp -zeta -zetaUnused only [cr_i hR f_a2]
  refine fg_ite Iff.rfl (fun d => ?_) (fun d => ?_)
  · have h := fg_if_t d h
    unfold w_X9_isCut_29
    refine ⟨Or.inr rfl, ?_⟩
    obtain ⟨q, q2⟩ := fg_ret h
    subst q
    subst q2
    exact hQ _ _ cr_xr hR hF
  · have h := fg_if_e d h
    unfold w_X9_isCut_29
    refine ⟨Or.inl rfl, ?_⟩
    obtain ⟨q, q2⟩ := fg_ret h
    subst q
    subst q2
    exact hQ _ _ cr_xr hR hF
set_option maxRecDepth 100000 in
set_option maxHeartbeats 4000000 in
theorem ft_X9_commonTo_71b {E : h_S} {g : h_G} {r : Int32} {t : h_S} {Q : Int32 → h_S → Prop} {K71 : Int32 → Option Nat → Int32 → Int32 → h_S → Option ((Int32) × h_S)} {WK71 : Nat → Int32 → Option Nat → Int32 → Int32 → h_S → Prop} (hK71 : ∀ {b : Nat → Nat} {s S_s : h_S} {A_o0 : Nat} {x3 : Int32} {r4 : Option Nat} {R_r4 : Option Nat} {x5 : Int32} {x6 : Int32}, c_R E g b s S_s → c_F s → c_at b s 10 A_o0 → c_ao b s r4 R_r4 → K71 x3 r4 x5 x6 s = some (r, t) → (∀ (b2 : Nat → Nat) (S2 : h_S), c_ext b s b2 t → c_R E g b2 t S2 → c_F t → Q r S2) → WK71 A_o0 x3 R_r4 x5 x6 S_s) {b : Nat → Nat} {s S_s : h_S} {A_o0 : Nat} {x3 : Int32} {r4 : Option Nat} {R_r4 : Option Nat} {x5 : Int32} {x6 : Int32} (hR : c_R E g b s S_s) (hF : c_F s) (f_o0 : c_at b s 10 A_o0) (f_r4 : c_ao b s r4 R_r4) (h : fn_X9_commonTo_71b K71 x3 r4 x5 x6 s = some (r, t)) (hQ : ∀ (b2 : Nat → Nat) (S2 : h_S), c_ext b s b2 t → c_R E g b2 t S2 → c_F t → Q r S2) : w_X9_commonTo_71b Q WK71 A_o0 x3 R_r4 x5 x6 S_s := by
  unfold fn_X9_commonTo_71b at h
  unfold w_X9_commonTo_71b
  refine fg_ite Iff.rfl (fun d => ?_) (fun d => ?_)
  · have h := fg_if_t d h
    obtain ⟨q, q2⟩ := fg_ret h
    subst q
    subst q2
    exact hQ _ _ cr_xr hR hF
  · have h := fg_if_e d h
    obtain ⟨a2, o_a2, h⟩ := fg_o_s h
    obtain ⟨A_a2, w_a2, f_a2⟩ := cr_aos f_r4 o_a2
    refine ⟨A_a2, w_a2, ?_⟩
    obtain ⟨c_a2_1, h⟩ := fg_g_s h
    refine ⟨(cr_k hR f_a2).trans c_a2_1, ?_⟩
    obtain ⟨c, h⟩ := fg_g_s h
    refine ⟨cr_vp (cr_n hR f_a2) rfl c, ?_⟩
    try simp -zeta -zetaUnused only [cr_i hR f_a2]
    obtain ⟨p6, s5, e_s5, h⟩ := fg_b_s h
    refine ft_X11_within hR hF e_s5 (fun b_s5 S_s5 x_s5 r_s5 F_s5 => ?_)
    refine fg_ite Iff.rfl (fun d => ?_) (fun d => ?_)
    · have h := fg_if_t d h
      unfold w_X9_commonTo_120
      exact hK71 r_s5 F_s5 (cr_atx f_o0 x_s5) (cr_aox f_r4 x_s5) h (fun b2 S2 x2 => hQ b2 S2 (cr_xt x_s5 x2))
    · have h := fg_if_e d h
      refine ⟨(cr_k r_s5 (cr_atx f_o0 x_s5)).trans (cf_k (a := 10) F_s5 rfl (by decide)), ?_⟩
      obtain ⟨A_a9, w_a9, f_a9⟩ := cr_aos (cr_r r_s5 (cr_atx f_o0 x_s5) _) (cf_r (a := 10) (j := 2) (y := 34) F_s5 rfl)
      refine ⟨A_a9, w_a9, ?_⟩
      refine ⟨(cr_k r_s5 f_a9).trans (cf_k (a := 34) F_s5 rfl (by decide)), ?_⟩
      obtain ⟨c, h⟩ := fg_g_s h
      refine ⟨cr_vp (cr_n r_s5 f_a9) (cf_n (a := 34) F_s5 rfl (by decide) rfl) c, ?_⟩
      try simp -zeta -zetaUnused only [cr_i r_s5 f_a9]
      refine fg_ite Iff.rfl (fun d => ?_) (fun d => ?_)
      · have h := fg_if_t d h
        unfold w_X9_commonTo_120
        exact hK71 r_s5 F_s5 (cr_atx f_o0 x_s5) (cr_aox f_r4 x_s5) h (fun b2 S2 x2 => hQ b2 S2 (cr_xt x_s5 x2))
      · have h := fg_if_e d h
        obtain ⟨A_a13, w_a13, f_a13⟩ := cr_aos (cr_r r_s5 (cr_atx f_o0 x_s5) _) (cf_r (a := 10) (j := 2) (y := 34) F_s5 rfl)
        refine ⟨A_a13, w_a13, ?_⟩
        refine ⟨(cr_k r_s5 f_a13).trans (cf_k (a := 34) F_s5 rfl (by decide)), ?_⟩
        obtain ⟨c, h⟩ := fg_g_s h
        refine ⟨cr_vp (cr_n r_s5 f_a13) (cf_n (a := 34) F_s5 rfl (by decide) rfl) c, ?_⟩
        obtain ⟨A_a16, w_a16, f_a16⟩ := cr_aos (cr_r r_s5 (cr_atx f_o0 x_s5) _) (cf_r (a := 10) (j := 2) (y := 34) F_s5 rfl)
        refine ⟨A_a16, w_a16, ?_⟩
        refine ⟨(cr_k r_s5 f_a16).trans (cf_k (a := 34) F_s5 rfl (by decide)), ?_⟩
        obtain ⟨c, h⟩ := fg_g_s h
        refine ⟨cr_vp (cr_n r_s5 f_a16) (cf_n (a := 34) F_s5 rfl (by decide) rfl) c, ?_⟩
        try simp -zeta -zetaUnused only [cr_i r_s5 f_a13]
        obtain ⟨s19, e_s19, h⟩ := fg_let_s h
        intro S_s19
        have r_s19 : c_R E g b_s5 s19 S_s19 := by rw [e_s19]; exact cr_si r_s5 f_a16 _ _
        have F_s19 : c_F s19 := by rw [e_s19]; exact cf_si F_s5 _ _
        have x_s19 : c_ext b_s5 s5 b_s5 s19 := by rw [e_s19]; exact cx_si _ _
        clear_value S_s19
        unfold w_X9_commonTo_120
        exact hK71 r_s19 F_s19 (cr_atx (cr_atx f_o0 x_s5) x_s19) (cr_aox (cr_aox f_r4 x_s5) x_s19) h (fun b2 S2 x2 => hQ b2 S2 (cr_xt (cr_xt x_s5 x_s19) x2))
set_option maxRecDepth 100000 in
set_option maxHeartbeats 4000000 in
theorem ft_X9_commonTo_71 {E : h_S} {g : h_G} {r : Int32} {t : h_S} {Q : Int32 → h_S → Prop} : ∀ (n : Nat) {b : Nat → Nat} {s S_s : h_S} {A_o0 : Nat} {x3 : Int32} {r4 : Option Nat} {R_r4 : Option Nat} {x5 : Int32} {x6 : Int32}, c_R E g b s S_s → c_F s → c_at b s 10 A_o0 → c_ao b s r4 R_r4 → fn_X9_commonTo_71 n x3 r4 x5 x6 s = some (r, t) → (∀ (b2 : Nat → Nat) (S2 : h_S), c_ext b s b2 t → c_R E g b2 t S2 → c_F t → Q r S2) → w_X9_commonTo_71 Q n A_o0 x3 R_r4 x5 x6 S_s := by
  intro n
  induction n with
  | zero => intros; rename_i h _; exact fg_none h
  | succ n ih => exact ft_X9_commonTo_71b @ih
set_option maxRecDepth 100000 in
set_option maxHeartbeats 4000000 in
theorem ft_X9_commonTo_17b {E : h_S} {g : h_G} {r : Int32} {t : h_S} {Q : Int32 → h_S → Prop} {K17 : Option Nat → Option Nat → Int32 → Int32 → h_S → Option ((Int32) × h_S)} {WK17 : Nat → Option Nat → Option Nat → Int32 → Int32 → h_S → Prop} (hK17 : ∀ {b : Nat → Nat} {s S_s : h_S} {A_o0 : Nat} {r2 : Option Nat} {R_r2 : Option Nat} {r3 : Option Nat} {R_r3 : Option Nat} {x4 : Int32} {x5 : Int32}, c_R E g b s S_s → c_F s → c_at b s 10 A_o0 → c_ao b s r2 R_r2 → c_ao b s r3 R_r3 → K17 r2 r3 x4 x5 s = some (r, t) → (∀ (b2 : Nat → Nat) (S2 : h_S), c_ext b s b2 t → c_R E g b2 t S2 → c_F t → Q r S2) → WK17 A_o0 R_r2 R_r3 x4 x5 S_s) {b : Nat → Nat} {s S_s : h_S} {A_o0 : Nat} {r2 : Option Nat} {R_r2 : Option Nat} {r3 : Option Nat} {R_r3 : Option Nat} {x4 : Int32} {x5 : Int32} (hR : c_R E g b s S_s) (hF : c_F s) (f_o0 : c_at b s 10 A_o0) (f_r2 : c_ao b s r2 R_r2) (f_r3 : c_ao b s r3 R_r3) (h : fn_X9_commonTo_17b K17 r2 r3 x4 x5 s = some (r, t)) (hQ : ∀ (b2 : Nat → Nat) (S2 : h_S), c_ext b s b2 t → c_R E g b2 t S2 → c_F t → Q r S2) : w_X9_commonTo_17b Q WK17 A_o0 R_r2 R_r3 x4 x5 S_s := by
  unfold fn_X9_commonTo_17b at h
  unfold w_X9_commonTo_17b
  refine fg_ite Iff.rfl (fun d => ?_) (fun d => ?_)
  · have h := fg_if_t d h
    obtain ⟨a2, o_a2, h⟩ := fg_o_s h
    obtain ⟨A_a2, w_a2, f_a2⟩ := cr_aos f_r2 o_a2
    refine ⟨A_a2, w_a2, ?_⟩
    obtain ⟨c_a2_1, h⟩ := fg_g_s h
    refine ⟨(cr_k hR f_a2).trans c_a2_1, ?_⟩
    try simp -zeta -zetaUnused only [cr_n hR f_a2]
    exact ⟨g_N, ft_X9_commonTo_71 g_N hR hF f_o0 f_r2 h (fun b2 S2 x2 => hQ b2 S2 (cr_xt cr_xr x2))⟩
  · have h := fg_if_e d h
    obtain ⟨a4, o_a4, h⟩ := fg_o_s h
    obtain ⟨A_a4, w_a4, f_a4⟩ := cr_aos f_r3 o_a4
    refine ⟨A_a4, w_a4, ?_⟩
    obtain ⟨c_a4_1, h⟩ := fg_g_s h
    refine ⟨(cr_k hR f_a4).trans c_a4_1, ?_⟩
    obtain ⟨c, h⟩ := fg_g_s h
    refine ⟨cr_vp (cr_n hR f_a4) rfl c, ?_⟩
    try simp -zeta -zetaUnused only [cr_i hR f_a4]
    obtain ⟨p8, s7, e_s7, h⟩ := fg_b_s h
    refine ft_X11_within hR hF e_s7 (fun b_s7 S_s7 x_s7 r_s7 F_s7 => ?_)
    refine fg_ite Iff.rfl (fun d => ?_) (fun d => ?_)
    · have h := fg_if_t d h
      unfold w_X9_commonTo_52
      exact hK17 r_s7 F_s7 (cr_atx f_o0 x_s7) (cr_aox f_r2 x_s7) (cr_aox f_r3 x_s7) h (fun b2 S2 x2 => hQ b2 S2 (cr_xt x_s7 x2))
    · have h := fg_if_e d h
      refine ⟨(cr_k r_s7 (cr_atx f_o0 x_s7)).trans (cf_k (a := 10) F_s7 rfl (by decide)), ?_⟩
      obtain ⟨A_a11, w_a11, f_a11⟩ := cr_aos (cr_r r_s7 (cr_atx f_o0 x_s7) _) (cf_r (a := 10) (j := 2) (y := 34) F_s7 rfl)
      refine ⟨A_a11, w_a11, ?_⟩
      refine ⟨(cr_k r_s7 f_a11).trans (cf_k (a := 34) F_s7 rfl (by decide)), ?_⟩
      obtain ⟨c, h⟩ := fg_g_s h
      refine ⟨cr_vp (cr_n r_s7 f_a11) (cf_n (a := 34) F_s7 rfl (by decide) rfl) c, ?_⟩
      obtain ⟨A_a14, w_a14, f_a14⟩ := cr_aos (cr_r r_s7 (cr_atx f_o0 x_s7) _) (cf_r (a := 10) (j := 2) (y := 34) F_s7 rfl)
      refine ⟨A_a14, w_a14, ?_⟩
      refine ⟨(cr_k r_s7 f_a14).trans (cf_k (a := 34) F_s7 rfl (by decide)), ?_⟩
      obtain ⟨c, h⟩ := fg_g_s h
      refine ⟨cr_vp (cr_n r_s7 f_a14) (cf_n (a := 34) F_s7 rfl (by decide) rfl) c, ?_⟩
      try simp -zeta -zetaUnused only [cr_i r_s7 f_a11]
      obtain ⟨s17, e_s17, h⟩ := fg_let_s h
      intro S_s17
      have r_s17 : c_R E g b_s7 s17 S_s17 := by rw [e_s17]; exact cr_si r_s7 f_a14 _ _
      have F_s17 : c_F s17 := by rw [e_s17]; exact cf_si F_s7 _ _
      have x_s17 : c_ext b_s7 s7 b_s7 s17 := by rw [e_s17]; exact cx_si _ _
      clear_value S_s17
      unfold w_X9_commonTo_52
      exact hK17 r_s17 F_s17 (cr_atx (cr_atx f_o0 x_s7) x_s17) (cr_aox (cr_aox f_r2 x_s7) x_s17) (cr_aox (cr_aox f_r3 x_s7) x_s17) h (fun b2 S2 x2 => hQ b2 S2 (cr_xt (cr_xt x_s7 x_s17) x2))
set_option maxRecDepth 100000 in
set_option maxHeartbeats 4000000 in
theorem ft_X9_commonTo_17 {E : h_S} {g : h_G} {r : Int32} {t : h_S} {Q : Int32 → h_S → Prop} : ∀ (n : Nat) {b : Nat → Nat} {s S_s : h_S} {A_o0 : Nat} {r2 : Option Nat} {R_r2 : Option Nat} {r3 : Option Nat} {R_r3 : Option Nat} {x4 : Int32} {x5 : Int32}, c_R E g b s S_s → c_F s → c_at b s 10 A_o0 → c_ao b s r2 R_r2 → c_ao b s r3 R_r3 → fn_X9_commonTo_17 n r2 r3 x4 x5 s = some (r, t) → (∀ (b2 : Nat → Nat) (S2 : h_S), c_ext b s b2 t → c_R E g b2 t S2 → c_F t → Q r S2) → w_X9_commonTo_17 Q n A_o0 R_r2 R_r3 x4 x5 S_s := by
  intro n
  induction n with
  | zero => intros; rename_i h _; exact fg_none h
  | succ n ih => exact ft_X9_commonTo_17b @ih
set_option maxRecDepth 100000 in
set_option maxHeartbeats 4000000 in
theorem ft_X9_commonTo {E : h_S} {g : h_G} {r : Int32} {t : h_S} {Q : Int32 → h_S → Prop} {b : Nat → Nat} {s S_s : h_S} {A_o0 : Nat} {r1 : Option Nat} {R_r1 : Option Nat} {r2 : Option Nat} {R_r2 : Option Nat} (hR : c_R E g b s S_s) (hF : c_F s) (f_o0 : c_at b s 10 A_o0) (f_r1 : c_ao b s r1 R_r1) (f_r2 : c_ao b s r2 R_r2) (h : fn_X9_commonTo r1 r2 s = some (r, t)) (hQ : ∀ (b2 : Nat → Nat) (S2 : h_S), c_ext b s b2 t → c_R E g b2 t S2 → c_F t → Q r S2) : w_X9_commonTo A_o0 R_r1 R_r2 S_s Q := by
  unfold fn_X9_commonTo at h
  unfold w_X9_commonTo
  refine ⟨(cr_k hR f_o0).trans (cf_k (a := 10) hF rfl (by decide)), ?_⟩
  obtain ⟨u_, s2, e_s2, h⟩ := fg_b_s h
  refine ft_J7_fill_53178 hR hF (cr_r hR f_o0 _) e_s2 (fun b_s2 S_s2 x_s2 r_s2 F_s2 => ?_)
  obtain ⟨a4, o_a4, h⟩ := fg_o_s h
  obtain ⟨A_a4, w_a4, f_a4⟩ := cr_aos f_r1 o_a4
  refine ⟨A_a4, w_a4, ?_⟩
  obtain ⟨c_a4_1, h⟩ := fg_g_s h
  refine ⟨(cr_k r_s2 (cr_atx f_a4 x_s2)).trans c_a4_1, ?_⟩
  try simp -zeta -zetaUnused only [cr_n r_s2 (cr_atx f_a4 x_s2)]
  exact ⟨g_N, ft_X9_commonTo_17 g_N r_s2 F_s2 (cr_atx f_o0 x_s2) (cr_aox f_r2 x_s2) (cr_aox f_r1 x_s2) h (fun b2 S2 x2 => hQ b2 S2 (cr_xt x_s2 x2))⟩
set_option maxRecDepth 100000 in
set_option maxHeartbeats 4000000 in
theorem ft_X9_withoutGaps_11b {E : h_S} {g : h_G} {r : Int32} {t : h_S} {Q : Int32 → h_S → Prop} {K11 : Option Nat → Int32 → Option Nat → Int32 → Int32 → h_S → Option ((Int32) × h_S)} {WK11 : Option Nat → Int32 → Option Nat → Int32 → Int32 → h_S → Prop} (hK11 : ∀ {b : Nat → Nat} {s S_s : h_S} {r1 : Option Nat} {R_r1 : Option Nat} {x2 : Int32} {r3 : Option Nat} {R_r3 : Option Nat} {x4 : Int32} {x5 : Int32}, c_R E g b s S_s → c_F s → c_ao b s r1 R_r1 → c_ao b s r3 R_r3 → K11 r1 x2 r3 x4 x5 s = some (r, t) → (∀ (b2 : Nat → Nat) (S2 : h_S), c_ext b s b2 t → c_R E g b2 t S2 → c_F t → Q r S2) → WK11 R_r1 x2 R_r3 x4 x5 S_s) {b : Nat → Nat} {s S_s : h_S} {r1 : Option Nat} {R_r1 : Option Nat} {x2 : Int32} {r3 : Option Nat} {R_r3 : Option Nat} {x4 : Int32} {x5 : Int32} (hR : c_R E g b s S_s) (hF : c_F s) (f_r1 : c_ao b s r1 R_r1) (f_r3 : c_ao b s r3 R_r3) (h : fn_X9_withoutGaps_11b K11 r1 x2 r3 x4 x5 s = some (r, t)) (hQ : ∀ (b2 : Nat → Nat) (S2 : h_S), c_ext b s b2 t → c_R E g b2 t S2 → c_F t → Q r S2) : w_X9_withoutGaps_11b Q WK11 R_r1 x2 R_r3 x4 x5 S_s := by
  unfold fn_X9_withoutGaps_11b at h
  unfold w_X9_withoutGaps_11b
  refine fg_ite Iff.rfl (fun d => ?_) (fun d => ?_)
  · have h := fg_if_t d h
    obtain ⟨q, q2⟩ := fg_ret h
    subst q
    subst q2
    exact hQ _ _ cr_xr hR hF
  · have h := fg_if_e d h
    obtain ⟨a2, o_a2, h⟩ := fg_o_s h
    obtain ⟨A_a2, w_a2, f_a2⟩ := cr_aos f_r3 o_a2
    refine ⟨A_a2, w_a2, ?_⟩
    obtain ⟨c_a2_1, h⟩ := fg_g_s h
    refine ⟨(cr_k hR f_a2).trans c_a2_1, ?_⟩
    obtain ⟨c, h⟩ := fg_g_s h
    refine ⟨cr_vp (cr_n hR f_a2) rfl c, ?_⟩
    try simp -zeta -zetaUnused only [cr_i hR f_a2]
    refine fg_ite Iff.rfl (fun d => ?_) (fun d => ?_)
    · have h := fg_if_t d h
      unfold w_X9_withoutGaps_45
      exact hK11 hR hF f_r1 f_r3 h (fun b2 S2 x2 => hQ b2 S2 (cr_xt cr_xr x2))
    · have h := fg_if_e d h
      obtain ⟨a6, o_a6, h⟩ := fg_o_s h
      obtain ⟨A_a6, w_a6, f_a6⟩ := cr_aos f_r1 o_a6
      refine ⟨A_a6, w_a6, ?_⟩
      obtain ⟨c_a6_2, h⟩ := fg_g_s h
      refine ⟨(cr_k hR f_a6).trans c_a6_2, ?_⟩
      try simp -zeta -zetaUnused only [cr_n hR f_a6]
      refine fg_ite Iff.rfl (fun d => ?_) (fun d => ?_)
      · have h := fg_if_t d h
        unfold w_X9_withoutGaps_45
        exact hK11 hR hF f_r1 f_r3 h (fun b2 S2 x2 => hQ b2 S2 (cr_xt cr_xr x2))
      · have h := fg_if_e d h
        obtain ⟨a9, o_a9, h⟩ := fg_o_s h
        obtain ⟨A_a9, w_a9, f_a9⟩ := cr_aos f_r1 o_a9
        refine ⟨A_a9, w_a9, ?_⟩
        obtain ⟨c_a9_3, h⟩ := fg_g_s h
        refine ⟨(cr_k hR f_a9).trans c_a9_3, ?_⟩
        obtain ⟨c, h⟩ := fg_g_s h
        refine ⟨cr_vp (cr_n hR f_a9) rfl c, ?_⟩
        obtain ⟨s12, e_s12, h⟩ := fg_let_s h
        intro S_s12
        have r_s12 : c_R E g b s12 S_s12 := by rw [e_s12]; exact cr_si hR f_a9 _ _
        have F_s12 : c_F s12 := by rw [e_s12]; exact cf_si hF _ _
        have x_s12 : c_ext b s b s12 := by rw [e_s12]; exact cx_si _ _
        clear_value S_s12
        unfold w_X9_withoutGaps_45
        exact hK11 r_s12 F_s12 (cr_aox f_r1 x_s12) (cr_aox f_r3 x_s12) h (fun b2 S2 x2 => hQ b2 S2 (cr_xt x_s12 x2))
set_option maxRecDepth 100000 in
set_option maxHeartbeats 4000000 in
theorem ft_X9_withoutGaps_11 {E : h_S} {g : h_G} {r : Int32} {t : h_S} {Q : Int32 → h_S → Prop} : ∀ (n : Nat) {b : Nat → Nat} {s S_s : h_S} {r1 : Option Nat} {R_r1 : Option Nat} {x2 : Int32} {r3 : Option Nat} {R_r3 : Option Nat} {x4 : Int32} {x5 : Int32}, c_R E g b s S_s → c_F s → c_ao b s r1 R_r1 → c_ao b s r3 R_r3 → fn_X9_withoutGaps_11 n r1 x2 r3 x4 x5 s = some (r, t) → (∀ (b2 : Nat → Nat) (S2 : h_S), c_ext b s b2 t → c_R E g b2 t S2 → c_F t → Q r S2) → w_X9_withoutGaps_11 Q n R_r1 x2 R_r3 x4 x5 S_s := by
  intro n
  induction n with
  | zero => intros; rename_i h _; exact fg_none h
  | succ n ih => exact ft_X9_withoutGaps_11b @ih
set_option maxRecDepth 100000 in
set_option maxHeartbeats 4000000 in
theorem ft_X9_withoutGaps {E : h_S} {g : h_G} {r : Int32} {t : h_S} {Q : Int32 → h_S → Prop} {b : Nat → Nat} {s S_s : h_S} {r0 : Option Nat} {R_r0 : Option Nat} {r1 : Option Nat} {R_r1 : Option Nat} (hR : c_R E g b s S_s) (hF : c_F s) (f_r0 : c_ao b s r0 R_r0) (f_r1 : c_ao b s r1 R_r1) (h : fn_X9_withoutGaps r0 r1 s = some (r, t)) (hQ : ∀ (b2 : Nat → Nat) (S2 : h_S), c_ext b s b2 t → c_R E g b2 t S2 → c_F t → Q r S2) : w_X9_withoutGaps R_r0 R_r1 S_s Q := by
  unfold fn_X9_withoutGaps at h
  unfold w_X9_withoutGaps
  obtain ⟨a1, o_a1, h⟩ := fg_o_s h
  obtain ⟨A_a1, w_a1, f_a1⟩ := cr_aos f_r0 o_a1
  refine ⟨A_a1, w_a1, ?_⟩
  obtain ⟨c_a1_1, h⟩ := fg_g_s h
  refine ⟨(cr_k hR f_a1).trans c_a1_1, ?_⟩
  try simp -zeta -zetaUnused only [cr_n hR f_a1]
  exact ⟨g_N, ft_X9_withoutGaps_11 g_N hR hF f_r1 f_r0 h (fun b2 S2 x2 => hQ b2 S2 (cr_xt cr_xr x2))⟩
set_option maxRecDepth 100000 in
set_option maxHeartbeats 4000000 in
theorem ft_X9_findWay_129 {E : h_S} {g : h_G} {r : Unit} {t : h_S} {Q : h_S → Prop} {K35 : Int32 → Option Nat → Int32 → Int32 → Int32 → h_S → Option ((Unit) × h_S)} {WK35 : Nat → Int32 → Option Nat → Int32 → Int32 → Int32 → h_S → Prop} (hK35 : ∀ {b : Nat → Nat} {s S_s : h_S} {A_o0 : Nat} {x1 : Int32} {r2 : Option Nat} {R_r2 : Option Nat} {x3 : Int32} {x4 : Int32} {x5 : Int32}, c_R E g b s S_s → c_F s → c_at b s 10 A_o0 → c_ao b s r2 R_r2 → K35 x1 r2 x3 x4 x5 s = some (r, t) → (∀ (b2 : Nat → Nat) (S2 : h_S), c_ext b s b2 t → c_R E g b2 t S2 → c_F t → Q S2) → WK35 A_o0 x1 R_r2 x3 x4 x5 S_s) {b : Nat → Nat} {s S_s : h_S} {A_o0 : Nat} {x1 : Int32} {r2 : Option Nat} {R_r2 : Option Nat} {x3 : Int32} {x4 : Int32} {x5 : Int32} (hR : c_R E g b s S_s) (hF : c_F s) (f_o0 : c_at b s 10 A_o0) (f_r2 : c_ao b s r2 R_r2) (h : fn_X9_findWay_129 K35 x1 r2 x3 x4 x5 s = some (r, t)) (hQ : ∀ (b2 : Nat → Nat) (S2 : h_S), c_ext b s b2 t → c_R E g b2 t S2 → c_F t → Q S2) : w_X9_findWay_129 Q WK35 A_o0 x1 R_r2 x3 x4 x5 S_s := by
  unfold fn_X9_findWay_129 at h
  unfold w_X9_findWay_129
  refine ⟨(cr_k hR f_o0).trans (cf_k (a := 10) hF rfl (by decide)), ?_⟩
  obtain ⟨A_a2, w_a2, f_a2⟩ := cr_aos (cr_r hR f_o0 _) (cf_r (a := 10) (j := 9) (y := 46) hF rfl)
  refine ⟨A_a2, w_a2, ?_⟩
  refine ⟨(cr_k hR f_a2).trans (cf_k (a := 46) hF rfl (by decide)), ?_⟩
  obtain ⟨c, h⟩ := fg_g_s h
  refine ⟨cr_vp (cr_n hR f_a2) (cf_n (a := 46) hF rfl (by decide) rfl) c, ?_⟩
  obtain ⟨s5, e_s5, h⟩ := fg_let_s h
  intro S_s5
  have r_s5 : c_R E g b s5 S_s5 := by rw [e_s5]; exact cr_si hR f_a2 _ _
  have F_s5 : c_F s5 := by rw [e_s5]; exact cf_si hF _ _
  have x_s5 : c_ext b s b s5 := by rw [e_s5]; exact cx_si _ _
  clear_value S_s5
  unfold w_X9_findWay_137
  exact hK35 r_s5 F_s5 (cr_atx f_o0 x_s5) (cr_aox f_r2 x_s5) h (fun b2 S2 x2 => hQ b2 S2 (cr_xt x_s5 x2))
set_option maxRecDepth 100000 in
set_option maxHeartbeats 4000000 in
theorem ft_X9_findWay_92 {E : h_S} {g : h_G} {r : Unit} {t : h_S} {Q : h_S → Prop} {K35 : Int32 → Option Nat → Int32 → Int32 → Int32 → h_S → Option ((Unit) × h_S)} {WK35 : Nat → Int32 → Option Nat → Int32 → Int32 → Int32 → h_S → Prop} (hK35 : ∀ {b : Nat → Nat} {s S_s : h_S} {A_o0 : Nat} {x1 : Int32} {r2 : Option Nat} {R_r2 : Option Nat} {x3 : Int32} {x4 : Int32} {x5 : Int32}, c_R E g b s S_s → c_F s → c_at b s 10 A_o0 → c_ao b s r2 R_r2 → K35 x1 r2 x3 x4 x5 s = some (r, t) → (∀ (b2 : Nat → Nat) (S2 : h_S), c_ext b s b2 t → c_R E g b2 t S2 → c_F t → Q S2) → WK35 A_o0 x1 R_r2 x3 x4 x5 S_s) {b : Nat → Nat} {s S_s : h_S} {A_o0 : Nat} {x1 : Int32} {r2 : Option Nat} {R_r2 : Option Nat} {x3 : Int32} {x4 : Int32} {x5 : Int32} (hR : c_R E g b s S_s) (hF : c_F s) (f_o0 : c_at b s 10 A_o0) (f_r2 : c_ao b s r2 R_r2) (h : fn_X9_findWay_92 K35 x1 r2 x3 x4 x5 s = some (r, t)) (hQ : ∀ (b2 : Nat → Nat) (S2 : h_S), c_ext b s b2 t → c_R E g b2 t S2 → c_F t → Q S2) : w_X9_findWay_92 Q WK35 A_o0 x1 R_r2 x3 x4 x5 S_s := by
  unfold fn_X9_findWay_92 at h
  unfold w_X9_findWay_92
  refine ⟨(cr_k hR f_o0).trans (cf_k (a := 10) hF rfl (by decide)), ?_⟩
  obtain ⟨A_a2, w_a2, f_a2⟩ := cr_aos (cr_r hR f_o0 _) (cf_r (a := 10) (j := 8) (y := 43) hF rfl)
  refine ⟨A_a2, w_a2, ?_⟩
  refine ⟨(cr_k hR f_a2).trans (cf_k (a := 43) hF rfl (by decide)), ?_⟩
  obtain ⟨c, h⟩ := fg_g_s h
  refine ⟨cr_vp (cr_n hR f_a2) (cf_n (a := 43) hF rfl (by decide) rfl) c, ?_⟩
  obtain ⟨a5, o_a5, h⟩ := fg_o_s h
  obtain ⟨A_a5, w_a5, f_a5⟩ := cr_aos (cr_r hR f_a2 _) o_a5
  refine ⟨A_a5, w_a5, ?_⟩
  obtain ⟨c_a5_1, h⟩ := fg_g_s h
  refine ⟨(cr_k hR f_a5).trans c_a5_1, ?_⟩
  obtain ⟨c, h⟩ := fg_g_s h
  refine ⟨cr_vp (cr_n hR f_a5) rfl c, ?_⟩
  obtain ⟨s8, e_s8, h⟩ := fg_let_s h
  intro S_s8
  have r_s8 : c_R E g b s8 S_s8 := by rw [e_s8]; exact cr_si hR f_a5 _ _
  have F_s8 : c_F s8 := by rw [e_s8]; exact cf_si hF _ _
  have x_s8 : c_ext b s b s8 := by rw [e_s8]; exact cx_si _ _
  clear_value S_s8
  refine fg_ite Iff.rfl (fun d => ?_) (fun d => ?_)
  · have h := fg_if_t d h
    exact ft_X9_findWay_129 @hK35 r_s8 F_s8 (cr_atx f_o0 x_s8) (cr_aox f_r2 x_s8) h (fun b2 S2 x2 => hQ b2 S2 (cr_xt x_s8 x2))
  · have h := fg_if_e d h
    obtain ⟨a10, o_a10, h⟩ := fg_o_s h
    obtain ⟨A_a10, w_a10, f_a10⟩ := cr_aos f_r2 o_a10
    refine ⟨A_a10, w_a10, ?_⟩
    obtain ⟨c_a10_2, h⟩ := fg_g_s h
    refine ⟨(cr_k r_s8 (cr_atx f_a10 x_s8)).trans c_a10_2, ?_⟩
    obtain ⟨c, h⟩ := fg_g_s h
    refine ⟨cr_vp (cr_n r_s8 (cr_atx f_a10 x_s8)) rfl c, ?_⟩
    obtain ⟨A_a13, w_a13, f_a13⟩ := cr_aos (cr_r r_s8 (cr_atx f_o0 x_s8) _) (cf_r (a := 10) (j := 3) (y := 35) F_s8 rfl)
    refine ⟨A_a13, w_a13, ?_⟩
    refine ⟨(cr_k r_s8 f_a13).trans (cf_k (a := 35) F_s8 rfl (by decide)), ?_⟩
    obtain ⟨c, h⟩ := fg_g_s h
    refine ⟨cr_vp (cr_n r_s8 f_a13) (cf_n (a := 35) F_s8 rfl (by decide) rfl) c, ?_⟩
    try simp -zeta -zetaUnused only [cr_i r_s8 (cr_atx f_a10 x_s8), cr_i r_s8 f_a13]
    refine fg_ite Iff.rfl (fun d => ?_) (fun d => ?_)
    · have h := fg_if_t d h
      unfold w_X9_findWay_137
      exact hK35 r_s8 F_s8 (cr_atx f_o0 x_s8) (cr_aox f_r2 x_s8) h (fun b2 S2 x2 => hQ b2 S2 (cr_xt x_s8 x2))
    · have h := fg_if_e d h
      exact ft_X9_findWay_129 @hK35 r_s8 F_s8 (cr_atx f_o0 x_s8) (cr_aox f_r2 x_s8) h (fun b2 S2 x2 => hQ b2 S2 (cr_xt x_s8 x2))
set_option maxRecDepth 100000 in
set_option maxHeartbeats 4000000 in
theorem ft_X9_findWay_55b {E : h_S} {g : h_G} {r : Unit} {t : h_S} {Q : h_S → Prop} {K35 : Int32 → Option Nat → Int32 → Int32 → Int32 → h_S → Option ((Unit) × h_S)} {WK35 : Nat → Int32 → Option Nat → Int32 → Int32 → Int32 → h_S → Prop} (hK35 : ∀ {b : Nat → Nat} {s S_s : h_S} {A_o0 : Nat} {x1 : Int32} {r2 : Option Nat} {R_r2 : Option Nat} {x3 : Int32} {x4 : Int32} {x5 : Int32}, c_R E g b s S_s → c_F s → c_at b s 10 A_o0 → c_ao b s r2 R_r2 → K35 x1 r2 x3 x4 x5 s = some (r, t) → (∀ (b2 : Nat → Nat) (S2 : h_S), c_ext b s b2 t → c_R E g b2 t S2 → c_F t → Q S2) → WK35 A_o0 x1 R_r2 x3 x4 x5 S_s) {K55 : Int32 → Option Nat → Int32 → Int32 → Int32 → h_S → Option ((Unit) × h_S)} {WK55 : Nat → Int32 → Option Nat → Int32 → Int32 → Int32 → h_S → Prop} (hK55 : ∀ {b : Nat → Nat} {s S_s : h_S} {A_o0 : Nat} {x1 : Int32} {r2 : Option Nat} {R_r2 : Option Nat} {x3 : Int32} {x4 : Int32} {x5 : Int32}, c_R E g b s S_s → c_F s → c_at b s 10 A_o0 → c_ao b s r2 R_r2 → K55 x1 r2 x3 x4 x5 s = some (r, t) → (∀ (b2 : Nat → Nat) (S2 : h_S), c_ext b s b2 t → c_R E g b2 t S2 → c_F t → Q S2) → WK55 A_o0 x1 R_r2 x3 x4 x5 S_s) {b : Nat → Nat} {s S_s : h_S} {A_o0 : Nat} {x1 : Int32} {r2 : Option Nat} {R_r2 : Option Nat} {x3 : Int32} {x4 : Int32} {x5 : Int32} (hR : c_R E g b s S_s) (hF : c_F s) (f_o0 : c_at b s 10 A_o0) (f_r2 : c_ao b s r2 R_r2) (h : fn_X9_findWay_55b K35 K55 x1 r2 x3 x4 x5 s = some (r, t)) (hQ : ∀ (b2 : Nat → Nat) (S2 : h_S), c_ext b s b2 t → c_R E g b2 t S2 → c_F t → Q S2) : w_X9_findWay_55b Q WK35 WK55 A_o0 x1 R_r2 x3 x4 x5 S_s := by
  unfold fn_X9_findWay_55b at h
  unfold w_X9_findWay_55b
  refine fg_ite Iff.rfl (fun d => ?_) (fun d => ?_)
  · have h := fg_if_t d h
    exact ft_X9_findWay_92 @hK35 hR hF f_o0 f_r2 h (fun b2 S2 x2 => hQ b2 S2 (cr_xt cr_xr x2))
  · have h := fg_if_e d h
    obtain ⟨a2, o_a2, h⟩ := fg_o_s h
    obtain ⟨A_a2, w_a2, f_a2⟩ := cr_aos f_r2 o_a2
    refine ⟨A_a2, w_a2, ?_⟩
    obtain ⟨c_a2_1, h⟩ := fg_g_s h
    refine ⟨(cr_k hR f_a2).trans c_a2_1, ?_⟩
    obtain ⟨c, h⟩ := fg_g_s h
    refine ⟨cr_vp (cr_n hR f_a2) rfl c, ?_⟩
    refine ⟨(cr_k hR f_o0).trans (cf_k (a := 10) hF rfl (by decide)), ?_⟩
    obtain ⟨A_a6, w_a6, f_a6⟩ := cr_aos (cr_r hR f_o0 _) (cf_r (a := 10) (j := 3) (y := 35) hF rfl)
    refine ⟨A_a6, w_a6, ?_⟩
    refine ⟨(cr_k hR f_a6).trans (cf_k (a := 35) hF rfl (by decide)), ?_⟩
    obtain ⟨c, h⟩ := fg_g_s h
    refine ⟨cr_vp (cr_n hR f_a6) (cf_n (a := 35) hF rfl (by decide) rfl) c, ?_⟩
    try simp -zeta -zetaUnused only [cr_i hR f_a2, cr_i hR f_a6]
    refine fg_ite Iff.rfl (fun d => ?_) (fun d => ?_)
    · have h := fg_if_t d h
      exact ft_X9_findWay_92 @hK35 hR hF f_o0 f_r2 h (fun b2 S2 x2 => hQ b2 S2 (cr_xt cr_xr x2))
    · have h := fg_if_e d h
      obtain ⟨p11, s10, e_s10, h⟩ := fg_b_s h
      refine ft_X9_isCut hR hF f_o0 e_s10 (fun b_s10 S_s10 x_s10 r_s10 F_s10 => ?_)
      refine fg_ite Iff.rfl (fun d => ?_) (fun d => ?_)
      · have h := fg_if_t d h
        exact hK55 r_s10 F_s10 (cr_atx f_o0 x_s10) (cr_aox f_r2 x_s10) h (fun b2 S2 x2 => hQ b2 S2 (cr_xt x_s10 x2))
      · have h := fg_if_e d h
        exact ft_X9_findWay_92 @hK35 r_s10 F_s10 (cr_atx f_o0 x_s10) (cr_aox f_r2 x_s10) h (fun b2 S2 x2 => hQ b2 S2 (cr_xt x_s10 x2))
set_option maxRecDepth 100000 in
set_option maxHeartbeats 4000000 in
theorem ft_X9_findWay_55 {E : h_S} {g : h_G} {r : Unit} {t : h_S} {Q : h_S → Prop} {K35 : Int32 → Option Nat → Int32 → Int32 → Int32 → h_S → Option ((Unit) × h_S)} {WK35 : Nat → Int32 → Option Nat → Int32 → Int32 → Int32 → h_S → Prop} (hK35 : ∀ {b : Nat → Nat} {s S_s : h_S} {A_o0 : Nat} {x1 : Int32} {r2 : Option Nat} {R_r2 : Option Nat} {x3 : Int32} {x4 : Int32} {x5 : Int32}, c_R E g b s S_s → c_F s → c_at b s 10 A_o0 → c_ao b s r2 R_r2 → K35 x1 r2 x3 x4 x5 s = some (r, t) → (∀ (b2 : Nat → Nat) (S2 : h_S), c_ext b s b2 t → c_R E g b2 t S2 → c_F t → Q S2) → WK35 A_o0 x1 R_r2 x3 x4 x5 S_s) : ∀ (n : Nat) {b : Nat → Nat} {s S_s : h_S} {A_o0 : Nat} {x1 : Int32} {r2 : Option Nat} {R_r2 : Option Nat} {x3 : Int32} {x4 : Int32} {x5 : Int32}, c_R E g b s S_s → c_F s → c_at b s 10 A_o0 → c_ao b s r2 R_r2 → fn_X9_findWay_55 K35 n x1 r2 x3 x4 x5 s = some (r, t) → (∀ (b2 : Nat → Nat) (S2 : h_S), c_ext b s b2 t → c_R E g b2 t S2 → c_F t → Q S2) → w_X9_findWay_55 Q WK35 n A_o0 x1 R_r2 x3 x4 x5 S_s := by
  intro n
  induction n with
  | zero => intros; rename_i h _; exact fg_none h
  | succ n ih => exact ft_X9_findWay_55b @hK35 @ih
set_option maxRecDepth 100000 in
set_option maxHeartbeats 4000000 in
theorem ft_X9_findWay_35b {E : h_S} {g : h_G} {r : Unit} {t : h_S} {Q : h_S → Prop} {K35 : Int32 → Option Nat → Int32 → Int32 → Int32 → h_S → Option ((Unit) × h_S)} {WK35 : Nat → Int32 → Option Nat → Int32 → Int32 → Int32 → h_S → Prop} (hK35 : ∀ {b : Nat → Nat} {s S_s : h_S} {A_o0 : Nat} {x1 : Int32} {r2 : Option Nat} {R_r2 : Option Nat} {x3 : Int32} {x4 : Int32} {x5 : Int32}, c_R E g b s S_s → c_F s → c_at b s 10 A_o0 → c_ao b s r2 R_r2 → K35 x1 r2 x3 x4 x5 s = some (r, t) → (∀ (b2 : Nat → Nat) (S2 : h_S), c_ext b s b2 t → c_R E g b2 t S2 → c_F t → Q S2) → WK35 A_o0 x1 R_r2 x3 x4 x5 S_s) {b : Nat → Nat} {s S_s : h_S} {A_o0 : Nat} {x1 : Int32} {r2 : Option Nat} {R_r2 : Option Nat} {x3 : Int32} {x4 : Int32} {x5 : Int32} (hR : c_R E g b s S_s) (hF : c_F s) (f_o0 : c_at b s 10 A_o0) (f_r2 : c_ao b s r2 R_r2) (h : fn_X9_findWay_35b K35 x1 r2 x3 x4 x5 s = some (r, t)) (hQ : ∀ (b2 : Nat → Nat) (S2 : h_S), c_ext b s b2 t → c_R E g b2 t S2 → c_F t → Q S2) : w_X9_findWay_35b Q WK35 A_o0 x1 R_r2 x3 x4 x5 S_s := by
  unfold fn_X9_findWay_35b at h
  unfold w_X9_findWay_35b
  refine ⟨(cr_k hR f_o0).trans (cf_k (a := 10) hF rfl (by decide)), ?_⟩
  try simp -zeta -zetaUnused only [cr_i hR f_o0]
  refine fg_ite Iff.rfl (fun d => ?_) (fun d => ?_)
  · have h := fg_if_t d h
    obtain ⟨A_a3, w_a3, f_a3⟩ := cr_aos (cr_r hR f_o0 _) (cf_r (a := 10) (j := 7) (y := 40) hF rfl)
    refine ⟨A_a3, w_a3, ?_⟩
    refine ⟨(cr_k hR f_a3).trans (cf_k (a := 40) hF rfl (by decide)), ?_⟩
    obtain ⟨c, h⟩ := fg_g_s h
    refine ⟨cr_vp (cr_n hR f_a3) (cf_n (a := 40) hF rfl (by decide) rfl) c, ?_⟩
    obtain ⟨a6, o_a6, h⟩ := fg_o_s h
    obtain ⟨A_a6, w_a6, f_a6⟩ := cr_aos (cr_r hR f_a3 _) o_a6
    refine ⟨A_a6, w_a6, ?_⟩
    obtain ⟨c_a6_1, h⟩ := fg_g_s h
    refine ⟨(cr_k hR f_a6).trans c_a6_1, ?_⟩
    obtain ⟨c, h⟩ := fg_g_s h
    refine ⟨cr_vp (cr_n hR f_a6) rfl c, ?_⟩
    obtain ⟨s9, e_s9, h⟩ := fg_let_s h
    intro S_s9
    have r_s9 : c_R E g b s9 S_s9 := by rw [e_s9]; exact cr_si hR f_a6 _ _
    have F_s9 : c_F s9 := by rw [e_s9]; exact cf_si hF _ _
    have x_s9 : c_ext b s b s9 := by rw [e_s9]; exact cx_si _ _
    clear_value S_s9
    obtain ⟨A_a10, w_a10, f_a10⟩ := cr_aos (cr_r r_s9 (cr_atx f_o0 x_s9) _) (cf_r (a := 10) (j := 8) (y := 43) F_s9 rfl)
    refine ⟨A_a10, w_a10, ?_⟩
    refine ⟨(cr_k r_s9 f_a10).trans (cf_k (a := 43) F_s9 rfl (by decide)), ?_⟩
    obtain ⟨c, h⟩ := fg_g_s h
    refine ⟨cr_vp (cr_n r_s9 f_a10) (cf_n (a := 43) F_s9 rfl (by decide) rfl) c, ?_⟩
    obtain ⟨a13, o_a13, h⟩ := fg_o_s h
    obtain ⟨A_a13, w_a13, f_a13⟩ := cr_aos (cr_r r_s9 f_a10 _) o_a13
    refine ⟨A_a13, w_a13, ?_⟩
    obtain ⟨c_a13_2, h⟩ := fg_g_s h
    refine ⟨(cr_k r_s9 f_a13).trans c_a13_2, ?_⟩
    try simp -zeta -zetaUnused only [cr_i r_s9 (cr_atx f_o0 x_s9)]
    obtain ⟨c, h⟩ := fg_g_s h
    refine ⟨cr_vp (cr_n r_s9 f_a13) rfl c, ?_⟩
    obtain ⟨s16, e_s16, h⟩ := fg_let_s h
    intro S_s16
    have r_s16 : c_R E g b s16 S_s16 := by rw [e_s16]; exact cr_si r_s9 f_a13 _ _
    have F_s16 : c_F s16 := by rw [e_s16]; exact cf_si F_s9 _ _
    have x_s16 : c_ext b s9 b s16 := by rw [e_s16]; exact cx_si _ _
    clear_value S_s16
    obtain ⟨_, q⟩ := fg_ret h
    subst q
    exact hQ _ _ (cr_xt x_s9 x_s16) r_s16 F_s16
  · have h := fg_if_e d h
    obtain ⟨A_a17, w_a17, f_a17⟩ := cr_aos (cr_r hR f_o0 _) (cf_r (a := 10) (j := 7) (y := 40) hF rfl)
    refine ⟨A_a17, w_a17, ?_⟩
    refine ⟨(cr_k hR f_a17).trans (cf_k (a := 40) hF rfl (by decide)), ?_⟩
    obtain ⟨c, h⟩ := fg_g_s h
    refine ⟨cr_vp (cr_n hR f_a17) (cf_n (a := 40) hF rfl (by decide) rfl) c, ?_⟩
    obtain ⟨a20, o_a20, h⟩ := fg_o_s h
    obtain ⟨A_a20, w_a20, f_a20⟩ := cr_aos (cr_r hR f_a17 _) o_a20
    refine ⟨A_a20, w_a20, ?_⟩
    obtain ⟨c_a20_1, h⟩ := fg_g_s h
    refine ⟨(cr_k hR f_a20).trans c_a20_1, ?_⟩
    obtain ⟨c, h⟩ := fg_g_s h
    refine ⟨cr_vp (cr_n hR f_a20) rfl c, ?_⟩
    obtain ⟨s23, e_s23, h⟩ := fg_let_s h
    intro S_s23
    have r_s23 : c_R E g b s23 S_s23 := by rw [e_s23]; exact cr_si hR f_a20 _ _
    have F_s23 : c_F s23 := by rw [e_s23]; exact cf_si hF _ _
    have x_s23 : c_ext b s b s23 := by rw [e_s23]; exact cx_si _ _
    clear_value S_s23
    exact ⟨g_N, ft_X9_findWay_55 @hK35 g_N r_s23 F_s23 (cr_atx f_o0 x_s23) (cr_aox f_r2 x_s23) h (fun b2 S2 x2 => hQ b2 S2 (cr_xt x_s23 x2))⟩
set_option maxRecDepth 100000 in
set_option maxHeartbeats 4000000 in
theorem ft_X9_findWay_35 {E : h_S} {g : h_G} {r : Unit} {t : h_S} {Q : h_S → Prop} : ∀ (n : Nat) {b : Nat → Nat} {s S_s : h_S} {A_o0 : Nat} {x1 : Int32} {r2 : Option Nat} {R_r2 : Option Nat} {x3 : Int32} {x4 : Int32} {x5 : Int32}, c_R E g b s S_s → c_F s → c_at b s 10 A_o0 → c_ao b s r2 R_r2 → fn_X9_findWay_35 n x1 r2 x3 x4 x5 s = some (r, t) → (∀ (b2 : Nat → Nat) (S2 : h_S), c_ext b s b2 t → c_R E g b2 t S2 → c_F t → Q S2) → w_X9_findWay_35 Q n A_o0 x1 R_r2 x3 x4 x5 S_s := by
  intro n
  induction n with
  | zero => intros; rename_i h _; exact fg_none h
  | succ n ih => exact ft_X9_findWay_35b @ih
set_option maxRecDepth 100000 in
set_option maxHeartbeats 4000000 in
theorem ft_X9_findWay {E : h_S} {g : h_G} {r : Unit} {t : h_S} {Q : h_S → Prop} {b : Nat → Nat} {s S_s : h_S} {A_o0 : Nat} {x1 : Int32} (hR : c_R E g b s S_s) (hF : c_F s) (f_o0 : c_at b s 10 A_o0) (h : fn_X9_findWay x1 s = some (r, t)) (hQ : ∀ (b2 : Nat → Nat) (S2 : h_S), c_ext b s b2 t → c_R E g b2 t S2 → c_F t → Q S2) : w_X9_findWay A_o0 x1 S_s Q := by
  unfold fn_X9_findWay at h
  unfold w_X9_findWay
  refine ⟨(cr_k hR f_o0).trans (cf_k (a := 10) hF rfl (by decide)), ?_⟩
  obtain ⟨A_a2, w_a2, f_a2⟩ := cr_aos (cr_r hR f_o0 _) (cf_r (a := 10) (j := 5) (y := 36) hF rfl)
  refine ⟨A_a2, w_a2, ?_⟩
  refine ⟨(cr_k hR f_a2).trans (cf_k (a := 36) hF rfl (by decide)), ?_⟩
  obtain ⟨c, h⟩ := fg_g_s h
  refine ⟨cr_vp (cr_n hR f_a2) (cf_n (a := 36) hF rfl (by decide) rfl) c, ?_⟩
  obtain ⟨A_a5, w_a5, f_a5⟩ := cr_aos (cr_r hR f_o0 _) (cf_r (a := 10) (j := 6) (y := 39) hF rfl)
  refine ⟨A_a5, w_a5, ?_⟩
  refine ⟨(cr_k hR f_a5).trans (cf_k (a := 39) hF rfl (by decide)), ?_⟩
  obtain ⟨c, h⟩ := fg_g_s h
  refine ⟨cr_vp (cr_n hR f_a5) (cf_n (a := 39) hF rfl (by decide) rfl) c, ?_⟩
  try simp -zeta -zetaUnused only [cr_i hR f_o0, cr_i hR f_a5]
  obtain ⟨p9, s8, e_s8, h⟩ := fg_b_s h
  refine ft_X9_sharedOf hR hF f_o0 (cr_r hR f_o0 _) (cr_r hR f_a2 _) e_s8 (fun b_s8 S_s8 x_s8 r_s8 F_s8 => ?_)
  exact ⟨g_N, ft_X9_findWay_35 g_N r_s8 F_s8 (cr_atx f_o0 x_s8) (cr_aox (cr_r hR f_a2 _) x_s8) h (fun b2 S2 x2 => hQ b2 S2 (cr_xt x_s8 x2))⟩
set_option maxRecDepth 100000 in
set_option maxHeartbeats 4000000 in
theorem ft_J6_compare_7cf53 {E : h_S} {g : h_G} {r : Int32} {t : h_S} {Q : Int32 → h_S → Prop} {b : Nat → Nat} {s S_s : h_S} {x0 : Int32} {x1 : Int32} (hR : c_R E g b s S_s) (hF : c_F s) (h : fn_J6_compare_7cf53 x0 x1 s = some (r, t)) (hQ : ∀ (b2 : Nat → Nat) (S2 : h_S), c_ext b s b2 t → c_R E g b2 t S2 → c_F t → Q r S2) : w_J6_compare_7cf53 x0 x1 S_s Q := by
  unfold fn_J6_compare_7cf53 at h
  unfold w_J6_compare_7cf53
  refine fg_ite Iff.rfl (fun d => ?_) (fun d => ?_)
  · have h := fg_if_t d h
    refine fg_ite Iff.rfl (fun d => ?_) (fun d => ?_)
    · have h := fg_if_t d h
      unfold w_J6_compare_7cf53_19
      obtain ⟨q, q2⟩ := fg_ret h
      subst q
      subst q2
      exact hQ _ _ cr_xr hR hF
    · have h := fg_if_e d h
      unfold w_J6_compare_7cf53_19
      obtain ⟨q, q2⟩ := fg_ret h
      subst q
      subst q2
      exact hQ _ _ cr_xr hR hF
  · have h := fg_if_e d h
    unfold w_J6_compare_7cf53_19
    obtain ⟨q, q2⟩ := fg_ret h
    subst q
    subst q2
    exact hQ _ _ cr_xr hR hF
set_option maxRecDepth 100000 in
set_option maxHeartbeats 4000000 in
theorem ft_X9_orderOfPuts_112 {E : h_S} {g : h_G} {r : Int32} {t : h_S} {Q : Int32 → h_S → Prop} {b : Nat → Nat} {s S_s : h_S} {x2 : Int32} {x3 : Int32} (hR : c_R E g b s S_s) (hF : c_F s) (h : fn_X9_orderOfPuts_112 x2 x3 s = some (r, t)) (hQ : ∀ (b2 : Nat → Nat) (S2 : h_S), c_ext b s b2 t → c_R E g b2 t S2 → c_F t → Q r S2) : w_X9_orderOfPuts_112 Q x2 x3 S_s := by
  unfold fn_X9_orderOfPuts_112 at h
  unfold w_X9_orderOfPuts_112
  obtain ⟨p2, s1, e_s1, h⟩ := fg_b_s h
  refine ft_J6_compare_7cf53 hR hF e_s1 (fun b_s1 S_s1 x_s1 r_s1 F_s1 => ?_)
  obtain ⟨q, q2⟩ := fg_ret h
  subst q
  subst q2
  exact hQ _ _ x_s1 r_s1 F_s1
