set_option maxRecDepth 100000 in
set_option maxHeartbeats 4000000 in
theorem ft_X9_orderOfPuts_39b {E : h_S} {g : h_G} {r : Int32} {t : h_S} {Q : Int32 → h_S → Prop} {K39 : Int32 → Int32 → Int32 → Int32 → h_S → Option ((Int32) × h_S)} {WK39 : Nat → Int32 → Int32 → Int32 → Int32 → h_S → Prop} (hK39 : ∀ {b : Nat → Nat} {s S_s : h_S} {A_o0 : Nat} {x1 : Int32} {x2 : Int32} {x3 : Int32} {x4 : Int32}, c_R E g b s S_s → c_F s → c_at b s 10 A_o0 → K39 x1 x2 x3 x4 s = some (r, t) → (∀ (b2 : Nat → Nat) (S2 : h_S), c_ext b s b2 t → c_R E g b2 t S2 → c_F t → Q r S2) → WK39 A_o0 x1 x2 x3 x4 S_s) {b : Nat → Nat} {s S_s : h_S} {A_o0 : Nat} {x1 : Int32} {x2 : Int32} {x3 : Int32} {x4 : Int32} (hR : c_R E g b s S_s) (hF : c_F s) (f_o0 : c_at b s 10 A_o0) (h : fn_X9_orderOfPuts_39b K39 x1 x2 x3 x4 s = some (r, t)) (hQ : ∀ (b2 : Nat → Nat) (S2 : h_S), c_ext b s b2 t → c_R E g b2 t S2 → c_F t → Q r S2) : w_X9_orderOfPuts_39b Q WK39 A_o0 x1 x2 x3 x4 S_s := by
  unfold fn_X9_orderOfPuts_39b at h
  unfold w_X9_orderOfPuts_39b
  refine fg_ite Iff.rfl (fun d => ?_) (fun d => ?_)
  · have h := fg_if_t d h
    exact ft_X9_orderOfPuts_112 hR hF h (fun b2 S2 x2 => hQ b2 S2 (cr_xt cr_xr x2))
  · have h := fg_if_e d h
    refine fg_ite Iff.rfl (fun d => ?_) (fun d => ?_)
    · have h := fg_if_t d h
      exact ft_X9_orderOfPuts_112 hR hF h (fun b2 S2 x2 => hQ b2 S2 (cr_xt cr_xr x2))
    · have h := fg_if_e d h
      refine ⟨(cr_k hR f_o0).trans (cf_k (a := 10) hF rfl (by decide)), ?_⟩
      obtain ⟨A_a4, w_a4, f_a4⟩ := cr_aos (cr_r hR f_o0 _) (cf_r (a := 10) (j := 5) (y := 36) hF rfl)
      refine ⟨A_a4, w_a4, ?_⟩
      refine ⟨(cr_k hR f_a4).trans (cf_k (a := 36) hF rfl (by decide)), ?_⟩
      obtain ⟨c, h⟩ := fg_g_s h
      refine ⟨cr_vp (cr_n hR f_a4) (cf_n (a := 36) hF rfl (by decide) rfl) c, ?_⟩
      obtain ⟨A_a7, w_a7, f_a7⟩ := cr_aos (cr_r hR f_o0 _) (cf_r (a := 10) (j := 7) (y := 40) hF rfl)
      refine ⟨A_a7, w_a7, ?_⟩
      refine ⟨(cr_k hR f_a7).trans (cf_k (a := 40) hF rfl (by decide)), ?_⟩
      obtain ⟨c, h⟩ := fg_g_s h
      refine ⟨cr_vp (cr_n hR f_a7) (cf_n (a := 40) hF rfl (by decide) rfl) c, ?_⟩
      obtain ⟨a10, o_a10, h⟩ := fg_o_s h
      obtain ⟨A_a10, w_a10, f_a10⟩ := cr_aos (cr_r hR f_a7 _) o_a10
      refine ⟨A_a10, w_a10, ?_⟩
      obtain ⟨c_a10_1, h⟩ := fg_g_s h
      refine ⟨(cr_k hR f_a10).trans c_a10_1, ?_⟩
      obtain ⟨c, h⟩ := fg_g_s h
      refine ⟨cr_vp (cr_n hR f_a10) rfl c, ?_⟩
      obtain ⟨a13, o_a13, h⟩ := fg_o_s h
      obtain ⟨A_a13, w_a13, f_a13⟩ := cr_aos (cr_r hR f_a4 _) o_a13
      refine ⟨A_a13, w_a13, ?_⟩
      obtain ⟨c_a13_2, h⟩ := fg_g_s h
      refine ⟨(cr_k hR f_a13).trans c_a13_2, ?_⟩
      try simp -zeta -zetaUnused only [cr_i hR f_a10]
      obtain ⟨c, h⟩ := fg_g_s h
      refine ⟨cr_vp (cr_n hR f_a13) rfl c, ?_⟩
      try simp -zeta -zetaUnused only [cr_i hR f_a13]
      obtain ⟨v16, e_v16, h⟩ := fg_let_s h
      intro S_v16
      have z_v16 : v16 = S_v16 := e_v16
      clear_value S_v16
      subst z_v16
      obtain ⟨A_a17, w_a17, f_a17⟩ := cr_aos (cr_r hR f_o0 _) (cf_r (a := 10) (j := 5) (y := 36) hF rfl)
      refine ⟨A_a17, w_a17, ?_⟩
      refine ⟨(cr_k hR f_a17).trans (cf_k (a := 36) hF rfl (by decide)), ?_⟩
      obtain ⟨c, h⟩ := fg_g_s h
      refine ⟨cr_vp (cr_n hR f_a17) (cf_n (a := 36) hF rfl (by decide) rfl) c, ?_⟩
      obtain ⟨A_a20, w_a20, f_a20⟩ := cr_aos (cr_r hR f_o0 _) (cf_r (a := 10) (j := 7) (y := 40) hF rfl)
      refine ⟨A_a20, w_a20, ?_⟩
      refine ⟨(cr_k hR f_a20).trans (cf_k (a := 40) hF rfl (by decide)), ?_⟩
      obtain ⟨c, h⟩ := fg_g_s h
      refine ⟨cr_vp (cr_n hR f_a20) (cf_n (a := 40) hF rfl (by decide) rfl) c, ?_⟩
      obtain ⟨a23, o_a23, h⟩ := fg_o_s h
      obtain ⟨A_a23, w_a23, f_a23⟩ := cr_aos (cr_r hR f_a20 _) o_a23
      refine ⟨A_a23, w_a23, ?_⟩
      obtain ⟨c_a23_3, h⟩ := fg_g_s h
      refine ⟨(cr_k hR f_a23).trans c_a23_3, ?_⟩
      obtain ⟨c, h⟩ := fg_g_s h
      refine ⟨cr_vp (cr_n hR f_a23) rfl c, ?_⟩
      obtain ⟨a26, o_a26, h⟩ := fg_o_s h
      obtain ⟨A_a26, w_a26, f_a26⟩ := cr_aos (cr_r hR f_a17 _) o_a26
      refine ⟨A_a26, w_a26, ?_⟩
      obtain ⟨c_a26_4, h⟩ := fg_g_s h
      refine ⟨(cr_k hR f_a26).trans c_a26_4, ?_⟩
      try simp -zeta -zetaUnused only [cr_i hR f_a23]
      obtain ⟨c, h⟩ := fg_g_s h
      refine ⟨cr_vp (cr_n hR f_a26) rfl c, ?_⟩
      try simp -zeta -zetaUnused only [cr_i hR f_a26]
      obtain ⟨v29, e_v29, h⟩ := fg_let_s h
      intro S_v29
      have z_v29 : v29 = S_v29 := e_v29
      clear_value S_v29
      subst z_v29
      refine fg_ite Iff.rfl (fun d => ?_) (fun d => ?_)
      · have h := fg_if_t d h
        exact hK39 hR hF f_o0 h (fun b2 S2 x2 => hQ b2 S2 (cr_xt cr_xr x2))
      · have h := fg_if_e d h
        obtain ⟨p32, s31, e_s31, h⟩ := fg_b_s h
        refine ft_J6_compare_7cf53 hR hF e_s31 (fun b_s31 S_s31 x_s31 r_s31 F_s31 => ?_)
        obtain ⟨q, q2⟩ := fg_ret h
        subst q
        subst q2
        exact hQ _ _ x_s31 r_s31 F_s31
set_option maxRecDepth 100000 in
set_option maxHeartbeats 4000000 in
theorem ft_X9_orderOfPuts_39 {E : h_S} {g : h_G} {r : Int32} {t : h_S} {Q : Int32 → h_S → Prop} : ∀ (n : Nat) {b : Nat → Nat} {s S_s : h_S} {A_o0 : Nat} {x1 : Int32} {x2 : Int32} {x3 : Int32} {x4 : Int32}, c_R E g b s S_s → c_F s → c_at b s 10 A_o0 → fn_X9_orderOfPuts_39 n x1 x2 x3 x4 s = some (r, t) → (∀ (b2 : Nat → Nat) (S2 : h_S), c_ext b s b2 t → c_R E g b2 t S2 → c_F t → Q r S2) → w_X9_orderOfPuts_39 Q n A_o0 x1 x2 x3 x4 S_s := by
  intro n
  induction n with
  | zero => intros; rename_i h _; exact fg_none h
  | succ n ih => exact ft_X9_orderOfPuts_39b @ih
set_option maxRecDepth 100000 in
set_option maxHeartbeats 4000000 in
theorem ft_X9_orderOfPuts {E : h_S} {g : h_G} {r : Int32} {t : h_S} {Q : Int32 → h_S → Prop} {b : Nat → Nat} {s S_s : h_S} {A_o0 : Nat} {x1 : Int32} (hR : c_R E g b s S_s) (hF : c_F s) (f_o0 : c_at b s 10 A_o0) (h : fn_X9_orderOfPuts x1 s = some (r, t)) (hQ : ∀ (b2 : Nat → Nat) (S2 : h_S), c_ext b s b2 t → c_R E g b2 t S2 → c_F t → Q r S2) : w_X9_orderOfPuts A_o0 x1 S_s Q := by
  unfold fn_X9_orderOfPuts at h
  unfold w_X9_orderOfPuts
  refine ⟨(cr_k hR f_o0).trans (cf_k (a := 10) hF rfl (by decide)), ?_⟩
  obtain ⟨A_a2, w_a2, f_a2⟩ := cr_aos (cr_r hR f_o0 _) (cf_r (a := 10) (j := 8) (y := 43) hF rfl)
  refine ⟨A_a2, w_a2, ?_⟩
  refine ⟨(cr_k hR f_a2).trans (cf_k (a := 43) hF rfl (by decide)), ?_⟩
  obtain ⟨c, h⟩ := fg_g_s h
  refine ⟨cr_vp (cr_n hR f_a2) (cf_n (a := 43) hF rfl (by decide) rfl) c, ?_⟩
  obtain ⟨a5, o_a5, h⟩ := fg_o_s h
  obtain ⟨A_a5, w_a5, f_a5⟩ := cr_aos (cr_r hR f_a2 _) o_a5
  refine ⟨A_a5, w_a5, ?_⟩
  obtain ⟨c_a5_1, h⟩ := fg_g_s h
  refine ⟨(cr_k hR f_a5).trans c_a5_1, ?_⟩
  obtain ⟨c, h⟩ := fg_g_s h
  refine ⟨cr_vp (cr_n hR f_a5) rfl c, ?_⟩
  obtain ⟨A_a8, w_a8, f_a8⟩ := cr_aos (cr_r hR f_o0 _) (cf_r (a := 10) (j := 7) (y := 40) hF rfl)
  refine ⟨A_a8, w_a8, ?_⟩
  refine ⟨(cr_k hR f_a8).trans (cf_k (a := 40) hF rfl (by decide)), ?_⟩
  obtain ⟨c, h⟩ := fg_g_s h
  refine ⟨cr_vp (cr_n hR f_a8) (cf_n (a := 40) hF rfl (by decide) rfl) c, ?_⟩
  obtain ⟨a11, o_a11, h⟩ := fg_o_s h
  obtain ⟨A_a11, w_a11, f_a11⟩ := cr_aos (cr_r hR f_a8 _) o_a11
  refine ⟨A_a11, w_a11, ?_⟩
  obtain ⟨c_a11_2, h⟩ := fg_g_s h
  refine ⟨(cr_k hR f_a11).trans c_a11_2, ?_⟩
  obtain ⟨c, h⟩ := fg_g_s h
  refine ⟨cr_vp (cr_n hR f_a11) rfl c, ?_⟩
  try simp -zeta -zetaUnused only [cr_i hR f_a5, cr_i hR f_a11]
  obtain ⟨v14, e_v14, h⟩ := fg_let_s h
  intro S_v14
  have z_v14 : v14 = S_v14 := e_v14
  clear_value S_v14
  subst z_v14
  obtain ⟨A_a15, w_a15, f_a15⟩ := cr_aos (cr_r hR f_o0 _) (cf_r (a := 10) (j := 8) (y := 43) hF rfl)
  refine ⟨A_a15, w_a15, ?_⟩
  refine ⟨(cr_k hR f_a15).trans (cf_k (a := 43) hF rfl (by decide)), ?_⟩
  obtain ⟨c, h⟩ := fg_g_s h
  refine ⟨cr_vp (cr_n hR f_a15) (cf_n (a := 43) hF rfl (by decide) rfl) c, ?_⟩
  obtain ⟨a18, o_a18, h⟩ := fg_o_s h
  obtain ⟨A_a18, w_a18, f_a18⟩ := cr_aos (cr_r hR f_a15 _) o_a18
  refine ⟨A_a18, w_a18, ?_⟩
  obtain ⟨c_a18_3, h⟩ := fg_g_s h
  refine ⟨(cr_k hR f_a18).trans c_a18_3, ?_⟩
  obtain ⟨c, h⟩ := fg_g_s h
  refine ⟨cr_vp (cr_n hR f_a18) rfl c, ?_⟩
  obtain ⟨A_a21, w_a21, f_a21⟩ := cr_aos (cr_r hR f_o0 _) (cf_r (a := 10) (j := 7) (y := 40) hF rfl)
  refine ⟨A_a21, w_a21, ?_⟩
  refine ⟨(cr_k hR f_a21).trans (cf_k (a := 40) hF rfl (by decide)), ?_⟩
  obtain ⟨c, h⟩ := fg_g_s h
  refine ⟨cr_vp (cr_n hR f_a21) (cf_n (a := 40) hF rfl (by decide) rfl) c, ?_⟩
  obtain ⟨a24, o_a24, h⟩ := fg_o_s h
  obtain ⟨A_a24, w_a24, f_a24⟩ := cr_aos (cr_r hR f_a21 _) o_a24
  refine ⟨A_a24, w_a24, ?_⟩
  obtain ⟨c_a24_4, h⟩ := fg_g_s h
  refine ⟨(cr_k hR f_a24).trans c_a24_4, ?_⟩
  obtain ⟨c, h⟩ := fg_g_s h
  refine ⟨cr_vp (cr_n hR f_a24) rfl c, ?_⟩
  try simp -zeta -zetaUnused only [cr_i hR f_a18, cr_i hR f_a24]
  obtain ⟨v27, e_v27, h⟩ := fg_let_s h
  intro S_v27
  have z_v27 : v27 = S_v27 := e_v27
  clear_value S_v27
  subst z_v27
  exact ⟨g_N, ft_X9_orderOfPuts_39 g_N hR hF f_o0 h (fun b2 S2 x2 => hQ b2 S2 (cr_xt cr_xr x2))⟩
set_option maxRecDepth 100000 in
set_option maxHeartbeats 4000000 in
theorem ft_X9_append_3b {E : h_S} {g : h_G} {r : Unit} {t : h_S} {Q : h_S → Prop} {K3 : Option Nat → Int32 → Int32 → h_S → Option ((Unit) × h_S)} {WK3 : Nat → Option Nat → Int32 → Int32 → h_S → Prop} (hK3 : ∀ {b : Nat → Nat} {s S_s : h_S} {A_o0 : Nat} {r1 : Option Nat} {R_r1 : Option Nat} {x3 : Int32} {x4 : Int32}, c_R E g b s S_s → c_F s → c_at b s 10 A_o0 → c_ao b s r1 R_r1 → K3 r1 x3 x4 s = some (r, t) → (∀ (b2 : Nat → Nat) (S2 : h_S), c_ext b s b2 t → c_R E g b2 t S2 → c_F t → Q S2) → WK3 A_o0 R_r1 x3 x4 S_s) {b : Nat → Nat} {s S_s : h_S} {A_o0 : Nat} {r1 : Option Nat} {R_r1 : Option Nat} {x3 : Int32} {x4 : Int32} (hR : c_R E g b s S_s) (hF : c_F s) (f_o0 : c_at b s 10 A_o0) (f_r1 : c_ao b s r1 R_r1) (h : fn_X9_append_3b K3 r1 x3 x4 s = some (r, t)) (hQ : ∀ (b2 : Nat → Nat) (S2 : h_S), c_ext b s b2 t → c_R E g b2 t S2 → c_F t → Q S2) : w_X9_append_3b Q WK3 A_o0 R_r1 x3 x4 S_s := by
  unfold fn_X9_append_3b at h
  unfold w_X9_append_3b
  refine fg_ite Iff.rfl (fun d => ?_) (fun d => ?_)
  · have h := fg_if_t d h
    unfold w_X9_append_50
    obtain ⟨_, q⟩ := fg_ret h
    subst q
    exact hQ _ _ cr_xr hR hF
  · have h := fg_if_e d h
    refine ⟨(cr_k hR f_o0).trans (cf_k (a := 10) hF rfl (by decide)), ?_⟩
    obtain ⟨A_a3, w_a3, f_a3⟩ := cr_aos (cr_r hR f_o0 _) (cf_r (a := 10) (j := 10) (y := 47) hF rfl)
    refine ⟨A_a3, w_a3, ?_⟩
    refine ⟨(cr_k hR f_a3).trans (cf_k (a := 47) hF rfl (by decide)), ?_⟩
    try simp -zeta -zetaUnused only [cr_n hR f_a3, cr_i hR f_o0]
    refine fg_ite Iff.rfl (fun d => ?_) (fun d => ?_)
    · have h := fg_if_t d h
      unfold w_X9_append_50
      obtain ⟨_, q⟩ := fg_ret h
      subst q
      exact hQ _ _ cr_xr hR hF
    · have h := fg_if_e d h
      obtain ⟨a6, o_a6, h⟩ := fg_o_s h
      obtain ⟨A_a6, w_a6, f_a6⟩ := cr_aos f_r1 o_a6
      refine ⟨A_a6, w_a6, ?_⟩
      obtain ⟨c_a6_1, h⟩ := fg_g_s h
      refine ⟨(cr_k hR f_a6).trans c_a6_1, ?_⟩
      obtain ⟨c, h⟩ := fg_g_s h
      refine ⟨cr_vp (cr_n hR f_a6) rfl c, ?_⟩
      obtain ⟨A_a9, w_a9, f_a9⟩ := cr_aos (cr_r hR f_o0 _) (cf_r (a := 10) (j := 10) (y := 47) hF rfl)
      refine ⟨A_a9, w_a9, ?_⟩
      refine ⟨(cr_k hR f_a9).trans (cf_k (a := 47) hF rfl (by decide)), ?_⟩
      obtain ⟨c, h⟩ := fg_g_s h
      refine ⟨cr_vp (cr_n hR f_a9) (cf_n (a := 47) hF rfl (by decide) rfl) c, ?_⟩
      try simp -zeta -zetaUnused only [cr_i hR f_a6]
      obtain ⟨s12, e_s12, h⟩ := fg_let_s h
      intro S_s12
      have r_s12 : c_R E g b s12 S_s12 := by rw [e_s12]; exact cr_si hR f_a9 _ _
      have F_s12 : c_F s12 := by rw [e_s12]; exact cf_si hF _ _
      have x_s12 : c_ext b s b s12 := by rw [e_s12]; exact cx_si _ _
      clear_value S_s12
      try simp -zeta -zetaUnused only [cr_i r_s12 (cr_atx f_o0 x_s12)]
      obtain ⟨s13, e_s13, h⟩ := fg_let_s h
      intro S_s13
      have r_s13 : c_R E g b s13 S_s13 := by rw [e_s13]; exact cr_si r_s12 (cr_atx f_o0 x_s12) _ _
      have F_s13 : c_F s13 := by rw [e_s13]; exact cf_si F_s12 _ _
      have x_s13 : c_ext b s12 b s13 := by rw [e_s13]; exact cx_si _ _
      clear_value S_s13
      exact hK3 r_s13 F_s13 (cr_atx (cr_atx f_o0 x_s12) x_s13) (cr_aox (cr_aox f_r1 x_s12) x_s13) h (fun b2 S2 x2 => hQ b2 S2 (cr_xt (cr_xt x_s12 x_s13) x2))
set_option maxRecDepth 100000 in
set_option maxHeartbeats 4000000 in
theorem ft_X9_append_3 {E : h_S} {g : h_G} {r : Unit} {t : h_S} {Q : h_S → Prop} : ∀ (n : Nat) {b : Nat → Nat} {s S_s : h_S} {A_o0 : Nat} {r1 : Option Nat} {R_r1 : Option Nat} {x3 : Int32} {x4 : Int32}, c_R E g b s S_s → c_F s → c_at b s 10 A_o0 → c_ao b s r1 R_r1 → fn_X9_append_3 n r1 x3 x4 s = some (r, t) → (∀ (b2 : Nat → Nat) (S2 : h_S), c_ext b s b2 t → c_R E g b2 t S2 → c_F t → Q S2) → w_X9_append_3 Q n A_o0 R_r1 x3 x4 S_s := by
  intro n
  induction n with
  | zero => intros; rename_i h _; exact fg_none h
  | succ n ih => exact ft_X9_append_3b @ih
set_option maxRecDepth 100000 in
set_option maxHeartbeats 4000000 in
theorem ft_X9_append {E : h_S} {g : h_G} {r : Unit} {t : h_S} {Q : h_S → Prop} {b : Nat → Nat} {s S_s : h_S} {A_o0 : Nat} {r1 : Option Nat} {R_r1 : Option Nat} {x2 : Int32} {x3 : Int32} (hR : c_R E g b s S_s) (hF : c_F s) (f_o0 : c_at b s 10 A_o0) (f_r1 : c_ao b s r1 R_r1) (h : fn_X9_append r1 x2 x3 s = some (r, t)) (hQ : ∀ (b2 : Nat → Nat) (S2 : h_S), c_ext b s b2 t → c_R E g b2 t S2 → c_F t → Q S2) : w_X9_append A_o0 R_r1 x2 x3 S_s Q := by
  unfold fn_X9_append at h
  unfold w_X9_append
  exact ⟨g_N, ft_X9_append_3 g_N hR hF f_o0 f_r1 h (fun b2 S2 x2 => hQ b2 S2 (cr_xt cr_xr x2))⟩
set_option maxRecDepth 100000 in
set_option maxHeartbeats 4000000 in
theorem ft_X9_noteClash_42 {E : h_S} {g : h_G} {r : Unit} {t : h_S} {Q : h_S → Prop} {b : Nat → Nat} {s S_s : h_S} {A_o0 : Nat} (hR : c_R E g b s S_s) (hF : c_F s) (f_o0 : c_at b s 10 A_o0) (h : fn_X9_noteClash_42 s = some (r, t)) (hQ : ∀ (b2 : Nat → Nat) (S2 : h_S), c_ext b s b2 t → c_R E g b2 t S2 → c_F t → Q S2) : w_X9_noteClash_42 Q A_o0 S_s := by
  unfold fn_X9_noteClash_42 at h
  unfold w_X9_noteClash_42
  refine ⟨(cr_k hR f_o0).trans (cf_k (a := 10) hF rfl (by decide)), ?_⟩
  try simp -zeta -zetaUnused only [cr_i hR f_o0]
  obtain ⟨s2, e_s2, h⟩ := fg_let_s h
  intro S_s2
  have r_s2 : c_R E g b s2 S_s2 := by rw [e_s2]; exact cr_si hR f_o0 _ _
  have F_s2 : c_F s2 := by rw [e_s2]; exact cf_si hF _ _
  have x_s2 : c_ext b s b s2 := by rw [e_s2]; exact cx_si _ _
  clear_value S_s2
  obtain ⟨_, q⟩ := fg_ret h
  subst q
  exact hQ _ _ x_s2 r_s2 F_s2
set_option maxRecDepth 100000 in
set_option maxHeartbeats 4000000 in
theorem ft_X9_noteClash {E : h_S} {g : h_G} {r : Unit} {t : h_S} {Q : h_S → Prop} {b : Nat → Nat} {s S_s : h_S} {A_o0 : Nat} {x1 : Int32} {x2 : Int32} (hR : c_R E g b s S_s) (hF : c_F s) (f_o0 : c_at b s 10 A_o0) (h : fn_X9_noteClash x1 x2 s = some (r, t)) (hQ : ∀ (b2 : Nat → Nat) (S2 : h_S), c_ext b s b2 t → c_R E g b2 t S2 → c_F t → Q S2) : w_X9_noteClash A_o0 x1 x2 S_s Q := by
  unfold fn_X9_noteClash at h
  unfold w_X9_noteClash
  refine ⟨(cr_k hR f_o0).trans (cf_k (a := 10) hF rfl (by decide)), ?_⟩
  try simp -zeta -zetaUnused only [cr_i hR f_o0]
  refine fg_ite Iff.rfl (fun d => ?_) (fun d => ?_)
  · have h := fg_if_t d h
    exact ft_X9_noteClash_42 hR hF f_o0 h (fun b2 S2 x2 => hQ b2 S2 (cr_xt cr_xr x2))
  · have h := fg_if_e d h
    obtain ⟨A_a3, w_a3, f_a3⟩ := cr_aos (cr_r hR f_o0 _) (cf_r (a := 10) (j := 12) (y := 48) hF rfl)
    refine ⟨A_a3, w_a3, ?_⟩
    refine ⟨(cr_k hR f_a3).trans (cf_k (a := 48) hF rfl (by decide)), ?_⟩
    obtain ⟨c, h⟩ := fg_g_s h
    refine ⟨cr_vp (cr_n hR f_a3) (cf_n (a := 48) hF rfl (by decide) rfl) c, ?_⟩
    obtain ⟨s6, e_s6, h⟩ := fg_let_s h
    intro S_s6
    have r_s6 : c_R E g b s6 S_s6 := by rw [e_s6]; exact cr_si hR f_a3 _ _
    have F_s6 : c_F s6 := by rw [e_s6]; exact cf_si hF _ _
    have x_s6 : c_ext b s b s6 := by rw [e_s6]; exact cx_si _ _
    clear_value S_s6
    obtain ⟨A_a7, w_a7, f_a7⟩ := cr_aos (cr_r r_s6 (cr_atx f_o0 x_s6) _) (cf_r (a := 10) (j := 13) (y := 49) F_s6 rfl)
    refine ⟨A_a7, w_a7, ?_⟩
    refine ⟨(cr_k r_s6 f_a7).trans (cf_k (a := 49) F_s6 rfl (by decide)), ?_⟩
    try simp -zeta -zetaUnused only [cr_i r_s6 (cr_atx f_o0 x_s6)]
    obtain ⟨c, h⟩ := fg_g_s h
    refine ⟨cr_vp (cr_n r_s6 f_a7) (cf_n (a := 49) F_s6 rfl (by decide) rfl) c, ?_⟩
    obtain ⟨s10, e_s10, h⟩ := fg_let_s h
    intro S_s10
    have r_s10 : c_R E g b s10 S_s10 := by rw [e_s10]; exact cr_si r_s6 f_a7 _ _
    have F_s10 : c_F s10 := by rw [e_s10]; exact cf_si F_s6 _ _
    have x_s10 : c_ext b s6 b s10 := by rw [e_s10]; exact cx_si _ _
    clear_value S_s10
    obtain ⟨A_a11, w_a11, f_a11⟩ := cr_aos (cr_r r_s10 (cr_atx (cr_atx f_o0 x_s6) x_s10) _) (cf_r (a := 10) (j := 14) (y := 50) F_s10 rfl)
    refine ⟨A_a11, w_a11, ?_⟩
    refine ⟨(cr_k r_s10 f_a11).trans (cf_k (a := 50) F_s10 rfl (by decide)), ?_⟩
    try simp -zeta -zetaUnused only [cr_i r_s10 (cr_atx (cr_atx f_o0 x_s6) x_s10)]
    obtain ⟨c, h⟩ := fg_g_s h
    refine ⟨cr_vp (cr_n r_s10 f_a11) (cf_n (a := 50) F_s10 rfl (by decide) rfl) c, ?_⟩
    obtain ⟨s14, e_s14, h⟩ := fg_let_s h
    intro S_s14
    have r_s14 : c_R E g b s14 S_s14 := by rw [e_s14]; exact cr_si r_s10 f_a11 _ _
    have F_s14 : c_F s14 := by rw [e_s14]; exact cf_si F_s10 _ _
    have x_s14 : c_ext b s10 b s14 := by rw [e_s14]; exact cx_si _ _
    clear_value S_s14
    exact ft_X9_noteClash_42 r_s14 F_s14 (cr_atx (cr_atx (cr_atx f_o0 x_s6) x_s10) x_s14) h (fun b2 S2 x2 => hQ b2 S2 (cr_xt (cr_xt x_s6 (cr_xt x_s10 x_s14)) x2))
set_option maxRecDepth 100000 in
set_option maxHeartbeats 4000000 in
theorem ft_X9_joinPuts_52 {E : h_S} {g : h_G} {r : Unit} {t : h_S} {Q : h_S → Prop} {b : Nat → Nat} {s S_s : h_S} {A_o0 : Nat} {x1 : Int32} (hR : c_R E g b s S_s) (hF : c_F s) (f_o0 : c_at b s 10 A_o0) (h : fn_X9_joinPuts_52 x1 s = some (r, t)) (hQ : ∀ (b2 : Nat → Nat) (S2 : h_S), c_ext b s b2 t → c_R E g b2 t S2 → c_F t → Q S2) : w_X9_joinPuts_52 Q A_o0 x1 S_s := by
  unfold fn_X9_joinPuts_52 at h
  unfold w_X9_joinPuts_52
  refine ⟨(cr_k hR f_o0).trans (cf_k (a := 10) hF rfl (by decide)), ?_⟩
  obtain ⟨A_a2, w_a2, f_a2⟩ := cr_aos (cr_r hR f_o0 _) (cf_r (a := 10) (j := 5) (y := 36) hF rfl)
  refine ⟨A_a2, w_a2, ?_⟩
  refine ⟨(cr_k hR f_a2).trans (cf_k (a := 36) hF rfl (by decide)), ?_⟩
  obtain ⟨c, h⟩ := fg_g_s h
  refine ⟨cr_vp (cr_n hR f_a2) (cf_n (a := 36) hF rfl (by decide) rfl) c, ?_⟩
  obtain ⟨A_a5, w_a5, f_a5⟩ := cr_aos (cr_r hR f_o0 _) (cf_r (a := 10) (j := 7) (y := 40) hF rfl)
  refine ⟨A_a5, w_a5, ?_⟩
  refine ⟨(cr_k hR f_a5).trans (cf_k (a := 40) hF rfl (by decide)), ?_⟩
  obtain ⟨c, h⟩ := fg_g_s h
  refine ⟨cr_vp (cr_n hR f_a5) (cf_n (a := 40) hF rfl (by decide) rfl) c, ?_⟩
  obtain ⟨a8, o_a8, h⟩ := fg_o_s h
  obtain ⟨A_a8, w_a8, f_a8⟩ := cr_aos (cr_r hR f_a5 _) o_a8
  refine ⟨A_a8, w_a8, ?_⟩
  obtain ⟨c_a8_1, h⟩ := fg_g_s h
  refine ⟨(cr_k hR f_a8).trans c_a8_1, ?_⟩
  obtain ⟨c, h⟩ := fg_g_s h
  refine ⟨cr_vp (cr_n hR f_a8) rfl c, ?_⟩
  obtain ⟨A_a11, w_a11, f_a11⟩ := cr_aos (cr_r hR f_o0 _) (cf_r (a := 10) (j := 8) (y := 43) hF rfl)
  refine ⟨A_a11, w_a11, ?_⟩
  refine ⟨(cr_k hR f_a11).trans (cf_k (a := 43) hF rfl (by decide)), ?_⟩
  obtain ⟨c, h⟩ := fg_g_s h
  refine ⟨cr_vp (cr_n hR f_a11) (cf_n (a := 43) hF rfl (by decide) rfl) c, ?_⟩
  obtain ⟨a14, o_a14, h⟩ := fg_o_s h
  obtain ⟨A_a14, w_a14, f_a14⟩ := cr_aos (cr_r hR f_a11 _) o_a14
  refine ⟨A_a14, w_a14, ?_⟩
  obtain ⟨c_a14_2, h⟩ := fg_g_s h
  refine ⟨(cr_k hR f_a14).trans c_a14_2, ?_⟩
  obtain ⟨c, h⟩ := fg_g_s h
  refine ⟨cr_vp (cr_n hR f_a14) rfl c, ?_⟩
  try simp -zeta -zetaUnused only [cr_i hR f_a8, cr_i hR f_a14]
  obtain ⟨u_, s17, e_s17, h⟩ := fg_b_s h
  refine ft_X9_append hR hF f_o0 (cr_r hR f_a2 _) e_s17 (fun b_s17 S_s17 x_s17 r_s17 F_s17 => ?_)
  unfold w_X9_joinPuts_210
  obtain ⟨_, q⟩ := fg_ret h
  subst q
  exact hQ _ _ x_s17 r_s17 F_s17
set_option maxRecDepth 100000 in
set_option maxHeartbeats 4000000 in
theorem ft_X9_joinPuts_124 {E : h_S} {g : h_G} {r : Unit} {t : h_S} {Q : h_S → Prop} {b : Nat → Nat} {s S_s : h_S} {A_o0 : Nat} {x1 : Int32} {y0 : Int32} (hR : c_R E g b s S_s) (hF : c_F s) (f_o0 : c_at b s 10 A_o0) (h : fn_X9_joinPuts_124 x1 y0 s = some (r, t)) (hQ : ∀ (b2 : Nat → Nat) (S2 : h_S), c_ext b s b2 t → c_R E g b2 t S2 → c_F t → Q S2) : w_X9_joinPuts_124 Q A_o0 x1 y0 S_s := by
  unfold fn_X9_joinPuts_124 at h
  unfold w_X9_joinPuts_124
  refine ⟨(cr_k hR f_o0).trans (cf_k (a := 10) hF rfl (by decide)), ?_⟩
  obtain ⟨A_a2, w_a2, f_a2⟩ := cr_aos (cr_r hR f_o0 _) (cf_r (a := 10) (j := 5) (y := 36) hF rfl)
  refine ⟨A_a2, w_a2, ?_⟩
  refine ⟨(cr_k hR f_a2).trans (cf_k (a := 36) hF rfl (by decide)), ?_⟩
  obtain ⟨c, h⟩ := fg_g_s h
  refine ⟨cr_vp (cr_n hR f_a2) (cf_n (a := 36) hF rfl (by decide) rfl) c, ?_⟩
  obtain ⟨A_a5, w_a5, f_a5⟩ := cr_aos (cr_r hR f_o0 _) (cf_r (a := 10) (j := 7) (y := 40) hF rfl)
  refine ⟨A_a5, w_a5, ?_⟩
  refine ⟨(cr_k hR f_a5).trans (cf_k (a := 40) hF rfl (by decide)), ?_⟩
  obtain ⟨c, h⟩ := fg_g_s h
  refine ⟨cr_vp (cr_n hR f_a5) (cf_n (a := 40) hF rfl (by decide) rfl) c, ?_⟩
  obtain ⟨a8, o_a8, h⟩ := fg_o_s h
  obtain ⟨A_a8, w_a8, f_a8⟩ := cr_aos (cr_r hR f_a5 _) o_a8
  refine ⟨A_a8, w_a8, ?_⟩
  obtain ⟨c_a8_1, h⟩ := fg_g_s h
  refine ⟨(cr_k hR f_a8).trans c_a8_1, ?_⟩
  obtain ⟨c, h⟩ := fg_g_s h
  refine ⟨cr_vp (cr_n hR f_a8) rfl c, ?_⟩
  obtain ⟨A_a11, w_a11, f_a11⟩ := cr_aos (cr_r hR f_o0 _) (cf_r (a := 10) (j := 8) (y := 43) hF rfl)
  refine ⟨A_a11, w_a11, ?_⟩
  refine ⟨(cr_k hR f_a11).trans (cf_k (a := 43) hF rfl (by decide)), ?_⟩
  obtain ⟨c, h⟩ := fg_g_s h
  refine ⟨cr_vp (cr_n hR f_a11) (cf_n (a := 43) hF rfl (by decide) rfl) c, ?_⟩
  obtain ⟨a14, o_a14, h⟩ := fg_o_s h
  obtain ⟨A_a14, w_a14, f_a14⟩ := cr_aos (cr_r hR f_a11 _) o_a14
  refine ⟨A_a14, w_a14, ?_⟩
  obtain ⟨c_a14_2, h⟩ := fg_g_s h
  refine ⟨(cr_k hR f_a14).trans c_a14_2, ?_⟩
  obtain ⟨c, h⟩ := fg_g_s h
  refine ⟨cr_vp (cr_n hR f_a14) rfl c, ?_⟩
  try simp -zeta -zetaUnused only [cr_i hR f_a8, cr_i hR f_a14]
  obtain ⟨u_, s17, e_s17, h⟩ := fg_b_s h
  refine ft_X9_append hR hF f_o0 (cr_r hR f_a2 _) e_s17 (fun b_s17 S_s17 x_s17 r_s17 F_s17 => ?_)
  refine ⟨(cr_k r_s17 (cr_atx f_o0 x_s17)).trans (cf_k (a := 10) F_s17 rfl (by decide)), ?_⟩
  obtain ⟨A_a20, w_a20, f_a20⟩ := cr_aos (cr_r r_s17 (cr_atx f_o0 x_s17) _) (cf_r (a := 10) (j := 5) (y := 36) F_s17 rfl)
  refine ⟨A_a20, w_a20, ?_⟩
  refine ⟨(cr_k r_s17 f_a20).trans (cf_k (a := 36) F_s17 rfl (by decide)), ?_⟩
  obtain ⟨c, h⟩ := fg_g_s h
  refine ⟨cr_vp (cr_n r_s17 f_a20) (cf_n (a := 36) F_s17 rfl (by decide) rfl) c, ?_⟩
  obtain ⟨A_a23, w_a23, f_a23⟩ := cr_aos (cr_r r_s17 (cr_atx f_o0 x_s17) _) (cf_r (a := 10) (j := 7) (y := 40) F_s17 rfl)
  refine ⟨A_a23, w_a23, ?_⟩
  refine ⟨(cr_k r_s17 f_a23).trans (cf_k (a := 40) F_s17 rfl (by decide)), ?_⟩
  obtain ⟨c, h⟩ := fg_g_s h
  refine ⟨cr_vp (cr_n r_s17 f_a23) (cf_n (a := 40) F_s17 rfl (by decide) rfl) c, ?_⟩
  obtain ⟨a26, o_a26, h⟩ := fg_o_s h
  obtain ⟨A_a26, w_a26, f_a26⟩ := cr_aos (cr_r r_s17 f_a23 _) o_a26
  refine ⟨A_a26, w_a26, ?_⟩
  obtain ⟨c_a26_3, h⟩ := fg_g_s h
  refine ⟨(cr_k r_s17 f_a26).trans c_a26_3, ?_⟩
  obtain ⟨c, h⟩ := fg_g_s h
  refine ⟨cr_vp (cr_n r_s17 f_a26) rfl c, ?_⟩
  obtain ⟨A_a29, w_a29, f_a29⟩ := cr_aos (cr_r r_s17 (cr_atx f_o0 x_s17) _) (cf_r (a := 10) (j := 8) (y := 43) F_s17 rfl)
  refine ⟨A_a29, w_a29, ?_⟩
  refine ⟨(cr_k r_s17 f_a29).trans (cf_k (a := 43) F_s17 rfl (by decide)), ?_⟩
  obtain ⟨c, h⟩ := fg_g_s h
  refine ⟨cr_vp (cr_n r_s17 f_a29) (cf_n (a := 43) F_s17 rfl (by decide) rfl) c, ?_⟩
  obtain ⟨a32, o_a32, h⟩ := fg_o_s h
  obtain ⟨A_a32, w_a32, f_a32⟩ := cr_aos (cr_r r_s17 f_a29 _) o_a32
  refine ⟨A_a32, w_a32, ?_⟩
  obtain ⟨c_a32_4, h⟩ := fg_g_s h
  refine ⟨(cr_k r_s17 f_a32).trans c_a32_4, ?_⟩
  obtain ⟨c, h⟩ := fg_g_s h
  refine ⟨cr_vp (cr_n r_s17 f_a32) rfl c, ?_⟩
  try simp -zeta -zetaUnused only [cr_i r_s17 f_a26, cr_i r_s17 f_a32]
  obtain ⟨u_, s35, e_s35, h⟩ := fg_b_s h
  refine ft_X9_append r_s17 F_s17 (cr_atx f_o0 x_s17) (cr_r r_s17 f_a20 _) e_s35 (fun b_s35 S_s35 x_s35 r_s35 F_s35 => ?_)
  refine ⟨(cr_k r_s35 (cr_atx (cr_atx f_o0 x_s17) x_s35)).trans (cf_k (a := 10) F_s35 rfl (by decide)), ?_⟩
  try simp -zeta -zetaUnused only [cr_i hR f_o0, cr_i r_s17 (cr_atx f_o0 x_s17)]
  obtain ⟨u_, s38, e_s38, h⟩ := fg_b_s h
  refine ft_X9_noteClash r_s35 F_s35 (cr_atx (cr_atx f_o0 x_s17) x_s35) e_s38 (fun b_s38 S_s38 x_s38 r_s38 F_s38 => ?_)
  unfold w_X9_joinPuts_210
  obtain ⟨_, q⟩ := fg_ret h
  subst q
  exact hQ _ _ (cr_xt x_s17 (cr_xt x_s35 x_s38)) r_s38 F_s38
set_option maxRecDepth 100000 in
set_option maxHeartbeats 4000000 in
theorem ft_X9_joinPuts {E : h_S} {g : h_G} {r : Unit} {t : h_S} {Q : h_S → Prop} {b : Nat → Nat} {s S_s : h_S} {A_o0 : Nat} {x1 : Int32} (hR : c_R E g b s S_s) (hF : c_F s) (f_o0 : c_at b s 10 A_o0) (h : fn_X9_joinPuts x1 s = some (r, t)) (hQ : ∀ (b2 : Nat → Nat) (S2 : h_S), c_ext b s b2 t → c_R E g b2 t S2 → c_F t → Q S2) : w_X9_joinPuts A_o0 x1 S_s Q := by
  unfold fn_X9_joinPuts at h
  unfold w_X9_joinPuts
  refine ⟨(cr_k hR f_o0).trans (cf_k (a := 10) hF rfl (by decide)), ?_⟩
  obtain ⟨A_a2, w_a2, f_a2⟩ := cr_aos (cr_r hR f_o0 _) (cf_r (a := 10) (j := 8) (y := 43) hF rfl)
  refine ⟨A_a2, w_a2, ?_⟩
  refine ⟨(cr_k hR f_a2).trans (cf_k (a := 43) hF rfl (by decide)), ?_⟩
  obtain ⟨c, h⟩ := fg_g_s h
  refine ⟨cr_vp (cr_n hR f_a2) (cf_n (a := 43) hF rfl (by decide) rfl) c, ?_⟩
  obtain ⟨a5, o_a5, h⟩ := fg_o_s h
  obtain ⟨A_a5, w_a5, f_a5⟩ := cr_aos (cr_r hR f_a2 _) o_a5
  refine ⟨A_a5, w_a5, ?_⟩
  obtain ⟨c_a5_1, h⟩ := fg_g_s h
  refine ⟨(cr_k hR f_a5).trans c_a5_1, ?_⟩
  obtain ⟨c, h⟩ := fg_g_s h
  refine ⟨cr_vp (cr_n hR f_a5) rfl c, ?_⟩
  obtain ⟨A_a8, w_a8, f_a8⟩ := cr_aos (cr_r hR f_o0 _) (cf_r (a := 10) (j := 7) (y := 40) hF rfl)
  refine ⟨A_a8, w_a8, ?_⟩
  refine ⟨(cr_k hR f_a8).trans (cf_k (a := 40) hF rfl (by decide)), ?_⟩
  obtain ⟨c, h⟩ := fg_g_s h
  refine ⟨cr_vp (cr_n hR f_a8) (cf_n (a := 40) hF rfl (by decide) rfl) c, ?_⟩
  obtain ⟨a11, o_a11, h⟩ := fg_o_s h
  obtain ⟨A_a11, w_a11, f_a11⟩ := cr_aos (cr_r hR f_a8 _) o_a11
  refine ⟨A_a11, w_a11, ?_⟩
  obtain ⟨c_a11_2, h⟩ := fg_g_s h
  refine ⟨(cr_k hR f_a11).trans c_a11_2, ?_⟩
  obtain ⟨c, h⟩ := fg_g_s h
  refine ⟨cr_vp (cr_n hR f_a11) rfl c, ?_⟩
  try simp -zeta -zetaUnused only [cr_i hR f_a5, cr_i hR f_a11]
  obtain ⟨v14, e_v14, h⟩ := fg_let_s h
  intro S_v14
  have z_v14 : v14 = S_v14 := e_v14
  clear_value S_v14
  subst z_v14
  obtain ⟨A_a15, w_a15, f_a15⟩ := cr_aos (cr_r hR f_o0 _) (cf_r (a := 10) (j := 8) (y := 43) hF rfl)
  refine ⟨A_a15, w_a15, ?_⟩
  refine ⟨(cr_k hR f_a15).trans (cf_k (a := 43) hF rfl (by decide)), ?_⟩
  obtain ⟨c, h⟩ := fg_g_s h
  refine ⟨cr_vp (cr_n hR f_a15) (cf_n (a := 43) hF rfl (by decide) rfl) c, ?_⟩
  obtain ⟨a18, o_a18, h⟩ := fg_o_s h
  obtain ⟨A_a18, w_a18, f_a18⟩ := cr_aos (cr_r hR f_a15 _) o_a18
  refine ⟨A_a18, w_a18, ?_⟩
  obtain ⟨c_a18_3, h⟩ := fg_g_s h
  refine ⟨(cr_k hR f_a18).trans c_a18_3, ?_⟩
  obtain ⟨c, h⟩ := fg_g_s h
  refine ⟨cr_vp (cr_n hR f_a18) rfl c, ?_⟩
  obtain ⟨A_a21, w_a21, f_a21⟩ := cr_aos (cr_r hR f_o0 _) (cf_r (a := 10) (j := 7) (y := 40) hF rfl)
  refine ⟨A_a21, w_a21, ?_⟩
  refine ⟨(cr_k hR f_a21).trans (cf_k (a := 40) hF rfl (by decide)), ?_⟩
  obtain ⟨c, h⟩ := fg_g_s h
  refine ⟨cr_vp (cr_n hR f_a21) (cf_n (a := 40) hF rfl (by decide) rfl) c, ?_⟩
  obtain ⟨a24, o_a24, h⟩ := fg_o_s h
  obtain ⟨A_a24, w_a24, f_a24⟩ := cr_aos (cr_r hR f_a21 _) o_a24
  refine ⟨A_a24, w_a24, ?_⟩
  obtain ⟨c_a24_4, h⟩ := fg_g_s h
  refine ⟨(cr_k hR f_a24).trans c_a24_4, ?_⟩
  obtain ⟨c, h⟩ := fg_g_s h
  refine ⟨cr_vp (cr_n hR f_a24) rfl c, ?_⟩
  try simp -zeta -zetaUnused only [cr_i hR f_a18, cr_i hR f_a24]
  obtain ⟨v27, e_v27, h⟩ := fg_let_s h
  intro S_v27
  have z_v27 : v27 = S_v27 := e_v27
  clear_value S_v27
  subst z_v27
  obtain ⟨p29, s28, e_s28, h⟩ := fg_b_s h
  refine ft_X9_orderOfPuts hR hF f_o0 e_s28 (fun b_s28 S_s28 x_s28 r_s28 F_s28 => ?_)
  refine fg_ite Iff.rfl (fun d => ?_) (fun d => ?_)
  · have h := fg_if_t d h
    exact ft_X9_joinPuts_52 r_s28 F_s28 (cr_atx f_o0 x_s28) h (fun b2 S2 x2 => hQ b2 S2 (cr_xt x_s28 x2))
  · have h := fg_if_e d h
    refine fg_ite Iff.rfl (fun d => ?_) (fun d => ?_)
    · have h := fg_if_t d h
      exact ft_X9_joinPuts_52 r_s28 F_s28 (cr_atx f_o0 x_s28) h (fun b2 S2 x2 => hQ b2 S2 (cr_xt x_s28 x2))
    · have h := fg_if_e d h
      refine fg_ite Iff.rfl (fun d => ?_) (fun d => ?_)
      · have h := fg_if_t d h
        refine ⟨(cr_k r_s28 (cr_atx f_o0 x_s28)).trans (cf_k (a := 10) F_s28 rfl (by decide)), ?_⟩
        obtain ⟨A_a35, w_a35, f_a35⟩ := cr_aos (cr_r r_s28 (cr_atx f_o0 x_s28) _) (cf_r (a := 10) (j := 5) (y := 36) F_s28 rfl)
        refine ⟨A_a35, w_a35, ?_⟩
        refine ⟨(cr_k r_s28 f_a35).trans (cf_k (a := 36) F_s28 rfl (by decide)), ?_⟩
        obtain ⟨c, h⟩ := fg_g_s h
        refine ⟨cr_vp (cr_n r_s28 f_a35) (cf_n (a := 36) F_s28 rfl (by decide) rfl) c, ?_⟩
        obtain ⟨A_a38, w_a38, f_a38⟩ := cr_aos (cr_r r_s28 (cr_atx f_o0 x_s28) _) (cf_r (a := 10) (j := 7) (y := 40) F_s28 rfl)
        refine ⟨A_a38, w_a38, ?_⟩
        refine ⟨(cr_k r_s28 f_a38).trans (cf_k (a := 40) F_s28 rfl (by decide)), ?_⟩
        obtain ⟨c, h⟩ := fg_g_s h
        refine ⟨cr_vp (cr_n r_s28 f_a38) (cf_n (a := 40) F_s28 rfl (by decide) rfl) c, ?_⟩
        obtain ⟨a41, o_a41, h⟩ := fg_o_s h
        obtain ⟨A_a41, w_a41, f_a41⟩ := cr_aos (cr_r r_s28 f_a38 _) o_a41
        refine ⟨A_a41, w_a41, ?_⟩
        obtain ⟨c_a41_5, h⟩ := fg_g_s h
        refine ⟨(cr_k r_s28 f_a41).trans c_a41_5, ?_⟩
        obtain ⟨c, h⟩ := fg_g_s h
        refine ⟨cr_vp (cr_n r_s28 f_a41) rfl c, ?_⟩
        obtain ⟨A_a44, w_a44, f_a44⟩ := cr_aos (cr_r r_s28 (cr_atx f_o0 x_s28) _) (cf_r (a := 10) (j := 8) (y := 43) F_s28 rfl)
        refine ⟨A_a44, w_a44, ?_⟩
        refine ⟨(cr_k r_s28 f_a44).trans (cf_k (a := 43) F_s28 rfl (by decide)), ?_⟩
        obtain ⟨c, h⟩ := fg_g_s h
        refine ⟨cr_vp (cr_n r_s28 f_a44) (cf_n (a := 43) F_s28 rfl (by decide) rfl) c, ?_⟩
        obtain ⟨a47, o_a47, h⟩ := fg_o_s h
        obtain ⟨A_a47, w_a47, f_a47⟩ := cr_aos (cr_r r_s28 f_a44 _) o_a47
        refine ⟨A_a47, w_a47, ?_⟩
        obtain ⟨c_a47_6, h⟩ := fg_g_s h
        refine ⟨(cr_k r_s28 f_a47).trans c_a47_6, ?_⟩
        obtain ⟨c, h⟩ := fg_g_s h
        refine ⟨cr_vp (cr_n r_s28 f_a47) rfl c, ?_⟩
        try simp -zeta -zetaUnused only [cr_i r_s28 f_a41, cr_i r_s28 f_a47]
        obtain ⟨u_, s50, e_s50, h⟩ := fg_b_s h
        refine ft_X9_append r_s28 F_s28 (cr_atx f_o0 x_s28) (cr_r r_s28 f_a35 _) e_s50 (fun b_s50 S_s50 x_s50 r_s50 F_s50 => ?_)
        unfold w_X9_joinPuts_210
        obtain ⟨_, q⟩ := fg_ret h
        subst q
        exact hQ _ _ (cr_xt x_s28 x_s50) r_s50 F_s50
      · have h := fg_if_e d h
        refine fg_ite Iff.rfl (fun d => ?_) (fun d => ?_)
        · have h := fg_if_t d h
          exact ft_X9_joinPuts_124 r_s28 F_s28 (cr_atx f_o0 x_s28) h (fun b2 S2 x2 => hQ b2 S2 (cr_xt x_s28 x2))
        · have h := fg_if_e d h
          exact ft_X9_joinPuts_124 r_s28 F_s28 (cr_atx f_o0 x_s28) h (fun b2 S2 x2 => hQ b2 S2 (cr_xt x_s28 x2))
set_option maxRecDepth 100000 in
set_option maxHeartbeats 4000000 in
theorem ft_X9_weaveBy_92b {E : h_S} {g : h_G} {r : Unit} {t : h_S} {Q : h_S → Prop} {K92 : Int32 → h_S → Option ((Unit) × h_S)} {WK92 : Nat → Int32 → h_S → Prop} (hK92 : ∀ {b : Nat → Nat} {s S_s : h_S} {A_o0 : Nat} {x4 : Int32}, c_R E g b s S_s → c_F s → c_at b s 10 A_o0 → K92 x4 s = some (r, t) → (∀ (b2 : Nat → Nat) (S2 : h_S), c_ext b s b2 t → c_R E g b2 t S2 → c_F t → Q S2) → WK92 A_o0 x4 S_s) {b : Nat → Nat} {s S_s : h_S} {A_o0 : Nat} {x4 : Int32} (hR : c_R E g b s S_s) (hF : c_F s) (f_o0 : c_at b s 10 A_o0) (h : fn_X9_weaveBy_92b K92 x4 s = some (r, t)) (hQ : ∀ (b2 : Nat → Nat) (S2 : h_S), c_ext b s b2 t → c_R E g b2 t S2 → c_F t → Q S2) : w_X9_weaveBy_92b Q WK92 A_o0 x4 S_s := by
  unfold fn_X9_weaveBy_92b at h
  unfold w_X9_weaveBy_92b
  refine ⟨(cr_k hR f_o0).trans (cf_k (a := 10) hF rfl (by decide)), ?_⟩
  try simp -zeta -zetaUnused only [cr_i hR f_o0]
  refine fg_ite Iff.rfl (fun d => ?_) (fun d => ?_)
  · have h := fg_if_t d h
    obtain ⟨_, q⟩ := fg_ret h
    subst q
    exact hQ _ _ cr_xr hR hF
  · have h := fg_if_e d h
    obtain ⟨u_, s3, e_s3, h⟩ := fg_b_s h
    refine ft_X9_joinPuts hR hF f_o0 e_s3 (fun b_s3 S_s3 x_s3 r_s3 F_s3 => ?_)
    refine ⟨(cr_k r_s3 (cr_atx f_o0 x_s3)).trans (cf_k (a := 10) F_s3 rfl (by decide)), ?_⟩
    try simp -zeta -zetaUnused only [cr_i r_s3 (cr_atx f_o0 x_s3)]
    refine fg_ite Iff.rfl (fun d => ?_) (fun d => ?_)
    · have h := fg_if_t d h
      unfold w_X9_weaveBy_140
      exact hK92 r_s3 F_s3 (cr_atx f_o0 x_s3) h (fun b2 S2 x2 => hQ b2 S2 (cr_xt x_s3 x2))
    · have h := fg_if_e d h
      obtain ⟨A_a7, w_a7, f_a7⟩ := cr_aos (cr_r r_s3 (cr_atx f_o0 x_s3) _) (cf_r (a := 10) (j := 9) (y := 46) F_s3 rfl)
      refine ⟨A_a7, w_a7, ?_⟩
      refine ⟨(cr_k r_s3 f_a7).trans (cf_k (a := 46) F_s3 rfl (by decide)), ?_⟩
      obtain ⟨c, h⟩ := fg_g_s h
      refine ⟨cr_vp (cr_n r_s3 f_a7) (cf_n (a := 46) F_s3 rfl (by decide) rfl) c, ?_⟩
      try simp -zeta -zetaUnused only [cr_i r_s3 f_a7]
      refine fg_ite Iff.rfl (fun d => ?_) (fun d => ?_)
      · have h := fg_if_t d h
        obtain ⟨u_, s11, e_s11, h⟩ := fg_b_s h
        refine ft_X9_append r_s3 F_s3 (cr_atx f_o0 x_s3) (cr_r r_s3 (cr_atx f_o0 x_s3) _) e_s11 (fun b_s11 S_s11 x_s11 r_s11 F_s11 => ?_)
        unfold w_X9_weaveBy_140
        exact hK92 r_s11 F_s11 (cr_atx (cr_atx f_o0 x_s3) x_s11) h (fun b2 S2 x2 => hQ b2 S2 (cr_xt (cr_xt x_s3 x_s11) x2))
      · have h := fg_if_e d h
        unfold w_X9_weaveBy_140
        exact hK92 r_s3 F_s3 (cr_atx f_o0 x_s3) h (fun b2 S2 x2 => hQ b2 S2 (cr_xt x_s3 x2))
set_option maxRecDepth 100000 in
set_option maxHeartbeats 4000000 in
theorem ft_X9_weaveBy_92 {E : h_S} {g : h_G} {r : Unit} {t : h_S} {Q : h_S → Prop} : ∀ (n : Nat) {b : Nat → Nat} {s S_s : h_S} {A_o0 : Nat} {x4 : Int32}, c_R E g b s S_s → c_F s → c_at b s 10 A_o0 → fn_X9_weaveBy_92 n x4 s = some (r, t) → (∀ (b2 : Nat → Nat) (S2 : h_S), c_ext b s b2 t → c_R E g b2 t S2 → c_F t → Q S2) → w_X9_weaveBy_92 Q n A_o0 x4 S_s := by
  intro n
  induction n with
  | zero => intros; rename_i h _; exact fg_none h
  | succ n ih => exact ft_X9_weaveBy_92b @ih
set_option maxRecDepth 100000 in
set_option maxHeartbeats 4000000 in
theorem ft_X9_weaveBy_47b {E : h_S} {g : h_G} {r : Unit} {t : h_S} {Q : h_S → Prop} {K47 : Int32 → h_S → Option ((Unit) × h_S)} {WK47 : Nat → Int32 → h_S → Prop} (hK47 : ∀ {b : Nat → Nat} {s S_s : h_S} {A_o0 : Nat} {x4 : Int32}, c_R E g b s S_s → c_F s → c_at b s 10 A_o0 → K47 x4 s = some (r, t) → (∀ (b2 : Nat → Nat) (S2 : h_S), c_ext b s b2 t → c_R E g b2 t S2 → c_F t → Q S2) → WK47 A_o0 x4 S_s) {b : Nat → Nat} {s S_s : h_S} {A_o0 : Nat} {x4 : Int32} (hR : c_R E g b s S_s) (hF : c_F s) (f_o0 : c_at b s 10 A_o0) (h : fn_X9_weaveBy_47b K47 x4 s = some (r, t)) (hQ : ∀ (b2 : Nat → Nat) (S2 : h_S), c_ext b s b2 t → c_R E g b2 t S2 → c_F t → Q S2) : w_X9_weaveBy_47b Q WK47 A_o0 x4 S_s := by
  unfold fn_X9_weaveBy_47b at h
  unfold w_X9_weaveBy_47b
  refine fg_ite Iff.rfl (fun d => ?_) (fun d => ?_)
  · have h := fg_if_t d h
    refine ⟨(cr_k hR f_o0).trans (cf_k (a := 10) hF rfl (by decide)), ?_⟩
    obtain ⟨u_, s3, e_s3, h⟩ := fg_b_s h
    refine ft_X9_findWay hR hF f_o0 e_s3 (fun b_s3 S_s3 x_s3 r_s3 F_s3 => ?_)
    refine ⟨(cr_k r_s3 (cr_atx f_o0 x_s3)).trans (cf_k (a := 10) F_s3 rfl (by decide)), ?_⟩
    obtain ⟨u_, s6, e_s6, h⟩ := fg_b_s h
    refine ft_X9_findWay r_s3 F_s3 (cr_atx f_o0 x_s3) e_s6 (fun b_s6 S_s6 x_s6 r_s6 F_s6 => ?_)
    refine ⟨(cr_k r_s6 (cr_atx (cr_atx f_o0 x_s3) x_s6)).trans (cf_k (a := 10) F_s6 rfl (by decide)), ?_⟩
    obtain ⟨s9, e_s9, h⟩ := fg_let_s h
    intro S_s9
    have r_s9 : c_R E g b_s6 s9 S_s9 := by rw [e_s9]; exact cr_si r_s6 (cr_atx (cr_atx f_o0 x_s3) x_s6) _ _
    have F_s9 : c_F s9 := by rw [e_s9]; exact cf_si F_s6 _ _
    have x_s9 : c_ext b_s6 s6 b_s6 s9 := by rw [e_s9]; exact cx_si _ _
    clear_value S_s9
    obtain ⟨s10, e_s10, h⟩ := fg_let_s h
    intro S_s10
    have r_s10 : c_R E g b_s6 s10 S_s10 := by rw [e_s10]; exact cr_si r_s9 (cr_atx (cr_atx (cr_atx f_o0 x_s3) x_s6) x_s9) _ _
    have F_s10 : c_F s10 := by rw [e_s10]; exact cf_si F_s9 _ _
    have x_s10 : c_ext b_s6 s9 b_s6 s10 := by rw [e_s10]; exact cx_si _ _
    clear_value S_s10
    exact ⟨g_N, ft_X9_weaveBy_92 g_N r_s10 F_s10 (cr_atx (cr_atx (cr_atx (cr_atx f_o0 x_s3) x_s6) x_s9) x_s10) h (fun b2 S2 x2 => hQ b2 S2 (cr_xt (cr_xt x_s3 (cr_xt x_s6 (cr_xt x_s9 x_s10))) x2))⟩
  · have h := fg_if_e d h
    refine ⟨(cr_k hR f_o0).trans (cf_k (a := 10) hF rfl (by decide)), ?_⟩
    obtain ⟨A_a12, w_a12, f_a12⟩ := cr_aos (cr_r hR f_o0 _) (cf_r (a := 10) (j := 9) (y := 46) hF rfl)
    refine ⟨A_a12, w_a12, ?_⟩
    refine ⟨(cr_k hR f_a12).trans (cf_k (a := 46) hF rfl (by decide)), ?_⟩
    obtain ⟨c, h⟩ := fg_g_s h
    refine ⟨cr_vp (cr_n hR f_a12) (cf_n (a := 46) hF rfl (by decide) rfl) c, ?_⟩
    obtain ⟨s15, e_s15, h⟩ := fg_let_s h
    intro S_s15
    have r_s15 : c_R E g b s15 S_s15 := by rw [e_s15]; exact cr_si hR f_a12 _ _
    have F_s15 : c_F s15 := by rw [e_s15]; exact cf_si hF _ _
    have x_s15 : c_ext b s b s15 := by rw [e_s15]; exact cx_si _ _
    clear_value S_s15
    exact hK47 r_s15 F_s15 (cr_atx f_o0 x_s15) h (fun b2 S2 x2 => hQ b2 S2 (cr_xt x_s15 x2))
set_option maxRecDepth 100000 in
set_option maxHeartbeats 4000000 in
theorem ft_X9_weaveBy_47 {E : h_S} {g : h_G} {r : Unit} {t : h_S} {Q : h_S → Prop} : ∀ (n : Nat) {b : Nat → Nat} {s S_s : h_S} {A_o0 : Nat} {x4 : Int32}, c_R E g b s S_s → c_F s → c_at b s 10 A_o0 → fn_X9_weaveBy_47 n x4 s = some (r, t) → (∀ (b2 : Nat → Nat) (S2 : h_S), c_ext b s b2 t → c_R E g b2 t S2 → c_F t → Q S2) → w_X9_weaveBy_47 Q n A_o0 x4 S_s := by
  intro n
  induction n with
  | zero => intros; rename_i h _; exact fg_none h
  | succ n ih => exact ft_X9_weaveBy_47b @ih
set_option maxRecDepth 100000 in
set_option maxHeartbeats 4000000 in
theorem ft_X9_weaveBy {E : h_S} {g : h_G} {r : Unit} {t : h_S} {Q : h_S → Prop} {b : Nat → Nat} {s S_s : h_S} {A_o0 : Nat} {r1 : Option Nat} {R_r1 : Option Nat} {r2 : Option Nat} {R_r2 : Option Nat} {r3 : Option Nat} {R_r3 : Option Nat} (hR : c_R E g b s S_s) (hF : c_F s) (f_o0 : c_at b s 10 A_o0) (f_r1 : c_ao b s r1 R_r1) (f_r2 : c_ao b s r2 R_r2) (f_r3 : c_ao b s r3 R_r3) (h : fn_X9_weaveBy r1 r2 r3 s = some (r, t)) (hQ : ∀ (b2 : Nat → Nat) (S2 : h_S), c_ext b s b2 t → c_R E g b2 t S2 → c_F t → Q S2) : w_X9_weaveBy A_o0 R_r1 R_r2 R_r3 S_s Q := by
  unfold fn_X9_weaveBy at h
  unfold w_X9_weaveBy
  refine ⟨(cr_k hR f_o0).trans (cf_k (a := 10) hF rfl (by decide)), ?_⟩
  obtain ⟨p3, s2, e_s2, h⟩ := fg_b_s h
  refine ft_X9_withoutGaps hR hF f_r3 (cr_r hR f_o0 _) e_s2 (fun b_s2 S_s2 x_s2 r_s2 F_s2 => ?_)
  refine ⟨(cr_k r_s2 (cr_atx f_o0 x_s2)).trans (cf_k (a := 10) F_s2 rfl (by decide)), ?_⟩
  obtain ⟨s5, e_s5, h⟩ := fg_let_s h
  intro S_s5
  have r_s5 : c_R E g b_s2 s5 S_s5 := by rw [e_s5]; exact cr_si r_s2 (cr_atx f_o0 x_s2) _ _
  have F_s5 : c_F s5 := by rw [e_s5]; exact cf_si F_s2 _ _
  have x_s5 : c_ext b_s2 s2 b_s2 s5 := by rw [e_s5]; exact cx_si _ _
  clear_value S_s5
  obtain ⟨A_a6, w_a6, f_a6⟩ := cr_aos (cr_r r_s5 (cr_atx (cr_atx f_o0 x_s2) x_s5) _) (cf_r (a := 10) (j := 5) (y := 36) F_s5 rfl)
  refine ⟨A_a6, w_a6, ?_⟩
  refine ⟨(cr_k r_s5 f_a6).trans (cf_k (a := 36) F_s5 rfl (by decide)), ?_⟩
  obtain ⟨c, h⟩ := fg_g_s h
  refine ⟨cr_vp (cr_n r_s5 f_a6) (cf_n (a := 36) F_s5 rfl (by decide) rfl) c, ?_⟩
  obtain ⟨p10, s9, e_s9, h⟩ := fg_b_s h
  refine ft_X9_withoutGaps r_s5 F_s5 (cr_aox (cr_aox f_r1 x_s2) x_s5) (cr_r r_s5 f_a6 _) e_s9 (fun b_s9 S_s9 x_s9 r_s9 F_s9 => ?_)
  obtain ⟨A_a11, w_a11, f_a11⟩ := cr_aos (cr_r r_s5 (cr_atx (cr_atx f_o0 x_s2) x_s5) _) (cf_r (a := 10) (j := 6) (y := 39) F_s5 rfl)
  refine ⟨A_a11, w_a11, ?_⟩
  refine ⟨(cr_k r_s9 (cr_atx f_a11 x_s9)).trans (cf_k (a := 39) F_s9 rfl (by decide)), ?_⟩
  obtain ⟨c, h⟩ := fg_g_s h
  refine ⟨cr_vp (cr_n r_s9 (cr_atx f_a11 x_s9)) (cf_n (a := 39) F_s9 rfl (by decide) rfl) c, ?_⟩
  obtain ⟨s14, e_s14, h⟩ := fg_let_s h
  intro S_s14
  have r_s14 : c_R E g b_s9 s14 S_s14 := by rw [e_s14]; exact cr_si r_s9 (cr_atx f_a11 x_s9) _ _
  have F_s14 : c_F s14 := by rw [e_s14]; exact cf_si F_s9 _ _
  have x_s14 : c_ext b_s9 s9 b_s9 s14 := by rw [e_s14]; exact cx_si _ _
  clear_value S_s14
  refine ⟨(cr_k r_s14 (cr_atx (cr_atx (cr_atx (cr_atx f_o0 x_s2) x_s5) x_s9) x_s14)).trans (cf_k (a := 10) F_s14 rfl (by decide)), ?_⟩
  obtain ⟨A_a16, w_a16, f_a16⟩ := cr_aos (cr_r r_s14 (cr_atx (cr_atx (cr_atx (cr_atx f_o0 x_s2) x_s5) x_s9) x_s14) _) (cf_r (a := 10) (j := 5) (y := 36) F_s14 rfl)
  refine ⟨A_a16, w_a16, ?_⟩
  refine ⟨(cr_k r_s14 f_a16).trans (cf_k (a := 36) F_s14 rfl (by decide)), ?_⟩
  obtain ⟨c, h⟩ := fg_g_s h
  refine ⟨cr_vp (cr_n r_s14 f_a16) (cf_n (a := 36) F_s14 rfl (by decide) rfl) c, ?_⟩
  obtain ⟨p20, s19, e_s19, h⟩ := fg_b_s h
  refine ft_X9_withoutGaps r_s14 F_s14 (cr_aox (cr_aox (cr_aox (cr_aox f_r2 x_s2) x_s5) x_s9) x_s14) (cr_r r_s14 f_a16 _) e_s19 (fun b_s19 S_s19 x_s19 r_s19 F_s19 => ?_)
  obtain ⟨A_a21, w_a21, f_a21⟩ := cr_aos (cr_r r_s14 (cr_atx (cr_atx (cr_atx (cr_atx f_o0 x_s2) x_s5) x_s9) x_s14) _) (cf_r (a := 10) (j := 6) (y := 39) F_s14 rfl)
  refine ⟨A_a21, w_a21, ?_⟩
  refine ⟨(cr_k r_s19 (cr_atx f_a21 x_s19)).trans (cf_k (a := 39) F_s19 rfl (by decide)), ?_⟩
  obtain ⟨c, h⟩ := fg_g_s h
  refine ⟨cr_vp (cr_n r_s19 (cr_atx f_a21 x_s19)) (cf_n (a := 39) F_s19 rfl (by decide) rfl) c, ?_⟩
  obtain ⟨s24, e_s24, h⟩ := fg_let_s h
  intro S_s24
  have r_s24 : c_R E g b_s19 s24 S_s24 := by rw [e_s24]; exact cr_si r_s19 (cr_atx f_a21 x_s19) _ _
  have F_s24 : c_F s24 := by rw [e_s24]; exact cf_si F_s19 _ _
  have x_s24 : c_ext b_s19 s19 b_s19 s24 := by rw [e_s24]; exact cx_si _ _
  clear_value S_s24
  exact ⟨g_N, ft_X9_weaveBy_47 g_N r_s24 F_s24 (cr_atx (cr_atx (cr_atx (cr_atx (cr_atx (cr_atx f_o0 x_s2) x_s5) x_s9) x_s14) x_s19) x_s24) h (fun b2 S2 x2 => hQ b2 S2 (cr_xt (cr_xt x_s2 (cr_xt x_s5 (cr_xt x_s9 (cr_xt x_s14 (cr_xt x_s19 x_s24))))) x2))⟩
set_option maxRecDepth 100000 in
set_option maxHeartbeats 4000000 in
theorem ft_J7_checkLength_df160 {E : h_S} {g : h_G} {r : Unit} {t : h_S} {Q : h_S → Prop} {b : Nat → Nat} {s S_s : h_S} {C0 D0 mc ms : Nat} {x0 : Int32} {x1 : Int32} (hR : c_R E g b s S_s) (hF : c_F s) (h : fn_J7_checkLength_df160 x0 x1 s = some (r, t, C0, D0)) (hQ : ∀ (b2 : Nat → Nat) (S2 : h_S), c_ext b s b2 t → c_R E g b2 t S2 → c_F t → Q S2) (hc : C0 ≤ mc) (hd : D0 ≤ ms) : w_J7_checkLength_df160 x0 x1 S_s mc ms Q := by
  unfold fn_J7_checkLength_df160 at h
  unfold w_J7_checkLength_df160
  refine fg_ite Iff.rfl (fun d => ?_) (fun d => ?_)
  · have h := fg_if_t d h
    obtain ⟨_, q⟩ := fg_retc h
    subst q
    exact hQ _ _ cr_xr hR hF
  · have h := fg_if_e d h
    exact fg_none h
set_option maxRecDepth 100000 in
set_option maxHeartbeats 4000000 in
theorem ft_J7_copyOfRangeInt_feecc {E : h_S} {g : h_G} {r : Option Nat} {t : h_S} {Q : Option Nat → h_S → Prop} {b : Nat → Nat} {s S_s : h_S} {C0 D0 mc ms : Nat} {r0 : Option Nat} {R_r0 : Option Nat} {x1 : Int32} {x2 : Int32} (hR : c_R E g b s S_s) (hF : c_F s) (f_r0 : c_ao b s r0 R_r0) (h : fn_J7_copyOfRangeInt_feecc r0 x1 x2 s = some (r, t, C0, D0)) (hQ : ∀ (b2 : Nat → Nat) (R2 : Option Nat) (S2 : h_S), c_ext b s b2 t → c_R E g b2 t S2 → c_F t → c_ao b2 t r R2 → Q R2 S2) (hc : C0 ≤ mc) (hd : D0 ≤ ms) : w_J7_copyOfRangeInt_feecc R_r0 x1 x2 S_s mc ms Q := by
  unfold fn_J7_copyOfRangeInt_feecc at h
  unfold w_J7_copyOfRangeInt_feecc
  obtain ⟨u_, s1, mc3, ms4, C_s1, D_s1, e_s1, h, q_s1, w_s1⟩ := fg_bc_s h
  obtain ⟨u1_s1, hc⟩ := fg_sp q_s1 hc
  obtain ⟨u2_s1, hd⟩ := fg_sp w_s1 hd
  refine ⟨mc3, ms4, u1_s1, u2_s1, ft_J7_checkLength_df160 hR hF e_s1 (fun b_s1 S_s1 x_s1 r_s1 F_s1 => ?_) (Nat.le_refl _) (Nat.le_refl _)⟩
  obtain ⟨c, h⟩ := fg_g_s h
  refine ⟨c, ?_⟩
  obtain ⟨c, h⟩ := fg_g_s h
  refine ⟨c, ?_⟩
  obtain ⟨q7, e_q7, h⟩ := fg_let_s h
  have z_q7 : h_k s1 q7 = 0 := cf_z F_s1 e_q7
  obtain ⟨C_q7, D_q7, h, q_q7, w_q7⟩ := fg_c_s h
  obtain ⟨u1_q7, hc⟩ := fg_sp q_q7 hc
  obtain ⟨u2_q7, hd⟩ := fg_sp w_q7 hd
  refine ⟨u1_q7, u2_q7, fun A_q7 Z_q7 => ?_⟩
  obtain ⟨s13, e_s13, h⟩ := fg_let_s h
  intro S_s13
  have r_s13 : c_R E g (c_up b_s1 q7 A_q7) s13 S_s13 := by rw [e_s13]; exact cr_nw r_s1 z_q7 Z_q7 (by decide)
  have F_s13 : c_F s13 := by rw [e_s13]; exact cf_nw F_s1 e_q7 (by decide)
  have x_s13 : c_ext b_s1 s1 (c_up b_s1 q7 A_q7) s13 := by rw [e_s13]; exact cx_new z_q7
  have f_q7 : c_at (c_up b_s1 q7 A_q7) s13 q7 A_q7 := by rw [e_s13]; exact ca_nw (by decide)
  clear_value S_s13
  intro c14
  have hc : _ ≤ c14 := hc
  clear_value c14
  intro d15
  have hd : _ ≤ d15 := hd
  clear_value d15
  obtain ⟨a16, o_a16, h⟩ := fg_o_s h
  obtain ⟨A_a16, w_a16, f_a16⟩ := cr_aos f_r0 o_a16
  refine ⟨A_a16, w_a16, ?_⟩
  obtain ⟨c_a16_2, h⟩ := fg_g_s h
  refine ⟨(cr_k r_s13 (cr_atx (cr_atx f_a16 x_s1) x_s13)).trans c_a16_2, ?_⟩
  obtain ⟨c_q7_3, h⟩ := fg_g_s h
  refine ⟨(cr_k r_s13 f_q7).trans c_q7_3, ?_⟩
  obtain ⟨a19, o_a19, h⟩ := fg_o_s h
  obtain ⟨A_a19, w_a19, f_a19⟩ := cr_aos f_r0 o_a19
  refine ⟨A_a19, w_a19, ?_⟩
  obtain ⟨c_a19_4, h⟩ := fg_g_s h
  refine ⟨(cr_k r_s13 (cr_atx (cr_atx f_a19 x_s1) x_s13)).trans c_a19_4, ?_⟩
  obtain ⟨c, h⟩ := fg_g_s h
  refine ⟨c, ?_⟩
  obtain ⟨c, h⟩ := fg_g_s h
  refine ⟨c, ?_⟩
  try simp -zeta -zetaUnused only [cr_n r_s13 (cr_atx (cr_atx f_a16 x_s1) x_s13)]
  obtain ⟨c, h⟩ := fg_g_s h
  refine ⟨c, ?_⟩
  try simp -zeta -zetaUnused only [cr_n r_s13 (cr_atx (cr_atx f_a19 x_s1) x_s13)]
  obtain ⟨c, h⟩ := fg_g_s h
  refine ⟨c, ?_⟩
  try simp -zeta -zetaUnused only [cr_n r_s13 f_q7]
  obtain ⟨c, h⟩ := fg_g_s h
  refine ⟨c, ?_⟩
  obtain ⟨s26, e_s26, h⟩ := fg_let_s h
  intro S_s26
  have r_s26 : c_R E g (c_up b_s1 q7 A_q7) s26 S_s26 := by rw [e_s26]; exact cr_cp r_s13 (cr_atx (cr_atx f_a19 x_s1) x_s13) f_q7 _ _ _
  have F_s26 : c_F s26 := by rw [e_s26]; exact cf_cp F_s13 _ _ _
  have x_s26 : c_ext (c_up b_s1 q7 A_q7) s13 (c_up b_s1 q7 A_q7) s26 := by rw [e_s26]; exact cx_cp _ _ _
  clear_value S_s26
  obtain ⟨q, q2⟩ := fg_retc h
  subst q
  subst q2
  exact hQ _ _ _ (cr_xt x_s1 (cr_xt x_s13 x_s26)) r_s26 F_s26 (cr_some (cr_atx f_q7 x_s26))
set_option maxRecDepth 100000 in
set_option maxHeartbeats 4000000 in
theorem ft_J7_copyOfRange_feecc_10 {E : h_S} {g : h_G} {r : Option Nat} {t : h_S} {Q : Option Nat → h_S → Prop} {b : Nat → Nat} {s S_s : h_S} {C0 D0 bc bs : Nat} {r0 : Option Nat} {R_r0 : Option Nat} {x1 : Int32} {x2 : Int32} (hR : c_R E g b s S_s) (hF : c_F s) (f_r0 : c_ao b s r0 R_r0) (h : fn_J7_copyOfRange_feecc_10 r0 x1 x2 s = some (r, t, C0, D0)) (hQ : ∀ (b2 : Nat → Nat) (R2 : Option Nat) (S2 : h_S), c_ext b s b2 t → c_R E g b2 t S2 → c_F t → c_ao b2 t r R2 → Q R2 S2) (hc : C0 ≤ bc) (hd : D0 ≤ bs) : w_J7_copyOfRange_feecc_10 Q R_r0 x1 x2 S_s bc bs := by
  unfold fn_J7_copyOfRange_feecc_10 at h
  unfold w_J7_copyOfRange_feecc_10
  obtain ⟨p2, s1, mc3, ms4, C_s1, D_s1, e_s1, h, q_s1, w_s1⟩ := fg_bc_s h
  obtain ⟨u1_s1, hc⟩ := fg_sp q_s1 hc
  obtain ⟨u2_s1, hd⟩ := fg_sp w_s1 hd
  refine ⟨mc3, ms4, u1_s1, u2_s1, ft_J7_copyOfRangeInt_feecc hR hF f_r0 e_s1 (fun b_s1 R_p2 S_s1 x_s1 r_s1 F_s1 f_p2 => ?_) (Nat.le_refl _) (Nat.le_refl _)⟩
  obtain ⟨q, q2⟩ := fg_retc h
  subst q
  subst q2
  exact hQ _ _ _ x_s1 r_s1 F_s1 f_p2
set_option maxRecDepth 100000 in
set_option maxHeartbeats 4000000 in
theorem ft_J7_copyOfRange_feecc {E : h_S} {g : h_G} {r : Option Nat} {t : h_S} {Q : Option Nat → h_S → Prop} {b : Nat → Nat} {s S_s : h_S} {C0 D0 mc ms : Nat} {r0 : Option Nat} {R_r0 : Option Nat} {x1 : Int32} {x2 : Int32} (hR : c_R E g b s S_s) (hF : c_F s) (f_r0 : c_ao b s r0 R_r0) (h : fn_J7_copyOfRange_feecc r0 x1 x2 s = some (r, t, C0, D0)) (hQ : ∀ (b2 : Nat → Nat) (R2 : Option Nat) (S2 : h_S), c_ext b s b2 t → c_R E g b2 t S2 → c_F t → c_ao b2 t r R2 → Q R2 S2) (hc : C0 ≤ mc) (hd : D0 ≤ ms) : w_J7_copyOfRange_feecc R_r0 x1 x2 S_s mc ms Q := by
  unfold fn_J7_copyOfRange_feecc at h
  unfold w_J7_copyOfRange_feecc
  refine fg_ite Iff.rfl (fun d => ?_) (fun d => ?_)
  · have h := fg_if_t d h
    obtain ⟨a2, o_a2, h⟩ := fg_o_s h
    obtain ⟨A_a2, w_a2, f_a2⟩ := cr_aos f_r0 o_a2
    refine ⟨A_a2, w_a2, ?_⟩
    obtain ⟨c_a2_1, h⟩ := fg_g_s h
    refine ⟨(cr_k hR f_a2).trans c_a2_1, ?_⟩
    try simp -zeta -zetaUnused only [cr_n hR f_a2]
    refine fg_ite Iff.rfl (fun d => ?_) (fun d => ?_)
    · have h := fg_if_t d h
      obtain ⟨a5, o_a5, h⟩ := fg_o_s h
      obtain ⟨A_a5, w_a5, f_a5⟩ := cr_aos f_r0 o_a5
      refine ⟨A_a5, w_a5, ?_⟩
      obtain ⟨c_a5_2, h⟩ := fg_g_s h
      refine ⟨(cr_k hR f_a5).trans c_a5_2, ?_⟩
      try simp -zeta -zetaUnused only [cr_n hR f_a5]
      obtain ⟨q7, e_q7, h⟩ := fg_let_s h
      have z_q7 : h_k s q7 = 0 := cf_z hF e_q7
      obtain ⟨C_q7, D_q7, h, q_q7, w_q7⟩ := fg_c_s h
      obtain ⟨u1_q7, hc⟩ := fg_sp q_q7 hc
      obtain ⟨u2_q7, hd⟩ := fg_sp w_q7 hd
      refine ⟨u1_q7, u2_q7, fun A_q7 Z_q7 => ?_⟩
      obtain ⟨s11, e_s11, h⟩ := fg_let_s h
      intro S_s11
      have r_s11 : c_R E g (c_up b q7 A_q7) s11 S_s11 := by rw [e_s11]; exact cr_cl hR f_a5 z_q7 Z_q7
      have F_s11 : c_F s11 := by rw [e_s11]; exact cf_cl hF e_q7 (by decide)
      have x_s11 : c_ext b s (c_up b q7 A_q7) s11 := by rw [e_s11]; exact cx_cl z_q7
      have f_q7 : c_at (c_up b q7 A_q7) s11 q7 A_q7 := by rw [e_s11]; exact ca_cl
      clear_value S_s11
      intro c12
      have hc : _ ≤ c12 := hc
      clear_value c12
      intro d13
      have hd : _ ≤ d13 := hd
      clear_value d13
      obtain ⟨c_q7_4, h⟩ := fg_g_s h
      refine ⟨(cr_k r_s11 f_q7).trans c_q7_4, ?_⟩
      obtain ⟨q, q2⟩ := fg_retc h
      subst q
      subst q2
      exact hQ _ _ _ x_s11 r_s11 F_s11 (cr_some f_q7)
    · have h := fg_if_e d h
      exact ft_J7_copyOfRange_feecc_10 hR hF f_r0 h (fun b2 R2 S2 x2 => hQ b2 R2 S2 (cr_xt cr_xr x2)) hc hd
  · have h := fg_if_e d h
    exact ft_J7_copyOfRange_feecc_10 hR hF f_r0 h (fun b2 R2 S2 x2 => hQ b2 R2 S2 (cr_xt cr_xr x2)) hc hd
set_option maxRecDepth 100000 in
set_option maxHeartbeats 4000000 in
theorem ft_X9_clashAt {E : h_S} {g : h_G} {r : Option Nat} {t : h_S} {Q : Option Nat → h_S → Prop} {b : Nat → Nat} {s S_s : h_S} {C0 D0 mc ms : Nat} {A_o0 : Nat} {x1 : Int32} {x2 : Int32} (hR : c_R E g b s S_s) (hF : c_F s) (f_o0 : c_at b s 10 A_o0) (h : fn_X9_clashAt x1 x2 s = some (r, t, C0, D0)) (hQ : ∀ (b2 : Nat → Nat) (R2 : Option Nat) (S2 : h_S), c_ext b s b2 t → c_R E g b2 t S2 → c_F t → c_ao b2 t r R2 → Q R2 S2) (hc : C0 ≤ mc) (hd : D0 ≤ ms) : w_X9_clashAt A_o0 x1 x2 S_s mc ms Q := by
  unfold fn_X9_clashAt at h
  unfold w_X9_clashAt
  obtain ⟨p2, s1, e_s1, h⟩ := fg_b_s h
  refine ft_X11_within hR hF e_s1 (fun b_s1 S_s1 x_s1 r_s1 F_s1 => ?_)
  refine fg_ite Iff.rfl (fun d => ?_) (fun d => ?_)
  · have h := fg_if_t d h
    obtain ⟨q33, e_q33, h⟩ := fg_let_s h
    have z_q33 : h_k s1 q33 = 0 := cf_z F_s1 e_q33
    obtain ⟨C_q33, D_q33, h, q_q33, w_q33⟩ := fg_c_s h
    obtain ⟨u1_q33, hc⟩ := fg_sp q_q33 hc
    obtain ⟨u2_q33, hd⟩ := fg_sp w_q33 hd
    refine ⟨u1_q33, u2_q33, fun A_q33 Z_q33 => ?_⟩
    obtain ⟨s37, e_s37, h⟩ := fg_let_s h
    intro S_s37
    have r_s37 : c_R E g (c_up b_s1 q33 A_q33) s37 S_s37 := by rw [e_s37]; exact cr_nw r_s1 z_q33 Z_q33 (by decide)
    have F_s37 : c_F s37 := by rw [e_s37]; exact cf_nw F_s1 e_q33 (by decide)
    have x_s37 : c_ext b_s1 s1 (c_up b_s1 q33 A_q33) s37 := by rw [e_s37]; exact cx_new z_q33
    have f_q33 : c_at (c_up b_s1 q33 A_q33) s37 q33 A_q33 := by rw [e_s37]; exact ca_nw (by decide)
    clear_value S_s37
    intro c38
    have hc : _ ≤ c38 := hc
    clear_value c38
    intro d39
    have hd : _ ≤ d39 := hd
    clear_value d39
    obtain ⟨q40, e_q40, h⟩ := fg_let_s h
    have z_q40 : h_k s37 q40 = 0 := cf_z F_s37 e_q40
    obtain ⟨C_q40, D_q40, h, q_q40, w_q40⟩ := fg_c_s h
    obtain ⟨u1_q40, hc⟩ := fg_sp q_q40 hc
    obtain ⟨u2_q40, hd⟩ := fg_sp w_q40 hd
    refine ⟨u1_q40, u2_q40, fun A_q40 Z_q40 => ?_⟩
    obtain ⟨s44, e_s44, h⟩ := fg_let_s h
    intro S_s44
    have r_s44 : c_R E g (c_up (c_up b_s1 q33 A_q33) q40 A_q40) s44 S_s44 := by rw [e_s44]; exact cr_nw r_s37 z_q40 Z_q40 (by decide)
    have F_s44 : c_F s44 := by rw [e_s44]; exact cf_nw F_s37 e_q40 (by decide)
    have x_s44 : c_ext (c_up b_s1 q33 A_q33) s37 (c_up (c_up b_s1 q33 A_q33) q40 A_q40) s44 := by rw [e_s44]; exact cx_new z_q40
    have f_q40 : c_at (c_up (c_up b_s1 q33 A_q33) q40 A_q40) s44 q40 A_q40 := by rw [e_s44]; exact ca_nw (by decide)
    clear_value S_s44
    intro c45
    have hc : _ ≤ c45 := hc
    clear_value c45
    intro d46
    have hd : _ ≤ d46 := hd
    clear_value d46
    obtain ⟨u_, s47, e_s47, h⟩ := fg_b_s h
    refine ft_X0_init r_s44 F_s44 (cr_atx f_q33 x_s44) (cr_some f_q40) e_s47 (fun b_s47 S_s47 x_s47 r_s47 F_s47 => ?_)
    obtain ⟨q, q2⟩ := fg_retc h
    subst q
    subst q2
    exact hQ _ _ _ (cr_xt x_s1 (cr_xt x_s37 (cr_xt x_s44 x_s47))) r_s47 F_s47 (cr_some (cr_atx (cr_atx f_q33 x_s44) x_s47))
  · have h := fg_if_e d h
    refine ⟨(cr_k r_s1 (cr_atx f_o0 x_s1)).trans (cf_k (a := 10) F_s1 rfl (by decide)), ?_⟩
    obtain ⟨A_a5, w_a5, f_a5⟩ := cr_aos (cr_r r_s1 (cr_atx f_o0 x_s1) _) (cf_r (a := 10) (j := 12) (y := 48) F_s1 rfl)
    refine ⟨A_a5, w_a5, ?_⟩
    refine ⟨(cr_k r_s1 f_a5).trans (cf_k (a := 48) F_s1 rfl (by decide)), ?_⟩
    obtain ⟨c, h⟩ := fg_g_s h
    refine ⟨cr_vp (cr_n r_s1 f_a5) (cf_n (a := 48) F_s1 rfl (by decide) rfl) c, ?_⟩
    obtain ⟨A_a8, w_a8, f_a8⟩ := cr_aos (cr_r r_s1 (cr_atx f_o0 x_s1) _) (cf_r (a := 10) (j := 14) (y := 50) F_s1 rfl)
    refine ⟨A_a8, w_a8, ?_⟩
    refine ⟨(cr_k r_s1 f_a8).trans (cf_k (a := 50) F_s1 rfl (by decide)), ?_⟩
    obtain ⟨c, h⟩ := fg_g_s h
    refine ⟨cr_vp (cr_n r_s1 f_a8) (cf_n (a := 50) F_s1 rfl (by decide) rfl) c, ?_⟩
    try simp -zeta -zetaUnused only [cr_i r_s1 f_a5, cr_i r_s1 f_a8]
    obtain ⟨p12, s11, mc13, ms14, C_s11, D_s11, e_s11, h, q_s11, w_s11⟩ := fg_bc_s h
    obtain ⟨u1_s11, hc⟩ := fg_sp q_s11 hc
    obtain ⟨u2_s11, hd⟩ := fg_sp w_s11 hd
    refine ⟨mc13, ms14, u1_s11, u2_s11, ft_J7_copyOfRange_feecc r_s1 F_s1 (cr_r r_s1 (cr_atx f_o0 x_s1) _) e_s11 (fun b_s11 R_p12 S_s11 x_s11 r_s11 F_s11 f_p12 => ?_) (Nat.le_refl _) (Nat.le_refl _)⟩
    obtain ⟨q17, e_q17, h⟩ := fg_let_s h
    have z_q17 : h_k s11 q17 = 0 := cf_z F_s11 e_q17
    obtain ⟨C_q17, D_q17, h, q_q17, w_q17⟩ := fg_c_s h
    obtain ⟨u1_q17, hc⟩ := fg_sp q_q17 hc
    obtain ⟨u2_q17, hd⟩ := fg_sp w_q17 hd
    refine ⟨u1_q17, u2_q17, fun A_q17 Z_q17 => ?_⟩
    obtain ⟨s21, e_s21, h⟩ := fg_let_s h
    intro S_s21
    have r_s21 : c_R E g (c_up b_s11 q17 A_q17) s21 S_s21 := by rw [e_s21]; exact cr_nw r_s11 z_q17 Z_q17 (by decide)
    have F_s21 : c_F s21 := by rw [e_s21]; exact cf_nw F_s11 e_q17 (by decide)
    have x_s21 : c_ext b_s11 s11 (c_up b_s11 q17 A_q17) s21 := by rw [e_s21]; exact cx_new z_q17
    have f_q17 : c_at (c_up b_s11 q17 A_q17) s21 q17 A_q17 := by rw [e_s21]; exact ca_nw (by decide)
    clear_value S_s21
    intro c22
    have hc : _ ≤ c22 := hc
    clear_value c22
    intro d23
    have hd : _ ≤ d23 := hd
    clear_value d23
    refine ⟨(cr_k r_s21 (cr_atx (cr_atx (cr_atx f_o0 x_s1) x_s11) x_s21)).trans (cf_k (a := 10) F_s21 rfl (by decide)), ?_⟩
    obtain ⟨A_a25, w_a25, f_a25⟩ := cr_aos (cr_r r_s21 (cr_atx (cr_atx (cr_atx f_o0 x_s1) x_s11) x_s21) _) (cf_r (a := 10) (j := 13) (y := 49) F_s21 rfl)
    refine ⟨A_a25, w_a25, ?_⟩
    refine ⟨(cr_k r_s21 f_a25).trans (cf_k (a := 49) F_s21 rfl (by decide)), ?_⟩
    obtain ⟨c, h⟩ := fg_g_s h
    refine ⟨cr_vp (cr_n r_s21 f_a25) (cf_n (a := 49) F_s21 rfl (by decide) rfl) c, ?_⟩
    obtain ⟨A_a28, w_a28, f_a28⟩ := cr_aos (cr_r r_s21 (cr_atx (cr_atx (cr_atx f_o0 x_s1) x_s11) x_s21) _) (cf_r (a := 10) (j := 12) (y := 48) F_s21 rfl)
    refine ⟨A_a28, w_a28, ?_⟩
    refine ⟨(cr_k r_s21 f_a28).trans (cf_k (a := 48) F_s21 rfl (by decide)), ?_⟩
    obtain ⟨c, h⟩ := fg_g_s h
    refine ⟨cr_vp (cr_n r_s21 f_a28) (cf_n (a := 48) F_s21 rfl (by decide) rfl) c, ?_⟩
    try simp -zeta -zetaUnused only [cr_i r_s21 f_a25, cr_i r_s21 f_a28]
    obtain ⟨u_, s31, e_s31, h⟩ := fg_b_s h
    refine ft_X0_init r_s21 F_s21 f_q17 (cr_aox f_p12 x_s21) e_s31 (fun b_s31 S_s31 x_s31 r_s31 F_s31 => ?_)
    obtain ⟨q, q2⟩ := fg_retc h
    subst q
    subst q2
    exact hQ _ _ _ (cr_xt x_s1 (cr_xt x_s11 (cr_xt x_s21 x_s31))) r_s31 F_s31 (cr_some (cr_atx f_q17 x_s31))
set_option maxRecDepth 100000 in
set_option maxHeartbeats 4000000 in
theorem ft_X9_runs_15b {E : h_S} {g : h_G} {r : Int32} {t : h_S} {Q : Int32 → h_S → Prop} {K15 : Int32 → Int32 → h_S → Option ((Int32) × h_S)} {WK15 : Nat → Int32 → Int32 → h_S → Prop} (hK15 : ∀ {b : Nat → Nat} {s S_s : h_S} {A_o0 : Nat} {x1 : Int32} {x2 : Int32}, c_R E g b s S_s → c_F s → c_at b s 10 A_o0 → K15 x1 x2 s = some (r, t) → (∀ (b2 : Nat → Nat) (S2 : h_S), c_ext b s b2 t → c_R E g b2 t S2 → c_F t → Q r S2) → WK15 A_o0 x1 x2 S_s) {b : Nat → Nat} {s S_s : h_S} {A_o0 : Nat} {x1 : Int32} {x2 : Int32} (hR : c_R E g b s S_s) (hF : c_F s) (f_o0 : c_at b s 10 A_o0) (h : fn_X9_runs_15b K15 x1 x2 s = some (r, t)) (hQ : ∀ (b2 : Nat → Nat) (S2 : h_S), c_ext b s b2 t → c_R E g b2 t S2 → c_F t → Q r S2) : w_X9_runs_15b Q WK15 A_o0 x1 x2 S_s := by
  unfold fn_X9_runs_15b at h
  unfold w_X9_runs_15b
  refine ⟨(cr_k hR f_o0).trans (cf_k (a := 10) hF rfl (by decide)), ?_⟩
  try simp -zeta -zetaUnused only [cr_i hR f_o0]
  refine fg_ite Iff.rfl (fun d => ?_) (fun d => ?_)
  · have h := fg_if_t d h
    obtain ⟨q, q2⟩ := fg_ret h
    subst q
    subst q2
    exact hQ _ _ cr_xr hR hF
  · have h := fg_if_e d h
    obtain ⟨A_a3, w_a3, f_a3⟩ := cr_aos (cr_r hR f_o0 _) (cf_r (a := 10) (j := 10) (y := 47) hF rfl)
    refine ⟨A_a3, w_a3, ?_⟩
    refine ⟨(cr_k hR f_a3).trans (cf_k (a := 47) hF rfl (by decide)), ?_⟩
    obtain ⟨c, h⟩ := fg_g_s h
    refine ⟨cr_vp (cr_n hR f_a3) (cf_n (a := 47) hF rfl (by decide) rfl) c, ?_⟩
    obtain ⟨A_a6, w_a6, f_a6⟩ := cr_aos (cr_r hR f_o0 _) (cf_r (a := 10) (j := 10) (y := 47) hF rfl)
    refine ⟨A_a6, w_a6, ?_⟩
    refine ⟨(cr_k hR f_a6).trans (cf_k (a := 47) hF rfl (by decide)), ?_⟩
    obtain ⟨c, h⟩ := fg_g_s h
    refine ⟨cr_vp (cr_n hR f_a6) (cf_n (a := 47) hF rfl (by decide) rfl) c, ?_⟩
    try simp -zeta -zetaUnused only [cr_i hR f_a3, cr_i hR f_a6]
    refine fg_ite Iff.rfl (fun d => ?_) (fun d => ?_)
    · have h := fg_if_t d h
      unfold w_X9_runs_45
      exact hK15 hR hF f_o0 h (fun b2 S2 x2 => hQ b2 S2 (cr_xt cr_xr x2))
    · have h := fg_if_e d h
      unfold w_X9_runs_45
      exact hK15 hR hF f_o0 h (fun b2 S2 x2 => hQ b2 S2 (cr_xt cr_xr x2))
set_option maxRecDepth 100000 in
set_option maxHeartbeats 4000000 in
theorem ft_X9_runs_15 {E : h_S} {g : h_G} {r : Int32} {t : h_S} {Q : Int32 → h_S → Prop} : ∀ (n : Nat) {b : Nat → Nat} {s S_s : h_S} {A_o0 : Nat} {x1 : Int32} {x2 : Int32}, c_R E g b s S_s → c_F s → c_at b s 10 A_o0 → fn_X9_runs_15 n x1 x2 s = some (r, t) → (∀ (b2 : Nat → Nat) (S2 : h_S), c_ext b s b2 t → c_R E g b2 t S2 → c_F t → Q r S2) → w_X9_runs_15 Q n A_o0 x1 x2 S_s := by
  intro n
  induction n with
  | zero => intros; rename_i h _; exact fg_none h
  | succ n ih => exact ft_X9_runs_15b @ih
set_option maxRecDepth 100000 in
set_option maxHeartbeats 4000000 in
theorem ft_X9_runs_12 {E : h_S} {g : h_G} {r : Int32} {t : h_S} {Q : Int32 → h_S → Prop} {b : Nat → Nat} {s S_s : h_S} {A_o0 : Nat} {y0 : Int32} (hR : c_R E g b s S_s) (hF : c_F s) (f_o0 : c_at b s 10 A_o0) (h : fn_X9_runs_12 y0 s = some (r, t)) (hQ : ∀ (b2 : Nat → Nat) (S2 : h_S), c_ext b s b2 t → c_R E g b2 t S2 → c_F t → Q r S2) : w_X9_runs_12 Q A_o0 y0 S_s := by
  unfold fn_X9_runs_12 at h
  unfold w_X9_runs_12
  exact ⟨g_N, ft_X9_runs_15 g_N hR hF f_o0 h (fun b2 S2 x2 => hQ b2 S2 (cr_xt cr_xr x2))⟩
set_option maxRecDepth 100000 in
set_option maxHeartbeats 4000000 in
theorem ft_X9_runs {E : h_S} {g : h_G} {r : Int32} {t : h_S} {Q : Int32 → h_S → Prop} {b : Nat → Nat} {s S_s : h_S} {A_o0 : Nat} (hR : c_R E g b s S_s) (hF : c_F s) (f_o0 : c_at b s 10 A_o0) (h : fn_X9_runs s = some (r, t)) (hQ : ∀ (b2 : Nat → Nat) (S2 : h_S), c_ext b s b2 t → c_R E g b2 t S2 → c_F t → Q r S2) : w_X9_runs A_o0 S_s Q := by
  unfold fn_X9_runs at h
  unfold w_X9_runs
  refine ⟨(cr_k hR f_o0).trans (cf_k (a := 10) hF rfl (by decide)), ?_⟩
  try simp -zeta -zetaUnused only [cr_i hR f_o0]
  refine fg_ite Iff.rfl (fun d => ?_) (fun d => ?_)
  · have h := fg_if_t d h
    exact ft_X9_runs_12 hR hF f_o0 h (fun b2 S2 x2 => hQ b2 S2 (cr_xt cr_xr x2))
  · have h := fg_if_e d h
    exact ft_X9_runs_12 hR hF f_o0 h (fun b2 S2 x2 => hQ b2 S2 (cr_xt cr_xr x2))
set_option maxRecDepth 100000 in
set_option maxHeartbeats 4000000 in
theorem ft_X11_init_140b {E : h_S} {g : h_G} {r : Unit} {t : h_S} {Q : h_S → Prop} {K140 : Nat → Int32 → h_S → fg_R (Unit) h_S} {WK140 : Nat → Int32 → h_S → Nat → Nat → Prop} (hK140 : ∀ {b : Nat → Nat} {s S_s : h_S} {C D bc bs : Nat} {o0 : Nat} {A_o0 : Nat} {x1 : Int32}, c_R E g b s S_s → c_at b s o0 A_o0 → K140 o0 x1 s = some (r, t, C, D) → (∀ (b2 : Nat → Nat) (S2 : h_S), c_ext b s b2 t → c_R E g b2 t S2 → Q S2) → C ≤ bc → D ≤ bs → WK140 A_o0 x1 S_s bc bs) {b : Nat → Nat} {s S_s : h_S} {C0 D0 bc bs : Nat} {o0 : Nat} {A_o0 : Nat} {x1 : Int32} (hR : c_R E g b s S_s) (f_o0 : c_at b s o0 A_o0) (h : fn_X11_init_140b K140 o0 x1 s = some (r, t, C0, D0)) (hQ : ∀ (b2 : Nat → Nat) (S2 : h_S), c_ext b s b2 t → c_R E g b2 t S2 → Q S2) (hc : C0 ≤ bc) (hd : D0 ≤ bs) : w_X11_init_140b g Q WK140 A_o0 x1 S_s bc bs := by
  unfold fn_X11_init_140b at h
  unfold w_X11_init_140b
  refine fg_ite Iff.rfl (fun d => ?_) (fun d => ?_)
  · have h := fg_if_t d h
    obtain ⟨_, q⟩ := fg_retc h
    subst q
    exact hQ _ _ cr_xr hR
  · have h := fg_if_e d h
    obtain ⟨c_o0_1, h⟩ := fg_g_s h
    refine ⟨(cr_k hR f_o0).trans c_o0_1, ?_⟩
    obtain ⟨q3, e_q3, h⟩ := fg_let_s h
    obtain ⟨z_q3, h⟩ := fg_g_s h
    obtain ⟨C_q3, D_q3, h, q_q3, w_q3⟩ := fg_c_s h
    obtain ⟨u1_q3, hc⟩ := fg_sp q_q3 hc
    obtain ⟨u2_q3, hd⟩ := fg_sp w_q3 hd
    refine ⟨u1_q3, u2_q3, fun A_q3 Z_q3 => ?_⟩
    obtain ⟨s7, e_s7, h⟩ := fg_let_s h
    intro S_s7
    have r_s7 : c_R E g (c_up b q3 A_q3) s7 S_s7 := by rw [e_s7]; exact cr_nw hR z_q3 Z_q3 (by decide)
    have x_s7 : c_ext b s (c_up b q3 A_q3) s7 := by rw [e_s7]; exact cx_new z_q3
    have f_q3 : c_at (c_up b q3 A_q3) s7 q3 A_q3 := by rw [e_s7]; exact ca_nw (by decide)
    clear_value S_s7
    intro c8
    have hc : _ ≤ c8 := hc
    clear_value c8
    intro d9
    have hd : _ ≤ d9 := hd
    clear_value d9
    obtain ⟨u_, s10, mc12, ms13, C_s10, D_s10, e_s10, h, q_s10, w_s10⟩ := fg_bc_s h
    obtain ⟨u1_s10, hc⟩ := fg_sp q_s10 hc
    obtain ⟨u2_s10, hd⟩ := fg_sp w_s10 hd
    refine ⟨mc12, ms13, u1_s10, u2_s10, ft_X5_init r_s7 f_q3 e_s10 (fun b_s10 S_s10 x_s10 r_s10 => ?_) (Nat.le_refl _) (Nat.le_refl _)⟩
    obtain ⟨a16, o_a16, h⟩ := fg_o_s h
    obtain ⟨A_a16, w_a16, f_a16⟩ := cr_aos (cr_r hR f_o0 _) o_a16
    refine ⟨A_a16, w_a16, ?_⟩
    obtain ⟨c_a16_3, h⟩ := fg_g_s h
    refine ⟨(cr_k r_s10 (cr_atx (cr_atx f_a16 x_s7) x_s10)).trans c_a16_3, ?_⟩
    obtain ⟨c, h⟩ := fg_g_s h
    refine ⟨cr_vp (cr_n r_s10 (cr_atx (cr_atx f_a16 x_s7) x_s10)) rfl c, ?_⟩
    obtain ⟨c_q3_4, h⟩ := fg_g_s h
    refine ⟨(cr_k r_s10 (cr_atx f_q3 x_s10)).trans c_q3_4, ?_⟩
    obtain ⟨s20, e_s20, h⟩ := fg_let_s h
    intro S_s20
    have r_s20 : c_R E g b_s10 s20 S_s20 := by rw [e_s20]; exact cr_sr r_s10 (cr_atx (cr_atx f_a16 x_s7) x_s10) _ (cr_some (cr_atx f_q3 x_s10))
    have x_s20 : c_ext b_s10 s10 b_s10 s20 := by rw [e_s20]; exact cx_sr _
    clear_value S_s20
    exact hK140 r_s20 (cr_atx (cr_atx (cr_atx f_o0 x_s7) x_s10) x_s20) h (fun b2 S2 x2 => hQ b2 S2 (cr_xt (cr_xt x_s7 (cr_xt x_s10 x_s20)) x2)) hc hd
set_option maxRecDepth 100000 in
set_option maxHeartbeats 4000000 in
theorem ft_X11_init_140 {E : h_S} {g : h_G} {r : Unit} {t : h_S} {Q : h_S → Prop} : ∀ (n : Nat) {b : Nat → Nat} {s S_s : h_S} {C D bc bs : Nat} {o0 : Nat} {A_o0 : Nat} {x1 : Int32}, c_R E g b s S_s → c_at b s o0 A_o0 → fn_X11_init_140 n o0 x1 s = some (r, t, C, D) → (∀ (b2 : Nat → Nat) (S2 : h_S), c_ext b s b2 t → c_R E g b2 t S2 → Q S2) → C ≤ bc → D ≤ bs → w_X11_init_140 g Q n A_o0 x1 S_s bc bs := by
  intro n
  induction n with
  | zero => intros; rename_i h _ _ _; exact fg_none h
  | succ n ih => exact ft_X11_init_140b @ih
set_option maxRecDepth 100000 in
set_option maxHeartbeats 4000000 in
theorem ft_X11_init {E : h_S} {g : h_G} {r : Unit} {t : h_S} {Q : h_S → Prop} {b : Nat → Nat} {s S_s : h_S} {C0 D0 mc ms : Nat} {o0 : Nat} {A_o0 : Nat} (hR : c_R E g b s S_s) (f_o0 : c_at b s o0 A_o0) (h : fn_X11_init o0 s = some (r, t, C0, D0)) (hQ : ∀ (b2 : Nat → Nat) (S2 : h_S), c_ext b s b2 t → c_R E g b2 t S2 → Q S2) (hc : C0 ≤ mc) (hd : D0 ≤ ms) : w_X11_init g A_o0 S_s mc ms Q := by
  unfold fn_X11_init at h
  unfold w_X11_init
  obtain ⟨q1, e_q1, h⟩ := fg_let_s h
  obtain ⟨z_q1, h⟩ := fg_g_s h
  obtain ⟨C_q1, D_q1, h, q_q1, w_q1⟩ := fg_c_s h
  obtain ⟨u1_q1, hc⟩ := fg_sp q_q1 hc
  obtain ⟨u2_q1, hd⟩ := fg_sp w_q1 hd
  refine ⟨u1_q1, u2_q1, fun A_q1 Z_q1 => ?_⟩
  obtain ⟨s5, e_s5, h⟩ := fg_let_s h
  intro S_s5
  have r_s5 : c_R E g (c_up b q1 A_q1) s5 S_s5 := by rw [e_s5]; exact cr_nw hR z_q1 Z_q1 (by decide)
  have x_s5 : c_ext b s (c_up b q1 A_q1) s5 := by rw [e_s5]; exact cx_new z_q1
  have f_q1 : c_at (c_up b q1 A_q1) s5 q1 A_q1 := by rw [e_s5]; exact ca_nw (by decide)
  clear_value S_s5
  have f_o0 := cr_atx f_o0 x_s5
  intro c6
  have hc : _ ≤ c6 := hc
  clear_value c6
  intro d7
  have hd : _ ≤ d7 := hd
  clear_value d7
  obtain ⟨c_o0_2, h⟩ := fg_g_s h
  refine ⟨(cr_k r_s5 f_o0).trans c_o0_2, ?_⟩
  obtain ⟨s9, e_s9, h⟩ := fg_let_s h
  intro S_s9
  have r_s9 : c_R E g (c_up b q1 A_q1) s9 S_s9 := by rw [e_s9]; exact cr_sr r_s5 f_o0 _ (cr_some f_q1)
  have x_s9 : c_ext (c_up b q1 A_q1) s5 (c_up b q1 A_q1) s9 := by rw [e_s9]; exact cx_sr _
  clear_value S_s9
  have c_o0_2 := cr_kx c_o0_2 f_o0 x_s9
  have f_o0 := cr_atx f_o0 x_s9
  have f_q1 := cr_atx f_q1 x_s9
  obtain ⟨q10, e_q10, h⟩ := fg_let_s h
  obtain ⟨z_q10, h⟩ := fg_g_s h
  obtain ⟨C_q10, D_q10, h, q_q10, w_q10⟩ := fg_c_s h
  obtain ⟨u1_q10, hc⟩ := fg_sp q_q10 hc
  obtain ⟨u2_q10, hd⟩ := fg_sp w_q10 hd
  refine ⟨u1_q10, u2_q10, fun A_q10 Z_q10 => ?_⟩
  obtain ⟨s14, e_s14, h⟩ := fg_let_s h
  intro S_s14
  have r_s14 : c_R E g (c_up (c_up b q1 A_q1) q10 A_q10) s14 S_s14 := by rw [e_s14]; exact cr_nw r_s9 z_q10 Z_q10 (by decide)
  have x_s14 : c_ext (c_up b q1 A_q1) s9 (c_up (c_up b q1 A_q1) q10 A_q10) s14 := by rw [e_s14]; exact cx_new z_q10
  have f_q10 : c_at (c_up (c_up b q1 A_q1) q10 A_q10) s14 q10 A_q10 := by rw [e_s14]; exact ca_nw (by decide)
  clear_value S_s14
  have c_o0_2 := cr_kx c_o0_2 f_o0 x_s14
  have f_o0 := cr_atx f_o0 x_s14
  have f_q1 := cr_atx f_q1 x_s14
  intro c15
  have hc : _ ≤ c15 := hc
  clear_value c15
  intro d16
  have hd : _ ≤ d16 := hd
  clear_value d16
  refine ⟨(cr_k r_s14 f_o0).trans c_o0_2, ?_⟩
  obtain ⟨s18, e_s18, h⟩ := fg_let_s h
  intro S_s18
  have r_s18 : c_R E g (c_up (c_up b q1 A_q1) q10 A_q10) s18 S_s18 := by rw [e_s18]; exact cr_sr r_s14 f_o0 _ (cr_some f_q10)
  have x_s18 : c_ext (c_up (c_up b q1 A_q1) q10 A_q10) s14 (c_up (c_up b q1 A_q1) q10 A_q10) s18 := by rw [e_s18]; exact cx_sr _
  clear_value S_s18
  have c_o0_2 := cr_kx c_o0_2 f_o0 x_s18
  have f_o0 := cr_atx f_o0 x_s18
  have f_q1 := cr_atx f_q1 x_s18
  have f_q10 := cr_atx f_q10 x_s18
  obtain ⟨q19, e_q19, h⟩ := fg_let_s h
  obtain ⟨z_q19, h⟩ := fg_g_s h
  obtain ⟨C_q19, D_q19, h, q_q19, w_q19⟩ := fg_c_s h
  obtain ⟨u1_q19, hc⟩ := fg_sp q_q19 hc
  obtain ⟨u2_q19, hd⟩ := fg_sp w_q19 hd
  refine ⟨u1_q19, u2_q19, fun A_q19 Z_q19 => ?_⟩
  obtain ⟨s23, e_s23, h⟩ := fg_let_s h
  intro S_s23
  have r_s23 : c_R E g (c_up (c_up (c_up b q1 A_q1) q10 A_q10) q19 A_q19) s23 S_s23 := by rw [e_s23]; exact cr_nw r_s18 z_q19 Z_q19 (by decide)
  have x_s23 : c_ext (c_up (c_up b q1 A_q1) q10 A_q10) s18 (c_up (c_up (c_up b q1 A_q1) q10 A_q10) q19 A_q19) s23 := by rw [e_s23]; exact cx_new z_q19
  have f_q19 : c_at (c_up (c_up (c_up b q1 A_q1) q10 A_q10) q19 A_q19) s23 q19 A_q19 := by rw [e_s23]; exact ca_nw (by decide)
  clear_value S_s23
  have c_o0_2 := cr_kx c_o0_2 f_o0 x_s23
  have f_o0 := cr_atx f_o0 x_s23
  have f_q1 := cr_atx f_q1 x_s23
  have f_q10 := cr_atx f_q10 x_s23
  intro c24
  have hc : _ ≤ c24 := hc
  clear_value c24
  intro d25
  have hd : _ ≤ d25 := hd
  clear_value d25
  obtain ⟨u_, s26, mc28, ms29, C_s26, D_s26, e_s26, h, q_s26, w_s26⟩ := fg_bc_s h
  obtain ⟨u1_s26, hc⟩ := fg_sp q_s26 hc
  obtain ⟨u2_s26, hd⟩ := fg_sp w_s26 hd
  refine ⟨mc28, ms29, u1_s26, u2_s26, ft_X7_init r_s23 f_q19 e_s26 (fun b_s26 S_s26 x_s26 r_s26 => ?_) (Nat.le_refl _) (Nat.le_refl _)⟩
  have c_o0_2 := cr_kx c_o0_2 f_o0 x_s26
  have f_o0 := cr_atx f_o0 x_s26
  have f_q1 := cr_atx f_q1 x_s26
  have f_q10 := cr_atx f_q10 x_s26
  have f_q19 := cr_atx f_q19 x_s26
  refine ⟨(cr_k r_s26 f_o0).trans c_o0_2, ?_⟩
  obtain ⟨s33, e_s33, h⟩ := fg_let_s h
  intro S_s33
  have r_s33 : c_R E g b_s26 s33 S_s33 := by rw [e_s33]; exact cr_sr r_s26 f_o0 _ (cr_some f_q19)
  have x_s33 : c_ext b_s26 s26 b_s26 s33 := by rw [e_s33]; exact cx_sr _
  clear_value S_s33
  have c_o0_2 := cr_kx c_o0_2 f_o0 x_s33
  have f_o0 := cr_atx f_o0 x_s33
  have f_q1 := cr_atx f_q1 x_s33
  have f_q10 := cr_atx f_q10 x_s33
  have f_q19 := cr_atx f_q19 x_s33
  obtain ⟨q34, e_q34, h⟩ := fg_let_s h
  obtain ⟨z_q34, h⟩ := fg_g_s h
  obtain ⟨C_q34, D_q34, h, q_q34, w_q34⟩ := fg_c_s h
  obtain ⟨u1_q34, hc⟩ := fg_sp q_q34 hc
  obtain ⟨u2_q34, hd⟩ := fg_sp w_q34 hd
  refine ⟨u1_q34, u2_q34, fun A_q34 Z_q34 => ?_⟩
  obtain ⟨s38, e_s38, h⟩ := fg_let_s h
  intro S_s38
  have r_s38 : c_R E g (c_up b_s26 q34 A_q34) s38 S_s38 := by rw [e_s38]; exact cr_nw r_s33 z_q34 Z_q34 (by decide)
  have x_s38 : c_ext b_s26 s33 (c_up b_s26 q34 A_q34) s38 := by rw [e_s38]; exact cx_new z_q34
  have f_q34 : c_at (c_up b_s26 q34 A_q34) s38 q34 A_q34 := by rw [e_s38]; exact ca_nw (by decide)
  clear_value S_s38
  have c_o0_2 := cr_kx c_o0_2 f_o0 x_s38
  have f_o0 := cr_atx f_o0 x_s38
  have f_q1 := cr_atx f_q1 x_s38
  have f_q10 := cr_atx f_q10 x_s38
  have f_q19 := cr_atx f_q19 x_s38
  intro c39
  have hc : _ ≤ c39 := hc
  clear_value c39
  intro d40
  have hd : _ ≤ d40 := hd
  clear_value d40
  obtain ⟨u_, s41, e_s41, h⟩ := fg_b_s h
  refine ft_Jx4a65c_init_da8c8 r_s38 f_q34 e_s41 (fun b_s41 S_s41 x_s41 r_s41 => ?_)
  have c_o0_2 := cr_kx c_o0_2 f_o0 x_s41
  have f_o0 := cr_atx f_o0 x_s41
  have f_q1 := cr_atx f_q1 x_s41
  have f_q10 := cr_atx f_q10 x_s41
  have f_q19 := cr_atx f_q19 x_s41
  have f_q34 := cr_atx f_q34 x_s41
  refine ⟨(cr_k r_s41 f_o0).trans c_o0_2, ?_⟩
  obtain ⟨s44, e_s44, h⟩ := fg_let_s h
  intro S_s44
  have r_s44 : c_R E g b_s41 s44 S_s44 := by rw [e_s44]; exact cr_sr r_s41 f_o0 _ (cr_some f_q34)
  have x_s44 : c_ext b_s41 s41 b_s41 s44 := by rw [e_s44]; exact cx_sr _
  clear_value S_s44
  have c_o0_2 := cr_kx c_o0_2 f_o0 x_s44
  have f_o0 := cr_atx f_o0 x_s44
  have f_q1 := cr_atx f_q1 x_s44
  have f_q10 := cr_atx f_q10 x_s44
  have f_q19 := cr_atx f_q19 x_s44
  have f_q34 := cr_atx f_q34 x_s44
  obtain ⟨q45, e_q45, h⟩ := fg_let_s h
  obtain ⟨z_q45, h⟩ := fg_g_s h
  obtain ⟨C_q45, D_q45, h, q_q45, w_q45⟩ := fg_c_s h
  obtain ⟨u1_q45, hc⟩ := fg_sp q_q45 hc
  obtain ⟨u2_q45, hd⟩ := fg_sp w_q45 hd
  refine ⟨u1_q45, u2_q45, fun A_q45 Z_q45 => ?_⟩
  obtain ⟨s49, e_s49, h⟩ := fg_let_s h
  intro S_s49
  have r_s49 : c_R E g (c_up b_s41 q45 A_q45) s49 S_s49 := by rw [e_s49]; exact cr_nw r_s44 z_q45 Z_q45 (by decide)
  have x_s49 : c_ext b_s41 s44 (c_up b_s41 q45 A_q45) s49 := by rw [e_s49]; exact cx_new z_q45
  have f_q45 : c_at (c_up b_s41 q45 A_q45) s49 q45 A_q45 := by rw [e_s49]; exact ca_nw (by decide)
  clear_value S_s49
  have c_o0_2 := cr_kx c_o0_2 f_o0 x_s49
  have f_o0 := cr_atx f_o0 x_s49
  have f_q1 := cr_atx f_q1 x_s49
  have f_q10 := cr_atx f_q10 x_s49
  have f_q19 := cr_atx f_q19 x_s49
  have f_q34 := cr_atx f_q34 x_s49
  intro c50
  have hc : _ ≤ c50 := hc
  clear_value c50
  intro d51
  have hd : _ ≤ d51 := hd
  clear_value d51
  obtain ⟨u_, s52, e_s52, h⟩ := fg_b_s h
  refine ft_Jx4a65c_init_da8c8 r_s49 f_q45 e_s52 (fun b_s52 S_s52 x_s52 r_s52 => ?_)
  have c_o0_2 := cr_kx c_o0_2 f_o0 x_s52
  have f_o0 := cr_atx f_o0 x_s52
  have f_q1 := cr_atx f_q1 x_s52
  have f_q10 := cr_atx f_q10 x_s52
  have f_q19 := cr_atx f_q19 x_s52
  have f_q34 := cr_atx f_q34 x_s52
  have f_q45 := cr_atx f_q45 x_s52
  refine ⟨(cr_k r_s52 f_o0).trans c_o0_2, ?_⟩
  obtain ⟨s55, e_s55, h⟩ := fg_let_s h
  intro S_s55
  have r_s55 : c_R E g b_s52 s55 S_s55 := by rw [e_s55]; exact cr_sr r_s52 f_o0 _ (cr_some f_q45)
  have x_s55 : c_ext b_s52 s52 b_s52 s55 := by rw [e_s55]; exact cx_sr _
  clear_value S_s55
  have c_o0_2 := cr_kx c_o0_2 f_o0 x_s55
  have f_o0 := cr_atx f_o0 x_s55
  have f_q1 := cr_atx f_q1 x_s55
  have f_q10 := cr_atx f_q10 x_s55
  have f_q19 := cr_atx f_q19 x_s55
  have f_q34 := cr_atx f_q34 x_s55
  have f_q45 := cr_atx f_q45 x_s55
  obtain ⟨q56, e_q56, h⟩ := fg_let_s h
  obtain ⟨z_q56, h⟩ := fg_g_s h
  obtain ⟨C_q56, D_q56, h, q_q56, w_q56⟩ := fg_c_s h
  obtain ⟨u1_q56, hc⟩ := fg_sp q_q56 hc
  obtain ⟨u2_q56, hd⟩ := fg_sp w_q56 hd
  refine ⟨u1_q56, u2_q56, fun A_q56 Z_q56 => ?_⟩
  obtain ⟨s60, e_s60, h⟩ := fg_let_s h
  intro S_s60
  have r_s60 : c_R E g (c_up b_s52 q56 A_q56) s60 S_s60 := by rw [e_s60]; exact cr_nw r_s55 z_q56 Z_q56 (by decide)
  have x_s60 : c_ext b_s52 s55 (c_up b_s52 q56 A_q56) s60 := by rw [e_s60]; exact cx_new z_q56
  have f_q56 : c_at (c_up b_s52 q56 A_q56) s60 q56 A_q56 := by rw [e_s60]; exact ca_nw (by decide)
  clear_value S_s60
  have c_o0_2 := cr_kx c_o0_2 f_o0 x_s60
  have f_o0 := cr_atx f_o0 x_s60
  have f_q1 := cr_atx f_q1 x_s60
  have f_q10 := cr_atx f_q10 x_s60
  have f_q19 := cr_atx f_q19 x_s60
  have f_q34 := cr_atx f_q34 x_s60
  have f_q45 := cr_atx f_q45 x_s60
  intro c61
  have hc : _ ≤ c61 := hc
  clear_value c61
  intro d62
  have hd : _ ≤ d62 := hd
  clear_value d62
  obtain ⟨u_, s63, e_s63, h⟩ := fg_b_s h
  refine ft_Jx4a65c_init_da8c8 r_s60 f_q56 e_s63 (fun b_s63 S_s63 x_s63 r_s63 => ?_)
  have c_o0_2 := cr_kx c_o0_2 f_o0 x_s63
  have f_o0 := cr_atx f_o0 x_s63
  have f_q1 := cr_atx f_q1 x_s63
  have f_q10 := cr_atx f_q10 x_s63
  have f_q19 := cr_atx f_q19 x_s63
  have f_q34 := cr_atx f_q34 x_s63
  have f_q45 := cr_atx f_q45 x_s63
  have f_q56 := cr_atx f_q56 x_s63
  refine ⟨(cr_k r_s63 f_o0).trans c_o0_2, ?_⟩
  obtain ⟨s66, e_s66, h⟩ := fg_let_s h
  intro S_s66
  have r_s66 : c_R E g b_s63 s66 S_s66 := by rw [e_s66]; exact cr_sr r_s63 f_o0 _ (cr_some f_q56)
  have x_s66 : c_ext b_s63 s63 b_s63 s66 := by rw [e_s66]; exact cx_sr _
  clear_value S_s66
  have c_o0_2 := cr_kx c_o0_2 f_o0 x_s66
  have f_o0 := cr_atx f_o0 x_s66
  have f_q1 := cr_atx f_q1 x_s66
  have f_q10 := cr_atx f_q10 x_s66
  have f_q19 := cr_atx f_q19 x_s66
  have f_q34 := cr_atx f_q34 x_s66
  have f_q45 := cr_atx f_q45 x_s66
  have f_q56 := cr_atx f_q56 x_s66
  obtain ⟨q67, e_q67, h⟩ := fg_let_s h
  obtain ⟨z_q67, h⟩ := fg_g_s h
  obtain ⟨C_q67, D_q67, h, q_q67, w_q67⟩ := fg_c_s h
  obtain ⟨u1_q67, hc⟩ := fg_sp q_q67 hc
  obtain ⟨u2_q67, hd⟩ := fg_sp w_q67 hd
  refine ⟨u1_q67, u2_q67, fun A_q67 Z_q67 => ?_⟩
  obtain ⟨s71, e_s71, h⟩ := fg_let_s h
  intro S_s71
  have r_s71 : c_R E g (c_up b_s63 q67 A_q67) s71 S_s71 := by rw [e_s71]; exact cr_nw r_s66 z_q67 Z_q67 (by decide)
  have x_s71 : c_ext b_s63 s66 (c_up b_s63 q67 A_q67) s71 := by rw [e_s71]; exact cx_new z_q67
  have f_q67 : c_at (c_up b_s63 q67 A_q67) s71 q67 A_q67 := by rw [e_s71]; exact ca_nw (by decide)
  clear_value S_s71
  have c_o0_2 := cr_kx c_o0_2 f_o0 x_s71
  have f_o0 := cr_atx f_o0 x_s71
  have f_q1 := cr_atx f_q1 x_s71
  have f_q10 := cr_atx f_q10 x_s71
  have f_q19 := cr_atx f_q19 x_s71
  have f_q34 := cr_atx f_q34 x_s71
  have f_q45 := cr_atx f_q45 x_s71
  have f_q56 := cr_atx f_q56 x_s71
  intro c72
  have hc : _ ≤ c72 := hc
  clear_value c72
  intro d73
  have hd : _ ≤ d73 := hd
  clear_value d73
  obtain ⟨u_, s74, e_s74, h⟩ := fg_b_s h
  refine ft_Jx4a65c_init_da8c8 r_s71 f_q67 e_s74 (fun b_s74 S_s74 x_s74 r_s74 => ?_)
  have c_o0_2 := cr_kx c_o0_2 f_o0 x_s74
  have f_o0 := cr_atx f_o0 x_s74
  have f_q1 := cr_atx f_q1 x_s74
  have f_q10 := cr_atx f_q10 x_s74
  have f_q19 := cr_atx f_q19 x_s74
  have f_q34 := cr_atx f_q34 x_s74
  have f_q45 := cr_atx f_q45 x_s74
  have f_q56 := cr_atx f_q56 x_s74
  have f_q67 := cr_atx f_q67 x_s74
  refine ⟨(cr_k r_s74 f_o0).trans c_o0_2, ?_⟩
  obtain ⟨s77, e_s77, h⟩ := fg_let_s h
  intro S_s77
  have r_s77 : c_R E g b_s74 s77 S_s77 := by rw [e_s77]; exact cr_sr r_s74 f_o0 _ (cr_some f_q67)
  have x_s77 : c_ext b_s74 s74 b_s74 s77 := by rw [e_s77]; exact cx_sr _
  clear_value S_s77
  have c_o0_2 := cr_kx c_o0_2 f_o0 x_s77
  have f_o0 := cr_atx f_o0 x_s77
  have f_q1 := cr_atx f_q1 x_s77
  have f_q10 := cr_atx f_q10 x_s77
  have f_q19 := cr_atx f_q19 x_s77
  have f_q34 := cr_atx f_q34 x_s77
  have f_q45 := cr_atx f_q45 x_s77
  have f_q56 := cr_atx f_q56 x_s77
  have f_q67 := cr_atx f_q67 x_s77
  obtain ⟨q78, e_q78, h⟩ := fg_let_s h
  obtain ⟨z_q78, h⟩ := fg_g_s h
  obtain ⟨C_q78, D_q78, h, q_q78, w_q78⟩ := fg_c_s h
  obtain ⟨u1_q78, hc⟩ := fg_sp q_q78 hc
  obtain ⟨u2_q78, hd⟩ := fg_sp w_q78 hd
  refine ⟨u1_q78, u2_q78, fun A_q78 Z_q78 => ?_⟩
  obtain ⟨s82, e_s82, h⟩ := fg_let_s h
  intro S_s82
  have r_s82 : c_R E g (c_up b_s74 q78 A_q78) s82 S_s82 := by rw [e_s82]; exact cr_nw r_s77 z_q78 Z_q78 (by decide)
  have x_s82 : c_ext b_s74 s77 (c_up b_s74 q78 A_q78) s82 := by rw [e_s82]; exact cx_new z_q78
  have f_q78 : c_at (c_up b_s74 q78 A_q78) s82 q78 A_q78 := by rw [e_s82]; exact ca_nw (by decide)
  clear_value S_s82
  have c_o0_2 := cr_kx c_o0_2 f_o0 x_s82
  have f_o0 := cr_atx f_o0 x_s82
  have f_q1 := cr_atx f_q1 x_s82
  have f_q10 := cr_atx f_q10 x_s82
  have f_q19 := cr_atx f_q19 x_s82
  have f_q34 := cr_atx f_q34 x_s82
  have f_q45 := cr_atx f_q45 x_s82
  have f_q56 := cr_atx f_q56 x_s82
  have f_q67 := cr_atx f_q67 x_s82
  intro c83
  have hc : _ ≤ c83 := hc
  clear_value c83
  intro d84
  have hd : _ ≤ d84 := hd
  clear_value d84
  refine ⟨(cr_k r_s82 f_o0).trans c_o0_2, ?_⟩
  obtain ⟨s86, e_s86, h⟩ := fg_let_s h
  intro S_s86
  have r_s86 : c_R E g (c_up b_s74 q78 A_q78) s86 S_s86 := by rw [e_s86]; exact cr_sr r_s82 f_o0 _ (cr_some f_q78)
  have x_s86 : c_ext (c_up b_s74 q78 A_q78) s82 (c_up b_s74 q78 A_q78) s86 := by rw [e_s86]; exact cx_sr _
  clear_value S_s86
  have c_o0_2 := cr_kx c_o0_2 f_o0 x_s86
  have f_o0 := cr_atx f_o0 x_s86
  have f_q1 := cr_atx f_q1 x_s86
  have f_q10 := cr_atx f_q10 x_s86
  have f_q19 := cr_atx f_q19 x_s86
  have f_q34 := cr_atx f_q34 x_s86
  have f_q45 := cr_atx f_q45 x_s86
  have f_q56 := cr_atx f_q56 x_s86
  have f_q67 := cr_atx f_q67 x_s86
  have f_q78 := cr_atx f_q78 x_s86
  obtain ⟨q87, e_q87, h⟩ := fg_let_s h
  obtain ⟨z_q87, h⟩ := fg_g_s h
  obtain ⟨C_q87, D_q87, h, q_q87, w_q87⟩ := fg_c_s h
  obtain ⟨u1_q87, hc⟩ := fg_sp q_q87 hc
  obtain ⟨u2_q87, hd⟩ := fg_sp w_q87 hd
  refine ⟨u1_q87, u2_q87, fun A_q87 Z_q87 => ?_⟩
  obtain ⟨s91, e_s91, h⟩ := fg_let_s h
  intro S_s91
  have r_s91 : c_R E g (c_up (c_up b_s74 q78 A_q78) q87 A_q87) s91 S_s91 := by rw [e_s91]; exact cr_nw r_s86 z_q87 Z_q87 (by decide)
  have x_s91 : c_ext (c_up b_s74 q78 A_q78) s86 (c_up (c_up b_s74 q78 A_q78) q87 A_q87) s91 := by rw [e_s91]; exact cx_new z_q87
  have f_q87 : c_at (c_up (c_up b_s74 q78 A_q78) q87 A_q87) s91 q87 A_q87 := by rw [e_s91]; exact ca_nw (by decide)
  clear_value S_s91
  have c_o0_2 := cr_kx c_o0_2 f_o0 x_s91
  have f_o0 := cr_atx f_o0 x_s91
  have f_q1 := cr_atx f_q1 x_s91
  have f_q10 := cr_atx f_q10 x_s91
  have f_q19 := cr_atx f_q19 x_s91
  have f_q34 := cr_atx f_q34 x_s91
  have f_q45 := cr_atx f_q45 x_s91
  have f_q56 := cr_atx f_q56 x_s91
  have f_q67 := cr_atx f_q67 x_s91
  have f_q78 := cr_atx f_q78 x_s91
  intro c92
  have hc : _ ≤ c92 := hc
  clear_value c92
  intro d93
  have hd : _ ≤ d93 := hd
  clear_value d93
  obtain ⟨u_, s94, mc96, ms97, C_s94, D_s94, e_s94, h, q_s94, w_s94⟩ := fg_bc_s h
  obtain ⟨u1_s94, hc⟩ := fg_sp q_s94 hc
  obtain ⟨u2_s94, hd⟩ := fg_sp w_s94 hd
  refine ⟨mc96, ms97, u1_s94, u2_s94, ft_X9_init r_s91 f_q87 e_s94 (fun b_s94 S_s94 x_s94 r_s94 => ?_) (Nat.le_refl _) (Nat.le_refl _)⟩
  have c_o0_2 := cr_kx c_o0_2 f_o0 x_s94
  have f_o0 := cr_atx f_o0 x_s94
  have f_q1 := cr_atx f_q1 x_s94
  have f_q10 := cr_atx f_q10 x_s94
  have f_q19 := cr_atx f_q19 x_s94
  have f_q34 := cr_atx f_q34 x_s94
  have f_q45 := cr_atx f_q45 x_s94
  have f_q56 := cr_atx f_q56 x_s94
  have f_q67 := cr_atx f_q67 x_s94
  have f_q78 := cr_atx f_q78 x_s94
  have f_q87 := cr_atx f_q87 x_s94
  refine ⟨(cr_k r_s94 f_o0).trans c_o0_2, ?_⟩
  obtain ⟨s101, e_s101, h⟩ := fg_let_s h
  intro S_s101
  have r_s101 : c_R E g b_s94 s101 S_s101 := by rw [e_s101]; exact cr_sr r_s94 f_o0 _ (cr_some f_q87)
  have x_s101 : c_ext b_s94 s94 b_s94 s101 := by rw [e_s101]; exact cx_sr _
  clear_value S_s101
  have c_o0_2 := cr_kx c_o0_2 f_o0 x_s101
  have f_o0 := cr_atx f_o0 x_s101
  have f_q1 := cr_atx f_q1 x_s101
  have f_q10 := cr_atx f_q10 x_s101
  have f_q19 := cr_atx f_q19 x_s101
  have f_q34 := cr_atx f_q34 x_s101
  have f_q45 := cr_atx f_q45 x_s101
  have f_q56 := cr_atx f_q56 x_s101
  have f_q67 := cr_atx f_q67 x_s101
  have f_q78 := cr_atx f_q78 x_s101
  have f_q87 := cr_atx f_q87 x_s101
  obtain ⟨q102, e_q102, h⟩ := fg_let_s h
  obtain ⟨z_q102, h⟩ := fg_g_s h
  obtain ⟨C_q102, D_q102, h, q_q102, w_q102⟩ := fg_c_s h
  obtain ⟨u1_q102, hc⟩ := fg_sp q_q102 hc
  obtain ⟨u2_q102, hd⟩ := fg_sp w_q102 hd
  refine ⟨u1_q102, u2_q102, fun A_q102 Z_q102 => ?_⟩
  obtain ⟨s106, e_s106, h⟩ := fg_let_s h
  intro S_s106
  have r_s106 : c_R E g (c_up b_s94 q102 A_q102) s106 S_s106 := by rw [e_s106]; exact cr_nw r_s101 z_q102 Z_q102 (by decide)
  have x_s106 : c_ext b_s94 s101 (c_up b_s94 q102 A_q102) s106 := by rw [e_s106]; exact cx_new z_q102
  have f_q102 : c_at (c_up b_s94 q102 A_q102) s106 q102 A_q102 := by rw [e_s106]; exact ca_nw (by decide)
  clear_value S_s106
  have c_o0_2 := cr_kx c_o0_2 f_o0 x_s106
  have f_o0 := cr_atx f_o0 x_s106
  have f_q1 := cr_atx f_q1 x_s106
  have f_q10 := cr_atx f_q10 x_s106
  have f_q19 := cr_atx f_q19 x_s106
  have f_q34 := cr_atx f_q34 x_s106
  have f_q45 := cr_atx f_q45 x_s106
  have f_q56 := cr_atx f_q56 x_s106
  have f_q67 := cr_atx f_q67 x_s106
  have f_q78 := cr_atx f_q78 x_s106
  have f_q87 := cr_atx f_q87 x_s106
  intro c107
  have hc : _ ≤ c107 := hc
  clear_value c107
  intro d108
  have hd : _ ≤ d108 := hd
  clear_value d108
  refine ⟨(cr_k r_s106 f_o0).trans c_o0_2, ?_⟩
  obtain ⟨s110, e_s110, h⟩ := fg_let_s h
  intro S_s110
  have r_s110 : c_R E g (c_up b_s94 q102 A_q102) s110 S_s110 := by rw [e_s110]; exact cr_sr r_s106 f_o0 _ (cr_some f_q102)
  have x_s110 : c_ext (c_up b_s94 q102 A_q102) s106 (c_up b_s94 q102 A_q102) s110 := by rw [e_s110]; exact cx_sr _
  clear_value S_s110
  have c_o0_2 := cr_kx c_o0_2 f_o0 x_s110
  have f_o0 := cr_atx f_o0 x_s110
  have f_q1 := cr_atx f_q1 x_s110
  have f_q10 := cr_atx f_q10 x_s110
  have f_q19 := cr_atx f_q19 x_s110
  have f_q34 := cr_atx f_q34 x_s110
  have f_q45 := cr_atx f_q45 x_s110
  have f_q56 := cr_atx f_q56 x_s110
  have f_q67 := cr_atx f_q67 x_s110
  have f_q78 := cr_atx f_q78 x_s110
  have f_q87 := cr_atx f_q87 x_s110
  have f_q102 := cr_atx f_q102 x_s110
  obtain ⟨s111, e_s111, h⟩ := fg_let_s h
  intro S_s111
  have r_s111 : c_R E g (c_up b_s94 q102 A_q102) s111 S_s111 := by rw [e_s111]; exact cr_si r_s110 f_o0 _ _
  have x_s111 : c_ext (c_up b_s94 q102 A_q102) s110 (c_up b_s94 q102 A_q102) s111 := by rw [e_s111]; exact cx_si _ _
  clear_value S_s111
  have c_o0_2 := cr_kx c_o0_2 f_o0 x_s111
  have f_o0 := cr_atx f_o0 x_s111
  have f_q1 := cr_atx f_q1 x_s111
  have f_q10 := cr_atx f_q10 x_s111
  have f_q19 := cr_atx f_q19 x_s111
  have f_q34 := cr_atx f_q34 x_s111
  have f_q45 := cr_atx f_q45 x_s111
  have f_q56 := cr_atx f_q56 x_s111
  have f_q67 := cr_atx f_q67 x_s111
  have f_q78 := cr_atx f_q78 x_s111
  have f_q87 := cr_atx f_q87 x_s111
  have f_q102 := cr_atx f_q102 x_s111
  obtain ⟨q112, e_q112, h⟩ := fg_let_s h
  obtain ⟨z_q112, h⟩ := fg_g_s h
  obtain ⟨C_q112, D_q112, h, q_q112, w_q112⟩ := fg_c_s h
  obtain ⟨u1_q112, hc⟩ := fg_sp q_q112 hc
  obtain ⟨u2_q112, hd⟩ := fg_sp w_q112 hd
  refine ⟨u1_q112, u2_q112, fun A_q112 Z_q112 => ?_⟩
  obtain ⟨s116, e_s116, h⟩ := fg_let_s h
  intro S_s116
  have r_s116 : c_R E g (c_up (c_up b_s94 q102 A_q102) q112 A_q112) s116 S_s116 := by rw [e_s116]; exact cr_nw r_s111 z_q112 Z_q112 (by decide)
  have x_s116 : c_ext (c_up b_s94 q102 A_q102) s111 (c_up (c_up b_s94 q102 A_q102) q112 A_q112) s116 := by rw [e_s116]; exact cx_new z_q112
  have f_q112 : c_at (c_up (c_up b_s94 q102 A_q102) q112 A_q112) s116 q112 A_q112 := by rw [e_s116]; exact ca_nw (by decide)
  clear_value S_s116
  have c_o0_2 := cr_kx c_o0_2 f_o0 x_s116
  have f_o0 := cr_atx f_o0 x_s116
  have f_q1 := cr_atx f_q1 x_s116
  have f_q10 := cr_atx f_q10 x_s116
  have f_q19 := cr_atx f_q19 x_s116
  have f_q34 := cr_atx f_q34 x_s116
  have f_q45 := cr_atx f_q45 x_s116
  have f_q56 := cr_atx f_q56 x_s116
  have f_q67 := cr_atx f_q67 x_s116
  have f_q78 := cr_atx f_q78 x_s116
  have f_q87 := cr_atx f_q87 x_s116
  have f_q102 := cr_atx f_q102 x_s116
  intro c117
  have hc : _ ≤ c117 := hc
  clear_value c117
  intro d118
  have hd : _ ≤ d118 := hd
  clear_value d118
  refine ⟨(cr_k r_s116 f_o0).trans c_o0_2, ?_⟩
  obtain ⟨s120, e_s120, h⟩ := fg_let_s h
  intro S_s120
  have r_s120 : c_R E g (c_up (c_up b_s94 q102 A_q102) q112 A_q112) s120 S_s120 := by rw [e_s120]; exact cr_sr r_s116 f_o0 _ (cr_some f_q112)
  have x_s120 : c_ext (c_up (c_up b_s94 q102 A_q102) q112 A_q112) s116 (c_up (c_up b_s94 q102 A_q102) q112 A_q112) s120 := by rw [e_s120]; exact cx_sr _
  clear_value S_s120
  have c_o0_2 := cr_kx c_o0_2 f_o0 x_s120
  have f_o0 := cr_atx f_o0 x_s120
  have f_q1 := cr_atx f_q1 x_s120
  have f_q10 := cr_atx f_q10 x_s120
  have f_q19 := cr_atx f_q19 x_s120
  have f_q34 := cr_atx f_q34 x_s120
  have f_q45 := cr_atx f_q45 x_s120
  have f_q56 := cr_atx f_q56 x_s120
  have f_q67 := cr_atx f_q67 x_s120
  have f_q78 := cr_atx f_q78 x_s120
  have f_q87 := cr_atx f_q87 x_s120
  have f_q102 := cr_atx f_q102 x_s120
  have f_q112 := cr_atx f_q112 x_s120
  obtain ⟨q121, e_q121, h⟩ := fg_let_s h
  obtain ⟨z_q121, h⟩ := fg_g_s h
  obtain ⟨C_q121, D_q121, h, q_q121, w_q121⟩ := fg_c_s h
  obtain ⟨u1_q121, hc⟩ := fg_sp q_q121 hc
  obtain ⟨u2_q121, hd⟩ := fg_sp w_q121 hd
  refine ⟨u1_q121, u2_q121, fun A_q121 Z_q121 => ?_⟩
  obtain ⟨s125, e_s125, h⟩ := fg_let_s h
  intro S_s125
  have r_s125 : c_R E g (c_up (c_up (c_up b_s94 q102 A_q102) q112 A_q112) q121 A_q121) s125 S_s125 := by rw [e_s125]; exact cr_nw r_s120 z_q121 Z_q121 (by decide)
  have x_s125 : c_ext (c_up (c_up b_s94 q102 A_q102) q112 A_q112) s120 (c_up (c_up (c_up b_s94 q102 A_q102) q112 A_q112) q121 A_q121) s125 := by rw [e_s125]; exact cx_new z_q121
  have f_q121 : c_at (c_up (c_up (c_up b_s94 q102 A_q102) q112 A_q112) q121 A_q121) s125 q121 A_q121 := by rw [e_s125]; exact ca_nw (by decide)
  clear_value S_s125
  have c_o0_2 := cr_kx c_o0_2 f_o0 x_s125
  have f_o0 := cr_atx f_o0 x_s125
  have f_q1 := cr_atx f_q1 x_s125
  have f_q10 := cr_atx f_q10 x_s125
  have f_q19 := cr_atx f_q19 x_s125
  have f_q34 := cr_atx f_q34 x_s125
  have f_q45 := cr_atx f_q45 x_s125
  have f_q56 := cr_atx f_q56 x_s125
  have f_q67 := cr_atx f_q67 x_s125
  have f_q78 := cr_atx f_q78 x_s125
  have f_q87 := cr_atx f_q87 x_s125
  have f_q102 := cr_atx f_q102 x_s125
  have f_q112 := cr_atx f_q112 x_s125
  intro c126
  have hc : _ ≤ c126 := hc
  clear_value c126
  intro d127
  have hd : _ ≤ d127 := hd
  clear_value d127
  refine ⟨(cr_k r_s125 f_o0).trans c_o0_2, ?_⟩
  obtain ⟨s129, e_s129, h⟩ := fg_let_s h
  intro S_s129
  have r_s129 : c_R E g (c_up (c_up (c_up b_s94 q102 A_q102) q112 A_q112) q121 A_q121) s129 S_s129 := by rw [e_s129]; exact cr_sr r_s125 f_o0 _ (cr_some f_q121)
  have x_s129 : c_ext (c_up (c_up (c_up b_s94 q102 A_q102) q112 A_q112) q121 A_q121) s125 (c_up (c_up (c_up b_s94 q102 A_q102) q112 A_q112) q121 A_q121) s129 := by rw [e_s129]; exact cx_sr _
  clear_value S_s129
  have c_o0_2 := cr_kx c_o0_2 f_o0 x_s129
  have f_o0 := cr_atx f_o0 x_s129
  have f_q1 := cr_atx f_q1 x_s129
  have f_q10 := cr_atx f_q10 x_s129
  have f_q19 := cr_atx f_q19 x_s129
  have f_q34 := cr_atx f_q34 x_s129
  have f_q45 := cr_atx f_q45 x_s129
  have f_q56 := cr_atx f_q56 x_s129
  have f_q67 := cr_atx f_q67 x_s129
  have f_q78 := cr_atx f_q78 x_s129
  have f_q87 := cr_atx f_q87 x_s129
  have f_q102 := cr_atx f_q102 x_s129
  have f_q112 := cr_atx f_q112 x_s129
  have f_q121 := cr_atx f_q121 x_s129
  obtain ⟨q130, e_q130, h⟩ := fg_let_s h
  obtain ⟨z_q130, h⟩ := fg_g_s h
  obtain ⟨C_q130, D_q130, h, q_q130, w_q130⟩ := fg_c_s h
  obtain ⟨u1_q130, hc⟩ := fg_sp q_q130 hc
  obtain ⟨u2_q130, hd⟩ := fg_sp w_q130 hd
  refine ⟨u1_q130, u2_q130, fun A_q130 Z_q130 => ?_⟩
  obtain ⟨s134, e_s134, h⟩ := fg_let_s h
  intro S_s134
  have r_s134 : c_R E g (c_up (c_up (c_up (c_up b_s94 q102 A_q102) q112 A_q112) q121 A_q121) q130 A_q130) s134 S_s134 := by rw [e_s134]; exact cr_nw r_s129 z_q130 Z_q130 (by decide)
  have x_s134 : c_ext (c_up (c_up (c_up b_s94 q102 A_q102) q112 A_q112) q121 A_q121) s129 (c_up (c_up (c_up (c_up b_s94 q102 A_q102) q112 A_q112) q121 A_q121) q130 A_q130) s134 := by rw [e_s134]; exact cx_new z_q130
  have f_q130 : c_at (c_up (c_up (c_up (c_up b_s94 q102 A_q102) q112 A_q112) q121 A_q121) q130 A_q130) s134 q130 A_q130 := by rw [e_s134]; exact ca_nw (by decide)
  clear_value S_s134
  have c_o0_2 := cr_kx c_o0_2 f_o0 x_s134
  have f_o0 := cr_atx f_o0 x_s134
  have f_q1 := cr_atx f_q1 x_s134
  have f_q10 := cr_atx f_q10 x_s134
  have f_q19 := cr_atx f_q19 x_s134
  have f_q34 := cr_atx f_q34 x_s134
  have f_q45 := cr_atx f_q45 x_s134
  have f_q56 := cr_atx f_q56 x_s134
  have f_q67 := cr_atx f_q67 x_s134
  have f_q78 := cr_atx f_q78 x_s134
  have f_q87 := cr_atx f_q87 x_s134
  have f_q102 := cr_atx f_q102 x_s134
  have f_q112 := cr_atx f_q112 x_s134
  have f_q121 := cr_atx f_q121 x_s134
  intro c135
  have hc : _ ≤ c135 := hc
  clear_value c135
  intro d136
  have hd : _ ≤ d136 := hd
  clear_value d136
  refine ⟨(cr_k r_s134 f_o0).trans c_o0_2, ?_⟩
  obtain ⟨s138, e_s138, h⟩ := fg_let_s h
  intro S_s138
  have r_s138 : c_R E g (c_up (c_up (c_up (c_up b_s94 q102 A_q102) q112 A_q112) q121 A_q121) q130 A_q130) s138 S_s138 := by rw [e_s138]; exact cr_sr r_s134 f_o0 _ (cr_some f_q130)
  have x_s138 : c_ext (c_up (c_up (c_up (c_up b_s94 q102 A_q102) q112 A_q112) q121 A_q121) q130 A_q130) s134 (c_up (c_up (c_up (c_up b_s94 q102 A_q102) q112 A_q112) q121 A_q121) q130 A_q130) s138 := by rw [e_s138]; exact cx_sr _
  clear_value S_s138
  have c_o0_2 := cr_kx c_o0_2 f_o0 x_s138
  have f_o0 := cr_atx f_o0 x_s138
  have f_q1 := cr_atx f_q1 x_s138
  have f_q10 := cr_atx f_q10 x_s138
  have f_q19 := cr_atx f_q19 x_s138
  have f_q34 := cr_atx f_q34 x_s138
  have f_q45 := cr_atx f_q45 x_s138
  have f_q56 := cr_atx f_q56 x_s138
  have f_q67 := cr_atx f_q67 x_s138
  have f_q78 := cr_atx f_q78 x_s138
  have f_q87 := cr_atx f_q87 x_s138
  have f_q102 := cr_atx f_q102 x_s138
  have f_q112 := cr_atx f_q112 x_s138
  have f_q121 := cr_atx f_q121 x_s138
  have f_q130 := cr_atx f_q130 x_s138
  exact ⟨g_N, ft_X11_init_140 g_N r_s138 f_o0 h (fun b2 S2 x2 => hQ b2 S2 (cr_xt (cr_xt x_s5 (cr_xt x_s9 (cr_xt x_s14 (cr_xt x_s18 (cr_xt x_s23 (cr_xt x_s26 (cr_xt x_s33 (cr_xt x_s38 (cr_xt x_s41 (cr_xt x_s44 (cr_xt x_s49 (cr_xt x_s52 (cr_xt x_s55 (cr_xt x_s60 (cr_xt x_s63 (cr_xt x_s66 (cr_xt x_s71 (cr_xt x_s74 (cr_xt x_s77 (cr_xt x_s82 (cr_xt x_s86 (cr_xt x_s91 (cr_xt x_s94 (cr_xt x_s101 (cr_xt x_s106 (cr_xt x_s110 (cr_xt x_s111 (cr_xt x_s116 (cr_xt x_s120 (cr_xt x_s125 (cr_xt x_s129 (cr_xt x_s134 x_s138)))))))))))))))))))))))))))))))) x2)) hc hd⟩
set_option maxRecDepth 100000 in
set_option maxHeartbeats 4000000 in
theorem ft_X11_mix {E : h_S} {g : h_G} {r : Int32} {t : h_S} {Q : Int32 → h_S → Prop} {b : Nat → Nat} {s S_s : h_S} {x0 : Int32} {x1 : Int32} (hR : c_R E g b s S_s) (hF : c_F s) (h : fn_X11_mix x0 x1 s = some (r, t)) (hQ : ∀ (b2 : Nat → Nat) (S2 : h_S), c_ext b s b2 t → c_R E g b2 t S2 → c_F t → Q r S2) : w_X11_mix x0 x1 S_s Q := by
  unfold fn_X11_mix at h
  unfold w_X11_mix
  obtain ⟨v1, e_v1, h⟩ := fg_let_s h
  intro S_v1
  have z_v1 : v1 = S_v1 := e_v1
  clear_value S_v1
  subst z_v1
  obtain ⟨v2, e_v2, h⟩ := fg_let_s h
  intro S_v2
  have z_v2 : v2 = S_v2 := e_v2
  clear_value S_v2
  subst z_v2
  obtain ⟨q, q2⟩ := fg_ret h
  subst q
  subst q2
  exact hQ _ _ cr_xr hR hF
set_option maxRecDepth 100000 in
set_option maxHeartbeats 4000000 in
theorem ft_X11_acted {E : h_S} {g : h_G} {r : Int32} {t : h_S} {Q : Int32 → h_S → Prop} {b : Nat → Nat} {s S_s : h_S} {A_o0 : Nat} {x1 : Int32} (hR : c_R E g b s S_s) (hF : c_F s) (f_o0 : c_at b s 0 A_o0) (h : fn_X11_acted x1 s = some (r, t)) (hQ : ∀ (b2 : Nat → Nat) (S2 : h_S), c_ext b s b2 t → c_R E g b2 t S2 → c_F t → Q r S2) : w_X11_acted A_o0 x1 S_s Q := by
  unfold fn_X11_acted at h
  unfold w_X11_acted
  refine ⟨(cr_k hR f_o0).trans (cf_k (a := 0) hF rfl (by decide)), ?_⟩
  try simp -zeta -zetaUnused only [cr_i hR f_o0]
  refine fg_ite Iff.rfl (fun d => ?_) (fun d => ?_)
  · have h := fg_if_t d h
    unfold w_X11_acted_66
    obtain ⟨q, q2⟩ := fg_ret h
    subst q
    subst q2
    exact hQ _ _ cr_xr hR hF
  · have h := fg_if_e d h
    obtain ⟨A_a3, w_a3, f_a3⟩ := cr_aos (cr_r hR f_o0 _) (cf_r (a := 0) (j := 2) (y := 1) hF rfl)
    refine ⟨A_a3, w_a3, ?_⟩
    refine ⟨(cr_k hR f_a3).trans (cf_k (a := 1) hF rfl (by decide)), ?_⟩
    obtain ⟨c, h⟩ := fg_g_s h
    refine ⟨cr_vp (cr_n hR f_a3) (cf_n (a := 1) hF rfl (by decide) rfl) c, ?_⟩
    try simp -zeta -zetaUnused only [cr_i hR f_a3]
    obtain ⟨p7, s6, e_s6, h⟩ := fg_b_s h
    refine ft_X11_mix hR hF e_s6 (fun b_s6 S_s6 x_s6 r_s6 F_s6 => ?_)
    obtain ⟨A_a8, w_a8, f_a8⟩ := cr_aos (cr_r hR f_o0 _) (cf_r (a := 0) (j := 2) (y := 1) hF rfl)
    refine ⟨A_a8, w_a8, ?_⟩
    refine ⟨(cr_k r_s6 (cr_atx f_a8 x_s6)).trans (cf_k (a := 1) F_s6 rfl (by decide)), ?_⟩
    obtain ⟨c, h⟩ := fg_g_s h
    refine ⟨cr_vp (cr_n r_s6 (cr_atx f_a8 x_s6)) (cf_n (a := 1) F_s6 rfl (by decide) rfl) c, ?_⟩
    obtain ⟨s11, e_s11, h⟩ := fg_let_s h
    intro S_s11
    have r_s11 : c_R E g b_s6 s11 S_s11 := by rw [e_s11]; exact cr_si r_s6 (cr_atx f_a8 x_s6) _ _
    have F_s11 : c_F s11 := by rw [e_s11]; exact cf_si F_s6 _ _
    have x_s11 : c_ext b_s6 s6 b_s6 s11 := by rw [e_s11]; exact cx_si _ _
    clear_value S_s11
    refine ⟨(cr_k r_s11 (cr_atx (cr_atx f_o0 x_s6) x_s11)).trans (cf_k (a := 0) F_s11 rfl (by decide)), ?_⟩
    obtain ⟨A_a13, w_a13, f_a13⟩ := cr_aos (cr_r r_s11 (cr_atx (cr_atx f_o0 x_s6) x_s11) _) (cf_r (a := 0) (j := 3) (y := 2) F_s11 rfl)
    refine ⟨A_a13, w_a13, ?_⟩
    refine ⟨(cr_k r_s11 f_a13).trans (cf_k (a := 2) F_s11 rfl (by decide)), ?_⟩
    try simp -zeta -zetaUnused only [cr_i r_s11 (cr_atx (cr_atx f_o0 x_s6) x_s11)]
    obtain ⟨c, h⟩ := fg_g_s h
    refine ⟨cr_vp (cr_n r_s11 f_a13) (cf_n (a := 2) F_s11 rfl (by decide) rfl) c, ?_⟩
    obtain ⟨A_a16, w_a16, f_a16⟩ := cr_aos (cr_r r_s11 (cr_atx (cr_atx f_o0 x_s6) x_s11) _) (cf_r (a := 0) (j := 3) (y := 2) F_s11 rfl)
    refine ⟨A_a16, w_a16, ?_⟩
    refine ⟨(cr_k r_s11 f_a16).trans (cf_k (a := 2) F_s11 rfl (by decide)), ?_⟩
    obtain ⟨c, h⟩ := fg_g_s h
    refine ⟨cr_vp (cr_n r_s11 f_a16) (cf_n (a := 2) F_s11 rfl (by decide) rfl) c, ?_⟩
    try simp -zeta -zetaUnused only [cr_i r_s11 f_a13]
    obtain ⟨s19, e_s19, h⟩ := fg_let_s h
    intro S_s19
    have r_s19 : c_R E g b_s6 s19 S_s19 := by rw [e_s19]; exact cr_si r_s11 f_a16 _ _
    have F_s19 : c_F s19 := by rw [e_s19]; exact cf_si F_s11 _ _
    have x_s19 : c_ext b_s6 s11 b_s6 s19 := by rw [e_s19]; exact cx_si _ _
    clear_value S_s19
    try simp -zeta -zetaUnused only [cr_i r_s19 (cr_atx (cr_atx (cr_atx f_o0 x_s6) x_s11) x_s19)]
    obtain ⟨s20, e_s20, h⟩ := fg_let_s h
    intro S_s20
    have r_s20 : c_R E g b_s6 s20 S_s20 := by rw [e_s20]; exact cr_si r_s19 (cr_atx (cr_atx (cr_atx f_o0 x_s6) x_s11) x_s19) _ _
    have F_s20 : c_F s20 := by rw [e_s20]; exact cf_si F_s19 _ _
    have x_s20 : c_ext b_s6 s19 b_s6 s20 := by rw [e_s20]; exact cx_si _ _
    clear_value S_s20
    unfold w_X11_acted_66
    obtain ⟨q, q2⟩ := fg_ret h
    subst q
    subst q2
    exact hQ _ _ (cr_xt x_s6 (cr_xt x_s11 (cr_xt x_s19 x_s20))) r_s20 F_s20
set_option maxRecDepth 100000 in
set_option maxHeartbeats 4000000 in
theorem ft_X11_hand {E : h_S} {g : h_G} {r : Int32} {t : h_S} {Q : Int32 → h_S → Prop} {b : Nat → Nat} {s S_s : h_S} {A_o0 : Nat} (hR : c_R E g b s S_s) (hF : c_F s) (f_o0 : c_at b s 0 A_o0) (h : fn_X11_hand s = some (r, t)) (hQ : ∀ (b2 : Nat → Nat) (S2 : h_S), c_ext b s b2 t → c_R E g b2 t S2 → c_F t → Q r S2) : w_X11_hand A_o0 S_s Q := by
  unfold fn_X11_hand at h
  unfold w_X11_hand
  refine ⟨(cr_k hR f_o0).trans (cf_k (a := 0) hF rfl (by decide)), ?_⟩
  try simp -zeta -zetaUnused only [cr_i hR f_o0]
  refine fg_ite Iff.rfl (fun d => ?_) (fun d => ?_)
  · have h := fg_if_t d h
    obtain ⟨s3, e_s3, h⟩ := fg_let_s h
    intro S_s3
    have r_s3 : c_R E g b s3 S_s3 := by rw [e_s3]; exact cr_si hR f_o0 _ _
    have F_s3 : c_F s3 := by rw [e_s3]; exact cf_si hF _ _
    have x_s3 : c_ext b s b s3 := by rw [e_s3]; exact cx_si _ _
    clear_value S_s3
    try simp -zeta -zetaUnused only [cr_i r_s3 (cr_atx f_o0 x_s3)]
    obtain ⟨p5, s4, e_s4, h⟩ := fg_b_s h
    refine ft_X11_acted r_s3 F_s3 (cr_atx f_o0 x_s3) e_s4 (fun b_s4 S_s4 x_s4 r_s4 F_s4 => ?_)
    obtain ⟨q, q2⟩ := fg_ret h
    subst q
    subst q2
    exact hQ _ _ (cr_xt x_s3 x_s4) r_s4 F_s4
  · have h := fg_if_e d h
    obtain ⟨q, q2⟩ := fg_ret h
    subst q
    subst q2
    exact hQ _ _ cr_xr hR hF
set_option maxRecDepth 100000 in
set_option maxHeartbeats 4000000 in
theorem ft_X11_groupAsOf {E : h_S} {g : h_G} {r : Int32} {t : h_S} {Q : Int32 → h_S → Prop} {b : Nat → Nat} {s S_s : h_S} {A_o0 : Nat} {x1 : Int32} {x2 : Int32} (hR : c_R E g b s S_s) (hF : c_F s) (f_o0 : c_at b s 0 A_o0) (h : fn_X11_groupAsOf x1 x2 s = some (r, t)) (hQ : ∀ (b2 : Nat → Nat) (S2 : h_S), c_ext b s b2 t → c_R E g b2 t S2 → c_F t → Q r S2) : w_X11_groupAsOf A_o0 x1 x2 S_s Q := by
  unfold fn_X11_groupAsOf at h
  unfold w_X11_groupAsOf
  obtain ⟨p2, s1, e_s1, h⟩ := fg_b_s h
  refine ft_X11_within hR hF e_s1 (fun b_s1 S_s1 x_s1 r_s1 F_s1 => ?_)
  refine fg_ite Iff.rfl (fun d => ?_) (fun d => ?_)
  · have h := fg_if_t d h
    unfold w_X11_groupAsOf_29
    obtain ⟨q, q2⟩ := fg_ret h
    subst q
    subst q2
    exact hQ _ _ x_s1 r_s1 F_s1
  · have h := fg_if_e d h
    refine ⟨(cr_k r_s1 (cr_atx f_o0 x_s1)).trans (cf_k (a := 0) F_s1 rfl (by decide)), ?_⟩
    obtain ⟨A_a5, w_a5, f_a5⟩ := cr_aos (cr_r r_s1 (cr_atx f_o0 x_s1) _) (cf_r (a := 0) (j := 3) (y := 2) F_s1 rfl)
    refine ⟨A_a5, w_a5, ?_⟩
    refine ⟨(cr_k r_s1 f_a5).trans (cf_k (a := 2) F_s1 rfl (by decide)), ?_⟩
    obtain ⟨c, h⟩ := fg_g_s h
    refine ⟨cr_vp (cr_n r_s1 f_a5) (cf_n (a := 2) F_s1 rfl (by decide) rfl) c, ?_⟩
    unfold w_X11_groupAsOf_29
    try simp -zeta -zetaUnused only [cr_i r_s1 f_a5]
    obtain ⟨q, q2⟩ := fg_ret h
    subst q
    subst q2
    exact hQ _ _ x_s1 r_s1 F_s1
set_option maxRecDepth 100000 in
set_option maxHeartbeats 4000000 in
theorem ft_X11_group {E : h_S} {g : h_G} {r : Int32} {t : h_S} {Q : Int32 → h_S → Prop} {b : Nat → Nat} {s S_s : h_S} {A_o0 : Nat} {x1 : Int32} {x2 : Int32} (hR : c_R E g b s S_s) (hF : c_F s) (f_o0 : c_at b s 0 A_o0) (h : fn_X11_group x1 x2 s = some (r, t)) (hQ : ∀ (b2 : Nat → Nat) (S2 : h_S), c_ext b s b2 t → c_R E g b2 t S2 → c_F t → Q r S2) : w_X11_group A_o0 x1 x2 S_s Q := by
  unfold fn_X11_group at h
  unfold w_X11_group
  obtain ⟨p2, s1, e_s1, h⟩ := fg_b_s h
  refine ft_X11_within hR hF e_s1 (fun b_s1 S_s1 x_s1 r_s1 F_s1 => ?_)
  refine fg_ite Iff.rfl (fun d => ?_) (fun d => ?_)
  · have h := fg_if_t d h
    obtain ⟨q, q2⟩ := fg_ret h
    subst q
    subst q2
    exact hQ _ _ x_s1 r_s1 F_s1
  · have h := fg_if_e d h
    refine ⟨(cr_k r_s1 (cr_atx f_o0 x_s1)).trans (cf_k (a := 0) F_s1 rfl (by decide)), ?_⟩
    try simp -zeta -zetaUnused only [cr_i r_s1 (cr_atx f_o0 x_s1)]
    refine fg_ite Iff.rfl (fun d => ?_) (fun d => ?_)
    · have h := fg_if_t d h
      obtain ⟨p7, s6, e_s6, h⟩ := fg_b_s h
      refine ft_X11_groupAsOf r_s1 F_s1 (cr_atx f_o0 x_s1) e_s6 (fun b_s6 S_s6 x_s6 r_s6 F_s6 => ?_)
      refine ⟨(cr_k r_s6 (cr_atx (cr_atx f_o0 x_s1) x_s6)).trans (cf_k (a := 0) F_s6 rfl (by decide)), ?_⟩
      obtain ⟨A_a9, w_a9, f_a9⟩ := cr_aos (cr_r r_s6 (cr_atx (cr_atx f_o0 x_s1) x_s6) _) (cf_r (a := 0) (j := 3) (y := 2) F_s6 rfl)
      refine ⟨A_a9, w_a9, ?_⟩
      refine ⟨(cr_k r_s6 f_a9).trans (cf_k (a := 2) F_s6 rfl (by decide)), ?_⟩
      try simp -zeta -zetaUnused only [cr_i r_s6 (cr_atx (cr_atx f_o0 x_s1) x_s6)]
      obtain ⟨c, h⟩ := fg_g_s h
      refine ⟨cr_vp (cr_n r_s6 f_a9) (cf_n (a := 2) F_s6 rfl (by decide) rfl) c, ?_⟩
      try simp -zeta -zetaUnused only [cr_i r_s6 f_a9]
      obtain ⟨v12, e_v12, h⟩ := fg_let_s h
      intro S_v12
      have z_v12 : v12 = S_v12 := e_v12
      clear_value S_v12
      subst z_v12
      obtain ⟨p14, s13, e_s13, h⟩ := fg_b_s h
      refine ft_X11_acted r_s6 F_s6 (cr_atx (cr_atx f_o0 x_s1) x_s6) e_s13 (fun b_s13 S_s13 x_s13 r_s13 F_s13 => ?_)
      refine ⟨(cr_k r_s13 (cr_atx (cr_atx (cr_atx f_o0 x_s1) x_s6) x_s13)).trans (cf_k (a := 0) F_s13 rfl (by decide)), ?_⟩
      obtain ⟨A_a16, w_a16, f_a16⟩ := cr_aos (cr_r r_s13 (cr_atx (cr_atx (cr_atx f_o0 x_s1) x_s6) x_s13) _) (cf_r (a := 0) (j := 3) (y := 2) F_s13 rfl)
      refine ⟨A_a16, w_a16, ?_⟩
      refine ⟨(cr_k r_s13 f_a16).trans (cf_k (a := 2) F_s13 rfl (by decide)), ?_⟩
      try simp -zeta -zetaUnused only [cr_i r_s13 (cr_atx (cr_atx (cr_atx f_o0 x_s1) x_s6) x_s13)]
      obtain ⟨c, h⟩ := fg_g_s h
      refine ⟨cr_vp (cr_n r_s13 f_a16) (cf_n (a := 2) F_s13 rfl (by decide) rfl) c, ?_⟩
      obtain ⟨s19, e_s19, h⟩ := fg_let_s h
      intro S_s19
      have r_s19 : c_R E g b_s13 s19 S_s19 := by rw [e_s19]; exact cr_si r_s13 f_a16 _ _
      have F_s19 : c_F s19 := by rw [e_s19]; exact cf_si F_s13 _ _
      have x_s19 : c_ext b_s13 s13 b_s13 s19 := by rw [e_s19]; exact cx_si _ _
      clear_value S_s19
      obtain ⟨q, q2⟩ := fg_ret h
      subst q
      subst q2
      exact hQ _ _ (cr_xt x_s1 (cr_xt x_s6 (cr_xt x_s13 x_s19))) r_s19 F_s19
    · have h := fg_if_e d h
      obtain ⟨q, q2⟩ := fg_ret h
      subst q
      subst q2
      exact hQ _ _ x_s1 r_s1 F_s1
set_option maxRecDepth 100000 in
set_option maxHeartbeats 4000000 in
theorem ft_X11_isHand {E : h_S} {g : h_G} {r : Int32} {t : h_S} {Q : Int32 → h_S → Prop} {b : Nat → Nat} {s S_s : h_S} {A_o0 : Nat} {x1 : Int32} (hR : c_R E g b s S_s) (hF : c_F s) (f_o0 : c_at b s 0 A_o0) (h : fn_X11_isHand x1 s = some (r, t)) (hQ : ∀ (b2 : Nat → Nat) (S2 : h_S), c_ext b s b2 t → c_R E g b2 t S2 → c_F t → Q r S2) : w_X11_isHand A_o0 x1 S_s Q := by
  unfold fn_X11_isHand at h
  unfold w_X11_isHand
  refine ⟨(cr_k hR f_o0).trans (cf_k (a := 0) hF rfl (by decide)), ?_⟩
  try simp -zeta -zetaUnused only [cr_i hR f_o0]
  obtain ⟨p3, s2, e_s2, h⟩ := fg_b_s h
  refine ft_X11_within hR hF e_s2 (fun b_s2 S_s2 x_s2 r_s2 F_s2 => ?_)
  obtain ⟨c, h⟩ := fg_g_s h
  refine ⟨c, ?_⟩
  obtain ⟨q, q2⟩ := fg_ret h
  subst q
  subst q2
  exact hQ _ _ x_s2 r_s2 F_s2
set_option maxRecDepth 100000 in
set_option maxHeartbeats 4000000 in
theorem ft_X11_writing {E : h_S} {g : h_G} {r : Int32} {t : h_S} {Q : Int32 → h_S → Prop} {b : Nat → Nat} {s S_s : h_S} {C0 D0 mc ms : Nat} {A_o0 : Nat} {x1 : Int32} (hR : c_R E g b s S_s) (hF : c_F s) (f_o0 : c_at b s 0 A_o0) (h : fn_X11_writing x1 s = some (r, t, C0, D0)) (hQ : ∀ (b2 : Nat → Nat) (S2 : h_S), c_ext b s b2 t → c_R E g b2 t S2 → c_F t → Q r S2) (hc : C0 ≤ mc) (hd : D0 ≤ ms) : w_X11_writing A_o0 x1 S_s mc ms Q := by
  unfold fn_X11_writing at h
  unfold w_X11_writing
  refine ⟨(cr_k hR f_o0).trans (cf_k (a := 0) hF rfl (by decide)), ?_⟩
  obtain ⟨p3, s2, e_s2, h⟩ := fg_b_s h
  refine ft_X11_isHand hR hF f_o0 e_s2 (fun b_s2 S_s2 x_s2 r_s2 F_s2 => ?_)
  refine fg_ite Iff.rfl (fun d => ?_) (fun d => ?_)
  · have h := fg_if_t d h
    obtain ⟨q, q2⟩ := fg_retc h
    subst q
    subst q2
    exact hQ _ _ x_s2 r_s2 F_s2
  · have h := fg_if_e d h
    refine ⟨(cr_k r_s2 (cr_atx f_o0 x_s2)).trans (cf_k (a := 0) F_s2 rfl (by decide)), ?_⟩
    obtain ⟨A_a6, w_a6, f_a6⟩ := cr_aos (cr_r r_s2 (cr_atx f_o0 x_s2) _) (cf_r (a := 0) (j := 4) (y := 3) F_s2 rfl)
    refine ⟨A_a6, w_a6, ?_⟩
    refine ⟨(cr_k r_s2 f_a6).trans (cf_k (a := 3) F_s2 rfl (by decide)), ?_⟩
    obtain ⟨p9, s8, e_s8, h⟩ := fg_b_s h
    refine ft_X7_isFull r_s2 F_s2 f_a6 e_s8 (fun b_s8 S_s8 x_s8 r_s8 F_s8 => ?_)
    refine fg_ite Iff.rfl (fun d => ?_) (fun d => ?_)
    · have h := fg_if_t d h
      refine ⟨(cr_k r_s8 (cr_atx (cr_atx f_o0 x_s2) x_s8)).trans (cf_k (a := 0) F_s8 rfl (by decide)), ?_⟩
      obtain ⟨A_a12, w_a12, f_a12⟩ := cr_aos (cr_r r_s8 (cr_atx (cr_atx f_o0 x_s2) x_s8) _) (cf_r (a := 0) (j := 4) (y := 3) F_s8 rfl)
      refine ⟨A_a12, w_a12, ?_⟩
      refine ⟨(cr_k r_s8 f_a12).trans (cf_k (a := 3) F_s8 rfl (by decide)), ?_⟩
      try simp -zeta -zetaUnused only [cr_i r_s8 (cr_atx (cr_atx f_o0 x_s2) x_s8)]
      obtain ⟨p15, s14, mc16, ms17, C_s14, D_s14, e_s14, h, q_s14, w_s14⟩ := fg_bc_s h
      obtain ⟨u1_s14, hc⟩ := fg_sp q_s14 hc
      obtain ⟨u2_s14, hd⟩ := fg_sp w_s14 hd
      refine ⟨mc16, ms17, u1_s14, u2_s14, ft_X7_begin r_s8 F_s8 f_a12 e_s14 (fun b_s14 S_s14 x_s14 r_s14 F_s14 => ?_) (Nat.le_refl _) (Nat.le_refl _)⟩
      refine ⟨(cr_k r_s14 (cr_atx (cr_atx (cr_atx f_o0 x_s2) x_s8) x_s14)).trans (cf_k (a := 0) F_s14 rfl (by decide)), ?_⟩
      obtain ⟨p22, s21, e_s21, h⟩ := fg_b_s h
      refine ft_X11_acted r_s14 F_s14 (cr_atx (cr_atx (cr_atx f_o0 x_s2) x_s8) x_s14) e_s21 (fun b_s21 S_s21 x_s21 r_s21 F_s21 => ?_)
      obtain ⟨q, q2⟩ := fg_retc h
      subst q
      subst q2
      exact hQ _ _ (cr_xt x_s2 (cr_xt x_s8 (cr_xt x_s14 x_s21))) r_s21 F_s21
    · have h := fg_if_e d h
      obtain ⟨q, q2⟩ := fg_retc h
      subst q
      subst q2
      exact hQ _ _ (cr_xt x_s2 x_s8) r_s8 F_s8
set_option maxRecDepth 100000 in
set_option maxHeartbeats 4000000 in
theorem ft_X11_isWriting {E : h_S} {g : h_G} {r : Int32} {t : h_S} {Q : Int32 → h_S → Prop} {b : Nat → Nat} {s S_s : h_S} {A_o0 : Nat} {x1 : Int32} (hR : c_R E g b s S_s) (hF : c_F s) (f_o0 : c_at b s 0 A_o0) (h : fn_X11_isWriting x1 s = some (r, t)) (hQ : ∀ (b2 : Nat → Nat) (S2 : h_S), c_ext b s b2 t → c_R E g b2 t S2 → c_F t → Q r S2) : w_X11_isWriting A_o0 x1 S_s Q := by
  unfold fn_X11_isWriting at h
  unfold w_X11_isWriting
  refine ⟨(cr_k hR f_o0).trans (cf_k (a := 0) hF rfl (by decide)), ?_⟩
  obtain ⟨A_a2, w_a2, f_a2⟩ := cr_aos (cr_r hR f_o0 _) (cf_r (a := 0) (j := 4) (y := 3) hF rfl)
  refine ⟨A_a2, w_a2, ?_⟩
  refine ⟨(cr_k hR f_a2).trans (cf_k (a := 3) hF rfl (by decide)), ?_⟩
  try simp -zeta -zetaUnused only [cr_i hR f_a2]
  obtain ⟨p5, s4, e_s4, h⟩ := fg_b_s h
  refine ft_X11_within hR hF e_s4 (fun b_s4 S_s4 x_s4 r_s4 F_s4 => ?_)
  obtain ⟨c, h⟩ := fg_g_s h
  refine ⟨c, ?_⟩
  obtain ⟨q, q2⟩ := fg_ret h
  subst q
  subst q2
  exact hQ _ _ x_s4 r_s4 F_s4
set_option maxRecDepth 100000 in
set_option maxHeartbeats 4000000 in
theorem ft_X11_takesAhead {E : h_S} {g : h_G} {r : Int32} {t : h_S} {Q : Int32 → h_S → Prop} {b : Nat → Nat} {s S_s : h_S} {C0 D0 mc ms : Nat} {A_o0 : Nat} {x1 : Int32} {x2 : Int32} (hR : c_R E g b s S_s) (hF : c_F s) (f_o0 : c_at b s 0 A_o0) (h : fn_X11_takesAhead x1 x2 s = some (r, t, C0, D0)) (hQ : ∀ (b2 : Nat → Nat) (S2 : h_S), c_ext b s b2 t → c_R E g b2 t S2 → c_F t → Q r S2) (hc : C0 ≤ mc) (hd : D0 ≤ ms) : w_X11_takesAhead A_o0 x1 x2 S_s mc ms Q := by
  unfold fn_X11_takesAhead at h
  unfold w_X11_takesAhead
  refine ⟨(cr_k hR f_o0).trans (cf_k (a := 0) hF rfl (by decide)), ?_⟩
  obtain ⟨p3, s2, e_s2, h⟩ := fg_b_s h
  refine ft_X11_isWriting hR hF f_o0 e_s2 (fun b_s2 S_s2 x_s2 r_s2 F_s2 => ?_)
  refine fg_ite Iff.rfl (fun d => ?_) (fun d => ?_)
  · have h := fg_if_t d h
    unfold w_X11_takesAhead_32
    unfold w_X11_takesAhead_33
    refine ⟨Or.inl rfl, ?_⟩
    obtain ⟨q, q2⟩ := fg_retc h
    subst q
    subst q2
    exact hQ _ _ x_s2 r_s2 F_s2
  · have h := fg_if_e d h
    refine fg_ite Iff.rfl (fun d => ?_) (fun d => ?_)
    · have h := fg_if_t d h
      unfold w_X11_takesAhead_32
      unfold w_X11_takesAhead_33
      refine ⟨Or.inl rfl, ?_⟩
      obtain ⟨q, q2⟩ := fg_retc h
      subst q
      subst q2
      exact hQ _ _ x_s2 r_s2 F_s2
    · have h := fg_if_e d h
      refine ⟨(cr_k r_s2 (cr_atx f_o0 x_s2)).trans (cf_k (a := 0) F_s2 rfl (by decide)), ?_⟩
      obtain ⟨A_a7, w_a7, f_a7⟩ := cr_aos (cr_r r_s2 (cr_atx f_o0 x_s2) _) (cf_r (a := 0) (j := 4) (y := 3) F_s2 rfl)
      refine ⟨A_a7, w_a7, ?_⟩
      refine ⟨(cr_k r_s2 f_a7).trans (cf_k (a := 3) F_s2 rfl (by decide)), ?_⟩
      try simp -zeta -zetaUnused only [cr_i r_s2 (cr_atx f_o0 x_s2)]
      obtain ⟨p10, s9, mc11, ms12, C_s9, D_s9, e_s9, h, q_s9, w_s9⟩ := fg_bc_s h
      obtain ⟨u1_s9, hc⟩ := fg_sp q_s9 hc
      obtain ⟨u2_s9, hd⟩ := fg_sp w_s9 hd
      refine ⟨mc11, ms12, u1_s9, u2_s9, ft_X7_sizeAsOf r_s2 F_s2 f_a7 e_s9 (fun b_s9 S_s9 x_s9 r_s9 F_s9 => ?_) (Nat.le_refl _) (Nat.le_refl _)⟩
      refine fg_ite Iff.rfl (fun d => ?_) (fun d => ?_)
      · have h := fg_if_t d h
        unfold w_X11_takesAhead_32
        unfold w_X11_takesAhead_33
        refine ⟨Or.inl rfl, ?_⟩
        obtain ⟨q, q2⟩ := fg_retc h
        subst q
        subst q2
        exact hQ _ _ (cr_xt x_s2 x_s9) r_s9 F_s9
      · have h := fg_if_e d h
        unfold w_X11_takesAhead_33
        refine ⟨Or.inr rfl, ?_⟩
        obtain ⟨q, q2⟩ := fg_retc h
        subst q
        subst q2
        exact hQ _ _ (cr_xt x_s2 x_s9) r_s9 F_s9
set_option maxRecDepth 100000 in
set_option maxHeartbeats 4000000 in
theorem ft_X11_failed {E : h_S} {g : h_G} {r : Int32} {t : h_S} {Q : Int32 → h_S → Prop} {b : Nat → Nat} {s S_s : h_S} {A_o0 : Nat} {x1 : Int32} (hR : c_R E g b s S_s) (hF : c_F s) (f_o0 : c_at b s 0 A_o0) (h : fn_X11_failed x1 s = some (r, t)) (hQ : ∀ (b2 : Nat → Nat) (S2 : h_S), c_ext b s b2 t → c_R E g b2 t S2 → c_F t → Q r S2) : w_X11_failed A_o0 x1 S_s Q := by
  unfold fn_X11_failed at h
  unfold w_X11_failed
  refine ⟨(cr_k hR f_o0).trans (cf_k (a := 0) hF rfl (by decide)), ?_⟩
  obtain ⟨s2, e_s2, h⟩ := fg_let_s h
  intro S_s2
  have r_s2 : c_R E g b s2 S_s2 := by rw [e_s2]; exact cr_si hR f_o0 _ _
  have F_s2 : c_F s2 := by rw [e_s2]; exact cf_si hF _ _
  have x_s2 : c_ext b s b s2 := by rw [e_s2]; exact cx_si _ _
  clear_value S_s2
  obtain ⟨q, q2⟩ := fg_ret h
  subst q
  subst q2
  exact hQ _ _ x_s2 r_s2 F_s2
set_option maxRecDepth 100000 in
set_option maxHeartbeats 4000000 in
theorem ft_X11_refusedCells {E : h_S} {g : h_G} {r : Int32} {t : h_S} {Q : Int32 → h_S → Prop} {b : Nat → Nat} {s S_s : h_S} {A_o0 : Nat} {x1 : Int32} {x2 : Int32} {x3 : Int32} {x4 : Int32} (hR : c_R E g b s S_s) (hF : c_F s) (f_o0 : c_at b s 0 A_o0) (h : fn_X11_refusedCells x1 x2 x3 x4 s = some (r, t)) (hQ : ∀ (b2 : Nat → Nat) (S2 : h_S), c_ext b s b2 t → c_R E g b2 t S2 → c_F t → Q r S2) : w_X11_refusedCells A_o0 x1 x2 x3 x4 S_s Q := by
  unfold fn_X11_refusedCells at h
  unfold w_X11_refusedCells
  obtain ⟨p2, s1, e_s1, h⟩ := fg_b_s h
  refine ft_X11_within hR hF e_s1 (fun b_s1 S_s1 x_s1 r_s1 F_s1 => ?_)
  refine fg_ite Iff.rfl (fun d => ?_) (fun d => ?_)
  · have h := fg_if_t d h
    obtain ⟨q, q2⟩ := fg_ret h
    subst q
    subst q2
    exact hQ _ _ x_s1 r_s1 F_s1
  · have h := fg_if_e d h
    refine ⟨(cr_k r_s1 (cr_atx f_o0 x_s1)).trans (cf_k (a := 0) F_s1 rfl (by decide)), ?_⟩
    obtain ⟨A_a5, w_a5, f_a5⟩ := cr_aos (cr_r r_s1 (cr_atx f_o0 x_s1) _) (cf_r (a := 0) (j := 9) (y := 9) F_s1 rfl)
    refine ⟨A_a5, w_a5, ?_⟩
    refine ⟨(cr_k r_s1 f_a5).trans (cf_k (a := 9) F_s1 rfl (by decide)), ?_⟩
    obtain ⟨c, h⟩ := fg_g_s h
    refine ⟨cr_vp (cr_n r_s1 f_a5) (cf_n (a := 9) F_s1 rfl (by decide) rfl) c, ?_⟩
    obtain ⟨a8, o_a8, h⟩ := fg_o_s h
    obtain ⟨A_a8, w_a8, f_a8⟩ := cr_aos (cr_r r_s1 f_a5 _) o_a8
    refine ⟨A_a8, w_a8, ?_⟩
    obtain ⟨c_a8_1, h⟩ := fg_g_s h
    refine ⟨(cr_k r_s1 f_a8).trans c_a8_1, ?_⟩
    obtain ⟨p11, s10, e_s10, h⟩ := fg_b_s h
    refine ft_X5_faultOf r_s1 F_s1 f_a8 e_s10 (fun b_s10 S_s10 x_s10 r_s10 F_s10 => ?_)
    refine fg_ite Iff.rfl (fun d => ?_) (fun d => ?_)
    · have h := fg_if_t d h
      unfold w_X11_refusedCells_41
      obtain ⟨q, q2⟩ := fg_ret h
      subst q
      subst q2
      exact hQ _ _ (cr_xt x_s1 x_s10) r_s10 F_s10
    · have h := fg_if_e d h
      refine ⟨(cr_k r_s10 (cr_atx (cr_atx f_o0 x_s1) x_s10)).trans (cf_k (a := 0) F_s10 rfl (by decide)), ?_⟩
      obtain ⟨p15, s14, e_s14, h⟩ := fg_b_s h
      refine ft_X11_failed r_s10 F_s10 (cr_atx (cr_atx f_o0 x_s1) x_s10) e_s14 (fun b_s14 S_s14 x_s14 r_s14 F_s14 => ?_)
      unfold w_X11_refusedCells_41
      obtain ⟨q, q2⟩ := fg_ret h
      subst q
      subst q2
      exact hQ _ _ (cr_xt x_s1 (cr_xt x_s10 x_s14)) r_s14 F_s14
set_option maxRecDepth 100000 in
set_option maxHeartbeats 4000000 in
theorem ft_X11_put_127b {E : h_S} {g : h_G} {r : Int32} {t : h_S} {Q : Int32 → h_S → Prop} {K127 : Int32 → Int32 → Int32 → Int32 → Int32 → Int32 → h_S → fg_R (Int32) h_S} {WK127 : Nat → Int32 → Int32 → Int32 → Int32 → Int32 → Int32 → h_S → Nat → Nat → Prop} (hK127 : ∀ {b : Nat → Nat} {s S_s : h_S} {C D bc bs : Nat} {A_o0 : Nat} {x1 : Int32} {x3 : Int32} {x5 : Int32} {x6 : Int32} {x8 : Int32} {x9 : Int32}, c_R E g b s S_s → c_F s → c_at b s 0 A_o0 → K127 x1 x3 x5 x6 x8 x9 s = some (r, t, C, D) → (∀ (b2 : Nat → Nat) (S2 : h_S), c_ext b s b2 t → c_R E g b2 t S2 → c_F t → Q r S2) → C ≤ bc → D ≤ bs → WK127 A_o0 x1 x3 x5 x6 x8 x9 S_s bc bs) {b : Nat → Nat} {s S_s : h_S} {C0 D0 bc bs : Nat} {A_o0 : Nat} {x1 : Int32} {x3 : Int32} {x5 : Int32} {x6 : Int32} {x8 : Int32} {x9 : Int32} (hR : c_R E g b s S_s) (hF : c_F s) (f_o0 : c_at b s 0 A_o0) (h : fn_X11_put_127b K127 x1 x3 x5 x6 x8 x9 s = some (r, t, C0, D0)) (hQ : ∀ (b2 : Nat → Nat) (S2 : h_S), c_ext b s b2 t → c_R E g b2 t S2 → c_F t → Q r S2) (hc : C0 ≤ bc) (hd : D0 ≤ bs) : w_X11_put_127b g Q WK127 A_o0 x1 x3 x5 x6 x8 x9 S_s bc bs := by
  unfold fn_X11_put_127b at h
  unfold w_X11_put_127b
  refine fg_ite Iff.rfl (fun d => ?_) (fun d => ?_)
  · have h := fg_if_t d h
    refine ⟨(cr_k hR f_o0).trans (cf_k (a := 0) hF rfl (by decide)), ?_⟩
    obtain ⟨p4, s3, e_s3, h⟩ := fg_b_s h
    refine ft_X11_acted hR hF f_o0 e_s3 (fun b_s3 S_s3 x_s3 r_s3 F_s3 => ?_)
    obtain ⟨q, q2⟩ := fg_retc h
    subst q
    subst q2
    exact hQ _ _ x_s3 r_s3 F_s3
  · have h := fg_if_e d h
    refine ⟨(cr_k hR f_o0).trans (cf_k (a := 0) hF rfl (by decide)), ?_⟩
    obtain ⟨A_a6, w_a6, f_a6⟩ := cr_aos (cr_r hR f_o0 _) (cf_r (a := 0) (j := 9) (y := 9) hF rfl)
    refine ⟨A_a6, w_a6, ?_⟩
    refine ⟨(cr_k hR f_a6).trans (cf_k (a := 9) hF rfl (by decide)), ?_⟩
    obtain ⟨c, h⟩ := fg_g_s h
    refine ⟨cr_vp (cr_n hR f_a6) (cf_n (a := 9) hF rfl (by decide) rfl) c, ?_⟩
    obtain ⟨a9, o_a9, h⟩ := fg_o_s h
    obtain ⟨A_a9, w_a9, f_a9⟩ := cr_aos (cr_r hR f_a6 _) o_a9
    refine ⟨A_a9, w_a9, ?_⟩
    obtain ⟨c_a9_1, h⟩ := fg_g_s h
    refine ⟨(cr_k hR f_a9).trans c_a9_1, ?_⟩
    obtain ⟨p12, s11, e_s11, h⟩ := fg_b_s h
    refine ft_X5_cellAt hR hF f_a9 e_s11 (fun b_s11 S_s11 x_s11 r_s11 F_s11 => ?_)
    refine ⟨(cr_k r_s11 (cr_atx f_o0 x_s11)).trans (cf_k (a := 0) F_s11 rfl (by decide)), ?_⟩
    obtain ⟨A_a14, w_a14, f_a14⟩ := cr_aos (cr_r hR f_o0 _) (cf_r (a := 0) (j := 4) (y := 3) hF rfl)
    refine ⟨A_a14, w_a14, ?_⟩
    refine ⟨(cr_k r_s11 (cr_atx f_a14 x_s11)).trans (cf_k (a := 3) F_s11 rfl (by decide)), ?_⟩
    try simp -zeta -zetaUnused only [cr_i r_s11 (cr_atx f_o0 x_s11)]
    obtain ⟨u_, s16, mc18, ms19, C_s16, D_s16, e_s16, h, q_s16, w_s16⟩ := fg_bc_s h
    obtain ⟨u1_s16, hc⟩ := fg_sp q_s16 hc
    obtain ⟨u2_s16, hd⟩ := fg_sp w_s16 hd
    refine ⟨mc18, ms19, u1_s16, u2_s16, ft_X7_addWord r_s11 F_s11 (cr_atx f_a14 x_s11) e_s16 (fun b_s16 S_s16 x_s16 r_s16 F_s16 => ?_) (Nat.le_refl _) (Nat.le_refl _)⟩
    exact hK127 r_s16 F_s16 (cr_atx (cr_atx f_o0 x_s11) x_s16) h (fun b2 S2 x2 => hQ b2 S2 (cr_xt (cr_xt x_s11 x_s16) x2)) hc hd
