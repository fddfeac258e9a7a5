set_option maxRecDepth 100000 in
set_option maxHeartbeats 4000000 in
theorem ft_X11_stamp {E : h_S} {g : h_G} {r : Int32} {t : h_S} {Q : Int32 → h_S → Prop} {b : Nat → Nat} {s S_s : h_S} {A_o0 : Nat} {x1 : Int32} (hR : c_R E g b s S_s) (hF : c_F s) (f_o0 : c_at b s 0 A_o0) (h : fn_X11_stamp x1 s = some (r, t)) (hQ : ∀ (b2 : Nat → Nat) (S2 : h_S), c_ext b s b2 t → c_R E g b2 t S2 → c_F t → Q r S2) : w_X11_stamp A_o0 x1 S_s Q := by
  unfold fn_X11_stamp at h
  unfold w_X11_stamp
  refine ⟨(cr_k hR f_o0).trans (cf_k (a := 0) hF rfl (by decide)), ?_⟩
  obtain ⟨p3, s2, e_s2, h⟩ := fg_b_s h
  refine ft_X11_isMoment hR hF f_o0 e_s2 (fun b_s2 S_s2 x_s2 r_s2 F_s2 => ?_)
  refine fg_ite Iff.rfl (fun d => ?_) (fun d => ?_)
  · have h := fg_if_t d h
    unfold w_X11_stamp_18
    obtain ⟨q, q2⟩ := fg_ret h
    subst q
    subst q2
    exact hQ _ _ x_s2 r_s2 F_s2
  · have h := fg_if_e d h
    refine ⟨(cr_k r_s2 (cr_atx f_o0 x_s2)).trans (cf_k (a := 0) F_s2 rfl (by decide)), ?_⟩
    obtain ⟨A_a6, w_a6, f_a6⟩ := cr_aos (cr_r r_s2 (cr_atx f_o0 x_s2) _) (cf_r (a := 0) (j := 2) (y := 1) F_s2 rfl)
    refine ⟨A_a6, w_a6, ?_⟩
    refine ⟨(cr_k r_s2 f_a6).trans (cf_k (a := 1) F_s2 rfl (by decide)), ?_⟩
    obtain ⟨c, h⟩ := fg_g_s h
    refine ⟨cr_vp (cr_n r_s2 f_a6) (cf_n (a := 1) F_s2 rfl (by decide) rfl) c, ?_⟩
    unfold w_X11_stamp_18
    try simp -zeta -zetaUnused only [cr_i r_s2 f_a6]
    obtain ⟨q, q2⟩ := fg_ret h
    subst q
    subst q2
    exact hQ _ _ x_s2 r_s2 F_s2
set_option maxRecDepth 100000 in
set_option maxHeartbeats 4000000 in
theorem ft_X11_sheet {E : h_S} {g : h_G} {r : Int32} {t : h_S} {Q : Int32 → h_S → Prop} {b : Nat → Nat} {s S_s : h_S} {A_o0 : Nat} {x1 : Int32} {x2 : Int32} {x3 : Int32} (hR : c_R E g b s S_s) (hF : c_F s) (f_o0 : c_at b s 0 A_o0) (h : fn_X11_sheet x1 x2 x3 s = some (r, t)) (hQ : ∀ (b2 : Nat → Nat) (S2 : h_S), c_ext b s b2 t → c_R E g b2 t S2 → c_F t → Q r S2) : w_X11_sheet A_o0 x1 x2 x3 S_s Q := by
  unfold fn_X11_sheet at h
  unfold w_X11_sheet
  refine ⟨(cr_k hR f_o0).trans (cf_k (a := 0) hF rfl (by decide)), ?_⟩
  obtain ⟨s2, e_s2, h⟩ := fg_let_s h
  intro S_s2
  have r_s2 : c_R E g b s2 S_s2 := by rw [e_s2]; exact cr_si hR f_o0 _ _
  have F_s2 : c_F s2 := by rw [e_s2]; exact cf_si hF _ _
  have x_s2 : c_ext b s b s2 := by rw [e_s2]; exact cx_si _ _
  clear_value S_s2
  obtain ⟨p4, s3, e_s3, h⟩ := fg_b_s h
  refine ft_X11_within r_s2 F_s2 e_s3 (fun b_s3 S_s3 x_s3 r_s3 F_s3 => ?_)
  refine fg_ite Iff.rfl (fun d => ?_) (fun d => ?_)
  · have h := fg_if_t d h
    obtain ⟨q, q2⟩ := fg_ret h
    subst q
    subst q2
    exact hQ _ _ (cr_xt x_s2 x_s3) r_s3 F_s3
  · have h := fg_if_e d h
    obtain ⟨p7, s6, e_s6, h⟩ := fg_b_s h
    refine ft_X11_within r_s3 F_s3 e_s6 (fun b_s6 S_s6 x_s6 r_s6 F_s6 => ?_)
    refine fg_ite Iff.rfl (fun d => ?_) (fun d => ?_)
    · have h := fg_if_t d h
      unfold w_X11_sheet_29
      obtain ⟨q, q2⟩ := fg_ret h
      subst q
      subst q2
      exact hQ _ _ (cr_xt x_s2 (cr_xt x_s3 x_s6)) r_s6 F_s6
    · have h := fg_if_e d h
      refine fg_ite Iff.rfl (fun d => ?_) (fun d => ?_)
      · have h := fg_if_t d h
        refine fg_ite Iff.rfl (fun d => ?_) (fun d => ?_)
        · have h := fg_if_t d h
          refine ⟨(cr_k r_s6 (cr_atx (cr_atx (cr_atx f_o0 x_s2) x_s3) x_s6)).trans (cf_k (a := 0) F_s6 rfl (by decide)), ?_⟩
          obtain ⟨A_a12, w_a12, f_a12⟩ := cr_aos (cr_r r_s6 (cr_atx (cr_atx (cr_atx f_o0 x_s2) x_s3) x_s6) _) (cf_r (a := 0) (j := 9) (y := 9) F_s6 rfl)
          refine ⟨A_a12, w_a12, ?_⟩
          refine ⟨(cr_k r_s6 f_a12).trans (cf_k (a := 9) F_s6 rfl (by decide)), ?_⟩
          obtain ⟨c, h⟩ := fg_g_s h
          refine ⟨cr_vp (cr_n r_s6 f_a12) (cf_n (a := 9) F_s6 rfl (by decide) rfl) c, ?_⟩
          obtain ⟨a15, o_a15, h⟩ := fg_o_s h
          obtain ⟨A_a15, w_a15, f_a15⟩ := cr_aos (cr_r r_s6 f_a12 _) o_a15
          refine ⟨A_a15, w_a15, ?_⟩
          obtain ⟨c_a15_1, h⟩ := fg_g_s h
          refine ⟨(cr_k r_s6 f_a15).trans c_a15_1, ?_⟩
          obtain ⟨u_, s17, e_s17, h⟩ := fg_b_s h
          refine ft_X5_renew r_s6 F_s6 f_a15 e_s17 (fun b_s17 S_s17 x_s17 r_s17 F_s17 => ?_)
          obtain ⟨q, q2⟩ := fg_ret h
          subst q
          subst q2
          exact hQ _ _ (cr_xt x_s2 (cr_xt x_s3 (cr_xt x_s6 x_s17))) r_s17 F_s17
        · have h := fg_if_e d h
          refine ⟨(cr_k r_s6 (cr_atx (cr_atx (cr_atx f_o0 x_s2) x_s3) x_s6)).trans (cf_k (a := 0) F_s6 rfl (by decide)), ?_⟩
          obtain ⟨p21, s20, e_s20, h⟩ := fg_b_s h
          refine ft_X11_failed r_s6 F_s6 (cr_atx (cr_atx (cr_atx f_o0 x_s2) x_s3) x_s6) e_s20 (fun b_s20 S_s20 x_s20 r_s20 F_s20 => ?_)
          obtain ⟨q, q2⟩ := fg_ret h
          subst q
          subst q2
          exact hQ _ _ (cr_xt x_s2 (cr_xt x_s3 (cr_xt x_s6 x_s20))) r_s20 F_s20
      · have h := fg_if_e d h
        unfold w_X11_sheet_29
        obtain ⟨q, q2⟩ := fg_ret h
        subst q
        subst q2
        exact hQ _ _ (cr_xt x_s2 (cr_xt x_s3 x_s6)) r_s6 F_s6
set_option maxRecDepth 100000 in
set_option maxHeartbeats 4000000 in
theorem ft_X11_lose_27 {E : h_S} {g : h_G} {r : Int32} {t : h_S} {Q : Int32 → h_S → Prop} {b : Nat → Nat} {s S_s : h_S} {A_o0 : Nat} {x1 : Int32} {y0 : Int32} (hR : c_R E g b s S_s) (hF : c_F s) (f_o0 : c_at b s 0 A_o0) (h : fn_X11_lose_27 x1 y0 s = some (r, t)) (hQ : ∀ (b2 : Nat → Nat) (S2 : h_S), c_ext b s b2 t → c_R E g b2 t S2 → c_F t → Q r S2) : w_X11_lose_27 Q A_o0 x1 y0 S_s := by
  unfold fn_X11_lose_27 at h
  unfold w_X11_lose_27
  refine ⟨(cr_k hR f_o0).trans (cf_k (a := 0) hF rfl (by decide)), ?_⟩
  obtain ⟨A_a2, w_a2, f_a2⟩ := cr_aos (cr_r hR f_o0 _) (cf_r (a := 0) (j := 9) (y := 9) hF rfl)
  refine ⟨A_a2, w_a2, ?_⟩
  refine ⟨(cr_k hR f_a2).trans (cf_k (a := 9) hF rfl (by decide)), ?_⟩
  obtain ⟨c, h⟩ := fg_g_s h
  refine ⟨cr_vp (cr_n hR f_a2) (cf_n (a := 9) hF rfl (by decide) rfl) c, ?_⟩
  obtain ⟨a5, o_a5, h⟩ := fg_o_s h
  obtain ⟨A_a5, w_a5, f_a5⟩ := cr_aos (cr_r hR f_a2 _) o_a5
  refine ⟨A_a5, w_a5, ?_⟩
  obtain ⟨c_a5_1, h⟩ := fg_g_s h
  refine ⟨(cr_k hR f_a5).trans c_a5_1, ?_⟩
  obtain ⟨s7, e_s7, h⟩ := fg_let_s h
  intro S_s7
  have r_s7 : c_R E g b s7 S_s7 := by rw [e_s7]; exact cr_si hR f_a5 _ _
  have F_s7 : c_F s7 := by rw [e_s7]; exact cf_si hF _ _
  have x_s7 : c_ext b s b s7 := by rw [e_s7]; exact cx_si _ _
  clear_value S_s7
  obtain ⟨q, q2⟩ := fg_ret h
  subst q
  subst q2
  exact hQ _ _ x_s7 r_s7 F_s7
set_option maxRecDepth 100000 in
set_option maxHeartbeats 4000000 in
theorem ft_X11_lose {E : h_S} {g : h_G} {r : Int32} {t : h_S} {Q : Int32 → h_S → Prop} {b : Nat → Nat} {s S_s : h_S} {A_o0 : Nat} {x1 : Int32} (hR : c_R E g b s S_s) (hF : c_F s) (f_o0 : c_at b s 0 A_o0) (h : fn_X11_lose x1 s = some (r, t)) (hQ : ∀ (b2 : Nat → Nat) (S2 : h_S), c_ext b s b2 t → c_R E g b2 t S2 → c_F t → Q r S2) : w_X11_lose A_o0 x1 S_s Q := by
  unfold fn_X11_lose at h
  unfold w_X11_lose
  obtain ⟨p2, s1, e_s1, h⟩ := fg_b_s h
  refine ft_X11_within hR hF e_s1 (fun b_s1 S_s1 x_s1 r_s1 F_s1 => ?_)
  refine fg_ite Iff.rfl (fun d => ?_) (fun d => ?_)
  · have h := fg_if_t d h
    obtain ⟨q, q2⟩ := fg_ret h
    subst q
    subst q2
    exact hQ _ _ x_s1 r_s1 F_s1
  · have h := fg_if_e d h
    refine ⟨(cr_k r_s1 (cr_atx f_o0 x_s1)).trans (cf_k (a := 0) F_s1 rfl (by decide)), ?_⟩
    obtain ⟨A_a5, w_a5, f_a5⟩ := cr_aos (cr_r r_s1 (cr_atx f_o0 x_s1) _) (cf_r (a := 0) (j := 9) (y := 9) F_s1 rfl)
    refine ⟨A_a5, w_a5, ?_⟩
    refine ⟨(cr_k r_s1 f_a5).trans (cf_k (a := 9) F_s1 rfl (by decide)), ?_⟩
    obtain ⟨c, h⟩ := fg_g_s h
    refine ⟨cr_vp (cr_n r_s1 f_a5) (cf_n (a := 9) F_s1 rfl (by decide) rfl) c, ?_⟩
    obtain ⟨a8, o_a8, h⟩ := fg_o_s h
    obtain ⟨A_a8, w_a8, f_a8⟩ := cr_aos (cr_r r_s1 f_a5 _) o_a8
    refine ⟨A_a8, w_a8, ?_⟩
    obtain ⟨c_a8_1, h⟩ := fg_g_s h
    refine ⟨(cr_k r_s1 f_a8).trans c_a8_1, ?_⟩
    obtain ⟨p11, s10, e_s10, h⟩ := fg_b_s h
    refine ft_X5_isNothing r_s1 F_s1 f_a8 e_s10 (fun b_s10 S_s10 x_s10 r_s10 F_s10 => ?_)
    refine fg_ite Iff.rfl (fun d => ?_) (fun d => ?_)
    · have h := fg_if_t d h
      exact ft_X11_lose_27 r_s10 F_s10 (cr_atx (cr_atx f_o0 x_s1) x_s10) h (fun b2 S2 x2 => hQ b2 S2 (cr_xt (cr_xt x_s1 x_s10) x2))
    · have h := fg_if_e d h
      exact ft_X11_lose_27 r_s10 F_s10 (cr_atx (cr_atx f_o0 x_s1) x_s10) h (fun b2 S2 x2 => hQ b2 S2 (cr_xt (cr_xt x_s1 x_s10) x2))
set_option maxRecDepth 100000 in
set_option maxHeartbeats 4000000 in
theorem ft_X11_set {E : h_S} {g : h_G} {r : Int32} {t : h_S} {Q : Int32 → h_S → Prop} {b : Nat → Nat} {s S_s : h_S} {A_o0 : Nat} {x1 : Int32} {x2 : Int32} {x3 : Int32} (hR : c_R E g b s S_s) (hF : c_F s) (f_o0 : c_at b s 0 A_o0) (h : fn_X11_set x1 x2 x3 s = some (r, t)) (hQ : ∀ (b2 : Nat → Nat) (S2 : h_S), c_ext b s b2 t → c_R E g b2 t S2 → c_F t → Q r S2) : w_X11_set A_o0 x1 x2 x3 S_s Q := by
  unfold fn_X11_set at h
  unfold w_X11_set
  refine ⟨(cr_k hR f_o0).trans (cf_k (a := 0) hF rfl (by decide)), ?_⟩
  obtain ⟨s2, e_s2, h⟩ := fg_let_s h
  intro S_s2
  have r_s2 : c_R E g b s2 S_s2 := by rw [e_s2]; exact cr_si hR f_o0 _ _
  have F_s2 : c_F s2 := by rw [e_s2]; exact cf_si hF _ _
  have x_s2 : c_ext b s b s2 := by rw [e_s2]; exact cx_si _ _
  clear_value S_s2
  obtain ⟨p4, s3, e_s3, h⟩ := fg_b_s h
  refine ft_X11_within r_s2 F_s2 e_s3 (fun b_s3 S_s3 x_s3 r_s3 F_s3 => ?_)
  refine fg_ite Iff.rfl (fun d => ?_) (fun d => ?_)
  · have h := fg_if_t d h
    obtain ⟨q, q2⟩ := fg_ret h
    subst q
    subst q2
    exact hQ _ _ (cr_xt x_s2 x_s3) r_s3 F_s3
  · have h := fg_if_e d h
    refine ⟨(cr_k r_s3 (cr_atx (cr_atx f_o0 x_s2) x_s3)).trans (cf_k (a := 0) F_s3 rfl (by decide)), ?_⟩
    obtain ⟨A_a7, w_a7, f_a7⟩ := cr_aos (cr_r r_s3 (cr_atx (cr_atx f_o0 x_s2) x_s3) _) (cf_r (a := 0) (j := 9) (y := 9) F_s3 rfl)
    refine ⟨A_a7, w_a7, ?_⟩
    refine ⟨(cr_k r_s3 f_a7).trans (cf_k (a := 9) F_s3 rfl (by decide)), ?_⟩
    obtain ⟨c, h⟩ := fg_g_s h
    refine ⟨cr_vp (cr_n r_s3 f_a7) (cf_n (a := 9) F_s3 rfl (by decide) rfl) c, ?_⟩
    obtain ⟨A_a10, w_a10, f_a10⟩ := cr_aos (cr_r r_s3 (cr_atx (cr_atx f_o0 x_s2) x_s3) _) (cf_r (a := 0) (j := 9) (y := 9) F_s3 rfl)
    refine ⟨A_a10, w_a10, ?_⟩
    refine ⟨(cr_k r_s3 f_a10).trans (cf_k (a := 9) F_s3 rfl (by decide)), ?_⟩
    obtain ⟨c, h⟩ := fg_g_s h
    refine ⟨cr_vp (cr_n r_s3 f_a10) (cf_n (a := 9) F_s3 rfl (by decide) rfl) c, ?_⟩
    obtain ⟨a13, o_a13, h⟩ := fg_o_s h
    obtain ⟨A_a13, w_a13, f_a13⟩ := cr_aos (cr_r r_s3 f_a10 _) o_a13
    refine ⟨A_a13, w_a13, ?_⟩
    obtain ⟨c_a13_1, h⟩ := fg_g_s h
    refine ⟨(cr_k r_s3 f_a13).trans c_a13_1, ?_⟩
    obtain ⟨a15, o_a15, h⟩ := fg_o_s h
    obtain ⟨A_a15, w_a15, f_a15⟩ := cr_aos (cr_r r_s3 f_a7 _) o_a15
    refine ⟨A_a15, w_a15, ?_⟩
    obtain ⟨c_a15_2, h⟩ := fg_g_s h
    refine ⟨(cr_k r_s3 f_a15).trans c_a15_2, ?_⟩
    try simp -zeta -zetaUnused only [cr_i r_s3 f_a13]
    obtain ⟨p18, s17, e_s17, h⟩ := fg_b_s h
    refine ft_X5_faultOf r_s3 F_s3 f_a15 e_s17 (fun b_s17 S_s17 x_s17 r_s17 F_s17 => ?_)
    refine fg_ite Iff.rfl (fun d => ?_) (fun d => ?_)
    · have h := fg_if_t d h
      refine ⟨(cr_k r_s17 (cr_atx (cr_atx (cr_atx f_o0 x_s2) x_s3) x_s17)).trans (cf_k (a := 0) F_s17 rfl (by decide)), ?_⟩
      obtain ⟨A_a21, w_a21, f_a21⟩ := cr_aos (cr_r r_s17 (cr_atx (cr_atx (cr_atx f_o0 x_s2) x_s3) x_s17) _) (cf_r (a := 0) (j := 9) (y := 9) F_s17 rfl)
      refine ⟨A_a21, w_a21, ?_⟩
      refine ⟨(cr_k r_s17 f_a21).trans (cf_k (a := 9) F_s17 rfl (by decide)), ?_⟩
      obtain ⟨c, h⟩ := fg_g_s h
      refine ⟨cr_vp (cr_n r_s17 f_a21) (cf_n (a := 9) F_s17 rfl (by decide) rfl) c, ?_⟩
      obtain ⟨a24, o_a24, h⟩ := fg_o_s h
      obtain ⟨A_a24, w_a24, f_a24⟩ := cr_aos (cr_r r_s17 f_a21 _) o_a24
      refine ⟨A_a24, w_a24, ?_⟩
      obtain ⟨c_a24_3, h⟩ := fg_g_s h
      refine ⟨(cr_k r_s17 f_a24).trans c_a24_3, ?_⟩
      obtain ⟨u_, s26, e_s26, h⟩ := fg_b_s h
      refine ft_X5_write r_s17 F_s17 f_a24 e_s26 (fun b_s26 S_s26 x_s26 r_s26 F_s26 => ?_)
      obtain ⟨q, q2⟩ := fg_ret h
      subst q
      subst q2
      exact hQ _ _ (cr_xt x_s2 (cr_xt x_s3 (cr_xt x_s17 x_s26))) r_s26 F_s26
    · have h := fg_if_e d h
      refine ⟨(cr_k r_s17 (cr_atx (cr_atx (cr_atx f_o0 x_s2) x_s3) x_s17)).trans (cf_k (a := 0) F_s17 rfl (by decide)), ?_⟩
      obtain ⟨p30, s29, e_s29, h⟩ := fg_b_s h
      refine ft_X11_failed r_s17 F_s17 (cr_atx (cr_atx (cr_atx f_o0 x_s2) x_s3) x_s17) e_s29 (fun b_s29 S_s29 x_s29 r_s29 F_s29 => ?_)
      obtain ⟨q, q2⟩ := fg_ret h
      subst q
      subst q2
      exact hQ _ _ (cr_xt x_s2 (cr_xt x_s3 (cr_xt x_s17 x_s29))) r_s29 F_s29
set_option maxRecDepth 100000 in
set_option maxHeartbeats 4000000 in
theorem ft_X11_cell {E : h_S} {g : h_G} {r : Int64} {t : h_S} {Q : Int64 → h_S → Prop} {b : Nat → Nat} {s S_s : h_S} {A_o0 : Nat} {x1 : Int32} {x2 : Int32} {x3 : Int32} (hR : c_R E g b s S_s) (hF : c_F s) (f_o0 : c_at b s 0 A_o0) (h : fn_X11_cell x1 x2 x3 s = some (r, t)) (hQ : ∀ (b2 : Nat → Nat) (S2 : h_S), c_ext b s b2 t → c_R E g b2 t S2 → c_F t → Q r S2) : w_X11_cell A_o0 x1 x2 x3 S_s Q := by
  unfold fn_X11_cell at h
  unfold w_X11_cell
  refine ⟨(cr_k hR f_o0).trans (cf_k (a := 0) hF rfl (by decide)), ?_⟩
  obtain ⟨s2, e_s2, h⟩ := fg_let_s h
  intro S_s2
  have r_s2 : c_R E g b s2 S_s2 := by rw [e_s2]; exact cr_si hR f_o0 _ _
  have F_s2 : c_F s2 := by rw [e_s2]; exact cf_si hF _ _
  have x_s2 : c_ext b s b s2 := by rw [e_s2]; exact cx_si _ _
  clear_value S_s2
  obtain ⟨p4, s3, e_s3, h⟩ := fg_b_s h
  refine ft_X11_within r_s2 F_s2 e_s3 (fun b_s3 S_s3 x_s3 r_s3 F_s3 => ?_)
  refine fg_ite Iff.rfl (fun d => ?_) (fun d => ?_)
  · have h := fg_if_t d h
    unfold w_X11_cell_24
    obtain ⟨q, q2⟩ := fg_ret h
    subst q
    subst q2
    exact hQ _ _ (cr_xt x_s2 x_s3) r_s3 F_s3
  · have h := fg_if_e d h
    refine ⟨(cr_k r_s3 (cr_atx (cr_atx f_o0 x_s2) x_s3)).trans (cf_k (a := 0) F_s3 rfl (by decide)), ?_⟩
    obtain ⟨p8, s7, e_s7, h⟩ := fg_b_s h
    refine ft_X11_refusedCells r_s3 F_s3 (cr_atx (cr_atx f_o0 x_s2) x_s3) e_s7 (fun b_s7 S_s7 x_s7 r_s7 F_s7 => ?_)
    refine fg_ite Iff.rfl (fun d => ?_) (fun d => ?_)
    · have h := fg_if_t d h
      refine ⟨(cr_k r_s7 (cr_atx (cr_atx (cr_atx f_o0 x_s2) x_s3) x_s7)).trans (cf_k (a := 0) F_s7 rfl (by decide)), ?_⟩
      obtain ⟨A_a11, w_a11, f_a11⟩ := cr_aos (cr_r r_s7 (cr_atx (cr_atx (cr_atx f_o0 x_s2) x_s3) x_s7) _) (cf_r (a := 0) (j := 9) (y := 9) F_s7 rfl)
      refine ⟨A_a11, w_a11, ?_⟩
      refine ⟨(cr_k r_s7 f_a11).trans (cf_k (a := 9) F_s7 rfl (by decide)), ?_⟩
      obtain ⟨c, h⟩ := fg_g_s h
      refine ⟨cr_vp (cr_n r_s7 f_a11) (cf_n (a := 9) F_s7 rfl (by decide) rfl) c, ?_⟩
      obtain ⟨a14, o_a14, h⟩ := fg_o_s h
      obtain ⟨A_a14, w_a14, f_a14⟩ := cr_aos (cr_r r_s7 f_a11 _) o_a14
      refine ⟨A_a14, w_a14, ?_⟩
      obtain ⟨c_a14_1, h⟩ := fg_g_s h
      refine ⟨(cr_k r_s7 f_a14).trans c_a14_1, ?_⟩
      obtain ⟨p17, s16, e_s16, h⟩ := fg_b_s h
      refine ft_X5_cellAt r_s7 F_s7 f_a14 e_s16 (fun b_s16 S_s16 x_s16 r_s16 F_s16 => ?_)
      obtain ⟨q, q2⟩ := fg_ret h
      subst q
      subst q2
      exact hQ _ _ (cr_xt x_s2 (cr_xt x_s3 (cr_xt x_s7 x_s16))) r_s16 F_s16
    · have h := fg_if_e d h
      unfold w_X11_cell_24
      obtain ⟨q, q2⟩ := fg_ret h
      subst q
      subst q2
      exact hQ _ _ (cr_xt x_s2 (cr_xt x_s3 x_s7)) r_s7 F_s7
set_option maxRecDepth 100000 in
set_option maxHeartbeats 4000000 in
theorem ft_X11_copy_55 {E : h_S} {g : h_G} {r : Int32} {t : h_S} {Q : Int32 → h_S → Prop} {b : Nat → Nat} {s S_s : h_S} {A_o0 : Nat} (hR : c_R E g b s S_s) (hF : c_F s) (f_o0 : c_at b s 0 A_o0) (h : fn_X11_copy_55 s = some (r, t)) (hQ : ∀ (b2 : Nat → Nat) (S2 : h_S), c_ext b s b2 t → c_R E g b2 t S2 → c_F t → Q r S2) : w_X11_copy_55 Q A_o0 S_s := by
  unfold fn_X11_copy_55 at h
  unfold w_X11_copy_55
  refine ⟨(cr_k hR f_o0).trans (cf_k (a := 0) hF rfl (by decide)), ?_⟩
  obtain ⟨p3, s2, e_s2, h⟩ := fg_b_s h
  refine ft_X11_failed hR hF f_o0 e_s2 (fun b_s2 S_s2 x_s2 r_s2 F_s2 => ?_)
  obtain ⟨q, q2⟩ := fg_ret h
  subst q
  subst q2
  exact hQ _ _ x_s2 r_s2 F_s2
set_option maxRecDepth 100000 in
set_option maxHeartbeats 4000000 in
theorem ft_X11_copy_103 {E : h_S} {g : h_G} {r : Int32} {t : h_S} {Q : Int32 → h_S → Prop} {b : Nat → Nat} {s S_s : h_S} {A_o0 : Nat} (hR : c_R E g b s S_s) (hF : c_F s) (f_o0 : c_at b s 0 A_o0) (h : fn_X11_copy_103 s = some (r, t)) (hQ : ∀ (b2 : Nat → Nat) (S2 : h_S), c_ext b s b2 t → c_R E g b2 t S2 → c_F t → Q r S2) : w_X11_copy_103 Q A_o0 S_s := by
  unfold fn_X11_copy_103 at h
  unfold w_X11_copy_103
  refine ⟨(cr_k hR f_o0).trans (cf_k (a := 0) hF rfl (by decide)), ?_⟩
  obtain ⟨p3, s2, e_s2, h⟩ := fg_b_s h
  refine ft_X11_failed hR hF f_o0 e_s2 (fun b_s2 S_s2 x_s2 r_s2 F_s2 => ?_)
  obtain ⟨q, q2⟩ := fg_ret h
  subst q
  subst q2
  exact hQ _ _ x_s2 r_s2 F_s2
set_option maxRecDepth 100000 in
set_option maxHeartbeats 4000000 in
theorem ft_X11_copy {E : h_S} {g : h_G} {r : Int32} {t : h_S} {Q : Int32 → h_S → Prop} {b : Nat → Nat} {s S_s : h_S} {A_o0 : Nat} {x1 : Int32} {x2 : Int32} {x3 : Int32} {x4 : Int32} {x5 : Int32} (hR : c_R E g b s S_s) (hF : c_F s) (f_o0 : c_at b s 0 A_o0) (h : fn_X11_copy x1 x2 x3 x4 x5 s = some (r, t)) (hQ : ∀ (b2 : Nat → Nat) (S2 : h_S), c_ext b s b2 t → c_R E g b2 t S2 → c_F t → Q r S2) : w_X11_copy A_o0 x1 x2 x3 x4 x5 S_s Q := by
  unfold fn_X11_copy at h
  unfold w_X11_copy
  refine ⟨(cr_k hR f_o0).trans (cf_k (a := 0) hF rfl (by decide)), ?_⟩
  obtain ⟨s2, e_s2, h⟩ := fg_let_s h
  intro S_s2
  have r_s2 : c_R E g b s2 S_s2 := by rw [e_s2]; exact cr_si hR f_o0 _ _
  have F_s2 : c_F s2 := by rw [e_s2]; exact cf_si hF _ _
  have x_s2 : c_ext b s b s2 := by rw [e_s2]; exact cx_si _ _
  clear_value S_s2
  obtain ⟨p4, s3, e_s3, h⟩ := fg_b_s h
  refine ft_X11_within r_s2 F_s2 e_s3 (fun b_s3 S_s3 x_s3 r_s3 F_s3 => ?_)
  refine fg_ite Iff.rfl (fun d => ?_) (fun d => ?_)
  · have h := fg_if_t d h
    unfold w_X11_copy_21
    obtain ⟨q, q2⟩ := fg_ret h
    subst q
    subst q2
    exact hQ _ _ (cr_xt x_s2 x_s3) r_s3 F_s3
  · have h := fg_if_e d h
    obtain ⟨p7, s6, e_s6, h⟩ := fg_b_s h
    refine ft_X11_within r_s3 F_s3 e_s6 (fun b_s6 S_s6 x_s6 r_s6 F_s6 => ?_)
    refine fg_ite Iff.rfl (fun d => ?_) (fun d => ?_)
    · have h := fg_if_t d h
      unfold w_X11_copy_21
      obtain ⟨q, q2⟩ := fg_ret h
      subst q
      subst q2
      exact hQ _ _ (cr_xt x_s2 (cr_xt x_s3 x_s6)) r_s6 F_s6
    · have h := fg_if_e d h
      refine ⟨(cr_k r_s6 (cr_atx (cr_atx (cr_atx f_o0 x_s2) x_s3) x_s6)).trans (cf_k (a := 0) F_s6 rfl (by decide)), ?_⟩
      obtain ⟨A_a10, w_a10, f_a10⟩ := cr_aos (cr_r r_s6 (cr_atx (cr_atx (cr_atx f_o0 x_s2) x_s3) x_s6) _) (cf_r (a := 0) (j := 9) (y := 9) F_s6 rfl)
      refine ⟨A_a10, w_a10, ?_⟩
      refine ⟨(cr_k r_s6 f_a10).trans (cf_k (a := 9) F_s6 rfl (by decide)), ?_⟩
      obtain ⟨c, h⟩ := fg_g_s h
      refine ⟨cr_vp (cr_n r_s6 f_a10) (cf_n (a := 9) F_s6 rfl (by decide) rfl) c, ?_⟩
      obtain ⟨A_a13, w_a13, f_a13⟩ := cr_aos (cr_r r_s6 (cr_atx (cr_atx (cr_atx f_o0 x_s2) x_s3) x_s6) _) (cf_r (a := 0) (j := 9) (y := 9) F_s6 rfl)
      refine ⟨A_a13, w_a13, ?_⟩
      refine ⟨(cr_k r_s6 f_a13).trans (cf_k (a := 9) F_s6 rfl (by decide)), ?_⟩
      obtain ⟨c, h⟩ := fg_g_s h
      refine ⟨cr_vp (cr_n r_s6 f_a13) (cf_n (a := 9) F_s6 rfl (by decide) rfl) c, ?_⟩
      obtain ⟨a16, o_a16, h⟩ := fg_o_s h
      obtain ⟨A_a16, w_a16, f_a16⟩ := cr_aos (cr_r r_s6 f_a10 _) o_a16
      refine ⟨A_a16, w_a16, ?_⟩
      obtain ⟨c_a16_1, h⟩ := fg_g_s h
      refine ⟨(cr_k r_s6 f_a16).trans c_a16_1, ?_⟩
      obtain ⟨p19, s18, e_s18, h⟩ := fg_b_s h
      refine ft_X5_isNothing r_s6 F_s6 f_a16 e_s18 (fun b_s18 S_s18 x_s18 r_s18 F_s18 => ?_)
      refine fg_ite Iff.rfl (fun d => ?_) (fun d => ?_)
      · have h := fg_if_t d h
        obtain ⟨a21, o_a21, h⟩ := fg_o_s h
        obtain ⟨A_a21, w_a21, f_a21⟩ := cr_aos (cr_r r_s6 f_a13 _) o_a21
        refine ⟨A_a21, w_a21, ?_⟩
        obtain ⟨c_a21_2, h⟩ := fg_g_s h
        refine ⟨(cr_k r_s18 (cr_atx f_a21 x_s18)).trans c_a21_2, ?_⟩
        obtain ⟨p24, s23, e_s23, h⟩ := fg_b_s h
        refine ft_X5_isNothing r_s18 F_s18 (cr_atx f_a21 x_s18) e_s23 (fun b_s23 S_s23 x_s23 r_s23 F_s23 => ?_)
        refine fg_ite Iff.rfl (fun d => ?_) (fun d => ?_)
        · have h := fg_if_t d h
          obtain ⟨a26, o_a26, h⟩ := fg_o_s h
          obtain ⟨A_a26, w_a26, f_a26⟩ := cr_aos (cr_r r_s6 f_a10 _) o_a26
          refine ⟨A_a26, w_a26, ?_⟩
          obtain ⟨c_a26_3, h⟩ := fg_g_s h
          refine ⟨(cr_k r_s23 (cr_atx (cr_atx f_a26 x_s18) x_s23)).trans c_a26_3, ?_⟩
          obtain ⟨a28, o_a28, h⟩ := fg_o_s h
          obtain ⟨A_a28, w_a28, f_a28⟩ := cr_aos (cr_r r_s6 f_a13 _) o_a28
          refine ⟨A_a28, w_a28, ?_⟩
          obtain ⟨c_a28_4, h⟩ := fg_g_s h
          refine ⟨(cr_k r_s23 (cr_atx (cr_atx f_a28 x_s18) x_s23)).trans c_a28_4, ?_⟩
          try simp -zeta -zetaUnused only [cr_i r_s23 (cr_atx (cr_atx f_a26 x_s18) x_s23), cr_i r_s23 (cr_atx (cr_atx f_a28 x_s18) x_s23)]
          refine fg_ite Iff.rfl (fun d => ?_) (fun d => ?_)
          · have h := fg_if_t d h
            obtain ⟨a31, o_a31, h⟩ := fg_o_s h
            obtain ⟨A_a31, w_a31, f_a31⟩ := cr_aos (cr_r r_s6 f_a10 _) o_a31
            refine ⟨A_a31, w_a31, ?_⟩
            obtain ⟨c_a31_5, h⟩ := fg_g_s h
            refine ⟨(cr_k r_s23 (cr_atx (cr_atx f_a31 x_s18) x_s23)).trans c_a31_5, ?_⟩
            obtain ⟨p34, s33, e_s33, h⟩ := fg_b_s h
            refine ft_X5_hasCells r_s23 F_s23 (cr_atx (cr_atx f_a31 x_s18) x_s23) e_s33 (fun b_s33 S_s33 x_s33 r_s33 F_s33 => ?_)
            refine fg_ite Iff.rfl (fun d => ?_) (fun d => ?_)
            · have h := fg_if_t d h
              exact ft_X11_copy_103 r_s33 F_s33 (cr_atx (cr_atx (cr_atx (cr_atx (cr_atx (cr_atx f_o0 x_s2) x_s3) x_s6) x_s18) x_s23) x_s33) h (fun b2 S2 x2 => hQ b2 S2 (cr_xt (cr_xt x_s2 (cr_xt x_s3 (cr_xt x_s6 (cr_xt x_s18 (cr_xt x_s23 x_s33))))) x2))
            · have h := fg_if_e d h
              obtain ⟨a36, o_a36, h⟩ := fg_o_s h
              obtain ⟨A_a36, w_a36, f_a36⟩ := cr_aos (cr_r r_s6 f_a13 _) o_a36
              refine ⟨A_a36, w_a36, ?_⟩
              obtain ⟨c_a36_6, h⟩ := fg_g_s h
              refine ⟨(cr_k r_s33 (cr_atx (cr_atx (cr_atx f_a36 x_s18) x_s23) x_s33)).trans c_a36_6, ?_⟩
              obtain ⟨p39, s38, e_s38, h⟩ := fg_b_s h
              refine ft_X5_hasCells r_s33 F_s33 (cr_atx (cr_atx (cr_atx f_a36 x_s18) x_s23) x_s33) e_s38 (fun b_s38 S_s38 x_s38 r_s38 F_s38 => ?_)
              refine fg_ite Iff.rfl (fun d => ?_) (fun d => ?_)
              · have h := fg_if_t d h
                exact ft_X11_copy_103 r_s38 F_s38 (cr_atx (cr_atx (cr_atx (cr_atx (cr_atx (cr_atx (cr_atx f_o0 x_s2) x_s3) x_s6) x_s18) x_s23) x_s33) x_s38) h (fun b2 S2 x2 => hQ b2 S2 (cr_xt (cr_xt x_s2 (cr_xt x_s3 (cr_xt x_s6 (cr_xt x_s18 (cr_xt x_s23 (cr_xt x_s33 x_s38)))))) x2))
              · have h := fg_if_e d h
                obtain ⟨a41, o_a41, h⟩ := fg_o_s h
                obtain ⟨A_a41, w_a41, f_a41⟩ := cr_aos (cr_r r_s6 f_a10 _) o_a41
                refine ⟨A_a41, w_a41, ?_⟩
                obtain ⟨c_a41_7, h⟩ := fg_g_s h
                refine ⟨(cr_k r_s38 (cr_atx (cr_atx (cr_atx (cr_atx f_a41 x_s18) x_s23) x_s33) x_s38)).trans c_a41_7, ?_⟩
                obtain ⟨a43, o_a43, h⟩ := fg_o_s h
                obtain ⟨A_a43, w_a43, f_a43⟩ := cr_aos (cr_r r_s6 f_a13 _) o_a43
                refine ⟨A_a43, w_a43, ?_⟩
                obtain ⟨c_a43_8, h⟩ := fg_g_s h
                refine ⟨(cr_k r_s38 (cr_atx (cr_atx (cr_atx (cr_atx f_a43 x_s18) x_s23) x_s33) x_s38)).trans c_a43_8, ?_⟩
                obtain ⟨a45, o_a45, h⟩ := fg_o_s h
                obtain ⟨A_a45, w_a45, f_a45⟩ := cr_aos (cr_r r_s38 (cr_atx (cr_atx (cr_atx (cr_atx f_a43 x_s18) x_s23) x_s33) x_s38) _) o_a45
                refine ⟨A_a45, w_a45, ?_⟩
                obtain ⟨c_a45_9, h⟩ := fg_g_s h
                refine ⟨(cr_k r_s38 f_a45).trans c_a45_9, ?_⟩
                obtain ⟨a47, o_a47, h⟩ := fg_o_s h
                obtain ⟨A_a47, w_a47, f_a47⟩ := cr_aos (cr_r r_s38 (cr_atx (cr_atx (cr_atx (cr_atx f_a41 x_s18) x_s23) x_s33) x_s38) _) o_a47
                refine ⟨A_a47, w_a47, ?_⟩
                obtain ⟨c_a47_10, h⟩ := fg_g_s h
                refine ⟨(cr_k r_s38 f_a47).trans c_a47_10, ?_⟩
                obtain ⟨c, h⟩ := fg_g_s h
                refine ⟨c, ?_⟩
                obtain ⟨c, h⟩ := fg_g_s h
                refine ⟨c, ?_⟩
                obtain ⟨c, h⟩ := fg_g_s h
                refine ⟨c, ?_⟩
                try simp -zeta -zetaUnused only [cr_n r_s38 f_a47]
                obtain ⟨c, h⟩ := fg_g_s h
                refine ⟨c, ?_⟩
                try simp -zeta -zetaUnused only [cr_n r_s38 f_a45]
                obtain ⟨c, h⟩ := fg_g_s h
                refine ⟨c, ?_⟩
                obtain ⟨s54, e_s54, h⟩ := fg_let_s h
                intro S_s54
                have r_s54 : c_R E g b_s38 s54 S_s54 := by rw [e_s54]; exact cr_cp r_s38 f_a47 f_a45 _ _ _
                have F_s54 : c_F s54 := by rw [e_s54]; exact cf_cp F_s38 _ _ _
                have x_s54 : c_ext b_s38 s38 b_s38 s54 := by rw [e_s54]; exact cx_cp _ _ _
                clear_value S_s54
                obtain ⟨q, q2⟩ := fg_ret h
                subst q
                subst q2
                exact hQ _ _ (cr_xt x_s2 (cr_xt x_s3 (cr_xt x_s6 (cr_xt x_s18 (cr_xt x_s23 (cr_xt x_s33 (cr_xt x_s38 x_s54))))))) r_s54 F_s54
          · have h := fg_if_e d h
            refine ⟨(cr_k r_s23 (cr_atx (cr_atx (cr_atx (cr_atx (cr_atx f_o0 x_s2) x_s3) x_s6) x_s18) x_s23)).trans (cf_k (a := 0) F_s23 rfl (by decide)), ?_⟩
            obtain ⟨p57, s56, e_s56, h⟩ := fg_b_s h
            refine ft_X11_failed r_s23 F_s23 (cr_atx (cr_atx (cr_atx (cr_atx (cr_atx f_o0 x_s2) x_s3) x_s6) x_s18) x_s23) e_s56 (fun b_s56 S_s56 x_s56 r_s56 F_s56 => ?_)
            obtain ⟨q, q2⟩ := fg_ret h
            subst q
            subst q2
            exact hQ _ _ (cr_xt x_s2 (cr_xt x_s3 (cr_xt x_s6 (cr_xt x_s18 (cr_xt x_s23 x_s56))))) r_s56 F_s56
        · have h := fg_if_e d h
          exact ft_X11_copy_55 r_s23 F_s23 (cr_atx (cr_atx (cr_atx (cr_atx (cr_atx f_o0 x_s2) x_s3) x_s6) x_s18) x_s23) h (fun b2 S2 x2 => hQ b2 S2 (cr_xt (cr_xt x_s2 (cr_xt x_s3 (cr_xt x_s6 (cr_xt x_s18 x_s23)))) x2))
      · have h := fg_if_e d h
        exact ft_X11_copy_55 r_s18 F_s18 (cr_atx (cr_atx (cr_atx (cr_atx f_o0 x_s2) x_s3) x_s6) x_s18) h (fun b2 S2 x2 => hQ b2 S2 (cr_xt (cr_xt x_s2 (cr_xt x_s3 (cr_xt x_s6 x_s18))) x2))
set_option maxRecDepth 100000 in
set_option maxHeartbeats 4000000 in
theorem ft_X11_noteBody {E : h_S} {g : h_G} {r : Unit} {t : h_S} {Q : h_S → Prop} {b : Nat → Nat} {s S_s : h_S} {A_o0 : Nat} {x1 : Int32} (hR : c_R E g b s S_s) (hF : c_F s) (f_o0 : c_at b s 0 A_o0) (h : fn_X11_noteBody x1 s = some (r, t)) (hQ : ∀ (b2 : Nat → Nat) (S2 : h_S), c_ext b s b2 t → c_R E g b2 t S2 → c_F t → Q S2) : w_X11_noteBody A_o0 x1 S_s Q := by
  unfold fn_X11_noteBody at h
  unfold w_X11_noteBody
  refine ⟨(cr_k hR f_o0).trans (cf_k (a := 0) hF rfl (by decide)), ?_⟩
  try simp -zeta -zetaUnused only [cr_i hR f_o0]
  obtain ⟨s2, e_s2, h⟩ := fg_let_s h
  intro S_s2
  have r_s2 : c_R E g b s2 S_s2 := by rw [e_s2]; exact cr_si hR f_o0 _ _
  have F_s2 : c_F s2 := by rw [e_s2]; exact cf_si hF _ _
  have x_s2 : c_ext b s b s2 := by rw [e_s2]; exact cx_si _ _
  clear_value S_s2
  obtain ⟨_, q⟩ := fg_ret h
  subst q
  exact hQ _ _ x_s2 r_s2 F_s2
set_option maxRecDepth 100000 in
set_option maxHeartbeats 4000000 in
theorem ft_X11_tellLink {E : h_S} {g : h_G} {r : Int32} {t : h_S} {Q : Int32 → h_S → Prop} {b : Nat → Nat} {s S_s : h_S} {A_o0 : Nat} {r1 : Option Nat} {R_r1 : Option Nat} (hR : c_R E g b s S_s) (hF : c_F s) (f_o0 : c_at b s 0 A_o0) (f_r1 : c_ao b s r1 R_r1) (h : fn_X11_tellLink r1 s = some (r, t)) (hQ : ∀ (b2 : Nat → Nat) (S2 : h_S), c_ext b s b2 t → c_R E g b2 t S2 → c_F t → Q r S2) : w_X11_tellLink A_o0 R_r1 S_s Q := by
  unfold fn_X11_tellLink at h
  unfold w_X11_tellLink
  refine ⟨(cr_k hR f_o0).trans (cf_k (a := 0) hF rfl (by decide)), ?_⟩
  obtain ⟨u_, s2, e_s2, h⟩ := fg_b_s h
  refine ft_X11_noteBody hR hF f_o0 e_s2 (fun b_s2 S_s2 x_s2 r_s2 F_s2 => ?_)
  obtain ⟨a4, o_a4, h⟩ := fg_o_s h
  obtain ⟨A_a4, w_a4, f_a4⟩ := cr_aos f_r1 o_a4
  refine ⟨A_a4, w_a4, ?_⟩
  obtain ⟨c_a4_1, h⟩ := fg_g_s h
  refine ⟨(cr_k r_s2 (cr_atx f_a4 x_s2)).trans c_a4_1, ?_⟩
  obtain ⟨a6, o_a6, h⟩ := fg_o_s h
  obtain ⟨A_a6, w_a6, f_a6⟩ := cr_aos (cr_r r_s2 (cr_atx f_a4 x_s2) _) o_a6
  refine ⟨A_a6, w_a6, ?_⟩
  obtain ⟨c_a6_2, h⟩ := fg_g_s h
  refine ⟨(cr_k r_s2 f_a6).trans c_a6_2, ?_⟩
  obtain ⟨c, h⟩ := fg_g_s h
  refine ⟨cr_vp (cr_n r_s2 f_a6) rfl c, ?_⟩
  try simp -zeta -zetaUnused only [cr_i r_s2 f_a6]
  obtain ⟨q, q2⟩ := fg_ret h
  subst q
  subst q2
  exact hQ _ _ x_s2 r_s2 F_s2
set_option maxRecDepth 100000 in
set_option maxHeartbeats 4000000 in
theorem ft_X11_tellNote {E : h_S} {g : h_G} {r : Int32} {t : h_S} {Q : Int32 → h_S → Prop} {b : Nat → Nat} {s S_s : h_S} {A_o0 : Nat} {r1 : Option Nat} {R_r1 : Option Nat} (hR : c_R E g b s S_s) (hF : c_F s) (f_o0 : c_at b s 0 A_o0) (f_r1 : c_ao b s r1 R_r1) (h : fn_X11_tellNote r1 s = some (r, t)) (hQ : ∀ (b2 : Nat → Nat) (S2 : h_S), c_ext b s b2 t → c_R E g b2 t S2 → c_F t → Q r S2) : w_X11_tellNote A_o0 R_r1 S_s Q := by
  unfold fn_X11_tellNote at h
  unfold w_X11_tellNote
  refine ⟨(cr_k hR f_o0).trans (cf_k (a := 0) hF rfl (by decide)), ?_⟩
  obtain ⟨u_, s2, e_s2, h⟩ := fg_b_s h
  refine ft_X11_noteBody hR hF f_o0 e_s2 (fun b_s2 S_s2 x_s2 r_s2 F_s2 => ?_)
  refine ⟨(cr_k r_s2 (cr_atx f_o0 x_s2)).trans (cf_k (a := 0) F_s2 rfl (by decide)), ?_⟩
  obtain ⟨p6, s5, e_s5, h⟩ := fg_b_s h
  refine ft_X11_tellLink r_s2 F_s2 (cr_atx f_o0 x_s2) (cr_aox f_r1 x_s2) e_s5 (fun b_s5 S_s5 x_s5 r_s5 F_s5 => ?_)
  obtain ⟨a7, o_a7, h⟩ := fg_o_s h
  obtain ⟨A_a7, w_a7, f_a7⟩ := cr_aos f_r1 o_a7
  refine ⟨A_a7, w_a7, ?_⟩
  obtain ⟨c_a7_1, h⟩ := fg_g_s h
  refine ⟨(cr_k r_s5 (cr_atx (cr_atx f_a7 x_s2) x_s5)).trans c_a7_1, ?_⟩
  obtain ⟨a9, o_a9, h⟩ := fg_o_s h
  obtain ⟨A_a9, w_a9, f_a9⟩ := cr_aos (cr_r r_s5 (cr_atx (cr_atx f_a7 x_s2) x_s5) _) o_a9
  refine ⟨A_a9, w_a9, ?_⟩
  obtain ⟨c_a9_2, h⟩ := fg_g_s h
  refine ⟨(cr_k r_s5 f_a9).trans c_a9_2, ?_⟩
  obtain ⟨c, h⟩ := fg_g_s h
  refine ⟨cr_vp (cr_n r_s5 f_a9) rfl c, ?_⟩
  try simp -zeta -zetaUnused only [cr_i r_s5 f_a9]
  obtain ⟨q, q2⟩ := fg_ret h
  subst q
  subst q2
  exact hQ _ _ (cr_xt x_s2 x_s5) r_s5 F_s5
set_option maxRecDepth 100000 in
set_option maxHeartbeats 4000000 in
theorem ft_X11_tellReply {E : h_S} {g : h_G} {r : Int32} {t : h_S} {Q : Int32 → h_S → Prop} {b : Nat → Nat} {s S_s : h_S} {A_o0 : Nat} {r1 : Option Nat} {R_r1 : Option Nat} (hR : c_R E g b s S_s) (hF : c_F s) (f_o0 : c_at b s 0 A_o0) (f_r1 : c_ao b s r1 R_r1) (h : fn_X11_tellReply r1 s = some (r, t)) (hQ : ∀ (b2 : Nat → Nat) (S2 : h_S), c_ext b s b2 t → c_R E g b2 t S2 → c_F t → Q r S2) : w_X11_tellReply A_o0 R_r1 S_s Q := by
  unfold fn_X11_tellReply at h
  unfold w_X11_tellReply
  refine ⟨(cr_k hR f_o0).trans (cf_k (a := 0) hF rfl (by decide)), ?_⟩
  obtain ⟨u_, s2, e_s2, h⟩ := fg_b_s h
  refine ft_X11_noteBody hR hF f_o0 e_s2 (fun b_s2 S_s2 x_s2 r_s2 F_s2 => ?_)
  refine ⟨(cr_k r_s2 (cr_atx f_o0 x_s2)).trans (cf_k (a := 0) F_s2 rfl (by decide)), ?_⟩
  obtain ⟨p6, s5, e_s5, h⟩ := fg_b_s h
  refine ft_X11_tellNote r_s2 F_s2 (cr_atx f_o0 x_s2) (cr_aox f_r1 x_s2) e_s5 (fun b_s5 S_s5 x_s5 r_s5 F_s5 => ?_)
  refine ⟨(cr_k r_s5 (cr_atx (cr_atx f_o0 x_s2) x_s5)).trans (cf_k (a := 0) F_s5 rfl (by decide)), ?_⟩
  obtain ⟨p9, s8, e_s8, h⟩ := fg_b_s h
  refine ft_X11_tellLink r_s5 F_s5 (cr_atx (cr_atx f_o0 x_s2) x_s5) (cr_aox (cr_aox f_r1 x_s2) x_s5) e_s8 (fun b_s8 S_s8 x_s8 r_s8 F_s8 => ?_)
  obtain ⟨q, q2⟩ := fg_ret h
  subst q
  subst q2
  exact hQ _ _ (cr_xt x_s2 (cr_xt x_s5 x_s8)) r_s8 F_s8
set_option maxRecDepth 100000 in
set_option maxHeartbeats 4000000 in
theorem ft_X11_tellSame {E : h_S} {g : h_G} {r : Int32} {t : h_S} {Q : Int32 → h_S → Prop} {b : Nat → Nat} {s S_s : h_S} {A_o0 : Nat} {r1 : Option Nat} {R_r1 : Option Nat} (hR : c_R E g b s S_s) (hF : c_F s) (f_o0 : c_at b s 0 A_o0) (f_r1 : c_ao b s r1 R_r1) (h : fn_X11_tellSame r1 s = some (r, t)) (hQ : ∀ (b2 : Nat → Nat) (S2 : h_S), c_ext b s b2 t → c_R E g b2 t S2 → c_F t → Q r S2) : w_X11_tellSame A_o0 R_r1 S_s Q := by
  unfold fn_X11_tellSame at h
  unfold w_X11_tellSame
  refine ⟨(cr_k hR f_o0).trans (cf_k (a := 0) hF rfl (by decide)), ?_⟩
  obtain ⟨u_, s2, e_s2, h⟩ := fg_b_s h
  refine ft_X11_noteBody hR hF f_o0 e_s2 (fun b_s2 S_s2 x_s2 r_s2 F_s2 => ?_)
  refine ⟨(cr_k r_s2 (cr_atx f_o0 x_s2)).trans (cf_k (a := 0) F_s2 rfl (by decide)), ?_⟩
  obtain ⟨p6, s5, e_s5, h⟩ := fg_b_s h
  refine ft_X11_tellLink r_s2 F_s2 (cr_atx f_o0 x_s2) (cr_aox f_r1 x_s2) e_s5 (fun b_s5 S_s5 x_s5 r_s5 F_s5 => ?_)
  obtain ⟨q, q2⟩ := fg_ret h
  subst q
  subst q2
  exact hQ _ _ (cr_xt x_s2 x_s5) r_s5 F_s5
set_option maxRecDepth 100000 in
set_option maxHeartbeats 4000000 in
theorem ft_X11_tellCorrect {E : h_S} {g : h_G} {r : Int32} {t : h_S} {Q : Int32 → h_S → Prop} {b : Nat → Nat} {s S_s : h_S} {A_o0 : Nat} {r1 : Option Nat} {R_r1 : Option Nat} (hR : c_R E g b s S_s) (hF : c_F s) (f_o0 : c_at b s 0 A_o0) (f_r1 : c_ao b s r1 R_r1) (h : fn_X11_tellCorrect r1 s = some (r, t)) (hQ : ∀ (b2 : Nat → Nat) (S2 : h_S), c_ext b s b2 t → c_R E g b2 t S2 → c_F t → Q r S2) : w_X11_tellCorrect A_o0 R_r1 S_s Q := by
  unfold fn_X11_tellCorrect at h
  unfold w_X11_tellCorrect
  refine ⟨(cr_k hR f_o0).trans (cf_k (a := 0) hF rfl (by decide)), ?_⟩
  obtain ⟨u_, s2, e_s2, h⟩ := fg_b_s h
  refine ft_X11_noteBody hR hF f_o0 e_s2 (fun b_s2 S_s2 x_s2 r_s2 F_s2 => ?_)
  refine ⟨(cr_k r_s2 (cr_atx f_o0 x_s2)).trans (cf_k (a := 0) F_s2 rfl (by decide)), ?_⟩
  obtain ⟨p6, s5, e_s5, h⟩ := fg_b_s h
  refine ft_X11_tellSame r_s2 F_s2 (cr_atx f_o0 x_s2) (cr_aox f_r1 x_s2) e_s5 (fun b_s5 S_s5 x_s5 r_s5 F_s5 => ?_)
  refine ⟨(cr_k r_s5 (cr_atx (cr_atx f_o0 x_s2) x_s5)).trans (cf_k (a := 0) F_s5 rfl (by decide)), ?_⟩
  obtain ⟨p9, s8, e_s8, h⟩ := fg_b_s h
  refine ft_X11_tellLink r_s5 F_s5 (cr_atx (cr_atx f_o0 x_s2) x_s5) (cr_aox (cr_aox f_r1 x_s2) x_s5) e_s8 (fun b_s8 S_s8 x_s8 r_s8 F_s8 => ?_)
  obtain ⟨q, q2⟩ := fg_ret h
  subst q
  subst q2
  exact hQ _ _ (cr_xt x_s2 (cr_xt x_s5 x_s8)) r_s8 F_s8
set_option maxRecDepth 100000 in
set_option maxHeartbeats 4000000 in
theorem ft_X11_tell {E : h_S} {g : h_G} {r : Int32} {t : h_S} {Q : Int32 → h_S → Prop} {b : Nat → Nat} {s S_s : h_S} {A_o0 : Nat} {x1 : Int32} (hR : c_R E g b s S_s) (hF : c_F s) (f_o0 : c_at b s 0 A_o0) (h : fn_X11_tell x1 s = some (r, t)) (hQ : ∀ (b2 : Nat → Nat) (S2 : h_S), c_ext b s b2 t → c_R E g b2 t S2 → c_F t → Q r S2) : w_X11_tell A_o0 x1 S_s Q := by
  unfold fn_X11_tell at h
  unfold w_X11_tell
  refine ⟨(cr_k hR f_o0).trans (cf_k (a := 0) hF rfl (by decide)), ?_⟩
  obtain ⟨p3, s2, e_s2, h⟩ := fg_b_s h
  refine ft_X11_linkAt hR hF f_o0 e_s2 (fun b_s2 R_p3 S_s2 x_s2 r_s2 F_s2 f_p3 => ?_)
  refine fg_ite (cr_isn f_p3) (fun d => ?_) (fun d => ?_)
  · have h := fg_if_t d h
    obtain ⟨q, q2⟩ := fg_ret h
    subst q
    subst q2
    exact hQ _ _ x_s2 r_s2 F_s2
  · have h := fg_if_e d h
    obtain ⟨a5, o_a5, h⟩ := fg_o_s h
    obtain ⟨A_a5, w_a5, f_a5⟩ := cr_aos f_p3 o_a5
    refine ⟨A_a5, w_a5, ?_⟩
    obtain ⟨c_a5_1, h⟩ := fg_g_s h
    refine ⟨(cr_k r_s2 f_a5).trans c_a5_1, ?_⟩
    try simp -zeta -zetaUnused only [cr_i r_s2 f_a5]
    refine fg_ite Iff.rfl (fun d => ?_) (fun d => ?_)
    · have h := fg_if_t d h
      refine ⟨(cr_k r_s2 (cr_atx f_o0 x_s2)).trans (cf_k (a := 0) F_s2 rfl (by decide)), ?_⟩
      obtain ⟨p10, s9, e_s9, h⟩ := fg_b_s h
      refine ft_X11_tellNote r_s2 F_s2 (cr_atx f_o0 x_s2) f_p3 e_s9 (fun b_s9 S_s9 x_s9 r_s9 F_s9 => ?_)
      obtain ⟨q, q2⟩ := fg_ret h
      subst q
      subst q2
      exact hQ _ _ (cr_xt x_s2 x_s9) r_s9 F_s9
    · have h := fg_if_e d h
      refine fg_ite Iff.rfl (fun d => ?_) (fun d => ?_)
      · have h := fg_if_t d h
        refine ⟨(cr_k r_s2 (cr_atx f_o0 x_s2)).trans (cf_k (a := 0) F_s2 rfl (by decide)), ?_⟩
        obtain ⟨p14, s13, e_s13, h⟩ := fg_b_s h
        refine ft_X11_tellReply r_s2 F_s2 (cr_atx f_o0 x_s2) f_p3 e_s13 (fun b_s13 S_s13 x_s13 r_s13 F_s13 => ?_)
        obtain ⟨q, q2⟩ := fg_ret h
        subst q
        subst q2
        exact hQ _ _ (cr_xt x_s2 x_s13) r_s13 F_s13
      · have h := fg_if_e d h
        refine fg_ite Iff.rfl (fun d => ?_) (fun d => ?_)
        · have h := fg_if_t d h
          refine ⟨(cr_k r_s2 (cr_atx f_o0 x_s2)).trans (cf_k (a := 0) F_s2 rfl (by decide)), ?_⟩
          obtain ⟨p18, s17, e_s17, h⟩ := fg_b_s h
          refine ft_X11_tellSame r_s2 F_s2 (cr_atx f_o0 x_s2) f_p3 e_s17 (fun b_s17 S_s17 x_s17 r_s17 F_s17 => ?_)
          obtain ⟨q, q2⟩ := fg_ret h
          subst q
          subst q2
          exact hQ _ _ (cr_xt x_s2 x_s17) r_s17 F_s17
        · have h := fg_if_e d h
          refine fg_ite Iff.rfl (fun d => ?_) (fun d => ?_)
          · have h := fg_if_t d h
            refine ⟨(cr_k r_s2 (cr_atx f_o0 x_s2)).trans (cf_k (a := 0) F_s2 rfl (by decide)), ?_⟩
            obtain ⟨p22, s21, e_s21, h⟩ := fg_b_s h
            refine ft_X11_tellCorrect r_s2 F_s2 (cr_atx f_o0 x_s2) f_p3 e_s21 (fun b_s21 S_s21 x_s21 r_s21 F_s21 => ?_)
            obtain ⟨q, q2⟩ := fg_ret h
            subst q
            subst q2
            exact hQ _ _ (cr_xt x_s2 x_s21) r_s21 F_s21
          · have h := fg_if_e d h
            refine ⟨(cr_k r_s2 (cr_atx f_o0 x_s2)).trans (cf_k (a := 0) F_s2 rfl (by decide)), ?_⟩
            obtain ⟨p25, s24, e_s24, h⟩ := fg_b_s h
            refine ft_X11_tellLink r_s2 F_s2 (cr_atx f_o0 x_s2) f_p3 e_s24 (fun b_s24 S_s24 x_s24 r_s24 F_s24 => ?_)
            obtain ⟨q, q2⟩ := fg_ret h
            subst q
            subst q2
            exact hQ _ _ (cr_xt x_s2 x_s24) r_s24 F_s24
set_option maxRecDepth 100000 in
set_option maxHeartbeats 4000000 in
theorem ft_X11_name {E : h_S} {g : h_G} {r : Int32} {t : h_S} {Q : Int32 → h_S → Prop} {b : Nat → Nat} {s S_s : h_S} {A_o0 : Nat} {x1 : Int32} (hR : c_R E g b s S_s) (hF : c_F s) (f_o0 : c_at b s 0 A_o0) (h : fn_X11_name x1 s = some (r, t)) (hQ : ∀ (b2 : Nat → Nat) (S2 : h_S), c_ext b s b2 t → c_R E g b2 t S2 → c_F t → Q r S2) : w_X11_name A_o0 x1 S_s Q := by
  unfold fn_X11_name at h
  unfold w_X11_name
  refine ⟨(cr_k hR f_o0).trans (cf_k (a := 0) hF rfl (by decide)), ?_⟩
  obtain ⟨p3, s2, e_s2, h⟩ := fg_b_s h
  refine ft_X11_linkAt hR hF f_o0 e_s2 (fun b_s2 R_p3 S_s2 x_s2 r_s2 F_s2 f_p3 => ?_)
  refine fg_ite (cr_isn f_p3) (fun d => ?_) (fun d => ?_)
  · have h := fg_if_t d h
    obtain ⟨q, q2⟩ := fg_ret h
    subst q
    subst q2
    exact hQ _ _ x_s2 r_s2 F_s2
  · have h := fg_if_e d h
    obtain ⟨a5, o_a5, h⟩ := fg_o_s h
    obtain ⟨A_a5, w_a5, f_a5⟩ := cr_aos f_p3 o_a5
    refine ⟨A_a5, w_a5, ?_⟩
    obtain ⟨c_a5_1, h⟩ := fg_g_s h
    refine ⟨(cr_k r_s2 f_a5).trans c_a5_1, ?_⟩
    try simp -zeta -zetaUnused only [cr_i r_s2 f_a5]
    refine fg_ite Iff.rfl (fun d => ?_) (fun d => ?_)
    · have h := fg_if_t d h
      refine ⟨(cr_k r_s2 (cr_atx f_o0 x_s2)).trans (cf_k (a := 0) F_s2 rfl (by decide)), ?_⟩
      obtain ⟨u_, s12, e_s12, h⟩ := fg_b_s h
      refine ft_X11_noteBody r_s2 F_s2 (cr_atx f_o0 x_s2) e_s12 (fun b_s12 S_s12 x_s12 r_s12 F_s12 => ?_)
      obtain ⟨q, q2⟩ := fg_ret h
      subst q
      subst q2
      exact hQ _ _ (cr_xt x_s2 x_s12) r_s12 F_s12
    · have h := fg_if_e d h
      refine ⟨(cr_k r_s2 (cr_atx f_o0 x_s2)).trans (cf_k (a := 0) F_s2 rfl (by decide)), ?_⟩
      obtain ⟨u_, s9, e_s9, h⟩ := fg_b_s h
      refine ft_X11_noteBody r_s2 F_s2 (cr_atx f_o0 x_s2) e_s9 (fun b_s9 S_s9 x_s9 r_s9 F_s9 => ?_)
      obtain ⟨q, q2⟩ := fg_ret h
      subst q
      subst q2
      exact hQ _ _ (cr_xt x_s2 x_s9) r_s9 F_s9
set_option maxRecDepth 100000 in
set_option maxHeartbeats 4000000 in
theorem ft_X11_as {E : h_S} {g : h_G} {r : Int32} {t : h_S} {Q : Int32 → h_S → Prop} {b : Nat → Nat} {s S_s : h_S} {A_o0 : Nat} {x1 : Int32} {x2 : Int32} (hR : c_R E g b s S_s) (hF : c_F s) (f_o0 : c_at b s 0 A_o0) (h : fn_X11_as x1 x2 s = some (r, t)) (hQ : ∀ (b2 : Nat → Nat) (S2 : h_S), c_ext b s b2 t → c_R E g b2 t S2 → c_F t → Q r S2) : w_X11_as A_o0 x1 x2 S_s Q := by
  unfold fn_X11_as at h
  unfold w_X11_as
  refine ⟨(cr_k hR f_o0).trans (cf_k (a := 0) hF rfl (by decide)), ?_⟩
  obtain ⟨s2, e_s2, h⟩ := fg_let_s h
  intro S_s2
  have r_s2 : c_R E g b s2 S_s2 := by rw [e_s2]; exact cr_si hR f_o0 _ _
  have F_s2 : c_F s2 := by rw [e_s2]; exact cf_si hF _ _
  have x_s2 : c_ext b s b s2 := by rw [e_s2]; exact cx_si _ _
  clear_value S_s2
  obtain ⟨p4, s3, e_s3, h⟩ := fg_b_s h
  refine ft_X11_linkAt r_s2 F_s2 (cr_atx f_o0 x_s2) e_s3 (fun b_s3 R_p4 S_s3 x_s3 r_s3 F_s3 f_p4 => ?_)
  refine fg_ite (cr_isn f_p4) (fun d => ?_) (fun d => ?_)
  · have h := fg_if_t d h
    obtain ⟨q, q2⟩ := fg_ret h
    subst q
    subst q2
    exact hQ _ _ (cr_xt x_s2 x_s3) r_s3 F_s3
  · have h := fg_if_e d h
    obtain ⟨p7, s6, e_s6, h⟩ := fg_b_s h
    refine ft_X11_within r_s3 F_s3 e_s6 (fun b_s6 S_s6 x_s6 r_s6 F_s6 => ?_)
    refine fg_ite Iff.rfl (fun d => ?_) (fun d => ?_)
    · have h := fg_if_t d h
      obtain ⟨q, q2⟩ := fg_ret h
      subst q
      subst q2
      exact hQ _ _ (cr_xt x_s2 (cr_xt x_s3 x_s6)) r_s6 F_s6
    · have h := fg_if_e d h
      obtain ⟨a9, o_a9, h⟩ := fg_o_s h
      obtain ⟨A_a9, w_a9, f_a9⟩ := cr_aos f_p4 o_a9
      refine ⟨A_a9, w_a9, ?_⟩
      obtain ⟨c_a9_1, h⟩ := fg_g_s h
      refine ⟨(cr_k r_s6 (cr_atx f_a9 x_s6)).trans c_a9_1, ?_⟩
      obtain ⟨p12, s11, e_s11, h⟩ := fg_b_s h
      refine ft_X1_isA r_s6 F_s6 (cr_atx f_a9 x_s6) e_s11 (fun b_s11 S_s11 x_s11 r_s11 F_s11 => ?_)
      refine fg_ite Iff.rfl (fun d => ?_) (fun d => ?_)
      · have h := fg_if_t d h
        refine ⟨(cr_k r_s11 (cr_atx (cr_atx (cr_atx (cr_atx f_o0 x_s2) x_s3) x_s6) x_s11)).trans (cf_k (a := 0) F_s11 rfl (by decide)), ?_⟩
        obtain ⟨p16, s15, e_s15, h⟩ := fg_b_s h
        refine ft_X11_failed r_s11 F_s11 (cr_atx (cr_atx (cr_atx (cr_atx f_o0 x_s2) x_s3) x_s6) x_s11) e_s15 (fun b_s15 S_s15 x_s15 r_s15 F_s15 => ?_)
        unfold w_X11_as_45
        obtain ⟨q, q2⟩ := fg_ret h
        subst q
        subst q2
        exact hQ _ _ (cr_xt x_s2 (cr_xt x_s3 (cr_xt x_s6 (cr_xt x_s11 x_s15)))) r_s15 F_s15
      · have h := fg_if_e d h
        unfold w_X11_as_45
        obtain ⟨q, q2⟩ := fg_ret h
        subst q
        subst q2
        exact hQ _ _ (cr_xt x_s2 (cr_xt x_s3 (cr_xt x_s6 x_s11))) r_s11 F_s11
set_option maxRecDepth 100000 in
set_option maxHeartbeats 4000000 in
theorem ft_X11_trace {E : h_S} {g : h_G} {r : Int32} {t : h_S} {Q : Int32 → h_S → Prop} {b : Nat → Nat} {s S_s : h_S} {A_o0 : Nat} (hR : c_R E g b s S_s) (hF : c_F s) (f_o0 : c_at b s 0 A_o0) (h : fn_X11_trace s = some (r, t)) (hQ : ∀ (b2 : Nat → Nat) (S2 : h_S), c_ext b s b2 t → c_R E g b2 t S2 → c_F t → Q r S2) : w_X11_trace A_o0 S_s Q := by
  unfold fn_X11_trace at h
  unfold w_X11_trace
  refine ⟨(cr_k hR f_o0).trans (cf_k (a := 0) hF rfl (by decide)), ?_⟩
  try simp -zeta -zetaUnused only [cr_i hR f_o0]
  obtain ⟨q, q2⟩ := fg_ret h
  subst q
  subst q2
  exact hQ _ _ cr_xr hR hF
set_option maxRecDepth 100000 in
set_option maxHeartbeats 4000000 in
theorem ft_X11_fault {E : h_S} {g : h_G} {r : Int32} {t : h_S} {Q : Int32 → h_S → Prop} {b : Nat → Nat} {s S_s : h_S} {A_o0 : Nat} (hR : c_R E g b s S_s) (hF : c_F s) (f_o0 : c_at b s 0 A_o0) (h : fn_X11_fault s = some (r, t)) (hQ : ∀ (b2 : Nat → Nat) (S2 : h_S), c_ext b s b2 t → c_R E g b2 t S2 → c_F t → Q r S2) : w_X11_fault A_o0 S_s Q := by
  unfold fn_X11_fault at h
  unfold w_X11_fault
  refine ⟨(cr_k hR f_o0).trans (cf_k (a := 0) hF rfl (by decide)), ?_⟩
  try simp -zeta -zetaUnused only [cr_i hR f_o0]
  obtain ⟨q, q2⟩ := fg_ret h
  subst q
  subst q2
  exact hQ _ _ cr_xr hR hF
set_option maxRecDepth 100000 in
set_option maxHeartbeats 4000000 in
theorem ft_X11_many {E : h_S} {g : h_G} {r : Int32} {t : h_S} {Q : Int32 → h_S → Prop} {b : Nat → Nat} {s S_s : h_S} {A_o0 : Nat} {x1 : Int32} (hR : c_R E g b s S_s) (hF : c_F s) (f_o0 : c_at b s 0 A_o0) (h : fn_X11_many x1 s = some (r, t)) (hQ : ∀ (b2 : Nat → Nat) (S2 : h_S), c_ext b s b2 t → c_R E g b2 t S2 → c_F t → Q r S2) : w_X11_many A_o0 x1 S_s Q := by
  unfold fn_X11_many at h
  unfold w_X11_many
  refine fg_ite Iff.rfl (fun d => ?_) (fun d => ?_)
  · have h := fg_if_t d h
    refine ⟨(cr_k hR f_o0).trans (cf_k (a := 0) hF rfl (by decide)), ?_⟩
    try simp -zeta -zetaUnused only [cr_i hR f_o0]
    obtain ⟨q, q2⟩ := fg_ret h
    subst q
    subst q2
    exact hQ _ _ cr_xr hR hF
  · have h := fg_if_e d h
    refine fg_ite Iff.rfl (fun d => ?_) (fun d => ?_)
    · have h := fg_if_t d h
      refine ⟨(cr_k hR f_o0).trans (cf_k (a := 0) hF rfl (by decide)), ?_⟩
      try simp -zeta -zetaUnused only [cr_i hR f_o0]
      obtain ⟨q, q2⟩ := fg_ret h
      subst q
      subst q2
      exact hQ _ _ cr_xr hR hF
    · have h := fg_if_e d h
      refine fg_ite Iff.rfl (fun d => ?_) (fun d => ?_)
      · have h := fg_if_t d h
        refine ⟨(cr_k hR f_o0).trans (cf_k (a := 0) hF rfl (by decide)), ?_⟩
        obtain ⟨A_a7, w_a7, f_a7⟩ := cr_aos (cr_r hR f_o0 _) (cf_r (a := 0) (j := 4) (y := 3) hF rfl)
        refine ⟨A_a7, w_a7, ?_⟩
        refine ⟨(cr_k hR f_a7).trans (cf_k (a := 3) hF rfl (by decide)), ?_⟩
        try simp -zeta -zetaUnused only [cr_i hR f_a7]
        obtain ⟨q, q2⟩ := fg_ret h
        subst q
        subst q2
        exact hQ _ _ cr_xr hR hF
      · have h := fg_if_e d h
        refine fg_ite Iff.rfl (fun d => ?_) (fun d => ?_)
        · have h := fg_if_t d h
          refine ⟨(cr_k hR f_o0).trans (cf_k (a := 0) hF rfl (by decide)), ?_⟩
          obtain ⟨A_a11, w_a11, f_a11⟩ := cr_aos (cr_r hR f_o0 _) (cf_r (a := 0) (j := 4) (y := 3) hF rfl)
          refine ⟨A_a11, w_a11, ?_⟩
          refine ⟨(cr_k hR f_a11).trans (cf_k (a := 3) hF rfl (by decide)), ?_⟩
          obtain ⟨p14, s13, e_s13, h⟩ := fg_b_s h
          refine ft_X7_wordCount hR hF f_a11 e_s13 (fun b_s13 S_s13 x_s13 r_s13 F_s13 => ?_)
          obtain ⟨q, q2⟩ := fg_ret h
          subst q
          subst q2
          exact hQ _ _ x_s13 r_s13 F_s13
        · have h := fg_if_e d h
          refine fg_ite Iff.rfl (fun d => ?_) (fun d => ?_)
          · have h := fg_if_t d h
            refine ⟨(cr_k hR f_o0).trans (cf_k (a := 0) hF rfl (by decide)), ?_⟩
            obtain ⟨A_a17, w_a17, f_a17⟩ := cr_aos (cr_r hR f_o0 _) (cf_r (a := 0) (j := 5) (y := 4) hF rfl)
            refine ⟨A_a17, w_a17, ?_⟩
            refine ⟨(cr_k hR f_a17).trans (cf_k (a := 4) hF rfl (by decide)), ?_⟩
            obtain ⟨p20, s19, e_s19, h⟩ := fg_b_s h
            refine ft_Jx4a65c_size_8abf5 hR hF f_a17 e_s19 (fun b_s19 S_s19 x_s19 r_s19 F_s19 => ?_)
            obtain ⟨q, q2⟩ := fg_ret h
            subst q
            subst q2
            exact hQ _ _ x_s19 r_s19 F_s19
          · have h := fg_if_e d h
            refine fg_ite Iff.rfl (fun d => ?_) (fun d => ?_)
            · have h := fg_if_t d h
              refine ⟨(cr_k hR f_o0).trans (cf_k (a := 0) hF rfl (by decide)), ?_⟩
              obtain ⟨A_a23, w_a23, f_a23⟩ := cr_aos (cr_r hR f_o0 _) (cf_r (a := 0) (j := 7) (y := 6) hF rfl)
              refine ⟨A_a23, w_a23, ?_⟩
              refine ⟨(cr_k hR f_a23).trans (cf_k (a := 6) hF rfl (by decide)), ?_⟩
              obtain ⟨p26, s25, e_s25, h⟩ := fg_b_s h
              refine ft_Jx4a65c_size_8abf5 hR hF f_a23 e_s25 (fun b_s25 S_s25 x_s25 r_s25 F_s25 => ?_)
              obtain ⟨q, q2⟩ := fg_ret h
              subst q
              subst q2
              exact hQ _ _ x_s25 r_s25 F_s25
            · have h := fg_if_e d h
              refine fg_ite Iff.rfl (fun d => ?_) (fun d => ?_)
              · have h := fg_if_t d h
                refine ⟨(cr_k hR f_o0).trans (cf_k (a := 0) hF rfl (by decide)), ?_⟩
                obtain ⟨A_a29, w_a29, f_a29⟩ := cr_aos (cr_r hR f_o0 _) (cf_r (a := 0) (j := 8) (y := 8) hF rfl)
                refine ⟨A_a29, w_a29, ?_⟩
                refine ⟨(cr_k hR f_a29).trans (cf_k (a := 8) hF rfl (by decide)), ?_⟩
                obtain ⟨p32, s31, e_s31, h⟩ := fg_b_s h
                refine ft_Jx4a65c_size_8abf5 hR hF f_a29 e_s31 (fun b_s31 S_s31 x_s31 r_s31 F_s31 => ?_)
                obtain ⟨q, q2⟩ := fg_ret h
                subst q
                subst q2
                exact hQ _ _ x_s31 r_s31 F_s31
              · have h := fg_if_e d h
                refine fg_ite Iff.rfl (fun d => ?_) (fun d => ?_)
                · have h := fg_if_t d h
                  refine ⟨(cr_k hR f_o0).trans (cf_k (a := 0) hF rfl (by decide)), ?_⟩
                  obtain ⟨A_a35, w_a35, f_a35⟩ := cr_aos (cr_r hR f_o0 _) (cf_r (a := 0) (j := 6) (y := 5) hF rfl)
                  refine ⟨A_a35, w_a35, ?_⟩
                  refine ⟨(cr_k hR f_a35).trans (cf_k (a := 5) hF rfl (by decide)), ?_⟩
                  obtain ⟨p38, s37, e_s37, h⟩ := fg_b_s h
                  refine ft_Jx4a65c_size_8abf5 hR hF f_a35 e_s37 (fun b_s37 S_s37 x_s37 r_s37 F_s37 => ?_)
                  obtain ⟨q, q2⟩ := fg_ret h
                  subst q
                  subst q2
                  exact hQ _ _ x_s37 r_s37 F_s37
                · have h := fg_if_e d h
                  refine fg_ite Iff.rfl (fun d => ?_) (fun d => ?_)
                  · have h := fg_if_t d h
                    refine ⟨(cr_k hR f_o0).trans (cf_k (a := 0) hF rfl (by decide)), ?_⟩
                    try simp -zeta -zetaUnused only [cr_i hR f_o0]
                    obtain ⟨q, q2⟩ := fg_ret h
                    subst q
                    subst q2
                    exact hQ _ _ cr_xr hR hF
                  · have h := fg_if_e d h
                    obtain ⟨q, q2⟩ := fg_ret h
                    subst q
                    subst q2
                    exact hQ _ _ cr_xr hR hF
