set_option maxRecDepth 100000 in
set_option maxHeartbeats 4000000 in
theorem ft_X11_put_127 {E : h_S} {g : h_G} {r : Int32} {t : h_S} {Q : Int32 → h_S → Prop} : ∀ (n : Nat) {b : Nat → Nat} {s S_s : h_S} {C D bc bs : Nat} {A_o0 : Nat} {x1 : Int32} {x3 : Int32} {x5 : Int32} {x6 : Int32} {x8 : Int32} {x9 : Int32}, c_R E g b s S_s → c_F s → c_at b s 0 A_o0 → fn_X11_put_127 n x1 x3 x5 x6 x8 x9 s = some (r, t, C, D) → (∀ (b2 : Nat → Nat) (S2 : h_S), c_ext b s b2 t → c_R E g b2 t S2 → c_F t → Q r S2) → C ≤ bc → D ≤ bs → w_X11_put_127 g Q n A_o0 x1 x3 x5 x6 x8 x9 S_s bc bs := by
  intro n
  induction n with
  | zero => intros; rename_i h _ _ _; exact fg_none h
  | succ n ih => exact ft_X11_put_127b @ih
set_option maxRecDepth 100000 in
set_option maxHeartbeats 4000000 in
theorem ft_X11_put {E : h_S} {g : h_G} {r : Int32} {t : h_S} {Q : Int32 → h_S → Prop} {b : Nat → Nat} {s S_s : h_S} {C0 D0 mc ms : Nat} {A_o0 : Nat} {x1 : Int32} {x2 : Int32} {x3 : Int32} {x4 : Int32} {x5 : Int32} {x6 : Int32} (hR : c_R E g b s S_s) (hF : c_F s) (f_o0 : c_at b s 0 A_o0) (h : fn_X11_put x1 x2 x3 x4 x5 x6 s = some (r, t, C0, D0)) (hQ : ∀ (b2 : Nat → Nat) (S2 : h_S), c_ext b s b2 t → c_R E g b2 t S2 → c_F t → Q r S2) (hc : C0 ≤ mc) (hd : D0 ≤ ms) : w_X11_put g A_o0 x1 x2 x3 x4 x5 x6 S_s mc ms Q := by
  unfold fn_X11_put at h
  unfold w_X11_put
  refine ⟨(cr_k hR f_o0).trans (cf_k (a := 0) hF rfl (by decide)), ?_⟩
  obtain ⟨s2, e_s2, h⟩ := fg_let_s h
  intro S_s2
  have r_s2 : c_R E g b s2 S_s2 := by rw [e_s2]; exact cr_si hR f_o0 _ _
  have F_s2 : c_F s2 := by rw [e_s2]; exact cf_si hF _ _
  have x_s2 : c_ext b s b s2 := by rw [e_s2]; exact cx_si _ _
  clear_value S_s2
  obtain ⟨p4, s3, mc5, ms6, C_s3, D_s3, e_s3, h, q_s3, w_s3⟩ := fg_bc_s h
  obtain ⟨u1_s3, hc⟩ := fg_sp q_s3 hc
  obtain ⟨u2_s3, hd⟩ := fg_sp w_s3 hd
  refine ⟨mc5, ms6, u1_s3, u2_s3, ft_X11_takesAhead r_s2 F_s2 (cr_atx f_o0 x_s2) e_s3 (fun b_s3 S_s3 x_s3 r_s3 F_s3 => ?_) (Nat.le_refl _) (Nat.le_refl _)⟩
  refine fg_ite Iff.rfl (fun d => ?_) (fun d => ?_)
  · have h := fg_if_t d h
    unfold w_X11_put_22
    obtain ⟨q, q2⟩ := fg_retc h
    subst q
    subst q2
    exact hQ _ _ (cr_xt x_s2 x_s3) r_s3 F_s3
  · have h := fg_if_e d h
    obtain ⟨p11, s10, e_s10, h⟩ := fg_b_s h
    refine ft_X11_within r_s3 F_s3 e_s10 (fun b_s10 S_s10 x_s10 r_s10 F_s10 => ?_)
    refine fg_ite Iff.rfl (fun d => ?_) (fun d => ?_)
    · have h := fg_if_t d h
      unfold w_X11_put_22
      obtain ⟨q, q2⟩ := fg_retc h
      subst q
      subst q2
      exact hQ _ _ (cr_xt x_s2 (cr_xt x_s3 x_s10)) r_s10 F_s10
    · have h := fg_if_e d h
      refine ⟨(cr_k r_s10 (cr_atx (cr_atx (cr_atx f_o0 x_s2) x_s3) x_s10)).trans (cf_k (a := 0) F_s10 rfl (by decide)), ?_⟩
      obtain ⟨p15, s14, e_s14, h⟩ := fg_b_s h
      refine ft_X11_refusedCells r_s10 F_s10 (cr_atx (cr_atx (cr_atx f_o0 x_s2) x_s3) x_s10) e_s14 (fun b_s14 S_s14 x_s14 r_s14 F_s14 => ?_)
      refine fg_ite Iff.rfl (fun d => ?_) (fun d => ?_)
      · have h := fg_if_t d h
        refine fg_ite Iff.rfl (fun d => ?_) (fun d => ?_)
        · have h := fg_if_t d h
          unfold w_X11_put_66
          obtain ⟨q, q2⟩ := fg_retc h
          subst q
          subst q2
          exact hQ _ _ (cr_xt x_s2 (cr_xt x_s3 (cr_xt x_s10 x_s14))) r_s14 F_s14
        · have h := fg_if_e d h
          refine ⟨(cr_k r_s14 (cr_atx (cr_atx (cr_atx (cr_atx f_o0 x_s2) x_s3) x_s10) x_s14)).trans (cf_k (a := 0) F_s14 rfl (by decide)), ?_⟩
          obtain ⟨A_a19, w_a19, f_a19⟩ := cr_aos (cr_r r_s14 (cr_atx (cr_atx (cr_atx (cr_atx f_o0 x_s2) x_s3) x_s10) x_s14) _) (cf_r (a := 0) (j := 9) (y := 9) F_s14 rfl)
          refine ⟨A_a19, w_a19, ?_⟩
          refine ⟨(cr_k r_s14 f_a19).trans (cf_k (a := 9) F_s14 rfl (by decide)), ?_⟩
          obtain ⟨c, h⟩ := fg_g_s h
          refine ⟨cr_vp (cr_n r_s14 f_a19) (cf_n (a := 9) F_s14 rfl (by decide) rfl) c, ?_⟩
          obtain ⟨a22, o_a22, h⟩ := fg_o_s h
          obtain ⟨A_a22, w_a22, f_a22⟩ := cr_aos (cr_r r_s14 f_a19 _) o_a22
          refine ⟨A_a22, w_a22, ?_⟩
          obtain ⟨c_a22_1, h⟩ := fg_g_s h
          refine ⟨(cr_k r_s14 f_a22).trans c_a22_1, ?_⟩
          obtain ⟨p25, s24, e_s24, h⟩ := fg_b_s h
          refine ft_X5_areCodes r_s14 F_s14 f_a22 e_s24 (fun b_s24 S_s24 x_s24 r_s24 F_s24 => ?_)
          refine fg_ite Iff.rfl (fun d => ?_) (fun d => ?_)
          · have h := fg_if_t d h
            unfold w_X11_put_66
            obtain ⟨q, q2⟩ := fg_retc h
            subst q
            subst q2
            exact hQ _ _ (cr_xt x_s2 (cr_xt x_s3 (cr_xt x_s10 (cr_xt x_s14 x_s24)))) r_s24 F_s24
          · have h := fg_if_e d h
            refine ⟨(cr_k r_s24 (cr_atx (cr_atx (cr_atx (cr_atx (cr_atx f_o0 x_s2) x_s3) x_s10) x_s14) x_s24)).trans (cf_k (a := 0) F_s24 rfl (by decide)), ?_⟩
            obtain ⟨A_a28, w_a28, f_a28⟩ := cr_aos (cr_r r_s24 (cr_atx (cr_atx (cr_atx (cr_atx (cr_atx f_o0 x_s2) x_s3) x_s10) x_s14) x_s24) _) (cf_r (a := 0) (j := 4) (y := 3) F_s24 rfl)
            refine ⟨A_a28, w_a28, ?_⟩
            refine ⟨(cr_k r_s24 f_a28).trans (cf_k (a := 3) F_s24 rfl (by decide)), ?_⟩
            obtain ⟨p31, s30, e_s30, h⟩ := fg_b_s h
            refine ft_X7_wordCount r_s24 F_s24 f_a28 e_s30 (fun b_s30 S_s30 x_s30 r_s30 F_s30 => ?_)
            refine fg_ite Iff.rfl (fun d => ?_) (fun d => ?_)
            · have h := fg_if_t d h
              unfold w_X11_put_121
              obtain ⟨q, q2⟩ := fg_retc h
              subst q
              subst q2
              exact hQ _ _ (cr_xt x_s2 (cr_xt x_s3 (cr_xt x_s10 (cr_xt x_s14 (cr_xt x_s24 x_s30))))) r_s30 F_s30
            · have h := fg_if_e d h
              refine ⟨(cr_k r_s30 (cr_atx (cr_atx (cr_atx (cr_atx (cr_atx (cr_atx f_o0 x_s2) x_s3) x_s10) x_s14) x_s24) x_s30)).trans (cf_k (a := 0) F_s30 rfl (by decide)), ?_⟩
              obtain ⟨q34, e_q34, h⟩ := fg_let_s h
              have z_q34 : h_k s30 q34 = 0 := cf_z F_s30 e_q34
              obtain ⟨C_q34, D_q34, h, q_q34, w_q34⟩ := fg_c_s h
              obtain ⟨u1_q34, hc⟩ := fg_sp q_q34 hc
              obtain ⟨u2_q34, hd⟩ := fg_sp w_q34 hd
              refine ⟨u1_q34, u2_q34, fun A_q34 Z_q34 => ?_⟩
              obtain ⟨s38, e_s38, h⟩ := fg_let_s h
              intro S_s38
              have r_s38 : c_R E g (c_up b_s30 q34 A_q34) s38 S_s38 := by rw [e_s38]; exact cr_nw r_s30 z_q34 Z_q34 (by decide)
              have F_s38 : c_F s38 := by rw [e_s38]; exact cf_nw F_s30 e_q34 (by decide)
              have x_s38 : c_ext b_s30 s30 (c_up b_s30 q34 A_q34) s38 := by rw [e_s38]; exact cx_new z_q34
              have f_q34 : c_at (c_up b_s30 q34 A_q34) s38 q34 A_q34 := by rw [e_s38]; exact ca_nw (by decide)
              clear_value S_s38
              intro c39
              have hc : _ ≤ c39 := hc
              clear_value c39
              intro d40
              have hd : _ ≤ d40 := hd
              clear_value d40
              obtain ⟨u_, s41, e_s41, h⟩ := fg_b_s h
              refine ft_X2_init r_s38 F_s38 f_q34 e_s41 (fun b_s41 S_s41 x_s41 r_s41 F_s41 => ?_)
              refine ⟨(cr_k r_s41 (cr_atx (cr_atx (cr_atx (cr_atx (cr_atx (cr_atx (cr_atx (cr_atx f_o0 x_s2) x_s3) x_s10) x_s14) x_s24) x_s30) x_s38) x_s41)).trans (cf_k (a := 0) F_s41 rfl (by decide)), ?_⟩
              obtain ⟨A_a44, w_a44, f_a44⟩ := cr_aos (cr_r r_s30 (cr_atx (cr_atx (cr_atx (cr_atx (cr_atx (cr_atx f_o0 x_s2) x_s3) x_s10) x_s14) x_s24) x_s30) _) (cf_r (a := 0) (j := 4) (y := 3) F_s30 rfl)
              refine ⟨A_a44, w_a44, ?_⟩
              refine ⟨(cr_k r_s41 (cr_atx (cr_atx f_a44 x_s38) x_s41)).trans (cf_k (a := 3) F_s41 rfl (by decide)), ?_⟩
              try simp -zeta -zetaUnused only [cr_i r_s41 (cr_atx (cr_atx (cr_atx (cr_atx (cr_atx (cr_atx (cr_atx (cr_atx f_o0 x_s2) x_s3) x_s10) x_s14) x_s24) x_s30) x_s38) x_s41)]
              obtain ⟨p47, s46, mc48, ms49, C_s46, D_s46, e_s46, h, q_s46, w_s46⟩ := fg_bc_s h
              obtain ⟨u1_s46, hc⟩ := fg_sp q_s46 hc
              obtain ⟨u2_s46, hd⟩ := fg_sp w_s46 hd
              refine ⟨mc48, ms49, u1_s46, u2_s46, ft_X7_bring r_s41 F_s41 (cr_atx (cr_atx f_a44 x_s38) x_s41) (cr_some (cr_atx f_q34 x_s41)) e_s46 (fun b_s46 S_s46 x_s46 r_s46 F_s46 => ?_) (Nat.le_refl _) (Nat.le_refl _)⟩
              refine fg_ite Iff.rfl (fun d => ?_) (fun d => ?_)
              · have h := fg_if_t d h
                unfold w_X11_put_121
                obtain ⟨q, q2⟩ := fg_retc h
                subst q
                subst q2
                exact hQ _ _ (cr_xt x_s2 (cr_xt x_s3 (cr_xt x_s10 (cr_xt x_s14 (cr_xt x_s24 (cr_xt x_s30 (cr_xt x_s38 (cr_xt x_s41 x_s46)))))))) r_s46 F_s46
              · have h := fg_if_e d h
                exact ⟨g_N, ft_X11_put_127 g_N r_s46 F_s46 (cr_atx (cr_atx (cr_atx (cr_atx (cr_atx (cr_atx (cr_atx (cr_atx (cr_atx f_o0 x_s2) x_s3) x_s10) x_s14) x_s24) x_s30) x_s38) x_s41) x_s46) h (fun b2 S2 x2 => hQ b2 S2 (cr_xt (cr_xt x_s2 (cr_xt x_s3 (cr_xt x_s10 (cr_xt x_s14 (cr_xt x_s24 (cr_xt x_s30 (cr_xt x_s38 (cr_xt x_s41 x_s46)))))))) x2)) hc hd⟩
      · have h := fg_if_e d h
        obtain ⟨q, q2⟩ := fg_retc h
        subst q
        subst q2
        exact hQ _ _ (cr_xt x_s2 (cr_xt x_s3 (cr_xt x_s10 x_s14))) r_s14 F_s14
set_option maxRecDepth 100000 in
set_option maxHeartbeats 4000000 in
theorem ft_X11_allows {E : h_S} {g : h_G} {r : Int32} {t : h_S} {Q : Int32 → h_S → Prop} {b : Nat → Nat} {s S_s : h_S} {A_o0 : Nat} {r1 : Option Nat} {R_r1 : Option Nat} {x2 : Int32} {x3 : Int32} {x4 : Int32} (hR : c_R E g b s S_s) (hF : c_F s) (f_o0 : c_at b s 0 A_o0) (f_r1 : c_ao b s r1 R_r1) (h : fn_X11_allows r1 x2 x3 x4 s = some (r, t)) (hQ : ∀ (b2 : Nat → Nat) (S2 : h_S), c_ext b s b2 t → c_R E g b2 t S2 → c_F t → Q r S2) : w_X11_allows A_o0 R_r1 x2 x3 x4 S_s Q := by
  unfold fn_X11_allows at h
  unfold w_X11_allows
  obtain ⟨a1, o_a1, h⟩ := fg_o_s h
  obtain ⟨A_a1, w_a1, f_a1⟩ := cr_aos f_r1 o_a1
  refine ⟨A_a1, w_a1, ?_⟩
  obtain ⟨c_a1_1, h⟩ := fg_g_s h
  refine ⟨(cr_k hR f_a1).trans c_a1_1, ?_⟩
  obtain ⟨p4, s3, e_s3, h⟩ := fg_b_s h
  refine ft_X3_holdsAt hR hF f_a1 e_s3 (fun b_s3 S_s3 x_s3 r_s3 F_s3 => ?_)
  refine fg_ite Iff.rfl (fun d => ?_) (fun d => ?_)
  · have h := fg_if_t d h
    unfold w_X11_allows_20
    obtain ⟨q, q2⟩ := fg_ret h
    subst q
    subst q2
    exact hQ _ _ x_s3 r_s3 F_s3
  · have h := fg_if_e d h
    obtain ⟨a6, o_a6, h⟩ := fg_o_s h
    obtain ⟨A_a6, w_a6, f_a6⟩ := cr_aos f_r1 o_a6
    refine ⟨A_a6, w_a6, ?_⟩
    obtain ⟨c_a6_2, h⟩ := fg_g_s h
    refine ⟨(cr_k r_s3 (cr_atx f_a6 x_s3)).trans c_a6_2, ?_⟩
    try simp -zeta -zetaUnused only [cr_i r_s3 (cr_atx f_a6 x_s3)]
    refine fg_ite Iff.rfl (fun d => ?_) (fun d => ?_)
    · have h := fg_if_t d h
      unfold w_X11_allows_20
      obtain ⟨q, q2⟩ := fg_ret h
      subst q
      subst q2
      exact hQ _ _ x_s3 r_s3 F_s3
    · have h := fg_if_e d h
      obtain ⟨a9, o_a9, h⟩ := fg_o_s h
      obtain ⟨A_a9, w_a9, f_a9⟩ := cr_aos f_r1 o_a9
      refine ⟨A_a9, w_a9, ?_⟩
      obtain ⟨c_a9_3, h⟩ := fg_g_s h
      refine ⟨(cr_k r_s3 (cr_atx f_a9 x_s3)).trans c_a9_3, ?_⟩
      obtain ⟨p12, s11, e_s11, h⟩ := fg_b_s h
      refine ft_X3_isLent r_s3 F_s3 (cr_atx f_a9 x_s3) e_s11 (fun b_s11 S_s11 x_s11 r_s11 F_s11 => ?_)
      refine fg_ite Iff.rfl (fun d => ?_) (fun d => ?_)
      · have h := fg_if_t d h
        obtain ⟨a14, o_a14, h⟩ := fg_o_s h
        obtain ⟨A_a14, w_a14, f_a14⟩ := cr_aos f_r1 o_a14
        refine ⟨A_a14, w_a14, ?_⟩
        obtain ⟨c_a14_4, h⟩ := fg_g_s h
        refine ⟨(cr_k r_s11 (cr_atx (cr_atx f_a14 x_s3) x_s11)).trans c_a14_4, ?_⟩
        refine ⟨(cr_k r_s11 (cr_atx (cr_atx f_o0 x_s3) x_s11)).trans (cf_k (a := 0) F_s11 rfl (by decide)), ?_⟩
        try simp -zeta -zetaUnused only [cr_i r_s11 (cr_atx (cr_atx f_a14 x_s3) x_s11)]
        obtain ⟨p18, s17, e_s17, h⟩ := fg_b_s h
        refine ft_X11_groupAsOf r_s11 F_s11 (cr_atx (cr_atx f_o0 x_s3) x_s11) e_s17 (fun b_s17 S_s17 x_s17 r_s17 F_s17 => ?_)
        refine fg_ite Iff.rfl (fun d => ?_) (fun d => ?_)
        · have h := fg_if_t d h
          unfold w_X11_allows_69
          refine ⟨Or.inr rfl, ?_⟩
          obtain ⟨q, q2⟩ := fg_ret h
          subst q
          subst q2
          exact hQ _ _ (cr_xt x_s3 (cr_xt x_s11 x_s17)) r_s17 F_s17
        · have h := fg_if_e d h
          unfold w_X11_allows_69
          refine ⟨Or.inl rfl, ?_⟩
          obtain ⟨q, q2⟩ := fg_ret h
          subst q
          subst q2
          exact hQ _ _ (cr_xt x_s3 (cr_xt x_s11 x_s17)) r_s17 F_s17
      · have h := fg_if_e d h
        obtain ⟨a20, o_a20, h⟩ := fg_o_s h
        obtain ⟨A_a20, w_a20, f_a20⟩ := cr_aos f_r1 o_a20
        refine ⟨A_a20, w_a20, ?_⟩
        obtain ⟨c_a20_4, h⟩ := fg_g_s h
        refine ⟨(cr_k r_s11 (cr_atx (cr_atx f_a20 x_s3) x_s11)).trans c_a20_4, ?_⟩
        try simp -zeta -zetaUnused only [cr_i r_s11 (cr_atx (cr_atx f_a20 x_s3) x_s11)]
        refine fg_ite Iff.rfl (fun d => ?_) (fun d => ?_)
        · have h := fg_if_t d h
          unfold w_X11_allows_45
          refine ⟨Or.inr rfl, ?_⟩
          obtain ⟨q, q2⟩ := fg_ret h
          subst q
          subst q2
          exact hQ _ _ (cr_xt x_s3 x_s11) r_s11 F_s11
        · have h := fg_if_e d h
          unfold w_X11_allows_45
          refine ⟨Or.inl rfl, ?_⟩
          obtain ⟨q, q2⟩ := fg_ret h
          subst q
          subst q2
          exact hQ _ _ (cr_xt x_s3 x_s11) r_s11 F_s11
set_option maxRecDepth 100000 in
set_option maxHeartbeats 4000000 in
theorem ft_X11_reason_18b {E : h_S} {g : h_G} {r : Int32} {t : h_S} {Q : Int32 → h_S → Prop} {K18 : Int32 → Int32 → Int32 → Int32 → Int32 → h_S → Option ((Int32) × h_S)} {WK18 : Nat → Int32 → Int32 → Int32 → Int32 → Int32 → h_S → Prop} (hK18 : ∀ {b : Nat → Nat} {s S_s : h_S} {A_o0 : Nat} {x1 : Int32} {x2 : Int32} {x3 : Int32} {x4 : Int32} {x5 : Int32}, c_R E g b s S_s → c_F s → c_at b s 0 A_o0 → K18 x1 x2 x3 x4 x5 s = some (r, t) → (∀ (b2 : Nat → Nat) (S2 : h_S), c_ext b s b2 t → c_R E g b2 t S2 → c_F t → Q r S2) → WK18 A_o0 x1 x2 x3 x4 x5 S_s) {b : Nat → Nat} {s S_s : h_S} {A_o0 : Nat} {x1 : Int32} {x2 : Int32} {x3 : Int32} {x4 : Int32} {x5 : Int32} (hR : c_R E g b s S_s) (hF : c_F s) (f_o0 : c_at b s 0 A_o0) (h : fn_X11_reason_18b K18 x1 x2 x3 x4 x5 s = some (r, t)) (hQ : ∀ (b2 : Nat → Nat) (S2 : h_S), c_ext b s b2 t → c_R E g b2 t S2 → c_F t → Q r S2) : w_X11_reason_18b Q WK18 A_o0 x1 x2 x3 x4 x5 S_s := by
  unfold fn_X11_reason_18b at h
  unfold w_X11_reason_18b
  refine ⟨(cr_k hR f_o0).trans (cf_k (a := 0) hF rfl (by decide)), ?_⟩
  obtain ⟨A_a2, w_a2, f_a2⟩ := cr_aos (cr_r hR f_o0 _) (cf_r (a := 0) (j := 8) (y := 8) hF rfl)
  refine ⟨A_a2, w_a2, ?_⟩
  refine ⟨(cr_k hR f_a2).trans (cf_k (a := 8) hF rfl (by decide)), ?_⟩
  obtain ⟨p5, s4, e_s4, h⟩ := fg_b_s h
  refine ft_Jx4a65c_size_8abf5 hR hF f_a2 e_s4 (fun b_s4 S_s4 x_s4 r_s4 F_s4 => ?_)
  refine fg_ite Iff.rfl (fun d => ?_) (fun d => ?_)
  · have h := fg_if_t d h
    obtain ⟨q, q2⟩ := fg_ret h
    subst q
    subst q2
    exact hQ _ _ x_s4 r_s4 F_s4
  · have h := fg_if_e d h
    refine ⟨(cr_k r_s4 (cr_atx f_o0 x_s4)).trans (cf_k (a := 0) F_s4 rfl (by decide)), ?_⟩
    obtain ⟨A_a8, w_a8, f_a8⟩ := cr_aos (cr_r r_s4 (cr_atx f_o0 x_s4) _) (cf_r (a := 0) (j := 8) (y := 8) F_s4 rfl)
    refine ⟨A_a8, w_a8, ?_⟩
    refine ⟨(cr_k r_s4 f_a8).trans (cf_k (a := 8) F_s4 rfl (by decide)), ?_⟩
    obtain ⟨p11, s10, e_s10, h⟩ := fg_b_s h
    refine ft_Jx4a65c_get_915e3 r_s4 F_s4 f_a8 e_s10 (fun b_s10 R_p11 S_s10 x_s10 r_s10 F_s10 f_p11 => ?_)
    obtain ⟨c, h⟩ := fg_g_s h
    refine ⟨cr_cast r_s10 f_p11 c, ?_⟩
    obtain ⟨a13, o_a13, h⟩ := fg_o_s h
    obtain ⟨A_a13, w_a13, f_a13⟩ := cr_aos f_p11 o_a13
    refine ⟨A_a13, w_a13, ?_⟩
    obtain ⟨c_a13_1, h⟩ := fg_g_s h
    refine ⟨(cr_k r_s10 f_a13).trans c_a13_1, ?_⟩
    try simp -zeta -zetaUnused only [cr_i r_s10 f_a13]
    refine fg_ite Iff.rfl (fun d => ?_) (fun d => ?_)
    · have h := fg_if_t d h
      refine ⟨(cr_k r_s10 (cr_atx (cr_atx f_o0 x_s4) x_s10)).trans (cf_k (a := 0) F_s10 rfl (by decide)), ?_⟩
      obtain ⟨p18, s17, e_s17, h⟩ := fg_b_s h
      refine ft_X11_allows r_s10 F_s10 (cr_atx (cr_atx f_o0 x_s4) x_s10) f_p11 e_s17 (fun b_s17 S_s17 x_s17 r_s17 F_s17 => ?_)
      refine fg_ite Iff.rfl (fun d => ?_) (fun d => ?_)
      · have h := fg_if_t d h
        unfold w_X11_reason_69
        exact hK18 r_s17 F_s17 (cr_atx (cr_atx (cr_atx f_o0 x_s4) x_s10) x_s17) h (fun b2 S2 x2 => hQ b2 S2 (cr_xt (cr_xt x_s4 (cr_xt x_s10 x_s17)) x2))
      · have h := fg_if_e d h
        obtain ⟨q, q2⟩ := fg_ret h
        subst q
        subst q2
        exact hQ _ _ (cr_xt x_s4 (cr_xt x_s10 x_s17)) r_s17 F_s17
    · have h := fg_if_e d h
      unfold w_X11_reason_69
      exact hK18 r_s10 F_s10 (cr_atx (cr_atx f_o0 x_s4) x_s10) h (fun b2 S2 x2 => hQ b2 S2 (cr_xt (cr_xt x_s4 x_s10) x2))
set_option maxRecDepth 100000 in
set_option maxHeartbeats 4000000 in
theorem ft_X11_reason_18 {E : h_S} {g : h_G} {r : Int32} {t : h_S} {Q : Int32 → h_S → Prop} : ∀ (n : Nat) {b : Nat → Nat} {s S_s : h_S} {A_o0 : Nat} {x1 : Int32} {x2 : Int32} {x3 : Int32} {x4 : Int32} {x5 : Int32}, c_R E g b s S_s → c_F s → c_at b s 0 A_o0 → fn_X11_reason_18 n x1 x2 x3 x4 x5 s = some (r, t) → (∀ (b2 : Nat → Nat) (S2 : h_S), c_ext b s b2 t → c_R E g b2 t S2 → c_F t → Q r S2) → w_X11_reason_18 Q n A_o0 x1 x2 x3 x4 x5 S_s := by
  intro n
  induction n with
  | zero => intros; rename_i h _; exact fg_none h
  | succ n ih => exact ft_X11_reason_18b @ih
set_option maxRecDepth 100000 in
set_option maxHeartbeats 4000000 in
theorem ft_X11_reason {E : h_S} {g : h_G} {r : Int32} {t : h_S} {Q : Int32 → h_S → Prop} {b : Nat → Nat} {s S_s : h_S} {A_o0 : Nat} {x1 : Int32} {x2 : Int32} {x3 : Int32} {x4 : Int32} (hR : c_R E g b s S_s) (hF : c_F s) (f_o0 : c_at b s 0 A_o0) (h : fn_X11_reason x1 x2 x3 x4 s = some (r, t)) (hQ : ∀ (b2 : Nat → Nat) (S2 : h_S), c_ext b s b2 t → c_R E g b2 t S2 → c_F t → Q r S2) : w_X11_reason A_o0 x1 x2 x3 x4 S_s Q := by
  unfold fn_X11_reason at h
  unfold w_X11_reason
  refine ⟨(cr_k hR f_o0).trans (cf_k (a := 0) hF rfl (by decide)), ?_⟩
  obtain ⟨A_a2, w_a2, f_a2⟩ := cr_aos (cr_r hR f_o0 _) (cf_r (a := 0) (j := 4) (y := 3) hF rfl)
  refine ⟨A_a2, w_a2, ?_⟩
  refine ⟨(cr_k hR f_a2).trans (cf_k (a := 3) hF rfl (by decide)), ?_⟩
  obtain ⟨p5, s4, e_s4, h⟩ := fg_b_s h
  refine ft_X7_ownerOf hR hF f_a2 e_s4 (fun b_s4 S_s4 x_s4 r_s4 F_s4 => ?_)
  refine fg_ite Iff.rfl (fun d => ?_) (fun d => ?_)
  · have h := fg_if_t d h
    obtain ⟨q, q2⟩ := fg_ret h
    subst q
    subst q2
    exact hQ _ _ x_s4 r_s4 F_s4
  · have h := fg_if_e d h
    exact ⟨g_N, ft_X11_reason_18 g_N r_s4 F_s4 (cr_atx f_o0 x_s4) h (fun b2 S2 x2 => hQ b2 S2 (cr_xt x_s4 x2))⟩
set_option maxRecDepth 100000 in
set_option maxHeartbeats 4000000 in
theorem ft_X11_mayUse {E : h_S} {g : h_G} {r : Int32} {t : h_S} {Q : Int32 → h_S → Prop} {b : Nat → Nat} {s S_s : h_S} {A_o0 : Nat} {x1 : Int32} {x2 : Int32} {x3 : Int32} {x4 : Int32} (hR : c_R E g b s S_s) (hF : c_F s) (f_o0 : c_at b s 0 A_o0) (h : fn_X11_mayUse x1 x2 x3 x4 s = some (r, t)) (hQ : ∀ (b2 : Nat → Nat) (S2 : h_S), c_ext b s b2 t → c_R E g b2 t S2 → c_F t → Q r S2) : w_X11_mayUse A_o0 x1 x2 x3 x4 S_s Q := by
  unfold fn_X11_mayUse at h
  unfold w_X11_mayUse
  refine ⟨(cr_k hR f_o0).trans (cf_k (a := 0) hF rfl (by decide)), ?_⟩
  obtain ⟨p3, s2, e_s2, h⟩ := fg_b_s h
  refine ft_X11_reason hR hF f_o0 e_s2 (fun b_s2 S_s2 x_s2 r_s2 F_s2 => ?_)
  refine fg_ite Iff.rfl (fun d => ?_) (fun d => ?_)
  · have h := fg_if_t d h
    unfold w_X11_mayUse_19
    refine ⟨Or.inl rfl, ?_⟩
    obtain ⟨q, q2⟩ := fg_ret h
    subst q
    subst q2
    exact hQ _ _ x_s2 r_s2 F_s2
  · have h := fg_if_e d h
    unfold w_X11_mayUse_19
    refine ⟨Or.inr rfl, ?_⟩
    obtain ⟨q, q2⟩ := fg_ret h
    subst q
    subst q2
    exact hQ _ _ x_s2 r_s2 F_s2
set_option maxRecDepth 100000 in
set_option maxHeartbeats 4000000 in
theorem ft_X11_usable_6b {E : h_S} {g : h_G} {r : Int32} {t : h_S} {Q : Int32 → h_S → Prop} {K6 : Int32 → Int32 → Int32 → Int32 → Int32 → h_S → Option ((Int32) × h_S)} {WK6 : Nat → Int32 → Int32 → Int32 → Int32 → Int32 → h_S → Prop} (hK6 : ∀ {b : Nat → Nat} {s S_s : h_S} {A_o0 : Nat} {x1 : Int32} {x2 : Int32} {x3 : Int32} {x4 : Int32} {x5 : Int32}, c_R E g b s S_s → c_F s → c_at b s 0 A_o0 → K6 x1 x2 x3 x4 x5 s = some (r, t) → (∀ (b2 : Nat → Nat) (S2 : h_S), c_ext b s b2 t → c_R E g b2 t S2 → c_F t → Q r S2) → WK6 A_o0 x1 x2 x3 x4 x5 S_s) {b : Nat → Nat} {s S_s : h_S} {A_o0 : Nat} {x1 : Int32} {x2 : Int32} {x3 : Int32} {x4 : Int32} {x5 : Int32} (hR : c_R E g b s S_s) (hF : c_F s) (f_o0 : c_at b s 0 A_o0) (h : fn_X11_usable_6b K6 x1 x2 x3 x4 x5 s = some (r, t)) (hQ : ∀ (b2 : Nat → Nat) (S2 : h_S), c_ext b s b2 t → c_R E g b2 t S2 → c_F t → Q r S2) : w_X11_usable_6b Q WK6 A_o0 x1 x2 x3 x4 x5 S_s := by
  unfold fn_X11_usable_6b at h
  unfold w_X11_usable_6b
  refine ⟨(cr_k hR f_o0).trans (cf_k (a := 0) hF rfl (by decide)), ?_⟩
  obtain ⟨A_a2, w_a2, f_a2⟩ := cr_aos (cr_r hR f_o0 _) (cf_r (a := 0) (j := 4) (y := 3) hF rfl)
  refine ⟨A_a2, w_a2, ?_⟩
  refine ⟨(cr_k hR f_a2).trans (cf_k (a := 3) hF rfl (by decide)), ?_⟩
  try simp -zeta -zetaUnused only [cr_i hR f_a2]
  refine fg_ite Iff.rfl (fun d => ?_) (fun d => ?_)
  · have h := fg_if_t d h
    obtain ⟨q, q2⟩ := fg_ret h
    subst q
    subst q2
    exact hQ _ _ cr_xr hR hF
  · have h := fg_if_e d h
    obtain ⟨p6, s5, e_s5, h⟩ := fg_b_s h
    refine ft_X11_mayUse hR hF f_o0 e_s5 (fun b_s5 S_s5 x_s5 r_s5 F_s5 => ?_)
    refine fg_ite Iff.rfl (fun d => ?_) (fun d => ?_)
    · have h := fg_if_t d h
      unfold w_X11_usable_39
      exact hK6 r_s5 F_s5 (cr_atx f_o0 x_s5) h (fun b2 S2 x2 => hQ b2 S2 (cr_xt x_s5 x2))
    · have h := fg_if_e d h
      obtain ⟨v8, e_v8, h⟩ := fg_let_s h
      intro S_v8
      have z_v8 : v8 = S_v8 := e_v8
      clear_value S_v8
      subst z_v8
      unfold w_X11_usable_39
      exact hK6 r_s5 F_s5 (cr_atx f_o0 x_s5) h (fun b2 S2 x2 => hQ b2 S2 (cr_xt x_s5 x2))
set_option maxRecDepth 100000 in
set_option maxHeartbeats 4000000 in
theorem ft_X11_usable_6 {E : h_S} {g : h_G} {r : Int32} {t : h_S} {Q : Int32 → h_S → Prop} : ∀ (n : Nat) {b : Nat → Nat} {s S_s : h_S} {A_o0 : Nat} {x1 : Int32} {x2 : Int32} {x3 : Int32} {x4 : Int32} {x5 : Int32}, c_R E g b s S_s → c_F s → c_at b s 0 A_o0 → fn_X11_usable_6 n x1 x2 x3 x4 x5 s = some (r, t) → (∀ (b2 : Nat → Nat) (S2 : h_S), c_ext b s b2 t → c_R E g b2 t S2 → c_F t → Q r S2) → w_X11_usable_6 Q n A_o0 x1 x2 x3 x4 x5 S_s := by
  intro n
  induction n with
  | zero => intros; rename_i h _; exact fg_none h
  | succ n ih => exact ft_X11_usable_6b @ih
set_option maxRecDepth 100000 in
set_option maxHeartbeats 4000000 in
theorem ft_X11_usable {E : h_S} {g : h_G} {r : Int32} {t : h_S} {Q : Int32 → h_S → Prop} {b : Nat → Nat} {s S_s : h_S} {A_o0 : Nat} {x1 : Int32} {x2 : Int32} {x3 : Int32} (hR : c_R E g b s S_s) (hF : c_F s) (f_o0 : c_at b s 0 A_o0) (h : fn_X11_usable x1 x2 x3 s = some (r, t)) (hQ : ∀ (b2 : Nat → Nat) (S2 : h_S), c_ext b s b2 t → c_R E g b2 t S2 → c_F t → Q r S2) : w_X11_usable A_o0 x1 x2 x3 S_s Q := by
  unfold fn_X11_usable at h
  unfold w_X11_usable
  exact ⟨g_N, ft_X11_usable_6 g_N hR hF f_o0 h (fun b2 S2 x2 => hQ b2 S2 (cr_xt cr_xr x2))⟩
set_option maxRecDepth 100000 in
set_option maxHeartbeats 4000000 in
theorem ft_X11_showsWith {E : h_S} {g : h_G} {r : Int32} {t : h_S} {Q : Int32 → h_S → Prop} {b : Nat → Nat} {s S_s : h_S} {C0 D0 mc ms : Nat} {A_o0 : Nat} {x1 : Int32} {x2 : Int32} {r3 : Option Nat} {R_r3 : Option Nat} (hR : c_R E g b s S_s) (hF : c_F s) (f_o0 : c_at b s 0 A_o0) (f_r3 : c_ao b s r3 R_r3) (h : fn_X11_showsWith x1 x2 r3 s = some (r, t, C0, D0)) (hQ : ∀ (b2 : Nat → Nat) (S2 : h_S), c_ext b s b2 t → c_R E g b2 t S2 → c_F t → Q r S2) (hc : C0 ≤ mc) (hd : D0 ≤ ms) : w_X11_showsWith A_o0 x1 x2 R_r3 S_s mc ms Q := by
  unfold fn_X11_showsWith at h
  unfold w_X11_showsWith
  refine ⟨(cr_k hR f_o0).trans (cf_k (a := 0) hF rfl (by decide)), ?_⟩
  obtain ⟨A_a2, w_a2, f_a2⟩ := cr_aos (cr_r hR f_o0 _) (cf_r (a := 0) (j := 4) (y := 3) hF rfl)
  refine ⟨A_a2, w_a2, ?_⟩
  refine ⟨(cr_k hR f_a2).trans (cf_k (a := 3) hF rfl (by decide)), ?_⟩
  try simp -zeta -zetaUnused only [cr_i hR f_o0]
  obtain ⟨p5, s4, mc6, ms7, C_s4, D_s4, e_s4, h, q_s4, w_s4⟩ := fg_bc_s h
  obtain ⟨u1_s4, hc⟩ := fg_sp q_s4 hc
  obtain ⟨u2_s4, hd⟩ := fg_sp w_s4 hd
  refine ⟨mc6, ms7, u1_s4, u2_s4, ft_X7_bring hR hF f_a2 f_r3 e_s4 (fun b_s4 S_s4 x_s4 r_s4 F_s4 => ?_) (Nat.le_refl _) (Nat.le_refl _)⟩
  refine fg_ite Iff.rfl (fun d => ?_) (fun d => ?_)
  · have h := fg_if_t d h
    unfold w_X11_showsWith_40
    obtain ⟨q, q2⟩ := fg_retc h
    subst q
    subst q2
    exact hQ _ _ x_s4 r_s4 F_s4
  · have h := fg_if_e d h
    refine ⟨(cr_k r_s4 (cr_atx f_o0 x_s4)).trans (cf_k (a := 0) F_s4 rfl (by decide)), ?_⟩
    obtain ⟨A_a12, w_a12, f_a12⟩ := cr_aos (cr_r r_s4 (cr_atx f_o0 x_s4) _) (cf_r (a := 0) (j := 4) (y := 3) F_s4 rfl)
    refine ⟨A_a12, w_a12, ?_⟩
    refine ⟨(cr_k r_s4 f_a12).trans (cf_k (a := 3) F_s4 rfl (by decide)), ?_⟩
    try simp -zeta -zetaUnused only [cr_i r_s4 (cr_atx f_o0 x_s4)]
    obtain ⟨p15, s14, mc16, ms17, C_s14, D_s14, e_s14, h, q_s14, w_s14⟩ := fg_bc_s h
    obtain ⟨u1_s14, hc⟩ := fg_sp q_s14 hc
    obtain ⟨u2_s14, hd⟩ := fg_sp w_s14 hd
    refine ⟨mc16, ms17, u1_s14, u2_s14, ft_X7_sizeAsOf r_s4 F_s4 f_a12 e_s14 (fun b_s14 S_s14 x_s14 r_s14 F_s14 => ?_) (Nat.le_refl _) (Nat.le_refl _)⟩
    refine ⟨(cr_k r_s14 (cr_atx (cr_atx f_o0 x_s4) x_s14)).trans (cf_k (a := 0) F_s14 rfl (by decide)), ?_⟩
    obtain ⟨p22, s21, e_s21, h⟩ := fg_b_s h
    refine ft_X11_acted r_s14 F_s14 (cr_atx (cr_atx f_o0 x_s4) x_s14) e_s21 (fun b_s21 S_s21 x_s21 r_s21 F_s21 => ?_)
    unfold w_X11_showsWith_40
    obtain ⟨q, q2⟩ := fg_retc h
    subst q
    subst q2
    exact hQ _ _ (cr_xt x_s4 (cr_xt x_s14 x_s21)) r_s21 F_s21
set_option maxRecDepth 100000 in
set_option maxHeartbeats 4000000 in
theorem ft_X11_seen {E : h_S} {g : h_G} {r : Int32} {t : h_S} {Q : Int32 → h_S → Prop} {b : Nat → Nat} {s S_s : h_S} {C0 D0 mc ms : Nat} {A_o0 : Nat} {x1 : Int32} {x2 : Int32} {x3 : Int32} {x4 : Int32} (hR : c_R E g b s S_s) (hF : c_F s) (f_o0 : c_at b s 0 A_o0) (h : fn_X11_seen x1 x2 x3 x4 s = some (r, t, C0, D0)) (hQ : ∀ (b2 : Nat → Nat) (S2 : h_S), c_ext b s b2 t → c_R E g b2 t S2 → c_F t → Q r S2) (hc : C0 ≤ mc) (hd : D0 ≤ ms) : w_X11_seen A_o0 x1 x2 x3 x4 S_s mc ms Q := by
  unfold fn_X11_seen at h
  unfold w_X11_seen
  refine ⟨(cr_k hR f_o0).trans (cf_k (a := 0) hF rfl (by decide)), ?_⟩
  obtain ⟨p3, s2, mc4, ms5, C_s2, D_s2, e_s2, h, q_s2, w_s2⟩ := fg_bc_s h
  obtain ⟨u1_s2, hc⟩ := fg_sp q_s2 hc
  obtain ⟨u2_s2, hd⟩ := fg_sp w_s2 hd
  refine ⟨mc4, ms5, u1_s2, u2_s2, ft_X11_takesAhead hR hF f_o0 e_s2 (fun b_s2 S_s2 x_s2 r_s2 F_s2 => ?_) (Nat.le_refl _) (Nat.le_refl _)⟩
  refine fg_ite Iff.rfl (fun d => ?_) (fun d => ?_)
  · have h := fg_if_t d h
    obtain ⟨q, q2⟩ := fg_retc h
    subst q
    subst q2
    exact hQ _ _ x_s2 r_s2 F_s2
  · have h := fg_if_e d h
    refine fg_ite Iff.rfl (fun d => ?_) (fun d => ?_)
    · have h := fg_if_t d h
      refine ⟨(cr_k r_s2 (cr_atx f_o0 x_s2)).trans (cf_k (a := 0) F_s2 rfl (by decide)), ?_⟩
      obtain ⟨A_a11, w_a11, f_a11⟩ := cr_aos (cr_r r_s2 (cr_atx f_o0 x_s2) _) (cf_r (a := 0) (j := 4) (y := 3) F_s2 rfl)
      refine ⟨A_a11, w_a11, ?_⟩
      refine ⟨(cr_k r_s2 f_a11).trans (cf_k (a := 3) F_s2 rfl (by decide)), ?_⟩
      obtain ⟨p14, s13, e_s13, h⟩ := fg_b_s h
      refine ft_X7_areWords r_s2 F_s2 f_a11 e_s13 (fun b_s13 S_s13 x_s13 r_s13 F_s13 => ?_)
      refine fg_ite Iff.rfl (fun d => ?_) (fun d => ?_)
      · have h := fg_if_t d h
        obtain ⟨q, q2⟩ := fg_retc h
        subst q
        subst q2
        exact hQ _ _ (cr_xt x_s2 x_s13) r_s13 F_s13
      · have h := fg_if_e d h
        refine ⟨(cr_k r_s13 (cr_atx (cr_atx f_o0 x_s2) x_s13)).trans (cf_k (a := 0) F_s13 rfl (by decide)), ?_⟩
        obtain ⟨A_a17, w_a17, f_a17⟩ := cr_aos (cr_r r_s13 (cr_atx (cr_atx f_o0 x_s2) x_s13) _) (cf_r (a := 0) (j := 4) (y := 3) F_s13 rfl)
        refine ⟨A_a17, w_a17, ?_⟩
        refine ⟨(cr_k r_s13 f_a17).trans (cf_k (a := 3) F_s13 rfl (by decide)), ?_⟩
        obtain ⟨p20, s19, e_s19, h⟩ := fg_b_s h
        refine ft_X7_homesOf r_s13 F_s13 f_a17 e_s19 (fun b_s19 S_s19 x_s19 r_s19 F_s19 => ?_)
        refine ⟨(cr_k r_s19 (cr_atx (cr_atx (cr_atx f_o0 x_s2) x_s13) x_s19)).trans (cf_k (a := 0) F_s19 rfl (by decide)), ?_⟩
        obtain ⟨A_a22, w_a22, f_a22⟩ := cr_aos (cr_r r_s19 (cr_atx (cr_atx (cr_atx f_o0 x_s2) x_s13) x_s19) _) (cf_r (a := 0) (j := 4) (y := 3) F_s19 rfl)
        refine ⟨A_a22, w_a22, ?_⟩
        refine ⟨(cr_k r_s19 f_a22).trans (cf_k (a := 3) F_s19 rfl (by decide)), ?_⟩
        obtain ⟨p25, s24, e_s24, h⟩ := fg_b_s h
        refine ft_X7_ownerOf r_s19 F_s19 f_a22 e_s24 (fun b_s24 S_s24 x_s24 r_s24 F_s24 => ?_)
        refine ⟨(cr_k r_s24 (cr_atx (cr_atx (cr_atx (cr_atx f_o0 x_s2) x_s13) x_s19) x_s24)).trans (cf_k (a := 0) F_s24 rfl (by decide)), ?_⟩
        try simp -zeta -zetaUnused only [cr_i r_s24 (cr_atx (cr_atx (cr_atx (cr_atx f_o0 x_s2) x_s13) x_s19) x_s24)]
        obtain ⟨p28, s27, e_s27, h⟩ := fg_b_s h
        refine ft_X11_usable r_s24 F_s24 (cr_atx (cr_atx (cr_atx (cr_atx f_o0 x_s2) x_s13) x_s19) x_s24) e_s27 (fun b_s27 S_s27 x_s27 r_s27 F_s27 => ?_)
        refine fg_ite Iff.rfl (fun d => ?_) (fun d => ?_)
        · have h := fg_if_t d h
          obtain ⟨q30, e_q30, h⟩ := fg_let_s h
          have z_q30 : h_k s27 q30 = 0 := cf_z F_s27 e_q30
          obtain ⟨C_q30, D_q30, h, q_q30, w_q30⟩ := fg_c_s h
          obtain ⟨u1_q30, hc⟩ := fg_sp q_q30 hc
          obtain ⟨u2_q30, hd⟩ := fg_sp w_q30 hd
          refine ⟨u1_q30, u2_q30, fun A_q30 Z_q30 => ?_⟩
          obtain ⟨s34, e_s34, h⟩ := fg_let_s h
          intro S_s34
          have r_s34 : c_R E g (c_up b_s27 q30 A_q30) s34 S_s34 := by rw [e_s34]; exact cr_nw r_s27 z_q30 Z_q30 (by decide)
          have F_s34 : c_F s34 := by rw [e_s34]; exact cf_nw F_s27 e_q30 (by decide)
          have x_s34 : c_ext b_s27 s27 (c_up b_s27 q30 A_q30) s34 := by rw [e_s34]; exact cx_new z_q30
          have f_q30 : c_at (c_up b_s27 q30 A_q30) s34 q30 A_q30 := by rw [e_s34]; exact ca_nw (by decide)
          clear_value S_s34
          intro c35
          have hc : _ ≤ c35 := hc
          clear_value c35
          intro d36
          have hd : _ ≤ d36 := hd
          clear_value d36
          obtain ⟨u_, s37, e_s37, h⟩ := fg_b_s h
          refine ft_X2_init r_s34 F_s34 f_q30 e_s37 (fun b_s37 S_s37 x_s37 r_s37 F_s37 => ?_)
          refine ⟨(cr_k r_s37 (cr_atx (cr_atx (cr_atx (cr_atx (cr_atx (cr_atx (cr_atx f_o0 x_s2) x_s13) x_s19) x_s24) x_s27) x_s34) x_s37)).trans (cf_k (a := 0) F_s37 rfl (by decide)), ?_⟩
          obtain ⟨p41, s40, mc42, ms43, C_s40, D_s40, e_s40, h, q_s40, w_s40⟩ := fg_bc_s h
          obtain ⟨u1_s40, hc⟩ := fg_sp q_s40 hc
          obtain ⟨u2_s40, hd⟩ := fg_sp w_s40 hd
          refine ⟨mc42, ms43, u1_s40, u2_s40, ft_X11_showsWith r_s37 F_s37 (cr_atx (cr_atx (cr_atx (cr_atx (cr_atx (cr_atx (cr_atx f_o0 x_s2) x_s13) x_s19) x_s24) x_s27) x_s34) x_s37) (cr_some (cr_atx f_q30 x_s37)) e_s40 (fun b_s40 S_s40 x_s40 r_s40 F_s40 => ?_) (Nat.le_refl _) (Nat.le_refl _)⟩
          obtain ⟨q, q2⟩ := fg_retc h
          subst q
          subst q2
          exact hQ _ _ (cr_xt x_s2 (cr_xt x_s13 (cr_xt x_s19 (cr_xt x_s24 (cr_xt x_s27 (cr_xt x_s34 (cr_xt x_s37 x_s40))))))) r_s40 F_s40
        · have h := fg_if_e d h
          obtain ⟨q, q2⟩ := fg_retc h
          subst q
          subst q2
          exact hQ _ _ (cr_xt x_s2 (cr_xt x_s13 (cr_xt x_s19 (cr_xt x_s24 x_s27)))) r_s27 F_s27
    · have h := fg_if_e d h
      obtain ⟨q, q2⟩ := fg_retc h
      subst q
      subst q2
      exact hQ _ _ x_s2 r_s2 F_s2
set_option maxRecDepth 100000 in
set_option maxHeartbeats 4000000 in
theorem ft_X11_isMoment {E : h_S} {g : h_G} {r : Int32} {t : h_S} {Q : Int32 → h_S → Prop} {b : Nat → Nat} {s S_s : h_S} {A_o0 : Nat} {x1 : Int32} (hR : c_R E g b s S_s) (hF : c_F s) (f_o0 : c_at b s 0 A_o0) (h : fn_X11_isMoment x1 s = some (r, t)) (hQ : ∀ (b2 : Nat → Nat) (S2 : h_S), c_ext b s b2 t → c_R E g b2 t S2 → c_F t → Q r S2) : w_X11_isMoment A_o0 x1 S_s Q := by
  unfold fn_X11_isMoment at h
  unfold w_X11_isMoment
  refine fg_ite Iff.rfl (fun d => ?_) (fun d => ?_)
  · have h := fg_if_t d h
    unfold w_X11_isMoment_16
    unfold w_X11_isMoment_17
    refine ⟨Or.inl rfl, ?_⟩
    obtain ⟨q, q2⟩ := fg_ret h
    subst q
    subst q2
    exact hQ _ _ cr_xr hR hF
  · have h := fg_if_e d h
    refine ⟨(cr_k hR f_o0).trans (cf_k (a := 0) hF rfl (by decide)), ?_⟩
    try simp -zeta -zetaUnused only [cr_i hR f_o0]
    refine fg_ite Iff.rfl (fun d => ?_) (fun d => ?_)
    · have h := fg_if_t d h
      unfold w_X11_isMoment_16
      unfold w_X11_isMoment_17
      refine ⟨Or.inl rfl, ?_⟩
      obtain ⟨q, q2⟩ := fg_ret h
      subst q
      subst q2
      exact hQ _ _ cr_xr hR hF
    · have h := fg_if_e d h
      unfold w_X11_isMoment_17
      refine ⟨Or.inr rfl, ?_⟩
      obtain ⟨q, q2⟩ := fg_ret h
      subst q
      subst q2
      exact hQ _ _ cr_xr hR hF
set_option maxRecDepth 100000 in
set_option maxHeartbeats 4000000 in
theorem ft_X11_isStretch {E : h_S} {g : h_G} {r : Int32} {t : h_S} {Q : Int32 → h_S → Prop} {b : Nat → Nat} {s S_s : h_S} {x0 : Int32} {x1 : Int32} (hR : c_R E g b s S_s) (hF : c_F s) (h : fn_X11_isStretch x0 x1 s = some (r, t)) (hQ : ∀ (b2 : Nat → Nat) (S2 : h_S), c_ext b s b2 t → c_R E g b2 t S2 → c_F t → Q r S2) : w_X11_isStretch x0 x1 S_s Q := by
  unfold fn_X11_isStretch at h
  unfold w_X11_isStretch
  obtain ⟨p2, s1, e_s1, h⟩ := fg_b_s h
  refine ft_X11_within hR hF e_s1 (fun b_s1 S_s1 x_s1 r_s1 F_s1 => ?_)
  refine fg_ite Iff.rfl (fun d => ?_) (fun d => ?_)
  · have h := fg_if_t d h
    unfold w_X11_isStretch_26
    unfold w_X11_isStretch_27
    refine ⟨Or.inl rfl, ?_⟩
    obtain ⟨q, q2⟩ := fg_ret h
    subst q
    subst q2
    exact hQ _ _ x_s1 r_s1 F_s1
  · have h := fg_if_e d h
    refine fg_ite Iff.rfl (fun d => ?_) (fun d => ?_)
    · have h := fg_if_t d h
      unfold w_X11_isStretch_26
      unfold w_X11_isStretch_27
      refine ⟨Or.inl rfl, ?_⟩
      obtain ⟨q, q2⟩ := fg_ret h
      subst q
      subst q2
      exact hQ _ _ x_s1 r_s1 F_s1
    · have h := fg_if_e d h
      refine fg_ite Iff.rfl (fun d => ?_) (fun d => ?_)
      · have h := fg_if_t d h
        unfold w_X11_isStretch_26
        unfold w_X11_isStretch_27
        refine ⟨Or.inl rfl, ?_⟩
        obtain ⟨q, q2⟩ := fg_ret h
        subst q
        subst q2
        exact hQ _ _ x_s1 r_s1 F_s1
      · have h := fg_if_e d h
        unfold w_X11_isStretch_27
        refine ⟨Or.inr rfl, ?_⟩
        obtain ⟨q, q2⟩ := fg_ret h
        subst q
        subst q2
        exact hQ _ _ x_s1 r_s1 F_s1
set_option maxRecDepth 100000 in
set_option maxHeartbeats 4000000 in
theorem ft_X11_span {E : h_S} {g : h_G} {r : Int32} {t : h_S} {Q : Int32 → h_S → Prop} {b : Nat → Nat} {s S_s : h_S} {C0 D0 mc ms : Nat} {A_o0 : Nat} {x1 : Int32} {x2 : Int32} {x3 : Int32} {x4 : Int32} {x5 : Int32} {x6 : Int32} (hR : c_R E g b s S_s) (hF : c_F s) (f_o0 : c_at b s 0 A_o0) (h : fn_X11_span x1 x2 x3 x4 x5 x6 s = some (r, t, C0, D0)) (hQ : ∀ (b2 : Nat → Nat) (S2 : h_S), c_ext b s b2 t → c_R E g b2 t S2 → c_F t → Q r S2) (hc : C0 ≤ mc) (hd : D0 ≤ ms) : w_X11_span A_o0 x1 x2 x3 x4 x5 x6 S_s mc ms Q := by
  unfold fn_X11_span at h
  unfold w_X11_span
  refine ⟨(cr_k hR f_o0).trans (cf_k (a := 0) hF rfl (by decide)), ?_⟩
  obtain ⟨p3, s2, mc4, ms5, C_s2, D_s2, e_s2, h, q_s2, w_s2⟩ := fg_bc_s h
  obtain ⟨u1_s2, hc⟩ := fg_sp q_s2 hc
  obtain ⟨u2_s2, hd⟩ := fg_sp w_s2 hd
  refine ⟨mc4, ms5, u1_s2, u2_s2, ft_X11_takesAhead hR hF f_o0 e_s2 (fun b_s2 S_s2 x_s2 r_s2 F_s2 => ?_) (Nat.le_refl _) (Nat.le_refl _)⟩
  refine fg_ite Iff.rfl (fun d => ?_) (fun d => ?_)
  · have h := fg_if_t d h
    unfold w_X11_span_26
    obtain ⟨q, q2⟩ := fg_retc h
    subst q
    subst q2
    exact hQ _ _ x_s2 r_s2 F_s2
  · have h := fg_if_e d h
    refine ⟨(cr_k r_s2 (cr_atx f_o0 x_s2)).trans (cf_k (a := 0) F_s2 rfl (by decide)), ?_⟩
    obtain ⟨p11, s10, e_s10, h⟩ := fg_b_s h
    refine ft_X11_isWriting r_s2 F_s2 (cr_atx f_o0 x_s2) e_s10 (fun b_s10 S_s10 x_s10 r_s10 F_s10 => ?_)
    refine fg_ite Iff.rfl (fun d => ?_) (fun d => ?_)
    · have h := fg_if_t d h
      unfold w_X11_span_26
      obtain ⟨q, q2⟩ := fg_retc h
      subst q
      subst q2
      exact hQ _ _ (cr_xt x_s2 x_s10) r_s10 F_s10
    · have h := fg_if_e d h
      refine ⟨(cr_k r_s10 (cr_atx (cr_atx f_o0 x_s2) x_s10)).trans (cf_k (a := 0) F_s10 rfl (by decide)), ?_⟩
      obtain ⟨p15, s14, e_s14, h⟩ := fg_b_s h
      refine ft_X11_isMoment r_s10 F_s10 (cr_atx (cr_atx f_o0 x_s2) x_s10) e_s14 (fun b_s14 S_s14 x_s14 r_s14 F_s14 => ?_)
      refine fg_ite Iff.rfl (fun d => ?_) (fun d => ?_)
      · have h := fg_if_t d h
        unfold w_X11_span_26
        obtain ⟨q, q2⟩ := fg_retc h
        subst q
        subst q2
        exact hQ _ _ (cr_xt x_s2 (cr_xt x_s10 x_s14)) r_s14 F_s14
      · have h := fg_if_e d h
        obtain ⟨p18, s17, e_s17, h⟩ := fg_b_s h
        refine ft_X11_isStretch r_s14 F_s14 e_s17 (fun b_s17 S_s17 x_s17 r_s17 F_s17 => ?_)
        refine fg_ite Iff.rfl (fun d => ?_) (fun d => ?_)
        · have h := fg_if_t d h
          obtain ⟨q, q2⟩ := fg_retc h
          subst q
          subst q2
          exact hQ _ _ (cr_xt x_s2 (cr_xt x_s10 (cr_xt x_s14 x_s17))) r_s17 F_s17
        · have h := fg_if_e d h
          refine ⟨(cr_k r_s17 (cr_atx (cr_atx (cr_atx (cr_atx f_o0 x_s2) x_s10) x_s14) x_s17)).trans (cf_k (a := 0) F_s17 rfl (by decide)), ?_⟩
          obtain ⟨A_a21, w_a21, f_a21⟩ := cr_aos (cr_r r_s17 (cr_atx (cr_atx (cr_atx (cr_atx f_o0 x_s2) x_s10) x_s14) x_s17) _) (cf_r (a := 0) (j := 4) (y := 3) F_s17 rfl)
          refine ⟨A_a21, w_a21, ?_⟩
          refine ⟨(cr_k r_s17 f_a21).trans (cf_k (a := 3) F_s17 rfl (by decide)), ?_⟩
          obtain ⟨p24, s23, e_s23, h⟩ := fg_b_s h
          refine ft_X7_ownerOf r_s17 F_s17 f_a21 e_s23 (fun b_s23 S_s23 x_s23 r_s23 F_s23 => ?_)
          refine ⟨(cr_k r_s23 (cr_atx (cr_atx (cr_atx (cr_atx (cr_atx f_o0 x_s2) x_s10) x_s14) x_s17) x_s23)).trans (cf_k (a := 0) F_s23 rfl (by decide)), ?_⟩
          try simp -zeta -zetaUnused only [cr_i r_s23 (cr_atx (cr_atx (cr_atx (cr_atx (cr_atx f_o0 x_s2) x_s10) x_s14) x_s17) x_s23)]
          obtain ⟨p27, s26, e_s26, h⟩ := fg_b_s h
          refine ft_X11_mayUse r_s23 F_s23 (cr_atx (cr_atx (cr_atx (cr_atx (cr_atx f_o0 x_s2) x_s10) x_s14) x_s17) x_s23) e_s26 (fun b_s26 S_s26 x_s26 r_s26 F_s26 => ?_)
          refine fg_ite Iff.rfl (fun d => ?_) (fun d => ?_)
          · have h := fg_if_t d h
            obtain ⟨q, q2⟩ := fg_retc h
            subst q
            subst q2
            exact hQ _ _ (cr_xt x_s2 (cr_xt x_s10 (cr_xt x_s14 (cr_xt x_s17 (cr_xt x_s23 x_s26))))) r_s26 F_s26
          · have h := fg_if_e d h
            obtain ⟨q29, e_q29, h⟩ := fg_let_s h
            have z_q29 : h_k s26 q29 = 0 := cf_z F_s26 e_q29
            obtain ⟨C_q29, D_q29, h, q_q29, w_q29⟩ := fg_c_s h
            obtain ⟨u1_q29, hc⟩ := fg_sp q_q29 hc
            obtain ⟨u2_q29, hd⟩ := fg_sp w_q29 hd
            refine ⟨u1_q29, u2_q29, fun A_q29 Z_q29 => ?_⟩
            obtain ⟨s33, e_s33, h⟩ := fg_let_s h
            intro S_s33
            have r_s33 : c_R E g (c_up b_s26 q29 A_q29) s33 S_s33 := by rw [e_s33]; exact cr_nw r_s26 z_q29 Z_q29 (by decide)
            have F_s33 : c_F s33 := by rw [e_s33]; exact cf_nw F_s26 e_q29 (by decide)
            have x_s33 : c_ext b_s26 s26 (c_up b_s26 q29 A_q29) s33 := by rw [e_s33]; exact cx_new z_q29
            have f_q29 : c_at (c_up b_s26 q29 A_q29) s33 q29 A_q29 := by rw [e_s33]; exact ca_nw (by decide)
            clear_value S_s33
            intro c34
            have hc : _ ≤ c34 := hc
            clear_value c34
            intro d35
            have hd : _ ≤ d35 := hd
            clear_value d35
            obtain ⟨u_, s36, e_s36, h⟩ := fg_b_s h
            refine ft_X2_init r_s33 F_s33 f_q29 e_s36 (fun b_s36 S_s36 x_s36 r_s36 F_s36 => ?_)
            refine ⟨(cr_k r_s36 (cr_atx (cr_atx (cr_atx (cr_atx (cr_atx (cr_atx (cr_atx (cr_atx f_o0 x_s2) x_s10) x_s14) x_s17) x_s23) x_s26) x_s33) x_s36)).trans (cf_k (a := 0) F_s36 rfl (by decide)), ?_⟩
            obtain ⟨p40, s39, mc41, ms42, C_s39, D_s39, e_s39, h, q_s39, w_s39⟩ := fg_bc_s h
            obtain ⟨u1_s39, hc⟩ := fg_sp q_s39 hc
            obtain ⟨u2_s39, hd⟩ := fg_sp w_s39 hd
            refine ⟨mc41, ms42, u1_s39, u2_s39, ft_X11_showsWith r_s36 F_s36 (cr_atx (cr_atx (cr_atx (cr_atx (cr_atx (cr_atx (cr_atx (cr_atx f_o0 x_s2) x_s10) x_s14) x_s17) x_s23) x_s26) x_s33) x_s36) (cr_some (cr_atx f_q29 x_s36)) e_s39 (fun b_s39 S_s39 x_s39 r_s39 F_s39 => ?_) (Nat.le_refl _) (Nat.le_refl _)⟩
            obtain ⟨q, q2⟩ := fg_retc h
            subst q
            subst q2
            exact hQ _ _ (cr_xt x_s2 (cr_xt x_s10 (cr_xt x_s14 (cr_xt x_s17 (cr_xt x_s23 (cr_xt x_s26 (cr_xt x_s33 (cr_xt x_s36 x_s39)))))))) r_s39 F_s39
set_option maxRecDepth 100000 in
set_option maxHeartbeats 4000000 in
theorem ft_X11_live {E : h_S} {g : h_G} {r : Int32} {t : h_S} {Q : Int32 → h_S → Prop} {b : Nat → Nat} {s S_s : h_S} {C0 D0 mc ms : Nat} {A_o0 : Nat} {x1 : Int32} {x2 : Int32} {x3 : Int32} {x4 : Int32} {x5 : Int32} (hR : c_R E g b s S_s) (hF : c_F s) (f_o0 : c_at b s 0 A_o0) (h : fn_X11_live x1 x2 x3 x4 x5 s = some (r, t, C0, D0)) (hQ : ∀ (b2 : Nat → Nat) (S2 : h_S), c_ext b s b2 t → c_R E g b2 t S2 → c_F t → Q r S2) (hc : C0 ≤ mc) (hd : D0 ≤ ms) : w_X11_live A_o0 x1 x2 x3 x4 x5 S_s mc ms Q := by
  unfold fn_X11_live at h
  unfold w_X11_live
  refine ⟨(cr_k hR f_o0).trans (cf_k (a := 0) hF rfl (by decide)), ?_⟩
  obtain ⟨p3, s2, mc4, ms5, C_s2, D_s2, e_s2, h, q_s2, w_s2⟩ := fg_bc_s h
  obtain ⟨u1_s2, hc⟩ := fg_sp q_s2 hc
  obtain ⟨u2_s2, hd⟩ := fg_sp w_s2 hd
  refine ⟨mc4, ms5, u1_s2, u2_s2, ft_X11_takesAhead hR hF f_o0 e_s2 (fun b_s2 S_s2 x_s2 r_s2 F_s2 => ?_) (Nat.le_refl _) (Nat.le_refl _)⟩
  refine fg_ite Iff.rfl (fun d => ?_) (fun d => ?_)
  · have h := fg_if_t d h
    unfold w_X11_live_17
    obtain ⟨q, q2⟩ := fg_retc h
    subst q
    subst q2
    exact hQ _ _ x_s2 r_s2 F_s2
  · have h := fg_if_e d h
    refine ⟨(cr_k r_s2 (cr_atx f_o0 x_s2)).trans (cf_k (a := 0) F_s2 rfl (by decide)), ?_⟩
    obtain ⟨p11, s10, e_s10, h⟩ := fg_b_s h
    refine ft_X11_isWriting r_s2 F_s2 (cr_atx f_o0 x_s2) e_s10 (fun b_s10 S_s10 x_s10 r_s10 F_s10 => ?_)
    refine fg_ite Iff.rfl (fun d => ?_) (fun d => ?_)
    · have h := fg_if_t d h
      unfold w_X11_live_17
      obtain ⟨q, q2⟩ := fg_retc h
      subst q
      subst q2
      exact hQ _ _ (cr_xt x_s2 x_s10) r_s10 F_s10
    · have h := fg_if_e d h
      obtain ⟨p14, s13, e_s13, h⟩ := fg_b_s h
      refine ft_X11_isStretch r_s10 F_s10 e_s13 (fun b_s13 S_s13 x_s13 r_s13 F_s13 => ?_)
      refine fg_ite Iff.rfl (fun d => ?_) (fun d => ?_)
      · have h := fg_if_t d h
        obtain ⟨q, q2⟩ := fg_retc h
        subst q
        subst q2
        exact hQ _ _ (cr_xt x_s2 (cr_xt x_s10 x_s13)) r_s13 F_s13
      · have h := fg_if_e d h
        refine ⟨(cr_k r_s13 (cr_atx (cr_atx (cr_atx f_o0 x_s2) x_s10) x_s13)).trans (cf_k (a := 0) F_s13 rfl (by decide)), ?_⟩
        obtain ⟨A_a17, w_a17, f_a17⟩ := cr_aos (cr_r r_s13 (cr_atx (cr_atx (cr_atx f_o0 x_s2) x_s10) x_s13) _) (cf_r (a := 0) (j := 4) (y := 3) F_s13 rfl)
        refine ⟨A_a17, w_a17, ?_⟩
        refine ⟨(cr_k r_s13 f_a17).trans (cf_k (a := 3) F_s13 rfl (by decide)), ?_⟩
        obtain ⟨p20, s19, e_s19, h⟩ := fg_b_s h
        refine ft_X7_ownerOf r_s13 F_s13 f_a17 e_s19 (fun b_s19 S_s19 x_s19 r_s19 F_s19 => ?_)
        refine ⟨(cr_k r_s19 (cr_atx (cr_atx (cr_atx (cr_atx f_o0 x_s2) x_s10) x_s13) x_s19)).trans (cf_k (a := 0) F_s19 rfl (by decide)), ?_⟩
        try simp -zeta -zetaUnused only [cr_i r_s19 (cr_atx (cr_atx (cr_atx (cr_atx f_o0 x_s2) x_s10) x_s13) x_s19)]
        obtain ⟨p23, s22, e_s22, h⟩ := fg_b_s h
        refine ft_X11_mayUse r_s19 F_s19 (cr_atx (cr_atx (cr_atx (cr_atx f_o0 x_s2) x_s10) x_s13) x_s19) e_s22 (fun b_s22 S_s22 x_s22 r_s22 F_s22 => ?_)
        refine fg_ite Iff.rfl (fun d => ?_) (fun d => ?_)
        · have h := fg_if_t d h
          obtain ⟨q, q2⟩ := fg_retc h
          subst q
          subst q2
          exact hQ _ _ (cr_xt x_s2 (cr_xt x_s10 (cr_xt x_s13 (cr_xt x_s19 x_s22)))) r_s22 F_s22
        · have h := fg_if_e d h
          refine ⟨(cr_k r_s22 (cr_atx (cr_atx (cr_atx (cr_atx (cr_atx f_o0 x_s2) x_s10) x_s13) x_s19) x_s22)).trans (cf_k (a := 0) F_s22 rfl (by decide)), ?_⟩
          obtain ⟨A_a26, w_a26, f_a26⟩ := cr_aos (cr_r r_s22 (cr_atx (cr_atx (cr_atx (cr_atx (cr_atx f_o0 x_s2) x_s10) x_s13) x_s19) x_s22) _) (cf_r (a := 0) (j := 4) (y := 3) F_s22 rfl)
          refine ⟨A_a26, w_a26, ?_⟩
          refine ⟨(cr_k r_s22 f_a26).trans (cf_k (a := 3) F_s22 rfl (by decide)), ?_⟩
          obtain ⟨p29, s28, e_s28, h⟩ := fg_b_s h
          refine ft_X7_stepsBetween r_s22 F_s22 f_a26 e_s28 (fun b_s28 S_s28 x_s28 r_s28 F_s28 => ?_)
          refine fg_ite Iff.rfl (fun d => ?_) (fun d => ?_)
          · have h := fg_if_t d h
            obtain ⟨q31, e_q31, h⟩ := fg_let_s h
            have z_q31 : h_k s28 q31 = 0 := cf_z F_s28 e_q31
            obtain ⟨C_q31, D_q31, h, q_q31, w_q31⟩ := fg_c_s h
            obtain ⟨u1_q31, hc⟩ := fg_sp q_q31 hc
            obtain ⟨u2_q31, hd⟩ := fg_sp w_q31 hd
            refine ⟨u1_q31, u2_q31, fun A_q31 Z_q31 => ?_⟩
            obtain ⟨s35, e_s35, h⟩ := fg_let_s h
            intro S_s35
            have r_s35 : c_R E g (c_up b_s28 q31 A_q31) s35 S_s35 := by rw [e_s35]; exact cr_nw r_s28 z_q31 Z_q31 (by decide)
            have F_s35 : c_F s35 := by rw [e_s35]; exact cf_nw F_s28 e_q31 (by decide)
            have x_s35 : c_ext b_s28 s28 (c_up b_s28 q31 A_q31) s35 := by rw [e_s35]; exact cx_new z_q31
            have f_q31 : c_at (c_up b_s28 q31 A_q31) s35 q31 A_q31 := by rw [e_s35]; exact ca_nw (by decide)
            clear_value S_s35
            intro c36
            have hc : _ ≤ c36 := hc
            clear_value c36
            intro d37
            have hd : _ ≤ d37 := hd
            clear_value d37
            obtain ⟨u_, s38, e_s38, h⟩ := fg_b_s h
            refine ft_X2_init r_s35 F_s35 f_q31 e_s38 (fun b_s38 S_s38 x_s38 r_s38 F_s38 => ?_)
            refine ⟨(cr_k r_s38 (cr_atx (cr_atx (cr_atx (cr_atx (cr_atx (cr_atx (cr_atx (cr_atx f_o0 x_s2) x_s10) x_s13) x_s19) x_s22) x_s28) x_s35) x_s38)).trans (cf_k (a := 0) F_s38 rfl (by decide)), ?_⟩
            obtain ⟨p42, s41, mc43, ms44, C_s41, D_s41, e_s41, h, q_s41, w_s41⟩ := fg_bc_s h
            obtain ⟨u1_s41, hc⟩ := fg_sp q_s41 hc
            obtain ⟨u2_s41, hd⟩ := fg_sp w_s41 hd
            refine ⟨mc43, ms44, u1_s41, u2_s41, ft_X11_showsWith r_s38 F_s38 (cr_atx (cr_atx (cr_atx (cr_atx (cr_atx (cr_atx (cr_atx (cr_atx f_o0 x_s2) x_s10) x_s13) x_s19) x_s22) x_s28) x_s35) x_s38) (cr_some (cr_atx f_q31 x_s38)) e_s41 (fun b_s41 S_s41 x_s41 r_s41 F_s41 => ?_) (Nat.le_refl _) (Nat.le_refl _)⟩
            obtain ⟨q, q2⟩ := fg_retc h
            subst q
            subst q2
            exact hQ _ _ (cr_xt x_s2 (cr_xt x_s10 (cr_xt x_s13 (cr_xt x_s19 (cr_xt x_s22 (cr_xt x_s28 (cr_xt x_s35 (cr_xt x_s38 x_s41)))))))) r_s41 F_s41
          · have h := fg_if_e d h
            obtain ⟨q, q2⟩ := fg_retc h
            subst q
            subst q2
            exact hQ _ _ (cr_xt x_s2 (cr_xt x_s10 (cr_xt x_s13 (cr_xt x_s19 (cr_xt x_s22 x_s28))))) r_s28 F_s28
set_option maxRecDepth 100000 in
set_option maxHeartbeats 4000000 in
theorem ft_X11_isPlaceOf {E : h_S} {g : h_G} {r : Int32} {t : h_S} {Q : Int32 → h_S → Prop} {b : Nat → Nat} {s S_s : h_S} {C0 D0 mc ms : Nat} {A_o0 : Nat} {x1 : Int32} {x2 : Int32} (hR : c_R E g b s S_s) (hF : c_F s) (f_o0 : c_at b s 0 A_o0) (h : fn_X11_isPlaceOf x1 x2 s = some (r, t, C0, D0)) (hQ : ∀ (b2 : Nat → Nat) (S2 : h_S), c_ext b s b2 t → c_R E g b2 t S2 → c_F t → Q r S2) (hc : C0 ≤ mc) (hd : D0 ≤ ms) : w_X11_isPlaceOf A_o0 x1 x2 S_s mc ms Q := by
  unfold fn_X11_isPlaceOf at h
  unfold w_X11_isPlaceOf
  refine ⟨(cr_k hR f_o0).trans (cf_k (a := 0) hF rfl (by decide)), ?_⟩
  obtain ⟨p3, s2, e_s2, h⟩ := fg_b_s h
  refine ft_X11_isWriting hR hF f_o0 e_s2 (fun b_s2 S_s2 x_s2 r_s2 F_s2 => ?_)
  refine fg_ite Iff.rfl (fun d => ?_) (fun d => ?_)
  · have h := fg_if_t d h
    unfold w_X11_isPlaceOf_31
    unfold w_X11_isPlaceOf_32
    refine ⟨Or.inl rfl, ?_⟩
    obtain ⟨q, q2⟩ := fg_retc h
    subst q
    subst q2
    exact hQ _ _ x_s2 r_s2 F_s2
  · have h := fg_if_e d h
    refine ⟨(cr_k r_s2 (cr_atx f_o0 x_s2)).trans (cf_k (a := 0) F_s2 rfl (by decide)), ?_⟩
    obtain ⟨A_a6, w_a6, f_a6⟩ := cr_aos (cr_r r_s2 (cr_atx f_o0 x_s2) _) (cf_r (a := 0) (j := 4) (y := 3) F_s2 rfl)
    refine ⟨A_a6, w_a6, ?_⟩
    refine ⟨(cr_k r_s2 f_a6).trans (cf_k (a := 3) F_s2 rfl (by decide)), ?_⟩
    try simp -zeta -zetaUnused only [cr_i r_s2 (cr_atx f_o0 x_s2)]
    obtain ⟨p9, s8, mc10, ms11, C_s8, D_s8, e_s8, h, q_s8, w_s8⟩ := fg_bc_s h
    obtain ⟨u1_s8, hc⟩ := fg_sp q_s8 hc
    obtain ⟨u2_s8, hd⟩ := fg_sp w_s8 hd
    refine ⟨mc10, ms11, u1_s8, u2_s8, ft_X7_sizeAsOf r_s2 F_s2 f_a6 e_s8 (fun b_s8 S_s8 x_s8 r_s8 F_s8 => ?_) (Nat.le_refl _) (Nat.le_refl _)⟩
    obtain ⟨p15, s14, e_s14, h⟩ := fg_b_s h
    refine ft_X11_within r_s8 F_s8 e_s14 (fun b_s14 S_s14 x_s14 r_s14 F_s14 => ?_)
    refine fg_ite Iff.rfl (fun d => ?_) (fun d => ?_)
    · have h := fg_if_t d h
      unfold w_X11_isPlaceOf_31
      unfold w_X11_isPlaceOf_32
      refine ⟨Or.inl rfl, ?_⟩
      obtain ⟨q, q2⟩ := fg_retc h
      subst q
      subst q2
      exact hQ _ _ (cr_xt x_s2 (cr_xt x_s8 x_s14)) r_s14 F_s14
    · have h := fg_if_e d h
      unfold w_X11_isPlaceOf_32
      refine ⟨Or.inr rfl, ?_⟩
      obtain ⟨q, q2⟩ := fg_retc h
      subst q
      subst q2
      exact hQ _ _ (cr_xt x_s2 (cr_xt x_s8 x_s14)) r_s14 F_s14
set_option maxRecDepth 100000 in
set_option maxHeartbeats 4000000 in
theorem ft_X11_takeOut {E : h_S} {g : h_G} {r : Int32} {t : h_S} {Q : Int32 → h_S → Prop} {b : Nat → Nat} {s S_s : h_S} {C0 D0 mc ms : Nat} {A_o0 : Nat} {x1 : Int32} {x2 : Int32} {x3 : Int32} (hR : c_R E g b s S_s) (hF : c_F s) (f_o0 : c_at b s 0 A_o0) (h : fn_X11_takeOut x1 x2 x3 s = some (r, t, C0, D0)) (hQ : ∀ (b2 : Nat → Nat) (S2 : h_S), c_ext b s b2 t → c_R E g b2 t S2 → c_F t → Q r S2) (hc : C0 ≤ mc) (hd : D0 ≤ ms) : w_X11_takeOut A_o0 x1 x2 x3 S_s mc ms Q := by
  unfold fn_X11_takeOut at h
  unfold w_X11_takeOut
  refine ⟨(cr_k hR f_o0).trans (cf_k (a := 0) hF rfl (by decide)), ?_⟩
  obtain ⟨A_a2, w_a2, f_a2⟩ := cr_aos (cr_r hR f_o0 _) (cf_r (a := 0) (j := 4) (y := 3) hF rfl)
  refine ⟨A_a2, w_a2, ?_⟩
  refine ⟨(cr_k hR f_a2).trans (cf_k (a := 3) hF rfl (by decide)), ?_⟩
  try simp -zeta -zetaUnused only [cr_i hR f_o0]
  obtain ⟨u_, s4, mc6, ms7, C_s4, D_s4, e_s4, h, q_s4, w_s4⟩ := fg_bc_s h
  obtain ⟨u1_s4, hc⟩ := fg_sp q_s4 hc
  obtain ⟨u2_s4, hd⟩ := fg_sp w_s4 hd
  refine ⟨mc6, ms7, u1_s4, u2_s4, ft_X7_lift hR hF f_a2 e_s4 (fun b_s4 S_s4 x_s4 r_s4 F_s4 => ?_) (Nat.le_refl _) (Nat.le_refl _)⟩
  refine ⟨(cr_k r_s4 (cr_atx f_o0 x_s4)).trans (cf_k (a := 0) F_s4 rfl (by decide)), ?_⟩
  obtain ⟨A_a11, w_a11, f_a11⟩ := cr_aos (cr_r r_s4 (cr_atx f_o0 x_s4) _) (cf_r (a := 0) (j := 4) (y := 3) F_s4 rfl)
  refine ⟨A_a11, w_a11, ?_⟩
  refine ⟨(cr_k r_s4 f_a11).trans (cf_k (a := 3) F_s4 rfl (by decide)), ?_⟩
  try simp -zeta -zetaUnused only [cr_i r_s4 (cr_atx f_o0 x_s4)]
  obtain ⟨p14, s13, mc15, ms16, C_s13, D_s13, e_s13, h, q_s13, w_s13⟩ := fg_bc_s h
  obtain ⟨u1_s13, hc⟩ := fg_sp q_s13 hc
  obtain ⟨u2_s13, hd⟩ := fg_sp w_s13 hd
  refine ⟨mc15, ms16, u1_s13, u2_s13, ft_X7_keepLaid r_s4 F_s4 f_a11 e_s13 (fun b_s13 S_s13 x_s13 r_s13 F_s13 => ?_) (Nat.le_refl _) (Nat.le_refl _)⟩
  obtain ⟨c, h⟩ := fg_g_s h
  refine ⟨c, ?_⟩
  obtain ⟨q, q2⟩ := fg_retc h
  subst q
  subst q2
  exact hQ _ _ (cr_xt x_s4 x_s13) r_s13 F_s13
set_option maxRecDepth 100000 in
set_option maxHeartbeats 4000000 in
theorem ft_X11_cut {E : h_S} {g : h_G} {r : Int32} {t : h_S} {Q : Int32 → h_S → Prop} {b : Nat → Nat} {s S_s : h_S} {C0 D0 mc ms : Nat} {A_o0 : Nat} {x1 : Int32} {x2 : Int32} {x3 : Int32} (hR : c_R E g b s S_s) (hF : c_F s) (f_o0 : c_at b s 0 A_o0) (h : fn_X11_cut x1 x2 x3 s = some (r, t, C0, D0)) (hQ : ∀ (b2 : Nat → Nat) (S2 : h_S), c_ext b s b2 t → c_R E g b2 t S2 → c_F t → Q r S2) (hc : C0 ≤ mc) (hd : D0 ≤ ms) : w_X11_cut A_o0 x1 x2 x3 S_s mc ms Q := by
  unfold fn_X11_cut at h
  unfold w_X11_cut
  refine ⟨(cr_k hR f_o0).trans (cf_k (a := 0) hF rfl (by decide)), ?_⟩
  obtain ⟨p3, s2, mc4, ms5, C_s2, D_s2, e_s2, h, q_s2, w_s2⟩ := fg_bc_s h
  obtain ⟨u1_s2, hc⟩ := fg_sp q_s2 hc
  obtain ⟨u2_s2, hd⟩ := fg_sp w_s2 hd
  refine ⟨mc4, ms5, u1_s2, u2_s2, ft_X11_isPlaceOf hR hF f_o0 e_s2 (fun b_s2 S_s2 x_s2 r_s2 F_s2 => ?_) (Nat.le_refl _) (Nat.le_refl _)⟩
  refine fg_ite Iff.rfl (fun d => ?_) (fun d => ?_)
  · have h := fg_if_t d h
    obtain ⟨q, q2⟩ := fg_retc h
    subst q
    subst q2
    exact hQ _ _ x_s2 r_s2 F_s2
  · have h := fg_if_e d h
    refine fg_ite Iff.rfl (fun d => ?_) (fun d => ?_)
    · have h := fg_if_t d h
      unfold w_X11_cut_34
      obtain ⟨q, q2⟩ := fg_retc h
      subst q
      subst q2
      exact hQ _ _ x_s2 r_s2 F_s2
    · have h := fg_if_e d h
      refine ⟨(cr_k r_s2 (cr_atx f_o0 x_s2)).trans (cf_k (a := 0) F_s2 rfl (by decide)), ?_⟩
      obtain ⟨A_a11, w_a11, f_a11⟩ := cr_aos (cr_r r_s2 (cr_atx f_o0 x_s2) _) (cf_r (a := 0) (j := 4) (y := 3) F_s2 rfl)
      refine ⟨A_a11, w_a11, ?_⟩
      refine ⟨(cr_k r_s2 f_a11).trans (cf_k (a := 3) F_s2 rfl (by decide)), ?_⟩
      try simp -zeta -zetaUnused only [cr_i r_s2 (cr_atx f_o0 x_s2)]
      obtain ⟨p14, s13, mc15, ms16, C_s13, D_s13, e_s13, h, q_s13, w_s13⟩ := fg_bc_s h
      obtain ⟨u1_s13, hc⟩ := fg_sp q_s13 hc
      obtain ⟨u2_s13, hd⟩ := fg_sp w_s13 hd
      refine ⟨mc15, ms16, u1_s13, u2_s13, ft_X7_sizeAsOf r_s2 F_s2 f_a11 e_s13 (fun b_s13 S_s13 x_s13 r_s13 F_s13 => ?_) (Nat.le_refl _) (Nat.le_refl _)⟩
      refine fg_ite Iff.rfl (fun d => ?_) (fun d => ?_)
      · have h := fg_if_t d h
        refine ⟨(cr_k r_s13 (cr_atx (cr_atx f_o0 x_s2) x_s13)).trans (cf_k (a := 0) F_s13 rfl (by decide)), ?_⟩
        obtain ⟨p22, s21, mc23, ms24, C_s21, D_s21, e_s21, h, q_s21, w_s21⟩ := fg_bc_s h
        obtain ⟨u1_s21, hc⟩ := fg_sp q_s21 hc
        obtain ⟨u2_s21, hd⟩ := fg_sp w_s21 hd
        refine ⟨mc23, ms24, u1_s21, u2_s21, ft_X11_takeOut r_s13 F_s13 (cr_atx (cr_atx f_o0 x_s2) x_s13) e_s21 (fun b_s21 S_s21 x_s21 r_s21 F_s21 => ?_) (Nat.le_refl _) (Nat.le_refl _)⟩
        refine fg_ite Iff.rfl (fun d => ?_) (fun d => ?_)
        · have h := fg_if_t d h
          obtain ⟨q, q2⟩ := fg_retc h
          subst q
          subst q2
          exact hQ _ _ (cr_xt x_s2 (cr_xt x_s13 x_s21)) r_s21 F_s21
        · have h := fg_if_e d h
          refine ⟨(cr_k r_s21 (cr_atx (cr_atx (cr_atx f_o0 x_s2) x_s13) x_s21)).trans (cf_k (a := 0) F_s21 rfl (by decide)), ?_⟩
          obtain ⟨A_a29, w_a29, f_a29⟩ := cr_aos (cr_r r_s21 (cr_atx (cr_atx (cr_atx f_o0 x_s2) x_s13) x_s21) _) (cf_r (a := 0) (j := 4) (y := 3) F_s21 rfl)
          refine ⟨A_a29, w_a29, ?_⟩
          refine ⟨(cr_k r_s21 f_a29).trans (cf_k (a := 3) F_s21 rfl (by decide)), ?_⟩
          try simp -zeta -zetaUnused only [cr_i r_s21 (cr_atx (cr_atx (cr_atx f_o0 x_s2) x_s13) x_s21)]
          obtain ⟨p32, s31, mc33, ms34, C_s31, D_s31, e_s31, h, q_s31, w_s31⟩ := fg_bc_s h
          obtain ⟨u1_s31, hc⟩ := fg_sp q_s31 hc
          obtain ⟨u2_s31, hd⟩ := fg_sp w_s31 hd
          refine ⟨mc33, ms34, u1_s31, u2_s31, ft_X7_sizeAsOf r_s21 F_s21 f_a29 e_s31 (fun b_s31 S_s31 x_s31 r_s31 F_s31 => ?_) (Nat.le_refl _) (Nat.le_refl _)⟩
          refine ⟨(cr_k r_s31 (cr_atx (cr_atx (cr_atx (cr_atx f_o0 x_s2) x_s13) x_s21) x_s31)).trans (cf_k (a := 0) F_s31 rfl (by decide)), ?_⟩
          obtain ⟨p39, s38, e_s38, h⟩ := fg_b_s h
          refine ft_X11_acted r_s31 F_s31 (cr_atx (cr_atx (cr_atx (cr_atx f_o0 x_s2) x_s13) x_s21) x_s31) e_s38 (fun b_s38 S_s38 x_s38 r_s38 F_s38 => ?_)
          obtain ⟨q, q2⟩ := fg_retc h
          subst q
          subst q2
          exact hQ _ _ (cr_xt x_s2 (cr_xt x_s13 (cr_xt x_s21 (cr_xt x_s31 x_s38)))) r_s38 F_s38
      · have h := fg_if_e d h
        unfold w_X11_cut_34
        obtain ⟨q, q2⟩ := fg_retc h
        subst q
        subst q2
        exact hQ _ _ (cr_xt x_s2 x_s13) r_s13 F_s13
set_option maxRecDepth 100000 in
set_option maxHeartbeats 4000000 in
theorem ft_X11_move_97 {E : h_S} {g : h_G} {r : Int32} {t : h_S} {Q : Int32 → h_S → Prop} {b : Nat → Nat} {s S_s : h_S} {C0 D0 bc bs : Nat} {A_o0 : Nat} {x1 : Int32} {y0 : Int32} {t1 : Option Nat} {R_t1 : Option Nat} (hR : c_R E g b s S_s) (hF : c_F s) (f_o0 : c_at b s 0 A_o0) (f_t1 : c_ao b s t1 R_t1) (h : fn_X11_move_97 x1 y0 t1 s = some (r, t, C0, D0)) (hQ : ∀ (b2 : Nat → Nat) (S2 : h_S), c_ext b s b2 t → c_R E g b2 t S2 → c_F t → Q r S2) (hc : C0 ≤ bc) (hd : D0 ≤ bs) : w_X11_move_97 Q A_o0 x1 y0 R_t1 S_s bc bs := by
  unfold fn_X11_move_97 at h
  unfold w_X11_move_97
  refine ⟨(cr_k hR f_o0).trans (cf_k (a := 0) hF rfl (by decide)), ?_⟩
  obtain ⟨o_a2, h⟩ := fg_g_s h
  obtain ⟨A_a2, w_a2, f_a2⟩ := cr_aos f_t1 o_a2
  refine ⟨A_a2, w_a2, ?_⟩
  refine ⟨(cr_k hR f_a2).trans (cf_k (a := 3) hF rfl (by decide)), ?_⟩
  try simp -zeta -zetaUnused only [cr_i hR f_o0]
  obtain ⟨u_, s4, mc6, ms7, C_s4, D_s4, e_s4, h, q_s4, w_s4⟩ := fg_bc_s h
  obtain ⟨u1_s4, hc⟩ := fg_sp q_s4 hc
  obtain ⟨u2_s4, hd⟩ := fg_sp w_s4 hd
  refine ⟨mc6, ms7, u1_s4, u2_s4, ft_X7_bringLifted hR hF f_a2 e_s4 (fun b_s4 S_s4 x_s4 r_s4 F_s4 => ?_) (Nat.le_refl _) (Nat.le_refl _)⟩
  refine ⟨(cr_k r_s4 (cr_atx f_o0 x_s4)).trans (cf_k (a := 0) F_s4 rfl (by decide)), ?_⟩
  obtain ⟨A_a11, w_a11, f_a11⟩ := cr_aos (cr_r r_s4 (cr_atx f_o0 x_s4) _) (cf_r (a := 0) (j := 4) (y := 3) F_s4 rfl)
  refine ⟨A_a11, w_a11, ?_⟩
  refine ⟨(cr_k r_s4 f_a11).trans (cf_k (a := 3) F_s4 rfl (by decide)), ?_⟩
  try simp -zeta -zetaUnused only [cr_i r_s4 (cr_atx f_o0 x_s4)]
  obtain ⟨p14, s13, mc15, ms16, C_s13, D_s13, e_s13, h, q_s13, w_s13⟩ := fg_bc_s h
  obtain ⟨u1_s13, hc⟩ := fg_sp q_s13 hc
  obtain ⟨u2_s13, hd⟩ := fg_sp w_s13 hd
  refine ⟨mc15, ms16, u1_s13, u2_s13, ft_X7_keepLaid r_s4 F_s4 f_a11 e_s13 (fun b_s13 S_s13 x_s13 r_s13 F_s13 => ?_) (Nat.le_refl _) (Nat.le_refl _)⟩
  refine fg_ite Iff.rfl (fun d => ?_) (fun d => ?_)
  · have h := fg_if_t d h
    obtain ⟨q, q2⟩ := fg_retc h
    subst q
    subst q2
    exact hQ _ _ (cr_xt x_s4 x_s13) r_s13 F_s13
  · have h := fg_if_e d h
    refine ⟨(cr_k r_s13 (cr_atx (cr_atx f_o0 x_s4) x_s13)).trans (cf_k (a := 0) F_s13 rfl (by decide)), ?_⟩
    obtain ⟨A_a21, w_a21, f_a21⟩ := cr_aos (cr_r r_s13 (cr_atx (cr_atx f_o0 x_s4) x_s13) _) (cf_r (a := 0) (j := 4) (y := 3) F_s13 rfl)
    refine ⟨A_a21, w_a21, ?_⟩
    refine ⟨(cr_k r_s13 f_a21).trans (cf_k (a := 3) F_s13 rfl (by decide)), ?_⟩
    obtain ⟨p24, s23, e_s23, h⟩ := fg_b_s h
    refine ft_X7_pieceCount r_s13 F_s13 f_a21 e_s23 (fun b_s23 S_s23 x_s23 r_s23 F_s23 => ?_)
    refine ⟨(cr_k r_s23 (cr_atx (cr_atx (cr_atx f_o0 x_s4) x_s13) x_s23)).trans (cf_k (a := 0) F_s23 rfl (by decide)), ?_⟩
    obtain ⟨p27, s26, e_s26, h⟩ := fg_b_s h
    refine ft_X11_acted r_s23 F_s23 (cr_atx (cr_atx (cr_atx f_o0 x_s4) x_s13) x_s23) e_s26 (fun b_s26 S_s26 x_s26 r_s26 F_s26 => ?_)
    obtain ⟨q, q2⟩ := fg_retc h
    subst q
    subst q2
    exact hQ _ _ (cr_xt x_s4 (cr_xt x_s13 (cr_xt x_s23 x_s26))) r_s26 F_s26
set_option maxRecDepth 100000 in
set_option maxHeartbeats 4000000 in
theorem ft_X11_move_64 {E : h_S} {g : h_G} {r : Int32} {t : h_S} {Q : Int32 → h_S → Prop} {b : Nat → Nat} {s S_s : h_S} {C0 D0 bc bs : Nat} {A_o0 : Nat} {x1 : Int32} {x2 : Int32} {x3 : Int32} {x4 : Int32} (hR : c_R E g b s S_s) (hF : c_F s) (f_o0 : c_at b s 0 A_o0) (h : fn_X11_move_64 x1 x2 x3 x4 s = some (r, t, C0, D0)) (hQ : ∀ (b2 : Nat → Nat) (S2 : h_S), c_ext b s b2 t → c_R E g b2 t S2 → c_F t → Q r S2) (hc : C0 ≤ bc) (hd : D0 ≤ bs) : w_X11_move_64 Q A_o0 x1 x2 x3 x4 S_s bc bs := by
  unfold fn_X11_move_64 at h
  unfold w_X11_move_64
  refine ⟨(cr_k hR f_o0).trans (cf_k (a := 0) hF rfl (by decide)), ?_⟩
  obtain ⟨A_a2, w_a2, f_a2⟩ := cr_aos (cr_r hR f_o0 _) (cf_r (a := 0) (j := 4) (y := 3) hF rfl)
  refine ⟨A_a2, w_a2, ?_⟩
  refine ⟨(cr_k hR f_a2).trans (cf_k (a := 3) hF rfl (by decide)), ?_⟩
  try simp -zeta -zetaUnused only [cr_i hR f_o0]
  obtain ⟨u_, s4, mc6, ms7, C_s4, D_s4, e_s4, h, q_s4, w_s4⟩ := fg_bc_s h
  obtain ⟨u1_s4, hc⟩ := fg_sp q_s4 hc
  obtain ⟨u2_s4, hd⟩ := fg_sp w_s4 hd
  refine ⟨mc6, ms7, u1_s4, u2_s4, ft_X7_lift hR hF f_a2 e_s4 (fun b_s4 S_s4 x_s4 r_s4 F_s4 => ?_) (Nat.le_refl _) (Nat.le_refl _)⟩
  refine ⟨(cr_k r_s4 (cr_atx f_o0 x_s4)).trans (cf_k (a := 0) F_s4 rfl (by decide)), ?_⟩
  refine fg_ite Iff.rfl (fun d => ?_) (fun d => ?_)
  · have h := fg_if_t d h
    exact ft_X11_move_97 r_s4 F_s4 (cr_atx f_o0 x_s4) (cr_r r_s4 (cr_atx f_o0 x_s4) _) h (fun b2 S2 x2 => hQ b2 S2 (cr_xt x_s4 x2)) hc hd
  · have h := fg_if_e d h
    exact ft_X11_move_97 r_s4 F_s4 (cr_atx f_o0 x_s4) (cr_r r_s4 (cr_atx f_o0 x_s4) _) h (fun b2 S2 x2 => hQ b2 S2 (cr_xt x_s4 x2)) hc hd
set_option maxRecDepth 100000 in
set_option maxHeartbeats 4000000 in
theorem ft_X11_move {E : h_S} {g : h_G} {r : Int32} {t : h_S} {Q : Int32 → h_S → Prop} {b : Nat → Nat} {s S_s : h_S} {C0 D0 mc ms : Nat} {A_o0 : Nat} {x1 : Int32} {x2 : Int32} {x3 : Int32} {x4 : Int32} (hR : c_R E g b s S_s) (hF : c_F s) (f_o0 : c_at b s 0 A_o0) (h : fn_X11_move x1 x2 x3 x4 s = some (r, t, C0, D0)) (hQ : ∀ (b2 : Nat → Nat) (S2 : h_S), c_ext b s b2 t → c_R E g b2 t S2 → c_F t → Q r S2) (hc : C0 ≤ mc) (hd : D0 ≤ ms) : w_X11_move A_o0 x1 x2 x3 x4 S_s mc ms Q := by
  unfold fn_X11_move at h
  unfold w_X11_move
  refine ⟨(cr_k hR f_o0).trans (cf_k (a := 0) hF rfl (by decide)), ?_⟩
  obtain ⟨p3, s2, mc4, ms5, C_s2, D_s2, e_s2, h, q_s2, w_s2⟩ := fg_bc_s h
  obtain ⟨u1_s2, hc⟩ := fg_sp q_s2 hc
  obtain ⟨u2_s2, hd⟩ := fg_sp w_s2 hd
  refine ⟨mc4, ms5, u1_s2, u2_s2, ft_X11_isPlaceOf hR hF f_o0 e_s2 (fun b_s2 S_s2 x_s2 r_s2 F_s2 => ?_) (Nat.le_refl _) (Nat.le_refl _)⟩
  refine fg_ite Iff.rfl (fun d => ?_) (fun d => ?_)
  · have h := fg_if_t d h
    unfold w_X11_move_19
    obtain ⟨q, q2⟩ := fg_retc h
    subst q
    subst q2
    exact hQ _ _ x_s2 r_s2 F_s2
  · have h := fg_if_e d h
    refine ⟨(cr_k r_s2 (cr_atx f_o0 x_s2)).trans (cf_k (a := 0) F_s2 rfl (by decide)), ?_⟩
    obtain ⟨p11, s10, mc12, ms13, C_s10, D_s10, e_s10, h, q_s10, w_s10⟩ := fg_bc_s h
    obtain ⟨u1_s10, hc⟩ := fg_sp q_s10 hc
    obtain ⟨u2_s10, hd⟩ := fg_sp w_s10 hd
    refine ⟨mc12, ms13, u1_s10, u2_s10, ft_X11_takesAhead r_s2 F_s2 (cr_atx f_o0 x_s2) e_s10 (fun b_s10 S_s10 x_s10 r_s10 F_s10 => ?_) (Nat.le_refl _) (Nat.le_refl _)⟩
    refine fg_ite Iff.rfl (fun d => ?_) (fun d => ?_)
    · have h := fg_if_t d h
      unfold w_X11_move_19
      obtain ⟨q, q2⟩ := fg_retc h
      subst q
      subst q2
      exact hQ _ _ (cr_xt x_s2 x_s10) r_s10 F_s10
    · have h := fg_if_e d h
      refine fg_ite Iff.rfl (fun d => ?_) (fun d => ?_)
      · have h := fg_if_t d h
        unfold w_X11_move_44
        obtain ⟨q, q2⟩ := fg_retc h
        subst q
        subst q2
        exact hQ _ _ (cr_xt x_s2 x_s10) r_s10 F_s10
      · have h := fg_if_e d h
        refine ⟨(cr_k r_s10 (cr_atx (cr_atx f_o0 x_s2) x_s10)).trans (cf_k (a := 0) F_s10 rfl (by decide)), ?_⟩
        obtain ⟨A_a19, w_a19, f_a19⟩ := cr_aos (cr_r r_s10 (cr_atx (cr_atx f_o0 x_s2) x_s10) _) (cf_r (a := 0) (j := 4) (y := 3) F_s10 rfl)
        refine ⟨A_a19, w_a19, ?_⟩
        refine ⟨(cr_k r_s10 f_a19).trans (cf_k (a := 3) F_s10 rfl (by decide)), ?_⟩
        try simp -zeta -zetaUnused only [cr_i r_s10 (cr_atx (cr_atx f_o0 x_s2) x_s10)]
        obtain ⟨p22, s21, mc23, ms24, C_s21, D_s21, e_s21, h, q_s21, w_s21⟩ := fg_bc_s h
        obtain ⟨u1_s21, hc⟩ := fg_sp q_s21 hc
        obtain ⟨u2_s21, hd⟩ := fg_sp w_s21 hd
        refine ⟨mc23, ms24, u1_s21, u2_s21, ft_X7_sizeAsOf r_s10 F_s10 f_a19 e_s21 (fun b_s21 S_s21 x_s21 r_s21 F_s21 => ?_) (Nat.le_refl _) (Nat.le_refl _)⟩
        refine fg_ite Iff.rfl (fun d => ?_) (fun d => ?_)
        · have h := fg_if_t d h
          refine fg_ite Iff.rfl (fun d => ?_) (fun d => ?_)
          · have h := fg_if_t d h
            exact ft_X11_move_64 r_s21 F_s21 (cr_atx (cr_atx (cr_atx f_o0 x_s2) x_s10) x_s21) h (fun b2 S2 x2 => hQ b2 S2 (cr_xt (cr_xt x_s2 (cr_xt x_s10 x_s21)) x2)) hc hd
          · have h := fg_if_e d h
            refine fg_ite Iff.rfl (fun d => ?_) (fun d => ?_)
            · have h := fg_if_t d h
              exact ft_X11_move_64 r_s21 F_s21 (cr_atx (cr_atx (cr_atx f_o0 x_s2) x_s10) x_s21) h (fun b2 S2 x2 => hQ b2 S2 (cr_xt (cr_xt x_s2 (cr_xt x_s10 x_s21)) x2)) hc hd
            · have h := fg_if_e d h
              obtain ⟨q, q2⟩ := fg_retc h
              subst q
              subst q2
              exact hQ _ _ (cr_xt x_s2 (cr_xt x_s10 x_s21)) r_s21 F_s21
        · have h := fg_if_e d h
          unfold w_X11_move_44
          obtain ⟨q, q2⟩ := fg_retc h
          subst q
          subst q2
          exact hQ _ _ (cr_xt x_s2 (cr_xt x_s10 x_s21)) r_s21 F_s21
set_option maxRecDepth 100000 in
set_option maxHeartbeats 4000000 in
theorem ft_X11_again {E : h_S} {g : h_G} {r : Int32} {t : h_S} {Q : Int32 → h_S → Prop} {b : Nat → Nat} {s S_s : h_S} {C0 D0 mc ms : Nat} {A_o0 : Nat} {x1 : Int32} {x2 : Int32} (hR : c_R E g b s S_s) (hF : c_F s) (f_o0 : c_at b s 0 A_o0) (h : fn_X11_again x1 x2 s = some (r, t, C0, D0)) (hQ : ∀ (b2 : Nat → Nat) (S2 : h_S), c_ext b s b2 t → c_R E g b2 t S2 → c_F t → Q r S2) (hc : C0 ≤ mc) (hd : D0 ≤ ms) : w_X11_again A_o0 x1 x2 S_s mc ms Q := by
  unfold fn_X11_again at h
  unfold w_X11_again
  refine ⟨(cr_k hR f_o0).trans (cf_k (a := 0) hF rfl (by decide)), ?_⟩
  obtain ⟨p3, s2, e_s2, h⟩ := fg_b_s h
  refine ft_X11_isWriting hR hF f_o0 e_s2 (fun b_s2 S_s2 x_s2 r_s2 F_s2 => ?_)
  refine fg_ite Iff.rfl (fun d => ?_) (fun d => ?_)
  · have h := fg_if_t d h
    unfold w_X11_again_16
    obtain ⟨q, q2⟩ := fg_retc h
    subst q
    subst q2
    exact hQ _ _ x_s2 r_s2 F_s2
  · have h := fg_if_e d h
    refine ⟨(cr_k r_s2 (cr_atx f_o0 x_s2)).trans (cf_k (a := 0) F_s2 rfl (by decide)), ?_⟩
    obtain ⟨p7, s6, e_s6, h⟩ := fg_b_s h
    refine ft_X11_isMoment r_s2 F_s2 (cr_atx f_o0 x_s2) e_s6 (fun b_s6 S_s6 x_s6 r_s6 F_s6 => ?_)
    refine fg_ite Iff.rfl (fun d => ?_) (fun d => ?_)
    · have h := fg_if_t d h
      unfold w_X11_again_16
      obtain ⟨q, q2⟩ := fg_retc h
      subst q
      subst q2
      exact hQ _ _ (cr_xt x_s2 x_s6) r_s6 F_s6
    · have h := fg_if_e d h
      refine ⟨(cr_k r_s6 (cr_atx (cr_atx f_o0 x_s2) x_s6)).trans (cf_k (a := 0) F_s6 rfl (by decide)), ?_⟩
      obtain ⟨A_a10, w_a10, f_a10⟩ := cr_aos (cr_r r_s6 (cr_atx (cr_atx f_o0 x_s2) x_s6) _) (cf_r (a := 0) (j := 4) (y := 3) F_s6 rfl)
      refine ⟨A_a10, w_a10, ?_⟩
      refine ⟨(cr_k r_s6 f_a10).trans (cf_k (a := 3) F_s6 rfl (by decide)), ?_⟩
      try simp -zeta -zetaUnused only [cr_i r_s6 (cr_atx (cr_atx f_o0 x_s2) x_s6)]
      obtain ⟨u_, s12, mc14, ms15, C_s12, D_s12, e_s12, h, q_s12, w_s12⟩ := fg_bc_s h
      obtain ⟨u1_s12, hc⟩ := fg_sp q_s12 hc
      obtain ⟨u2_s12, hd⟩ := fg_sp w_s12 hd
      refine ⟨mc14, ms15, u1_s12, u2_s12, ft_X7_returnTo r_s6 F_s6 f_a10 e_s12 (fun b_s12 S_s12 x_s12 r_s12 F_s12 => ?_) (Nat.le_refl _) (Nat.le_refl _)⟩
      refine ⟨(cr_k r_s12 (cr_atx (cr_atx (cr_atx f_o0 x_s2) x_s6) x_s12)).trans (cf_k (a := 0) F_s12 rfl (by decide)), ?_⟩
      obtain ⟨A_a19, w_a19, f_a19⟩ := cr_aos (cr_r r_s12 (cr_atx (cr_atx (cr_atx f_o0 x_s2) x_s6) x_s12) _) (cf_r (a := 0) (j := 4) (y := 3) F_s12 rfl)
      refine ⟨A_a19, w_a19, ?_⟩
      refine ⟨(cr_k r_s12 f_a19).trans (cf_k (a := 3) F_s12 rfl (by decide)), ?_⟩
      obtain ⟨p22, s21, e_s21, h⟩ := fg_b_s h
      refine ft_X7_pieceCount r_s12 F_s12 f_a19 e_s21 (fun b_s21 S_s21 x_s21 r_s21 F_s21 => ?_)
      refine ⟨(cr_k r_s21 (cr_atx (cr_atx (cr_atx (cr_atx f_o0 x_s2) x_s6) x_s12) x_s21)).trans (cf_k (a := 0) F_s21 rfl (by decide)), ?_⟩
      obtain ⟨p25, s24, e_s24, h⟩ := fg_b_s h
      refine ft_X11_acted r_s21 F_s21 (cr_atx (cr_atx (cr_atx (cr_atx f_o0 x_s2) x_s6) x_s12) x_s21) e_s24 (fun b_s24 S_s24 x_s24 r_s24 F_s24 => ?_)
      obtain ⟨q, q2⟩ := fg_retc h
      subst q
      subst q2
      exact hQ _ _ (cr_xt x_s2 (cr_xt x_s6 (cr_xt x_s12 (cr_xt x_s21 x_s24)))) r_s24 F_s24
set_option maxRecDepth 100000 in
set_option maxHeartbeats 4000000 in
theorem ft_X11_length {E : h_S} {g : h_G} {r : Int32} {t : h_S} {Q : Int32 → h_S → Prop} {b : Nat → Nat} {s S_s : h_S} {C0 D0 mc ms : Nat} {A_o0 : Nat} {x1 : Int32} {x2 : Int32} (hR : c_R E g b s S_s) (hF : c_F s) (f_o0 : c_at b s 0 A_o0) (h : fn_X11_length x1 x2 s = some (r, t, C0, D0)) (hQ : ∀ (b2 : Nat → Nat) (S2 : h_S), c_ext b s b2 t → c_R E g b2 t S2 → c_F t → Q r S2) (hc : C0 ≤ mc) (hd : D0 ≤ ms) : w_X11_length A_o0 x1 x2 S_s mc ms Q := by
  unfold fn_X11_length at h
  unfold w_X11_length
  refine ⟨(cr_k hR f_o0).trans (cf_k (a := 0) hF rfl (by decide)), ?_⟩
  obtain ⟨p3, s2, e_s2, h⟩ := fg_b_s h
  refine ft_X11_isWriting hR hF f_o0 e_s2 (fun b_s2 S_s2 x_s2 r_s2 F_s2 => ?_)
  refine fg_ite Iff.rfl (fun d => ?_) (fun d => ?_)
  · have h := fg_if_t d h
    unfold w_X11_length_16
    obtain ⟨q, q2⟩ := fg_retc h
    subst q
    subst q2
    exact hQ _ _ x_s2 r_s2 F_s2
  · have h := fg_if_e d h
    refine ⟨(cr_k r_s2 (cr_atx f_o0 x_s2)).trans (cf_k (a := 0) F_s2 rfl (by decide)), ?_⟩
    obtain ⟨p7, s6, e_s6, h⟩ := fg_b_s h
    refine ft_X11_isMoment r_s2 F_s2 (cr_atx f_o0 x_s2) e_s6 (fun b_s6 S_s6 x_s6 r_s6 F_s6 => ?_)
    refine fg_ite Iff.rfl (fun d => ?_) (fun d => ?_)
    · have h := fg_if_t d h
      unfold w_X11_length_16
      obtain ⟨q, q2⟩ := fg_retc h
      subst q
      subst q2
      exact hQ _ _ (cr_xt x_s2 x_s6) r_s6 F_s6
    · have h := fg_if_e d h
      refine ⟨(cr_k r_s6 (cr_atx (cr_atx f_o0 x_s2) x_s6)).trans (cf_k (a := 0) F_s6 rfl (by decide)), ?_⟩
      obtain ⟨A_a10, w_a10, f_a10⟩ := cr_aos (cr_r r_s6 (cr_atx (cr_atx f_o0 x_s2) x_s6) _) (cf_r (a := 0) (j := 4) (y := 3) F_s6 rfl)
      refine ⟨A_a10, w_a10, ?_⟩
      refine ⟨(cr_k r_s6 f_a10).trans (cf_k (a := 3) F_s6 rfl (by decide)), ?_⟩
      obtain ⟨p13, s12, mc14, ms15, C_s12, D_s12, e_s12, h, q_s12, w_s12⟩ := fg_bc_s h
      obtain ⟨u1_s12, hc⟩ := fg_sp q_s12 hc
      obtain ⟨u2_s12, hd⟩ := fg_sp w_s12 hd
      refine ⟨mc14, ms15, u1_s12, u2_s12, ft_X7_sizeAsOf r_s6 F_s6 f_a10 e_s12 (fun b_s12 S_s12 x_s12 r_s12 F_s12 => ?_) (Nat.le_refl _) (Nat.le_refl _)⟩
      obtain ⟨q, q2⟩ := fg_retc h
      subst q
      subst q2
      exact hQ _ _ (cr_xt x_s2 (cr_xt x_s6 x_s12)) r_s12 F_s12
set_option maxRecDepth 100000 in
set_option maxHeartbeats 4000000 in
theorem ft_X11_shown {E : h_S} {g : h_G} {r : Int32} {t : h_S} {Q : Int32 → h_S → Prop} {b : Nat → Nat} {s S_s : h_S} {C0 D0 mc ms : Nat} {A_o0 : Nat} {x1 : Int32} {x2 : Int32} {x3 : Int32} (hR : c_R E g b s S_s) (hF : c_F s) (f_o0 : c_at b s 0 A_o0) (h : fn_X11_shown x1 x2 x3 s = some (r, t, C0, D0)) (hQ : ∀ (b2 : Nat → Nat) (S2 : h_S), c_ext b s b2 t → c_R E g b2 t S2 → c_F t → Q r S2) (hc : C0 ≤ mc) (hd : D0 ≤ ms) : w_X11_shown A_o0 x1 x2 x3 S_s mc ms Q := by
  unfold fn_X11_shown at h
  unfold w_X11_shown
  refine ⟨(cr_k hR f_o0).trans (cf_k (a := 0) hF rfl (by decide)), ?_⟩
  obtain ⟨p3, s2, e_s2, h⟩ := fg_b_s h
  refine ft_X11_isWriting hR hF f_o0 e_s2 (fun b_s2 S_s2 x_s2 r_s2 F_s2 => ?_)
  refine fg_ite Iff.rfl (fun d => ?_) (fun d => ?_)
  · have h := fg_if_t d h
    unfold w_X11_shown_16
    obtain ⟨q, q2⟩ := fg_retc h
    subst q
    subst q2
    exact hQ _ _ x_s2 r_s2 F_s2
  · have h := fg_if_e d h
    refine ⟨(cr_k r_s2 (cr_atx f_o0 x_s2)).trans (cf_k (a := 0) F_s2 rfl (by decide)), ?_⟩
    obtain ⟨p7, s6, e_s6, h⟩ := fg_b_s h
    refine ft_X11_isMoment r_s2 F_s2 (cr_atx f_o0 x_s2) e_s6 (fun b_s6 S_s6 x_s6 r_s6 F_s6 => ?_)
    refine fg_ite Iff.rfl (fun d => ?_) (fun d => ?_)
    · have h := fg_if_t d h
      unfold w_X11_shown_16
      obtain ⟨q, q2⟩ := fg_retc h
      subst q
      subst q2
      exact hQ _ _ (cr_xt x_s2 x_s6) r_s6 F_s6
    · have h := fg_if_e d h
      refine ⟨(cr_k r_s6 (cr_atx (cr_atx f_o0 x_s2) x_s6)).trans (cf_k (a := 0) F_s6 rfl (by decide)), ?_⟩
      obtain ⟨A_a10, w_a10, f_a10⟩ := cr_aos (cr_r r_s6 (cr_atx (cr_atx f_o0 x_s2) x_s6) _) (cf_r (a := 0) (j := 4) (y := 3) F_s6 rfl)
      refine ⟨A_a10, w_a10, ?_⟩
      refine ⟨(cr_k r_s6 f_a10).trans (cf_k (a := 3) F_s6 rfl (by decide)), ?_⟩
      obtain ⟨p13, s12, mc14, ms15, C_s12, D_s12, e_s12, h, q_s12, w_s12⟩ := fg_bc_s h
      obtain ⟨u1_s12, hc⟩ := fg_sp q_s12 hc
      obtain ⟨u2_s12, hd⟩ := fg_sp w_s12 hd
      refine ⟨mc14, ms15, u1_s12, u2_s12, ft_X7_shownOf 6 r_s6 F_s6 f_a10 e_s12 (fun b_s12 R_p13 S_s12 x_s12 r_s12 F_s12 f_p13 => ?_) (Nat.le_refl _) (Nat.le_refl _)⟩
      obtain ⟨a18, o_a18, h⟩ := fg_o_s h
      obtain ⟨A_a18, w_a18, f_a18⟩ := cr_aos f_p13 o_a18
      refine ⟨A_a18, w_a18, ?_⟩
      obtain ⟨c_a18_1, h⟩ := fg_g_s h
      refine ⟨(cr_k r_s12 f_a18).trans c_a18_1, ?_⟩
      try simp -zeta -zetaUnused only [cr_i r_s12 f_a18]
      obtain ⟨p21, s20, e_s20, h⟩ := fg_b_s h
      refine ft_X11_within r_s12 F_s12 e_s20 (fun b_s20 S_s20 x_s20 r_s20 F_s20 => ?_)
      refine fg_ite Iff.rfl (fun d => ?_) (fun d => ?_)
      · have h := fg_if_t d h
        unfold w_X11_shown_53
        obtain ⟨q, q2⟩ := fg_retc h
        subst q
        subst q2
        exact hQ _ _ (cr_xt x_s2 (cr_xt x_s6 (cr_xt x_s12 x_s20))) r_s20 F_s20
      · have h := fg_if_e d h
        obtain ⟨a23, o_a23, h⟩ := fg_o_s h
        obtain ⟨A_a23, w_a23, f_a23⟩ := cr_aos f_p13 o_a23
        refine ⟨A_a23, w_a23, ?_⟩
        obtain ⟨c_a23_2, h⟩ := fg_g_s h
        refine ⟨(cr_k r_s20 (cr_atx f_a23 x_s20)).trans c_a23_2, ?_⟩
        obtain ⟨a25, o_a25, h⟩ := fg_o_s h
        obtain ⟨A_a25, w_a25, f_a25⟩ := cr_aos (cr_r r_s20 (cr_atx f_a23 x_s20) _) o_a25
        refine ⟨A_a25, w_a25, ?_⟩
        obtain ⟨c_a25_3, h⟩ := fg_g_s h
        refine ⟨(cr_k r_s20 f_a25).trans c_a25_3, ?_⟩
        obtain ⟨c, h⟩ := fg_g_s h
        refine ⟨cr_vp (cr_n r_s20 f_a25) rfl c, ?_⟩
        unfold w_X11_shown_53
        try simp -zeta -zetaUnused only [cr_i r_s20 f_a25]
        obtain ⟨q, q2⟩ := fg_retc h
        subst q
        subst q2
        exact hQ _ _ (cr_xt x_s2 (cr_xt x_s6 (cr_xt x_s12 x_s20))) r_s20 F_s20
set_option maxRecDepth 100000 in
set_option maxHeartbeats 4000000 in
theorem ft_X11_pieces {E : h_S} {g : h_G} {r : Int32} {t : h_S} {Q : Int32 → h_S → Prop} {b : Nat → Nat} {s S_s : h_S} {A_o0 : Nat} {x1 : Int32} (hR : c_R E g b s S_s) (hF : c_F s) (f_o0 : c_at b s 0 A_o0) (h : fn_X11_pieces x1 s = some (r, t)) (hQ : ∀ (b2 : Nat → Nat) (S2 : h_S), c_ext b s b2 t → c_R E g b2 t S2 → c_F t → Q r S2) : w_X11_pieces A_o0 x1 S_s Q := by
  unfold fn_X11_pieces at h
  unfold w_X11_pieces
  refine ⟨(cr_k hR f_o0).trans (cf_k (a := 0) hF rfl (by decide)), ?_⟩
  obtain ⟨p3, s2, e_s2, h⟩ := fg_b_s h
  refine ft_X11_isWriting hR hF f_o0 e_s2 (fun b_s2 S_s2 x_s2 r_s2 F_s2 => ?_)
  refine fg_ite Iff.rfl (fun d => ?_) (fun d => ?_)
  · have h := fg_if_t d h
    unfold w_X11_pieces_20
    obtain ⟨q, q2⟩ := fg_ret h
    subst q
    subst q2
    exact hQ _ _ x_s2 r_s2 F_s2
  · have h := fg_if_e d h
    refine ⟨(cr_k r_s2 (cr_atx f_o0 x_s2)).trans (cf_k (a := 0) F_s2 rfl (by decide)), ?_⟩
    obtain ⟨A_a6, w_a6, f_a6⟩ := cr_aos (cr_r r_s2 (cr_atx f_o0 x_s2) _) (cf_r (a := 0) (j := 4) (y := 3) F_s2 rfl)
    refine ⟨A_a6, w_a6, ?_⟩
    refine ⟨(cr_k r_s2 f_a6).trans (cf_k (a := 3) F_s2 rfl (by decide)), ?_⟩
    obtain ⟨p9, s8, e_s8, h⟩ := fg_b_s h
    refine ft_X7_pieceCount r_s2 F_s2 f_a6 e_s8 (fun b_s8 S_s8 x_s8 r_s8 F_s8 => ?_)
    unfold w_X11_pieces_20
    obtain ⟨q, q2⟩ := fg_ret h
    subst q
    subst q2
    exact hQ _ _ (cr_xt x_s2 x_s8) r_s8 F_s8
set_option maxRecDepth 100000 in
set_option maxHeartbeats 4000000 in
theorem ft_X11_piece {E : h_S} {g : h_G} {r : Int32} {t : h_S} {Q : Int32 → h_S → Prop} {b : Nat → Nat} {s S_s : h_S} {A_o0 : Nat} {x1 : Int32} {x2 : Int32} {x3 : Int32} (hR : c_R E g b s S_s) (hF : c_F s) (f_o0 : c_at b s 0 A_o0) (h : fn_X11_piece x1 x2 x3 s = some (r, t)) (hQ : ∀ (b2 : Nat → Nat) (S2 : h_S), c_ext b s b2 t → c_R E g b2 t S2 → c_F t → Q r S2) : w_X11_piece A_o0 x1 x2 x3 S_s Q := by
  unfold fn_X11_piece at h
  unfold w_X11_piece
  refine ⟨(cr_k hR f_o0).trans (cf_k (a := 0) hF rfl (by decide)), ?_⟩
  obtain ⟨p3, s2, e_s2, h⟩ := fg_b_s h
  refine ft_X11_isWriting hR hF f_o0 e_s2 (fun b_s2 S_s2 x_s2 r_s2 F_s2 => ?_)
  refine fg_ite Iff.rfl (fun d => ?_) (fun d => ?_)
  · have h := fg_if_t d h
    obtain ⟨q, q2⟩ := fg_ret h
    subst q
    subst q2
    exact hQ _ _ x_s2 r_s2 F_s2
  · have h := fg_if_e d h
    refine ⟨(cr_k r_s2 (cr_atx f_o0 x_s2)).trans (cf_k (a := 0) F_s2 rfl (by decide)), ?_⟩
    obtain ⟨A_a6, w_a6, f_a6⟩ := cr_aos (cr_r r_s2 (cr_atx f_o0 x_s2) _) (cf_r (a := 0) (j := 4) (y := 3) F_s2 rfl)
    refine ⟨A_a6, w_a6, ?_⟩
    refine ⟨(cr_k r_s2 f_a6).trans (cf_k (a := 3) F_s2 rfl (by decide)), ?_⟩
    obtain ⟨p9, s8, e_s8, h⟩ := fg_b_s h
    refine ft_X7_pieceAt r_s2 F_s2 f_a6 e_s8 (fun b_s8 R_p9 S_s8 x_s8 r_s8 F_s8 f_p9 => ?_)
    refine fg_ite (cr_isn f_p9) (fun d => ?_) (fun d => ?_)
    · have h := fg_if_t d h
      obtain ⟨q, q2⟩ := fg_ret h
      subst q
      subst q2
      exact hQ _ _ (cr_xt x_s2 x_s8) r_s8 F_s8
    · have h := fg_if_e d h
      refine fg_ite Iff.rfl (fun d => ?_) (fun d => ?_)
      · have h := fg_if_t d h
        obtain ⟨a12, o_a12, h⟩ := fg_o_s h
        obtain ⟨A_a12, w_a12, f_a12⟩ := cr_aos f_p9 o_a12
        refine ⟨A_a12, w_a12, ?_⟩
        obtain ⟨c_a12_1, h⟩ := fg_g_s h
        refine ⟨(cr_k r_s8 f_a12).trans c_a12_1, ?_⟩
        try simp -zeta -zetaUnused only [cr_i r_s8 f_a12]
        obtain ⟨q, q2⟩ := fg_ret h
        subst q
        subst q2
        exact hQ _ _ (cr_xt x_s2 x_s8) r_s8 F_s8
      · have h := fg_if_e d h
        refine fg_ite Iff.rfl (fun d => ?_) (fun d => ?_)
        · have h := fg_if_t d h
          obtain ⟨a15, o_a15, h⟩ := fg_o_s h
          obtain ⟨A_a15, w_a15, f_a15⟩ := cr_aos f_p9 o_a15
          refine ⟨A_a15, w_a15, ?_⟩
          obtain ⟨c_a15_1, h⟩ := fg_g_s h
          refine ⟨(cr_k r_s8 f_a15).trans c_a15_1, ?_⟩
          try simp -zeta -zetaUnused only [cr_i r_s8 f_a15]
          obtain ⟨q, q2⟩ := fg_ret h
          subst q
          subst q2
          exact hQ _ _ (cr_xt x_s2 x_s8) r_s8 F_s8
        · have h := fg_if_e d h
          refine fg_ite Iff.rfl (fun d => ?_) (fun d => ?_)
          · have h := fg_if_t d h
            obtain ⟨a18, o_a18, h⟩ := fg_o_s h
            obtain ⟨A_a18, w_a18, f_a18⟩ := cr_aos f_p9 o_a18
            refine ⟨A_a18, w_a18, ?_⟩
            obtain ⟨c_a18_1, h⟩ := fg_g_s h
            refine ⟨(cr_k r_s8 f_a18).trans c_a18_1, ?_⟩
            try simp -zeta -zetaUnused only [cr_i r_s8 f_a18]
            obtain ⟨q, q2⟩ := fg_ret h
            subst q
            subst q2
            exact hQ _ _ (cr_xt x_s2 x_s8) r_s8 F_s8
          · have h := fg_if_e d h
            refine fg_ite Iff.rfl (fun d => ?_) (fun d => ?_)
            · have h := fg_if_t d h
              obtain ⟨a21, o_a21, h⟩ := fg_o_s h
              obtain ⟨A_a21, w_a21, f_a21⟩ := cr_aos f_p9 o_a21
              refine ⟨A_a21, w_a21, ?_⟩
              obtain ⟨c_a21_1, h⟩ := fg_g_s h
              refine ⟨(cr_k r_s8 f_a21).trans c_a21_1, ?_⟩
              try simp -zeta -zetaUnused only [cr_i r_s8 f_a21]
              obtain ⟨q, q2⟩ := fg_ret h
              subst q
              subst q2
              exact hQ _ _ (cr_xt x_s2 x_s8) r_s8 F_s8
            · have h := fg_if_e d h
              refine fg_ite Iff.rfl (fun d => ?_) (fun d => ?_)
              · have h := fg_if_t d h
                obtain ⟨a24, o_a24, h⟩ := fg_o_s h
                obtain ⟨A_a24, w_a24, f_a24⟩ := cr_aos f_p9 o_a24
                refine ⟨A_a24, w_a24, ?_⟩
                obtain ⟨c_a24_1, h⟩ := fg_g_s h
                refine ⟨(cr_k r_s8 f_a24).trans c_a24_1, ?_⟩
                try simp -zeta -zetaUnused only [cr_i r_s8 f_a24]
                obtain ⟨q, q2⟩ := fg_ret h
                subst q
                subst q2
                exact hQ _ _ (cr_xt x_s2 x_s8) r_s8 F_s8
              · have h := fg_if_e d h
                obtain ⟨q, q2⟩ := fg_ret h
                subst q
                subst q2
                exact hQ _ _ (cr_xt x_s2 x_s8) r_s8 F_s8
set_option maxRecDepth 100000 in
set_option maxHeartbeats 4000000 in
theorem ft_X11_word {E : h_S} {g : h_G} {r : Int32} {t : h_S} {Q : Int32 → h_S → Prop} {b : Nat → Nat} {s S_s : h_S} {A_o0 : Nat} {x1 : Int32} {x2 : Int32} (hR : c_R E g b s S_s) (hF : c_F s) (f_o0 : c_at b s 0 A_o0) (h : fn_X11_word x1 x2 s = some (r, t)) (hQ : ∀ (b2 : Nat → Nat) (S2 : h_S), c_ext b s b2 t → c_R E g b2 t S2 → c_F t → Q r S2) : w_X11_word A_o0 x1 x2 S_s Q := by
  unfold fn_X11_word at h
  unfold w_X11_word
  refine ⟨(cr_k hR f_o0).trans (cf_k (a := 0) hF rfl (by decide)), ?_⟩
  obtain ⟨A_a2, w_a2, f_a2⟩ := cr_aos (cr_r hR f_o0 _) (cf_r (a := 0) (j := 4) (y := 3) hF rfl)
  refine ⟨A_a2, w_a2, ?_⟩
  refine ⟨(cr_k hR f_a2).trans (cf_k (a := 3) hF rfl (by decide)), ?_⟩
  obtain ⟨p5, s4, e_s4, h⟩ := fg_b_s h
  refine ft_X7_wordAt hR hF f_a2 e_s4 (fun b_s4 R_p5 S_s4 x_s4 r_s4 F_s4 f_p5 => ?_)
  refine fg_ite (cr_isn f_p5) (fun d => ?_) (fun d => ?_)
  · have h := fg_if_t d h
    obtain ⟨q, q2⟩ := fg_ret h
    subst q
    subst q2
    exact hQ _ _ x_s4 r_s4 F_s4
  · have h := fg_if_e d h
    refine fg_ite Iff.rfl (fun d => ?_) (fun d => ?_)
    · have h := fg_if_t d h
      obtain ⟨a8, o_a8, h⟩ := fg_o_s h
      obtain ⟨A_a8, w_a8, f_a8⟩ := cr_aos f_p5 o_a8
      refine ⟨A_a8, w_a8, ?_⟩
      obtain ⟨c_a8_1, h⟩ := fg_g_s h
      refine ⟨(cr_k r_s4 f_a8).trans c_a8_1, ?_⟩
      try simp -zeta -zetaUnused only [cr_i r_s4 f_a8]
      obtain ⟨q, q2⟩ := fg_ret h
      subst q
      subst q2
      exact hQ _ _ x_s4 r_s4 F_s4
    · have h := fg_if_e d h
      refine fg_ite Iff.rfl (fun d => ?_) (fun d => ?_)
      · have h := fg_if_t d h
        obtain ⟨a11, o_a11, h⟩ := fg_o_s h
        obtain ⟨A_a11, w_a11, f_a11⟩ := cr_aos f_p5 o_a11
        refine ⟨A_a11, w_a11, ?_⟩
        obtain ⟨c_a11_1, h⟩ := fg_g_s h
        refine ⟨(cr_k r_s4 f_a11).trans c_a11_1, ?_⟩
        try simp -zeta -zetaUnused only [cr_i r_s4 f_a11]
        obtain ⟨q, q2⟩ := fg_ret h
        subst q
        subst q2
        exact hQ _ _ x_s4 r_s4 F_s4
      · have h := fg_if_e d h
        refine fg_ite Iff.rfl (fun d => ?_) (fun d => ?_)
        · have h := fg_if_t d h
          obtain ⟨a14, o_a14, h⟩ := fg_o_s h
          obtain ⟨A_a14, w_a14, f_a14⟩ := cr_aos f_p5 o_a14
          refine ⟨A_a14, w_a14, ?_⟩
          obtain ⟨c_a14_1, h⟩ := fg_g_s h
          refine ⟨(cr_k r_s4 f_a14).trans c_a14_1, ?_⟩
          try simp -zeta -zetaUnused only [cr_i r_s4 f_a14]
          obtain ⟨q, q2⟩ := fg_ret h
          subst q
          subst q2
          exact hQ _ _ x_s4 r_s4 F_s4
        · have h := fg_if_e d h
          refine fg_ite Iff.rfl (fun d => ?_) (fun d => ?_)
          · have h := fg_if_t d h
            obtain ⟨a17, o_a17, h⟩ := fg_o_s h
            obtain ⟨A_a17, w_a17, f_a17⟩ := cr_aos f_p5 o_a17
            refine ⟨A_a17, w_a17, ?_⟩
            obtain ⟨c_a17_1, h⟩ := fg_g_s h
            refine ⟨(cr_k r_s4 f_a17).trans c_a17_1, ?_⟩
            try simp -zeta -zetaUnused only [cr_i r_s4 f_a17]
            obtain ⟨q, q2⟩ := fg_ret h
            subst q
            subst q2
            exact hQ _ _ x_s4 r_s4 F_s4
          · have h := fg_if_e d h
            refine fg_ite Iff.rfl (fun d => ?_) (fun d => ?_)
            · have h := fg_if_t d h
              obtain ⟨a20, o_a20, h⟩ := fg_o_s h
              obtain ⟨A_a20, w_a20, f_a20⟩ := cr_aos f_p5 o_a20
              refine ⟨A_a20, w_a20, ?_⟩
              obtain ⟨c_a20_1, h⟩ := fg_g_s h
              refine ⟨(cr_k r_s4 f_a20).trans c_a20_1, ?_⟩
              try simp -zeta -zetaUnused only [cr_i r_s4 f_a20]
              obtain ⟨q, q2⟩ := fg_ret h
              subst q
              subst q2
              exact hQ _ _ x_s4 r_s4 F_s4
            · have h := fg_if_e d h
              obtain ⟨q, q2⟩ := fg_ret h
              subst q
              subst q2
              exact hQ _ _ x_s4 r_s4 F_s4
set_option maxRecDepth 100000 in
set_option maxHeartbeats 4000000 in
theorem ft_J7_copyOf_59c91 {E : h_S} {g : h_G} {r : Option Nat} {t : h_S} {Q : Option Nat → h_S → Prop} {b : Nat → Nat} {s S_s : h_S} {C0 D0 mc ms : Nat} {r0 : Option Nat} {R_r0 : Option Nat} {x1 : Int32} (hR : c_R E g b s S_s) (hF : c_F s) (f_r0 : c_ao b s r0 R_r0) (h : fn_J7_copyOf_59c91 r0 x1 s = some (r, t, C0, D0)) (hQ : ∀ (b2 : Nat → Nat) (R2 : Option Nat) (S2 : h_S), c_ext b s b2 t → c_R E g b2 t S2 → c_F t → c_ao b2 t r R2 → Q R2 S2) (hc : C0 ≤ mc) (hd : D0 ≤ ms) : w_J7_copyOf_59c91 R_r0 x1 S_s mc ms Q := by
  unfold fn_J7_copyOf_59c91 at h
  unfold w_J7_copyOf_59c91
  obtain ⟨a1, o_a1, h⟩ := fg_o_s h
  obtain ⟨A_a1, w_a1, f_a1⟩ := cr_aos f_r0 o_a1
  refine ⟨A_a1, w_a1, ?_⟩
  obtain ⟨c_a1_1, h⟩ := fg_g_s h
  refine ⟨(cr_k hR f_a1).trans c_a1_1, ?_⟩
  try simp -zeta -zetaUnused only [cr_n hR f_a1]
  refine fg_ite Iff.rfl (fun d => ?_) (fun d => ?_)
  · have h := fg_if_t d h
    obtain ⟨a24, o_a24, h⟩ := fg_o_s h
    obtain ⟨A_a24, w_a24, f_a24⟩ := cr_aos f_r0 o_a24
    refine ⟨A_a24, w_a24, ?_⟩
    obtain ⟨c_a24_2, h⟩ := fg_g_s h
    refine ⟨(cr_k hR f_a24).trans c_a24_2, ?_⟩
    try simp -zeta -zetaUnused only [cr_n hR f_a24]
    obtain ⟨q26, e_q26, h⟩ := fg_let_s h
    have z_q26 : h_k s q26 = 0 := cf_z hF e_q26
    obtain ⟨C_q26, D_q26, h, q_q26, w_q26⟩ := fg_c_s h
    obtain ⟨u1_q26, hc⟩ := fg_sp q_q26 hc
    obtain ⟨u2_q26, hd⟩ := fg_sp w_q26 hd
    refine ⟨u1_q26, u2_q26, fun A_q26 Z_q26 => ?_⟩
    obtain ⟨s30, e_s30, h⟩ := fg_let_s h
    intro S_s30
    have r_s30 : c_R E g (c_up b q26 A_q26) s30 S_s30 := by rw [e_s30]; exact cr_cl hR f_a24 z_q26 Z_q26
    have F_s30 : c_F s30 := by rw [e_s30]; exact cf_cl hF e_q26 (by decide)
    have x_s30 : c_ext b s (c_up b q26 A_q26) s30 := by rw [e_s30]; exact cx_cl z_q26
    have f_q26 : c_at (c_up b q26 A_q26) s30 q26 A_q26 := by rw [e_s30]; exact ca_cl
    clear_value S_s30
    intro c31
    have hc : _ ≤ c31 := hc
    clear_value c31
    intro d32
    have hd : _ ≤ d32 := hd
    clear_value d32
    obtain ⟨c_q26_4, h⟩ := fg_g_s h
    refine ⟨(cr_k r_s30 f_q26).trans c_q26_4, ?_⟩
    obtain ⟨q, q2⟩ := fg_retc h
    subst q
    subst q2
    exact hQ _ _ _ x_s30 r_s30 F_s30 (cr_some f_q26)
  · have h := fg_if_e d h
    obtain ⟨c, h⟩ := fg_g_s h
    refine ⟨c, ?_⟩
    obtain ⟨c, h⟩ := fg_g_s h
    refine ⟨c, ?_⟩
    obtain ⟨q4, e_q4, h⟩ := fg_let_s h
    have z_q4 : h_k s q4 = 0 := cf_z hF e_q4
    obtain ⟨C_q4, D_q4, h, q_q4, w_q4⟩ := fg_c_s h
    obtain ⟨u1_q4, hc⟩ := fg_sp q_q4 hc
    obtain ⟨u2_q4, hd⟩ := fg_sp w_q4 hd
    refine ⟨u1_q4, u2_q4, fun A_q4 Z_q4 => ?_⟩
    obtain ⟨s10, e_s10, h⟩ := fg_let_s h
    intro S_s10
    have r_s10 : c_R E g (c_up b q4 A_q4) s10 S_s10 := by rw [e_s10]; exact cr_nw hR z_q4 Z_q4 (by decide)
    have F_s10 : c_F s10 := by rw [e_s10]; exact cf_nw hF e_q4 (by decide)
    have x_s10 : c_ext b s (c_up b q4 A_q4) s10 := by rw [e_s10]; exact cx_new z_q4
    have f_q4 : c_at (c_up b q4 A_q4) s10 q4 A_q4 := by rw [e_s10]; exact ca_nw (by decide)
    clear_value S_s10
    intro c11
    have hc : _ ≤ c11 := hc
    clear_value c11
    intro d12
    have hd : _ ≤ d12 := hd
    clear_value d12
    obtain ⟨a13, o_a13, h⟩ := fg_o_s h
    obtain ⟨A_a13, w_a13, f_a13⟩ := cr_aos f_r0 o_a13
    refine ⟨A_a13, w_a13, ?_⟩
    obtain ⟨c_a13_3, h⟩ := fg_g_s h
    refine ⟨(cr_k r_s10 (cr_atx f_a13 x_s10)).trans c_a13_3, ?_⟩
    obtain ⟨c_q4_4, h⟩ := fg_g_s h
    refine ⟨(cr_k r_s10 f_q4).trans c_q4_4, ?_⟩
    obtain ⟨a16, o_a16, h⟩ := fg_o_s h
    obtain ⟨A_a16, w_a16, f_a16⟩ := cr_aos f_r0 o_a16
    refine ⟨A_a16, w_a16, ?_⟩
    obtain ⟨c_a16_5, h⟩ := fg_g_s h
    refine ⟨(cr_k r_s10 (cr_atx f_a16 x_s10)).trans c_a16_5, ?_⟩
    obtain ⟨c, h⟩ := fg_g_s h
    refine ⟨c, ?_⟩
    obtain ⟨c, h⟩ := fg_g_s h
    refine ⟨c, ?_⟩
    try simp -zeta -zetaUnused only [cr_n r_s10 (cr_atx f_a13 x_s10)]
    obtain ⟨c, h⟩ := fg_g_s h
    refine ⟨c, ?_⟩
    try simp -zeta -zetaUnused only [cr_n r_s10 (cr_atx f_a16 x_s10)]
    obtain ⟨c, h⟩ := fg_g_s h
    refine ⟨c, ?_⟩
    try simp -zeta -zetaUnused only [cr_n r_s10 f_q4]
    obtain ⟨c, h⟩ := fg_g_s h
    refine ⟨c, ?_⟩
    obtain ⟨s23, e_s23, h⟩ := fg_let_s h
    intro S_s23
    have r_s23 : c_R E g (c_up b q4 A_q4) s23 S_s23 := by rw [e_s23]; exact cr_cp r_s10 (cr_atx f_a16 x_s10) f_q4 _ _ _
    have F_s23 : c_F s23 := by rw [e_s23]; exact cf_cp F_s10 _ _ _
    have x_s23 : c_ext (c_up b q4 A_q4) s10 (c_up b q4 A_q4) s23 := by rw [e_s23]; exact cx_cp _ _ _
    clear_value S_s23
    obtain ⟨q, q2⟩ := fg_retc h
    subst q
    subst q2
    exact hQ _ _ _ (cr_xt x_s10 x_s23) r_s23 F_s23 (cr_some (cr_atx f_q4 x_s23))
set_option maxRecDepth 100000 in
set_option maxHeartbeats 4000000 in
theorem ft_X11_version {E : h_S} {g : h_G} {r : Int32} {t : h_S} {Q : Int32 → h_S → Prop} {b : Nat → Nat} {s S_s : h_S} {C0 D0 mc ms : Nat} {A_o0 : Nat} {x1 : Int32} (hR : c_R E g b s S_s) (hF : c_F s) (f_o0 : c_at b s 0 A_o0) (h : fn_X11_version x1 s = some (r, t, C0, D0)) (hQ : ∀ (b2 : Nat → Nat) (S2 : h_S), c_ext b s b2 t → c_R E g b2 t S2 → c_F t → Q r S2) (hc : C0 ≤ mc) (hd : D0 ≤ ms) : w_X11_version g A_o0 x1 S_s mc ms Q := by
  unfold fn_X11_version at h
  unfold w_X11_version
  refine ⟨(cr_k hR f_o0).trans (cf_k (a := 0) hF rfl (by decide)), ?_⟩
  obtain ⟨p3, s2, e_s2, h⟩ := fg_b_s h
  refine ft_X11_isWriting hR hF f_o0 e_s2 (fun b_s2 S_s2 x_s2 r_s2 F_s2 => ?_)
  refine fg_ite Iff.rfl (fun d => ?_) (fun d => ?_)
  · have h := fg_if_t d h
    obtain ⟨q, q2⟩ := fg_retc h
    subst q
    subst q2
    exact hQ _ _ x_s2 r_s2 F_s2
  · have h := fg_if_e d h
    refine ⟨(cr_k r_s2 (cr_atx f_o0 x_s2)).trans (cf_k (a := 0) F_s2 rfl (by decide)), ?_⟩
    obtain ⟨A_a6, w_a6, f_a6⟩ := cr_aos (cr_r r_s2 (cr_atx f_o0 x_s2) _) (cf_r (a := 0) (j := 5) (y := 4) F_s2 rfl)
    refine ⟨A_a6, w_a6, ?_⟩
    refine ⟨(cr_k r_s2 f_a6).trans (cf_k (a := 4) F_s2 rfl (by decide)), ?_⟩
    obtain ⟨p9, s8, e_s8, h⟩ := fg_b_s h
    refine ft_Jx4a65c_size_8abf5 r_s2 F_s2 f_a6 e_s8 (fun b_s8 S_s8 x_s8 r_s8 F_s8 => ?_)
    refine fg_ite Iff.rfl (fun d => ?_) (fun d => ?_)
    · have h := fg_if_t d h
      refine ⟨(cr_k r_s8 (cr_atx (cr_atx f_o0 x_s2) x_s8)).trans (cf_k (a := 0) F_s8 rfl (by decide)), ?_⟩
      obtain ⟨A_a12, w_a12, f_a12⟩ := cr_aos (cr_r r_s8 (cr_atx (cr_atx f_o0 x_s2) x_s8) _) (cf_r (a := 0) (j := 4) (y := 3) F_s8 rfl)
      refine ⟨A_a12, w_a12, ?_⟩
      refine ⟨(cr_k r_s8 f_a12).trans (cf_k (a := 3) F_s8 rfl (by decide)), ?_⟩
      try simp -zeta -zetaUnused only [cr_i r_s8 (cr_atx (cr_atx f_o0 x_s2) x_s8)]
      obtain ⟨p15, s14, mc16, ms17, C_s14, D_s14, e_s14, h, q_s14, w_s14⟩ := fg_bc_s h
      obtain ⟨u1_s14, hc⟩ := fg_sp q_s14 hc
      obtain ⟨u2_s14, hd⟩ := fg_sp w_s14 hd
      refine ⟨mc16, ms17, u1_s14, u2_s14, ft_X7_shownOf 6 r_s8 F_s8 f_a12 e_s14 (fun b_s14 R_p15 S_s14 x_s14 r_s14 F_s14 f_p15 => ?_) (Nat.le_refl _) (Nat.le_refl _)⟩
      refine ⟨(cr_k r_s14 (cr_atx (cr_atx (cr_atx f_o0 x_s2) x_s8) x_s14)).trans (cf_k (a := 0) F_s14 rfl (by decide)), ?_⟩
      obtain ⟨q21, e_q21, h⟩ := fg_let_s h
      have z_q21 : h_k s14 q21 = 0 := cf_z F_s14 e_q21
      obtain ⟨C_q21, D_q21, h, q_q21, w_q21⟩ := fg_c_s h
      obtain ⟨u1_q21, hc⟩ := fg_sp q_q21 hc
      obtain ⟨u2_q21, hd⟩ := fg_sp w_q21 hd
      refine ⟨u1_q21, u2_q21, fun A_q21 Z_q21 => ?_⟩
      obtain ⟨s25, e_s25, h⟩ := fg_let_s h
      intro S_s25
      have r_s25 : c_R E g (c_up b_s14 q21 A_q21) s25 S_s25 := by rw [e_s25]; exact cr_nw r_s14 z_q21 Z_q21 (by decide)
      have F_s25 : c_F s25 := by rw [e_s25]; exact cf_nw F_s14 e_q21 (by decide)
      have x_s25 : c_ext b_s14 s14 (c_up b_s14 q21 A_q21) s25 := by rw [e_s25]; exact cx_new z_q21
      have f_q21 : c_at (c_up b_s14 q21 A_q21) s25 q21 A_q21 := by rw [e_s25]; exact ca_nw (by decide)
      clear_value S_s25
      intro c26
      have hc : _ ≤ c26 := hc
      clear_value c26
      intro d27
      have hd : _ ≤ d27 := hd
      clear_value d27
      refine ⟨(cr_k r_s25 (cr_atx (cr_atx (cr_atx (cr_atx f_o0 x_s2) x_s8) x_s14) x_s25)).trans (cf_k (a := 0) F_s25 rfl (by decide)), ?_⟩
      obtain ⟨a29, o_a29, h⟩ := fg_o_s h
      obtain ⟨A_a29, w_a29, f_a29⟩ := cr_aos f_p15 o_a29
      refine ⟨A_a29, w_a29, ?_⟩
      obtain ⟨c_a29_2, h⟩ := fg_g_s h
      refine ⟨(cr_k r_s25 (cr_atx f_a29 x_s25)).trans c_a29_2, ?_⟩
      obtain ⟨a31, o_a31, h⟩ := fg_o_s h
      obtain ⟨A_a31, w_a31, f_a31⟩ := cr_aos f_p15 o_a31
      refine ⟨A_a31, w_a31, ?_⟩
      obtain ⟨c_a31_3, h⟩ := fg_g_s h
      refine ⟨(cr_k r_s25 (cr_atx f_a31 x_s25)).trans c_a31_3, ?_⟩
      try simp -zeta -zetaUnused only [cr_i r_s25 (cr_atx f_a31 x_s25)]
      obtain ⟨p34, s33, mc35, ms36, C_s33, D_s33, e_s33, h, q_s33, w_s33⟩ := fg_bc_s h
      obtain ⟨u1_s33, hc⟩ := fg_sp q_s33 hc
      obtain ⟨u2_s33, hd⟩ := fg_sp w_s33 hd
      refine ⟨mc35, ms36, u1_s33, u2_s33, ft_J7_copyOf_59c91 r_s25 F_s25 (cr_r r_s25 (cr_atx f_a29 x_s25) _) e_s33 (fun b_s33 R_p34 S_s33 x_s33 r_s33 F_s33 f_p34 => ?_) (Nat.le_refl _) (Nat.le_refl _)⟩
      try simp -zeta -zetaUnused only [cr_i r_s25 (cr_atx (cr_atx (cr_atx (cr_atx f_o0 x_s2) x_s8) x_s14) x_s25)]
      obtain ⟨u_, s39, e_s39, h⟩ := fg_b_s h
      refine ft_X8_init r_s33 F_s33 (cr_atx f_q21 x_s33) f_p34 e_s39 (fun b_s39 S_s39 x_s39 r_s39 F_s39 => ?_)
      obtain ⟨A_a41, w_a41, f_a41⟩ := cr_aos (cr_r r_s14 (cr_atx (cr_atx (cr_atx f_o0 x_s2) x_s8) x_s14) _) (cf_r (a := 0) (j := 5) (y := 4) F_s14 rfl)
      refine ⟨A_a41, w_a41, ?_⟩
      refine ⟨(cr_k r_s39 (cr_atx (cr_atx (cr_atx f_a41 x_s25) x_s33) x_s39)).trans (cf_k (a := 4) F_s39 rfl (by decide)), ?_⟩
      obtain ⟨p44, s43, mc45, ms46, C_s43, D_s43, e_s43, h, q_s43, w_s43⟩ := fg_bc_s h
      obtain ⟨u1_s43, hc⟩ := fg_sp q_s43 hc
      obtain ⟨u2_s43, hd⟩ := fg_sp w_s43 hd
      refine ⟨mc45, ms46, u1_s43, u2_s43, ft_Jx4a65c_add_9ea2d r_s39 F_s39 (cr_atx (cr_atx (cr_atx f_a41 x_s25) x_s33) x_s39) (cr_some (cr_atx (cr_atx f_q21 x_s33) x_s39)) e_s43 (fun b_s43 S_s43 x_s43 r_s43 F_s43 => ?_) (Nat.le_refl _) (Nat.le_refl _)⟩
      refine ⟨(cr_k r_s43 (cr_atx (cr_atx (cr_atx (cr_atx (cr_atx (cr_atx (cr_atx f_o0 x_s2) x_s8) x_s14) x_s25) x_s33) x_s39) x_s43)).trans (cf_k (a := 0) F_s43 rfl (by decide)), ?_⟩
      obtain ⟨A_a50, w_a50, f_a50⟩ := cr_aos (cr_r r_s43 (cr_atx (cr_atx (cr_atx (cr_atx (cr_atx (cr_atx (cr_atx f_o0 x_s2) x_s8) x_s14) x_s25) x_s33) x_s39) x_s43) _) (cf_r (a := 0) (j := 5) (y := 4) F_s43 rfl)
      refine ⟨A_a50, w_a50, ?_⟩
      refine ⟨(cr_k r_s43 f_a50).trans (cf_k (a := 4) F_s43 rfl (by decide)), ?_⟩
      obtain ⟨p53, s52, e_s52, h⟩ := fg_b_s h
      refine ft_Jx4a65c_size_8abf5 r_s43 F_s43 f_a50 e_s52 (fun b_s52 S_s52 x_s52 r_s52 F_s52 => ?_)
      refine ⟨(cr_k r_s52 (cr_atx (cr_atx (cr_atx (cr_atx (cr_atx (cr_atx (cr_atx (cr_atx f_o0 x_s2) x_s8) x_s14) x_s25) x_s33) x_s39) x_s43) x_s52)).trans (cf_k (a := 0) F_s52 rfl (by decide)), ?_⟩
      obtain ⟨p56, s55, e_s55, h⟩ := fg_b_s h
      refine ft_X11_acted r_s52 F_s52 (cr_atx (cr_atx (cr_atx (cr_atx (cr_atx (cr_atx (cr_atx (cr_atx f_o0 x_s2) x_s8) x_s14) x_s25) x_s33) x_s39) x_s43) x_s52) e_s55 (fun b_s55 S_s55 x_s55 r_s55 F_s55 => ?_)
      obtain ⟨q, q2⟩ := fg_retc h
      subst q
      subst q2
      exact hQ _ _ (cr_xt x_s2 (cr_xt x_s8 (cr_xt x_s14 (cr_xt x_s25 (cr_xt x_s33 (cr_xt x_s39 (cr_xt x_s43 (cr_xt x_s52 x_s55)))))))) r_s55 F_s55
    · have h := fg_if_e d h
      obtain ⟨q, q2⟩ := fg_retc h
      subst q
      subst q2
      exact hQ _ _ (cr_xt x_s2 x_s8) r_s8 F_s8
set_option maxRecDepth 100000 in
set_option maxHeartbeats 4000000 in
theorem ft_X11_versionAt {E : h_S} {g : h_G} {r : Option Nat} {t : h_S} {Q : Option Nat → h_S → Prop} {b : Nat → Nat} {s S_s : h_S} {A_o0 : Nat} {x1 : Int32} (hR : c_R E g b s S_s) (hF : c_F s) (f_o0 : c_at b s 0 A_o0) (h : fn_X11_versionAt x1 s = some (r, t)) (hQ : ∀ (b2 : Nat → Nat) (R2 : Option Nat) (S2 : h_S), c_ext b s b2 t → c_R E g b2 t S2 → c_F t → c_ao b2 t r R2 → Q R2 S2) : w_X11_versionAt A_o0 x1 S_s Q := by
  unfold fn_X11_versionAt at h
  unfold w_X11_versionAt
  refine ⟨(cr_k hR f_o0).trans (cf_k (a := 0) hF rfl (by decide)), ?_⟩
  obtain ⟨A_a2, w_a2, f_a2⟩ := cr_aos (cr_r hR f_o0 _) (cf_r (a := 0) (j := 5) (y := 4) hF rfl)
  refine ⟨A_a2, w_a2, ?_⟩
  refine ⟨(cr_k hR f_a2).trans (cf_k (a := 4) hF rfl (by decide)), ?_⟩
  obtain ⟨p5, s4, e_s4, h⟩ := fg_b_s h
  refine ft_Jx4a65c_size_8abf5 hR hF f_a2 e_s4 (fun b_s4 S_s4 x_s4 r_s4 F_s4 => ?_)
  obtain ⟨p7, s6, e_s6, h⟩ := fg_b_s h
  refine ft_X11_within r_s4 F_s4 e_s6 (fun b_s6 S_s6 x_s6 r_s6 F_s6 => ?_)
  refine fg_ite Iff.rfl (fun d => ?_) (fun d => ?_)
  · have h := fg_if_t d h
    unfold w_X11_versionAt_29
    obtain ⟨q, q2⟩ := fg_ret h
    subst q
    subst q2
    exact hQ _ _ _ (cr_xt x_s4 x_s6) r_s6 F_s6 cr_none
  · have h := fg_if_e d h
    refine ⟨(cr_k r_s6 (cr_atx (cr_atx f_o0 x_s4) x_s6)).trans (cf_k (a := 0) F_s6 rfl (by decide)), ?_⟩
    obtain ⟨A_a10, w_a10, f_a10⟩ := cr_aos (cr_r r_s6 (cr_atx (cr_atx f_o0 x_s4) x_s6) _) (cf_r (a := 0) (j := 5) (y := 4) F_s6 rfl)
    refine ⟨A_a10, w_a10, ?_⟩
    refine ⟨(cr_k r_s6 f_a10).trans (cf_k (a := 4) F_s6 rfl (by decide)), ?_⟩
    obtain ⟨p13, s12, e_s12, h⟩ := fg_b_s h
    refine ft_Jx4a65c_get_915e3 r_s6 F_s6 f_a10 e_s12 (fun b_s12 R_p13 S_s12 x_s12 r_s12 F_s12 f_p13 => ?_)
    obtain ⟨c, h⟩ := fg_g_s h
    refine ⟨cr_cast r_s12 f_p13 c, ?_⟩
    unfold w_X11_versionAt_29
    obtain ⟨q, q2⟩ := fg_ret h
    subst q
    subst q2
    exact hQ _ _ _ (cr_xt x_s4 (cr_xt x_s6 x_s12)) r_s12 F_s12 f_p13
set_option maxRecDepth 100000 in
set_option maxHeartbeats 4000000 in
theorem ft_X11_give {E : h_S} {g : h_G} {r : Int32} {t : h_S} {Q : Int32 → h_S → Prop} {b : Nat → Nat} {s S_s : h_S} {A_o0 : Nat} {x1 : Int32} (hR : c_R E g b s S_s) (hF : c_F s) (f_o0 : c_at b s 0 A_o0) (h : fn_X11_give x1 s = some (r, t)) (hQ : ∀ (b2 : Nat → Nat) (S2 : h_S), c_ext b s b2 t → c_R E g b2 t S2 → c_F t → Q r S2) : w_X11_give A_o0 x1 S_s Q := by
  unfold fn_X11_give at h
  unfold w_X11_give
  refine ⟨(cr_k hR f_o0).trans (cf_k (a := 0) hF rfl (by decide)), ?_⟩
  obtain ⟨p3, s2, e_s2, h⟩ := fg_b_s h
  refine ft_X11_versionAt hR hF f_o0 e_s2 (fun b_s2 R_p3 S_s2 x_s2 r_s2 F_s2 f_p3 => ?_)
  refine fg_ite (cr_isn f_p3) (fun d => ?_) (fun d => ?_)
  · have h := fg_if_t d h
    obtain ⟨q, q2⟩ := fg_ret h
    subst q
    subst q2
    exact hQ _ _ x_s2 r_s2 F_s2
  · have h := fg_if_e d h
    obtain ⟨a5, o_a5, h⟩ := fg_o_s h
    obtain ⟨A_a5, w_a5, f_a5⟩ := cr_aos f_p3 o_a5
    refine ⟨A_a5, w_a5, ?_⟩
    obtain ⟨c_a5_1, h⟩ := fg_g_s h
    refine ⟨(cr_k r_s2 f_a5).trans c_a5_1, ?_⟩
    obtain ⟨p8, s7, e_s7, h⟩ := fg_b_s h
    refine ft_X8_kind r_s2 F_s2 f_a5 e_s7 (fun b_s7 S_s7 x_s7 r_s7 F_s7 => ?_)
    refine fg_ite Iff.rfl (fun d => ?_) (fun d => ?_)
    · have h := fg_if_t d h
      refine ⟨(cr_k r_s7 (cr_atx (cr_atx f_o0 x_s2) x_s7)).trans (cf_k (a := 0) F_s7 rfl (by decide)), ?_⟩
      obtain ⟨a11, o_a11, h⟩ := fg_o_s h
      obtain ⟨A_a11, w_a11, f_a11⟩ := cr_aos f_p3 o_a11
      refine ⟨A_a11, w_a11, ?_⟩
      obtain ⟨c_a11_2, h⟩ := fg_g_s h
      refine ⟨(cr_k r_s7 (cr_atx f_a11 x_s7)).trans c_a11_2, ?_⟩
      try simp -zeta -zetaUnused only [cr_i r_s7 (cr_atx (cr_atx f_o0 x_s2) x_s7)]
      obtain ⟨s13, e_s13, h⟩ := fg_let_s h
      intro S_s13
      have r_s13 : c_R E g b_s7 s13 S_s13 := by rw [e_s13]; exact cr_si r_s7 (cr_atx f_a11 x_s7) _ _
      have F_s13 : c_F s13 := by rw [e_s13]; exact cf_si F_s7 _ _
      have x_s13 : c_ext b_s7 s7 b_s7 s13 := by rw [e_s13]; exact cx_si _ _
      clear_value S_s13
      obtain ⟨a14, o_a14, h⟩ := fg_o_s h
      obtain ⟨A_a14, w_a14, f_a14⟩ := cr_aos f_p3 o_a14
      refine ⟨A_a14, w_a14, ?_⟩
      obtain ⟨c_a14_3, h⟩ := fg_g_s h
      refine ⟨(cr_k r_s13 (cr_atx (cr_atx f_a14 x_s7) x_s13)).trans c_a14_3, ?_⟩
      obtain ⟨a16, o_a16, h⟩ := fg_o_s h
      obtain ⟨A_a16, w_a16, f_a16⟩ := cr_aos (cr_r r_s13 (cr_atx (cr_atx f_a14 x_s7) x_s13) _) o_a16
      refine ⟨A_a16, w_a16, ?_⟩
      obtain ⟨c_a16_4, h⟩ := fg_g_s h
      refine ⟨(cr_k r_s13 f_a16).trans c_a16_4, ?_⟩
      try simp -zeta -zetaUnused only [cr_n r_s13 f_a16]
      obtain ⟨p19, s18, e_s18, h⟩ := fg_b_s h
      refine ft_X11_acted r_s13 F_s13 (cr_atx (cr_atx (cr_atx f_o0 x_s2) x_s7) x_s13) e_s18 (fun b_s18 S_s18 x_s18 r_s18 F_s18 => ?_)
      obtain ⟨q, q2⟩ := fg_ret h
      subst q
      subst q2
      exact hQ _ _ (cr_xt x_s2 (cr_xt x_s7 (cr_xt x_s13 x_s18))) r_s18 F_s18
    · have h := fg_if_e d h
      obtain ⟨q, q2⟩ := fg_ret h
      subst q
      subst q2
      exact hQ _ _ (cr_xt x_s2 x_s7) r_s7 F_s7
set_option maxRecDepth 100000 in
set_option maxHeartbeats 4000000 in
theorem ft_X11_back {E : h_S} {g : h_G} {r : Int32} {t : h_S} {Q : Int32 → h_S → Prop} {b : Nat → Nat} {s S_s : h_S} {A_o0 : Nat} {x1 : Int32} (hR : c_R E g b s S_s) (hF : c_F s) (f_o0 : c_at b s 0 A_o0) (h : fn_X11_back x1 s = some (r, t)) (hQ : ∀ (b2 : Nat → Nat) (S2 : h_S), c_ext b s b2 t → c_R E g b2 t S2 → c_F t → Q r S2) : w_X11_back A_o0 x1 S_s Q := by
  unfold fn_X11_back at h
  unfold w_X11_back
  refine ⟨(cr_k hR f_o0).trans (cf_k (a := 0) hF rfl (by decide)), ?_⟩
  obtain ⟨p3, s2, e_s2, h⟩ := fg_b_s h
  refine ft_X11_versionAt hR hF f_o0 e_s2 (fun b_s2 R_p3 S_s2 x_s2 r_s2 F_s2 f_p3 => ?_)
  refine fg_ite (cr_isn f_p3) (fun d => ?_) (fun d => ?_)
  · have h := fg_if_t d h
    obtain ⟨q, q2⟩ := fg_ret h
    subst q
    subst q2
    exact hQ _ _ x_s2 r_s2 F_s2
  · have h := fg_if_e d h
    obtain ⟨a5, o_a5, h⟩ := fg_o_s h
    obtain ⟨A_a5, w_a5, f_a5⟩ := cr_aos f_p3 o_a5
    refine ⟨A_a5, w_a5, ?_⟩
    obtain ⟨c_a5_1, h⟩ := fg_g_s h
    refine ⟨(cr_k r_s2 f_a5).trans c_a5_1, ?_⟩
    obtain ⟨p8, s7, e_s7, h⟩ := fg_b_s h
    refine ft_X8_kind r_s2 F_s2 f_a5 e_s7 (fun b_s7 S_s7 x_s7 r_s7 F_s7 => ?_)
    refine fg_ite Iff.rfl (fun d => ?_) (fun d => ?_)
    · have h := fg_if_t d h
      refine ⟨(cr_k r_s7 (cr_atx (cr_atx f_o0 x_s2) x_s7)).trans (cf_k (a := 0) F_s7 rfl (by decide)), ?_⟩
      obtain ⟨a11, o_a11, h⟩ := fg_o_s h
      obtain ⟨A_a11, w_a11, f_a11⟩ := cr_aos f_p3 o_a11
      refine ⟨A_a11, w_a11, ?_⟩
      obtain ⟨c_a11_2, h⟩ := fg_g_s h
      refine ⟨(cr_k r_s7 (cr_atx f_a11 x_s7)).trans c_a11_2, ?_⟩
      try simp -zeta -zetaUnused only [cr_i r_s7 (cr_atx (cr_atx f_o0 x_s2) x_s7)]
      obtain ⟨s13, e_s13, h⟩ := fg_let_s h
      intro S_s13
      have r_s13 : c_R E g b_s7 s13 S_s13 := by rw [e_s13]; exact cr_si r_s7 (cr_atx f_a11 x_s7) _ _
      have F_s13 : c_F s13 := by rw [e_s13]; exact cf_si F_s7 _ _
      have x_s13 : c_ext b_s7 s7 b_s7 s13 := by rw [e_s13]; exact cx_si _ _
      clear_value S_s13
      obtain ⟨a14, o_a14, h⟩ := fg_o_s h
      obtain ⟨A_a14, w_a14, f_a14⟩ := cr_aos f_p3 o_a14
      refine ⟨A_a14, w_a14, ?_⟩
      obtain ⟨c_a14_3, h⟩ := fg_g_s h
      refine ⟨(cr_k r_s13 (cr_atx (cr_atx f_a14 x_s7) x_s13)).trans c_a14_3, ?_⟩
      obtain ⟨a16, o_a16, h⟩ := fg_o_s h
      obtain ⟨A_a16, w_a16, f_a16⟩ := cr_aos (cr_r r_s13 (cr_atx (cr_atx f_a14 x_s7) x_s13) _) o_a16
      refine ⟨A_a16, w_a16, ?_⟩
      obtain ⟨c_a16_4, h⟩ := fg_g_s h
      refine ⟨(cr_k r_s13 f_a16).trans c_a16_4, ?_⟩
      try simp -zeta -zetaUnused only [cr_n r_s13 f_a16]
      obtain ⟨p19, s18, e_s18, h⟩ := fg_b_s h
      refine ft_X11_acted r_s13 F_s13 (cr_atx (cr_atx (cr_atx f_o0 x_s2) x_s7) x_s13) e_s18 (fun b_s18 S_s18 x_s18 r_s18 F_s18 => ?_)
      obtain ⟨q, q2⟩ := fg_ret h
      subst q
      subst q2
      exact hQ _ _ (cr_xt x_s2 (cr_xt x_s7 (cr_xt x_s13 x_s18))) r_s18 F_s18
    · have h := fg_if_e d h
      obtain ⟨q, q2⟩ := fg_ret h
      subst q
      subst q2
      exact hQ _ _ (cr_xt x_s2 x_s7) r_s7 F_s7
set_option maxRecDepth 100000 in
set_option maxHeartbeats 4000000 in
theorem ft_X11_about {E : h_S} {g : h_G} {r : Int32} {t : h_S} {Q : Int32 → h_S → Prop} {b : Nat → Nat} {s S_s : h_S} {A_o0 : Nat} {x1 : Int32} {x2 : Int32} (hR : c_R E g b s S_s) (hF : c_F s) (f_o0 : c_at b s 0 A_o0) (h : fn_X11_about x1 x2 s = some (r, t)) (hQ : ∀ (b2 : Nat → Nat) (S2 : h_S), c_ext b s b2 t → c_R E g b2 t S2 → c_F t → Q r S2) : w_X11_about A_o0 x1 x2 S_s Q := by
  unfold fn_X11_about at h
  unfold w_X11_about
  refine ⟨(cr_k hR f_o0).trans (cf_k (a := 0) hF rfl (by decide)), ?_⟩
  obtain ⟨p3, s2, e_s2, h⟩ := fg_b_s h
  refine ft_X11_versionAt hR hF f_o0 e_s2 (fun b_s2 R_p3 S_s2 x_s2 r_s2 F_s2 f_p3 => ?_)
  refine fg_ite (cr_isn f_p3) (fun d => ?_) (fun d => ?_)
  · have h := fg_if_t d h
    obtain ⟨q, q2⟩ := fg_ret h
    subst q
    subst q2
    exact hQ _ _ x_s2 r_s2 F_s2
  · have h := fg_if_e d h
    refine fg_ite Iff.rfl (fun d => ?_) (fun d => ?_)
    · have h := fg_if_t d h
      obtain ⟨a6, o_a6, h⟩ := fg_o_s h
      obtain ⟨A_a6, w_a6, f_a6⟩ := cr_aos f_p3 o_a6
      refine ⟨A_a6, w_a6, ?_⟩
      obtain ⟨c_a6_1, h⟩ := fg_g_s h
      refine ⟨(cr_k r_s2 f_a6).trans c_a6_1, ?_⟩
      obtain ⟨p9, s8, e_s8, h⟩ := fg_b_s h
      refine ft_X8_kind r_s2 F_s2 f_a6 e_s8 (fun b_s8 S_s8 x_s8 r_s8 F_s8 => ?_)
      obtain ⟨q, q2⟩ := fg_ret h
      subst q
      subst q2
      exact hQ _ _ (cr_xt x_s2 x_s8) r_s8 F_s8
    · have h := fg_if_e d h
      refine fg_ite Iff.rfl (fun d => ?_) (fun d => ?_)
      · have h := fg_if_t d h
        obtain ⟨a11, o_a11, h⟩ := fg_o_s h
        obtain ⟨A_a11, w_a11, f_a11⟩ := cr_aos f_p3 o_a11
        refine ⟨A_a11, w_a11, ?_⟩
        obtain ⟨c_a11_1, h⟩ := fg_g_s h
        refine ⟨(cr_k r_s2 f_a11).trans c_a11_1, ?_⟩
        try simp -zeta -zetaUnused only [cr_i r_s2 f_a11]
        obtain ⟨q, q2⟩ := fg_ret h
        subst q
        subst q2
        exact hQ _ _ x_s2 r_s2 F_s2
      · have h := fg_if_e d h
        refine fg_ite Iff.rfl (fun d => ?_) (fun d => ?_)
        · have h := fg_if_t d h
          obtain ⟨a14, o_a14, h⟩ := fg_o_s h
          obtain ⟨A_a14, w_a14, f_a14⟩ := cr_aos f_p3 o_a14
          refine ⟨A_a14, w_a14, ?_⟩
          obtain ⟨c_a14_1, h⟩ := fg_g_s h
          refine ⟨(cr_k r_s2 f_a14).trans c_a14_1, ?_⟩
          try simp -zeta -zetaUnused only [cr_i r_s2 f_a14]
          obtain ⟨q, q2⟩ := fg_ret h
          subst q
          subst q2
          exact hQ _ _ x_s2 r_s2 F_s2
        · have h := fg_if_e d h
          refine fg_ite Iff.rfl (fun d => ?_) (fun d => ?_)
          · have h := fg_if_t d h
            obtain ⟨a17, o_a17, h⟩ := fg_o_s h
            obtain ⟨A_a17, w_a17, f_a17⟩ := cr_aos f_p3 o_a17
            refine ⟨A_a17, w_a17, ?_⟩
            obtain ⟨c_a17_1, h⟩ := fg_g_s h
            refine ⟨(cr_k r_s2 f_a17).trans c_a17_1, ?_⟩
            obtain ⟨a19, o_a19, h⟩ := fg_o_s h
            obtain ⟨A_a19, w_a19, f_a19⟩ := cr_aos (cr_r r_s2 f_a17 _) o_a19
            refine ⟨A_a19, w_a19, ?_⟩
            obtain ⟨c_a19_2, h⟩ := fg_g_s h
            refine ⟨(cr_k r_s2 f_a19).trans c_a19_2, ?_⟩
            try simp -zeta -zetaUnused only [cr_n r_s2 f_a19]
            obtain ⟨q, q2⟩ := fg_ret h
            subst q
            subst q2
            exact hQ _ _ x_s2 r_s2 F_s2
          · have h := fg_if_e d h
            refine fg_ite Iff.rfl (fun d => ?_) (fun d => ?_)
            · have h := fg_if_t d h
              obtain ⟨a22, o_a22, h⟩ := fg_o_s h
              obtain ⟨A_a22, w_a22, f_a22⟩ := cr_aos f_p3 o_a22
              refine ⟨A_a22, w_a22, ?_⟩
              obtain ⟨c_a22_1, h⟩ := fg_g_s h
              refine ⟨(cr_k r_s2 f_a22).trans c_a22_1, ?_⟩
              obtain ⟨p25, s24, e_s24, h⟩ := fg_b_s h
              refine ft_X8_gaps r_s2 F_s2 f_a22 e_s24 (fun b_s24 S_s24 x_s24 r_s24 F_s24 => ?_)
              obtain ⟨q, q2⟩ := fg_ret h
              subst q
              subst q2
              exact hQ _ _ (cr_xt x_s2 x_s24) r_s24 F_s24
            · have h := fg_if_e d h
              obtain ⟨q, q2⟩ := fg_ret h
              subst q
              subst q2
              exact hQ _ _ x_s2 r_s2 F_s2
set_option maxRecDepth 100000 in
set_option maxHeartbeats 4000000 in
theorem ft_X11_at {E : h_S} {g : h_G} {r : Int32} {t : h_S} {Q : Int32 → h_S → Prop} {b : Nat → Nat} {s S_s : h_S} {A_o0 : Nat} {x1 : Int32} {x2 : Int32} (hR : c_R E g b s S_s) (hF : c_F s) (f_o0 : c_at b s 0 A_o0) (h : fn_X11_at x1 x2 s = some (r, t)) (hQ : ∀ (b2 : Nat → Nat) (S2 : h_S), c_ext b s b2 t → c_R E g b2 t S2 → c_F t → Q r S2) : w_X11_at A_o0 x1 x2 S_s Q := by
  unfold fn_X11_at at h
  unfold w_X11_at
  refine ⟨(cr_k hR f_o0).trans (cf_k (a := 0) hF rfl (by decide)), ?_⟩
  obtain ⟨p3, s2, e_s2, h⟩ := fg_b_s h
  refine ft_X11_versionAt hR hF f_o0 e_s2 (fun b_s2 R_p3 S_s2 x_s2 r_s2 F_s2 f_p3 => ?_)
  refine fg_ite (cr_isn f_p3) (fun d => ?_) (fun d => ?_)
  · have h := fg_if_t d h
    unfold w_X11_at_22
    obtain ⟨q, q2⟩ := fg_ret h
    subst q
    subst q2
    exact hQ _ _ x_s2 r_s2 F_s2
  · have h := fg_if_e d h
    obtain ⟨a5, o_a5, h⟩ := fg_o_s h
    obtain ⟨A_a5, w_a5, f_a5⟩ := cr_aos f_p3 o_a5
    refine ⟨A_a5, w_a5, ?_⟩
    obtain ⟨c_a5_1, h⟩ := fg_g_s h
    refine ⟨(cr_k r_s2 f_a5).trans c_a5_1, ?_⟩
    obtain ⟨a7, o_a7, h⟩ := fg_o_s h
    obtain ⟨A_a7, w_a7, f_a7⟩ := cr_aos (cr_r r_s2 f_a5 _) o_a7
    refine ⟨A_a7, w_a7, ?_⟩
    obtain ⟨c_a7_2, h⟩ := fg_g_s h
    refine ⟨(cr_k r_s2 f_a7).trans c_a7_2, ?_⟩
    try simp -zeta -zetaUnused only [cr_n r_s2 f_a7]
    obtain ⟨p10, s9, e_s9, h⟩ := fg_b_s h
    refine ft_X11_within r_s2 F_s2 e_s9 (fun b_s9 S_s9 x_s9 r_s9 F_s9 => ?_)
    refine fg_ite Iff.rfl (fun d => ?_) (fun d => ?_)
    · have h := fg_if_t d h
      unfold w_X11_at_22
      obtain ⟨q, q2⟩ := fg_ret h
      subst q
      subst q2
      exact hQ _ _ (cr_xt x_s2 x_s9) r_s9 F_s9
    · have h := fg_if_e d h
      obtain ⟨a12, o_a12, h⟩ := fg_o_s h
      obtain ⟨A_a12, w_a12, f_a12⟩ := cr_aos f_p3 o_a12
      refine ⟨A_a12, w_a12, ?_⟩
      obtain ⟨c_a12_3, h⟩ := fg_g_s h
      refine ⟨(cr_k r_s9 (cr_atx f_a12 x_s9)).trans c_a12_3, ?_⟩
      obtain ⟨a14, o_a14, h⟩ := fg_o_s h
      obtain ⟨A_a14, w_a14, f_a14⟩ := cr_aos (cr_r r_s9 (cr_atx f_a12 x_s9) _) o_a14
      refine ⟨A_a14, w_a14, ?_⟩
      obtain ⟨c_a14_4, h⟩ := fg_g_s h
      refine ⟨(cr_k r_s9 f_a14).trans c_a14_4, ?_⟩
      obtain ⟨c, h⟩ := fg_g_s h
      refine ⟨cr_vp (cr_n r_s9 f_a14) rfl c, ?_⟩
      try simp -zeta -zetaUnused only [cr_i r_s9 f_a14]
      obtain ⟨q, q2⟩ := fg_ret h
      subst q
      subst q2
      exact hQ _ _ (cr_xt x_s2 x_s9) r_s9 F_s9
set_option maxRecDepth 100000 in
set_option maxHeartbeats 4000000 in
theorem ft_X11_compare {E : h_S} {g : h_G} {r : Int32} {t : h_S} {Q : Int32 → h_S → Prop} {b : Nat → Nat} {s S_s : h_S} {A_o0 : Nat} {x1 : Int32} {x2 : Int32} {x3 : Int32} (hR : c_R E g b s S_s) (hF : c_F s) (f_o0 : c_at b s 0 A_o0) (h : fn_X11_compare x1 x2 x3 s = some (r, t)) (hQ : ∀ (b2 : Nat → Nat) (S2 : h_S), c_ext b s b2 t → c_R E g b2 t S2 → c_F t → Q r S2) : w_X11_compare A_o0 x1 x2 x3 S_s Q := by
  unfold fn_X11_compare at h
  unfold w_X11_compare
  refine ⟨(cr_k hR f_o0).trans (cf_k (a := 0) hF rfl (by decide)), ?_⟩
  obtain ⟨p3, s2, e_s2, h⟩ := fg_b_s h
  refine ft_X11_versionAt hR hF f_o0 e_s2 (fun b_s2 R_p3 S_s2 x_s2 r_s2 F_s2 f_p3 => ?_)
  refine ⟨(cr_k r_s2 (cr_atx f_o0 x_s2)).trans (cf_k (a := 0) F_s2 rfl (by decide)), ?_⟩
  obtain ⟨p6, s5, e_s5, h⟩ := fg_b_s h
  refine ft_X11_versionAt r_s2 F_s2 (cr_atx f_o0 x_s2) e_s5 (fun b_s5 R_p6 S_s5 x_s5 r_s5 F_s5 f_p6 => ?_)
  refine fg_ite (cr_isn (cr_aox f_p3 x_s5)) (fun d => ?_) (fun d => ?_)
  · have h := fg_if_t d h
    unfold w_X11_compare_24
    obtain ⟨q, q2⟩ := fg_ret h
    subst q
    subst q2
    exact hQ _ _ (cr_xt x_s2 x_s5) r_s5 F_s5
  · have h := fg_if_e d h
    refine fg_ite (cr_isn f_p6) (fun d => ?_) (fun d => ?_)
    · have h := fg_if_t d h
      unfold w_X11_compare_24
      obtain ⟨q, q2⟩ := fg_ret h
      subst q
      subst q2
      exact hQ _ _ (cr_xt x_s2 x_s5) r_s5 F_s5
    · have h := fg_if_e d h
      obtain ⟨p10, s9, e_s9, h⟩ := fg_b_s h
      refine ft_X11_within r_s5 F_s5 e_s9 (fun b_s9 S_s9 x_s9 r_s9 F_s9 => ?_)
      refine fg_ite Iff.rfl (fun d => ?_) (fun d => ?_)
      · have h := fg_if_t d h
        obtain ⟨q, q2⟩ := fg_ret h
        subst q
        subst q2
        exact hQ _ _ (cr_xt x_s2 (cr_xt x_s5 x_s9)) r_s9 F_s9
      · have h := fg_if_e d h
        refine ⟨(cr_k r_s9 (cr_atx (cr_atx (cr_atx f_o0 x_s2) x_s5) x_s9)).trans (cf_k (a := 0) F_s9 rfl (by decide)), ?_⟩
        obtain ⟨a13, o_a13, h⟩ := fg_o_s h
        obtain ⟨A_a13, w_a13, f_a13⟩ := cr_aos f_p3 o_a13
        refine ⟨A_a13, w_a13, ?_⟩
        obtain ⟨c_a13_1, h⟩ := fg_g_s h
        refine ⟨(cr_k r_s9 (cr_atx (cr_atx f_a13 x_s5) x_s9)).trans c_a13_1, ?_⟩
        obtain ⟨a15, o_a15, h⟩ := fg_o_s h
        obtain ⟨A_a15, w_a15, f_a15⟩ := cr_aos f_p6 o_a15
        refine ⟨A_a15, w_a15, ?_⟩
        obtain ⟨c_a15_2, h⟩ := fg_g_s h
        refine ⟨(cr_k r_s9 (cr_atx f_a15 x_s9)).trans c_a15_2, ?_⟩
        obtain ⟨A_a17, w_a17, f_a17⟩ := cr_aos (cr_r r_s9 (cr_atx (cr_atx (cr_atx f_o0 x_s2) x_s5) x_s9) _) (cf_r (a := 0) (j := 10) (y := 10) F_s9 rfl)
        refine ⟨A_a17, w_a17, ?_⟩
        refine ⟨(cr_k r_s9 f_a17).trans (cf_k (a := 10) F_s9 rfl (by decide)), ?_⟩
        obtain ⟨p20, s19, e_s19, h⟩ := fg_b_s h
        refine ft_X9_sharedBy r_s9 F_s9 f_a17 (cr_r r_s9 (cr_atx (cr_atx f_a13 x_s5) x_s9) _) (cr_r r_s9 (cr_atx f_a15 x_s9) _) e_s19 (fun b_s19 S_s19 x_s19 r_s19 F_s19 => ?_)
        refine fg_ite Iff.rfl (fun d => ?_) (fun d => ?_)
        · have h := fg_if_t d h
          obtain ⟨a22, o_a22, h⟩ := fg_o_s h
          obtain ⟨A_a22, w_a22, f_a22⟩ := cr_aos f_p3 o_a22
          refine ⟨A_a22, w_a22, ?_⟩
          obtain ⟨c_a22_3, h⟩ := fg_g_s h
          refine ⟨(cr_k r_s19 (cr_atx (cr_atx (cr_atx f_a22 x_s5) x_s9) x_s19)).trans c_a22_3, ?_⟩
          obtain ⟨a24, o_a24, h⟩ := fg_o_s h
          obtain ⟨A_a24, w_a24, f_a24⟩ := cr_aos (cr_r r_s19 (cr_atx (cr_atx (cr_atx f_a22 x_s5) x_s9) x_s19) _) o_a24
          refine ⟨A_a24, w_a24, ?_⟩
          obtain ⟨c_a24_4, h⟩ := fg_g_s h
          refine ⟨(cr_k r_s19 f_a24).trans c_a24_4, ?_⟩
          try simp -zeta -zetaUnused only [cr_n r_s19 f_a24]
          obtain ⟨q, q2⟩ := fg_ret h
          subst q
          subst q2
          exact hQ _ _ (cr_xt x_s2 (cr_xt x_s5 (cr_xt x_s9 x_s19))) r_s19 F_s19
        · have h := fg_if_e d h
          refine fg_ite Iff.rfl (fun d => ?_) (fun d => ?_)
          · have h := fg_if_t d h
            obtain ⟨a27, o_a27, h⟩ := fg_o_s h
            obtain ⟨A_a27, w_a27, f_a27⟩ := cr_aos f_p6 o_a27
            refine ⟨A_a27, w_a27, ?_⟩
            obtain ⟨c_a27_3, h⟩ := fg_g_s h
            refine ⟨(cr_k r_s19 (cr_atx (cr_atx f_a27 x_s9) x_s19)).trans c_a27_3, ?_⟩
            obtain ⟨a29, o_a29, h⟩ := fg_o_s h
            obtain ⟨A_a29, w_a29, f_a29⟩ := cr_aos (cr_r r_s19 (cr_atx (cr_atx f_a27 x_s9) x_s19) _) o_a29
            refine ⟨A_a29, w_a29, ?_⟩
            obtain ⟨c_a29_4, h⟩ := fg_g_s h
            refine ⟨(cr_k r_s19 f_a29).trans c_a29_4, ?_⟩
            try simp -zeta -zetaUnused only [cr_n r_s19 f_a29]
            obtain ⟨q, q2⟩ := fg_ret h
            subst q
            subst q2
            exact hQ _ _ (cr_xt x_s2 (cr_xt x_s5 (cr_xt x_s9 x_s19))) r_s19 F_s19
          · have h := fg_if_e d h
            refine fg_ite Iff.rfl (fun d => ?_) (fun d => ?_)
            · have h := fg_if_t d h
              refine ⟨(cr_k r_s19 (cr_atx (cr_atx (cr_atx (cr_atx f_o0 x_s2) x_s5) x_s9) x_s19)).trans (cf_k (a := 0) F_s19 rfl (by decide)), ?_⟩
              obtain ⟨a33, o_a33, h⟩ := fg_o_s h
              obtain ⟨A_a33, w_a33, f_a33⟩ := cr_aos f_p3 o_a33
              refine ⟨A_a33, w_a33, ?_⟩
              obtain ⟨c_a33_3, h⟩ := fg_g_s h
              refine ⟨(cr_k r_s19 (cr_atx (cr_atx (cr_atx f_a33 x_s5) x_s9) x_s19)).trans c_a33_3, ?_⟩
              obtain ⟨a35, o_a35, h⟩ := fg_o_s h
              obtain ⟨A_a35, w_a35, f_a35⟩ := cr_aos f_p6 o_a35
              refine ⟨A_a35, w_a35, ?_⟩
              obtain ⟨c_a35_4, h⟩ := fg_g_s h
              refine ⟨(cr_k r_s19 (cr_atx (cr_atx f_a35 x_s9) x_s19)).trans c_a35_4, ?_⟩
              obtain ⟨A_a37, w_a37, f_a37⟩ := cr_aos (cr_r r_s19 (cr_atx (cr_atx (cr_atx (cr_atx f_o0 x_s2) x_s5) x_s9) x_s19) _) (cf_r (a := 0) (j := 10) (y := 10) F_s19 rfl)
              refine ⟨A_a37, w_a37, ?_⟩
              refine ⟨(cr_k r_s19 f_a37).trans (cf_k (a := 10) F_s19 rfl (by decide)), ?_⟩
              obtain ⟨p40, s39, e_s39, h⟩ := fg_b_s h
              refine ft_X9_commonTo r_s19 F_s19 f_a37 (cr_r r_s19 (cr_atx (cr_atx (cr_atx f_a33 x_s5) x_s9) x_s19) _) (cr_r r_s19 (cr_atx (cr_atx f_a35 x_s9) x_s19) _) e_s39 (fun b_s39 S_s39 x_s39 r_s39 F_s39 => ?_)
              obtain ⟨q, q2⟩ := fg_ret h
              subst q
              subst q2
              exact hQ _ _ (cr_xt x_s2 (cr_xt x_s5 (cr_xt x_s9 (cr_xt x_s19 x_s39)))) r_s39 F_s39
            · have h := fg_if_e d h
              obtain ⟨q, q2⟩ := fg_ret h
              subst q
              subst q2
              exact hQ _ _ (cr_xt x_s2 (cr_xt x_s5 (cr_xt x_s9 x_s19))) r_s19 F_s19
set_option maxRecDepth 100000 in
set_option maxHeartbeats 4000000 in
theorem ft_X11_join_175b {E : h_S} {g : h_G} {r : Int32} {t : h_S} {Q : Int32 → h_S → Prop} {K175 : Int32 → Int32 → h_S → fg_R (Int32) h_S} {WK175 : Nat → Int32 → Int32 → h_S → Nat → Nat → Prop} (hK175 : ∀ {b : Nat → Nat} {s S_s : h_S} {C D bc bs : Nat} {A_o0 : Nat} {x7 : Int32} {x8 : Int32}, c_R E g b s S_s → c_F s → c_at b s 0 A_o0 → K175 x7 x8 s = some (r, t, C, D) → (∀ (b2 : Nat → Nat) (S2 : h_S), c_ext b s b2 t → c_R E g b2 t S2 → c_F t → Q r S2) → C ≤ bc → D ≤ bs → WK175 A_o0 x7 x8 S_s bc bs) {b : Nat → Nat} {s S_s : h_S} {C0 D0 bc bs : Nat} {A_o0 : Nat} {x7 : Int32} {x8 : Int32} (hR : c_R E g b s S_s) (hF : c_F s) (f_o0 : c_at b s 0 A_o0) (h : fn_X11_join_175b K175 x7 x8 s = some (r, t, C0, D0)) (hQ : ∀ (b2 : Nat → Nat) (S2 : h_S), c_ext b s b2 t → c_R E g b2 t S2 → c_F t → Q r S2) (hc : C0 ≤ bc) (hd : D0 ≤ bs) : w_X11_join_175b g Q WK175 A_o0 x7 x8 S_s bc bs := by
  unfold fn_X11_join_175b at h
  unfold w_X11_join_175b
  refine ⟨(cr_k hR f_o0).trans (cf_k (a := 0) hF rfl (by decide)), ?_⟩
  obtain ⟨A_a2, w_a2, f_a2⟩ := cr_aos (cr_r hR f_o0 _) (cf_r (a := 0) (j := 10) (y := 10) hF rfl)
  refine ⟨A_a2, w_a2, ?_⟩
  refine ⟨(cr_k hR f_a2).trans (cf_k (a := 10) hF rfl (by decide)), ?_⟩
  try simp -zeta -zetaUnused only [cr_i hR f_a2]
  refine fg_ite Iff.rfl (fun d => ?_) (fun d => ?_)
  · have h := fg_if_t d h
    obtain ⟨p6, s5, e_s5, h⟩ := fg_b_s h
    refine ft_X11_acted hR hF f_o0 e_s5 (fun b_s5 S_s5 x_s5 r_s5 F_s5 => ?_)
    obtain ⟨q, q2⟩ := fg_retc h
    subst q
    subst q2
    exact hQ _ _ x_s5 r_s5 F_s5
  · have h := fg_if_e d h
    obtain ⟨A_a7, w_a7, f_a7⟩ := cr_aos (cr_r hR f_o0 _) (cf_r (a := 0) (j := 10) (y := 10) hF rfl)
    refine ⟨A_a7, w_a7, ?_⟩
    refine ⟨(cr_k hR f_a7).trans (cf_k (a := 10) hF rfl (by decide)), ?_⟩
    obtain ⟨p10, s9, mc11, ms12, C_s9, D_s9, e_s9, h, q_s9, w_s9⟩ := fg_bc_s h
    obtain ⟨u1_s9, hc⟩ := fg_sp q_s9 hc
    obtain ⟨u2_s9, hd⟩ := fg_sp w_s9 hd
    refine ⟨mc11, ms12, u1_s9, u2_s9, ft_X9_clashAt hR hF f_a7 e_s9 (fun b_s9 R_p10 S_s9 x_s9 r_s9 F_s9 f_p10 => ?_) (Nat.le_refl _) (Nat.le_refl _)⟩
    obtain ⟨A_a15, w_a15, f_a15⟩ := cr_aos (cr_r hR f_o0 _) (cf_r (a := 0) (j := 6) (y := 5) hF rfl)
    refine ⟨A_a15, w_a15, ?_⟩
    refine ⟨(cr_k r_s9 (cr_atx f_a15 x_s9)).trans (cf_k (a := 5) F_s9 rfl (by decide)), ?_⟩
    obtain ⟨p18, s17, mc19, ms20, C_s17, D_s17, e_s17, h, q_s17, w_s17⟩ := fg_bc_s h
    obtain ⟨u1_s17, hc⟩ := fg_sp q_s17 hc
    obtain ⟨u2_s17, hd⟩ := fg_sp w_s17 hd
    refine ⟨mc19, ms20, u1_s17, u2_s17, ft_Jx4a65c_add_9ea2d r_s9 F_s9 (cr_atx f_a15 x_s9) f_p10 e_s17 (fun b_s17 S_s17 x_s17 r_s17 F_s17 => ?_) (Nat.le_refl _) (Nat.le_refl _)⟩
    exact hK175 r_s17 F_s17 (cr_atx (cr_atx f_o0 x_s9) x_s17) h (fun b2 S2 x2 => hQ b2 S2 (cr_xt (cr_xt x_s9 x_s17) x2)) hc hd
set_option maxRecDepth 100000 in
set_option maxHeartbeats 4000000 in
theorem ft_X11_join_175 {E : h_S} {g : h_G} {r : Int32} {t : h_S} {Q : Int32 → h_S → Prop} : ∀ (n : Nat) {b : Nat → Nat} {s S_s : h_S} {C D bc bs : Nat} {A_o0 : Nat} {x7 : Int32} {x8 : Int32}, c_R E g b s S_s → c_F s → c_at b s 0 A_o0 → fn_X11_join_175 n x7 x8 s = some (r, t, C, D) → (∀ (b2 : Nat → Nat) (S2 : h_S), c_ext b s b2 t → c_R E g b2 t S2 → c_F t → Q r S2) → C ≤ bc → D ≤ bs → w_X11_join_175 g Q n A_o0 x7 x8 S_s bc bs := by
  intro n
  induction n with
  | zero => intros; rename_i h _ _ _; exact fg_none h
  | succ n ih => exact ft_X11_join_175b @ih
set_option maxRecDepth 100000 in
set_option maxHeartbeats 4000000 in
theorem ft_X11_join {E : h_S} {g : h_G} {r : Int32} {t : h_S} {Q : Int32 → h_S → Prop} {b : Nat → Nat} {s S_s : h_S} {C0 D0 mc ms : Nat} {A_o0 : Nat} {x1 : Int32} {x2 : Int32} {x3 : Int32} (hR : c_R E g b s S_s) (hF : c_F s) (f_o0 : c_at b s 0 A_o0) (h : fn_X11_join x1 x2 x3 s = some (r, t, C0, D0)) (hQ : ∀ (b2 : Nat → Nat) (S2 : h_S), c_ext b s b2 t → c_R E g b2 t S2 → c_F t → Q r S2) (hc : C0 ≤ mc) (hd : D0 ≤ ms) : w_X11_join g A_o0 x1 x2 x3 S_s mc ms Q := by
  unfold fn_X11_join at h
  unfold w_X11_join
  refine ⟨(cr_k hR f_o0).trans (cf_k (a := 0) hF rfl (by decide)), ?_⟩
  obtain ⟨p3, s2, e_s2, h⟩ := fg_b_s h
  refine ft_X11_versionAt hR hF f_o0 e_s2 (fun b_s2 R_p3 S_s2 x_s2 r_s2 F_s2 f_p3 => ?_)
  refine ⟨(cr_k r_s2 (cr_atx f_o0 x_s2)).trans (cf_k (a := 0) F_s2 rfl (by decide)), ?_⟩
  obtain ⟨p6, s5, e_s5, h⟩ := fg_b_s h
  refine ft_X11_versionAt r_s2 F_s2 (cr_atx f_o0 x_s2) e_s5 (fun b_s5 R_p6 S_s5 x_s5 r_s5 F_s5 f_p6 => ?_)
  refine ⟨(cr_k r_s5 (cr_atx (cr_atx f_o0 x_s2) x_s5)).trans (cf_k (a := 0) F_s5 rfl (by decide)), ?_⟩
  obtain ⟨p9, s8, e_s8, h⟩ := fg_b_s h
  refine ft_X11_versionAt r_s5 F_s5 (cr_atx (cr_atx f_o0 x_s2) x_s5) e_s8 (fun b_s8 R_p9 S_s8 x_s8 r_s8 F_s8 f_p9 => ?_)
  refine fg_ite (cr_isn (cr_aox (cr_aox f_p3 x_s5) x_s8)) (fun d => ?_) (fun d => ?_)
  · have h := fg_if_t d h
    unfold w_X11_join_36
    obtain ⟨q, q2⟩ := fg_retc h
    subst q
    subst q2
    exact hQ _ _ (cr_xt x_s2 (cr_xt x_s5 x_s8)) r_s8 F_s8
  · have h := fg_if_e d h
    refine fg_ite (cr_isn (cr_aox f_p6 x_s8)) (fun d => ?_) (fun d => ?_)
    · have h := fg_if_t d h
      unfold w_X11_join_36
      obtain ⟨q, q2⟩ := fg_retc h
      subst q
      subst q2
      exact hQ _ _ (cr_xt x_s2 (cr_xt x_s5 x_s8)) r_s8 F_s8
    · have h := fg_if_e d h
      refine fg_ite (cr_isn f_p9) (fun d => ?_) (fun d => ?_)
      · have h := fg_if_t d h
        unfold w_X11_join_36
        obtain ⟨q, q2⟩ := fg_retc h
        subst q
        subst q2
        exact hQ _ _ (cr_xt x_s2 (cr_xt x_s5 x_s8)) r_s8 F_s8
      · have h := fg_if_e d h
        refine ⟨(cr_k r_s8 (cr_atx (cr_atx (cr_atx f_o0 x_s2) x_s5) x_s8)).trans (cf_k (a := 0) F_s8 rfl (by decide)), ?_⟩
        obtain ⟨A_a14, w_a14, f_a14⟩ := cr_aos (cr_r r_s8 (cr_atx (cr_atx (cr_atx f_o0 x_s2) x_s5) x_s8) _) (cf_r (a := 0) (j := 4) (y := 3) F_s8 rfl)
        refine ⟨A_a14, w_a14, ?_⟩
        refine ⟨(cr_k r_s8 f_a14).trans (cf_k (a := 3) F_s8 rfl (by decide)), ?_⟩
        obtain ⟨p17, s16, e_s16, h⟩ := fg_b_s h
        refine ft_X7_isFull r_s8 F_s8 f_a14 e_s16 (fun b_s16 S_s16 x_s16 r_s16 F_s16 => ?_)
        refine fg_ite Iff.rfl (fun d => ?_) (fun d => ?_)
        · have h := fg_if_t d h
          refine ⟨(cr_k r_s16 (cr_atx (cr_atx (cr_atx (cr_atx f_o0 x_s2) x_s5) x_s8) x_s16)).trans (cf_k (a := 0) F_s16 rfl (by decide)), ?_⟩
          obtain ⟨a20, o_a20, h⟩ := fg_o_s h
          obtain ⟨A_a20, w_a20, f_a20⟩ := cr_aos f_p3 o_a20
          refine ⟨A_a20, w_a20, ?_⟩
          obtain ⟨c_a20_1, h⟩ := fg_g_s h
          refine ⟨(cr_k r_s16 (cr_atx (cr_atx (cr_atx f_a20 x_s5) x_s8) x_s16)).trans c_a20_1, ?_⟩
          obtain ⟨a22, o_a22, h⟩ := fg_o_s h
          obtain ⟨A_a22, w_a22, f_a22⟩ := cr_aos f_p6 o_a22
          refine ⟨A_a22, w_a22, ?_⟩
          obtain ⟨c_a22_2, h⟩ := fg_g_s h
          refine ⟨(cr_k r_s16 (cr_atx (cr_atx f_a22 x_s8) x_s16)).trans c_a22_2, ?_⟩
          obtain ⟨a24, o_a24, h⟩ := fg_o_s h
          obtain ⟨A_a24, w_a24, f_a24⟩ := cr_aos f_p9 o_a24
          refine ⟨A_a24, w_a24, ?_⟩
          obtain ⟨c_a24_3, h⟩ := fg_g_s h
          refine ⟨(cr_k r_s16 (cr_atx f_a24 x_s16)).trans c_a24_3, ?_⟩
          obtain ⟨A_a26, w_a26, f_a26⟩ := cr_aos (cr_r r_s16 (cr_atx (cr_atx (cr_atx (cr_atx f_o0 x_s2) x_s5) x_s8) x_s16) _) (cf_r (a := 0) (j := 10) (y := 10) F_s16 rfl)
          refine ⟨A_a26, w_a26, ?_⟩
          refine ⟨(cr_k r_s16 f_a26).trans (cf_k (a := 10) F_s16 rfl (by decide)), ?_⟩
          obtain ⟨u_, s28, e_s28, h⟩ := fg_b_s h
          refine ft_X9_weaveBy r_s16 F_s16 f_a26 (cr_r r_s16 (cr_atx (cr_atx (cr_atx f_a20 x_s5) x_s8) x_s16) _) (cr_r r_s16 (cr_atx (cr_atx f_a22 x_s8) x_s16) _) (cr_r r_s16 (cr_atx f_a24 x_s16) _) e_s28 (fun b_s28 S_s28 x_s28 r_s28 F_s28 => ?_)
          refine ⟨(cr_k r_s28 (cr_atx (cr_atx (cr_atx (cr_atx (cr_atx f_o0 x_s2) x_s5) x_s8) x_s16) x_s28)).trans (cf_k (a := 0) F_s28 rfl (by decide)), ?_⟩
          obtain ⟨A_a31, w_a31, f_a31⟩ := cr_aos (cr_r r_s28 (cr_atx (cr_atx (cr_atx (cr_atx (cr_atx f_o0 x_s2) x_s5) x_s8) x_s16) x_s28) _) (cf_r (a := 0) (j := 10) (y := 10) F_s28 rfl)
          refine ⟨A_a31, w_a31, ?_⟩
          refine ⟨(cr_k r_s28 f_a31).trans (cf_k (a := 10) F_s28 rfl (by decide)), ?_⟩
          obtain ⟨p34, s33, e_s33, h⟩ := fg_b_s h
          refine ft_X9_runs r_s28 F_s28 f_a31 e_s33 (fun b_s33 S_s33 x_s33 r_s33 F_s33 => ?_)
          refine fg_ite Iff.rfl (fun d => ?_) (fun d => ?_)
          · have h := fg_if_t d h
            unfold w_X11_join_105
            obtain ⟨q, q2⟩ := fg_retc h
            subst q
            subst q2
            exact hQ _ _ (cr_xt x_s2 (cr_xt x_s5 (cr_xt x_s8 (cr_xt x_s16 (cr_xt x_s28 x_s33))))) r_s33 F_s33
          · have h := fg_if_e d h
            refine ⟨(cr_k r_s33 (cr_atx (cr_atx (cr_atx (cr_atx (cr_atx (cr_atx f_o0 x_s2) x_s5) x_s8) x_s16) x_s28) x_s33)).trans (cf_k (a := 0) F_s33 rfl (by decide)), ?_⟩
            obtain ⟨A_a37, w_a37, f_a37⟩ := cr_aos (cr_r r_s33 (cr_atx (cr_atx (cr_atx (cr_atx (cr_atx (cr_atx f_o0 x_s2) x_s5) x_s8) x_s16) x_s28) x_s33) _) (cf_r (a := 0) (j := 10) (y := 10) F_s33 rfl)
            refine ⟨A_a37, w_a37, ?_⟩
            refine ⟨(cr_k r_s33 f_a37).trans (cf_k (a := 10) F_s33 rfl (by decide)), ?_⟩
            obtain ⟨A_a39, w_a39, f_a39⟩ := cr_aos (cr_r r_s33 (cr_atx (cr_atx (cr_atx (cr_atx (cr_atx (cr_atx f_o0 x_s2) x_s5) x_s8) x_s16) x_s28) x_s33) _) (cf_r (a := 0) (j := 6) (y := 5) F_s33 rfl)
            refine ⟨A_a39, w_a39, ?_⟩
            refine ⟨(cr_k r_s33 f_a39).trans (cf_k (a := 5) F_s33 rfl (by decide)), ?_⟩
            obtain ⟨p42, s41, e_s41, h⟩ := fg_b_s h
            refine ft_Jx4a65c_size_8abf5 r_s33 F_s33 f_a39 e_s41 (fun b_s41 S_s41 x_s41 r_s41 F_s41 => ?_)
            try simp -zeta -zetaUnused only [cr_i r_s33 f_a37]
            refine fg_ite Iff.rfl (fun d => ?_) (fun d => ?_)
            · have h := fg_if_t d h
              refine ⟨(cr_k r_s41 (cr_atx (cr_atx (cr_atx (cr_atx (cr_atx (cr_atx (cr_atx f_o0 x_s2) x_s5) x_s8) x_s16) x_s28) x_s33) x_s41)).trans (cf_k (a := 0) F_s41 rfl (by decide)), ?_⟩
              obtain ⟨a45, o_a45, h⟩ := fg_o_s h
              obtain ⟨A_a45, w_a45, f_a45⟩ := cr_aos f_p3 o_a45
              refine ⟨A_a45, w_a45, ?_⟩
              obtain ⟨c_a45_4, h⟩ := fg_g_s h
              refine ⟨(cr_k r_s41 (cr_atx (cr_atx (cr_atx (cr_atx (cr_atx (cr_atx f_a45 x_s5) x_s8) x_s16) x_s28) x_s33) x_s41)).trans c_a45_4, ?_⟩
              obtain ⟨A_a47, w_a47, f_a47⟩ := cr_aos (cr_r r_s41 (cr_atx (cr_atx (cr_atx (cr_atx (cr_atx (cr_atx (cr_atx f_o0 x_s2) x_s5) x_s8) x_s16) x_s28) x_s33) x_s41) _) (cf_r (a := 0) (j := 4) (y := 3) F_s41 rfl)
              refine ⟨A_a47, w_a47, ?_⟩
              refine ⟨(cr_k r_s41 f_a47).trans (cf_k (a := 3) F_s41 rfl (by decide)), ?_⟩
              try simp -zeta -zetaUnused only [cr_i r_s41 (cr_atx (cr_atx (cr_atx (cr_atx (cr_atx (cr_atx f_a45 x_s5) x_s8) x_s16) x_s28) x_s33) x_s41)]
              obtain ⟨p50, s49, e_s49, h⟩ := fg_b_s h
              refine ft_X7_ownerOf r_s41 F_s41 f_a47 e_s49 (fun b_s49 S_s49 x_s49 r_s49 F_s49 => ?_)
              refine ⟨(cr_k r_s49 (cr_atx (cr_atx (cr_atx (cr_atx (cr_atx (cr_atx (cr_atx (cr_atx f_o0 x_s2) x_s5) x_s8) x_s16) x_s28) x_s33) x_s41) x_s49)).trans (cf_k (a := 0) F_s49 rfl (by decide)), ?_⟩
              obtain ⟨A_a52, w_a52, f_a52⟩ := cr_aos (cr_r r_s41 (cr_atx (cr_atx (cr_atx (cr_atx (cr_atx (cr_atx (cr_atx f_o0 x_s2) x_s5) x_s8) x_s16) x_s28) x_s33) x_s41) _) (cf_r (a := 0) (j := 4) (y := 3) F_s41 rfl)
              refine ⟨A_a52, w_a52, ?_⟩
              refine ⟨(cr_k r_s49 (cr_atx f_a52 x_s49)).trans (cf_k (a := 3) F_s49 rfl (by decide)), ?_⟩
              try simp -zeta -zetaUnused only [cr_i r_s49 (cr_atx (cr_atx (cr_atx (cr_atx (cr_atx (cr_atx (cr_atx (cr_atx f_o0 x_s2) x_s5) x_s8) x_s16) x_s28) x_s33) x_s41) x_s49)]
              obtain ⟨p55, s54, mc56, ms57, C_s54, D_s54, e_s54, h, q_s54, w_s54⟩ := fg_bc_s h
              obtain ⟨u1_s54, hc⟩ := fg_sp q_s54 hc
              obtain ⟨u2_s54, hd⟩ := fg_sp w_s54 hd
              refine ⟨mc56, ms57, u1_s54, u2_s54, ft_X7_begin r_s49 F_s49 (cr_atx f_a52 x_s49) e_s54 (fun b_s54 S_s54 x_s54 r_s54 F_s54 => ?_) (Nat.le_refl _) (Nat.le_refl _)⟩
              refine ⟨(cr_k r_s54 (cr_atx (cr_atx (cr_atx (cr_atx (cr_atx (cr_atx (cr_atx (cr_atx (cr_atx f_o0 x_s2) x_s5) x_s8) x_s16) x_s28) x_s33) x_s41) x_s49) x_s54)).trans (cf_k (a := 0) F_s54 rfl (by decide)), ?_⟩
              obtain ⟨A_a61, w_a61, f_a61⟩ := cr_aos (cr_r r_s54 (cr_atx (cr_atx (cr_atx (cr_atx (cr_atx (cr_atx (cr_atx (cr_atx (cr_atx f_o0 x_s2) x_s5) x_s8) x_s16) x_s28) x_s33) x_s41) x_s49) x_s54) _) (cf_r (a := 0) (j := 10) (y := 10) F_s54 rfl)
              refine ⟨A_a61, w_a61, ?_⟩
              refine ⟨(cr_k r_s54 f_a61).trans (cf_k (a := 10) F_s54 rfl (by decide)), ?_⟩
              obtain ⟨A_a63, w_a63, f_a63⟩ := cr_aos (cr_r r_s54 (cr_atx (cr_atx (cr_atx (cr_atx (cr_atx (cr_atx (cr_atx (cr_atx (cr_atx f_o0 x_s2) x_s5) x_s8) x_s16) x_s28) x_s33) x_s41) x_s49) x_s54) _) (cf_r (a := 0) (j := 10) (y := 10) F_s54 rfl)
              refine ⟨A_a63, w_a63, ?_⟩
              refine ⟨(cr_k r_s54 f_a63).trans (cf_k (a := 10) F_s54 rfl (by decide)), ?_⟩
              obtain ⟨A_a65, w_a65, f_a65⟩ := cr_aos (cr_r r_s54 (cr_atx (cr_atx (cr_atx (cr_atx (cr_atx (cr_atx (cr_atx (cr_atx (cr_atx f_o0 x_s2) x_s5) x_s8) x_s16) x_s28) x_s33) x_s41) x_s49) x_s54) _) (cf_r (a := 0) (j := 4) (y := 3) F_s54 rfl)
              refine ⟨A_a65, w_a65, ?_⟩
              refine ⟨(cr_k r_s54 f_a65).trans (cf_k (a := 3) F_s54 rfl (by decide)), ?_⟩
              try simp -zeta -zetaUnused only [cr_i r_s54 f_a63]
              obtain ⟨u_, s67, mc69, ms70, C_s67, D_s67, e_s67, h, q_s67, w_s67⟩ := fg_bc_s h
              obtain ⟨u1_s67, hc⟩ := fg_sp q_s67 hc
              obtain ⟨u2_s67, hd⟩ := fg_sp w_s67 hd
              refine ⟨mc69, ms70, u1_s67, u2_s67, ft_X7_layRuns r_s54 F_s54 f_a65 (cr_r r_s54 f_a61 _) e_s67 (fun b_s67 S_s67 x_s67 r_s67 F_s67 => ?_) (Nat.le_refl _) (Nat.le_refl _)⟩
              refine ⟨(cr_k r_s67 (cr_atx (cr_atx (cr_atx (cr_atx (cr_atx (cr_atx (cr_atx (cr_atx (cr_atx (cr_atx f_o0 x_s2) x_s5) x_s8) x_s16) x_s28) x_s33) x_s41) x_s49) x_s54) x_s67)).trans (cf_k (a := 0) F_s67 rfl (by decide)), ?_⟩
              obtain ⟨A_a74, w_a74, f_a74⟩ := cr_aos (cr_r r_s67 (cr_atx (cr_atx (cr_atx (cr_atx (cr_atx (cr_atx (cr_atx (cr_atx (cr_atx (cr_atx f_o0 x_s2) x_s5) x_s8) x_s16) x_s28) x_s33) x_s41) x_s49) x_s54) x_s67) _) (cf_r (a := 0) (j := 4) (y := 3) F_s67 rfl)
              refine ⟨A_a74, w_a74, ?_⟩
              refine ⟨(cr_k r_s67 f_a74).trans (cf_k (a := 3) F_s67 rfl (by decide)), ?_⟩
              try simp -zeta -zetaUnused only [cr_i r_s67 (cr_atx (cr_atx (cr_atx (cr_atx (cr_atx (cr_atx (cr_atx (cr_atx (cr_atx (cr_atx f_o0 x_s2) x_s5) x_s8) x_s16) x_s28) x_s33) x_s41) x_s49) x_s54) x_s67)]
              obtain ⟨p77, s76, mc78, ms79, C_s76, D_s76, e_s76, h, q_s76, w_s76⟩ := fg_bc_s h
              obtain ⟨u1_s76, hc⟩ := fg_sp q_s76 hc
              obtain ⟨u2_s76, hd⟩ := fg_sp w_s76 hd
              refine ⟨mc78, ms79, u1_s76, u2_s76, ft_X7_keepLaid r_s67 F_s67 f_a74 e_s76 (fun b_s76 S_s76 x_s76 r_s76 F_s76 => ?_) (Nat.le_refl _) (Nat.le_refl _)⟩
              exact ⟨g_N, ft_X11_join_175 g_N r_s76 F_s76 (cr_atx (cr_atx (cr_atx (cr_atx (cr_atx (cr_atx (cr_atx (cr_atx (cr_atx (cr_atx (cr_atx f_o0 x_s2) x_s5) x_s8) x_s16) x_s28) x_s33) x_s41) x_s49) x_s54) x_s67) x_s76) h (fun b2 S2 x2 => hQ b2 S2 (cr_xt (cr_xt x_s2 (cr_xt x_s5 (cr_xt x_s8 (cr_xt x_s16 (cr_xt x_s28 (cr_xt x_s33 (cr_xt x_s41 (cr_xt x_s49 (cr_xt x_s54 (cr_xt x_s67 x_s76)))))))))) x2)) hc hd⟩
            · have h := fg_if_e d h
              unfold w_X11_join_105
              obtain ⟨q, q2⟩ := fg_retc h
              subst q
              subst q2
              exact hQ _ _ (cr_xt x_s2 (cr_xt x_s5 (cr_xt x_s8 (cr_xt x_s16 (cr_xt x_s28 (cr_xt x_s33 x_s41)))))) r_s41 F_s41
        · have h := fg_if_e d h
          obtain ⟨q, q2⟩ := fg_retc h
          subst q
          subst q2
          exact hQ _ _ (cr_xt x_s2 (cr_xt x_s5 (cr_xt x_s8 x_s16))) r_s16 F_s16
set_option maxRecDepth 100000 in
set_option maxHeartbeats 4000000 in
theorem ft_X11_clash {E : h_S} {g : h_G} {r : Int32} {t : h_S} {Q : Int32 → h_S → Prop} {b : Nat → Nat} {s S_s : h_S} {A_o0 : Nat} {x1 : Int32} {x2 : Int32} (hR : c_R E g b s S_s) (hF : c_F s) (f_o0 : c_at b s 0 A_o0) (h : fn_X11_clash x1 x2 s = some (r, t)) (hQ : ∀ (b2 : Nat → Nat) (S2 : h_S), c_ext b s b2 t → c_R E g b2 t S2 → c_F t → Q r S2) : w_X11_clash A_o0 x1 x2 S_s Q := by
  unfold fn_X11_clash at h
  unfold w_X11_clash
  refine ⟨(cr_k hR f_o0).trans (cf_k (a := 0) hF rfl (by decide)), ?_⟩
  obtain ⟨A_a2, w_a2, f_a2⟩ := cr_aos (cr_r hR f_o0 _) (cf_r (a := 0) (j := 6) (y := 5) hF rfl)
  refine ⟨A_a2, w_a2, ?_⟩
  refine ⟨(cr_k hR f_a2).trans (cf_k (a := 5) hF rfl (by decide)), ?_⟩
  obtain ⟨p5, s4, e_s4, h⟩ := fg_b_s h
  refine ft_Jx4a65c_size_8abf5 hR hF f_a2 e_s4 (fun b_s4 S_s4 x_s4 r_s4 F_s4 => ?_)
  obtain ⟨p7, s6, e_s6, h⟩ := fg_b_s h
  refine ft_X11_within r_s4 F_s4 e_s6 (fun b_s6 S_s6 x_s6 r_s6 F_s6 => ?_)
  refine fg_ite Iff.rfl (fun d => ?_) (fun d => ?_)
  · have h := fg_if_t d h
    obtain ⟨q, q2⟩ := fg_ret h
    subst q
    subst q2
    exact hQ _ _ (cr_xt x_s4 x_s6) r_s6 F_s6
  · have h := fg_if_e d h
    refine ⟨(cr_k r_s6 (cr_atx (cr_atx f_o0 x_s4) x_s6)).trans (cf_k (a := 0) F_s6 rfl (by decide)), ?_⟩
    obtain ⟨A_a10, w_a10, f_a10⟩ := cr_aos (cr_r r_s6 (cr_atx (cr_atx f_o0 x_s4) x_s6) _) (cf_r (a := 0) (j := 6) (y := 5) F_s6 rfl)
    refine ⟨A_a10, w_a10, ?_⟩
    refine ⟨(cr_k r_s6 f_a10).trans (cf_k (a := 5) F_s6 rfl (by decide)), ?_⟩
    obtain ⟨p13, s12, e_s12, h⟩ := fg_b_s h
    refine ft_Jx4a65c_get_915e3 r_s6 F_s6 f_a10 e_s12 (fun b_s12 R_p13 S_s12 x_s12 r_s12 F_s12 f_p13 => ?_)
    obtain ⟨c, h⟩ := fg_g_s h
    refine ⟨cr_cast r_s12 f_p13 c, ?_⟩
    refine fg_ite Iff.rfl (fun d => ?_) (fun d => ?_)
    · have h := fg_if_t d h
      obtain ⟨a16, o_a16, h⟩ := fg_o_s h
      obtain ⟨A_a16, w_a16, f_a16⟩ := cr_aos f_p13 o_a16
      refine ⟨A_a16, w_a16, ?_⟩
      obtain ⟨c_a16_1, h⟩ := fg_g_s h
      refine ⟨(cr_k r_s12 f_a16).trans c_a16_1, ?_⟩
      try simp -zeta -zetaUnused only [cr_i r_s12 f_a16]
      obtain ⟨q, q2⟩ := fg_ret h
      subst q
      subst q2
      exact hQ _ _ (cr_xt x_s4 (cr_xt x_s6 x_s12)) r_s12 F_s12
    · have h := fg_if_e d h
      refine fg_ite Iff.rfl (fun d => ?_) (fun d => ?_)
      · have h := fg_if_t d h
        obtain ⟨a19, o_a19, h⟩ := fg_o_s h
        obtain ⟨A_a19, w_a19, f_a19⟩ := cr_aos f_p13 o_a19
        refine ⟨A_a19, w_a19, ?_⟩
        obtain ⟨c_a19_1, h⟩ := fg_g_s h
        refine ⟨(cr_k r_s12 f_a19).trans c_a19_1, ?_⟩
        try simp -zeta -zetaUnused only [cr_i r_s12 f_a19]
        obtain ⟨q, q2⟩ := fg_ret h
        subst q
        subst q2
        exact hQ _ _ (cr_xt x_s4 (cr_xt x_s6 x_s12)) r_s12 F_s12
      · have h := fg_if_e d h
        refine fg_ite Iff.rfl (fun d => ?_) (fun d => ?_)
        · have h := fg_if_t d h
          obtain ⟨a22, o_a22, h⟩ := fg_o_s h
          obtain ⟨A_a22, w_a22, f_a22⟩ := cr_aos f_p13 o_a22
          refine ⟨A_a22, w_a22, ?_⟩
          obtain ⟨c_a22_1, h⟩ := fg_g_s h
          refine ⟨(cr_k r_s12 f_a22).trans c_a22_1, ?_⟩
          obtain ⟨a24, o_a24, h⟩ := fg_o_s h
          obtain ⟨A_a24, w_a24, f_a24⟩ := cr_aos (cr_r r_s12 f_a22 _) o_a24
          refine ⟨A_a24, w_a24, ?_⟩
          obtain ⟨c_a24_2, h⟩ := fg_g_s h
          refine ⟨(cr_k r_s12 f_a24).trans c_a24_2, ?_⟩
          obtain ⟨a26, o_a26, h⟩ := fg_o_s h
          obtain ⟨A_a26, w_a26, f_a26⟩ := cr_aos f_p13 o_a26
          refine ⟨A_a26, w_a26, ?_⟩
          obtain ⟨c_a26_3, h⟩ := fg_g_s h
          refine ⟨(cr_k r_s12 f_a26).trans c_a26_3, ?_⟩
          try simp -zeta -zetaUnused only [cr_n r_s12 f_a24, cr_i r_s12 f_a26]
          obtain ⟨q, q2⟩ := fg_ret h
          subst q
          subst q2
          exact hQ _ _ (cr_xt x_s4 (cr_xt x_s6 x_s12)) r_s12 F_s12
        · have h := fg_if_e d h
          refine fg_ite Iff.rfl (fun d => ?_) (fun d => ?_)
          · have h := fg_if_t d h
            obtain ⟨a29, o_a29, h⟩ := fg_o_s h
            obtain ⟨A_a29, w_a29, f_a29⟩ := cr_aos f_p13 o_a29
            refine ⟨A_a29, w_a29, ?_⟩
            obtain ⟨c_a29_1, h⟩ := fg_g_s h
            refine ⟨(cr_k r_s12 f_a29).trans c_a29_1, ?_⟩
            try simp -zeta -zetaUnused only [cr_i r_s12 f_a29]
            refine fg_ite Iff.rfl (fun d => ?_) (fun d => ?_)
            · have h := fg_if_t d h
              unfold w_X11_clash_93
              obtain ⟨q, q2⟩ := fg_ret h
              subst q
              subst q2
              exact hQ _ _ (cr_xt x_s4 (cr_xt x_s6 x_s12)) r_s12 F_s12
            · have h := fg_if_e d h
              unfold w_X11_clash_93
              obtain ⟨q, q2⟩ := fg_ret h
              subst q
              subst q2
              exact hQ _ _ (cr_xt x_s4 (cr_xt x_s6 x_s12)) r_s12 F_s12
          · have h := fg_if_e d h
            obtain ⟨q, q2⟩ := fg_ret h
            subst q
            subst q2
            exact hQ _ _ (cr_xt x_s4 (cr_xt x_s6 x_s12)) r_s12 F_s12
