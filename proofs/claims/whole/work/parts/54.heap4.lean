section H4
variable {X : h_X} {cc : ByteArray} {own : String} {nL pc fr lo bc bs : Nat} {lv : List (Nat × h_P)} {st : List h_P} {σ : h_S}
theorem v_alenK (hX : h_ok X cc nL own fr lo) {a k : Nat} {ty : FieldType} (d : decode cc pc = .ok (.arraylength, 1)) (hy : (h_tys (x_Y X))[k - 1]? = some (x_Y X k, ty)) (hk1 : 1 ≤ k) (hk20 : k < 19) (hk : h_k σ a = k) (kk : h_V X nL (pc + 1) lv (pI (Int32.ofNat (h_n σ a)) :: st) σ bc bs) : h_V X nL pc lv (pR (some a) :: st) σ bc bs := by
  intro ls H locs cells slots a1 a2 a3 a4 a5
  obtain ⟨ha, q0, hq0⟩ := h_pl a2 (a := a) (by omega)
  have k2 := kk ls H locs cells slots a1 a2 a3 a4 a5
  by_cases h3 : k < 3
  · rw [h_e_1 hk h3] at hq0
    exact va_alen (D := x_D X) hX.1 hX.2.1 hX.2.2.2.2.2.1 a2.1 q0 (k - 1) hq0 (ty := ty) hy rfl d k2
  · rw [h_e_2 hk h3 (by omega)] at hq0
    exact va_alen (D := x_D X) hX.1 hX.2.1 hX.2.2.2.2.2.1 a2.1 q0 (k - 1) hq0 (ty := ty) hy rfl d k2
theorem v_getEmpty (hX : h_ok X cc nL own fr lo) {index : Nat} (d : decode cc pc = .ok (.getstatic index, 3)) (hw : Cond.fieldLink own index "java/util/ArrayList" "DEFAULTCAPACITY_EMPTY_ELEMENTDATA" "[Ljava/lang/Object;" ∈ h_tb) (kk : h_V X nL (pc + 3) lv (pR (some (x_G X).1) :: st) σ bc bs) : h_V X nL pc lv st σ bc bs := by
  intro ls H locs cells slots a1 a2 a3 a4 a5
  have hO := hX.2.2.2.2.2.2.2.2.2.2.2.2
  exact va_gets hX.1 hX.2.1 hO.1 (by rw [← hX.2.2.2.2.2.2.2.2.2.2.2.1]; exact a3) hX.2.2.2.1 (hX.2.2.2.2.1 _ hw) (fun _ h => h) d (kk ls H locs cells slots a1 a2 a3 a4 a5)
theorem v_alen7 (hX : h_ok X cc nL own fr lo) {r : Option Nat} (d : decode cc pc = .ok (.arraylength, 1)) (hc : r = some (x_G X).1 ∨ ∃ a, r = some a ∧ h_k σ a = 7) (kk : h_V X nL (pc + 1) lv (pI (h_ln7 (x_G X) σ r) :: st) σ bc bs) : h_V X nL pc lv (pR r :: st) σ bc bs := by
  by_cases he : r = some (x_G X).1
  · subst he
    intro ls H locs cells slots a1 a2 a3 a4 a5
    have hO := hX.2.2.2.2.2.2.2.2.2.2.2.2
    have k2 := kk ls H locs cells slots a1 a2 a3 a4 a5
    exact va_tlen (v := 0) hX.1 hX.2.1 hO.2.1 (by rw [← hX.2.2.2.2.2.2.2.2.2.2.2.1]; exact a3) rfl d (by
      have e : h_ln7 (x_G X) σ (some (x_G X).1) = 0 := by simp [h_ln7]
      rw [e] at k2
      exact k2)
  · rcases hc with hc | ⟨a, rfl, hk⟩
    · exact absurd hc he
    · have e : h_ln7 (x_G X) σ (some a) = Int32.ofNat (h_n σ a) := by unfold h_ln7; rw [if_neg he]
      rw [e] at kk
      exact v_alenK (k := 7) hX d rfl (by decide) (by decide) hk kk
theorem h_any (hX : h_ok X cc nL own fr lo) {H : Heap} (a2 : h_W (x_D X) (x_Y X) (x_z X) σ H) {v : Nat} (hv : 20 ≤ h_k σ v ∧ h_k σ v < 34) : va_Any "java/lang/Object" (x_s X) H v := by
  obtain ⟨ci, hci⟩ : ∃ ci, h_k σ v = 20 + ci := ⟨h_k σ v - 20, by omega⟩
  obtain ⟨hb, q2, hq2⟩ := h_pl a2 (a := v) (by omega)
  rw [h_e_3 hci] at hq2
  have hlt : ci < 14 := by omega
  have hN := hX.2.2.2.2.2.2.2.2.2.2.1
  have key : ∃ r : vw_C, vwCl[ci]? = some r ∧ va_Nw (.castable r.1 "java/lang/Object") (x_s X) := by
    have hc : ci = 0 ∨ ci = 1 ∨ ci = 2 ∨ ci = 3 ∨ ci = 4 ∨ ci = 5 ∨ ci = 6 ∨ ci = 7 ∨ ci = 8 ∨ ci = 9 ∨ ci = 10 ∨ ci = 11 ∨ ci = 12 ∨ ci = 13 := by omega
    rcases hc with rfl | rfl | rfl | rfl | rfl | rfl | rfl | rfl | rfl | rfl | rfl | rfl | rfl | rfl
    · exact ⟨_, rfl, hN _ ca_0 rfl⟩
    · exact ⟨_, rfl, hN _ ca_1 rfl⟩
    · exact ⟨_, rfl, hN _ ca_2 rfl⟩
    · exact ⟨_, rfl, hN _ ca_3 rfl⟩
    · exact ⟨_, rfl, hN _ ca_4 rfl⟩
    · exact ⟨_, rfl, hN _ ca_5 rfl⟩
    · exact ⟨_, rfl, hN _ ca_6 rfl⟩
    · exact ⟨_, rfl, hN _ ca_7 rfl⟩
    · exact ⟨_, rfl, hN _ ca_8 rfl⟩
    · exact ⟨_, rfl, hN _ ca_9 rfl⟩
    · exact ⟨_, rfl, hN _ ca_10 rfl⟩
    · exact ⟨_, rfl, hN _ ca_11 rfl⟩
    · exact ⟨_, rfl, hN _ ca_12 rfl⟩
    · exact ⟨_, rfl, hN _ ca_13 rfl⟩
  obtain ⟨r, hr, hca⟩ := key
  exact va_rAny hX.2.2.2.2.2.1 a2.1 hq2 hr (fun comp c0 h1 h2 => vb_asgC hca comp c0 h1 h2)
theorem v_aastO (hX : h_ok X cc nL own fr lo) {a v : Nat} {i : Int32} (d : decode cc pc = .ok (.aastore, 1)) (hk : h_k σ a = 7) (hin : vp_in i (h_n σ a)) (hv : 20 ≤ h_k σ v ∧ h_k σ v < 34) (kk : h_V X nL (pc + 1) lv st (h_sr σ a (h_ix i) (some v)) bc bs) : h_V X nL pc lv (pR (some v) :: pI i :: pR (some a) :: st) σ bc bs := by
  intro ls H locs cells slots a1 a2 a3 a4 a5
  obtain ⟨ha, q0, hq0⟩ := h_pl a2 (a := a) (by omega)
  have hq1 := hq0
  rw [h_e_2 hk (by decide) (by decide)] at hq0
  exact va_astqM (D := x_D X) (E := "java/lang/Object") hX.1 hX.2.1 hX.2.2.2.2.2.1 a2.1 a2.2.1 a3 q0 6 hq0 rfl (h_any hX a2 hv) hin d (fun H1 locs1 hP hD hS => kk ls H1 locs1 cells slots a1 (h_setR a2 ha hq1 (h_eR2 hk (by decide) (by decide) _) hP hD) hS a4 a5)
theorem v_copyO (hX : h_ok X cc nL own fr lo) {index a0 a : Nat} {sp dp n : Int32} (d : decode cc pc = .ok (.invokestatic index, 3)) (hw : Cond.methodLink own index arraycopyName ∈ h_tb) (hfr : 1 ≤ fr) (hlo : h_len st + (nativeFrameWords "java/lang/System" "arraycopy" 5 + 11) ≤ lo)
    (k0 : h_k σ a0 = 7) (k1 : h_k σ a = 7) (h1 : ¬ sp < 0) (h2 : ¬ dp < 0) (h3 : ¬ n < 0) (h4 : h_ix sp + h_ix n ≤ h_n σ a0) (h5 : h_ix dp + h_ix n ≤ h_n σ a) (hel : ∀ i, i < h_ix n → ∀ y, h_r σ a0 (h_ix sp + i) = some y → 20 ≤ h_k σ y ∧ h_k σ y < 34) (kk : h_V X nL (pc + 3) lv st (h_cpR σ a0 (h_ix sp) a (h_ix dp) (h_ix n)) bc bs) : h_V X nL pc lv (pI n :: pI dp :: pR (some a) :: pI sp :: pR (some a0) :: st) σ bc bs := by
  intro ls H locs cells slots a1 a2 a3 a4 a5
  have hts := hX.2.2.2.2.1
  obtain ⟨ha0, q0, hq0⟩ := h_pl a2 (a := a0) (by omega)
  rw [h_e_2 k0 (by decide) (by decide)] at hq0
  obtain ⟨ha, q1, hq1⟩ := h_pl a2 (a := a) (by omega)
  have hq2 := hq1
  rw [h_e_2 k1 (by decide) (by decide)] at hq1
  refine va_copyM (D := x_D X) (E0 := "java/lang/Object") (E1 := "java/lang/Object") hX.1 hX.2.1 (by rw [hX.2.2.1]; exact a1.1.symm) hX.2.2.2.1 (hts _ hw) (hts _ sy_nat) (hts _ sy_stat) (hts _ sy_ini) hX.2.2.2.2.2.1 a2.1 a2.2.1 a3 q0 q1 6 6 hq0 hq1 rfl rfl h1 h2 h3 h4 h5 (fun i hi y hy => h_any hX a2 (hel i hi y hy)) (by rw [hX.2.2.2.2.2.2.2.2.1]; exact hfr) (by rw [h_len1, hX.2.2.2.2.2.2.2.2.2.1]; exact hlo) d (fun H1 locs1 hP hD hS => ?_)
  have hs := va_pl_set (X := []) (e := .inl (x_Y X 7, h_n σ a, .inr (.inr (.inr (.inr (va_cpy (h_r σ a0) (h_r σ a) sp.toNatClampNeg dp.toNatClampNeg n.toNatClampNeg)))))) a2.2.1 ha hq2
  have hf : va_up (h_e (x_Y X) σ) a (.inl (x_Y X 7, h_n σ a, .inr (.inr (.inr (.inr (va_cpy (h_r σ a0) (h_r σ a) sp.toNatClampNeg dp.toNatClampNeg n.toNatClampNeg)))))) = h_e (x_Y X) (h_cpR σ a0 (h_ix sp) a (h_ix dp) (h_ix n)) := by
    funext b
    by_cases hb : b = a
    · subst hb
      rw [va_up_self, h_e_2 (k := 7) (show h_k (h_cpR σ a0 (h_ix sp) b (h_ix dp) (h_ix n)) b = 7 from k1) (by decide) (by decide), h_r_cpR1]
      rfl
    · rw [va_up_ne _ _ hb]; exact h_e_ne rfl rfl rfl (h_r_cpR2 σ a0 _ _ _ hb).symm
  have hP : va_P (x_D X) vwCl ((va_pl σ.1 (h_e (x_Y X) σ)).set q1 _) H1 := hP
  have hD : va_D (h_A (x_z X)) ((va_pl σ.1 (h_e (x_Y X) σ)).set q1 _) := hD
  have hs : (va_pl σ.1 (h_e (x_Y X) σ)).set q1 _ = va_pl σ.1 _ := hs
  rw [hs, hf] at hP hD
  exact kk ls H1 locs1 cells slots a1 ⟨hP, hD, a2.2.2⟩ hS a4 a5
theorem h_recvA {H : Heap} (hX : h_ok X cc nL own fr lo) (a2 : h_W (x_D X) (x_Y X) (x_z X) σ H) {a k : Nat} (hk : h_k σ a = k) (hk3 : ¬ k < 3) (hk20 : k < 19) {nm : String} (hnm : (x_s X).vm.findClass nm = some (x_Y X k)) : ∃ cell : Cell, H[a]? = some cell ∧ cell.vm.isStatics = false ∧ (x_s X).vm.findClass nm = some cell.cls := by
  obtain ⟨ha, q0, hq0⟩ := h_pl a2 (a := a) (by omega)
  rw [h_e_2 hk hk3 (by omega)] at hq0
  have h := a2.1 q0 _ hq0
  exact ⟨_, h, rfl, hnm⟩
theorem v_getC (hX : h_ok X cc nL RJ7 fr lo) {a : Nat} (d : decode cc pc = .ok (.invokevirtual 86, 3)) (hfr : 1 ≤ fr) (hlo : h_len st + 14 ≤ lo) (hk : h_k σ a = 7) (kk : h_V X nL (pc + 3) lv (pR (some (x_G X).2.2) :: st) σ bc bs) : h_V X nL pc lv (pR (some a) :: st) σ bc bs := by
  intro ls H locs cells slots a1 a2 a3 a4 a5
  have hts := hX.2.2.2.2.1
  have hO := hX.2.2.2.2.2.2.2.2.2.2.2.2
  have hnm : (x_s X).vm.findClass "[Ljava/lang/Object;" = some (x_Y X 7) := by
    obtain ⟨_, _, _, _, _, h⟩ := (hX.2.2.2.2.2.1.2 6 _ rfl).2
    exact h
  exact va_getC (C := "[Ljava/lang/Object;") hX.1 hX.2.1 (by rw [hX.2.2.1]; exact a1.1.symm) hX.2.2.2.1 (hts _ gc_link) (va_Dc.use hO.2.2.2.2.2.1) (hts _ gc_sel) (hts _ gc_inst) (hts _ gc_nat) hO.2.2.2.2.1 (h_recvA hX a2 hk (by decide) (by decide) hnm) (by rw [hX.2.2.2.2.2.2.2.2.1]; exact hfr) (by rw [h_len1, hX.2.2.2.2.2.2.2.2.2.1]; exact hlo) d (kk ls H locs cells slots a1 a2 a3 a4 a5)
theorem v_ldcM (hX : h_ok X cc nL own fr lo) {index : Nat} (d : decode cc pc = .ok (.ldc index, 2)) (hw : Cond.classLink own index "[Ljava/lang/Object;" ∈ h_tb) (kk : h_V X nL (pc + 2) lv (pR (some (x_G X).2.2) :: st) σ bc bs) : h_V X nL pc lv st σ bc bs := by
  intro ls H locs cells slots a1 a2 a3 a4 a5
  have hO := hX.2.2.2.2.2.2.2.2.2.2.2.2
  exact va_ldcM hX.1 hX.2.1 hX.2.2.2.1 (hX.2.2.2.2.1 _ hw) hO.2.2.2.2.1 d (kk ls H locs cells slots a1 a2 a3 a4 a5)
theorem h_fnI (hX : h_ok X cc nL own fr lo) : (x_s X).vm.findClass "[I" = some (x_Y X 1) := (hX.2.2.2.2.2.1.2 0 _ rfl).2
theorem v_castI (hX : h_ok X cc nL own fr lo) {index : Nat} {a : Nat} (d : decode cc pc = .ok (.checkcast index, 3)) (hw : Cond.classLink own index "[I" ∈ h_tb) (hk : h_k σ a = 1) (kk : h_V X nL (pc + 3) lv (pR (some a) :: st) σ bc bs) : h_V X nL pc lv (pR (some a) :: st) σ bc bs := by
  intro ls H locs cells slots a1 a2 a3 a4 a5
  obtain ⟨ha, q0, hq0⟩ := h_pl a2 (a := a) (by omega)
  rw [h_e_1 hk (by decide)] at hq0
  exact va_castA (D := x_D X) hX.1 hX.2.1 hX.2.2.2.1 (hX.2.2.2.2.1 _ hw) a2.1 q0 hq0 (h_fnI hX) d (kk ls H locs cells slots a1 a2 a3 a4 a5)
theorem v_clone (hX : h_ok X cc nL RJ7 fr lo) {a : Nat} (d : decode cc pc = .ok (.invokevirtual 316, 3)) (hfr : 1 ≤ fr) (hlo : h_len st + 14 ≤ lo) (hk : h_k σ a = 1) (hbc : 1 ≤ bc) (hbs : h_n σ a ≤ bs) (kk : ∀ q, h_k σ q = 0 → h_V X nL (pc + 3) lv (pR (some q) :: st) (h_cl σ q a) (bc - 1) (bs - h_n σ a)) : h_V X nL pc lv (pR (some a) :: st) σ bc bs := by
  intro ls H locs cells slots a1 a2 a3 a4 a5
  have hts := hX.2.2.2.2.1
  obtain ⟨ha, q0, hq0⟩ := h_pl a2 (a := a) (by omega)
  rw [h_e_1 hk (by decide)] at hq0
  refine va_clone (D := x_D X) (ad := "[I") (x := (h_n σ a, .inl (h_i σ a))) hX.1 hX.2.1 (by rw [hX.2.2.1]; exact a1.1.symm) hX.2.2.2.1 (hts _ cn_link) (hts _ cn_same) (hts _ cn_nat) (hts _ cn_inst) (hts _ cn_sel) (hX.2.2.2.2.2.2.2.2.2.2.1 _ cn_cast rfl) hX.2.2.2.2.2.1 a2.1 a2.2.1 a3 (fun q h => Nat.le_trans hX.2.2.2.2.2.2.1 h) q0 0 hq0 rfl (h_fnI hX) (fun i v hv => ?_) (by rw [hX.2.2.2.2.2.2.2.2.1]; exact hfr) (by rw [h_len1, hX.2.2.2.2.2.2.2.2.2.1]; exact hlo) (by omega) (show slots + h_n σ a ≤ _ by omega) d (fun q H1 hK hP hD hS => ?_)
  · rw [vp_cell_i] at hv
    by_cases hi : i < h_n σ a
    · rw [arrV_read _ _ hi] at hv
      cases hv
      rfl
    · have := (Array.getElem?_eq_some_iff.mp hv).1
      rw [arrV_size] at this
      exact absurd this hi
  · have hW0 : h_k σ q = 0 ∧ h_W (x_D X) (x_Y X) (x_z X) (h_cl σ q a) H1 := h_clW a2 hk hP hD
    exact kk q hW0.1 ls H1 locs (cells + 1) (slots + h_n σ a) a1 hW0.2 hS (by omega) (by omega)
theorem v_min (hX : h_ok X cc nL own fr lo) {index : Nat} {x y : Int32} (d : decode cc pc = .ok (.invokestatic index, 3)) (hw : Cond.methodLink own index Lib.Math.min.name ∈ h_tb) (hfr : 1 ≤ fr) (hlo : h_len st + 13 ≤ lo) (kk : h_V X nL (pc + 3) lv (pI (h_min x y) :: st) σ bc bs) : h_V X nL pc lv (pI y :: pI x :: st) σ bc bs := by
  intro ls H locs cells slots a1 a2 a3 a4 a5
  have hts := hX.2.2.2.2.1
  exact va_mmin hX.1 hX.2.1 (by rw [hX.2.2.1]; exact a1.1.symm) hX.2.2.2.1 (hts _ hw) (hts _ mm_min_stat) (hts _ it_RJ9) (hts _ mm_min_code) (by rw [hX.2.2.2.2.2.2.2.2.1]; exact hfr) (by rw [h_len1, hX.2.2.2.2.2.2.2.2.2.1]; exact hlo) (by omega) (by omega) d (kk ls H locs cells slots a1 a2 a3 a4 a5)
theorem v_max (hX : h_ok X cc nL own fr lo) {index : Nat} {x y : Int32} (d : decode cc pc = .ok (.invokestatic index, 3)) (hw : Cond.methodLink own index Lib.Math.max.name ∈ h_tb) (hfr : 1 ≤ fr) (hlo : h_len st + 13 ≤ lo) (kk : h_V X nL (pc + 3) lv (pI (h_max x y) :: st) σ bc bs) : h_V X nL pc lv (pI y :: pI x :: st) σ bc bs := by
  intro ls H locs cells slots a1 a2 a3 a4 a5
  have hts := hX.2.2.2.2.1
  exact va_mmax hX.1 hX.2.1 (by rw [hX.2.2.1]; exact a1.1.symm) hX.2.2.2.1 (hts _ hw) (hts _ mm_max_stat) (hts _ it_RJ9) (hts _ mm_max_code) (by rw [hX.2.2.2.2.2.2.2.2.1]; exact hfr) (by rw [h_len1, hX.2.2.2.2.2.2.2.2.2.1]; exact hlo) (by omega) (by omega) d (kk ls H locs cells slots a1 a2 a3 a4 a5)
end H4
theorem n_RL_7 : h_NW RL 7 12 19 := ⟨RX11, TX11, tyX11, rfl, hlen_RX11, by decide, hin_RX11, tyX11_ok, kl_RL_7, in_RX11, it_RX11⟩
theorem n_RX11_18 : h_NW RX11 18 8 13 := ⟨RX7, TX7, tyX7, rfl, hlen_RX7, by decide, hin_RX7, tyX7_ok, kl_RX11_18, in_RX7, it_RX7⟩
theorem n_RX7_15 : h_NW RX7 15 5 3 := ⟨RX4, TX4, tyX4, rfl, hlen_RX4, by decide, hin_RX4, tyX4_ok, kl_RX7_15, in_RX4, it_RX4⟩
theorem n_RX7_21 : h_NW RX7 21 3 5 := ⟨RX2, TX2, tyX2, rfl, hlen_RX2, by decide, hin_RX2, tyX2_ok, kl_RX7_21, in_RX2, it_RX2⟩
theorem n_RX7_27 : h_NW RX7 27 0 3 := ⟨RJx4a65c, TJx4a65c, tyJx4a65c, rfl, hlen_RJx4a65c, by decide, hin_RJx4a65c, tyJx4a65c_ok, kl_RX7_27, in_RJx4a65c, it_RJx4a65c⟩
theorem n_RX7_37 : h_NW RX7 37 7 3 := ⟨RX6, TX6, tyX6, rfl, hlen_RX6, by decide, hin_RX6, tyX6_ok, kl_RX7_37, in_RX6, it_RX6⟩
theorem n_RX11_25 : h_NW RX11 25 0 3 := ⟨RJx4a65c, TJx4a65c, tyJx4a65c, rfl, hlen_RJx4a65c, by decide, hin_RJx4a65c, tyJx4a65c_ok, kl_RX11_25, in_RJx4a65c, it_RJx4a65c⟩
theorem n_RX11_41 : h_NW RX11 41 6 3 := ⟨RX5, TX5, tyX5, rfl, hlen_RX5, by decide, hin_RX5, tyX5_ok, kl_RX11_41, in_RX5, it_RX5⟩
theorem n_RX11_47 : h_NW RX11 47 10 16 := ⟨RX9, TX9, tyX9, rfl, hlen_RX9, by decide, hin_RX9, tyX9_ok, kl_RX11_47, in_RX9, it_RX9⟩
theorem n_RX11_117 : h_NW RX11 117 3 5 := ⟨RX2, TX2, tyX2, rfl, hlen_RX2, by decide, hin_RX2, tyX2_ok, kl_RX11_117, in_RX2, it_RX2⟩
theorem n_RX2_10 : h_NW RX2 10 3 5 := ⟨RX2, TX2, tyX2, rfl, hlen_RX2, by decide, hin_RX2, tyX2_ok, kl_RX2_10, in_RX2, it_RX2⟩
theorem n_RX7_80 : h_NW RX7 80 11 5 := ⟨RX10, TX10, tyX10, rfl, hlen_RX10, by decide, hin_RX10, tyX10_ok, kl_RX7_80, in_RX10, it_RX10⟩
theorem n_RX11_382 : h_NW RX11 382 4 10 := ⟨RX3, TX3, tyX3, rfl, hlen_RX3, by decide, hin_RX3, tyX3_ok, kl_RX11_382, in_RX3, it_RX3⟩
theorem n_RX11_246 : h_NW RX11 246 9 5 := ⟨RX8, TX8, tyX8, rfl, hlen_RX8, by decide, hin_RX8, tyX8_ok, kl_RX11_246, in_RX8, it_RX8⟩
theorem n_RX9_118 : h_NW RX9 118 1 4 := ⟨RX0, TX0, tyX0, rfl, hlen_RX0, by decide, hin_RX0, tyX0_ok, kl_RX9_118, in_RX0, it_RX0⟩
theorem n_RX11_316 : h_NW RX11 316 1 4 := ⟨RX0, TX0, tyX0, rfl, hlen_RX0, by decide, hin_RX0, tyX0_ok, kl_RX11_316, in_RX0, it_RX0⟩
theorem n_RX11_345 : h_NW RX11 345 2 4 := ⟨RX1, TX1, tyX1, rfl, hlen_RX1, by decide, hin_RX1, tyX1_ok, kl_RX11_345, in_RX1, it_RX1⟩
theorem n_RL_10 : h_NW RL 10 13 115 := ⟨RX12, TX12, tyX12, rfl, hlen_RX12, by decide, hin_RX12, tyX12_ok, kl_RL_10, in_RX12, it_RX12⟩
