section H3
variable {X : h_X} {cc : ByteArray} {own : String} {nL pc fr lo bc bs : Nat} {lv : List (Nat × h_P)} {st : List h_P} {σ : h_S}
theorem v_putR (hX : h_ok X cc nL own fr lo) {index ci k a : Nat} {t : FieldType} {v : Option Nat} (d : decode cc pc = .ok (.putfield index, 3)) (hF : h_F own index ci k t false) (ht : h_isI t = false) (hr : (∃ n, t = .object n) ∨ ∃ u, t = .array u) (hk : h_k σ a = 20 + ci) (kk : h_V X nL (pc + 3) lv st (h_sr σ a k v) bc bs) : h_V X nL pc lv (pR v :: pR (some a) :: st) σ bc bs := by
  intro ls H locs cells slots a1 a2 a3 a4 a5
  obtain ⟨C, T, N, ty, ref, hc, hkN, hlay, hlen, hin, hty, hnm, hT1, hfin, htk, hlink⟩ := hF
  have hsm := hT1 _ _ hX.2.2.2.2.1
  obtain ⟨ha, q0, hq0⟩ := h_pl a2 (a := a) (by omega)
  have hq1 := hq0
  rw [h_e_3 hk] at hq0
  rw [ht] at hlay
  have he := h_setRe (v := v) hk hlay (x_Y X)
  have kl : k < (h_fs (h_lay ci) (h_i σ a) (h_r σ a) 0).length := by rw [h_fs_len, hlen]; exact hkN
  have hd := hty k hkN
  rw [htk] at hd
  have hn := h_nar ht hr v
  rcases hlink with hl | ⟨host, hl⟩
  · exact va_put (D := x_D X) hX.1 hX.2.1 hX.2.2.2.2.1 hin ty hty hnm hX.2.2.2.1 hX.2.2.2.2.2.1 a2.1 a2.2.1 a3 q0 hq0 hc k hkN (hX.2.2.2.2.1 _ hl) hsm hfin hd hn.1 hn.2 kl d (fun H1 locs1 hP hD hS => kk ls H1 locs1 cells slots a1 (h_setR a2 ha hq1 he hP hD) hS a4 a5)
  · exact va_putN (D := x_D X) hX.1 hX.2.1 hX.2.2.2.2.1 hin ty hty hnm hX.2.2.2.1 hX.2.2.2.2.2.1 a2.1 a2.2.1 a3 q0 hq0 hc k hkN (va_Nw.use rfl (hX.2.2.2.2.2.2.2.2.2.2.1 _ hl rfl)) hsm hfin hd hn.1 hn.2 kl d (fun H1 locs1 hP hD hS => kk ls H1 locs1 cells slots a1 (h_setR a2 ha hq1 he hP hD) hS a4 a5)
theorem h_narZ {v : Int32} (h : h_bt v) : narrow .boolean (.int v) = .int v ∧ fits .boolean (.int v) = true := by rcases h with rfl | rfl <;> exact ⟨rfl, rfl⟩
theorem v_putZ (hX : h_ok X cc nL own fr lo) {index ci k a : Nat} {v : Int32} (d : decode cc pc = .ok (.putfield index, 3)) (hF : h_F own index ci k .boolean false) (hk : h_k σ a = 20 + ci) (hb : h_bt v) (kk : h_V X nL (pc + 3) lv st (h_si σ a k v) bc bs) : h_V X nL pc lv (pI v :: pR (some a) :: st) σ bc bs := by
  intro ls H locs cells slots a1 a2 a3 a4 a5
  obtain ⟨C, T, N, ty, ref, hc, hkN, hlay, hlen, hin, hty, hnm, hT1, hfin, htk, hlink⟩ := hF
  have hsm := hT1 _ _ hX.2.2.2.2.1
  obtain ⟨ha, q0, hq0⟩ := h_pl a2 (a := a) (by omega)
  have hq1 := hq0
  rw [h_e_3 hk] at hq0
  have hlay : (h_lay ci)[k]? = some true := hlay
  have he := h_setIe (v := v) hk hlay (x_Y X)
  have kl : k < (h_fs (h_lay ci) (h_i σ a) (h_r σ a) 0).length := by rw [h_fs_len, hlen]; exact hkN
  have hd := hty k hkN
  rw [htk] at hd
  have hn := h_narZ hb
  rcases hlink with hl | ⟨host, hl⟩
  · exact va_put (D := x_D X) hX.1 hX.2.1 hX.2.2.2.2.1 hin ty hty hnm hX.2.2.2.1 hX.2.2.2.2.2.1 a2.1 a2.2.1 a3 q0 hq0 hc k hkN (hX.2.2.2.2.1 _ hl) hsm hfin hd hn.1 hn.2 kl d (fun H1 locs1 hP hD hS => kk ls H1 locs1 cells slots a1 (h_setI a2 ha hq1 he hP hD) hS a4 a5)
  · exact va_putN (D := x_D X) hX.1 hX.2.1 hX.2.2.2.2.1 hin ty hty hnm hX.2.2.2.1 hX.2.2.2.2.2.1 a2.1 a2.2.1 a3 q0 hq0 hc k hkN (va_Nw.use rfl (hX.2.2.2.2.2.2.2.2.2.2.1 _ hl rfl)) hsm hfin hd hn.1 hn.2 kl d (fun H1 locs1 hP hD hS => kk ls H1 locs1 cells slots a1 (h_setI a2 ha hq1 he hP hD) hS a4 a5)
/-- what the tables say of `new` -/
def h_okT : FieldType → Bool
  | .int => true
  | .boolean => true
  | .object _ => true
  | .array _ => true
  | _ => false
def h_NW (own : String) (index ci N : Nat) : Prop := ∃ (C : String) (T : u_T) (ty : Nat → FieldType), vwCl[ci]? = some (C, T, N) ∧ (h_lay ci).length = N ∧ (∀ j, j < N → (h_lay ci)[j]? = some (h_isI (ty j)) ∧ h_okT (ty j) = true) ∧ (∀ w ∈ u_ws C T N, w ∈ h_tb) ∧ (∀ j, j < N → parseFieldDescriptor (T j).2.2.1 = some (ty j)) ∧ Cond.classLink own index C ∈ h_tb ∧ Cond.instantiable C N ∈ h_tb ∧ Cond.initialized C ∈ h_tb
theorem h_def {t : FieldType} (h : h_okT t = true) : defaultValue t = if h_isI t = true then .int 0 else .null := by
  cases t <;> first | rfl | (simp [h_okT] at h)
theorem v_new (hX : h_ok X cc nL own fr lo) {index ci N : Nat} (d : decode cc pc = .ok (.new index, 3)) (hw : h_NW own index ci N) (hbc : 1 ≤ bc) (hbs : N ≤ bs) (kk : ∀ q, h_k σ q = 0 → h_V X nL (pc + 3) lv (pR (some q) :: st) (h_nw σ q (20 + ci) N) (bc - 1) (bs - N)) : h_V X nL pc lv st σ bc bs := by
  intro ls H locs cells slots a1 a2 a3 a4 a5
  obtain ⟨C, T, ty, hc, hlen, hlay, hin, hty, w1, w2, w3⟩ := hw
  have hts := hX.2.2.2.2.1
  refine va_new (D := x_D X) (ci := ci) (fs := h_fs (h_lay ci) (fun _ => 0) (fun _ => none) 0) (C := C) (T := T) (N := N) hX.1 hX.2.1 hts hin ty hty hX.2.2.2.1 (hts _ w1) (hts _ w2) (hts _ w3) hX.2.2.2.2.2.1 a2.1 a2.2.1 a3 (fun q h => Nat.le_trans hX.2.2.2.2.2.2.1 h) hc (fun j hj => ?_) (by omega) (by omega) d (fun q H1 hP hD hS => ?_)
  · have h1 := hlay j hj
    rw [h_def h1.2]
    unfold vp_V
    rw [List.getD_eq_getElem?_getD, h_fs_get h1.1]
    cases h_isI (ty j) <;> rfl
  · have he : h_e (x_Y X) (h_nw σ q (20 + ci) N) q = .inr (ci, h_fs (h_lay ci) (fun _ => 0) (fun _ => none) 0) := by
      rw [h_e_3 (c := ci) (by rw [h_k_nw]; simp)]
      refine congrArg (fun f => Sum.inr (ci, f)) (h_fs_cong _ (fun j _ => ?_) (fun j _ => ?_))
      · rw [h_i_nw, if_pos rfl]
      · rw [h_r_nw, if_pos rfl]
    have hci : ci < 14 := (List.getElem?_eq_some_iff.mp hc).1
    obtain ⟨h0, hW⟩ := h_nwW a2 (by omega) he hP hD
    exact kk q h0 ls H1 locs (cells + 1) (slots + N) a1 hW hS (by omega) (by omega)
/-- a place of an array of references -/
theorem v_aald (hX : h_ok X cc nL own fr lo) {a k : Nat} {ty : FieldType} {i : Int32} (d : decode cc pc = .ok (.aaload, 1)) (hy : (h_tys (x_Y X))[k - 1]? = some (x_Y X k, ty)) (hrt : ty.isReference = true) (hk3 : 3 ≤ k) (hk20 : k < 19) (hk : h_k σ a = k) (hin : vp_in i (h_n σ a)) (kk : h_V X nL (pc + 1) lv (pR (h_r σ a (h_ix i)) :: st) σ bc bs) : h_V X nL pc lv (pI i :: pR (some a) :: st) σ bc bs := by
  intro ls H locs cells slots a1 a2 a3 a4 a5
  obtain ⟨ha, q0, hq0⟩ := h_pl a2 (a := a) (by omega)
  rw [h_e_2 hk (by omega) (by omega)] at hq0
  have hlt : i.toNatClampNeg < h_n σ a := Nat.not_le.mp fun q => hin (Or.inr q)
  exact W.aald (v := va_rf (h_r σ a i.toNatClampNeg)) (ty := ty) hX.1 hX.2.1 (a2.1 q0 _ hq0) ((hX.2.2.2.2.2.1.2 (k - 1) _ hy).1 (h_n σ a) (fun j => va_rf (h_r σ a j))) hrt (fun q => by cases q) (by show ¬ (i < 0 ∨ (arrV _ _ _).slots.size ≤ _); rw [arrV_size]; exact hin) (by show (arrV _ _ _).slots[_]? = _; rw [arrV_read _ _ hlt]) rfl rfl d (kk ls H locs cells slots a1 a2 a3 a4 a5)
theorem h_eR2 {a k j : Nat} {v : Option Nat} (hk : h_k σ a = k) (hk3 : 3 ≤ k) (hk20 : k < 19) (Y : Nat → ClassId) : h_e Y (h_sr σ a j v) a = .inl (Y k, h_n σ a, .inr (.inr (.inr (.inr (va_up (h_r σ a) j v))))) := by
  rw [h_e_2 (k := k) (by rw [h_k_sr]; exact hk) (by omega) (by omega), h_r_sr1]
  rfl
/-- an object of the class ci into an array of its class -/
theorem v_aast (hX : h_ok X cc nL own fr lo) {a k v ci : Nat} {r : vw_C} {i : Int32} (d : decode cc pc = .ok (.aastore, 1)) (hy : (h_tys (x_Y X))[k - 1]? = some (x_Y X k, .object r.1)) (hc : vwCl[ci]? = some r) (hk3 : 3 ≤ k) (hk20 : k < 19) (hk : h_k σ a = k) (hin : vp_in i (h_n σ a)) (hv : h_k σ v = 20 + ci) (kk : h_V X nL (pc + 1) lv st (h_sr σ a (h_ix i) (some v)) bc bs) : h_V X nL pc lv (pR (some v) :: pI i :: pR (some a) :: st) σ bc bs := by
  intro ls H locs cells slots a1 a2 a3 a4 a5
  obtain ⟨ha, q0, hq0⟩ := h_pl a2 (a := a) (by omega)
  have hq1 := hq0
  rw [h_e_2 hk (by omega) (by omega)] at hq0
  obtain ⟨hb, q2, hq2⟩ := h_pl a2 (a := v) (by omega)
  rw [h_e_3 hv] at hq2
  exact va_astq (D := x_D X) hX.1 hX.2.1 hX.2.2.2.2.2.1 a2.1 a2.2.1 a3 q0 (k - 1) q2 ci hq0 hy hq2 hc hin d (fun H1 locs1 hP hD hS => kk ls H1 locs1 cells slots a1 (h_setR a2 ha hq1 (h_eR2 hk hk3 hk20 _) hP hD) hS a4 a5)
/-- null into an array of references -/
theorem v_aastN (hX : h_ok X cc nL own fr lo) {a k : Nat} {C : String} {i : Int32} (d : decode cc pc = .ok (.aastore, 1)) (hy : (h_tys (x_Y X))[k - 1]? = some (x_Y X k, .object C)) (hk3 : 3 ≤ k) (hk20 : k < 19) (hk : h_k σ a = k) (hin : vp_in i (h_n σ a)) (kk : h_V X nL (pc + 1) lv st (h_sr σ a (h_ix i) none) bc bs) : h_V X nL pc lv (pR none :: pI i :: pR (some a) :: st) σ bc bs := by
  intro ls H locs cells slots a1 a2 a3 a4 a5
  obtain ⟨ha, q0, hq0⟩ := h_pl a2 (a := a) (by omega)
  have hq1 := hq0
  rw [h_e_2 hk (by omega) (by omega)] at hq0
  exact va_astqN (D := x_D X) hX.1 hX.2.1 hX.2.2.2.2.2.1 a2.1 a2.2.1 a3 q0 (k - 1) hq0 hy hin d (fun H1 locs1 hP hD hS => kk ls H1 locs1 cells slots a1 (h_setR a2 ha hq1 (h_eR2 hk hk3 hk20 _) hP hD) hS a4 a5)
/-- either -/
theorem v_aastQ (hX : h_ok X cc nL own fr lo) {a k ci : Nat} {v : Option Nat} {r : vw_C} {i : Int32} (d : decode cc pc = .ok (.aastore, 1)) (hy : (h_tys (x_Y X))[k - 1]? = some (x_Y X k, .object r.1)) (hc : vwCl[ci]? = some r) (hk3 : 3 ≤ k) (hk20 : k < 19) (hk : h_k σ a = k) (hin : vp_in i (h_n σ a)) (hv : ∀ x, v = some x → h_k σ x = 20 + ci) (kk : h_V X nL (pc + 1) lv st (h_sr σ a (h_ix i) v) bc bs) : h_V X nL pc lv (pR v :: pI i :: pR (some a) :: st) σ bc bs := by
  cases v with
  | none => exact v_aastN hX d hy hk3 hk20 hk hin kk
  | some x => exact v_aast hX d hy hc hk3 hk20 hk hin (hv x rfl) kk
/-- a new array of references to objects -/
theorem v_anew (hX : h_ok X cc nL own fr lo) {index k N : Nat} {C : String} {n : Int32} (d : decode cc pc = .ok (.anewarray index, 3)) (hw : Cond.classLink own index C ∈ h_tb) (hao : Cond.arrayOver (.object C) ∈ lw_tbl) (hy : (h_tys (x_Y X))[k - 1]? = some (x_Y X k, .object C)) (hk3 : 3 ≤ k) (hk20 : k < 19) (hix : h_ix n = N) (hn : ¬ n < 0) (hN : N * 4 ≤ 536870912) (hbc : 1 ≤ bc) (hbs : N ≤ bs) (kk : ∀ q, h_k σ q = 0 → h_V X nL (pc + 3) lv (pR (some q) :: st) (h_nw σ q k N) (bc - 1) (bs - N)) : h_V X nL pc lv (pI n :: st) σ bc bs := by
  subst hix
  intro ls H locs cells slots a1 a2 a3 a4 a5
  refine va_newq (D := x_D X) (N' := h_ix n) hX.1 hX.2.1 hX.2.2.2.1 (hX.2.2.2.2.1 _ hw) (hX.2.2.2.2.2.2.2.2.2.2.2.2.2.2.2.2.2.2.1 C hao) hX.2.2.2.2.2.1 a2.1 a2.2.1 a3 (fun q h => Nat.le_trans hX.2.2.2.2.2.2.1 h) hn rfl hN (by omega) (by omega) d (fun q cA H1 hK hP hD hS => ?_)
  have e : cA = x_Y X k := by
    have h1 := (hK.2 8 (cA, .object C) (by simp)).2
    have h2 := (hX.2.2.2.2.2.1.2 (k - 1) _ hy).2
    obtain ⟨_, _, _, _, _, h1⟩ := h1
    obtain ⟨_, _, _, _, _, h2⟩ := h2
    exact Option.some.inj (h1.symm.trans h2)
  subst e
  have he : h_e (x_Y X) (h_nw σ q k (h_ix n)) q = .inl (x_Y X k, h_ix n, .inr (.inr (.inr (.inr (fun _ => none))))) := by
    rw [h_e_2 (k := k) (by rw [h_k_nw]; simp) (by omega) (by omega), h_n_nw, if_pos rfl]
    refine congrArg (fun f => Sum.inl (x_Y X k, h_ix n, Sum.inr (Sum.inr (Sum.inr (Sum.inr f))))) (funext fun j => ?_)
    rw [h_r_nw, if_pos rfl]
  obtain ⟨h0, hW⟩ := h_nwW a2 (by omega) he hP hD
  exact kk q h0 ls H1 locs (cells + 1) (slots + h_ix n) a1 hW hS (by omega) (by omega)
/-- a cast to the object's own class -/
theorem v_cast (hX : h_ok X cc nL own fr lo) {index ci : Nat} {r : Option Nat} {C : String} {T : u_T} {N : Nat} (d : decode cc pc = .ok (.checkcast index, 3)) (hw : Cond.classLink own index C ∈ h_tb) (hc : vwCl[ci]? = some (C, T, N)) (hk : ∀ x, r = some x → h_k σ x = 20 + ci) (kk : h_V X nL (pc + 3) lv (pR r :: st) σ bc bs) : h_V X nL pc lv (pR r :: st) σ bc bs := by
  intro ls H locs cells slots a1 a2 a3 a4 a5
  have k2 := kk ls H locs cells slots a1 a2 a3 a4 a5
  cases r with
  | none => exact lv_castN hX.1 hX.2.1 d k2
  | some a =>
    have hk := hk a rfl
    obtain ⟨ha, q0, hq0⟩ := h_pl a2 (a := a) (by omega)
    rw [h_e_3 hk] at hq0
    exact va_castS (cC := (x_D X).1 ci) hX.1 hX.2.1 hX.2.2.2.1 (hX.2.2.2.2.1 _ hw) (hX.2.2.2.2.2.1.1 ci _ hc).2 (va_recv hX.2.2.2.2.2.1 a2.1 hc hq0) d k2
theorem v_acmp_eq (hX : h_ok X cc nL own fr lo) {rx ry : Option Nat} {off : Int} {tgt : Nat} (d : decode cc pc = .ok (.if_acmp .eq off, 3)) (ht : (pc : Int) + off = (tgt : Int)) (kt : rx = ry → h_V X nL tgt lv st σ bc bs) (kf : ¬ rx = ry → h_V X nL (pc + 3) lv st σ bc bs) : h_V X nL pc lv (pR ry :: pR rx :: st) σ bc bs := fun ls H locs cells slots a1 a2 a3 a4 a5 => lv_acmp_eq hX.1 hX.2.1 d ht (fun c => kt c ls H locs cells slots a1 a2 a3 a4 a5) (fun c => kf c ls H locs cells slots a1 a2 a3 a4 a5)
theorem v_acmp_ne (hX : h_ok X cc nL own fr lo) {rx ry : Option Nat} {off : Int} {tgt : Nat} (d : decode cc pc = .ok (.if_acmp .ne off, 3)) (ht : (pc : Int) + off = (tgt : Int)) (kt : ¬ rx = ry → h_V X nL tgt lv st σ bc bs) (kf : rx = ry → h_V X nL (pc + 3) lv st σ bc bs) : h_V X nL pc lv (pR ry :: pR rx :: st) σ bc bs := fun ls H locs cells slots a1 a2 a3 a4 a5 => lv_acmp_ne hX.1 hX.2.1 d ht (fun c => kt c ls H locs cells slots a1 a2 a3 a4 a5) (fun c => kf c ls H locs cells slots a1 a2 a3 a4 a5)
/-- Link.ABOVE -/
theorem v_getAbove (hX : h_ok X cc nL own fr lo) {index : Nat} (d : decode cc pc = .ok (.getstatic index, 3)) (hw : Cond.fieldLink own index "SeenWords$Link" "ABOVE" "[I" ∈ h_tb) (kk : h_V X nL (pc + 3) lv (pR (some (x_G X).2.1) :: st) σ bc bs) : h_V X nL pc lv st σ bc bs := by
  intro ls H locs cells slots a1 a2 a3 a4 a5
  have hO := hX.2.2.2.2.2.2.2.2.2.2.2.2
  exact va_gets hX.1 hX.2.1 hO.2.2.1 (by rw [← hX.2.2.2.2.2.2.2.2.2.2.2.1]; exact a3) hX.2.2.2.1 (hX.2.2.2.2.1 _ hw) (fun _ h => h) d (kk ls H locs cells slots a1 a2 a3 a4 a5)
theorem v_aldAbove (hX : h_ok X cc nL own fr lo) {i : Int32} (d : decode cc pc = .ok (.iaload, 1)) (hin : vp_in i 5) (kk : h_V X nL (pc + 1) lv (pI (h_abv (h_ix i)) :: st) σ bc bs) : h_V X nL pc lv (pI i :: pR (some (x_G X).2.1) :: st) σ bc bs := by
  intro ls H locs cells slots a1 a2 a3 a4 a5
  have hO := hX.2.2.2.2.2.2.2.2.2.2.2.2
  exact va_ti hX.1 hX.2.1 hO.2.2.2.1 (by rw [← hX.2.2.2.2.2.2.2.2.2.2.2.1]; exact a3) hin rfl d (kk ls H locs cells slots a1 a2 a3 a4 a5)
theorem h_k_cp (σ : h_S) (a0 sp a dp n b : Nat) : h_k (h_cp σ a0 sp a dp n) b = h_k σ b := rfl
theorem h_n_cp (σ : h_S) (a0 sp a dp n b : Nat) : h_n (h_cp σ a0 sp a dp n) b = h_n σ b := rfl
theorem h_r_cp (σ : h_S) (a0 sp a dp n b j : Nat) : h_r (h_cp σ a0 sp a dp n) b j = h_r σ b j := rfl
theorem h_i_cp1 (σ : h_S) (a0 sp a dp n : Nat) : h_i (h_cp σ a0 sp a dp n) a = va_cpy (h_i σ a0) (h_i σ a) sp dp n := by
  funext j
  show (if a = a then va_cpy (σ.2.2.2.1 a0) (σ.2.2.2.1 a) sp dp n else σ.2.2.2.1 a) j = _
  rw [if_pos rfl]
  rfl
theorem h_i_cp2 (σ : h_S) (a0 sp dp n : Nat) {a b : Nat} (h : ¬ b = a) : h_i (h_cp σ a0 sp a dp n) b = h_i σ b := by
  funext j
  show (if b = a then va_cpy (σ.2.2.2.1 a0) (σ.2.2.2.1 a) sp dp n else σ.2.2.2.1 b) j = _
  rw [if_neg h]
  rfl
theorem v_copy (hX : h_ok X cc nL own fr lo) {index a0 a : Nat} {sp dp n : Int32} (d : decode cc pc = .ok (.invokestatic index, 3)) (hw : Cond.methodLink own index arraycopyName ∈ h_tb) (w1 : Cond.native arraycopyName ∈ h_tb) (w2 : Cond.static arraycopyName ∈ h_tb) (w3 : Cond.initialized "java/lang/System" ∈ h_tb) (hfr : 1 ≤ fr) (hlo : h_len st + (nativeFrameWords "java/lang/System" "arraycopy" 5 + 11) ≤ lo)
    (k0 : h_k σ a0 = 1) (k1 : h_k σ a = 1) (h1 : ¬ sp < 0) (h2 : ¬ dp < 0) (h3 : ¬ n < 0) (h4 : h_ix sp + h_ix n ≤ h_n σ a0) (h5 : h_ix dp + h_ix n ≤ h_n σ a) (kk : h_V X nL (pc + 3) lv st (h_cp σ a0 (h_ix sp) a (h_ix dp) (h_ix n)) bc bs) : h_V X nL pc lv (pI n :: pI dp :: pR (some a) :: pI sp :: pR (some a0) :: st) σ bc bs := by
  intro ls H locs cells slots a1 a2 a3 a4 a5
  have hts := hX.2.2.2.2.1
  obtain ⟨ha0, q0, hq0⟩ := h_pl a2 (a := a0) (by omega)
  rw [h_e_1 k0 (by decide)] at hq0
  obtain ⟨ha, q1, hq1⟩ := h_pl a2 (a := a) (by omega)
  have hq2 := hq1
  rw [h_e_1 k1 (by decide)] at hq1
  refine va_copyi (D := x_D X) (ty := .int) hX.1 hX.2.1 (by rw [hX.2.2.1]; exact a1.1.symm) hX.2.2.2.1 (hts _ hw) (hts _ w1) (hts _ w2) (hts _ w3) hX.2.2.2.2.2.1 a2.1 a2.2.1 a3 q0 q1 0 0 hq0 hq1 rfl rfl rfl h1 h2 h3 h4 h5 (fun _ _ => rfl) (by rw [hX.2.2.2.2.2.2.2.2.1]; exact hfr) (by rw [h_len1, hX.2.2.2.2.2.2.2.2.2.1]; exact hlo) d (fun H1 locs1 hP hD hS => ?_)
  have hs : (va_pl σ.1 (h_e (x_Y X) σ)).set q1 (a, .inl (x_Y X 1, h_n σ a, .inl (va_cpy (h_i σ a0) (h_i σ a) sp.toNatClampNeg dp.toNatClampNeg n.toNatClampNeg))) = va_pl σ.1 (va_up (h_e (x_Y X) σ) a (.inl (x_Y X 1, h_n σ a, .inl (va_cpy (h_i σ a0) (h_i σ a) sp.toNatClampNeg dp.toNatClampNeg n.toNatClampNeg)))) := va_pl_set (X := []) a2.2.1 ha hq2
  have hf : va_up (h_e (x_Y X) σ) a (.inl (x_Y X 1, h_n σ a, .inl (va_cpy (h_i σ a0) (h_i σ a) sp.toNatClampNeg dp.toNatClampNeg n.toNatClampNeg))) = h_e (x_Y X) (h_cp σ a0 (h_ix sp) a (h_ix dp) (h_ix n)) := by
    funext b
    by_cases hb : b = a
    · subst hb
      rw [va_up_self, h_e_1 (k := 1) (by rw [h_k_cp]; exact k1) (by decide), h_i_cp1]
      rfl
    · rw [va_up_ne _ _ hb]; exact h_e_ne rfl rfl (h_i_cp2 σ a0 _ _ _ hb).symm rfl
  rw [hs, hf] at hP hD
  exact kk ls H1 locs1 cells slots a1 ⟨hP, hD, a2.2.2⟩ hS a4 a5
theorem h_clW {D : va_G} {Y : Nat → ClassId} {z : Nat} {H H1 : Heap} {q a : Nat} (h : h_W D Y z σ H) (hk : h_k σ a = 1) (hP : va_P D vwCl (va_pl σ.1 (h_e Y σ) ++ [(q, .inl (Y 1, h_n σ a, .inl (h_i σ a)))]) H1) (hD : va_D (h_A z) (va_pl σ.1 (h_e Y σ) ++ [(q, .inl (Y 1, h_n σ a, .inl (h_i σ a)))])) : h_k σ q = 0 ∧ h_W D Y z (h_cl σ q a) H1 := by
  have hq : q ∉ σ.1 := by
    intro hq
    obtain ⟨i, hi⟩ := va_pl_get (X := []) (f := h_e Y σ) hq
    have hi' : (va_pl σ.1 (h_e Y σ))[i]? = some (q, h_e Y σ q) := hi
    have hl := (List.getElem?_eq_some_iff.mp hi').1
    have h1 : (va_pl σ.1 (h_e Y σ) ++ [(q, Sum.inl (Y 1, h_n σ a, Sum.inl (h_i σ a)))])[i]? = some (q, h_e Y σ q) := by rw [List.getElem?_append_left hl]; exact hi'
    have h2 : (va_pl σ.1 (h_e Y σ) ++ [(q, Sum.inl (Y 1, h_n σ a, Sum.inl (h_i σ a)))])[(va_pl σ.1 (h_e Y σ)).length]? = some (q, Sum.inl (Y 1, h_n σ a, Sum.inl (h_i σ a))) := by rw [List.getElem?_append_right (Nat.le_refl _), Nat.sub_self]; rfl
    have := hD.1 _ _ _ _ h1 h2 rfl
    omega
  have hzq : z ≤ q := hD.2 (va_pl σ.1 (h_e Y σ)).length (q, Sum.inl (Y 1, h_n σ a, Sum.inl (h_i σ a))) (by rw [List.getElem?_append_right (Nat.le_refl _), Nat.sub_self]; rfl)
  have hk0 : h_k σ q = 0 := by
    by_cases h0 : h_k σ q = 0
    · exact h0
    · exact absurd ((h.2.2.1 q).mpr ⟨h0, fun h9 => absurd (h.2.2.2 q h9) (by omega)⟩) hq
  have e1 : ∀ b, h_k (h_cl σ q a) b = if b = q then 1 else h_k σ b := fun _ => rfl
  have e2 : ∀ b, h_n (h_cl σ q a) b = if b = q then h_n σ a else h_n σ b := fun _ => rfl
  have e3 : ∀ b, h_i (h_cl σ q a) b = if b = q then h_i σ a else h_i σ b := fun b => by
    funext j
    show (if b = q then σ.2.2.2.1 a else σ.2.2.2.1 b) j = _
    split <;> rfl
  have e4 : ∀ b, ¬ b = q → h_r (h_cl σ q a) b = h_r σ b := fun b hb => by
    funext j
    show (if b = q then (fun _ => none) else σ.2.2.2.2 b) j = _
    rw [if_neg hb]
    rfl
  have hf : va_up (h_e Y σ) q (.inl (Y 1, h_n σ a, .inl (h_i σ a))) = h_e Y (h_cl σ q a) := by
    funext b
    by_cases hb : b = q
    · subst hb; rw [va_up_self, h_e_1 (k := 1) (by rw [e1]; simp) (by decide), e2, e3, if_pos rfl, if_pos rfl]
    · rw [va_up_ne _ _ hb]
      exact h_e_ne (by rw [e1, if_neg hb]) (by rw [e2, if_neg hb]) (by rw [e3, if_neg hb]) (e4 b hb).symm
  rw [va_pl_push hq, hf] at hP hD
  refine ⟨hk0, hP, hD, fun b => ?_, fun b hb9 => ?_⟩
  · rw [e1]
    show b ∈ σ.1 ++ [q] ↔ _
    rw [List.mem_append, List.mem_singleton, h.2.2.1 b]
    by_cases hb : b = q
    · simp [hb]
    · simp [hb]
  · rw [e1] at hb9
    by_cases hb : b = q
    · rw [if_pos hb] at hb9; omega
    · rw [if_neg hb] at hb9; exact h.2.2.2 b hb9
end H3
