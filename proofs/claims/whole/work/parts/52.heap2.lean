section H2
variable {X : h_X} {cc : ByteArray} {own : String} {nL pc fr lo bc bs : Nat} {lv : List (Nat × h_P)} {st : List h_P} {σ : h_S}
theorem v_zald (hX : h_ok X cc nL own fr lo) {a : Nat} {i : Int32} (d : decode cc pc = .ok (.baload, 1)) (hk : h_k σ a = 2) (hin : vp_in i (h_n σ a)) (kk : h_V X nL (pc + 1) lv (pI (h_i σ a (h_ix i)) :: st) σ bc bs) : h_V X nL pc lv (pI i :: pR (some a) :: st) σ bc bs := by
  intro ls H locs cells slots a1 a2 a3 a4 a5
  obtain ⟨ha, q0, hq0⟩ := h_pl a2 (a := a) (by omega)
  rw [h_e_1 hk (by decide)] at hq0
  exact va_zald (D := x_D X) hX.1 hX.2.1 hX.2.2.2.2.2.1 a2.1 q0 1 hq0 rfl hin d (kk ls H locs cells slots a1 a2 a3 a4 a5)
theorem h_narB {x : Int32} (h : h_bt x) : vp_nar .boolean x = x := by rcases h with rfl | rfl <;> decide
theorem v_zast (hX : h_ok X cc nL own fr lo) {a : Nat} {i x : Int32} (d : decode cc pc = .ok (.bastore, 1)) (hk : h_k σ a = 2) (hin : vp_in i (h_n σ a)) (hx : h_bt x) (kk : h_V X nL (pc + 1) lv st (h_si σ a (h_ix i) x) bc bs) : h_V X nL pc lv (pI x :: pI i :: pR (some a) :: st) σ bc bs := by
  intro ls H locs cells slots a1 a2 a3 a4 a5
  obtain ⟨ha, q0, hq0⟩ := h_pl a2 (a := a) (by omega)
  have hq1 := hq0
  rw [h_e_1 hk (by decide)] at hq0
  have he : h_e (x_Y X) (h_si σ a (h_ix i) x) a = .inl (x_Y X 2, h_n σ a, .inl (upd (h_i σ a) i.toNatClampNeg x)) := by
    rw [h_e_1 (k := 2) (by rw [h_k_si]; exact hk) (by decide), h_i_si1]
    rfl
  refine va_zast (D := x_D X) hX.1 hX.2.1 hX.2.2.2.2.2.1 a2.1 a2.2.1 a3 q0 1 hq0 rfl hin d (fun H1 locs1 hP hD hS => ?_)
  rw [h_narB hx] at hP hD
  exact kk ls H1 locs1 cells slots a1 (h_setI a2 ha hq1 he hP hD) hS a4 a5
theorem h_tyeq (hX : h_ok X cc nL own fr lo) {cA : ClassId} {ty : FieldType} (k j : Nat) (hj : (h_tys (x_Y X))[j]? = some (x_Y X k, ty)) (hno : ∀ C, ty ≠ .object C) (h : va_K (x_D X) vwCl (h_tys (x_Y X) ++ [(cA, ty)]) (x_s X)) : cA = x_Y X k := by
  have h1 := (h.2 8 (cA, ty) (by simp)).2
  have h2 := (hX.2.2.2.2.2.1.2 j _ hj).2
  cases ty with
  | object C => exact absurd rfl (hno C)
  | _ =>
    have h1 : (x_s X).vm.findClass _ = some cA := h1
    have h2 : (x_s X).vm.findClass _ = some (x_Y X k) := h2
    exact Option.some.inj (h1.symm.trans h2)
theorem v_newI (hX : h_ok X cc nL own fr lo) {n : Int32} (d : decode cc pc = .ok (.newarray .int, 2)) {N : Nat} (hw : Cond.arrayClass .int ∈ h_tb) (hix : h_ix n = N) (hn : ¬ n < 0) (hN : N * 4 ≤ 536870912) (hbc : 1 ≤ bc) (hbs : N ≤ bs) (kk : ∀ q, h_k σ q = 0 → h_V X nL (pc + 2) lv (pR (some q) :: st) (h_nw σ q 1 N) (bc - 1) (bs - N)) : h_V X nL pc lv (pI n :: st) σ bc bs := by
  subst hix
  intro ls H locs cells slots a1 a2 a3 a4 a5
  refine va_newa (D := x_D X) (atype := .int) (ty := .int) (a0 := (h_ix n, .inl (fun _ => 0))) hX.1 hX.2.1 (hX.2.2.2.2.1 _ hw) rfl hX.2.2.2.2.2.1 a2.1 a2.2.1 a3 (fun q h => Nat.le_trans hX.2.2.2.2.2.2.1 h) (fun cA => rfl) hn rfl hN (by omega) (by omega) d (fun q cA H1 hK hP hD hS => ?_)
  have e := h_tyeq hX 1 0 rfl (fun C => by simp) hK
  subst e
  have he : h_e (x_Y X) (h_nw σ q 1 (h_ix n)) q = .inl (x_Y X 1, h_ix n, .inl (fun _ => 0)) := by
    rw [h_e_1 (k := 1) (by rw [h_k_nw]; simp) (by decide), h_n_nw, if_pos rfl]
    refine congrArg (fun f => Sum.inl (x_Y X 1, h_ix n, Sum.inl f)) (funext fun j => ?_)
    rw [h_i_nw, if_pos rfl]
  obtain ⟨h0, hW⟩ := h_nwW a2 (by decide) he hP hD
  exact kk q h0 ls H1 locs (cells + 1) (slots + h_ix n) a1 hW hS (by omega) (by omega)
theorem v_newZ (hX : h_ok X cc nL own fr lo) {n : Int32} (d : decode cc pc = .ok (.newarray .boolean, 2)) {N : Nat} (hw : Cond.arrayClass .boolean ∈ h_tb) (hix : h_ix n = N) (hn : ¬ n < 0) (hN : N * 4 ≤ 536870912) (hbc : 1 ≤ bc) (hbs : N ≤ bs) (kk : ∀ q, h_k σ q = 0 → h_V X nL (pc + 2) lv (pR (some q) :: st) (h_nw σ q 2 N) (bc - 1) (bs - N)) : h_V X nL pc lv (pI n :: st) σ bc bs := by
  subst hix
  have hN : h_ix n * 1 ≤ 536870912 := by omega
  intro ls H locs cells slots a1 a2 a3 a4 a5
  refine va_newa (D := x_D X) (atype := .boolean) (ty := .boolean) (a0 := (h_ix n, .inl (fun _ => 0))) hX.1 hX.2.1 (hX.2.2.2.2.1 _ hw) rfl hX.2.2.2.2.2.1 a2.1 a2.2.1 a3 (fun q h => Nat.le_trans hX.2.2.2.2.2.2.1 h) (fun cA => rfl) hn rfl hN (by omega) (by omega) d (fun q cA H1 hK hP hD hS => ?_)
  have e := h_tyeq hX 2 1 rfl (fun C => by simp) hK
  subst e
  have he : h_e (x_Y X) (h_nw σ q 2 (h_ix n)) q = .inl (x_Y X 2, h_ix n, .inl (fun _ => 0)) := by
    rw [h_e_1 (k := 2) (by rw [h_k_nw]; simp) (by decide), h_n_nw, if_pos rfl]
    refine congrArg (fun f => Sum.inl (x_Y X 2, h_ix n, Sum.inl f)) (funext fun j => ?_)
    rw [h_i_nw, if_pos rfl]
  obtain ⟨h0, hW⟩ := h_nwW a2 (by decide) he hP hD
  exact kk q h0 ls H1 locs (cells + 1) (slots + h_ix n) a1 hW hS (by omega) (by omega)
theorem h_nar {t : FieldType} (h : h_isI t = false) (hr : (∃ n, t = .object n) ∨ ∃ u, t = .array u) (r : Option Nat) : narrow t (va_rf r) = va_rf r ∧ fits t (va_rf r) = true := by
  rcases hr with ⟨n, rfl⟩ | ⟨u, rfl⟩ <;> cases r <;> exact ⟨rfl, rfl⟩
theorem h_setRe {ci k a : Nat} {v : Option Nat} (hk : h_k σ a = 20 + ci) (hlay : (h_lay ci)[k]? = some false) (Y : Nat → ClassId) : h_e Y (h_sr σ a k v) a = .inr (ci, (h_fs (h_lay ci) (h_i σ a) (h_r σ a) 0).set k (va_rf v)) := by
  rw [h_e_3 (by rw [h_k_sr]; exact hk), h_fs_setR hlay, h_r_sr1]
  simp only [Nat.zero_add]
  rfl
theorem h_setIe {ci k a : Nat} {v : Int32} (hk : h_k σ a = 20 + ci) (hlay : (h_lay ci)[k]? = some true) (Y : Nat → ClassId) : h_e Y (h_si σ a k v) a = .inr (ci, (h_fs (h_lay ci) (h_i σ a) (h_r σ a) 0).set k (.int v)) := by
  rw [h_e_3 (by rw [h_k_si]; exact hk), h_fs_setI hlay, h_i_si1]
  simp only [Nat.zero_add]
  rfl
/-- a final field of references, in its constructor -/
theorem v_putFR (hX : h_ok X cc nL own fr lo) {index ci k a : Nat} {t : FieldType} {v : Option Nat} (d : decode cc pc = .ok (.putfield index, 3)) (hF : h_F own index ci k t true) (hL : h_Fo own index ci k) (ht : h_isI t = false) (hr : (∃ n, t = .object n) ∨ ∃ u, t = .array u) (hI : (x_me X).name = "<init>") (hk : h_k σ a = 20 + ci) (kk : h_V X nL (pc + 3) lv st (h_sr σ a k v) bc bs) : h_V X nL pc lv (pR v :: pR (some a) :: st) σ bc bs := by
  intro ls H locs cells slots a1 a2 a3 a4 a5
  obtain ⟨C, T, N, ty, ref, hc, hkN, hlay, hlen, hin, hty, hnm, -, hfin, htk, -⟩ := hF
  obtain ⟨C', T', N', hc', hdc, hl⟩ := hL
  obtain ⟨rfl, rfl, rfl⟩ : C = C' ∧ T = T' ∧ N = N' := by rw [hc] at hc'; simpa using hc'
  obtain ⟨ha, q0, hq0⟩ := h_pl a2 (a := a) (by omega)
  have hq1 := hq0
  rw [h_e_3 hk] at hq0
  rw [ht] at hlay
  have he := h_setRe (v := v) hk hlay (x_Y X)
  have kl : k < (h_fs (h_lay ci) (h_i σ a) (h_r σ a) 0).length := by rw [h_fs_len, hlen]; exact hkN
  have hd := hty k hkN
  rw [htk] at hd
  have hn := h_nar ht hr v
  exact va_putF (D := x_D X) hX.1 hX.2.1 hX.2.2.2.2.1 hin ty hty hnm hX.2.2.2.1 hX.2.2.2.2.2.1 a2.1 a2.2.1 a3 q0 hq0 hc k hkN (hX.2.2.2.2.1 _ hl) (fun x h => by rwa [hdc] at h) hfin hI hdc hd hn.1 hn.2 kl d (fun H1 locs1 hP hD hS => kk ls H1 locs1 cells slots a1 (h_setR a2 ha hq1 he hP hD) hS a4 a5)
/-- a final field of numbers, in its constructor -/
theorem v_putFI (hX : h_ok X cc nL own fr lo) {index ci k a : Nat} {v : Int32} (d : decode cc pc = .ok (.putfield index, 3)) (hF : h_F own index ci k .int true) (hL : h_Fo own index ci k) (hI : (x_me X).name = "<init>") (hk : h_k σ a = 20 + ci) (kk : h_V X nL (pc + 3) lv st (h_si σ a k v) bc bs) : h_V X nL pc lv (pI v :: pR (some a) :: st) σ bc bs := by
  intro ls H locs cells slots a1 a2 a3 a4 a5
  obtain ⟨C, T, N, ty, ref, hc, hkN, hlay, hlen, hin, hty, hnm, -, hfin, htk, -⟩ := hF
  obtain ⟨C', T', N', hc', hdc, hl⟩ := hL
  obtain ⟨rfl, rfl, rfl⟩ : C = C' ∧ T = T' ∧ N = N' := by rw [hc] at hc'; simpa using hc'
  obtain ⟨ha, q0, hq0⟩ := h_pl a2 (a := a) (by omega)
  have hq1 := hq0
  rw [h_e_3 hk] at hq0
  have hlay : (h_lay ci)[k]? = some true := hlay
  have he := h_setIe (v := v) hk hlay (x_Y X)
  have kl : k < (h_fs (h_lay ci) (h_i σ a) (h_r σ a) 0).length := by rw [h_fs_len, hlen]; exact hkN
  have hd := hty k hkN
  rw [htk] at hd
  exact va_putF (D := x_D X) hX.1 hX.2.1 hX.2.2.2.2.1 hin ty hty hnm hX.2.2.2.1 hX.2.2.2.2.2.1 a2.1 a2.2.1 a3 q0 hq0 hc k hkN (hX.2.2.2.2.1 _ hl) (fun x h => by rwa [hdc] at h) hfin hI hdc hd rfl rfl kl d (fun H1 locs1 hP hD hS => kk ls H1 locs1 cells slots a1 (h_setI a2 ha hq1 he hP hD) hS a4 a5)
theorem v_objInit (hX : h_ok X cc nL own fr lo) {index a : Nat} (d : decode cc pc = .ok (.invokespecial index, 3)) (hw : Cond.methodLink own index Lib.objectInit ∈ h_tb) (hst : h_len st + 12 ≤ lo) (hfr : 1 ≤ fr) (kk : h_V X nL (pc + 3) lv st σ bc bs) : h_V X nL pc lv (pR (some a) :: st) σ bc bs := by
  intro ls H locs cells slots a1 a2 a3 a4 a5
  have hts := hX.2.2.2.2.1
  have hs : 2 * (F0 (x_m X) pc ls ((pR (some a) :: st).map h_pv)).monitorRoom + ((st.map h_pv).map fun v => v.category).sum = h_len st := by
    rw [h_len1]
    show 2 * 0 + h_len st = h_len st
    omega
  exact W.objInit hX.1 hX.2.1 hX.2.2.2.1 (hts _ hw) (hts _ oi_instanceMethod) (hts _ oi_code) rfl (by rw [hX.2.2.1]; exact a1.1) rfl d (by rw [hX.2.2.2.2.2.2.2.2.1]; exact hfr) (by rw [hs, hX.2.2.2.2.2.2.2.2.2.1]; exact hst) (kk ls H locs cells slots a1 a2 a3 a4 a5)
theorem h_knw {s : h_S} {a c q kd N : Nat} (h : h_k s a = c) (h0 : h_k s q = 0) (hc : c ≠ 0) : h_k (h_nw s q kd N) a = c := by
  rw [h_k_nw, if_neg (fun e => hc (by rw [← h, e, h0]))]
  exact h
end H2
