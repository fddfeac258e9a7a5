section HH
variable {X : h_X} {cc : ByteArray} {own : String} {nL pc fr lo bc bs : Nat} {lv : List (Nat × h_P)} {st : List h_P} {σ : h_S}
theorem h_pl {D : va_G} {Y : Nat → ClassId} {z : Nat} {H : Heap} {a : Nat} (h : h_W D Y z σ H) (hk : h_k σ a ≠ 0 ∧ h_k σ a ≠ 19) : a ∈ σ.1 ∧ ∃ q : Nat, (va_pl σ.1 (h_e Y σ))[q]? = some (a, h_e Y σ a) := by
  have ha : a ∈ σ.1 := (h.2.2.1 a).mpr hk
  obtain ⟨q, hq⟩ := va_pl_get (X := []) (f := h_e Y σ) ha
  exact ⟨ha, q, hq⟩
theorem h_setI {D : va_G} {Y : Nat → ClassId} {z : Nat} {H H1 : Heap} {a q k : Nat} {e : va_E} {v : Int32} (h : h_W D Y z σ H) (ha : a ∈ σ.1) (hq : (va_pl σ.1 (h_e Y σ))[q]? = some (a, h_e Y σ a)) (he : h_e Y (h_si σ a k v) a = e)
    (hP : va_P D vwCl ((va_pl σ.1 (h_e Y σ)).set q (a, e)) H1) (hD : va_D (h_A z) ((va_pl σ.1 (h_e Y σ)).set q (a, e))) : h_W D Y z (h_si σ a k v) H1 := by
  have hs : (va_pl σ.1 (h_e Y σ)).set q (a, e) = va_pl σ.1 (va_up (h_e Y σ) a e) := va_pl_set (X := []) h.2.1 ha hq
  have hf : va_up (h_e Y σ) a e = h_e Y (h_si σ a k v) := by
    funext b
    by_cases hb : b = a
    · subst hb; rw [va_up_self, he]
    · rw [va_up_ne _ _ hb]; exact h_e_ne (h_k_si σ a k v b).symm (h_n_si σ a k v b).symm (h_i_si2 σ k v hb).symm rfl
  rw [hs, hf] at hP hD
  exact ⟨hP, hD, h.2.2⟩
theorem h_setR {D : va_G} {Y : Nat → ClassId} {z : Nat} {H H1 : Heap} {a q k : Nat} {e : va_E} {v : Option Nat} (h : h_W D Y z σ H) (ha : a ∈ σ.1) (hq : (va_pl σ.1 (h_e Y σ))[q]? = some (a, h_e Y σ a)) (he : h_e Y (h_sr σ a k v) a = e)
    (hP : va_P D vwCl ((va_pl σ.1 (h_e Y σ)).set q (a, e)) H1) (hD : va_D (h_A z) ((va_pl σ.1 (h_e Y σ)).set q (a, e))) : h_W D Y z (h_sr σ a k v) H1 := by
  have hs : (va_pl σ.1 (h_e Y σ)).set q (a, e) = va_pl σ.1 (va_up (h_e Y σ) a e) := va_pl_set (X := []) h.2.1 ha hq
  have hf : va_up (h_e Y σ) a e = h_e Y (h_sr σ a k v) := by
    funext b
    by_cases hb : b = a
    · subst hb; rw [va_up_self, he]
    · rw [va_up_ne _ _ hb]; exact h_e_ne (h_k_sr σ a k v b).symm (h_n_sr σ a k v b).symm rfl (h_r_sr2 σ k v hb).symm
  rw [hs, hf] at hP hD
  exact ⟨hP, hD, h.2.2⟩
theorem h_nwW {D : va_G} {Y : Nat → ClassId} {z : Nat} {H H1 : Heap} {q kind len : Nat} {e : va_E} (h : h_W D Y z σ H) (hkind : kind ≠ 0 ∧ kind ≠ 19) (he : h_e Y (h_nw σ q kind len) q = e)
    (hP : va_P D vwCl (va_pl σ.1 (h_e Y σ) ++ [(q, e)]) H1) (hD : va_D (h_A z) (va_pl σ.1 (h_e Y σ) ++ [(q, e)])) : h_k σ q = 0 ∧ h_W D Y z (h_nw σ q kind len) H1 := by
  have hq : q ∉ σ.1 := by
    intro hq
    obtain ⟨i, hi⟩ := va_pl_get (X := []) (f := h_e Y σ) hq
    have hi' : (va_pl σ.1 (h_e Y σ))[i]? = some (q, h_e Y σ q) := hi
    have hl := (List.getElem?_eq_some_iff.mp hi').1
    have h1 : (va_pl σ.1 (h_e Y σ) ++ [(q, e)])[i]? = some (q, h_e Y σ q) := by rw [List.getElem?_append_left hl]; exact hi'
    have h2 : (va_pl σ.1 (h_e Y σ) ++ [(q, e)])[(va_pl σ.1 (h_e Y σ)).length]? = some (q, e) := by rw [List.getElem?_append_right (Nat.le_refl _), Nat.sub_self]; rfl
    have := hD.1 _ _ _ _ h1 h2 rfl
    omega
  have hzq : z ≤ q := hD.2 (va_pl σ.1 (h_e Y σ)).length (q, e) (by rw [List.getElem?_append_right (Nat.le_refl _), Nat.sub_self]; rfl)
  have hk0 : h_k σ q = 0 := by
    by_cases h0 : h_k σ q = 0
    · exact h0
    · exact absurd ((h.2.2.1 q).mpr ⟨h0, fun h9 => absurd (h.2.2.2 q h9) (by omega)⟩) hq
  have hf : va_up (h_e Y σ) q e = h_e Y (h_nw σ q kind len) := by
    funext b
    by_cases hb : b = q
    · subst hb; rw [va_up_self, he]
    · rw [va_up_ne _ _ hb]
      refine h_e_ne ?_ ?_ ?_ ?_
      · rw [h_k_nw, if_neg hb]
      · rw [h_n_nw, if_neg hb]
      · funext j; rw [h_i_nw, if_neg hb]
      · funext j; rw [h_r_nw, if_neg hb]
  rw [va_pl_push hq, hf] at hP hD
  refine ⟨hk0, hP, hD, fun b => ?_, fun b hb9 => ?_⟩
  · rw [h_k_nw]
    show b ∈ σ.1 ++ [q] ↔ _
    rw [List.mem_append, List.mem_singleton, h.2.2.1 b]
    by_cases hb : b = q
    · simp [hb, hkind.1, hkind.2]
    · simp [hb]
  · rw [h_k_nw] at hb9
    by_cases hb : b = q
    · rw [if_pos hb] at hb9; exact absurd hb9 hkind.2
    · rw [if_neg hb] at hb9; exact h.2.2.2 b hb9
theorem v_getI (hX : h_ok X cc nL own fr lo) {index ci k a : Nat} {t : FieldType} {fin : Bool} (d : decode cc pc = .ok (.getfield index, 3)) (hF : h_F own index ci k t fin) (ht : h_isI t = true) (hk : h_k σ a = 20 + ci) (kk : h_V X nL (pc + 3) lv (pI (h_i σ a k) :: st) σ bc bs) : h_V X nL pc lv (pR (some a) :: st) σ bc bs := by
  intro ls H locs cells slots a1 a2 a3 a4 a5
  obtain ⟨C, T, N, ty, ref, hc, hkN, hlay, hlen, hin, hty, hnm, hT1, hfin, htk, hlink⟩ := hF
  have hsm := hT1 _ _ hX.2.2.2.2.1
  obtain ⟨ha, q0, hq0⟩ := h_pl a2 (a := a) (by omega)
  rw [h_e_3 hk] at hq0
  rw [ht] at hlay
  have hv : (h_fs (h_lay ci) (h_i σ a) (h_r σ a) 0)[k]? = some (.int (h_i σ a k)) := by simpa using h_fs_get (i := h_i σ a) (r := h_r σ a) (k := 0) hlay
  have k2 := kk ls H locs cells slots a1 a2 a3 a4 a5
  rcases hlink with hl | ⟨host, hl⟩
  · exact va_get (D := x_D X) hX.1 hX.2.1 hX.2.2.2.2.1 hin hX.2.2.2.1 hX.2.2.2.2.2.1 a2.1 q0 hq0 hc k hkN (hX.2.2.2.2.1 _ hl) hsm hv d k2
  · exact va_getN (D := x_D X) hX.1 hX.2.1 hX.2.2.2.2.1 hin hX.2.2.2.1 hX.2.2.2.2.2.1 a2.1 q0 hq0 hc k hkN (va_Nw.use rfl (hX.2.2.2.2.2.2.2.2.2.2.1 _ hl rfl)) hsm hv d k2
theorem v_getR (hX : h_ok X cc nL own fr lo) {index ci k a : Nat} {t : FieldType} {fin : Bool} (d : decode cc pc = .ok (.getfield index, 3)) (hF : h_F own index ci k t fin) (ht : h_isI t = false) (hk : h_k σ a = 20 + ci) (kk : h_V X nL (pc + 3) lv (pR (h_r σ a k) :: st) σ bc bs) : h_V X nL pc lv (pR (some a) :: st) σ bc bs := by
  intro ls H locs cells slots a1 a2 a3 a4 a5
  obtain ⟨C, T, N, ty, ref, hc, hkN, hlay, hlen, hin, hty, hnm, hT1, hfin, htk, hlink⟩ := hF
  have hsm := hT1 _ _ hX.2.2.2.2.1
  obtain ⟨ha, q0, hq0⟩ := h_pl a2 (a := a) (by omega)
  rw [h_e_3 hk] at hq0
  rw [ht] at hlay
  have hv : (h_fs (h_lay ci) (h_i σ a) (h_r σ a) 0)[k]? = some (va_rf (h_r σ a k)) := by simpa using h_fs_get (i := h_i σ a) (r := h_r σ a) (k := 0) hlay
  have k2 := kk ls H locs cells slots a1 a2 a3 a4 a5
  rcases hlink with hl | ⟨host, hl⟩
  · exact va_get (D := x_D X) hX.1 hX.2.1 hX.2.2.2.2.1 hin hX.2.2.2.1 hX.2.2.2.2.2.1 a2.1 q0 hq0 hc k hkN (hX.2.2.2.2.1 _ hl) hsm hv d k2
  · exact va_getN (D := x_D X) hX.1 hX.2.1 hX.2.2.2.2.1 hin hX.2.2.2.1 hX.2.2.2.2.2.1 a2.1 q0 hq0 hc k hkN (va_Nw.use rfl (hX.2.2.2.2.2.2.2.2.2.2.1 _ hl rfl)) hsm hv d k2
theorem v_putI (hX : h_ok X cc nL own fr lo) {index ci k a : Nat} {v : Int32} (d : decode cc pc = .ok (.putfield index, 3)) (hF : h_F own index ci k .int false) (hk : h_k σ a = 20 + ci) (kk : h_V X nL (pc + 3) lv st (h_si σ a k v) bc bs) : h_V X nL pc lv (pI v :: pR (some a) :: st) σ bc bs := by
  intro ls H locs cells slots a1 a2 a3 a4 a5
  obtain ⟨C, T, N, ty, ref, hc, hkN, hlay, hlen, hin, hty, hnm, hT1, hfin, htk, hlink⟩ := hF
  have hsm := hT1 _ _ hX.2.2.2.2.1
  obtain ⟨ha, q0, hq0⟩ := h_pl a2 (a := a) (by omega)
  have hq1 := hq0
  rw [h_e_3 hk] at hq0
  have hlay : (h_lay ci)[k]? = some true := hlay
  have he : h_e (x_Y X) (h_si σ a k v) a = .inr (ci, (h_fs (h_lay ci) (h_i σ a) (h_r σ a) 0).set k (.int v)) := by
    rw [h_e_3 (by rw [h_k_si]; exact hk), h_fs_setI hlay, h_i_si1]
    simp only [Nat.zero_add]
    rfl
  have kl : k < (h_fs (h_lay ci) (h_i σ a) (h_r σ a) 0).length := by rw [h_fs_len, hlen]; exact hkN
  have k2 : ∀ (H1 : Heap) (locs1 : List Loc), va_P (x_D X) vwCl ((va_pl σ.1 (h_e (x_Y X) σ)).set q0 (a, .inr (ci, (h_fs (h_lay ci) (h_i σ a) (h_r σ a) 0).set k (.int v)))) H1 → va_D (h_A (x_z X)) ((va_pl σ.1 (h_e (x_Y X) σ)).set q0 (a, .inr (ci, (h_fs (h_lay ci) (h_i σ a) (h_r σ a) 0).set k (.int v)))) → va_S (h_A (x_z X)) (x_H X) H1 locs1 → _ := fun H1 locs1 hP hD hS => kk ls H1 locs1 cells slots a1 (h_setI a2 ha hq1 he hP hD) hS a4 a5
  have hd := hty k hkN
  rw [htk] at hd
  rcases hlink with hl | ⟨host, hl⟩
  · exact va_put (D := x_D X) hX.1 hX.2.1 hX.2.2.2.2.1 hin ty hty hnm hX.2.2.2.1 hX.2.2.2.2.2.1 a2.1 a2.2.1 a3 q0 hq0 hc k hkN (hX.2.2.2.2.1 _ hl) hsm hfin hd rfl rfl kl d k2
  · exact va_putN (D := x_D X) hX.1 hX.2.1 hX.2.2.2.2.1 hin ty hty hnm hX.2.2.2.1 hX.2.2.2.2.2.1 a2.1 a2.2.1 a3 q0 hq0 hc k hkN (va_Nw.use rfl (hX.2.2.2.2.2.2.2.2.2.2.1 _ hl rfl)) hsm hfin hd rfl rfl kl d k2
theorem v_iald (hX : h_ok X cc nL own fr lo) {a : Nat} {i : Int32} (d : decode cc pc = .ok (.iaload, 1)) (hk : h_k σ a = 1) (hin : vp_in i (h_n σ a)) (kk : h_V X nL (pc + 1) lv (pI (h_i σ a (h_ix i)) :: st) σ bc bs) : h_V X nL pc lv (pI i :: pR (some a) :: st) σ bc bs := by
  intro ls H locs cells slots a1 a2 a3 a4 a5
  obtain ⟨ha, q0, hq0⟩ := h_pl a2 (a := a) (by omega)
  rw [h_e_1 hk (by decide)] at hq0
  exact va_iald (D := x_D X) hX.1 hX.2.1 hX.2.2.2.2.2.1 a2.1 q0 0 hq0 rfl hin d (kk ls H locs cells slots a1 a2 a3 a4 a5)
theorem v_iast (hX : h_ok X cc nL own fr lo) {a : Nat} {i x : Int32} (d : decode cc pc = .ok (.iastore, 1)) (hk : h_k σ a = 1) (hin : vp_in i (h_n σ a)) (kk : h_V X nL (pc + 1) lv st (h_si σ a (h_ix i) x) bc bs) : h_V X nL pc lv (pI x :: pI i :: pR (some a) :: st) σ bc bs := by
  intro ls H locs cells slots a1 a2 a3 a4 a5
  obtain ⟨ha, q0, hq0⟩ := h_pl a2 (a := a) (by omega)
  have hq1 := hq0
  rw [h_e_1 hk (by decide)] at hq0
  have he : h_e (x_Y X) (h_si σ a (h_ix i) x) a = .inl (x_Y X 1, h_n σ a, .inl (upd (h_i σ a) i.toNatClampNeg x)) := by
    rw [h_e_1 (k := 1) (by rw [h_k_si]; exact hk) (by decide), h_i_si1]
    rfl
  exact va_iast (D := x_D X) hX.1 hX.2.1 hX.2.2.2.2.2.1 a2.1 a2.2.1 a3 q0 0 hq0 rfl hin d (fun H1 locs1 hP hD hS => kk ls H1 locs1 cells slots a1 (h_setI a2 ha hq1 he hP hD) hS a4 a5)
theorem v_alen (hX : h_ok X cc nL own fr lo) {a : Nat} (d : decode cc pc = .ok (.arraylength, 1)) (hk : h_k σ a = 1) (kk : h_V X nL (pc + 1) lv (pI (Int32.ofNat (h_n σ a)) :: st) σ bc bs) : h_V X nL pc lv (pR (some a) :: st) σ bc bs := by
  intro ls H locs cells slots a1 a2 a3 a4 a5
  obtain ⟨ha, q0, hq0⟩ := h_pl a2 (a := a) (by omega)
  rw [h_e_1 hk (by decide)] at hq0
  exact va_alen (D := x_D X) hX.1 hX.2.1 hX.2.2.2.2.2.1 a2.1 q0 0 hq0 (ty := .int) rfl rfl d (kk ls H locs cells slots a1 a2 a3 a4 a5)
/-! contracts and calls -/
abbrev h_ws (y : MethodName) (cc : ByteArray) (n : Nat) (ret : Option FieldType) : List Cond := Cond.code y cc n ret :: h_tb
def h_B (D : va_G) (Y : Nat → ClassId) (z : Nat) (σ : h_S) (t : State) : Prop := h_W D Y z σ t.heap ∧ va_K D vwCl (h_tys Y) t ∧ z ≤ t.heap.size
abbrev h_Z : Type := Launch × va_G × (Nat → ClassId) × Nat × h_G
abbrev h_Bz (Z : h_Z) (σ : h_S) (t : State) : Prop := h_B Z.2.1 Z.2.2.1 Z.2.2.2.1 σ t
def h_Bp (Z : h_Z) (σ : h_S) (t : State) : Prop := h_Bz Z σ t ∧ h_N t ∧ h_O Z.2.2.2.1 Z.2.2.2.2 t
/-- y's contract at the arguments av and the state σ, with mc cells and ms slots to spend: it returns, and Qc says what -/
def h_M (Z : h_Z) (y : MethodName) (cc : ByteArray) (n : Nat) (ret : Option FieldType) (fr lo : Nat) (av : List h_P) (σ : h_S) (mc ms : Nat) (Qc : Array Value → State → Outcome → State → Prop) : Prop :=
  Met Z.1 y (h_ws y cc n ret) ({ frames := fr, cells := mc, slots := ms, locals := lo }) (va_Pc (av.map h_pv) (h_Bp Z σ)) Qc mc ms (h_A Z.2.2.2.1)
abbrev h_QI (Z : h_Z) (Q : Int32 → h_S → Prop) := va_Qi Q (h_Bz Z) (h_A Z.2.2.2.1)
abbrev h_QL (Z : h_Z) (Q : Int64 → h_S → Prop) := va_Ql Q (h_Bz Z) (h_A Z.2.2.2.1)
abbrev h_QV (Z : h_Z) (Q : h_S → Prop) := va_Qv Q (h_Bz Z) (h_A Z.2.2.2.1)
abbrev h_QR (Z : h_Z) (Q : Option Nat → h_S → Prop) := va_Qq Q (h_Bz Z) (h_A Z.2.2.2.1)
abbrev x_Z (X : h_X) : h_Z := (x_l X, x_D X, x_Y X, x_z X, x_G X)
/-- what X's end is -/
def h_end (X : h_X) (ret : Option FieldType) (Qc : Array Value → State → Outcome → State → Prop) : Prop := x_Q X = MQ (x_b X) Qc (x_a X) (x_s X) (x_R X).cells (x_R X).slots (h_A (x_z X)) ∧ (x_me X).sig.returnType = ret ∧ x_H X = (x_s X).heap
theorem h_goodIn {y : MethodName} {cc : ByteArray} {n : Nat} {ret : Option FieldType} (h : Cond.code y cc n ret ∈ h_tb) : GoodIn h_tb (h_ws y cc n ret) := by
  intro w hw
  have hm : w ∈ h_tb := by
    rcases List.mem_cons.mp hw with rfl | hw
    · exact h
    · exact hw
  exact ⟨hm, good_of_word (List.mem_filter.mp hm).2⟩
theorem h_M.of {Z : h_Z} {y : MethodName} {cc : ByteArray} {n : Nat} {ret : Option FieldType} {fr lo : Nat} {av : List h_P} {σ : h_S} {mc ms : Nat} {Qc : Array Value → State → Outcome → State → Prop} (hy : plainName y.cls = true) (hn : h_len av ≤ n)
    (h : ∀ X : h_X, x_Z X = Z → h_ok X cc n y.cls fr lo → h_end X ret Qc → (y.name = (x_me X).name) → h_V X n 0 (h_args 0 av) [] σ mc ms) : h_M Z y cc n ret fr lo av σ mc ms Qc := by
  unfold h_M
  refine Met.ofW (cc := cc) (maxL := n) (ret := ret) hy rfl ?_
  intro p e s m args below meth c s₁ B hml hv
  obtain ⟨rfl, ⟨hW, hK, hz⟩, hN, hO⟩ := hv
  have hts : ∀ w ∈ h_tb, w.before (av.map h_pv).toArray s = true := fun w hw => atoms_spec (ws := h_ws y cc n ret) B.pre w (List.mem_cons_of_mem _ hw)
  have hown : s.vm.findClass y.cls = some m.cls := findClass_of_methodNamed B.named
  have hl := lv_entry (av.map h_pv) (n := n) (by rw [h_len_eq]; exact hn)
  rw [lg_entry_eq]
  rw [h_args_eq] at hl
  have hin : meth.name = y.name := (name_of_methodNamed B.named B.method).1
  have k := h (p, Z.1, e, (headSpec (h_ws y cc n ret) ({ frames := fr, cells := mc, slots := ms, locals := lo })).room, s, m, (av.map h_pv).toArray, below, meth, c, Z.2.1, Z.2.2.1, Z.2.2.2.1, s.heap, MQ below Qc (av.map h_pv).toArray s mc ms (h_A Z.2.2.2.1), Z.2.2.2.2) rfl ⟨B.exec, B.bytes, hml, hown, hts, hK, hz, B.notSynchronized, rfl, rfl, hN, rfl, hO⟩ ⟨rfl, B.returns, rfl⟩ hin.symm
  exact k _ _ [] 0 0 hl hW va_S.rf (Nat.zero_add _) (Nat.zero_add _)
theorem h_blind (Z : h_Z) (av : List Value) (σ : h_S) : FrameBlind (va_Pc av (h_Bp Z σ)) := by
  intro a U g mk q
  obtain ⟨q0, ⟨qW, qK, qz⟩, qN, qO⟩ := q
  exact ⟨q0, ⟨qW, va_K.moved (u := U) (U := U.calling g mk a) (Vm.Alike.refl U.vm) qK, qz⟩, h_N.same (s := U) (U := U.calling g mk a) rfl qN, h_O.move (u := U) (U := U.calling g mk a) (Vm.Alike.refl U.vm) (fun _ _ _ => rfl) qO⟩
theorem h_pre (hX : h_ok X cc nL own fr lo) {H : Heap} {locs : List Loc} (a2 : h_W (x_D X) (x_Y X) (x_z X) σ H) (a3 : va_S (h_A (x_z X)) (x_H X) H locs) (U : State) (hU : U.heap = H) (hW : (x_s X).WarmedH U.vm) : h_Bz (x_Z X) σ U :=
  ⟨by rw [hU]; exact a2, va_K.moved hW.alike hX.2.2.2.2.2.1, by rw [hU]; exact Nat.le_trans hX.2.2.2.2.2.2.1 a3.1⟩
theorem h_preN (hX : h_ok X cc nL own fr lo) {H : Heap} {locs : List Loc} (a2 : h_W (x_D X) (x_Y X) (x_z X) σ H) (a3 : va_S (h_A (x_z X)) (x_H X) H locs) (U : State) (hU : U.heap = H) (hW : (x_s X).WarmedH U.vm) : h_Bp (x_Z X) σ U :=
  ⟨h_pre hX a2 a3 U hU hW, h_N.warm hW hX.2.2.2.2.2.2.2.2.2.2.1, h_O.move hW.alike (fun q h1 h2 => by rw [hU]; rw [hX.2.2.2.2.2.2.2.2.2.2.2.1] at a3; exact a3.2.1 q h1 h2) hX.2.2.2.2.2.2.2.2.2.2.2.2⟩
theorem h_len1 (st : List h_P) : ((st.map h_pv).map fun v => v.category).sum = h_len st := by
  induction st with
  | nil => rfl
  | cons v st ih =>
    simp only [List.map_cons, List.sum_cons, h_len, ih, h_cat]
theorem h_run (hX : h_ok X cc nL own fr lo) {index : Nat} {y : MethodName} {cc' : ByteArray} {n' : Nat} {ret : Option FieldType} {np fr' lo' : Nat} (hC : h_C own index y cc' n' ret np) (hV : h_CV y) {ci a : Nat} {T : u_T} {N : Nat} (hci : vwCl[ci]? = some (y.cls, T, N)) (hk : h_k σ a = 20 + ci) {As : List h_P} (hn : As.length = np) (hst : h_len st ≤ 8) (hfr : fr' + 1 ≤ fr) (hlo : 8 + (n' + 11) + lo' ≤ lo) {mc ms : Nat}
    {Qc : Array Value → State → Outcome → State → Prop} (hM : h_M (x_Z X) y cc' n' ret fr' lo' (pR (some a) :: As) σ mc ms Qc) (d : decode cc pc = .ok (.invokevirtual index, 3)) {ls : Array Slot} {H : Heap} {locs : List Loc} {cells slots : Nat} (a1 : ls.size = nL) (a2 : h_W (x_D X) (x_Y X) (x_z X) σ H) (a3 : va_S (h_A (x_z X)) (x_H X) H locs) (a4 : cells + mc ≤ (x_R X).cells) (a5 : slots + ms ≤ (x_R X).slots) :
    va_Run (x_p X) (x_l X) (x_e X) (x_R X) (x_s X) (x_m X) (x_a X) (x_b X) (x_me X) (x_c X) H locs cells slots mc ms (F0 (x_m X) pc ls ((As.reverse ++ pR (some a) :: st).map h_pv)) (st.map h_pv) (Qc (Value.ref a :: As.map h_pv).toArray) (h_A (x_z X)) := by
  have hts := hX.2.2.2.2.1
  obtain ⟨ha, q0, hq0⟩ := h_pl a2 (a := a) (by omega)
  rw [h_e_3 hk] at hq0
  have hR : fr' + 1 ≤ (x_R X).frames ∧ 8 + (n' + 11) + lo' ≤ (x_R X).locals := by rw [hX.2.2.2.2.2.2.2.2.1, hX.2.2.2.2.2.2.2.2.2.1]; exact ⟨hfr, hlo⟩
  have hd := (⟨hC.2.2.1.1, hC.2.2.1.2, hC.2.2.2.1⟩ : y.cls ≠ "java/lang/invoke/MethodHandle" ∧ y.cls ≠ "java/lang/invoke/VarHandle" ∧ (parseMethodDescriptor y.desc).map (fun d => d.parameters.length) = some np)
  have hp : PreV (x_s X) H y.cls a (va_Pc ((pR (some a) :: As).map h_pv) (h_Bp (x_Z X) σ)) (As.map h_pv) := ⟨h_blind _ _ _, va_recv hX.2.2.2.2.2.1 a2.1 hci hq0, fun U hU hW => ⟨rfl, h_preN hX a2 a3 U hU hW⟩⟩
  have hs : (F0 (x_m X) pc ls ((As.reverse ++ pR (some a) :: st).map h_pv)).stack = (As.map h_pv).reverse ++ .ref a :: st.map h_pv := by
    show (As.reverse ++ pR (some a) :: st).map h_pv = _
    rw [List.map_append, List.map_reverse]; rfl
  have hW : 2 * (F0 (x_m X) pc ls ((As.reverse ++ pR (some a) :: st).map h_pv)).monitorRoom + ((st.map h_pv).map fun v => v.category).sum ≤ 8 := lv_room (by rw [h_len1]; exact hst)
  rcases hC.2.2.2.2 with hl | ⟨host, hl⟩
  · exact va_runV (n := np) ⟨hX.1, hX.2.1, hX.2.2.1, hX.2.2.2.1, hts⟩ hM ⟨callB_of np hts (h_goodIn hC.1) rfl rfl rfl (hts _ hC.2.1) (hts _ hl) hd hR, hts _ hV.1, hts _ hV.2⟩ hp rfl (by rw [List.length_map]; exact hn) a1 hs hW d ⟨a4, a5⟩
  · exact va_runVN (n := np) ⟨hX.1, hX.2.1, hX.2.2.1, hX.2.2.2.1, hts⟩ hM ⟨va_cnB np hts (h_goodIn hC.1) rfl rfl rfl (hX.2.2.2.2.2.2.2.2.2.2.1 _ hl rfl) (hts _ hC.2.1) hd hR, hts _ hV.1, hts _ hV.2⟩ hp rfl (by rw [List.length_map]; exact hn) a1 hs hW d ⟨a4, a5⟩
theorem h_runS (hX : h_ok X cc nL own fr lo) {index : Nat} {y : MethodName} {cc' : ByteArray} {n' : Nat} {ret : Option FieldType} {np fr' lo' : Nat} (hC : h_C own index y cc' n' ret np) (hV : h_CS y) {As : List h_P} (hn : As.length = np) (hst : h_len st ≤ 8) (hfr : fr' + 1 ≤ fr) (hlo : 8 + (n' + 11) + lo' ≤ lo) {mc ms : Nat}
    {Qc : Array Value → State → Outcome → State → Prop} (hM : h_M (x_Z X) y cc' n' ret fr' lo' As σ mc ms Qc) (d : decode cc pc = .ok (.invokestatic index, 3)) {ls : Array Slot} {H : Heap} {locs : List Loc} {cells slots : Nat} (a1 : ls.size = nL) (a2 : h_W (x_D X) (x_Y X) (x_z X) σ H) (a3 : va_S (h_A (x_z X)) (x_H X) H locs) (a4 : cells + mc ≤ (x_R X).cells) (a5 : slots + ms ≤ (x_R X).slots) :
    va_Run (x_p X) (x_l X) (x_e X) (x_R X) (x_s X) (x_m X) (x_a X) (x_b X) (x_me X) (x_c X) H locs cells slots mc ms (F0 (x_m X) pc ls ((As.reverse ++ st).map h_pv)) (st.map h_pv) (Qc (As.map h_pv).toArray) (h_A (x_z X)) := by
  have hts := hX.2.2.2.2.1
  have hR : fr' + 1 ≤ (x_R X).frames ∧ 8 + (n' + 11) + lo' ≤ (x_R X).locals := by rw [hX.2.2.2.2.2.2.2.2.1, hX.2.2.2.2.2.2.2.2.2.1]; exact ⟨hfr, hlo⟩
  have hd := (⟨hC.2.2.1.1, hC.2.2.1.2, hC.2.2.2.1⟩ : y.cls ≠ "java/lang/invoke/MethodHandle" ∧ y.cls ≠ "java/lang/invoke/VarHandle" ∧ (parseMethodDescriptor y.desc).map (fun d => d.parameters.length) = some np)
  have hp : PreS (x_s X) H (va_Pc (As.map h_pv) (h_Bp (x_Z X) σ)) (As.map h_pv) := ⟨h_blind _ _ _, fun U hU hW => ⟨rfl, h_preN hX a2 a3 U hU hW⟩⟩
  have hs : (F0 (x_m X) pc ls ((As.reverse ++ st).map h_pv)).stack = (As.map h_pv).reverse ++ st.map h_pv := by
    show (As.reverse ++ st).map h_pv = _
    rw [List.map_append, List.map_reverse]
  have hW : 2 * (F0 (x_m X) pc ls ((As.reverse ++ st).map h_pv)).monitorRoom + ((st.map h_pv).map fun v => v.category).sum ≤ 8 := lv_room (by rw [h_len1]; exact hst)
  rcases hC.2.2.2.2 with hl | ⟨host, hl⟩
  · exact va_runS (n := np) ⟨hX.1, hX.2.1, hX.2.2.1, hX.2.2.2.1, hts⟩ hM ⟨callB_of np hts (h_goodIn hC.1) rfl rfl rfl (hts _ hC.2.1) (hts _ hl) hd hR, hts _ hV⟩ hp rfl (by rw [List.length_map]; exact hn) a1 hs hW d ⟨a4, a5⟩
  · exact va_runSN (n := np) ⟨hX.1, hX.2.1, hX.2.2.1, hX.2.2.2.1, hts⟩ hM ⟨va_cnB np hts (h_goodIn hC.1) rfl rfl rfl (hX.2.2.2.2.2.2.2.2.2.2.1 _ hl rfl) (hts _ hC.2.1) hd hR, hts _ hV, trivial⟩ hp rfl (by rw [List.length_map]; exact hn) a1 hs hW d ⟨a4, a5⟩
theorem h_runI (hX : h_ok X cc nL own fr lo) {index : Nat} {y : MethodName} {cc' : ByteArray} {n' np fr' lo' : Nat} (hC : h_C own index y cc' n' none np) (hV : h_CI y) {a : Nat} {As : List h_P} (hn : As.length = np) (hst : h_len st ≤ 8) (hfr : fr' + 1 ≤ fr) (hlo : 8 + (n' + 11) + lo' ≤ lo) {mc ms : Nat}
    {Qc : Array Value → State → Outcome → State → Prop} (hM : h_M (x_Z X) y cc' n' none fr' lo' (pR (some a) :: As) σ mc ms Qc) (d : decode cc pc = .ok (.invokespecial index, 3)) {ls : Array Slot} {H : Heap} {locs : List Loc} {cells slots : Nat} (a1 : ls.size = nL) (a2 : h_W (x_D X) (x_Y X) (x_z X) σ H) (a3 : va_S (h_A (x_z X)) (x_H X) H locs) (a4 : cells + mc ≤ (x_R X).cells) (a5 : slots + ms ≤ (x_R X).slots) :
    va_Run (x_p X) (x_l X) (x_e X) (x_R X) (x_s X) (x_m X) (x_a X) (x_b X) (x_me X) (x_c X) H locs cells slots mc ms (F0 (x_m X) pc ls ((As.reverse ++ pR (some a) :: st).map h_pv)) (st.map h_pv) (Qc (Value.ref a :: As.map h_pv).toArray) (h_A (x_z X)) := by
  have hts := hX.2.2.2.2.1
  have hR : fr' + 1 ≤ (x_R X).frames ∧ 8 + (n' + 11) + lo' ≤ (x_R X).locals := by rw [hX.2.2.2.2.2.2.2.2.1, hX.2.2.2.2.2.2.2.2.2.1]; exact ⟨hfr, hlo⟩
  have hd := (⟨hC.2.2.1.1, hC.2.2.1.2, hC.2.2.2.1⟩ : y.cls ≠ "java/lang/invoke/MethodHandle" ∧ y.cls ≠ "java/lang/invoke/VarHandle" ∧ (parseMethodDescriptor y.desc).map (fun d => d.parameters.length) = some np)
  have hp : PreS (x_s X) H (va_Pc ((pR (some a) :: As).map h_pv) (h_Bp (x_Z X) σ)) (.ref a :: As.map h_pv) := ⟨h_blind _ _ _, fun U hU hW => ⟨rfl, h_preN hX a2 a3 U hU hW⟩⟩
  have hs : (F0 (x_m X) pc ls ((As.reverse ++ pR (some a) :: st).map h_pv)).stack = (As.map h_pv).reverse ++ .ref a :: st.map h_pv := by
    show (As.reverse ++ pR (some a) :: st).map h_pv = _
    rw [List.map_append, List.map_reverse]; rfl
  have hW : 2 * (F0 (x_m X) pc ls ((As.reverse ++ pR (some a) :: st).map h_pv)).monitorRoom + ((st.map h_pv).map fun v => v.category).sum ≤ 8 := lv_room (by rw [h_len1]; exact hst)
  rcases hC.2.2.2.2 with hl | ⟨host, hl⟩
  · exact va_runI (n := np) ⟨hX.1, hX.2.1, hX.2.2.1, hX.2.2.2.1, hts⟩ hM ⟨callB_of np hts (h_goodIn hC.1) rfl rfl rfl (hts _ hC.2.1) (hts _ hl) hd hR, hV.1, hts _ hV.2⟩ hp rfl (by rw [List.length_map]; exact hn) a1 hs hW d ⟨a4, a5⟩
  · exact va_runIN (n := np) ⟨hX.1, hX.2.1, hX.2.2.1, hX.2.2.2.1, hts⟩ hM ⟨va_cnB np hts (h_goodIn hC.1) rfl rfl rfl (hX.2.2.2.2.2.2.2.2.2.2.1 _ hl rfl) (hts _ hC.2.1) hd hR, hV.1, hts _ hV.2⟩ hp rfl (by rw [List.length_map]; exact hn) a1 hs hW d ⟨a4, a5⟩

theorem v_callVi (hX : h_ok X cc nL own fr lo) {index : Nat} {y : MethodName} {cc' : ByteArray} {n' : Nat} {ret : Option FieldType} {np fr' lo' : Nat} (d : decode cc pc = .ok (.invokevirtual index, 3)) (hC : h_C own index y cc' n' ret np) (hV : h_CV y) {ci a : Nat} {T : u_T} {N : Nat} (hci : vwCl[ci]? = some (y.cls, T, N)) (hk : h_k σ a = 20 + ci) (As : List h_P) {S0 : List h_P} (hs : S0 = As.reverse ++ pR (some a) :: st) (hn : As.length = np) (hst : h_len st ≤ 8) (hfr : fr' + 1 ≤ fr) (hlo : 8 + (n' + 11) + lo' ≤ lo) {mc ms : Nat} (hmc : mc ≤ bc) (hms : ms ≤ bs) {Q1 : Int32 → h_S → Prop}
    (hM : h_M (x_Z X) y cc' n' ret fr' lo' (pR (some a) :: As) σ mc ms (h_QI (x_Z X) Q1)) (kk : ∀ (r : Int32) (σ1 : h_S), Q1 r σ1 → h_V X nL (pc + 3) lv (pI r :: st) σ1 (bc - mc) (bs - ms)) : h_V X nL pc lv S0 σ bc bs := by
  subst hs
  intro ls H locs cells slots a1 a2 a3 a4 a5
  refine va_calli (h_run hX hC hV hci hk hn hst hfr hlo hM d a1.1 a2 a3 (by omega) (by omega)) a3 (fun q _ h => h) (fun q h => h) (fun r u t H1 locs1 ht hvm hw hB hz1 hk1 hS => ?_)
  obtain ⟨hB, hK, hz⟩ := hB
  rw [ht] at hB
  exact kk r u hw ls H1 locs1 (cells + mc) (slots + ms) a1 hB hS (by omega) (by omega)
theorem v_callVi0 (hX : h_ok X cc nL own fr lo) {index : Nat} {y : MethodName} {cc' : ByteArray} {n' : Nat} {ret : Option FieldType} {np fr' lo' : Nat} (d : decode cc pc = .ok (.invokevirtual index, 3)) (hC : h_C own index y cc' n' ret np) (hV : h_CV y) {ci a : Nat} {T : u_T} {N : Nat} (hci : vwCl[ci]? = some (y.cls, T, N)) (hk : h_k σ a = 20 + ci) (As : List h_P) {S0 : List h_P} (hs : S0 = As.reverse ++ pR (some a) :: st) (hn : As.length = np) (hst : h_len st ≤ 8) (hfr : fr' + 1 ≤ fr) (hlo : 8 + (n' + 11) + lo' ≤ lo) {Q1 : Int32 → h_S → Prop}
    (hM : h_M (x_Z X) y cc' n' ret fr' lo' (pR (some a) :: As) σ 0 0 (h_QI (x_Z X) Q1)) (kk : ∀ (r : Int32) (σ1 : h_S), Q1 r σ1 → h_V X nL (pc + 3) lv (pI r :: st) σ1 bc bs) : h_V X nL pc lv S0 σ bc bs := v_callVi hX d hC hV hci hk As hs hn hst hfr hlo (Nat.zero_le _) (Nat.zero_le _) hM kk
theorem v_callVl (hX : h_ok X cc nL own fr lo) {index : Nat} {y : MethodName} {cc' : ByteArray} {n' : Nat} {ret : Option FieldType} {np fr' lo' : Nat} (d : decode cc pc = .ok (.invokevirtual index, 3)) (hC : h_C own index y cc' n' ret np) (hV : h_CV y) {ci a : Nat} {T : u_T} {N : Nat} (hci : vwCl[ci]? = some (y.cls, T, N)) (hk : h_k σ a = 20 + ci) (As : List h_P) {S0 : List h_P} (hs : S0 = As.reverse ++ pR (some a) :: st) (hn : As.length = np) (hst : h_len st ≤ 8) (hfr : fr' + 1 ≤ fr) (hlo : 8 + (n' + 11) + lo' ≤ lo) {mc ms : Nat} (hmc : mc ≤ bc) (hms : ms ≤ bs) {Q1 : Int64 → h_S → Prop}
    (hM : h_M (x_Z X) y cc' n' ret fr' lo' (pR (some a) :: As) σ mc ms (h_QL (x_Z X) Q1)) (kk : ∀ (r : Int64) (σ1 : h_S), Q1 r σ1 → h_V X nL (pc + 3) lv (pL r :: st) σ1 (bc - mc) (bs - ms)) : h_V X nL pc lv S0 σ bc bs := by
  subst hs
  intro ls H locs cells slots a1 a2 a3 a4 a5
  refine va_calll (h_run hX hC hV hci hk hn hst hfr hlo hM d a1.1 a2 a3 (by omega) (by omega)) a3 (fun q _ h => h) (fun q h => h) (fun r u t H1 locs1 ht hvm hw hB hz1 hk1 hS => ?_)
  obtain ⟨hB, hK, hz⟩ := hB
  rw [ht] at hB
  exact kk r u hw ls H1 locs1 (cells + mc) (slots + ms) a1 hB hS (by omega) (by omega)
theorem v_callVl0 (hX : h_ok X cc nL own fr lo) {index : Nat} {y : MethodName} {cc' : ByteArray} {n' : Nat} {ret : Option FieldType} {np fr' lo' : Nat} (d : decode cc pc = .ok (.invokevirtual index, 3)) (hC : h_C own index y cc' n' ret np) (hV : h_CV y) {ci a : Nat} {T : u_T} {N : Nat} (hci : vwCl[ci]? = some (y.cls, T, N)) (hk : h_k σ a = 20 + ci) (As : List h_P) {S0 : List h_P} (hs : S0 = As.reverse ++ pR (some a) :: st) (hn : As.length = np) (hst : h_len st ≤ 8) (hfr : fr' + 1 ≤ fr) (hlo : 8 + (n' + 11) + lo' ≤ lo) {Q1 : Int64 → h_S → Prop}
    (hM : h_M (x_Z X) y cc' n' ret fr' lo' (pR (some a) :: As) σ 0 0 (h_QL (x_Z X) Q1)) (kk : ∀ (r : Int64) (σ1 : h_S), Q1 r σ1 → h_V X nL (pc + 3) lv (pL r :: st) σ1 bc bs) : h_V X nL pc lv S0 σ bc bs := v_callVl hX d hC hV hci hk As hs hn hst hfr hlo (Nat.zero_le _) (Nat.zero_le _) hM kk
theorem v_callVr (hX : h_ok X cc nL own fr lo) {index : Nat} {y : MethodName} {cc' : ByteArray} {n' : Nat} {ret : Option FieldType} {np fr' lo' : Nat} (d : decode cc pc = .ok (.invokevirtual index, 3)) (hC : h_C own index y cc' n' ret np) (hV : h_CV y) {ci a : Nat} {T : u_T} {N : Nat} (hci : vwCl[ci]? = some (y.cls, T, N)) (hk : h_k σ a = 20 + ci) (As : List h_P) {S0 : List h_P} (hs : S0 = As.reverse ++ pR (some a) :: st) (hn : As.length = np) (hst : h_len st ≤ 8) (hfr : fr' + 1 ≤ fr) (hlo : 8 + (n' + 11) + lo' ≤ lo) {mc ms : Nat} (hmc : mc ≤ bc) (hms : ms ≤ bs) {Q1 : Option Nat → h_S → Prop}
    (hM : h_M (x_Z X) y cc' n' ret fr' lo' (pR (some a) :: As) σ mc ms (h_QR (x_Z X) Q1)) (kk : ∀ (r : Option Nat) (σ1 : h_S), Q1 r σ1 → h_V X nL (pc + 3) lv (pR r :: st) σ1 (bc - mc) (bs - ms)) : h_V X nL pc lv S0 σ bc bs := by
  subst hs
  intro ls H locs cells slots a1 a2 a3 a4 a5
  refine va_callq (h_run hX hC hV hci hk hn hst hfr hlo hM d a1.1 a2 a3 (by omega) (by omega)) a3 (fun q _ h => h) (fun q h => h) (fun r u t H1 locs1 ht hvm hw hB hz1 hk1 hS => ?_)
  obtain ⟨hB, hK, hz⟩ := hB
  rw [ht] at hB
  exact kk r u hw ls H1 locs1 (cells + mc) (slots + ms) a1 hB hS (by omega) (by omega)
theorem v_callVr0 (hX : h_ok X cc nL own fr lo) {index : Nat} {y : MethodName} {cc' : ByteArray} {n' : Nat} {ret : Option FieldType} {np fr' lo' : Nat} (d : decode cc pc = .ok (.invokevirtual index, 3)) (hC : h_C own index y cc' n' ret np) (hV : h_CV y) {ci a : Nat} {T : u_T} {N : Nat} (hci : vwCl[ci]? = some (y.cls, T, N)) (hk : h_k σ a = 20 + ci) (As : List h_P) {S0 : List h_P} (hs : S0 = As.reverse ++ pR (some a) :: st) (hn : As.length = np) (hst : h_len st ≤ 8) (hfr : fr' + 1 ≤ fr) (hlo : 8 + (n' + 11) + lo' ≤ lo) {Q1 : Option Nat → h_S → Prop}
    (hM : h_M (x_Z X) y cc' n' ret fr' lo' (pR (some a) :: As) σ 0 0 (h_QR (x_Z X) Q1)) (kk : ∀ (r : Option Nat) (σ1 : h_S), Q1 r σ1 → h_V X nL (pc + 3) lv (pR r :: st) σ1 bc bs) : h_V X nL pc lv S0 σ bc bs := v_callVr hX d hC hV hci hk As hs hn hst hfr hlo (Nat.zero_le _) (Nat.zero_le _) hM kk
theorem v_callVv (hX : h_ok X cc nL own fr lo) {index : Nat} {y : MethodName} {cc' : ByteArray} {n' : Nat} {ret : Option FieldType} {np fr' lo' : Nat} (d : decode cc pc = .ok (.invokevirtual index, 3)) (hC : h_C own index y cc' n' ret np) (hV : h_CV y) {ci a : Nat} {T : u_T} {N : Nat} (hci : vwCl[ci]? = some (y.cls, T, N)) (hk : h_k σ a = 20 + ci) (As : List h_P) {S0 : List h_P} (hs : S0 = As.reverse ++ pR (some a) :: st) (hn : As.length = np) (hst : h_len st ≤ 8) (hfr : fr' + 1 ≤ fr) (hlo : 8 + (n' + 11) + lo' ≤ lo) {mc ms : Nat} (hmc : mc ≤ bc) (hms : ms ≤ bs) {Q1 : h_S → Prop}
    (hM : h_M (x_Z X) y cc' n' ret fr' lo' (pR (some a) :: As) σ mc ms (h_QV (x_Z X) Q1)) (kk : ∀ σ1 : h_S, Q1 σ1 → h_V X nL (pc + 3) lv st σ1 (bc - mc) (bs - ms)) : h_V X nL pc lv S0 σ bc bs := by
  subst hs
  intro ls H locs cells slots a1 a2 a3 a4 a5
  refine va_callv (h_run hX hC hV hci hk hn hst hfr hlo hM d a1.1 a2 a3 (by omega) (by omega)) a3 (fun q _ h => h) (fun q h => h) (fun u t H1 locs1 ht hvm hw hB hz1 hk1 hS => ?_)
  obtain ⟨hB, hK, hz⟩ := hB
  rw [ht] at hB
  exact kk u hw ls H1 locs1 (cells + mc) (slots + ms) a1 hB hS (by omega) (by omega)
theorem v_callVv0 (hX : h_ok X cc nL own fr lo) {index : Nat} {y : MethodName} {cc' : ByteArray} {n' : Nat} {ret : Option FieldType} {np fr' lo' : Nat} (d : decode cc pc = .ok (.invokevirtual index, 3)) (hC : h_C own index y cc' n' ret np) (hV : h_CV y) {ci a : Nat} {T : u_T} {N : Nat} (hci : vwCl[ci]? = some (y.cls, T, N)) (hk : h_k σ a = 20 + ci) (As : List h_P) {S0 : List h_P} (hs : S0 = As.reverse ++ pR (some a) :: st) (hn : As.length = np) (hst : h_len st ≤ 8) (hfr : fr' + 1 ≤ fr) (hlo : 8 + (n' + 11) + lo' ≤ lo) {Q1 : h_S → Prop}
    (hM : h_M (x_Z X) y cc' n' ret fr' lo' (pR (some a) :: As) σ 0 0 (h_QV (x_Z X) Q1)) (kk : ∀ σ1 : h_S, Q1 σ1 → h_V X nL (pc + 3) lv st σ1 bc bs) : h_V X nL pc lv S0 σ bc bs := v_callVv hX d hC hV hci hk As hs hn hst hfr hlo (Nat.zero_le _) (Nat.zero_le _) hM kk
theorem v_callSi (hX : h_ok X cc nL own fr lo) {index : Nat} {y : MethodName} {cc' : ByteArray} {n' : Nat} {ret : Option FieldType} {np fr' lo' : Nat} (d : decode cc pc = .ok (.invokestatic index, 3)) (hC : h_C own index y cc' n' ret np) (hV : h_CS y) (As : List h_P) {S0 : List h_P} (hs : S0 = As.reverse ++ st) (hn : As.length = np) (hst : h_len st ≤ 8) (hfr : fr' + 1 ≤ fr) (hlo : 8 + (n' + 11) + lo' ≤ lo) {mc ms : Nat} (hmc : mc ≤ bc) (hms : ms ≤ bs) {Q1 : Int32 → h_S → Prop}
    (hM : h_M (x_Z X) y cc' n' ret fr' lo' (As) σ mc ms (h_QI (x_Z X) Q1)) (kk : ∀ (r : Int32) (σ1 : h_S), Q1 r σ1 → h_V X nL (pc + 3) lv (pI r :: st) σ1 (bc - mc) (bs - ms)) : h_V X nL pc lv S0 σ bc bs := by
  subst hs
  intro ls H locs cells slots a1 a2 a3 a4 a5
  refine va_calli (h_runS hX hC hV hn hst hfr hlo hM d a1.1 a2 a3 (by omega) (by omega)) a3 (fun q _ h => h) (fun q h => h) (fun r u t H1 locs1 ht hvm hw hB hz1 hk1 hS => ?_)
  obtain ⟨hB, hK, hz⟩ := hB
  rw [ht] at hB
  exact kk r u hw ls H1 locs1 (cells + mc) (slots + ms) a1 hB hS (by omega) (by omega)
theorem v_callSi0 (hX : h_ok X cc nL own fr lo) {index : Nat} {y : MethodName} {cc' : ByteArray} {n' : Nat} {ret : Option FieldType} {np fr' lo' : Nat} (d : decode cc pc = .ok (.invokestatic index, 3)) (hC : h_C own index y cc' n' ret np) (hV : h_CS y) (As : List h_P) {S0 : List h_P} (hs : S0 = As.reverse ++ st) (hn : As.length = np) (hst : h_len st ≤ 8) (hfr : fr' + 1 ≤ fr) (hlo : 8 + (n' + 11) + lo' ≤ lo) {Q1 : Int32 → h_S → Prop}
    (hM : h_M (x_Z X) y cc' n' ret fr' lo' (As) σ 0 0 (h_QI (x_Z X) Q1)) (kk : ∀ (r : Int32) (σ1 : h_S), Q1 r σ1 → h_V X nL (pc + 3) lv (pI r :: st) σ1 bc bs) : h_V X nL pc lv S0 σ bc bs := v_callSi hX d hC hV As hs hn hst hfr hlo (Nat.zero_le _) (Nat.zero_le _) hM kk
theorem v_callSl (hX : h_ok X cc nL own fr lo) {index : Nat} {y : MethodName} {cc' : ByteArray} {n' : Nat} {ret : Option FieldType} {np fr' lo' : Nat} (d : decode cc pc = .ok (.invokestatic index, 3)) (hC : h_C own index y cc' n' ret np) (hV : h_CS y) (As : List h_P) {S0 : List h_P} (hs : S0 = As.reverse ++ st) (hn : As.length = np) (hst : h_len st ≤ 8) (hfr : fr' + 1 ≤ fr) (hlo : 8 + (n' + 11) + lo' ≤ lo) {mc ms : Nat} (hmc : mc ≤ bc) (hms : ms ≤ bs) {Q1 : Int64 → h_S → Prop}
    (hM : h_M (x_Z X) y cc' n' ret fr' lo' (As) σ mc ms (h_QL (x_Z X) Q1)) (kk : ∀ (r : Int64) (σ1 : h_S), Q1 r σ1 → h_V X nL (pc + 3) lv (pL r :: st) σ1 (bc - mc) (bs - ms)) : h_V X nL pc lv S0 σ bc bs := by
  subst hs
  intro ls H locs cells slots a1 a2 a3 a4 a5
  refine va_calll (h_runS hX hC hV hn hst hfr hlo hM d a1.1 a2 a3 (by omega) (by omega)) a3 (fun q _ h => h) (fun q h => h) (fun r u t H1 locs1 ht hvm hw hB hz1 hk1 hS => ?_)
  obtain ⟨hB, hK, hz⟩ := hB
  rw [ht] at hB
  exact kk r u hw ls H1 locs1 (cells + mc) (slots + ms) a1 hB hS (by omega) (by omega)
theorem v_callSl0 (hX : h_ok X cc nL own fr lo) {index : Nat} {y : MethodName} {cc' : ByteArray} {n' : Nat} {ret : Option FieldType} {np fr' lo' : Nat} (d : decode cc pc = .ok (.invokestatic index, 3)) (hC : h_C own index y cc' n' ret np) (hV : h_CS y) (As : List h_P) {S0 : List h_P} (hs : S0 = As.reverse ++ st) (hn : As.length = np) (hst : h_len st ≤ 8) (hfr : fr' + 1 ≤ fr) (hlo : 8 + (n' + 11) + lo' ≤ lo) {Q1 : Int64 → h_S → Prop}
    (hM : h_M (x_Z X) y cc' n' ret fr' lo' (As) σ 0 0 (h_QL (x_Z X) Q1)) (kk : ∀ (r : Int64) (σ1 : h_S), Q1 r σ1 → h_V X nL (pc + 3) lv (pL r :: st) σ1 bc bs) : h_V X nL pc lv S0 σ bc bs := v_callSl hX d hC hV As hs hn hst hfr hlo (Nat.zero_le _) (Nat.zero_le _) hM kk
theorem v_callSr (hX : h_ok X cc nL own fr lo) {index : Nat} {y : MethodName} {cc' : ByteArray} {n' : Nat} {ret : Option FieldType} {np fr' lo' : Nat} (d : decode cc pc = .ok (.invokestatic index, 3)) (hC : h_C own index y cc' n' ret np) (hV : h_CS y) (As : List h_P) {S0 : List h_P} (hs : S0 = As.reverse ++ st) (hn : As.length = np) (hst : h_len st ≤ 8) (hfr : fr' + 1 ≤ fr) (hlo : 8 + (n' + 11) + lo' ≤ lo) {mc ms : Nat} (hmc : mc ≤ bc) (hms : ms ≤ bs) {Q1 : Option Nat → h_S → Prop}
    (hM : h_M (x_Z X) y cc' n' ret fr' lo' (As) σ mc ms (h_QR (x_Z X) Q1)) (kk : ∀ (r : Option Nat) (σ1 : h_S), Q1 r σ1 → h_V X nL (pc + 3) lv (pR r :: st) σ1 (bc - mc) (bs - ms)) : h_V X nL pc lv S0 σ bc bs := by
  subst hs
  intro ls H locs cells slots a1 a2 a3 a4 a5
  refine va_callq (h_runS hX hC hV hn hst hfr hlo hM d a1.1 a2 a3 (by omega) (by omega)) a3 (fun q _ h => h) (fun q h => h) (fun r u t H1 locs1 ht hvm hw hB hz1 hk1 hS => ?_)
  obtain ⟨hB, hK, hz⟩ := hB
  rw [ht] at hB
  exact kk r u hw ls H1 locs1 (cells + mc) (slots + ms) a1 hB hS (by omega) (by omega)
theorem v_callSr0 (hX : h_ok X cc nL own fr lo) {index : Nat} {y : MethodName} {cc' : ByteArray} {n' : Nat} {ret : Option FieldType} {np fr' lo' : Nat} (d : decode cc pc = .ok (.invokestatic index, 3)) (hC : h_C own index y cc' n' ret np) (hV : h_CS y) (As : List h_P) {S0 : List h_P} (hs : S0 = As.reverse ++ st) (hn : As.length = np) (hst : h_len st ≤ 8) (hfr : fr' + 1 ≤ fr) (hlo : 8 + (n' + 11) + lo' ≤ lo) {Q1 : Option Nat → h_S → Prop}
    (hM : h_M (x_Z X) y cc' n' ret fr' lo' (As) σ 0 0 (h_QR (x_Z X) Q1)) (kk : ∀ (r : Option Nat) (σ1 : h_S), Q1 r σ1 → h_V X nL (pc + 3) lv (pR r :: st) σ1 bc bs) : h_V X nL pc lv S0 σ bc bs := v_callSr hX d hC hV As hs hn hst hfr hlo (Nat.zero_le _) (Nat.zero_le _) hM kk
theorem v_callSv (hX : h_ok X cc nL own fr lo) {index : Nat} {y : MethodName} {cc' : ByteArray} {n' : Nat} {ret : Option FieldType} {np fr' lo' : Nat} (d : decode cc pc = .ok (.invokestatic index, 3)) (hC : h_C own index y cc' n' ret np) (hV : h_CS y) (As : List h_P) {S0 : List h_P} (hs : S0 = As.reverse ++ st) (hn : As.length = np) (hst : h_len st ≤ 8) (hfr : fr' + 1 ≤ fr) (hlo : 8 + (n' + 11) + lo' ≤ lo) {mc ms : Nat} (hmc : mc ≤ bc) (hms : ms ≤ bs) {Q1 : h_S → Prop}
    (hM : h_M (x_Z X) y cc' n' ret fr' lo' (As) σ mc ms (h_QV (x_Z X) Q1)) (kk : ∀ σ1 : h_S, Q1 σ1 → h_V X nL (pc + 3) lv st σ1 (bc - mc) (bs - ms)) : h_V X nL pc lv S0 σ bc bs := by
  subst hs
  intro ls H locs cells slots a1 a2 a3 a4 a5
  refine va_callv (h_runS hX hC hV hn hst hfr hlo hM d a1.1 a2 a3 (by omega) (by omega)) a3 (fun q _ h => h) (fun q h => h) (fun u t H1 locs1 ht hvm hw hB hz1 hk1 hS => ?_)
  obtain ⟨hB, hK, hz⟩ := hB
  rw [ht] at hB
  exact kk u hw ls H1 locs1 (cells + mc) (slots + ms) a1 hB hS (by omega) (by omega)
theorem v_callSv0 (hX : h_ok X cc nL own fr lo) {index : Nat} {y : MethodName} {cc' : ByteArray} {n' : Nat} {ret : Option FieldType} {np fr' lo' : Nat} (d : decode cc pc = .ok (.invokestatic index, 3)) (hC : h_C own index y cc' n' ret np) (hV : h_CS y) (As : List h_P) {S0 : List h_P} (hs : S0 = As.reverse ++ st) (hn : As.length = np) (hst : h_len st ≤ 8) (hfr : fr' + 1 ≤ fr) (hlo : 8 + (n' + 11) + lo' ≤ lo) {Q1 : h_S → Prop}
    (hM : h_M (x_Z X) y cc' n' ret fr' lo' (As) σ 0 0 (h_QV (x_Z X) Q1)) (kk : ∀ σ1 : h_S, Q1 σ1 → h_V X nL (pc + 3) lv st σ1 bc bs) : h_V X nL pc lv S0 σ bc bs := v_callSv hX d hC hV As hs hn hst hfr hlo (Nat.zero_le _) (Nat.zero_le _) hM kk
theorem v_callIv (hX : h_ok X cc nL own fr lo) {index : Nat} {y : MethodName} {cc' : ByteArray} {n' : Nat}  {np fr' lo' : Nat} (d : decode cc pc = .ok (.invokespecial index, 3)) (hC : h_C own index y cc' n' none np) (hV : h_CI y) {a : Nat} (As : List h_P) {S0 : List h_P} (hs : S0 = As.reverse ++ pR (some a) :: st) (hn : As.length = np) (hst : h_len st ≤ 8) (hfr : fr' + 1 ≤ fr) (hlo : 8 + (n' + 11) + lo' ≤ lo) {mc ms : Nat} (hmc : mc ≤ bc) (hms : ms ≤ bs) {Q1 : h_S → Prop}
    (hM : h_M (x_Z X) y cc' n' none fr' lo' (pR (some a) :: As) σ mc ms (h_QV (x_Z X) Q1)) (kk : ∀ σ1 : h_S, Q1 σ1 → h_V X nL (pc + 3) lv st σ1 (bc - mc) (bs - ms)) : h_V X nL pc lv S0 σ bc bs := by
  subst hs
  intro ls H locs cells slots a1 a2 a3 a4 a5
  refine va_callv (h_runI hX hC hV hn hst hfr hlo hM d a1.1 a2 a3 (by omega) (by omega)) a3 (fun q _ h => h) (fun q h => h) (fun u t H1 locs1 ht hvm hw hB hz1 hk1 hS => ?_)
  obtain ⟨hB, hK, hz⟩ := hB
  rw [ht] at hB
  exact kk u hw ls H1 locs1 (cells + mc) (slots + ms) a1 hB hS (by omega) (by omega)
theorem v_callIv0 (hX : h_ok X cc nL own fr lo) {index : Nat} {y : MethodName} {cc' : ByteArray} {n' : Nat}  {np fr' lo' : Nat} (d : decode cc pc = .ok (.invokespecial index, 3)) (hC : h_C own index y cc' n' none np) (hV : h_CI y) {a : Nat} (As : List h_P) {S0 : List h_P} (hs : S0 = As.reverse ++ pR (some a) :: st) (hn : As.length = np) (hst : h_len st ≤ 8) (hfr : fr' + 1 ≤ fr) (hlo : 8 + (n' + 11) + lo' ≤ lo) {Q1 : h_S → Prop}
    (hM : h_M (x_Z X) y cc' n' none fr' lo' (pR (some a) :: As) σ 0 0 (h_QV (x_Z X) Q1)) (kk : ∀ σ1 : h_S, Q1 σ1 → h_V X nL (pc + 3) lv st σ1 bc bs) : h_V X nL pc lv S0 σ bc bs := v_callIv hX d hC hV As hs hn hst hfr hlo (Nat.zero_le _) (Nat.zero_le _) hM kk
theorem v_iret (hX : h_ok X cc nL own fr lo) {Q : Int32 → h_S → Prop} (hE : h_end X (some .int) (h_QI (x_Z X) Q)) {v : Int32} (d : decode cc pc = .ok (.ireturn, 1)) (hq : Q v σ) : h_V X nL pc lv [pI v] σ bc bs := by
  intro ls H locs cells slots a1 a2 a3 a4 a5
  obtain ⟨hQ, hr, hH⟩ := hE
  rw [hQ]
  rw [hH] at a3
  refine W.widen (k := (x_R X).cells) (n := (x_R X).slots) (by omega) (by omega) ?_
  exact W.iret (v := v) hX.1 hX.2.1 hr (fun t ht hW => ⟨⟨v, σ, rfl, hq, h_pre hX a2 (hH ▸ a3) t ht hW⟩, a3.F ht⟩) a3.2.2 d (hlocks := hX.2.2.2.2.2.2.2.1)
theorem v_zret (hX : h_ok X cc nL own fr lo) {Q : Int32 → h_S → Prop} (hE : h_end X (some .boolean) (h_QI (x_Z X) Q)) {v : Int32} (d : decode cc pc = .ok (.ireturn, 1)) (hb : h_bt v) (hq : Q v σ) : h_V X nL pc lv [pI v] σ bc bs := by
  intro ls H locs cells slots a1 a2 a3 a4 a5
  obtain ⟨hQ, hr, hH⟩ := hE
  rw [hQ]
  rw [hH] at a3
  refine W.widen (k := (x_R X).cells) (n := (x_R X).slots) (by omega) (by omega) ?_
  exact W.zret (v := v) hX.1 hX.2.1 hr (by rcases hb with rfl | rfl <;> rfl) (fun t ht hW => ⟨⟨v, σ, rfl, hq, h_pre hX a2 (hH ▸ a3) t ht hW⟩, a3.F ht⟩) a3.2.2 d (hlocks := hX.2.2.2.2.2.2.2.1)
theorem v_lret (hX : h_ok X cc nL own fr lo) {Q : Int64 → h_S → Prop} (hE : h_end X (some .long) (h_QL (x_Z X) Q)) {v : Int64} (d : decode cc pc = .ok (.lreturn, 1)) (hq : Q v σ) : h_V X nL pc lv [pL v] σ bc bs := by
  intro ls H locs cells slots a1 a2 a3 a4 a5
  obtain ⟨hQ, hr, hH⟩ := hE
  rw [hQ]
  rw [hH] at a3
  refine W.widen (k := (x_R X).cells) (n := (x_R X).slots) (by omega) (by omega) ?_
  exact W.lret (v := v) hX.1 hX.2.1 hr (fun t ht hW => ⟨⟨v, σ, rfl, hq, h_pre hX a2 (hH ▸ a3) t ht hW⟩, a3.F ht⟩) a3.2.2 d (hlocks := hX.2.2.2.2.2.2.2.1)
theorem v_vret (hX : h_ok X cc nL own fr lo) {Q : h_S → Prop} (hE : h_end X none (h_QV (x_Z X) Q)) (d : decode cc pc = .ok (.return_, 1)) (hq : Q σ) : h_V X nL pc lv [] σ bc bs := by
  intro ls H locs cells slots a1 a2 a3 a4 a5
  obtain ⟨hQ, hr, hH⟩ := hE
  rw [hQ]
  rw [hH] at a3
  refine W.widen (k := (x_R X).cells) (n := (x_R X).slots) (by omega) (by omega) ?_
  exact W.vret hX.1 hX.2.1 hr (fun t ht hW => ⟨⟨σ, rfl, hq, h_pre hX a2 (hH ▸ a3) t ht hW⟩, a3.F ht⟩) a3.2.2 d (hlocks := hX.2.2.2.2.2.2.2.1)
theorem v_aret (hX : h_ok X cc nL own fr lo) {rt : FieldType} {Q : Option Nat → h_S → Prop} (hE : h_end X (some rt) (h_QR (x_Z X) Q)) (hrt : (∃ n, rt = .object n) ∨ ∃ t, rt = .array t) {v : Option Nat} (d : decode cc pc = .ok (.areturn, 1)) (hq : Q v σ) : h_V X nL pc lv [pR v] σ bc bs := by
  intro ls H locs cells slots a1 a2 a3 a4 a5
  obtain ⟨hQ, hr, hH⟩ := hE
  rw [hQ]
  rw [hH] at a3
  refine W.widen (k := (x_R X).cells) (n := (x_R X).slots) (by omega) (by omega) ?_
  exact W.aret (v := va_rf v) hX.1 hX.2.1 hr hrt (va_rf_or v) (fun t ht hW => ⟨⟨v, σ, rfl, hq, h_pre hX a2 (hH ▸ a3) t ht hW⟩, a3.F ht⟩) a3.2.2 d (hlocks := hX.2.2.2.2.2.2.2.1)
end HH
