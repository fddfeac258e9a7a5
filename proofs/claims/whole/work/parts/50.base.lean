abbrev h_P : Type := Int32 ⊕ Int64 ⊕ Option Nat
abbrev pI (x : Int32) : h_P := .inl x
abbrev pL (x : Int64) : h_P := .inr (.inl x)
abbrev pR (x : Option Nat) : h_P := .inr (.inr x)
def h_pv : h_P → Value
  | .inl x => .int x
  | .inr (.inl x) => .long x
  | .inr (.inr r) => va_rf r
def h_c2 : h_P → Bool
  | .inr (.inl _) => true
  | _ => false
def h_lv (q : Nat × h_P) : Nat × Value := (q.1, h_pv q.2)
theorem h_rf_cat (r : Option Nat) : (va_rf r).category = 1 := by cases r <;> rfl
theorem h_cat (v : h_P) : (h_pv v).category = if h_c2 v = true then 2 else 1 := by
  rcases v with x | x | r
  · rfl
  · rfl
  · exact h_rf_cat r
def h_args : Nat → List h_P → List (Nat × h_P)
  | _, [] => []
  | i, v :: vs => (i, v) :: h_args (if h_c2 v = true then i + 2 else i + 1) vs
theorem h_args_eq (vs : List h_P) : ∀ i, lv_args i (vs.map h_pv) = (h_args i vs).map h_lv := by
  induction vs with
  | nil => intro i; rfl
  | cons v vs ih =>
    intro i
    show (i, h_pv v) :: lv_args (if (h_pv v).category = 2 then i + 2 else i + 1) (vs.map h_pv) = _
    rw [ih, h_cat]
    cases h : h_c2 v <;> simp [h_args, h, h_lv]
def h_len : List h_P → Nat
  | [] => 0
  | v :: vs => (if h_c2 v = true then 2 else 1) + h_len vs
theorem h_len_eq (vs : List h_P) : (lg_sl (vs.map h_pv)).length = h_len vs := by
  induction vs with
  | nil => rfl
  | cons v vs ih =>
    have : (lg_sl ((v :: vs).map h_pv)).length = (if (h_pv v).category = 2 then 2 else 1) + (lg_sl (vs.map h_pv)).length := by
      simp only [lg_sl, List.map_cons, List.flatMap_cons, List.length_append]
      congr 1
      split <;> rfl
    rw [this, ih, h_cat]
    cases h : h_c2 v <;> simp [h_len, h]
theorem h_lv_get {lv : List (Nat × h_P)} {ls : Array Slot} {nL : Nat} (h : lv_has ls nL (lv.map h_lv)) {k i : Nat} {v : h_P} (hk : lv[k]? = some (i, v)) : ls[i]? = some (.val (h_pv v)) :=
  lv_at h k (i := i) (v := h_pv v) (by rw [List.getElem?_map, hk]; rfl)
/-- the locals behind a store -/
def h_st (lv : List (Nat × h_P)) (i : Nat) (v : h_P) : List (Nat × h_P) := (i, v) :: lv.filter (fun q => !(q.1 == i) && !(q.1 + 1 == i && h_c2 q.2))
theorem h_st_eq (lv : List (Nat × h_P)) (i : Nat) (v : h_P) : (i, h_pv v) :: (lv.map h_lv).filter (fun q => !(q.1 == i) && !(q.1 + 1 == i && q.2.category == 2)) = (h_st lv i v).map h_lv := by
  unfold h_st
  rw [List.map_cons, List.filter_map]
  refine congrArg _ (congrArg _ (List.filter_congr fun q _ => ?_))
  simp only [Function.comp, h_lv, h_cat]
  cases h_c2 q.2 <;> simp
theorem h_sub {lv lv' : List (Nat × h_P)} {ls : Array Slot} {nL : Nat} (h : lv_has ls nL (lv.map h_lv)) (hs : ∀ q ∈ lv', q ∈ lv) : lv_has ls nL (lv'.map h_lv) := by
  refine ⟨h.1, h.2.1, fun q hq => ?_⟩
  obtain ⟨x, hx, rfl⟩ := List.mem_map.mp hq
  exact h.2.2 _ (List.mem_map.mpr ⟨x, hs x hx, rfl⟩)
/-! the cells of a state -/
def h_fs : List Bool → (Nat → Int32) → (Nat → Option Nat) → Nat → List Value
  | [], _, _, _ => []
  | b :: t, i, r, k => (if b = true then .int (i k) else va_rf (r k)) :: h_fs t i r (k + 1)
theorem h_fs_len (l : List Bool) (i : Nat → Int32) (r : Nat → Option Nat) : ∀ k, (h_fs l i r k).length = l.length := by
  induction l with
  | nil => intro k; rfl
  | cons b t ih => intro k; simp [h_fs, ih]
theorem h_fs_get {l : List Bool} {i : Nat → Int32} {r : Nat → Option Nat} : ∀ {k j : Nat} {b : Bool}, l[j]? = some b → (h_fs l i r k)[j]? = some (if b = true then .int (i (k + j)) else va_rf (r (k + j))) := by
  induction l with
  | nil => intro k j b h; simp at h
  | cons c t ih =>
    intro k j b h
    cases j with
    | zero => simp at h; subst h; simp [h_fs]
    | succ j =>
      have h2 : t[j]? = some b := by simpa using h
      have := ih (k := k + 1) h2
      rw [show k + (j + 1) = k + 1 + j by omega]
      simpa [h_fs] using this
theorem h_fs_cong (l : List Bool) {i i2 : Nat → Int32} {r r2 : Nat → Option Nat} : ∀ {k : Nat}, (∀ j, k ≤ j → i j = i2 j) → (∀ j, k ≤ j → r j = r2 j) → h_fs l i r k = h_fs l i2 r2 k := by
  induction l with
  | nil => intro k _ _; rfl
  | cons c t ih =>
    intro k h1 h2
    simp only [h_fs, h1 k (Nat.le_refl _), h2 k (Nat.le_refl _), ih (k := k + 1) (fun j h => h1 j (by omega)) (fun j h => h2 j (by omega))]
theorem h_fs_setI {l : List Bool} {i : Nat → Int32} {r : Nat → Option Nat} {v : Int32} : ∀ {k j : Nat}, l[j]? = some true → (h_fs l i r k).set j (.int v) = h_fs l (fun x => if x = k + j then v else i x) r k := by
  induction l with
  | nil => intro k j h; simp at h
  | cons c t ih =>
    intro k j h
    cases j with
    | zero =>
      simp at h
      subst h
      simp only [h_fs, List.set_cons_zero, Nat.add_zero, if_true]
      refine congrArg _ (h_fs_cong t (fun x hx => ?_) (fun _ _ => rfl))
      rw [if_neg (by omega)]
    | succ j =>
      have h2 : t[j]? = some true := by simpa using h
      have := ih (k := k + 1) h2
      simp only [h_fs, List.set_cons_succ]
      rw [this, if_neg (show ¬ k = k + (j + 1) by omega), show k + 1 + j = k + (j + 1) by omega]
theorem h_fs_setR {l : List Bool} {i : Nat → Int32} {r : Nat → Option Nat} {v : Option Nat} : ∀ {k j : Nat}, l[j]? = some false → (h_fs l i r k).set j (va_rf v) = h_fs l i (fun x => if x = k + j then v else r x) k := by
  induction l with
  | nil => intro k j h; simp at h
  | cons c t ih =>
    intro k j h
    cases j with
    | zero =>
      simp at h
      subst h
      simp only [h_fs, List.set_cons_zero, Nat.add_zero, if_true]
      refine congrArg _ (h_fs_cong t (fun _ _ => rfl) (fun x hx => ?_))
      rw [if_neg (by omega)]
    | succ j =>
      have h2 : t[j]? = some false := by simpa using h
      have := ih (k := k + 1) h2
      simp only [h_fs, List.set_cons_succ]
      rw [this, if_neg (show ¬ k = k + (j + 1) by omega), show k + 1 + j = k + (j + 1) by omega]
def h_e (Y : Nat → ClassId) (σ : h_S) (a : Nat) : va_E :=
  if h_k σ a < 3 then .inl (Y (h_k σ a), h_n σ a, .inl (h_i σ a))
  else if h_k σ a < 20 then .inl (Y (h_k σ a), h_n σ a, .inr (.inr (.inr (.inr (h_r σ a)))))
  else .inr (h_k σ a - 20, h_fs (h_lay (h_k σ a - 20)) (h_i σ a) (h_r σ a) 0)
theorem h_e_1 {Y : Nat → ClassId} {σ : h_S} {a k : Nat} (h : h_k σ a = k) (hk : k < 3) : h_e Y σ a = .inl (Y k, h_n σ a, .inl (h_i σ a)) := by
  unfold h_e; rw [if_pos (by omega), h]
theorem h_e_2 {Y : Nat → ClassId} {σ : h_S} {a k : Nat} (h : h_k σ a = k) (hk : ¬ k < 3) (hk2 : k < 20) : h_e Y σ a = .inl (Y k, h_n σ a, .inr (.inr (.inr (.inr (h_r σ a))))) := by
  unfold h_e; rw [if_neg (by omega), if_pos (by omega), h]
theorem h_e_3 {Y : Nat → ClassId} {σ : h_S} {a c : Nat} (h : h_k σ a = 20 + c) : h_e Y σ a = .inr (c, h_fs (h_lay c) (h_i σ a) (h_r σ a) 0) := by
  unfold h_e; rw [if_neg (by omega), if_neg (by omega), h, show 20 + c - 20 = c by omega]
theorem h_e_ne {Y : Nat → ClassId} {σ σ2 : h_S} {a : Nat} (h1 : h_k σ a = h_k σ2 a) (h2 : h_n σ a = h_n σ2 a) (h3 : h_i σ a = h_i σ2 a) (h4 : h_r σ a = h_r σ2 a) : h_e Y σ a = h_e Y σ2 a := by
  unfold h_e; rw [h1, h2, h3, h4]
theorem h_i_si1 (σ : h_S) (a k : Nat) (v : Int32) : h_i (h_si σ a k v) a = (fun j => if j = k then v else h_i σ a j) := by
  funext j; rw [h_i_si]; simp
theorem h_i_si2 (σ : h_S) {a b : Nat} (k : Nat) (v : Int32) (h : ¬ b = a) : h_i (h_si σ a k v) b = h_i σ b := by
  funext j; rw [h_i_si]; simp [h]
theorem h_r_sr1 (σ : h_S) (a k : Nat) (v : Option Nat) : h_r (h_sr σ a k v) a = (fun j => if j = k then v else h_r σ a j) := by
  funext j; rw [h_r_sr]; simp
theorem h_r_sr2 (σ : h_S) {a b : Nat} (k : Nat) (v : Option Nat) (h : ¬ b = a) : h_r (h_sr σ a k v) b = h_r σ b := by
  funext j; rw [h_r_sr]; simp [h]
/-! what a run stands on -/
abbrev h_X : Type _ := Program × Launch × Env × Room × State × MethodId × Array Value × List Frame × Method × Code × va_G × (Nat → ClassId) × Nat × Heap × (State → Prop) × h_G
abbrev x_p (X : h_X) := X.1
abbrev x_l (X : h_X) := X.2.1
abbrev x_e (X : h_X) := X.2.2.1
abbrev x_R (X : h_X) := X.2.2.2.1
abbrev x_s (X : h_X) := X.2.2.2.2.1
abbrev x_m (X : h_X) := X.2.2.2.2.2.1
abbrev x_a (X : h_X) := X.2.2.2.2.2.2.1
abbrev x_b (X : h_X) := X.2.2.2.2.2.2.2.1
abbrev x_me (X : h_X) := X.2.2.2.2.2.2.2.2.1
abbrev x_c (X : h_X) := X.2.2.2.2.2.2.2.2.2.1
abbrev x_D (X : h_X) := X.2.2.2.2.2.2.2.2.2.2.1
abbrev x_Y (X : h_X) := X.2.2.2.2.2.2.2.2.2.2.2.1
abbrev x_z (X : h_X) := X.2.2.2.2.2.2.2.2.2.2.2.2.1
abbrev x_H (X : h_X) := X.2.2.2.2.2.2.2.2.2.2.2.2.2.1
abbrev x_Q (X : h_X) := X.2.2.2.2.2.2.2.2.2.2.2.2.2.2.1
abbrev x_G (X : h_X) := X.2.2.2.2.2.2.2.2.2.2.2.2.2.2.2
abbrev h_A (z : Nat) : Nat → Prop := fun q => z ≤ q
abbrev h_tys (Y : Nat → ClassId) : List (ClassId × FieldType) := [(Y 1, .int), (Y 2, .boolean), (Y 3, .object "SeenWords$Piece"), (Y 4, .object "SeenWords$Row"), (Y 5, .object "SeenWords$Sheet"), (Y 6, .object "SeenWords$Shown"), (Y 7, .object "java/lang/Object"), (Y 8, .array .int)]
def h_W (D : va_G) (Y : Nat → ClassId) (z : Nat) (σ : h_S) (H : Heap) : Prop := va_P D vwCl (va_pl σ.1 (h_e Y σ)) H ∧ va_D (h_A z) (va_pl σ.1 (h_e Y σ)) ∧ (∀ a, a ∈ σ.1 ↔ (h_k σ a ≠ 0 ∧ h_k σ a ≠ 19)) ∧ ∀ a, h_k σ a = 19 → a < z
def h_V (X : h_X) (nL pc : Nat) (lv : List (Nat × h_P)) (st : List h_P) (σ : h_S) (bc bs : Nat) : Prop :=
  ∀ (ls : Array Slot) (H : Heap) (locs : List Loc) (cells slots : Nat), lv_has ls nL (lv.map h_lv) → h_W (x_D X) (x_Y X) (x_z X) σ H → va_S (h_A (x_z X)) (x_H X) H locs → cells + bc = (x_R X).cells → slots + bs = (x_R X).slots →
    W (x_p X) (x_l X) (x_e X) (x_R X) (x_s X) (x_m X) (x_a X) (x_b X) (x_me X) (x_c X) H locs cells slots (x_Q X) (F0 (x_m X) pc ls (st.map h_pv))
theorem h_aoA_spec {t : FieldType} {u : State} (h : (Cond.arrayOver (.array t)).before #[] u = true) : ∃ comp c k, u.vm.findClass (FieldType.array t).toString = some comp ∧ (u.vm.classes.findIdx? fun (x : Class) => match x.kind with | .array component _ => component == comp | _ => false) = some c ∧ u.vm.classes[c]? = some k ∧ k.kind = .array comp (.array t) ∧ u.vm.findClass ("[" ++ (FieldType.array t).toString) = some c := by
  unfold Cond.before Cond.holds at h
  simp only [Cond.value, beq_iff_eq] at h
  cases hc : u.vm.findClass (FieldType.array t).toString with
  | none => simp [hc] at h
  | some comp =>
    simp only [hc, Option.bind_some, Option.bind_eq_some_iff, Option.map_eq_some_iff] at h
    obtain ⟨c, hi, k, hk, hb⟩ := h
    obtain ⟨hlt, hp, -⟩ := Array.findIdx?_eq_some_iff_getElem.mp hi
    have hkk : u.vm.classes[c] = k := (Array.getElem?_eq_some_iff.mp hk).2
    rw [hkk] at hp
    cases hkind : k.kind with
    | array component ty =>
      rw [hkind] at hb hp
      simp at hb hp
      exact ⟨comp, c, k, rfl, hi, hk, by rw [hkind, hp, hb.1], hb.2⟩
    | _ => rw [hkind] at hb; simp at hb
theorem h_aoA {t : FieldType} {u U : State} (hvm : u.vm.Alike U.vm) (h : (Cond.arrayOver (.array t)).before #[] u = true) : (Cond.arrayOver (.array t)).before #[] U = true := by
  obtain ⟨comp, c, k, h1, h2, h3, h4, h5⟩ := h_aoA_spec h
  obtain ⟨k', hk', he⟩ := hvm.2.2 _ _ h3
  have hi : (U.vm.classes.findIdx? fun (x : Class) => match x.kind with | .array component _ => component == comp | _ => false) = some c := by
    have e1 := va_idx_bare U.vm comp
    have e2 := va_idx_bare u.vm comp
    have eb : U.vm.bare = u.vm.bare := by first | exact hvm.bare_eq | exact hvm.bare_eq.symm
    rw [eb] at e1
    exact Eq.trans (Eq.trans e1.symm e2) h2
  have hkind : k'.kind = .array comp (.array t) := by rw [he]; exact h4
  have f1 : U.vm.findClass (FieldType.array t).toString = some comp := by rw [hvm.findClass]; exact h1
  have f2 : U.vm.findClass ("[" ++ (FieldType.array t).toString) = some c := by rw [hvm.findClass]; exact h5
  unfold Cond.before Cond.holds
  simp only [Cond.value]
  rw [f1, Option.bind_some]
  refine (congrArg (fun o : Option Nat => (o.bind (fun c => (U.vm.classes[c]?).map fun (k : Class) => match k.kind with | .array _ ty => decide (ty = FieldType.array t) && decide (U.vm.findClass ("[" ++ (FieldType.array t).toString) = some c) | _ => false) == some true)) hi).trans ?_
  simp [hk', hkind, f2]
/-- what stands outside: ArrayList's empty array, Link.ABOVE, the mirror of Object[], what the tables say of arrays of references -/
def h_O (z : Nat) (G : h_G) (U : State) : Prop :=
  va_Z "java/util/ArrayList" "DEFAULTCAPACITY_EMPTY_ELEMENTDATA" "[Ljava/lang/Object;" (.ref G.1) (h_A z) U U.heap ∧ va_T (.object "java/lang/Object") G.1 0 (fun _ => .null) (h_A z) U U.heap ∧ va_Z "SeenWords$Link" "ABOVE" "[I" (.ref G.2.1) (h_A z) U U.heap ∧ va_T .int G.2.1 5 (fun j => .int (h_abv j)) (h_A z) U U.heap ∧ va_Mi "[Ljava/lang/Object;" G.2.2 U ∧ va_Dc U ∧ (∀ C, Cond.arrayOver (.object C) ∈ lw_tbl → va_AO C U) ∧ (Cond.arrayOver (.array .int)).before #[] U = true
theorem h_O.move {z : Nat} {G : h_G} {u U : State} (hvm : u.vm.Alike U.vm) (hk : ∀ a : Nat, a < u.heap.size → ¬ h_A z a → U.heap[a]? = u.heap[a]?) (h : h_O z G u) : h_O z G U :=
  ⟨(h.1.kept hk).moved hvm, (h.2.1.kept hk).moved hvm, (h.2.2.1.kept hk).moved hvm, (h.2.2.2.1.kept hk).moved hvm, h.2.2.2.2.1.moved hvm, h.2.2.2.2.2.1.moved hvm, fun C hC => (h.2.2.2.2.2.2.1 C hC).moved hvm, h_aoA hvm h.2.2.2.2.2.2.2⟩
def h_ok (X : h_X) (cc : ByteArray) (nL : Nat) (own : String) (fr lo : Nat) : Prop :=
  (x_p X).tables.exec = Jvm.exec ∧ (x_c X).code = cc ∧ (x_c X).maxLocals = nL ∧ (x_s X).vm.findClass own = some (x_m X).cls ∧ (∀ w ∈ h_tb, w.before (x_a X) (x_s X) = true) ∧ va_K (x_D X) vwCl (h_tys (x_Y X)) (x_s X) ∧ x_z X ≤ (x_H X).size ∧ (x_me X).locks = false ∧ (x_R X).frames = fr ∧ (x_R X).locals = lo ∧ h_N (x_s X) ∧ x_H X = (x_s X).heap ∧ h_O (x_z X) (x_G X) (x_s X)
section HV
variable {X : h_X} {cc : ByteArray} {own : String} {nL pc fr lo bc bs : Nat} {lv : List (Nat × h_P)} {st : List h_P} {σ : h_S}
theorem v_iconst (hX : h_ok X cc nL own fr lo) {n : Int} {v : Int32} (d : decode cc pc = .ok (.iconst n, 1)) (hv : Int32.ofInt n = v) (k : h_V X nL (pc + 1) lv (pI v :: st) σ bc bs) : h_V X nL pc lv (st) σ bc bs := fun ls H locs cells slots a1 a2 a3 a4 a5 => lv_iconst hX.1 hX.2.1 d hv (k ls H locs cells slots a1 a2 a3 a4 a5)
theorem v_bipush (hX : h_ok X cc nL own fr lo) {n : Int} {v : Int32} (d : decode cc pc = .ok (.bipush n, 2)) (hv : (Int8.ofInt n).toInt32 = v) (k : h_V X nL (pc + 2) lv (pI v :: st) σ bc bs) : h_V X nL pc lv (st) σ bc bs := fun ls H locs cells slots a1 a2 a3 a4 a5 => lv_bipush hX.1 hX.2.1 d hv (k ls H locs cells slots a1 a2 a3 a4 a5)
theorem v_sipush (hX : h_ok X cc nL own fr lo) {n : Int} {v : Int32} (d : decode cc pc = .ok (.sipush n, 3)) (hv : (Int16.ofInt n).toInt32 = v) (k : h_V X nL (pc + 3) lv (pI v :: st) σ bc bs) : h_V X nL pc lv (st) σ bc bs := fun ls H locs cells slots a1 a2 a3 a4 a5 => lv_sipush hX.1 hX.2.1 d hv (k ls H locs cells slots a1 a2 a3 a4 a5)
theorem v_lconst (hX : h_ok X cc nL own fr lo) {n : Fin 2} {v : Int64} (d : decode cc pc = .ok (.lconst n, 1)) (hv : Int64.ofNat (n : Nat) = v) (k : h_V X nL (pc + 1) lv (pL v :: st) σ bc bs) : h_V X nL pc lv (st) σ bc bs := fun ls H locs cells slots a1 a2 a3 a4 a5 => lv_lconst hX.1 hX.2.1 d hv (k ls H locs cells slots a1 a2 a3 a4 a5)
theorem v_ldc (hX : h_ok X cc nL own fr lo) {index : Nat} {v : Int32} (d : decode cc pc = .ok (.ldc index, 2)) (hw : Cond.constant own index v ∈ h_tb) (k : h_V X nL (pc + 2) lv (pI v :: st) σ bc bs) : h_V X nL pc lv (st) σ bc bs := fun ls H locs cells slots a1 a2 a3 a4 a5 => lv_ldc hX.1 hX.2.1 hX.2.2.2.1 (hX.2.2.2.2.1 _ hw) d (k ls H locs cells slots a1 a2 a3 a4 a5)
theorem v_ldcw (hX : h_ok X cc nL own fr lo) {index : Nat} {v : Int32} (d : decode cc pc = .ok (.ldc_w index, 3)) (hw : Cond.constant own index v ∈ h_tb) (k : h_V X nL (pc + 3) lv (pI v :: st) σ bc bs) : h_V X nL pc lv (st) σ bc bs := fun ls H locs cells slots a1 a2 a3 a4 a5 => lv_ldcw hX.1 hX.2.1 hX.2.2.2.1 (hX.2.2.2.2.1 _ hw) d (k ls H locs cells slots a1 a2 a3 a4 a5)
theorem v_ldc2 (hX : h_ok X cc nL own fr lo) {index : Nat} {v : Int64} (d : decode cc pc = .ok (.ldc2_w index, 3)) (hw : Cond.constantLong own index v ∈ h_tb) (k : h_V X nL (pc + 3) lv (pL v :: st) σ bc bs) : h_V X nL pc lv (st) σ bc bs := fun ls H locs cells slots a1 a2 a3 a4 a5 => lv_ldc2 hX.1 hX.2.1 hX.2.2.2.1 (hX.2.2.2.2.1 _ hw) d (k ls H locs cells slots a1 a2 a3 a4 a5)
theorem v_iload_n (hX : h_ok X cc nL own fr lo) {n : Fin 4} {i : Nat} {x : Int32} (d : decode cc pc = .ok (.iload_n n, 1)) (j : Nat) (hi : (n : Nat) = i) (hk : lv[j]? = some (i, pI x)) (k : h_V X nL (pc + 1) lv (pI x :: st) σ bc bs) : h_V X nL pc lv (st) σ bc bs := fun ls H locs cells slots a1 a2 a3 a4 a5 => lv_iload_n hX.1 hX.2.1 d hi (h_lv_get a1 hk) (k ls H locs cells slots a1 a2 a3 a4 a5)
theorem v_iload (hX : h_ok X cc nL own fr lo) {i : Nat} {x : Int32} (d : decode cc pc = .ok (.iload i, 2)) (j : Nat) (hk : lv[j]? = some (i, pI x)) (k : h_V X nL (pc + 2) lv (pI x :: st) σ bc bs) : h_V X nL pc lv (st) σ bc bs := fun ls H locs cells slots a1 a2 a3 a4 a5 => lv_iload hX.1 hX.2.1 d (h_lv_get a1 hk) (k ls H locs cells slots a1 a2 a3 a4 a5)
theorem v_lload_n (hX : h_ok X cc nL own fr lo) {n : Fin 4} {i : Nat} {x : Int64} (d : decode cc pc = .ok (.lload_n n, 1)) (j : Nat) (hi : (n : Nat) = i) (hk : lv[j]? = some (i, pL x)) (k : h_V X nL (pc + 1) lv (pL x :: st) σ bc bs) : h_V X nL pc lv (st) σ bc bs := fun ls H locs cells slots a1 a2 a3 a4 a5 => lv_lload_n hX.1 hX.2.1 d hi (h_lv_get a1 hk) (k ls H locs cells slots a1 a2 a3 a4 a5)
theorem v_lload (hX : h_ok X cc nL own fr lo) {i : Nat} {x : Int64} (d : decode cc pc = .ok (.lload i, 2)) (j : Nat) (hk : lv[j]? = some (i, pL x)) (k : h_V X nL (pc + 2) lv (pL x :: st) σ bc bs) : h_V X nL pc lv (st) σ bc bs := fun ls H locs cells slots a1 a2 a3 a4 a5 => lv_lload hX.1 hX.2.1 d (h_lv_get a1 hk) (k ls H locs cells slots a1 a2 a3 a4 a5)
theorem v_aload_n (hX : h_ok X cc nL own fr lo) {n : Fin 4} {i : Nat} {r : Option Nat} (d : decode cc pc = .ok (.aload_n n, 1)) (j : Nat) (hi : (n : Nat) = i) (hk : lv[j]? = some (i, pR r)) (k : h_V X nL (pc + 1) lv (pR r :: st) σ bc bs) : h_V X nL pc lv st σ bc bs := by
  intro ls H locs cells slots a1 a2 a3 a4 a5
  have h := h_lv_get a1 hk
  have k2 := k ls H locs cells slots a1 a2 a3 a4 a5
  cases r with
  | none => exact lv_aload_nN hX.1 hX.2.1 d hi h k2
  | some a => exact lv_aload_n hX.1 hX.2.1 d hi h k2
theorem v_aload (hX : h_ok X cc nL own fr lo) {i : Nat} {r : Option Nat} (d : decode cc pc = .ok (.aload i, 2)) (j : Nat) (hk : lv[j]? = some (i, pR r)) (k : h_V X nL (pc + 2) lv (pR r :: st) σ bc bs) : h_V X nL pc lv st σ bc bs := by
  intro ls H locs cells slots a1 a2 a3 a4 a5
  have h := h_lv_get a1 hk
  have k2 := k ls H locs cells slots a1 a2 a3 a4 a5
  cases r with
  | none => exact lv_aloadN hX.1 hX.2.1 d h k2
  | some a => exact lv_aload hX.1 hX.2.1 d h k2
theorem v_istore_n (hX : h_ok X cc nL own fr lo) {n : Fin 4} {i : Nat} {x : Int32} {lv' : List (Nat × h_P)} (d : decode cc pc = .ok (.istore_n n, 1)) (hi : (n : Nat) = i) (hn : i < nL) (hl : h_st lv i (pI x) = lv') (k : h_V X nL (pc + 1) lv' st σ bc bs) : h_V X nL pc lv (pI x :: st) σ bc bs := by
  subst hl
  intro ls H locs cells slots a1 a2 a3 a4 a5
  exact lv_istore_n hX.1 hX.2.1 d hi a1 hn (h_st_eq lv i (pI x)) (fun ls' h => k ls' H locs cells slots h a2 a3 a4 a5)
theorem v_istore (hX : h_ok X cc nL own fr lo) {i : Nat} {x : Int32} {lv' : List (Nat × h_P)} (d : decode cc pc = .ok (.istore i, 2))  (hn : i < nL) (hl : h_st lv i (pI x) = lv') (k : h_V X nL (pc + 2) lv' st σ bc bs) : h_V X nL pc lv (pI x :: st) σ bc bs := by
  subst hl
  intro ls H locs cells slots a1 a2 a3 a4 a5
  exact lv_istore hX.1 hX.2.1 d a1 hn (h_st_eq lv i (pI x)) (fun ls' h => k ls' H locs cells slots h a2 a3 a4 a5)
theorem v_astore_n (hX : h_ok X cc nL own fr lo) {n : Fin 4} {i : Nat} {r : Option Nat} {lv' : List (Nat × h_P)} (d : decode cc pc = .ok (.astore_n n, 1)) (hi : (n : Nat) = i) (hn : i < nL) (hl : h_st lv i (pR r) = lv') (k : h_V X nL (pc + 1) lv' st σ bc bs) : h_V X nL pc lv (pR r :: st) σ bc bs := by
  subst hl
  intro ls H locs cells slots a1 a2 a3 a4 a5
  have e := h_st_eq lv i (pR r)
  cases r with
  | none => exact lv_astore_nN hX.1 hX.2.1 d hi a1 hn e (fun ls' h => k ls' H locs cells slots h a2 a3 a4 a5)
  | some a => exact lv_astore_n hX.1 hX.2.1 d hi a1 hn e (fun ls' h => k ls' H locs cells slots h a2 a3 a4 a5)
theorem v_astore (hX : h_ok X cc nL own fr lo) {i : Nat} {r : Option Nat} {lv' : List (Nat × h_P)} (d : decode cc pc = .ok (.astore i, 2))  (hn : i < nL) (hl : h_st lv i (pR r) = lv') (k : h_V X nL (pc + 2) lv' st σ bc bs) : h_V X nL pc lv (pR r :: st) σ bc bs := by
  subst hl
  intro ls H locs cells slots a1 a2 a3 a4 a5
  have e := h_st_eq lv i (pR r)
  cases r with
  | none => exact lv_astoreN hX.1 hX.2.1 d a1 hn e (fun ls' h => k ls' H locs cells slots h a2 a3 a4 a5)
  | some a => exact lv_astore hX.1 hX.2.1 d a1 hn e (fun ls' h => k ls' H locs cells slots h a2 a3 a4 a5)
theorem v_iinc (hX : h_ok X cc nL own fr lo) {i : Nat} {n : Int} {x c : Int32} {lv' : List (Nat × h_P)} (d : decode cc pc = .ok (.iinc i n, 3)) (j : Nat) (hk : lv[j]? = some (i, pI x)) (hc : Int32.ofInt n = c) (hn : i < nL) (hl : h_st lv i (pI (x + c)) = lv') (k : h_V X nL (pc + 3) lv' st σ bc bs) : h_V X nL pc lv st σ bc bs := by
  subst hl
  intro ls H locs cells slots a1 a2 a3 a4 a5
  exact lv_iinc hX.1 hX.2.1 d a1 (k := j) (by rw [List.getElem?_map, hk]; rfl) (by rw [hc]) hn (h_st_eq lv i (pI (x + c))) (fun ls' h => k ls' H locs cells slots h a2 a3 a4 a5)
theorem v_nn0 {r : Option Nat} {a : Nat} (e : r = some a) (k : h_V X nL pc lv (pR (some a) :: st) σ bc bs) : h_V X nL pc lv (pR r :: st) σ bc bs := by rw [e]; exact k
theorem v_nn1 {r : Option Nat} {a : Nat} {v1 : h_P} (e : r = some a) (k : h_V X nL pc lv (v1 :: pR (some a) :: st) σ bc bs) : h_V X nL pc lv (v1 :: pR r :: st) σ bc bs := by rw [e]; exact k
theorem v_nn2 {r : Option Nat} {a : Nat} {v1 v2 : h_P} (e : r = some a) (k : h_V X nL pc lv (v1 :: v2 :: pR (some a) :: st) σ bc bs) : h_V X nL pc lv (v1 :: v2 :: pR r :: st) σ bc bs := by rw [e]; exact k
theorem v_nn3 {r : Option Nat} {a : Nat} {v1 v2 v3 : h_P} (e : r = some a) (k : h_V X nL pc lv (v1 :: v2 :: v3 :: pR (some a) :: st) σ bc bs) : h_V X nL pc lv (v1 :: v2 :: v3 :: pR r :: st) σ bc bs := by rw [e]; exact k
theorem v_nn4 {r : Option Nat} {a : Nat} {v1 v2 v3 v4 : h_P} (e : r = some a) (k : h_V X nL pc lv (v1 :: v2 :: v3 :: v4 :: pR (some a) :: st) σ bc bs) : h_V X nL pc lv (v1 :: v2 :: v3 :: v4 :: pR r :: st) σ bc bs := by rw [e]; exact k
theorem v_nn5 {r : Option Nat} {a : Nat} {v1 v2 v3 v4 v5 : h_P} (e : r = some a) (k : h_V X nL pc lv (v1 :: v2 :: v3 :: v4 :: v5 :: pR (some a) :: st) σ bc bs) : h_V X nL pc lv (v1 :: v2 :: v3 :: v4 :: v5 :: pR r :: st) σ bc bs := by rw [e]; exact k
theorem v_nn6 {r : Option Nat} {a : Nat} {v1 v2 v3 v4 v5 v6 : h_P} (e : r = some a) (k : h_V X nL pc lv (v1 :: v2 :: v3 :: v4 :: v5 :: v6 :: pR (some a) :: st) σ bc bs) : h_V X nL pc lv (v1 :: v2 :: v3 :: v4 :: v5 :: v6 :: pR r :: st) σ bc bs := by rw [e]; exact k
theorem v_nn7 {r : Option Nat} {a : Nat} {v1 v2 v3 v4 v5 v6 v7 : h_P} (e : r = some a) (k : h_V X nL pc lv (v1 :: v2 :: v3 :: v4 :: v5 :: v6 :: v7 :: pR (some a) :: st) σ bc bs) : h_V X nL pc lv (v1 :: v2 :: v3 :: v4 :: v5 :: v6 :: v7 :: pR r :: st) σ bc bs := by rw [e]; exact k
theorem v_nn8 {r : Option Nat} {a : Nat} {v1 v2 v3 v4 v5 v6 v7 v8 : h_P} (e : r = some a) (k : h_V X nL pc lv (v1 :: v2 :: v3 :: v4 :: v5 :: v6 :: v7 :: v8 :: pR (some a) :: st) σ bc bs) : h_V X nL pc lv (v1 :: v2 :: v3 :: v4 :: v5 :: v6 :: v7 :: v8 :: pR r :: st) σ bc bs := by rw [e]; exact k
def h_pick (lv : List (Nat × h_P)) (ks : List Nat) : List (Nat × h_P) := ks.filterMap (fun k => lv[k]?)
theorem v_pick (ks : List Nat) {lv' : List (Nat × h_P)} (hl : h_pick lv ks = lv') (k : h_V X nL pc lv' st σ bc bs) : h_V X nL pc lv st σ bc bs := by
  subst hl
  refine fun ls H locs cells slots a1 a2 a3 a4 a5 => k ls H locs cells slots (h_sub a1 fun q hq => ?_) a2 a3 a4 a5
  obtain ⟨i, -, hi⟩ := List.mem_filterMap.mp hq
  exact List.mem_of_getElem? hi
theorem v_gen {x : Int32} (k : ∀ y : Int32, y = x → h_V X nL pc lv (pI y :: st) σ bc bs) : h_V X nL pc lv (pI x :: st) σ bc bs := k x rfl
theorem h_ti {x k : Int32} (h : ¬ x = k) {n : Int} (hk : k.toInt = n) : x.toInt ≠ n := fun e => h (Int32.toInt_inj.mp (e.trans hk.symm))
theorem v_null (hX : h_ok X cc nL own fr lo) (d : decode cc pc = .ok (.aconst_null, 1)) (k : h_V X nL (pc + 1) lv (pR none :: st) σ bc bs) : h_V X nL pc lv st σ bc bs := fun ls H locs cells slots a1 a2 a3 a4 a5 => lv_null hX.1 hX.2.1 d (k ls H locs cells slots a1 a2 a3 a4 a5)
theorem v_lshl (hX : h_ok X cc nL own fr lo) {x : Int64} {y : Int32} (d : decode cc pc = .ok (.lshl, 1)) (k : h_V X nL (pc + 1) lv (pL (h_lshl x y) :: st) σ bc bs) : h_V X nL pc lv (pI y :: pL x :: st) σ bc bs := fun ls H locs cells slots a1 a2 a3 a4 a5 => lv_lshl hX.1 hX.2.1 d rfl (k ls H locs cells slots a1 a2 a3 a4 a5)
theorem v_iadd (hX : h_ok X cc nL own fr lo) {x y : Int32} (d : decode cc pc = .ok (.iadd, 1))  (k : h_V X nL (pc + 1) lv (pI (x + y) :: st) σ bc bs) : h_V X nL pc lv (pI y :: pI x :: st) σ bc bs := fun ls H locs cells slots a1 a2 a3 a4 a5 => lv_iadd hX.1 hX.2.1 d (k ls H locs cells slots a1 a2 a3 a4 a5)
theorem v_isub (hX : h_ok X cc nL own fr lo) {x y : Int32} (d : decode cc pc = .ok (.isub, 1))  (k : h_V X nL (pc + 1) lv (pI (x - y) :: st) σ bc bs) : h_V X nL pc lv (pI y :: pI x :: st) σ bc bs := fun ls H locs cells slots a1 a2 a3 a4 a5 => lv_isub hX.1 hX.2.1 d (k ls H locs cells slots a1 a2 a3 a4 a5)
theorem v_imul (hX : h_ok X cc nL own fr lo) {x y : Int32} (d : decode cc pc = .ok (.imul, 1))  (k : h_V X nL (pc + 1) lv (pI (x * y) :: st) σ bc bs) : h_V X nL pc lv (pI y :: pI x :: st) σ bc bs := fun ls H locs cells slots a1 a2 a3 a4 a5 => lv_imul hX.1 hX.2.1 d (k ls H locs cells slots a1 a2 a3 a4 a5)
theorem v_iand (hX : h_ok X cc nL own fr lo) {x y : Int32} (d : decode cc pc = .ok (.iand, 1))  (k : h_V X nL (pc + 1) lv (pI (x &&& y) :: st) σ bc bs) : h_V X nL pc lv (pI y :: pI x :: st) σ bc bs := fun ls H locs cells slots a1 a2 a3 a4 a5 => lv_iand hX.1 hX.2.1 d (k ls H locs cells slots a1 a2 a3 a4 a5)
theorem v_ior (hX : h_ok X cc nL own fr lo) {x y : Int32} (d : decode cc pc = .ok (.ior, 1))  (k : h_V X nL (pc + 1) lv (pI (x ||| y) :: st) σ bc bs) : h_V X nL pc lv (pI y :: pI x :: st) σ bc bs := fun ls H locs cells slots a1 a2 a3 a4 a5 => lv_ior hX.1 hX.2.1 d (k ls H locs cells slots a1 a2 a3 a4 a5)
theorem v_ixor (hX : h_ok X cc nL own fr lo) {x y : Int32} (d : decode cc pc = .ok (.ixor, 1))  (k : h_V X nL (pc + 1) lv (pI (x ^^^ y) :: st) σ bc bs) : h_V X nL pc lv (pI y :: pI x :: st) σ bc bs := fun ls H locs cells slots a1 a2 a3 a4 a5 => lv_ixor hX.1 hX.2.1 d (k ls H locs cells slots a1 a2 a3 a4 a5)
theorem v_ishl (hX : h_ok X cc nL own fr lo) {x y : Int32} (d : decode cc pc = .ok (.ishl, 1))  (k : h_V X nL (pc + 1) lv (pI (x <<< (y &&& 31)) :: st) σ bc bs) : h_V X nL pc lv (pI y :: pI x :: st) σ bc bs := fun ls H locs cells slots a1 a2 a3 a4 a5 => lv_ishl hX.1 hX.2.1 d (k ls H locs cells slots a1 a2 a3 a4 a5)
theorem v_ishr (hX : h_ok X cc nL own fr lo) {x y : Int32} (d : decode cc pc = .ok (.ishr, 1))  (k : h_V X nL (pc + 1) lv (pI (x >>> (y &&& 31)) :: st) σ bc bs) : h_V X nL pc lv (pI y :: pI x :: st) σ bc bs := fun ls H locs cells slots a1 a2 a3 a4 a5 => lv_ishr hX.1 hX.2.1 d (k ls H locs cells slots a1 a2 a3 a4 a5)
theorem v_iushr (hX : h_ok X cc nL own fr lo) {x y : Int32} (d : decode cc pc = .ok (.iushr, 1))  (k : h_V X nL (pc + 1) lv (pI (h_ushr x y) :: st) σ bc bs) : h_V X nL pc lv (pI y :: pI x :: st) σ bc bs := fun ls H locs cells slots a1 a2 a3 a4 a5 => lv_iushr hX.1 hX.2.1 d rfl (k ls H locs cells slots a1 a2 a3 a4 a5)
theorem v_idiv (hX : h_ok X cc nL own fr lo) {x y : Int32} (d : decode cc pc = .ok (.idiv, 1)) (hy : ¬ y = 0) (k : h_V X nL (pc + 1) lv (pI (x / y) :: st) σ bc bs) : h_V X nL pc lv (pI y :: pI x :: st) σ bc bs := fun ls H locs cells slots a1 a2 a3 a4 a5 => lv_idiv hX.1 hX.2.1 d hy (k ls H locs cells slots a1 a2 a3 a4 a5)
theorem v_irem (hX : h_ok X cc nL own fr lo) {x y : Int32} (d : decode cc pc = .ok (.irem, 1)) (hy : ¬ y = 0) (k : h_V X nL (pc + 1) lv (pI (x - x / y * y) :: st) σ bc bs) : h_V X nL pc lv (pI y :: pI x :: st) σ bc bs := fun ls H locs cells slots a1 a2 a3 a4 a5 => lv_irem hX.1 hX.2.1 d hy (k ls H locs cells slots a1 a2 a3 a4 a5)
theorem v_ladd (hX : h_ok X cc nL own fr lo) {x y : Int64} (d : decode cc pc = .ok (.ladd, 1))  (k : h_V X nL (pc + 1) lv (pL (x + y) :: st) σ bc bs) : h_V X nL pc lv (pL y :: pL x :: st) σ bc bs := fun ls H locs cells slots a1 a2 a3 a4 a5 => lv_ladd hX.1 hX.2.1 d (k ls H locs cells slots a1 a2 a3 a4 a5)
theorem v_lsub (hX : h_ok X cc nL own fr lo) {x y : Int64} (d : decode cc pc = .ok (.lsub, 1))  (k : h_V X nL (pc + 1) lv (pL (x - y) :: st) σ bc bs) : h_V X nL pc lv (pL y :: pL x :: st) σ bc bs := fun ls H locs cells slots a1 a2 a3 a4 a5 => lv_lsub hX.1 hX.2.1 d (k ls H locs cells slots a1 a2 a3 a4 a5)
theorem v_lcmp (hX : h_ok X cc nL own fr lo) {x y : Int64} (d : decode cc pc = .ok (.lcmp, 1))  (k : h_V X nL (pc + 1) lv (pI (lg_cmp x y) :: st) σ bc bs) : h_V X nL pc lv (pL y :: pL x :: st) σ bc bs := fun ls H locs cells slots a1 a2 a3 a4 a5 => W.lcmp hX.1 hX.2.1 d (k ls H locs cells slots a1 a2 a3 a4 a5)
theorem v_i2l (hX : h_ok X cc nL own fr lo) {x : Int32} (d : decode cc pc = .ok (.i2l, 1))  (k : h_V X nL (pc + 1) lv (pL (x.toInt64) :: st) σ bc bs) : h_V X nL pc lv (pI x :: st) σ bc bs := fun ls H locs cells slots a1 a2 a3 a4 a5 => lv_i2l hX.1 hX.2.1 d rfl (k ls H locs cells slots a1 a2 a3 a4 a5)
theorem v_i2b (hX : h_ok X cc nL own fr lo) {x : Int32} (d : decode cc pc = .ok (.i2b, 1))  (k : h_V X nL (pc + 1) lv (pI (x.toInt8.toInt32) :: st) σ bc bs) : h_V X nL pc lv (pI x :: st) σ bc bs := fun ls H locs cells slots a1 a2 a3 a4 a5 => lv_i2b hX.1 hX.2.1 d rfl (k ls H locs cells slots a1 a2 a3 a4 a5)
theorem v_i2s (hX : h_ok X cc nL own fr lo) {x : Int32} (d : decode cc pc = .ok (.i2s, 1))  (k : h_V X nL (pc + 1) lv (pI (x.toInt16.toInt32) :: st) σ bc bs) : h_V X nL pc lv (pI x :: st) σ bc bs := fun ls H locs cells slots a1 a2 a3 a4 a5 => lv_i2s hX.1 hX.2.1 d rfl (k ls H locs cells slots a1 a2 a3 a4 a5)
theorem h_cat1 {v : h_P} (h : h_c2 v = false) : (h_pv v).category = 1 := by rw [h_cat, h]; rfl
theorem v_dup (hX : h_ok X cc nL own fr lo) {v : h_P} (d : decode cc pc = .ok (.dup, 1)) (hv : h_c2 v = false) (k : h_V X nL (pc + 1) lv (v :: v :: st) σ bc bs) : h_V X nL pc lv (v :: st) σ bc bs := fun ls H locs cells slots a1 a2 a3 a4 a5 => lv_dup hX.1 hX.2.1 d (h_cat1 hv) (k ls H locs cells slots a1 a2 a3 a4 a5)
theorem v_pop (hX : h_ok X cc nL own fr lo) {v : h_P} (d : decode cc pc = .ok (.pop, 1)) (hv : h_c2 v = false) (k : h_V X nL (pc + 1) lv (st) σ bc bs) : h_V X nL pc lv (v :: st) σ bc bs := fun ls H locs cells slots a1 a2 a3 a4 a5 => lv_pop hX.1 hX.2.1 d (h_cat1 hv) (k ls H locs cells slots a1 a2 a3 a4 a5)
theorem v_dup_x1 (hX : h_ok X cc nL own fr lo) {v w : h_P} (d : decode cc pc = .ok (.dup_x1, 1)) (hv : h_c2 v = false) (hw : h_c2 w = false) (k : h_V X nL (pc + 1) lv (v :: w :: v :: st) σ bc bs) : h_V X nL pc lv (v :: w :: st) σ bc bs := fun ls H locs cells slots a1 a2 a3 a4 a5 => lv_dup_x1 hX.1 hX.2.1 d (h_cat1 hv) (h_cat1 hw) (k ls H locs cells slots a1 a2 a3 a4 a5)
theorem v_dup2 (hX : h_ok X cc nL own fr lo) {v w : h_P} (d : decode cc pc = .ok (.dup2, 1)) (hv : h_c2 v = false) (hw : h_c2 w = false) (k : h_V X nL (pc + 1) lv (v :: w :: v :: w :: st) σ bc bs) : h_V X nL pc lv (v :: w :: st) σ bc bs := fun ls H locs cells slots a1 a2 a3 a4 a5 => lv_dup2_11 hX.1 hX.2.1 d (h_cat1 hv) (h_cat1 hw) (k ls H locs cells slots a1 a2 a3 a4 a5)
theorem v_icmp_eq (hX : h_ok X cc nL own fr lo) {x y : Int32} {off : Int} {tgt : Nat} (d : decode cc pc = .ok (.if_icmp .eq off, 3)) (ht : (pc : Int) + off = (tgt : Int)) (kt : x = y → h_V X nL tgt lv st σ bc bs) (kf : ¬ x = y → h_V X nL (pc + 3) lv st σ bc bs) : h_V X nL pc lv (pI y :: pI x :: st) σ bc bs := fun ls H locs cells slots a1 a2 a3 a4 a5 => lv_icmp_eq hX.1 hX.2.1 d ht (fun c => kt c ls H locs cells slots a1 a2 a3 a4 a5) (fun c => kf c ls H locs cells slots a1 a2 a3 a4 a5)
theorem v_if_eq (hX : h_ok X cc nL own fr lo) {x : Int32} {off : Int} {tgt : Nat} (d : decode cc pc = .ok (.ifCond .eq off, 3)) (ht : (pc : Int) + off = (tgt : Int)) (kt : x = 0 → h_V X nL tgt lv st σ bc bs) (kf : ¬ x = 0 → h_V X nL (pc + 3) lv st σ bc bs) : h_V X nL pc lv (pI x :: st) σ bc bs := fun ls H locs cells slots a1 a2 a3 a4 a5 => lv_if_eq hX.1 hX.2.1 d ht (fun c => kt c ls H locs cells slots a1 a2 a3 a4 a5) (fun c => kf c ls H locs cells slots a1 a2 a3 a4 a5)
theorem v_icmp_ne (hX : h_ok X cc nL own fr lo) {x y : Int32} {off : Int} {tgt : Nat} (d : decode cc pc = .ok (.if_icmp .ne off, 3)) (ht : (pc : Int) + off = (tgt : Int)) (kt : ¬ x = y → h_V X nL tgt lv st σ bc bs) (kf : x = y → h_V X nL (pc + 3) lv st σ bc bs) : h_V X nL pc lv (pI y :: pI x :: st) σ bc bs := fun ls H locs cells slots a1 a2 a3 a4 a5 => lv_icmp_ne hX.1 hX.2.1 d ht (fun c => kt c ls H locs cells slots a1 a2 a3 a4 a5) (fun c => kf c ls H locs cells slots a1 a2 a3 a4 a5)
theorem v_if_ne (hX : h_ok X cc nL own fr lo) {x : Int32} {off : Int} {tgt : Nat} (d : decode cc pc = .ok (.ifCond .ne off, 3)) (ht : (pc : Int) + off = (tgt : Int)) (kt : ¬ x = 0 → h_V X nL tgt lv st σ bc bs) (kf : x = 0 → h_V X nL (pc + 3) lv st σ bc bs) : h_V X nL pc lv (pI x :: st) σ bc bs := fun ls H locs cells slots a1 a2 a3 a4 a5 => lv_if_ne hX.1 hX.2.1 d ht (fun c => kt c ls H locs cells slots a1 a2 a3 a4 a5) (fun c => kf c ls H locs cells slots a1 a2 a3 a4 a5)
theorem v_icmp_lt (hX : h_ok X cc nL own fr lo) {x y : Int32} {off : Int} {tgt : Nat} (d : decode cc pc = .ok (.if_icmp .lt off, 3)) (ht : (pc : Int) + off = (tgt : Int)) (kt : x < y → h_V X nL tgt lv st σ bc bs) (kf : ¬ x < y → h_V X nL (pc + 3) lv st σ bc bs) : h_V X nL pc lv (pI y :: pI x :: st) σ bc bs := fun ls H locs cells slots a1 a2 a3 a4 a5 => lv_icmp_lt hX.1 hX.2.1 d ht (fun c => kt c ls H locs cells slots a1 a2 a3 a4 a5) (fun c => kf c ls H locs cells slots a1 a2 a3 a4 a5)
theorem v_if_lt (hX : h_ok X cc nL own fr lo) {x : Int32} {off : Int} {tgt : Nat} (d : decode cc pc = .ok (.ifCond .lt off, 3)) (ht : (pc : Int) + off = (tgt : Int)) (kt : x < 0 → h_V X nL tgt lv st σ bc bs) (kf : ¬ x < 0 → h_V X nL (pc + 3) lv st σ bc bs) : h_V X nL pc lv (pI x :: st) σ bc bs := fun ls H locs cells slots a1 a2 a3 a4 a5 => lv_if_lt hX.1 hX.2.1 d ht (fun c => kt c ls H locs cells slots a1 a2 a3 a4 a5) (fun c => kf c ls H locs cells slots a1 a2 a3 a4 a5)
theorem v_icmp_ge (hX : h_ok X cc nL own fr lo) {x y : Int32} {off : Int} {tgt : Nat} (d : decode cc pc = .ok (.if_icmp .ge off, 3)) (ht : (pc : Int) + off = (tgt : Int)) (kt : y ≤ x → h_V X nL tgt lv st σ bc bs) (kf : ¬ y ≤ x → h_V X nL (pc + 3) lv st σ bc bs) : h_V X nL pc lv (pI y :: pI x :: st) σ bc bs := fun ls H locs cells slots a1 a2 a3 a4 a5 => lv_icmp_ge hX.1 hX.2.1 d ht (fun c => kt c ls H locs cells slots a1 a2 a3 a4 a5) (fun c => kf c ls H locs cells slots a1 a2 a3 a4 a5)
theorem v_if_ge (hX : h_ok X cc nL own fr lo) {x : Int32} {off : Int} {tgt : Nat} (d : decode cc pc = .ok (.ifCond .ge off, 3)) (ht : (pc : Int) + off = (tgt : Int)) (kt : 0 ≤ x → h_V X nL tgt lv st σ bc bs) (kf : ¬ 0 ≤ x → h_V X nL (pc + 3) lv st σ bc bs) : h_V X nL pc lv (pI x :: st) σ bc bs := fun ls H locs cells slots a1 a2 a3 a4 a5 => lv_if_ge hX.1 hX.2.1 d ht (fun c => kt c ls H locs cells slots a1 a2 a3 a4 a5) (fun c => kf c ls H locs cells slots a1 a2 a3 a4 a5)
theorem v_icmp_gt (hX : h_ok X cc nL own fr lo) {x y : Int32} {off : Int} {tgt : Nat} (d : decode cc pc = .ok (.if_icmp .gt off, 3)) (ht : (pc : Int) + off = (tgt : Int)) (kt : y < x → h_V X nL tgt lv st σ bc bs) (kf : ¬ y < x → h_V X nL (pc + 3) lv st σ bc bs) : h_V X nL pc lv (pI y :: pI x :: st) σ bc bs := fun ls H locs cells slots a1 a2 a3 a4 a5 => lv_icmp_gt hX.1 hX.2.1 d ht (fun c => kt c ls H locs cells slots a1 a2 a3 a4 a5) (fun c => kf c ls H locs cells slots a1 a2 a3 a4 a5)
theorem v_if_gt (hX : h_ok X cc nL own fr lo) {x : Int32} {off : Int} {tgt : Nat} (d : decode cc pc = .ok (.ifCond .gt off, 3)) (ht : (pc : Int) + off = (tgt : Int)) (kt : 0 < x → h_V X nL tgt lv st σ bc bs) (kf : ¬ 0 < x → h_V X nL (pc + 3) lv st σ bc bs) : h_V X nL pc lv (pI x :: st) σ bc bs := fun ls H locs cells slots a1 a2 a3 a4 a5 => lv_if_gt hX.1 hX.2.1 d ht (fun c => kt c ls H locs cells slots a1 a2 a3 a4 a5) (fun c => kf c ls H locs cells slots a1 a2 a3 a4 a5)
theorem v_icmp_le (hX : h_ok X cc nL own fr lo) {x y : Int32} {off : Int} {tgt : Nat} (d : decode cc pc = .ok (.if_icmp .le off, 3)) (ht : (pc : Int) + off = (tgt : Int)) (kt : x ≤ y → h_V X nL tgt lv st σ bc bs) (kf : ¬ x ≤ y → h_V X nL (pc + 3) lv st σ bc bs) : h_V X nL pc lv (pI y :: pI x :: st) σ bc bs := fun ls H locs cells slots a1 a2 a3 a4 a5 => lv_icmp_le hX.1 hX.2.1 d ht (fun c => kt c ls H locs cells slots a1 a2 a3 a4 a5) (fun c => kf c ls H locs cells slots a1 a2 a3 a4 a5)
theorem v_if_le (hX : h_ok X cc nL own fr lo) {x : Int32} {off : Int} {tgt : Nat} (d : decode cc pc = .ok (.ifCond .le off, 3)) (ht : (pc : Int) + off = (tgt : Int)) (kt : x ≤ 0 → h_V X nL tgt lv st σ bc bs) (kf : ¬ x ≤ 0 → h_V X nL (pc + 3) lv st σ bc bs) : h_V X nL pc lv (pI x :: st) σ bc bs := fun ls H locs cells slots a1 a2 a3 a4 a5 => lv_if_le hX.1 hX.2.1 d ht (fun c => kt c ls H locs cells slots a1 a2 a3 a4 a5) (fun c => kf c ls H locs cells slots a1 a2 a3 a4 a5)
theorem v_goto (hX : h_ok X cc nL own fr lo) {off : Int} {tgt : Nat} (d : decode cc pc = .ok (.goto off, 3)) (ht : (pc : Int) + off = (tgt : Int)) (k : h_V X nL tgt lv st σ bc bs) : h_V X nL pc lv st σ bc bs := fun ls H locs cells slots a1 a2 a3 a4 a5 => lv_goto hX.1 hX.2.1 d ht (k ls H locs cells slots a1 a2 a3 a4 a5)
theorem v_ifnull (hX : h_ok X cc nL own fr lo) {r : Option Nat} {off : Int} {tgt : Nat} (d : decode cc pc = .ok (.ifnull off, 3)) (ht : (pc : Int) + off = (tgt : Int)) (kt : r = none → h_V X nL tgt lv st σ bc bs) (kf : ¬ r = none → h_V X nL (pc + 3) lv st σ bc bs) : h_V X nL pc lv (pR r :: st) σ bc bs := by
  intro ls H locs cells slots a1 a2 a3 a4 a5
  cases r with
  | none => exact lv_ifnullN hX.1 hX.2.1 d ht (kt rfl ls H locs cells slots a1 a2 a3 a4 a5)
  | some a => exact lv_ifnull hX.1 hX.2.1 d (kf (by simp) ls H locs cells slots a1 a2 a3 a4 a5)
theorem v_ifnonnull (hX : h_ok X cc nL own fr lo) {r : Option Nat} {off : Int} {tgt : Nat} (d : decode cc pc = .ok (.ifnonnull off, 3)) (ht : (pc : Int) + off = (tgt : Int)) (kt : ¬ r = none → h_V X nL tgt lv st σ bc bs) (kf : r = none → h_V X nL (pc + 3) lv st σ bc bs) : h_V X nL pc lv (pR r :: st) σ bc bs := by
  intro ls H locs cells slots a1 a2 a3 a4 a5
  cases r with
  | none => exact lv_ifnonnullN hX.1 hX.2.1 d (kf rfl ls H locs cells slots a1 a2 a3 a4 a5)
  | some a => exact lv_ifnonnull hX.1 hX.2.1 d ht (kt (by simp) ls H locs cells slots a1 a2 a3 a4 a5)
theorem v_tabIn (hX : h_ok X cc nL own fr lo) {dflt lo1 hi1 : Int} {offs : Array Int} {len : Nat} {x : Int32} {off : Int} {tgt : Nat} (d : decode cc pc = .ok (.tableswitch dflt lo1 hi1 offs, len)) (h1 : ¬ x.toInt < lo1) (h2 : ¬ hi1 < x.toInt) (ho : offs[(x.toInt - lo1).toNat]? = some off) (ht : (pc : Int) + off = (tgt : Int)) (k : h_V X nL tgt lv st σ bc bs) : h_V X nL pc lv (pI x :: st) σ bc bs := fun ls H locs cells slots a1 a2 a3 a4 a5 => lv_tableIn hX.1 hX.2.1 d h1 h2 ho ht (k ls H locs cells slots a1 a2 a3 a4 a5)
theorem v_tabOut (hX : h_ok X cc nL own fr lo) {dflt lo1 hi1 : Int} {offs : Array Int} {len : Nat} {x : Int32} {tgt : Nat} (d : decode cc pc = .ok (.tableswitch dflt lo1 hi1 offs, len)) (h : x.toInt < lo1 ∨ hi1 < x.toInt) (ht : (pc : Int) + dflt = (tgt : Int)) (k : h_V X nL tgt lv st σ bc bs) : h_V X nL pc lv (pI x :: st) σ bc bs := fun ls H locs cells slots a1 a2 a3 a4 a5 => lv_tableOut hX.1 hX.2.1 d h ht (k ls H locs cells slots a1 a2 a3 a4 a5)
theorem v_lookup (hX : h_ok X cc nL own fr lo) {dflt : Int} {ps : Array (Int × Int)} {len : Nat} {x : Int32} {off : Int} {tgt : Nat} (d : decode cc pc = .ok (.lookupswitch dflt ps, len)) (hp : (ps.toList.zip (ps.toList.drop 1)).all (fun (a, next) => a.1 < next.1) = true) (ho : Op.lookupswitch.offset ps.toList dflt x.toInt = off) (ht : (pc : Int) + off = (tgt : Int)) (k : h_V X nL tgt lv st σ bc bs) : h_V X nL pc lv (pI x :: st) σ bc bs := fun ls H locs cells slots a1 a2 a3 a4 a5 => lv_lookup hX.1 hX.2.1 d hp ho ht (k ls H locs cells slots a1 a2 a3 a4 a5)
theorem v_weak {lv' : List (Nat × h_P)} (hs : ∀ q ∈ lv', q ∈ lv) (k : h_V X nL pc lv' st σ bc bs) : h_V X nL pc lv st σ bc bs := fun ls H locs cells slots a1 a2 a3 a4 a5 => k ls H locs cells slots (h_sub a1 hs) a2 a3 a4 a5
end HV
