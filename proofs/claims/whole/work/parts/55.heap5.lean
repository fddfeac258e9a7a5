/-- f, but v at every address of l -/
def vr_up {α : Type} (f : Nat → α) (l : List Nat) (v : α) : Nat → α := fun a => if a ∈ l then v else f a
theorem vr_up_in {α : Type} {f : Nat → α} {l : List Nat} {v : α} {a : Nat} (h : a ∈ l) : vr_up f l v a = v := if_pos h
theorem vr_up_ne {α : Type} {f : Nat → α} {l : List Nat} {v : α} {a : Nat} (h : a ∉ l) : vr_up f l v a = f a := if_neg h
theorem vr_rows {L l : List Nat} {f : Nat → va_E} {e : va_E} (h : ∀ a, a ∈ l → a ∉ L) : va_pl L f ++ l.map (fun a => (a, e)) = va_pl (L ++ l) (vr_up f l e) := by
  unfold va_pl
  rw [List.map_append]
  congr 1
  · apply List.map_congr_left
    intro a ha
    rw [vr_up_ne (fun q => h a q ha)]
  · apply List.map_congr_left
    intro a ha
    rw [vr_up_in ha]
theorem vr_lay {X rows : va_W} {x : Nat × va_E} {pl : va_W} {D : va_G} {cl : List vw_C} {H : Heap} (hP : va_P D cl (((X ++ pl) ++ [x]) ++ rows) H) : va_P D cl ((X ++ [x]) ++ (pl ++ rows)) H := by
  rw [List.append_assoc (X ++ pl)] at hP
  have h := va_P.swap hP
  rw [← List.append_assoc X] at h
  have h2 := va_P.swap h
  rw [List.append_assoc (X ++ [x])] at h2
  exact h2
theorem vr_layD {X rows : va_W} {x : Nat × va_E} {pl : va_W} {A : Nat → Prop} (hD : va_D A (((X ++ pl) ++ [x]) ++ rows)) : va_D A ((X ++ [x]) ++ (pl ++ rows)) := by
  rw [List.append_assoc (X ++ pl)] at hD
  have h := va_D.swap hD
  rw [← List.append_assoc X] at h
  have h2 := va_D.swap h
  rw [List.append_assoc (X ++ [x])] at h2
  exact h2
theorem vr_outer (c : ClassId) (N h0 : Nat) : ∀ i : Nat, Jvm.Free.Multi.outerC c N h0 i = arrV c N (fun j => va_rf (if j < i then some (h0 + 1 + j) else none))
  | 0 => by
    show ({ cls := c, slots := Array.replicate N .null, vm := .none } : Cell) = _
    rw [arrV_new]
    refine congrArg (arrV c N) (funext fun j => ?_)
    simp [va_rf]
  | i + 1 => by
    show (Jvm.Free.Multi.outerC c N h0 i).setSlot i (.ref (h0 + 1 + i)) = _
    rw [vr_outer c N h0 i, arrV_store]
    refine congrArg (arrV c N) (funext fun j => ?_)
    by_cases e : j = i
    · subst e
      simp [updV, va_rf]
    · by_cases h : j < i
      · simp [updV, e, h, Nat.lt_succ_of_lt h]
      · simp [updV, e, h, show ¬ j < i + 1 by omega]
section VGM
variable {p : Program} {l : Launch} {e : Env} {R : Room} {s : State} {m : MethodId} {args : Array Value} {below : List Frame} {meth : Method} {c : Code} {H : Heap} {locs : List Loc} {cells slots : Nat} {Q : State → Prop}
variable {cc : ByteArray} {pc : Nat} {ls : Array Slot} {rest : List Value} {D : va_G} {cl : List vw_C} {A : Nat → Prop} {a : Nat} {tys : List (ClassId × FieldType)} {ws : va_W} {H0 : Heap}
theorem va_mna {X : va_W} {L : List Nat} {f : Nat → va_E} {cc : ByteArray} (hexec : p.tables.exec = Jvm.exec) (hb : c.code = cc) {own : String} {index : Nat} {ty : FieldType} {cy : ClassId} (hown : s.vm.findClass own = some m.cls) (hclink : (Cond.classLink own index ("[" ++ (FieldType.array ty).toString)).before args s = true) (hover : (Cond.arrayOver (.array ty)).before args s = true) (harr : (Cond.arrayClass ty).before args s = true) (hcy : s.vm.findClass (FieldType.array ty).toString = some cy)
    (hK : va_K D cl tys s) (hP : va_P D cl (X ++ va_pl L f) H) (hD : va_D A (X ++ va_pl L f)) (hS : va_S A H0 H locs) (hA : ∀ q, H0.size ≤ q → A q) {n k : Int32} {N' K' : Nat} {z : vp_A} (hn : ¬ n < 0) (hk : ¬ k < 0) (hN : n.toNatClampNeg = N') (hM : k.toNatClampNeg = K')
    (hb1 : N' * 4 ≤ 536870912) (hb2 : K' * componentBytes ty ≤ 536870912) (hb3 : K' ≤ 536870912) (hdf : fits ty (defaultValue ty) = true) (hdd : (defaultValue ty).isDefault = true) (hcells : cells + (1 + N') ≤ R.cells) (hslots : slots + (N' + N' * K') ≤ R.slots) (hz : ∀ c : ClassId, Jvm.Free.Multi.innerC c K' (defaultValue ty) = vp_cell c z) (hdg : decode cc pc = .ok (.multianewarray index 2, 4))
    (kk : ∀ (q : Nat) (r : Nat → Nat) (cA : ClassId) (H1 : Heap), (∀ i j : Nat, i < N' → j < N' → r i = r j → i = j) → (∀ i : Nat, i < N' → r i ∉ L) → va_K D cl (tys ++ [(cA, .array ty)]) s →
      va_P D cl ((X ++ [(q, .inl (cA, N', .inr (.inr (.inr (.inr (fun i => if i < N' then some (r i) else none))))))]) ++ va_pl (L ++ (List.range N').map r) (vr_up f ((List.range N').map r) (.inl (cy, z)))) H1 → va_D A ((X ++ [(q, .inl (cA, N', .inr (.inr (.inr (.inr (fun i => if i < N' then some (r i) else none))))))]) ++ va_pl (L ++ (List.range N').map r) (vr_up f ((List.range N').map r) (.inl (cy, z)))) → va_S A H0 H1 locs →
      W p l e R s m args below meth c H1 locs (cells + 1 + N') (slots + N' + N' * K') Q (F0 m (pc + 4) ls (.ref q :: rest))) : W p l e R s m args below meth c H locs cells slots Q (F0 m pc ls (.int k :: .int n :: rest)) := by
  subst hN
  subst hM
  intro T hT Xs
  obtain ⟨vm₁, cA, comp, -, fA, fC, hO, -, X', step⟩ := Xs.multianewarray2F hexec hown hclink hover harr (g := F0 m pc ls (.int k :: .int n :: rest)) rfl (by rw [hb]; exact hdg) rfl hn hk hb1 hb2 hb3 hdf hdd hcells hslots
  have ec : some cy = some comp := hcy.symm.trans fC
  cases ec
  generalize hF : Jvm.Free.Multi.fill (T.setVm vm₁) cA cy n.toNatClampNeg k.toNatClampNeg (defaultValue ty) n.toNatClampNeg = F at X' step
  have hTh : (T.setVm vm₁).heap = H := hT
  obtain ⟨f1, f2, -, -⟩ := Jvm.Free.Multi.fill_facts (T.setVm vm₁) cA cy n.toNatClampNeg k.toNatClampNeg (defaultValue ty) n.toNatClampNeg
  rw [hF, hTh] at f1 f2
  have hold : ∀ x : Nat, x < H.size → F.heap[x]? = H[x]? := fun x hx => by
    have := Jvm.Free.Multi.fill_old (T.setVm vm₁) cA cy n.toNatClampNeg k.toNatClampNeg (defaultValue ty) (a := x) (by rw [hTh]; exact hx) n.toNatClampNeg
    rw [hF, hTh] at this
    exact this
  have hrow : ∀ j : Nat, j < n.toNatClampNeg → F.heap[H.size + 1 + j]? = some (vp_cell cy z) := fun j hj => by
    have := Jvm.Free.Multi.fill_inner (T.setVm vm₁) cA cy n.toNatClampNeg k.toNatClampNeg (defaultValue ty) n.toNatClampNeg j hj
    rw [hF, hTh, hz] at this
    exact this
  have hout : Jvm.Free.Multi.outerC cA n.toNatClampNeg H.size n.toNatClampNeg = vp_cell cA (n.toNatClampNeg, .inr (.inr (.inr (.inr (fun i => if i < n.toNatClampNeg then some (H.size + 1 + i) else none))))) := by
    rw [vp_cell_q]
    exact vr_outer cA n.toNatClampNeg H.size n.toNatClampNeg
  rw [hout] at f2
  have hlt : ∀ a, a ∈ L → a < H.size := fun a ha => by
    obtain ⟨k9, hk9⟩ := va_pl_get (X := X) (f := f) ha
    exact (hP k9 _ hk9).lt
  have hnl : ∀ i : Nat, i < n.toNatClampNeg → H.size + 1 + i ∉ L := fun i _ h => by
    have := hlt _ h
    omega
  have hnm : ∀ a, a ∈ (List.range n.toNatClampNeg).map (fun i => H.size + 1 + i) → a ∉ L := fun a ha h => by
    obtain ⟨i, -, rfl⟩ := List.mem_map.mp ha
    have := hlt _ h
    omega
  have hP0 : va_P D cl (X ++ va_pl L f) F.heap := hP.kept (fun k9 x hx => hold x.1 ((hP k9 x hx).lt))
  have hP1 : va_P D cl ((X ++ va_pl L f) ++ [(H.size, .inl (cA, n.toNatClampNeg, .inr (.inr (.inr (.inr (fun i => if i < n.toNatClampNeg then some (H.size + 1 + i) else none))))))]) F.heap := hP0.app (fun k9 x hx => by
    have h0 : k9 < 1 := (List.getElem?_eq_some_iff.mp hx).1
    rw [show k9 = 0 by omega] at hx
    cases hx
    exact f2)
  have hP2 : va_P D cl (((X ++ va_pl L f) ++ [(H.size, .inl (cA, n.toNatClampNeg, .inr (.inr (.inr (.inr (fun i => if i < n.toNatClampNeg then some (H.size + 1 + i) else none))))))]) ++ ((List.range n.toNatClampNeg).map (fun i => H.size + 1 + i)).map (fun a => (a, .inl (cy, z)))) F.heap := hP1.app (fun k9 x hx => by
    obtain ⟨a, ha, rfl⟩ := List.mem_map.mp (List.mem_of_getElem? hx)
    obtain ⟨i, hi, rfl⟩ := List.mem_map.mp ha
    exact hrow i (List.mem_range.mp hi))
  have hD2 : va_D A (((X ++ va_pl L f) ++ [(H.size, .inl (cA, n.toNatClampNeg, .inr (.inr (.inr (.inr (fun i => if i < n.toNatClampNeg then some (H.size + 1 + i) else none))))))]) ++ ((List.range n.toNatClampNeg).map (fun i => H.size + 1 + i)).map (fun a => (a, .inl (cy, z)))) := by
    have hD1 := hD.push (e := .inl (cA, n.toNatClampNeg, .inr (.inr (.inr (.inr (fun i => if i < n.toNatClampNeg then some (H.size + 1 + i) else none)))))) hP rfl (hA _ hS.1)
    generalize hW1 : (X ++ va_pl L f) ++ [(H.size, .inl (cA, n.toNatClampNeg, .inr (.inr (.inr (.inr (fun i => if i < n.toNatClampNeg then some (H.size + 1 + i) else none))))))] = W1 at hD1 hP1 ⊢
    have hle : ∀ (k9 : Nat) (x : Nat × va_E), W1[k9]? = some x → x.1 ≤ H.size := fun k9 x hx => by
      rw [← hW1] at hx
      by_cases hl : k9 < (X ++ va_pl L f).length
      · rw [List.getElem?_append_left hl] at hx
        exact Nat.le_of_lt ((hP k9 x hx).lt)
      · rw [List.getElem?_append_right (by omega)] at hx
        have h0 : k9 - (X ++ va_pl L f).length < 1 := (List.getElem?_eq_some_iff.mp hx).1
        rw [show k9 - (X ++ va_pl L f).length = 0 by omega] at hx
        cases hx
        exact Nat.le_refl _
    have hr : ∀ (k9 : Nat) (x : Nat × va_E), (((List.range n.toNatClampNeg).map (fun i => H.size + 1 + i)).map (fun a => ((a, .inl (cy, z)) : Nat × va_E)))[k9]? = some x → x.1 = H.size + 1 + k9 := fun k9 x hx => by
      rw [List.getElem?_map, List.getElem?_map] at hx
      by_cases h9 : k9 < n.toNatClampNeg
      · rw [List.getElem?_range h9] at hx
        cases hx
        rfl
      · have hn0 : (List.range n.toNatClampNeg)[k9]? = none := List.getElem?_eq_none (by rw [List.length_range]; omega)
        rw [hn0] at hx
        cases hx
    refine ⟨fun i j x y hi hj hxy => ?_, fun k9 x hx => ?_⟩
    · by_cases h1 : i < W1.length <;> by_cases h2 : j < W1.length
      · rw [List.getElem?_append_left h1] at hi
        rw [List.getElem?_append_left h2] at hj
        exact hD1.1 i j x y hi hj hxy
      · rw [List.getElem?_append_left h1] at hi
        rw [List.getElem?_append_right (by omega)] at hj
        have := hle _ _ hi
        have := hr _ _ hj
        omega
      · rw [List.getElem?_append_right (by omega)] at hi
        rw [List.getElem?_append_left h2] at hj
        have := hle _ _ hj
        have := hr _ _ hi
        omega
      · rw [List.getElem?_append_right (by omega)] at hi hj
        have := hr _ _ hi
        have := hr _ _ hj
        omega
    · by_cases h1 : k9 < W1.length
      · rw [List.getElem?_append_left h1] at hx
        exact hD1.2 k9 x hx
      · rw [List.getElem?_append_right (by omega)] at hx
        have := hr _ _ hx
        exact hA _ (by have := hS.1; omega)
  have hAr : ArrOfT s cA (.array ty) := fun N9 z9 => by
    obtain ⟨-, k9, hk9, cm9, hkk9⟩ := (hO 0 0 0).1
    exact ⟨(fun q hq => by cases hq), k9, hk9, cm9, hkk9⟩
  have hK2 : va_K D cl (tys ++ [(cA, .array ty)]) s := ⟨hK.1, fun k9 x hx => by
    by_cases hl : k9 < tys.length
    · rw [List.getElem?_append_left hl] at hx
      exact hK.2 k9 x hx
    · rw [List.getElem?_append_right (by omega)] at hx
      have h0 : k9 - tys.length < 1 := (List.getElem?_eq_some_iff.mp hx).1
      rw [show k9 - tys.length = 0 by omega] at hx
      cases hx
      exact ⟨hAr, fA⟩⟩
  obtain ⟨t, a1, b1⟩ := kk H.size (fun i => H.size + 1 + i) cA F.heap (fun i j _ _ h => by have h9 : H.size + 1 + i = H.size + 1 + j := h; omega) hnl hK2 (by rw [← vr_rows hnm]; exact vr_lay hP2) (by rw [← vr_rows hnm]; exact vr_layD hD2) ⟨by rw [f1]; have := hS.1; omega, fun x h1 h2 => (hold x (Nat.lt_of_lt_of_le h1 hS.1)).trans (hS.2.1 x h1 h2), hS.2.2⟩ F rfl X'
  refine ⟨t, step t ?_, b1⟩
  have e : T.heap.size = H.size := by rw [hT]
  rw [e]
  exact a1
end VGM

theorem h_Dnd {A : Nat → Prop} {ws : va_W} (h : va_D A ws) : (ws.map (fun q => q.1)).Nodup := by
  refine List.pairwise_iff_getElem.mpr (fun i j hi hj hij he => ?_)
  rw [List.getElem_map, List.getElem_map] at he
  rw [List.length_map] at hi hj
  have := h.1 i j _ _ (List.getElem?_eq_getElem hi) (List.getElem?_eq_getElem hj) he
  omega
theorem h_ndD {A : Nat → Prop} {L : List Nat} {f : Nat → va_E} (h : L.Nodup) (hA : ∀ a ∈ L, A a) : va_D A (va_pl L f) := by
  refine ⟨fun i j p q hp hq hpq => ?_, fun k q hq => ?_⟩
  · unfold va_pl at hp hq
    rw [List.getElem?_map] at hp hq
    cases h1 : L[i]? with
    | none => rw [h1] at hp; cases hp
    | some x =>
      cases h2 : L[j]? with
      | none => rw [h2] at hq; cases hq
      | some y =>
        rw [h1] at hp
        rw [h2] at hq
        cases hp
        cases hq
        have hxy : x = y := hpq
        subst hxy
        have hi := (List.getElem?_eq_some_iff.mp h1).1
        have hj := (List.getElem?_eq_some_iff.mp h2).1
        rcases Nat.lt_trichotomy i j with hl | hl | hl
        · exact absurd ((List.getElem?_eq_some_iff.mp h1).2.trans (List.getElem?_eq_some_iff.mp h2).2.symm) (List.pairwise_iff_getElem.mp h i j hi hj hl)
        · exact hl
        · exact absurd ((List.getElem?_eq_some_iff.mp h2).2.trans (List.getElem?_eq_some_iff.mp h1).2.symm) (List.pairwise_iff_getElem.mp h j i hj hi hl)
  · obtain ⟨a, ha, rfl⟩ := List.mem_map.mp (List.mem_of_getElem? hq)
    exact hA a ha
section H5
variable {X : h_X} {cc : ByteArray} {own : String} {nL pc fr lo bc bs : Nat} {lv : List (Nat × h_P)} {st : List h_P} {σ : h_S}
theorem h_mn_L (q : Nat) (r : Nat → Nat) (k N : Nat) : ∀ i, (h_mn σ q r k N i).1 = (σ.1 ++ [q]) ++ (List.range i).map r
  | 0 => by show σ.1 ++ [q] = _; simp
  | i + 1 => by
    show (h_mn σ q r k N i).1 ++ [r i] = _
    rw [h_mn_L q r k N i, List.range_succ, List.map_append, List.append_assoc]
    rfl
theorem h_mn_k {q : Nat} {r : Nat → Nat} {k N : Nat} (b : Nat) : ∀ i, (∀ j, j < i → r j ≠ q) → h_k (h_mn σ q r k N i) b = if b = q then 8 else if b ∈ (List.range i).map r then 1 else h_k σ b
  | 0, _ => by show h_k (h_nw σ q 8 N) b = _; rw [h_k_nw]; simp
  | i + 1, hr => by
    show h_k (h_nw (h_mn σ q r k N i) (r i) 1 k) b = _
    rw [h_k_nw, h_mn_k b i (fun j hj => hr j (by omega))]
    have h0 := hr i (by omega)
    by_cases h1 : b = r i
    · rw [if_pos h1, if_neg (by rw [h1]; exact h0), if_pos (by rw [h1]; exact List.mem_map.mpr ⟨i, List.mem_range.mpr (by omega), rfl⟩)]
    · rw [if_neg h1]
      have : (b ∈ (List.range (i + 1)).map r) ↔ b ∈ (List.range i).map r := by
        rw [List.range_succ, List.map_append, List.mem_append]; simp [h1]
      simp only [this]
theorem h_mn_n {q : Nat} {r : Nat → Nat} {k N : Nat} (b : Nat) : ∀ i, (∀ j, j < i → r j ≠ q) → h_n (h_mn σ q r k N i) b = if b = q then N else if b ∈ (List.range i).map r then k else h_n σ b
  | 0, _ => by show h_n (h_nw σ q 8 N) b = _; rw [h_n_nw]; simp
  | i + 1, hr => by
    show h_n (h_nw (h_mn σ q r k N i) (r i) 1 k) b = _
    rw [h_n_nw, h_mn_n b i (fun j hj => hr j (by omega))]
    have h0 := hr i (by omega)
    by_cases h1 : b = r i
    · rw [if_pos h1, if_neg (by rw [h1]; exact h0), if_pos (by rw [h1]; exact List.mem_map.mpr ⟨i, List.mem_range.mpr (by omega), rfl⟩)]
    · rw [if_neg h1]
      have : (b ∈ (List.range (i + 1)).map r) ↔ b ∈ (List.range i).map r := by
        rw [List.range_succ, List.map_append, List.mem_append]; simp [h1]
      simp only [this]
theorem h_mn_i {q : Nat} {r : Nat → Nat} {k N : Nat} (b x : Nat) : ∀ i, h_i (h_mn σ q r k N i) b x = if b = q then 0 else if b ∈ (List.range i).map r then 0 else h_i σ b x
  | 0 => by show h_i (h_nw σ q 8 N) b x = _; rw [h_i_nw]; simp
  | i + 1 => by
    show h_i (h_nw (h_mn σ q r k N i) (r i) 1 k) b x = _
    rw [h_i_nw, h_mn_i b x i]
    by_cases h1 : b = r i
    · rw [if_pos h1]
      by_cases h2 : b = q
      · rw [if_pos h2]
      · rw [if_neg h2, if_pos (by rw [h1]; exact List.mem_map.mpr ⟨i, List.mem_range.mpr (by omega), rfl⟩)]
    · rw [if_neg h1]
      have : (b ∈ (List.range (i + 1)).map r) ↔ b ∈ (List.range i).map r := by
        rw [List.range_succ, List.map_append, List.mem_append]; simp [h1]
      simp only [this]
theorem h_mn_r {q : Nat} {r : Nat → Nat} {k N : Nat} (b x : Nat) : ∀ i, (∀ j, j < i → r j ≠ q) → h_r (h_mn σ q r k N i) b x = if b = q then (if x < i then some (r x) else none) else if b ∈ (List.range i).map r then none else h_r σ b x
  | 0, _ => by show h_r (h_nw σ q 8 N) b x = _; rw [h_r_nw]; simp
  | i + 1, hr => by
    show h_r (h_sr (h_nw (h_mn σ q r k N i) (r i) 1 k) q i (some (r i))) b x = _
    rw [h_r_sr, h_r_nw, h_mn_r b x i (fun j hj => hr j (by omega))]
    have h0 := hr i (by omega)
    by_cases h2 : b = q
    · subst h2
      by_cases hx : x = i
      · subst hx; simp
      · have : (x < i + 1) ↔ x < i := by omega
        simp [hx, Ne.symm h0, this]
    · by_cases h1 : b = r i
      · rw [if_neg (fun q => h2 q.1), if_pos h1, if_neg h2, if_pos (by rw [h1]; exact List.mem_map.mpr ⟨i, List.mem_range.mpr (by omega), rfl⟩)]
      · have : (b ∈ (List.range (i + 1)).map r) ↔ b ∈ (List.range i).map r := by
          rw [List.range_succ, List.map_append, List.mem_append]; simp [h1]
        rw [if_neg (fun q => h2 q.1), if_neg h1, if_neg h2, if_neg h2]
        simp only [this]
theorem v_mna (hX : h_ok X cc nL own fr lo) {index N K : Nat} {n k : Int32} (d : decode cc pc = .ok (.multianewarray index 2, 4)) (hw : Cond.classLink own index "[[I" ∈ h_tb) (hN : h_ix n = N) (hK : h_ix k = K) (hn : ¬ n < 0) (hk : ¬ k < 0) (hN1 : N ≤ 1000) (hK1 : K ≤ 1000) (hbc : 1 + N ≤ bc) (hbs : N + N * K ≤ bs)
    (kk : ∀ (q : Nat) (r : Nat → Nat), h_k σ q = 0 → (∀ i, i < N → h_k σ (r i) = 0 ∧ r i ≠ q) → (∀ i j, i < N → j < N → r i = r j → i = j) → h_V X nL (pc + 4) lv (pR (some q) :: st) (h_mn σ q r K N N) (bc - (1 + N)) (bs - (N + N * K))) : h_V X nL pc lv (pI k :: pI n :: st) σ bc bs := by
  intro ls H locs cells slots a1 a2 a3 a4 a5
  have hts := hX.2.2.2.2.1
  have hO := hX.2.2.2.2.2.2.2.2.2.2.2.2
  refine va_mna (D := x_D X) (X := []) (L := σ.1) (f := h_e (x_Y X) σ) (ty := .int) (cy := x_Y X 1) (z := (K, .inl (fun _ => 0))) (N' := N) (K' := K) hX.1 hX.2.1 hX.2.2.2.1 (hts _ hw) hO.2.2.2.2.2.2.2 (hts _ ac_int) (h_fnI hX) hX.2.2.2.2.2.1 a2.1 a2.2.1 a3 (fun q h => Nat.le_trans hX.2.2.2.2.2.2.1 h) hn hk hN hK (by omega) (by show K * 4 ≤ _; omega) (by omega) rfl rfl (by omega) (by omega) (fun c => ?_) d (fun q r cA H1 hinj hnl hK2 hP hD hS => ?_)
  · show ({ cls := c, slots := Array.replicate K (.int 0), vm := .none } : Cell) = _
    rw [vp_cell_i, arrV_new]
  · have e := h_tyeq hX 8 7 rfl (fun C => by simp) hK2
    subst e
    have hnd := h_Dnd hD
    have hmap : ((([] : va_W) ++ [(q, (.inl (x_Y X 8, N, .inr (.inr (.inr (.inr (fun i => if i < N then some (r i) else none))))) : va_E))]) ++ va_pl (σ.1 ++ (List.range N).map r) (vr_up (h_e (x_Y X) σ) ((List.range N).map r) (.inl (x_Y X 1, (K, .inl (fun _ => 0)))))).map (fun q => q.1) = q :: (σ.1 ++ (List.range N).map r) := by
      show q :: (va_pl (σ.1 ++ (List.range N).map r) _).map (fun q => q.1) = _
      unfold va_pl
      rw [List.map_map]
      refine congrArg _ ?_
      exact List.map_id _
    rw [hmap] at hnd
    have hq : q ∉ σ.1 ∧ ∀ i, i < N → r i ≠ q := by
      have h1 := (List.nodup_cons.mp hnd).1
      refine ⟨fun h => h1 (List.mem_append_left _ h), fun i hi e => h1 (List.mem_append_right _ (List.mem_map.mpr ⟨i, List.mem_range.mpr hi, e⟩))⟩
    have h0 : ∀ a, x_z X ≤ a → a ∉ σ.1 → h_k σ a = 0 := fun a hz ha => by
      by_cases h : h_k σ a = 0
      · exact h
      · exact absurd ((a2.2.2.1 a).mpr ⟨h, fun h9 => absurd (a2.2.2.2 a h9) (by omega)⟩) ha
    have hzq : x_z X ≤ q := hD.2 0 _ rfl
    have hzr : ∀ i, i < N → x_z X ≤ r i := fun i hi => by
      obtain ⟨j, hj⟩ := List.getElem?_of_mem (show (r i, vr_up (h_e (x_Y X) σ) ((List.range N).map r) (.inl (x_Y X 1, (K, .inl (fun _ => 0)))) (r i)) ∈ (([] : va_W) ++ [(q, (.inl (x_Y X 8, N, .inr (.inr (.inr (.inr (fun i => if i < N then some (r i) else none))))) : va_E))]) ++ va_pl (σ.1 ++ (List.range N).map r) (vr_up (h_e (x_Y X) σ) ((List.range N).map r) (.inl (x_Y X 1, (K, .inl (fun _ => 0))))) from List.mem_append_right _ (List.mem_map.mpr ⟨r i, List.mem_append_right _ (List.mem_map.mpr ⟨i, List.mem_range.mpr hi, rfl⟩), rfl⟩))
      exact hD.2 j _ hj
    have hrq : ∀ j, j < N → r j ≠ q := hq.2
    have he : ∀ b, h_e (x_Y X) (h_mn σ q r K N N) b = if b = q then .inl (x_Y X 8, N, .inr (.inr (.inr (.inr (fun i => if i < N then some (r i) else none))))) else vr_up (h_e (x_Y X) σ) ((List.range N).map r) (.inl (x_Y X 1, (K, .inl (fun _ => 0)))) b := fun b => by
      have ek := h_mn_k (σ := σ) (k := K) (N := N) b N hrq
      have en := h_mn_n (σ := σ) (k := K) (N := N) b N hrq
      by_cases hb : b = q
      · rw [if_pos hb] at ek en ⊢
        rw [h_e_2 ek (by decide) (by decide), en]
        refine congrArg (fun f => Sum.inl (x_Y X 8, N, Sum.inr (Sum.inr (Sum.inr (Sum.inr f))))) (funext fun x => ?_)
        rw [h_mn_r b x N hrq, if_pos hb]
      · rw [if_neg hb] at ek en ⊢
        unfold vr_up
        by_cases hm : b ∈ (List.range N).map r
        · rw [if_pos hm] at ek en ⊢
          rw [h_e_1 ek (by decide), en]
          refine congrArg (fun f => Sum.inl (x_Y X 1, K, Sum.inl f)) (funext fun x => ?_)
          rw [h_mn_i b x N, if_neg hb, if_pos hm]
        · rw [if_neg hm] at ek en ⊢
          refine h_e_ne ek en (funext fun x => ?_) (funext fun x => ?_)
          · rw [h_mn_i b x N, if_neg hb, if_neg hm]
          · rw [h_mn_r b x N hrq, if_neg hb, if_neg hm]
    have hW : h_W (x_D X) (x_Y X) (x_z X) (h_mn σ q r K N N) H1 := by
      have hL := h_mn_L (σ := σ) q r K N N
      have hall : ∀ a, a ∈ (h_mn σ q r K N N).1 → (a, h_e (x_Y X) (h_mn σ q r K N N) a) ∈ (([] : va_W) ++ [(q, (.inl (x_Y X 8, N, .inr (.inr (.inr (.inr (fun i => if i < N then some (r i) else none))))) : va_E))]) ++ va_pl (σ.1 ++ (List.range N).map r) (vr_up (h_e (x_Y X) σ) ((List.range N).map r) (.inl (x_Y X 1, (K, .inl (fun _ => 0))))) := fun a ha => by
        rw [he a]
        by_cases hb : a = q
        · rw [if_pos hb, hb]
          exact List.mem_append_left _ (List.mem_append_right _ (List.mem_singleton.mpr rfl))
        · rw [if_neg hb]
          refine List.mem_append_right _ (List.mem_map.mpr ⟨a, ?_, rfl⟩)
          rw [hL] at ha
          rcases List.mem_append.mp ha with h | h
          · rcases List.mem_append.mp h with h | h
            · exact List.mem_append_left _ h
            · exact absurd (List.mem_singleton.mp h) hb
          · exact List.mem_append_right _ h
      refine ⟨fun i x hx => ?_, h_ndD ?_ (fun a ha => ?_), fun b => ?_, fun b hb9 => ?_⟩
      · obtain ⟨a, ha, rfl⟩ := List.mem_map.mp (List.mem_of_getElem? hx)
        obtain ⟨j, hj⟩ := List.getElem?_of_mem (hall a ha)
        exact hP j _ hj
      · rw [hL]
        refine (List.Perm.nodup_iff ?_).mpr hnd
        show ((σ.1 ++ [q]) ++ (List.range N).map r).Perm ([q] ++ (σ.1 ++ (List.range N).map r))
        rw [← List.append_assoc]
        exact List.Perm.append_right _ List.perm_append_comm
      · obtain ⟨j, hj⟩ := List.getElem?_of_mem (hall a ha)
        exact hD.2 j _ hj
      · rw [hL, h_mn_k b N hrq]
        by_cases hb : b = q
        · simp [hb]
        · rw [if_neg hb]
          by_cases hm : b ∈ (List.range N).map r
          · rw [if_pos hm]
            exact ⟨fun _ => by decide, fun _ => List.mem_append_right _ hm⟩
          · rw [if_neg hm, List.mem_append, List.mem_append, List.mem_singleton, ← a2.2.2.1 b]
            exact ⟨fun h => h.elim (fun h => h.elim id (fun h => absurd h hb)) (fun h => absurd h hm), fun h => Or.inl (Or.inl h)⟩
      · rw [h_mn_k b N hrq] at hb9
        by_cases hb : b = q
        · rw [if_pos hb] at hb9; omega
        · rw [if_neg hb] at hb9
          by_cases hm : b ∈ (List.range N).map r
          · rw [if_pos hm] at hb9; omega
          · rw [if_neg hm] at hb9; exact a2.2.2.2 b hb9
    exact kk q r (h0 q hzq hq.1) (fun i hi => ⟨h0 _ (hzr i hi) (hnl i hi), hq.2 i hi⟩) hinj ls H1 locs (cells + 1 + N) (slots + N + N * K) a1 hW hS (by omega) (by omega)
end H5
