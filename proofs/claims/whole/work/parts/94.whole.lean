/-- the pure state at the law's start: nothing; the empty array of ArrayList is none of ours -/
def h_0 (g : h_G) : h_S := ([], (fun a => if a = g.1 then 19 else 0), (fun _ => 0), (fun _ _ => 0), (fun _ _ => none))
theorem h_arP {s : State} {args : Array Value} {ty : FieldType} (h : (Cond.arrayClass ty).before args s = true) : ∃ cA, ArrOfT s cA ty ∧ s.vm.findClass ("[" ++ ty.toString) = some cA := by
  obtain ⟨cB, kB, comp, h1, h2, h3⟩ := Cond.arrayClass_spec h
  exact ⟨cB, fun n z => ⟨fun k hk => by simp [arrV] at hk, kB, h2, comp, h3⟩, h1⟩
theorem h_arO {s : State} {args : Array Value} {C : String} (h : (Cond.arrayOver (.object C)).before args s = true) : ∃ cA, ArrOfT s cA (.object C) ∧ va_RA s cA (.object C) := by
  obtain ⟨comp, c, k, h1, h2, h3, h4, h5⟩ := Cond.arrayOver_spec h
  exact ⟨c, fun n z => ⟨fun k hk => by simp [arrV] at hk, k, h3, comp, h4⟩, k, comp, h3, h4, h1, h5⟩
theorem h_arA {s : State} {t : FieldType} (h : (Cond.arrayOver (.array t)).before #[] s = true) : ∃ cA, ArrOfT s cA (.array t) ∧ va_RA s cA (.array t) := by
  obtain ⟨comp, c, k, h1, h2, h3, h4, h5⟩ := h_aoA_spec h
  exact ⟨c, fun n z => ⟨fun k hk => by simp [arrV] at hk, k, h3, comp, h4⟩, h5⟩
theorem ls_E : Cond.laysStatic "java/util/ArrayList" "DEFAULTCAPACITY_EMPTY_ELEMENTDATA" "[Ljava/lang/Object;" ∈ lw_tbl := (h_u1 (i := 55) rfl)
theorem ao_8 : Cond.arrayOver (.array .int) ∈ lw_tbl := (h_u1 (i := 72) rfl)
theorem ls_A : Cond.laysStatic "SeenWords$Link" "ABOVE" "[I" ∈ lw_tbl := (h_u5 (i := 0) rfl)
theorem gc_decl : Cond.declares ⟨"java/lang/Object", "getClass", "()Ljava/lang/Class;"⟩ ∈ lw_tbl := (h_u10 (i := 76) rfl)
set_option maxRecDepth 100000 in
set_option maxHeartbeats 4000000 in
/-- THE LAW OUT OF ITS PURE FORM (open: the hypothesis HP is the pure statement) -/
theorem whole_start_open (HP : ∀ (g : h_G) (b L : Nat) (xs : Nat → Int32), L ≤ 4608 → w_L_law g b L xs b (h_0 g) 600000 7302249 (fun _ _ => True)) {p : Program} {e : Env} {s : State} {m : MethodId} {below : List Frame} {meth : Method} {c : Code} (l : Launch) {b L : Nat} {xs : Nat → Int32} (hL : L ≤ 4608) (C0 : lw_At p s m meth c b L xs) : W p l e room_1 s m #[Value.ref b] below meth c s.heap [] 0 0 (lw_Z below #[Value.ref b] s) (entryFrame m ([Value.ref b] : List Value).toArray 4) := by
  obtain ⟨hx, hb, hr, hml, hown, hts, hX, hbl, hlocks, hgv⟩ := id C0
  have htb : ∀ w ∈ h_tb, w.before #[Value.ref b] s = true := fun w h => hts w (List.mem_filter.mp h).1
  have hN : h_N s := fun w hw hn => by
    have h1 := hts w hw
    cases w <;> first | exact va_Nw.of rfl h1 | (exact absurd hn (by simp [h_nst]))
  obtain ⟨c0, i0, hK0⟩ := u_known (C := RJx4a65c) (T := TJx4a65c) (N := 3) (n := 3) htb hin_RJx4a65c (htb _ in_RJx4a65c)
  obtain ⟨c1, i1, hK1⟩ := u_known (C := RX0) (T := TX0) (N := 4) (n := 4) htb hin_RX0 (htb _ in_RX0)
  obtain ⟨c2, i2, hK2⟩ := u_known (C := RX1) (T := TX1) (N := 4) (n := 4) htb hin_RX1 (htb _ in_RX1)
  obtain ⟨c3, i3, hK3⟩ := u_known (C := RX2) (T := TX2) (N := 5) (n := 5) htb hin_RX2 (htb _ in_RX2)
  obtain ⟨c4, i4, hK4⟩ := u_known (C := RX3) (T := TX3) (N := 10) (n := 10) htb hin_RX3 (htb _ in_RX3)
  obtain ⟨c5, i5, hK5⟩ := u_known (C := RX4) (T := TX4) (N := 3) (n := 3) htb hin_RX4 (htb _ in_RX4)
  obtain ⟨c6, i6, hK6⟩ := u_known (C := RX5) (T := TX5) (N := 3) (n := 3) htb hin_RX5 (htb _ in_RX5)
  obtain ⟨c7, i7, hK7⟩ := u_known (C := RX6) (T := TX6) (N := 3) (n := 3) htb hin_RX6 (htb _ in_RX6)
  obtain ⟨c8, i8, hK8⟩ := u_known (C := RX7) (T := TX7) (N := 13) (n := 13) htb hin_RX7 (htb _ in_RX7)
  obtain ⟨c9, i9, hK9⟩ := u_known (C := RX8) (T := TX8) (N := 5) (n := 5) htb hin_RX8 (htb _ in_RX8)
  obtain ⟨c10, i10, hK10⟩ := u_known (C := RX9) (T := TX9) (N := 16) (n := 16) htb hin_RX9 (htb _ in_RX9)
  obtain ⟨c11, i11, hK11⟩ := u_known (C := RX10) (T := TX10) (N := 5) (n := 5) htb hin_RX10 (htb _ in_RX10)
  obtain ⟨c12, i12, hK12⟩ := u_known (C := RX11) (T := TX11) (N := 19) (n := 19) htb hin_RX11 (htb _ in_RX11)
  obtain ⟨c13, i13, hK13⟩ := u_known (C := RX12) (T := TX12) (N := 115) (n := 115) htb hin_RX12 (htb _ in_RX12)
  obtain ⟨dC, dI, hKc⟩ : ∃ (dC : Nat → ClassId) (dI : Nat → Nat → Nat), ∀ (k : Nat) (q : vw_C), vwCl[k]? = some q → u_Kn s q.1 q.2.1 q.2.2 (dC k) (dI k) := by
    refine ⟨fun k => if k = 0 then c0 else if k = 1 then c1 else if k = 2 then c2 else if k = 3 then c3 else if k = 4 then c4 else if k = 5 then c5 else if k = 6 then c6 else if k = 7 then c7 else if k = 8 then c8 else if k = 9 then c9 else if k = 10 then c10 else if k = 11 then c11 else if k = 12 then c12 else c13, fun k => if k = 0 then i0 else if k = 1 then i1 else if k = 2 then i2 else if k = 3 then i3 else if k = 4 then i4 else if k = 5 then i5 else if k = 6 then i6 else if k = 7 then i7 else if k = 8 then i8 else if k = 9 then i9 else if k = 10 then i10 else if k = 11 then i11 else if k = 12 then i12 else i13, ?_⟩
    intro k q hq
    match k, hq with
    | 0, hq => cases hq; exact hK0
    | 1, hq => cases hq; exact hK1
    | 2, hq => cases hq; exact hK2
    | 3, hq => cases hq; exact hK3
    | 4, hq => cases hq; exact hK4
    | 5, hq => cases hq; exact hK5
    | 6, hq => cases hq; exact hK6
    | 7, hq => cases hq; exact hK7
    | 8, hq => cases hq; exact hK8
    | 9, hq => cases hq; exact hK9
    | 10, hq => cases hq; exact hK10
    | 11, hq => cases hq; exact hK11
    | 12, hq => cases hq; exact hK12
    | 13, hq => cases hq; exact hK13
    | k + 14, hq => simp [vwCl] at hq
  obtain ⟨y1, a1, n1⟩ := h_arP (htb _ ac_int)
  obtain ⟨y2, a2, n2⟩ := h_arP (htb _ ac_boolean)
  obtain ⟨y3, a3, n3⟩ := h_arO (hts _ ao_3)
  obtain ⟨y4, a4, n4⟩ := h_arO (hts _ ao_4)
  obtain ⟨y5, a5, n5⟩ := h_arO (hts _ ao_5)
  obtain ⟨y6, a6, n6⟩ := h_arO (hts _ ao_6)
  obtain ⟨y7, a7, n7⟩ := h_arO (hts _ ao_7)
  have hAA : (Cond.arrayOver (.array .int)).before #[] s = true := hts _ ao_8
  obtain ⟨y8, a8, n8⟩ := h_arA hAA
  obtain ⟨Y, e1, e2, e3, e4, e5, e6, e7, e8⟩ : ∃ Y : Nat → ClassId, Y 1 = y1 ∧ Y 2 = y2 ∧ Y 3 = y3 ∧ Y 4 = y4 ∧ Y 5 = y5 ∧ Y 6 = y6 ∧ Y 7 = y7 ∧ Y 8 = y8 :=
    ⟨fun k => if k = 1 then y1 else if k = 2 then y2 else if k = 3 then y3 else if k = 4 then y4 else if k = 5 then y5 else if k = 6 then y6 else if k = 7 then y7 else y8, rfl, rfl, rfl, rfl, rfl, rfl, rfl, rfl⟩
  subst e1 e2 e3 e4 e5 e6 e7 e8
  have hK : va_K (dC, dI) vwCl (h_tys Y) s := ⟨hKc, fun k q hq => by
    match k, hq with
    | 0, hq => cases hq; exact ⟨a1, n1⟩
    | 1, hq => cases hq; exact ⟨a2, n2⟩
    | 2, hq => cases hq; exact ⟨a3, n3⟩
    | 3, hq => cases hq; exact ⟨a4, n4⟩
    | 4, hq => cases hq; exact ⟨a5, n5⟩
    | 5, hq => cases hq; exact ⟨a6, n6⟩
    | 6, hq => cases hq; exact ⟨a7, n7⟩
    | 7, hq => cases hq; exact ⟨a8, n8⟩
    | k + 8, hq => simp at hq⟩
  have hs := flat_of_before _ hgv
  have hA : ∀ a : Nat, a < s.heap.size → ¬ h_A s.heap.size a := fun a h => Nat.not_le.mpr h
  obtain ⟨tE, hE1, hE2⟩ := va_Tof (tm := .static "java/util/ArrayList" "DEFAULTCAPACITY_EMPTY_ELEMENTDATA" "[Ljava/lang/Object;") (ty := .object "java/lang/Object") (N := 0) (f := fun _ => .null) (A := h_A s.heap.size) (by decide) (hs _ (by decide +kernel)) (va_eqt (z := 0) (hs _ (by decide +kernel))) (fun j h => absurd h (Nat.not_lt_zero j)) hA
  have hel : ∀ j : Nat, j < 5 → (Term.elem (.static "SeenWords$Link" "ABOVE" "[I") (.int (Int32.ofNat j))).eval #[Value.ref b] s none [] s = some (.int (h_abv j)) := fun j hj => by
    rcases (show j = 0 ∨ j = 1 ∨ j = 2 ∨ j = 3 ∨ j = 4 by omega) with rfl | rfl | rfl | rfl | rfl
    · exact va_eqt (z := -9) (hs _ (by decide +kernel))
    · exact va_eqt (z := 0) (hs _ (by decide +kernel))
    · exact va_eqt (z := 1) (hs _ (by decide +kernel))
    · exact va_eqt (z := 0) (hs _ (by decide +kernel))
    · exact va_eqt (z := 3) (hs _ (by decide +kernel))
  obtain ⟨tA, hA1, hA2⟩ := va_Tof (tm := .static "SeenWords$Link" "ABOVE" "[I") (ty := .int) (N := 5) (f := fun j => .int (h_abv j)) (A := h_A s.heap.size) (by decide) (hs _ (by decide +kernel)) (va_eqt (z := 5) (hs _ (by decide +kernel))) hel hA
  obtain ⟨mi, hM⟩ := va_Mi.of (C := "[Ljava/lang/Object;") (hs _ (by decide +kernel))
  have hO : h_O s.heap.size (tE, tA, mi) s := ⟨va_Zof (hts _ ls_E) (htb _ it_RJx4a65c) hE1 hA, hE2, va_Zof (hts _ ls_A) (htb _ it_RX1) hA1 hA, hA2, hM, va_Dc.of (hts _ gc_decl), fun C hC => va_AO.of (hts _ hC), hAA⟩
  have htE : tE < s.heap.size := (Array.getElem?_eq_some_iff.mp hE2.choose_spec.1).1
  have hl := lv_entry ([.ref b]) (n := 4) (Nat.le_of_ble_eq_true rfl)
  rw [lg_entry_eq]
  have k := law_V (X := (p, l, e, room_1, s, m, #[Value.ref b], below, meth, c, (dC, dI), Y, s.heap.size, s.heap, lw_Z below #[Value.ref b] s, (tE, tA, mi))) (b := b) (L := L) (xs := xs) ⟨hX, hbl, rfl⟩ ⟨hx, hb, hml, hown, htb, hK, Nat.le_refl _, hlocks, rfl, rfl, hN, rfl, hO⟩ ⟨rfl, rfl, rfl, hr, rfl⟩ (HP (tE, tA, mi) b L xs hL)
  refine k _ _ [] 0 0 hl ⟨fun k q h => by simp [h_0, va_pl] at h, ⟨fun i j p q h => by simp [h_0, va_pl] at h, fun k q h => by simp [h_0, va_pl] at h⟩, fun a => ?_, fun a ha => ?_⟩ va_S.rf rfl rfl
  · show a ∈ ([] : List Nat) ↔ ((if a = tE then 19 else 0) ≠ 0 ∧ (if a = tE then 19 else 0) ≠ 19)
    by_cases h : a = tE <;> simp [h]
  · have ha : (if a = tE then 19 else 0) = 19 := ha
    by_cases h : a = tE
    · rw [h]; exact htE
    · rw [if_neg h] at ha; omega
