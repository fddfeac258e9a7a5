section LR
variable {X : h_X} {cc : ByteArray} {own : String} {nL pc fr lo bc bs : Nat} {lv : List (Nat × h_P)} {st : List h_P} {σ : h_S}
/-- the script, outside -/
def h_scr (X : h_X) (b L : Nat) (xs : Nat → Int32) : Prop := va_X b L xs (x_s X) (x_s X).heap ∧ b < (x_s X).heap.size ∧ x_z X = (x_s X).heap.size
/-- the law's end -/
def h_lend (X : h_X) (b : Nat) : Prop := x_R X = room_1 ∧ x_a X = #[Value.ref b] ∧ x_Q X = lw_Z (x_b X) #[Value.ref b] (x_s X) ∧ (x_me X).sig.returnType = ret ∧ x_z X = (x_s X).heap.size
theorem v_sld (hX : h_ok X cc nL own fr lo) {b L a : Nat} {xs : Nat → Int32} (hS0 : h_scr X b L xs) {i : Int32} (d : decode cc pc = .ok (.iaload, 1)) (e : a = b) (hin : vp_in i L) (kk : h_V X nL (pc + 1) lv (pI (xs (h_ix i)) :: st) σ bc bs) : h_V X nL pc lv (pI i :: pR (some a) :: st) σ bc bs := by
  subst e
  intro ls H locs cells slots a1 a2 a3 a4 a5
  have hbA : ¬ h_A (x_z X) a := by show ¬ x_z X ≤ a; rw [hS0.2.2]; exact Nat.not_le.mpr hS0.2.1
  exact va_sld (A := h_A (x_z X)) hX.1 hX.2.1 hS0.1 hS0.2.1 hbA (by rw [← hX.2.2.2.2.2.2.2.2.2.2.2.1]; exact a3) hin d (kk ls H locs cells slots a1 a2 a3 a4 a5)
theorem v_slen (hX : h_ok X cc nL own fr lo) {b L a : Nat} {xs : Nat → Int32} (hS0 : h_scr X b L xs) (d : decode cc pc = .ok (.arraylength, 1)) (e : a = b) (kk : h_V X nL (pc + 1) lv (pI (Int32.ofNat L) :: st) σ bc bs) : h_V X nL pc lv (pR (some a) :: st) σ bc bs := by
  subst e
  intro ls H locs cells slots a1 a2 a3 a4 a5
  have hbA : ¬ h_A (x_z X) a := by show ¬ x_z X ≤ a; rw [hS0.2.2]; exact Nat.not_le.mpr hS0.2.1
  exact va_slen (A := h_A (x_z X)) hX.1 hX.2.1 hS0.1 hS0.2.1 hbA (by rw [← hX.2.2.2.2.2.2.2.2.2.2.2.1]; exact a3) d (kk ls H locs cells slots a1 a2 a3 a4 a5)
theorem v_lawret (hX : h_ok X code nL own fr lo) {b : Nat} (hE : h_lend X b) (d : decode code pc = .ok (.ireturn, 1)) : h_V X nL pc lv [pI 1] σ bc bs := by
  intro ls H locs cells slots a1 a2 a3 a4 a5
  obtain ⟨e1, e2, e3, e4, e5⟩ := hE
  have hlocs : ∀ q ∈ locs, (x_s X).heap.size ≤ q.base := fun q hq => by rw [← e5]; exact a3.2.2 q hq
  rw [e1] at a4 a5
  have h1 : cells ≤ 600000 := by have : room_1.cells = 600000 := rfl; omega
  have h2 : slots ≤ 7302249 := by have : room_1.slots = 7302249 := rfl; omega
  refine va_forget hlocs ?_
  refine W.widen (k := 600000) (n := 7302249) h1 h2 ?_
  rw [e1, e2, e3]
  exact lw_ret hX.1 hX.2.1 e4 hX.2.2.2.2.2.2.2.1 d
end LR
