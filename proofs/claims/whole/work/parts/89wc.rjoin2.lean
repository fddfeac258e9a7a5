/-! join of the reference: what comes ahead of each place, the joined row, its pieces -/
section RJb
variable {t T : r_T} {s : sA} {C R A B F G : List Int32}
theorem ri_keepClash0 {a b c d z : Nat} {L : List (List Int32 × List Int32)} (hA : A.length ≤ 300) (hB : B.length ≤ 300) (hb : b ≤ A.length) (ha : a ≤ b) (hd : d ≤ B.length) (hc : c ≤ d) (w0 : r_ww T 0 A A.length) (w1 : r_ww T 1 B B.length) (hz : z ≤ 12) (hL : L.length ≤ 1000) (h : r_kc T z L) : ∃ T2, fn_X12_keepClash 0 (nI a) (nI b) (nI c) (nI d) T = some ((), T2) ∧ r_fr [73, 76, 77, 79] T T2 ∧ r_kc T2 z (L ++ [(w_sg A a b, w_sg B c d)]) ∧ r_kl z T T2 := by
  have lA := w_sg_len (R := A) (f := a) hb
  have lB := w_sg_len (R := B) (f := c) hd
  unfold fn_X12_keepClash
  rw [h.1, h.2.1, n_add]
  by_cases c1 : 12 ≤ z + L.length
  · have c1' : (12 : Int32) ≤ nI (z + L.length) := (n_le (a := 12) (by omega) (by omega)).mpr c1
    rw [fg_if_1 c1']
    exact ⟨_, rfl, r_frF (by decide), r_kc_n h c1, fun x _ => ⟨rfl, rfl⟩, fun x _ => rfl⟩
  · have c1' : ¬ (12 : Int32) ≤ nI (z + L.length) := fun w => c1 ((n_le (a := 12) (by omega) (by omega)).mp w)
    rw [fg_if_0 c1', fg_let_1, fg_if_1 rfl]
    unfold fn_X12_keepClash_35
    rw [fg_if_1 rfl]
    obtain ⟨T2, m1, m2, m3, m4, m5, m6, m7⟩ := ri_kc_47 (T := T) (F := A) (G := B) (e := 0) (K := z + L.length) (xa := nI a) (xb := nI b) (xc := nI c) (xd := nI d) (by omega) (by omega) hA hB hb ha hd hc (fun T => by
      unfold fn_X12_keepClash_118
      rw [fg_if_1 (show nI 0 = 0 from rfl), fg_if_1 (show nI 0 = 0 from rfl)]) w0 w1
    obtain ⟨k1, k2⟩ := r_kc_s h (P := w_sg A a b) (Q := w_sg B c d) (by omega) (by omega) m2 m3 (fun x => by rw [m4, lA]) (fun x => by rw [m5, lB]) m6 m7
    exact ⟨T2, m1, m2, k1, k2⟩
theorem ri_keepClash1 {a b c d z : Nat} {L : List (List Int32 × List Int32)} (hA : A.length ≤ 300) (hB : B.length ≤ 300) (hb : b ≤ A.length) (ha : a ≤ b) (hd : d ≤ B.length) (hc : c ≤ d) (w0 : r_ww T 0 A A.length) (w1 : r_ww T 1 B B.length) (hz : z ≤ 12) (hL : L.length ≤ 1000) (h : r_kc T z L) : ∃ T2, fn_X12_keepClash 1 (nI a) (nI b) (nI c) (nI d) T = some ((), T2) ∧ r_fr [73, 76, 77, 79] T T2 ∧ r_kc T2 z (L ++ [(w_sg B c d, w_sg A a b)]) ∧ r_kl z T T2 := by
  have lA := w_sg_len (R := A) (f := a) hb
  have lB := w_sg_len (R := B) (f := c) hd
  have n1 : ¬ (1 : Int32) = 0 := by decide
  unfold fn_X12_keepClash
  rw [h.1, h.2.1, n_add]
  by_cases c1 : 12 ≤ z + L.length
  · have c1' : (12 : Int32) ≤ nI (z + L.length) := (n_le (a := 12) (by omega) (by omega)).mpr c1
    rw [fg_if_1 c1']
    exact ⟨_, rfl, r_frF (by decide), r_kc_n h c1, fun x _ => ⟨rfl, rfl⟩, fun x _ => rfl⟩
  · have c1' : ¬ (12 : Int32) ≤ nI (z + L.length) := fun w => c1 ((n_le (a := 12) (by omega) (by omega)).mp w)
    rw [fg_if_0 c1', fg_let_1, fg_if_0 n1]
    unfold fn_X12_keepClash_35
    rw [fg_if_0 n1]
    obtain ⟨T2, m1, m2, m3, m4, m5, m6, m7⟩ := ri_kc_47 (T := T) (F := B) (G := A) (e := 1) (K := z + L.length) (xa := nI a) (xb := nI b) (xc := nI c) (xd := nI d) (by omega) (by omega) hB hA hd hc hb ha (fun T => by
      unfold fn_X12_keepClash_118
      rw [fg_if_0 (show ¬ nI 1 = 0 by decide), fg_if_0 (show ¬ nI 1 = 0 by decide)]) w1 w0
    obtain ⟨k1, k2⟩ := r_kc_s h (P := w_sg B c d) (Q := w_sg A a b) (by omega) (by omega) m2 m3 (fun x => by rw [m4, lB]) (fun x => by rw [m5, lA]) m6 m7
    exact ⟨T2, m1, m2, k1, k2⟩
theorem ri_jr {e f u : Nat} (he : e < 2) (hR : R.length ≤ 300) (hu : u ≤ R.length) (hf : f ≤ u) {acc : List Int32} (hw : r_ww T e R R.length) (hi : r_in 71 72 T acc) (hr : acc.length + (u - f) ≤ 600) : ∃ T2, fn_X12_joinRow (nI e) (nI f) (nI u) T = some ((), T2) ∧ r_fr [71, 72] T T2 ∧ r_in 71 72 T2 (acc ++ w_sg R f u) := ri_joinRow (f := f) he hR hu (u - f) f g_N T acc (by omega) (by have := g_N_le; omega) hw hi (by omega)
def l_J : List Nat := [71, 72, 73, 76, 77, 79]
theorem r_kc_fr {z : Nat} {L : List (List Int32 × List Int32)} {T2 : r_T} (h : r_kc T z L) (f : r_fr [71, 72] T T2) : r_kc T2 z L := by
  unfold r_kc at *
  rw [f.1 74 (by decide), f.1 73 (by decide), f.2 76 (by decide), f.2 77 (by decide), f.2 79 (by decide)]
  exact h
theorem r_in_fr {a b : Nat} {l S : List Nat} {L : List Int32} {T2 : r_T} (h : r_in a b T L) (f : r_fr S T T2) (h1 : a ∉ S) (h2 : b ∉ S) : r_in a b T2 L := ⟨by rw [f.1 a h1]; exact h.1, fun i x hx => by rw [f.2 b h2]; exact h.2 i x hx⟩
theorem ri_joinAhead {i z : Nat} {acc : List Int32} {L : List (List Int32 × List Int32)} (hC : C.length ≤ 300) (hA : A.length ≤ 300) (hB : B.length ≤ 300) (hi : i ≤ C.length) (wA : j_wd A) (wB : j_wd B) (y0 : r_wy T 0 C A (C.length + 1)) (y1 : r_wy T 1 C B (C.length + 1)) (w0 : r_ww T 0 A A.length) (w1 : r_ww T 1 B B.length) (hacc : r_in 71 72 T acc) (hr : acc.length + (j_P C A i).length + (j_P C B i).length ≤ 600) (hz : z ≤ 12) (hL : L.length ≤ 1000) (hk : r_kc T z L) : ∃ T2, fn_X12_joinAhead (nI i) T = some ((), T2) ∧ r_fr l_J T T2 ∧ r_in 71 72 T2 (acc ++ (j_one (j_P C A i) (j_P C B i)).1) ∧ r_kc T2 z (L ++ (j_one (j_P C A i) (j_P C B i)).2) ∧ r_kl z T T2 := by
  obtain ⟨a1, a2, _⟩ := y0 i (by omega)
  obtain ⟨b1, b2, _⟩ := y1 i (by omega)
  rw [Nat.mul_zero, Nat.zero_add] at a1 a2
  rw [Nat.mul_one] at b1 b2
  have ba := w_en_b (C := C) (R := A) i
  have bb := w_en_b (C := C) (R := B) i
  rw [j_P_len, j_P_len] at hr
  have pe := w_sg_nil (R := A) ba.1 ba.2
  have qe := w_sg_nil (R := B) bb.1 bb.2
  have e2 : (302 : Int32) + nI i = nI (302 + i) := by rw [show (302 : Int32) = nI 302 from rfl, n_add]
  obtain ⟨p, p1, p2, p3⟩ := ri_compareRows hA hB ba.2 bb.2 wA wB w0 w1 (w_en C A i - w_fr C A i) (w_fr C A i) (w_fr C B i) g_N (by omega) (by have := g_N_le; omega) bb.1
  have p1' : fn_X12_compareRows (nI (w_fr C A i)) (nI (w_en C A i)) (nI (w_fr C B i)) (nI (w_en C B i)) T = some (p, T) := p1
  have n1 : ¬ (1 : Int32) = 0 := by decide
  have m11 : (1 : Int32) - 1 = nI 0 := by decide
  have m10 : (1 : Int32) - 0 = nI 1 := by decide
  unfold fn_X12_joinAhead
  rw [fg_g_1 ((n_vp (by omega)).mpr (by omega)), fg_g_1 ((n_vp (by omega)).mpr (by omega)), e2, fg_g_1 ((n_vp (by omega)).mpr (by omega)), fg_let_1, fg_g_1 ((n_vp (by omega)).mpr (by omega)), fg_let_1, q_nIx (show 302 + i < 2 ^ 31 by omega), q_nIx (show i < 2 ^ 31 by omega), a1, a2, b1, b2, p1', fg_b_1]
  have jp : j_P C A i = w_sg A (w_fr C A i) (w_en C A i) := rfl
  have jq : j_P C B i = w_sg B (w_fr C B i) (w_en C B i) := rfl
  have la := w_sg_len (R := A) (f := w_fr C A i) ba.2
  have lb := w_sg_len (R := B) (f := w_fr C B i) bb.2
  have r71 : ∀ k, k ∈ [71, 72] → k ∈ l_J := by decide
  have r73 : ∀ k, k ∈ [73, 76, 77, 79] → k ∈ l_J := by decide
  have kl : ∀ {T T2 : r_T}, r_fr [71, 72] T T2 → r_kl z T T2 := fun f => ⟨fun x _ => ⟨by rw [f.2 76 (by decide)], by rw [f.2 77 (by decide)]⟩, fun x _ => by rw [f.2 79 (by decide)]⟩
  rw [jp, jq]
  unfold j_one
  by_cases c1 : w_fr C A i = w_en C A i
  · obtain ⟨T2, m1, m2, m3⟩ := ri_jr (T := T) (e := 1) (by omega) hB bb.2 bb.1 w1 hacc (by omega)
    rw [fg_if_1 (by rw [c1]), fg_if_1 (pe.mpr c1)]
    have m1' : fn_X12_joinRow 1 (nI (w_fr C B i)) (nI (w_en C B i)) T = some ((), T2) := m1
    rw [m1', fg_b_1]
    refine ⟨T2, rfl, r_frS m2 r71, m3, ?_, kl m2⟩
    show r_kc T2 z (L ++ [])
    rw [List.append_nil]
    exact r_kc_fr hk m2
  · have c1' : ¬ nI (w_fr C A i) = nI (w_en C A i) := fun w => c1 ((n_eq (by omega) (by omega)).mp w)
    rw [fg_if_0 c1', fg_if_0 (fun w => c1 (pe.mp w))]
    have alone : fn_X12_joinAhead_79 (nI (w_fr C A i)) (nI (w_en C A i)) T = fn_X12_joinAhead_79 (nI (w_fr C A i)) (nI (w_en C A i)) T → ∃ T2, fn_X12_joinAhead_79 (nI (w_fr C A i)) (nI (w_en C A i)) T = some ((), T2) ∧ r_fr l_J T T2 ∧ r_in 71 72 T2 (acc ++ w_sg A (w_fr C A i) (w_en C A i)) ∧ r_kc T2 z (L ++ []) ∧ r_kl z T T2 := by
      intro _
      obtain ⟨T2, m1, m2, m3⟩ := ri_jr (T := T) (e := 0) (by omega) hA ba.2 ba.1 w0 hacc (by omega)
      have m1' : fn_X12_joinRow 0 (nI (w_fr C A i)) (nI (w_en C A i)) T = some ((), T2) := m1
      unfold fn_X12_joinAhead_79
      rw [m1', fg_b_1, List.append_nil]
      exact ⟨T2, rfl, r_frS m2 r71, m3, r_kc_fr hk m2, kl m2⟩
    by_cases c2 : w_fr C B i = w_en C B i
    · rw [fg_if_1 (by rw [c2]), fg_if_1 (Or.inl (qe.mpr c2))]
      exact alone rfl
    · have c2' : ¬ nI (w_fr C B i) = nI (w_en C B i) := fun w => c2 ((n_eq (by omega) (by omega)).mp w)
      rw [fg_if_0 c2']
      by_cases c3 : p = 0
      · rw [fg_if_1 c3, fg_if_1 (Or.inr (p2.mp c3))]
        exact alone rfl
      · have c3' : ¬ (w_sg B (w_fr C B i) (w_en C B i) = [] ∨ s_lx (w_sg A (w_fr C A i) (w_en C A i)) (w_sg B (w_fr C B i) (w_en C B i)) = 0) := fun w => w.elim (fun q => c2 (qe.mp q)) (fun q => c3 (p2.mpr q))
        rw [fg_if_0 c3, fg_if_0 c3']
        by_cases c4 : p < 0
        · rw [fg_if_0 (Int32.not_le.mpr c4), fg_if_1 (p3.mp c4)]
          obtain ⟨T1, d1, d2, d3, d4⟩ := ri_keepClash0 hA hB ba.2 ba.1 bb.2 bb.1 w0 w1 hz hL hk
          obtain ⟨T2, m1, m2, m3⟩ := ri_jr (T := T1) (e := 0) (by omega) hA ba.2 ba.1 (fun y hy => by rw [d2.2 66 (by decide)]; exact w0 y hy) (r_in_fr (l := []) hacc d2 (by decide) (by decide)) (by omega)
          have f12 : r_fr l_J T T2 := r_frt (r_frS d2 r73) (r_frS m2 r71)
          obtain ⟨T3, o1, o2, o3⟩ := ri_jr (T := T2) (e := 1) (by omega) hB bb.2 bb.1 (fun y hy => by rw [f12.2 66 (by decide)]; exact w1 y hy) m3 (by rw [List.length_append]; omega)
          have m1' : fn_X12_joinRow 0 (nI (w_fr C A i)) (nI (w_en C A i)) T1 = some ((), T2) := m1
          unfold fn_X12_joinAhead_99
          rw [d1, fg_b_1, fg_if_1 rfl]
          unfold fn_X12_joinAhead_127
          rw [fg_if_1 rfl]
          unfold fn_X12_joinAhead_138
          rw [m1', fg_b_1, fg_if_1 rfl]
          unfold fn_X12_joinAhead_157
          rw [fg_if_1 rfl]
          unfold fn_X12_joinAhead_168
          rw [m10, o1, fg_b_1]
          refine ⟨T3, rfl, r_frt f12 (r_frS o2 r71), ?_, r_kc_fr (r_kc_fr d3 m2) o2, r_klt d4 (r_klt (kl m2) (kl o2))⟩
          rw [List.append_assoc] at o3
          exact o3
        · rw [fg_if_1 (Int32.not_lt.mp c4), fg_if_0 (fun w => c4 (p3.mpr w))]
          obtain ⟨T1, d1, d2, d3, d4⟩ := ri_keepClash1 hA hB ba.2 ba.1 bb.2 bb.1 w0 w1 hz hL hk
          obtain ⟨T2, m1, m2, m3⟩ := ri_jr (T := T1) (e := 1) (by omega) hB bb.2 bb.1 (fun y hy => by rw [d2.2 66 (by decide)]; exact w1 y hy) (r_in_fr (l := []) hacc d2 (by decide) (by decide)) (by omega)
          have f12 : r_fr l_J T T2 := r_frt (r_frS d2 r73) (r_frS m2 r71)
          obtain ⟨T3, o1, o2, o3⟩ := ri_jr (T := T2) (e := 0) (by omega) hA ba.2 ba.1 (fun y hy => by rw [f12.2 66 (by decide)]; exact w0 y hy) m3 (by rw [List.length_append]; omega)
          have m1' : fn_X12_joinRow 1 (nI (w_fr C B i)) (nI (w_en C B i)) T1 = some ((), T2) := m1
          unfold fn_X12_joinAhead_99
          rw [d1, fg_b_1, fg_if_0 n1]
          unfold fn_X12_joinAhead_127
          rw [fg_if_0 n1]
          unfold fn_X12_joinAhead_138
          rw [m1', fg_b_1, fg_if_0 n1]
          unfold fn_X12_joinAhead_157
          rw [fg_if_0 n1]
          unfold fn_X12_joinAhead_168
          rw [m11, o1, fg_b_1]
          refine ⟨T3, rfl, r_frt f12 (r_frS o2 r71), ?_, r_kc_fr (r_kc_fr d3 m2) o2, r_klt d4 (r_klt (kl m2) (kl o2))⟩
          rw [List.append_assoc] at o3
          exact o3
/-- behind the last place -/
noncomputable def fj_end (x1 : Int32) (s : r_T) : Option (Int32 × r_T) :=
  fg_if ((s.1 8) = (12 : Int32))
    (some ((-4 : Int32), s))
    (fg_b (fn_X12_piecesOfJoined s) (fun p5 s4 =>
      fg_if ((24 : Int32) < p5)
        (some ((-4 : Int32), s4))
        (fg_if (((s4.1 74) + (s4.1 73)) ≤ (12 : Int32))
          (fg_g (vp_in x1 16) (
            fg_g (vp_in (s4.2 56 (h_ix x1)) 12) (
              fg_g (vp_in (s4.1 8) 12) (
                fg_let (rt_A s4 9 (h_ix (s4.1 8)) (s4.2 9 (h_ix (s4.2 56 (h_ix x1))))) (fun s18 =>
                  fn_X12_join_198 g_N (s18.1 74) s18)))))
          (some ((-4 : Int32), s4)))))
theorem ri_join_57 {z : Nat} {x : Int32} (hC : C.length ≤ 300) (hA : A.length ≤ 300) (hB : B.length ≤ 300) (wA : j_wd A) (wB : j_wd B) (hz : z ≤ 12) : ∀ (d i N : Nat) (T : r_T) (acc : List Int32) (L : List (List Int32 × List Int32)), i + d = C.length + 1 → d < N → r_in 60 62 T C → r_wy T 0 C A (C.length + 1) → r_wy T 1 C B (C.length + 1) → r_ww T 0 A A.length → r_ww T 1 B B.length → r_in 71 72 T acc → acc.length + (j_row C A B d i).length ≤ 600 → (acc.length ≤ w_fr C A i + w_fr C B i) → L.length ≤ i → r_kc T z L → ∃ T2, fn_X12_join_57 N x (nI i) T = fj_end x T2 ∧ r_fr l_J T T2 ∧ r_in 71 72 T2 (acc ++ j_row C A B d i) ∧ r_kc T2 z (L ++ j_cl C A B d i) ∧ r_kl z T T2 := by
  intro d
  induction d with
  | zero =>
    intro i N T acc L hi hN h1 y0 y1 w0 w1 hacc hr hr2 hL hk
    obtain ⟨N, rfl⟩ : ∃ m, N = m + 1 := ⟨N - 1, by omega⟩
    refine ⟨T, ?_, r_fr0, by show r_in 71 72 T (acc ++ []); rw [List.append_nil]; exact hacc, by show r_kc T z (L ++ []); rw [List.append_nil]; exact hk, r_kl0⟩
    show fn_X12_join_57b _ _ _ _ = _
    unfold fn_X12_join_57b
    rw [h1.1, fg_if_1 ((n_lt (by omega) (by omega)).mpr (by omega))]
    rfl
  | succ d ih =>
    intro i N T acc L hi hN h1 y0 y1 w0 w1 hacc hr hr2 hL hk
    obtain ⟨N, rfl⟩ : ∃ m, N = m + 1 := ⟨N - 1, by omega⟩
    have ba := w_en_b (C := C) (R := A) i
    have bb := w_en_b (C := C) (R := B) i
    have la := j_P_len (C := C) (R := A) i
    have lb := j_P_len (C := C) (R := B) i
    have lo := j_one_len (j_P C A i) (j_P C B i)
    have lc := (j_one_cl (j_P C A i) (j_P C B i)).1
    obtain ⟨T1, m1, m2, m3, m4, m5⟩ := ri_joinAhead hC hA hB (show i ≤ C.length by omega) wA wB y0 y1 w0 w1 hacc (by omega) hz (by omega) hk
    have y0' : r_wy T1 0 C A (C.length + 1) := fun a ha => by rw [m2.2 68 (by decide), m2.2 69 (by decide), m2.2 70 (by decide)]; exact y0 a ha
    have y1' : r_wy T1 1 C B (C.length + 1) := fun a ha => by rw [m2.2 68 (by decide), m2.2 69 (by decide), m2.2 70 (by decide)]; exact y1 a ha
    have w0' : r_ww T1 0 A A.length := fun a ha => by rw [m2.2 66 (by decide)]; exact w0 a ha
    have w1' : r_ww T1 1 B B.length := fun a ha => by rw [m2.2 66 (by decide)]; exact w1 a ha
    have h1' : r_in 60 62 T1 C := r_in_fr (l := []) h1 m2 (by decide) (by decide)
    obtain ⟨_, _, k0⟩ := y0' i (by omega)
    obtain ⟨_, _, k1⟩ := y1' i (by omega)
    rw [Nat.mul_zero, Nat.zero_add] at k0
    rw [Nat.mul_one] at k1
    have er : j_row C A B (d + 1) i = (j_one (j_P C A i) (j_P C B i)).1 ++ (j_b C A B i ++ j_row C A B d (i + 1)) := rfl
    have ec : j_cl C A B (d + 1) i = (j_one (j_P C A i) (j_P C B i)).2 ++ j_cl C A B d (i + 1) := rfl
    rw [er] at hr ⊢
    rw [ec]
    rw [List.length_append, List.length_append] at hr
    have fa := w_fr_s (C := C) (R := A) i
    have fb := w_fr_s (C := C) (R := B) i
    have ga : w_en C A i ≤ w_fr C A (i + 1) := by
      rw [fa]
      by_cases q : w_kp C A i
      · rw [fg_if_1 q]; omega
      · rw [fg_if_0 q]; exact Nat.le_refl _
    have gb : w_en C B i ≤ w_fr C B (i + 1) := by
      rw [fb]
      by_cases q : w_kp C B i
      · rw [fg_if_1 q]; omega
      · rw [fg_if_0 q]; exact Nat.le_refl _
    have skip : ¬ (w_kp C A i ∧ w_kp C B i) → ∃ T2, fn_X12_join_57 N x (nI (i + 1)) T1 = fj_end x T2 ∧ r_fr l_J T T2 ∧ r_in 71 72 T2 (acc ++ ((j_one (j_P C A i) (j_P C B i)).1 ++ (j_b C A B i ++ j_row C A B d (i + 1)))) ∧ r_kc T2 z (L ++ ((j_one (j_P C A i) (j_P C B i)).2 ++ j_cl C A B d (i + 1))) ∧ r_kl z T T2 := by
      intro c
      have eb : j_b C A B i = [] := fg_if_0 c
      obtain ⟨T2, o1, o2, o3, o4, o5⟩ := ih (i + 1) N T1 (acc ++ (j_one (j_P C A i) (j_P C B i)).1) (L ++ (j_one (j_P C A i) (j_P C B i)).2) (by omega) (by omega) h1' y0' y1' w0' w1' m3 (by rw [List.length_append]; omega) (by rw [List.length_append]; omega) (by rw [List.length_append]; omega) m4
      refine ⟨T2, o1, r_frt m2 o2, ?_, ?_, r_klt m5 o5⟩
      · rw [eb, List.nil_append, ← List.append_assoc]; exact o3
      · rw [← List.append_assoc]; exact o4
    show ∃ T2, fn_X12_join_57b (fn_X12_join_57 N) _ _ _ = _ ∧ _
    unfold fn_X12_join_57b
    rw [h1.1, fg_if_0 (fun w => by have := (n_lt (a := C.length) (b := i) (by omega) (by omega)).mp w; omega), m1, fg_b_1, h1'.1, n_p1]
    by_cases c1 : C.length ≤ i
    · rw [fg_if_1 ((n_le (by omega) (by omega)).mpr c1)]
      exact skip (fun w => by have := w.1.1; omega)
    · have c1' : ¬ nI C.length ≤ nI i := fun w => c1 ((n_le (by omega) (by omega)).mp w)
      have e3 : (301 : Int32) + nI i = nI (301 + i) := by rw [show (301 : Int32) = nI 301 from rfl, n_add]
      rw [fg_if_0 c1', fg_g_1 ((n_vp (by omega)).mpr (by omega)), q_nIx (show i < 2 ^ 31 by omega), k0, q_bn_if]
      by_cases c2 : w_kp C A i
      · rw [fg_if_1 c2, e3, fg_g_1 ((n_vp (by omega)).mpr (by omega)), q_nIx (show 301 + i < 2 ^ 31 by omega), k1, q_bn_if]
        by_cases c3 : w_kp C B i
        · have eb : j_b C A B i = [w_c C i] := fg_if_1 ⟨c2, c3⟩
          have l1 : (j_b C A B i).length = 1 := by rw [eb]; rfl
          rw [fg_if_1 c2] at fa
          rw [fg_if_1 c3] at fb
          obtain ⟨ac, hac⟩ : ∃ ac, ac = acc ++ (j_one (j_P C A i) (j_P C B i)).1 := ⟨_, rfl⟩
          have lac : ac.length = acc.length + (j_one (j_P C A i) (j_P C B i)).1.length := by rw [hac, List.length_append]
          rw [← hac] at m3
          have f1 : r_fr l_J T1 (rt_F (rt_A T1 72 ac.length (w_c C i)) 71 (nI (ac.length + 1))) := r_frt (r_frA (by decide)) (r_frF (by decide))
          rw [fg_if_1 c3, fg_g_1 ((n_vp (by omega)).mpr (by omega)), m3.1, fg_g_1 ((n_vp (by omega)).mpr (by omega)), fg_let_1, fg_let_1, q_nIx (show ac.length < 2 ^ 31 by omega), w_in h1' (by omega), rt_AF, m3.1, n_p1]
          obtain ⟨T2, o1, o2, o3, o4, o5⟩ := ih (i + 1) N (rt_F (rt_A T1 72 ac.length (w_c C i)) 71 (nI (ac.length + 1))) (ac ++ [w_c C i]) (L ++ (j_one (j_P C A i) (j_P C B i)).2) (by omega) (by omega) (r_in_fr (l := []) h1' f1 (by decide) (by decide)) (fun a ha => by rw [f1.2 68 (by decide), f1.2 69 (by decide), f1.2 70 (by decide)]; exact y0' a ha) (fun a ha => by rw [f1.2 68 (by decide), f1.2 69 (by decide), f1.2 70 (by decide)]; exact y1' a ha) (fun a ha => by rw [f1.2 66 (by decide)]; exact w0' a ha) (fun a ha => by rw [f1.2 66 (by decide)]; exact w1' a ha) (r_in_sn m3 (by omega) trivial) (by rw [List.length_append, List.length_cons, List.length_nil]; omega) (by rw [List.length_append, List.length_cons, List.length_nil]; omega) (by rw [List.length_append]; omega) (r_kc_fr m4 (r_frt (r_frA (by decide)) (r_frF (by decide))))
          refine ⟨T2, o1, r_frt m2 (r_frt f1 o2), ?_, ?_, r_klt m5 (r_klt ⟨fun y _ => ⟨rfl, rfl⟩, fun y _ => rfl⟩ o5)⟩
          · rw [eb, ← List.append_assoc acc, ← hac, ← List.append_assoc ac]; exact o3
          · rw [← List.append_assoc]; exact o4
        · rw [fg_if_0 c3]
          exact skip (fun w => c3 w.2)
      · rw [fg_if_0 c2]
        exact skip (fun w => c2 w.1)
end RJb
