/-! join of the class: weaving -/
section CWw
variable {k k2 : h_S} {s : sA} {y : c_Y} {M : Nat} {C R A B L : List Int32}
/-- the pieces of code that append a side's put -/
theorem ci_frag {e i : Nat} {α : Type} (he : e < 2) (hF : c_F k) (hi : i < 301) (F : Unit → h_S → Option α) : fg_g (vp_in (nI e) 2) (fg_g (vp_in (nI e) 2) (fg_o (h_r k 40 (h_ix (nI e))) (fun a8 => fg_g (h_k k a8 = 1) (fg_g (vp_in (nI i) (h_n k a8)) (fg_g (vp_in (nI e) 2) (fg_o (h_r k 43 (h_ix (nI e))) (fun a14 => fg_g (h_k k a14 = 1) (fg_g (vp_in (nI i) (h_n k a14)) (fg_b (fn_X9_append (h_r k 36 (h_ix (nI e))) (h_i k a8 (h_ix (nI i))) (h_i k a14 (h_ix (nI i))) k) F))))))))) = fg_b (fn_X9_append (some (37 + e)) (h_i k (41 + e) i) (h_i k (44 + e) i) k) F := by
  obtain ⟨⟨k41, n41⟩, ⟨k44, n44⟩, _⟩ := c_k3 hF he
  obtain ⟨r1, r2, r3⟩ := c_r3 hF he
  have g : vp_in (nI e) 2 := (n_vp (by omega)).mpr (by omega)
  have g2 : vp_in (nI i) 301 := (n_vp (by omega)).mpr (by omega)
  rw [fg_g_1 g, fg_g_1 g, q_nIx (show e < 2 ^ 31 by omega), r1, fg_o_1, fg_g_1 k41, n41, fg_g_1 g2, fg_g_1 g, r2, fg_o_1, fg_g_1 k44, n44, fg_g_1 g2, r3, q_nIx (show i < 2 ^ 31 by omega)]
theorem ci_orderOfPuts {i a b c d : Nat} (hA : A.length ≤ 300) (hB : B.length ≤ 300) (hi : i < 301) (hab : a ≤ b) (hb : b ≤ A.length) (hcd : c ≤ d) (hd : d ≤ B.length) (hF : c_F k) (rA : c_rw k 37 A) (rB : c_rw k 38 B) (x0 : h_i k 41 i = nI a) (x1 : h_i k 42 i = nI c) (x2 : h_i k 44 i = nI b) (x3 : h_i k 45 i = nI d) : ∃ p, fn_X9_orderOfPuts (nI i) k = some (p, k) ∧ (p = 0 ↔ s_lx (w_sg A a b) (w_sg B c d) = 0) ∧ (p < 0 ↔ s_lx (w_sg A a b) (w_sg B c d) = 1) := by
  obtain ⟨p, p1, p2⟩ := ci_order_39 hA hB hi hab hb hcd hd hF rA rB x0 x1 (b - a) 0 g_N (Nat.zero_add _) (by have := g_N_le; omega) (Nat.zero_le _)
  refine ⟨p, ?_, p2⟩
  obtain ⟨⟨k41, n41⟩, ⟨k44, n44⟩, _⟩ := c_k3 (e := 0) hF (by omega)
  obtain ⟨⟨k42, n42⟩, ⟨k45, n45⟩, _⟩ := c_k3 (e := 1) hF (by omega)
  have r40 : h_r k 40 (h_ix (0 : Int32)) = some 41 := (c_r3 (e := 0) hF (by omega)).1
  have r43 : h_r k 43 (h_ix (0 : Int32)) = some 44 := (c_r3 (e := 0) hF (by omega)).2.1
  have r40' : h_r k 40 (h_ix (1 : Int32)) = some 42 := (c_r3 (e := 1) hF (by omega)).1
  have r43' : h_r k 43 (h_ix (1 : Int32)) = some 45 := (c_r3 (e := 1) hF (by omega)).2.1
  have k41 : h_k k 41 = 1 := k41
  have n41 : h_n k 41 = 301 := n41
  have k44 : h_k k 44 = 1 := k44
  have n44 : h_n k 44 = 301 := n44
  have k42 : h_k k 42 = 1 := k42
  have n42 : h_n k 42 = 301 := n42
  have k45 : h_k k 45 = 1 := k45
  have n45 : h_n k 45 = 301 := n45
  have v0 : vp_in (0 : Int32) 2 := (n_vp (k := 0) (n := 2) (by decide)).mpr (by decide)
  have v1 : vp_in (1 : Int32) 2 := (n_vp (k := 1) (n := 2) (by decide)).mpr (by decide)
  have g2 : vp_in (nI i) 301 := (n_vp (by omega)).mpr (by omega)
  unfold fn_X9_orderOfPuts
  rw [fg_g_1 v0, r43, fg_o_1, fg_g_1 k44, n44, fg_g_1 g2, fg_g_1 v0, r40, fg_o_1, fg_g_1 k41, n41, fg_g_1 g2, fg_let_1, fg_g_1 v1, r43', fg_o_1, fg_g_1 k45, n45, fg_g_1 g2, fg_g_1 v1, r40', fg_o_1, fg_g_1 k42, n42, fg_g_1 g2, fg_let_1, q_nIx (show i < 2 ^ 31 by omega), x0, x1, x2, x3, n_sub hab, n_sub hcd]
  exact p1
theorem ci_joinPuts {i : Nat} {acc : List Int32} {L : List (List Int32 × List Int32)} (hC : C.length ≤ 300) (hA : A.length ≤ 300) (hB : B.length ≤ 300) (hi : i ≤ C.length) (hW : c_WV k C A B) (hj : c_jn k acc) (hr : acc.length + (j_P C A i).length + (j_P C B i).length ≤ 600) (hL : L.length ≤ 1000) (hc : c_cn k acc L) : ∃ k3, fn_X9_joinPuts (nI i) k = some ((), k3) ∧ c_ww c_Wj k k3 ∧ c_WV k3 C A B ∧ c_jn k3 (acc ++ (j_one (j_P C A i) (j_P C B i)).1) ∧ c_cn k3 (acc ++ (j_one (j_P C A i) (j_P C B i)).1) (L ++ (j_one (j_P C A i) (j_P C B i)).2) := by
  obtain ⟨hF, ⟨y0, y1⟩, ⟨r35, r37, r38⟩, h4, _⟩ := id hW
  obtain ⟨a1, a2⟩ := y0 i (by omega)
  obtain ⟨b1, b2⟩ := y1 i (by omega)
  have ba := w_en_b (C := C) (R := A) i
  have bb := w_en_b (C := C) (R := B) i
  rw [j_P_len, j_P_len] at hr
  have pe := w_sg_nil (R := A) ba.1 ba.2
  have qe := w_sg_nil (R := B) bb.1 bb.2
  have la := w_sg_len (R := A) (f := w_fr C A i) ba.2
  have lb := w_sg_len (R := B) (f := w_fr C B i) bb.2
  have jp : j_P C A i = w_sg A (w_fr C A i) (w_en C A i) := rfl
  have jq : j_P C B i = w_sg B (w_fr C B i) (w_en C B i) := rfl
  have s10 : ∀ k, k ∈ [10, 47] → k ∈ c_Wj := by decide
  obtain ⟨p, p1, p2, p3⟩ := ci_orderOfPuts hA hB (show i < 301 by omega) ba.1 ba.2 bb.1 bb.2 hF r37 r38 a1 b1 a2 b2
  obtain ⟨⟨k41, n41⟩, ⟨k44, n44⟩, _⟩ := c_k3 (e := 0) hF (by omega)
  obtain ⟨⟨k42, n42⟩, ⟨k45, n45⟩, _⟩ := c_k3 (e := 1) hF (by omega)
  have r40 : h_r k 40 (h_ix (0 : Int32)) = some 41 := (c_r3 (e := 0) hF (by omega)).1
  have r43 : h_r k 43 (h_ix (0 : Int32)) = some 44 := (c_r3 (e := 0) hF (by omega)).2.1
  have r40' : h_r k 40 (h_ix (1 : Int32)) = some 42 := (c_r3 (e := 1) hF (by omega)).1
  have r43' : h_r k 43 (h_ix (1 : Int32)) = some 45 := (c_r3 (e := 1) hF (by omega)).2.1
  have k41 : h_k k 41 = 1 := k41
  have n41 : h_n k 41 = 301 := n41
  have k44 : h_k k 44 = 1 := k44
  have n44 : h_n k 44 = 301 := n44
  have k42 : h_k k 42 = 1 := k42
  have n42 : h_n k 42 = 301 := n42
  have k45 : h_k k 45 = 1 := k45
  have n45 : h_n k 45 = 301 := n45
  have a1' : h_i k 41 i = nI (w_fr C A i) := a1
  have a2' : h_i k 44 i = nI (w_en C A i) := a2
  have b1' : h_i k 42 i = nI (w_fr C B i) := b1
  have b2' : h_i k 45 i = nI (w_en C B i) := b2
  have v0 : vp_in (0 : Int32) 2 := (n_vp (k := 0) (n := 2) (by decide)).mpr (by decide)
  have v1 : vp_in (1 : Int32) 2 := (n_vp (k := 1) (n := 2) (by decide)).mpr (by decide)
  have g2 : vp_in (nI i) 301 := (n_vp (by omega)).mpr (by omega)
  have f52 : fn_X9_joinPuts_52 (nI i) k = fg_b (fn_X9_append (some 37) (nI (w_fr C A i)) (nI (w_en C A i)) k) (fun _ s17 => some ((), s17)) := by
    have := ci_frag (e := 0) (i := i) (by omega) hF (by omega) (fun (_ : Unit) s17 => some ((), s17))
    rw [a1, a2] at this
    exact this
  have alone : ∃ k3, fn_X9_joinPuts_52 (nI i) k = some ((), k3) ∧ c_ww c_Wj k k3 ∧ c_WV k3 C A B ∧ c_jn k3 (acc ++ w_sg A (w_fr C A i) (w_en C A i)) ∧ c_cn k3 (acc ++ w_sg A (w_fr C A i) (w_en C A i)) (L ++ []) := by
    obtain ⟨k3, m1, m2, m3, m4⟩ := ci_append (a := 37) (by decide) (by decide) hA ba.2 ba.1 hF r37 hj (by omega)
    rw [f52, m1, fg_b_1, List.append_nil]
    exact ⟨k3, rfl, c_wwS m2 s10, c_WV_ww hW (c_wwS m2 s10) (m4 4 (by decide)), m3, c_cn_ap hc m2 m4⟩
  have two : ∀ (e : Nat) (F G : List Int32) (f u f2 u2 : Nat), e < 2 → F.length ≤ 300 → G.length ≤ 300 → u ≤ F.length → f ≤ u → u2 ≤ G.length → f2 ≤ u2 → acc.length + (u - f) + (u2 - f2) ≤ 600 → h_i k (41 + e) i = nI f → h_i k (44 + e) i = nI u → h_i k (41 + (1 - e)) i = nI f2 → h_i k (44 + (1 - e)) i = nI u2 → c_rw k (37 + e) F → c_rw k (37 + (1 - e)) G → ∃ k3, fn_X9_joinPuts_124 (nI i) (nI e) k = some ((), k3) ∧ c_ww c_Wj k k3 ∧ c_WV k3 C A B ∧ c_jn k3 (acc ++ (w_sg F f u ++ w_sg G f2 u2)) ∧ c_cn k3 (acc ++ (w_sg F f u ++ w_sg G f2 u2)) (L ++ [(w_sg F f u, w_sg G f2 u2)]) := by
    intro e F G f u f2 u2 he lF lG hu hf hu2 hf2 hroom x1 x2 x3 x4 rF rG
    have lf := w_sg_len (R := F) (f := f) hu
    have lg := w_sg_len (R := G) (f := f2) hu2
    have e1 : (1 : Int32) - nI e = nI (1 - e) := by rw [show (1 : Int32) = nI 1 from rfl, n_sub (by omega)]
    obtain ⟨k3, m1, m2, m3, m4⟩ := ci_append (a := 37 + e) (by omega) (by omega) lF hu hf hF rF hj (by omega)
    obtain ⟨k4, o1, o2, o3, o4⟩ := ci_append (k := k3) (a := 37 + (1 - e)) (f := f2) (u := u2) (by omega) (by omega) lG hu2 hf2 m2.1 (c_rw_ww rG m2 (by simp; omega)) m3 (by rw [List.length_append]; omega)
    have cn4 := c_cn_ap (D := w_sg G f2 u2) (c_cn_ap (D := w_sg F f u) hc m2 m4) o2 o4
    rw [List.append_assoc] at o3 cn4
    obtain ⟨k5, q1, q2, q3, q4, q5⟩ := ci_noteClash o2.1 o3 (by rw [List.length_append, List.length_append]; omega) hL cn4
    have ww4 : c_ww c_Wj k k4 := c_wwt (c_wwS m2 s10) (c_wwS o2 s10)
    have ww5 : c_ww c_Wj k k5 := c_wwt ww4 q2
    refine ⟨k5, ?_, ww5, c_WV_ww hW ww5 (by rw [q5 4 (by decide), o4 4 (by decide), m4 4 (by decide)]), q3, q4⟩
    unfold fn_X9_joinPuts_124
    rw [ci_frag he hF (by omega), x1, x2, m1, fg_b_1, e1, ci_frag (e := 1 - e) (by omega) m2.1 (by omega), (m2.2 (41 + (1 - e)) (by simp; omega)).2.2.1, (m2.2 (44 + (1 - e)) (by simp; omega)).2.2.1, x3, x4, o1, fg_b_1, hj.1, m3.1, List.length_append, q1, fg_b_1]
  unfold fn_X9_joinPuts
  rw [fg_g_1 v0, r43, fg_o_1, fg_g_1 k44, n44, fg_g_1 g2, fg_g_1 v0, r40, fg_o_1, fg_g_1 k41, n41, fg_g_1 g2, fg_let_1, fg_g_1 v1, r43', fg_o_1, fg_g_1 k45, n45, fg_g_1 g2, fg_g_1 v1, r40', fg_o_1, fg_g_1 k42, n42, fg_g_1 g2, fg_let_1, q_nIx (show i < 2 ^ 31 by omega), a1', a2', b1', b2', n_sub ba.1, n_sub bb.1, p1, fg_b_1, jp, jq]
  have z0 : ∀ n, n ≤ 300 → (nI n = 0 ↔ n = 0) := fun n hn => n_eq (b := 0) (by omega) (by omega)
  unfold j_one
  by_cases c2 : w_fr C B i = w_en C B i
  · rw [fg_if_1 ((z0 _ (by omega)).mpr (by omega))]
    by_cases c1 : w_fr C A i = w_en C A i
    · rw [fg_if_1 (pe.mpr c1)]
      rw [pe.mpr c1] at alone
      rw [qe.mpr c2]
      exact alone
    · rw [fg_if_0 (fun w => c1 (pe.mp w)), fg_if_1 (Or.inl (qe.mpr c2))]
      exact alone
  · rw [fg_if_0 (fun w => by have := (z0 _ (by omega)).mp w; omega)]
    by_cases c3 : p = 0
    · rw [fg_if_1 c3]
      have e0 := (s_lx_0 _ _).mp (p2.mp c3)
      by_cases c1 : w_fr C A i = w_en C A i
      · rw [fg_if_1 (pe.mpr c1), ← e0]
        exact alone
      · rw [fg_if_0 (fun w => c1 (pe.mp w)), fg_if_1 (Or.inr (p2.mp c3))]
        exact alone
    · rw [fg_if_0 c3]
      by_cases c1 : w_fr C A i = w_en C A i
      · rw [fg_if_1 ((z0 _ (by omega)).mpr (by omega)), fg_if_1 (pe.mpr c1)]
        obtain ⟨k3, m1, m2, m3, m4⟩ := ci_append (a := 38) (by decide) (by decide) hB bb.2 bb.1 hF r38 hj (by omega)
        have fr := ci_frag (e := 1) (i := i) (by omega) hF (by omega) (fun (_ : Unit) s17 => some ((), s17))
        rw [b1, b2] at fr
        have fr' : fg_g (vp_in (1 : Int32) 2) (fg_g (vp_in (1 : Int32) 2) (fg_o (h_r k 40 (h_ix (1 : Int32))) (fun a8 => fg_g (h_k k a8 = 1) (fg_g (vp_in (nI i) (h_n k a8)) (fg_g (vp_in (1 : Int32) 2) (fg_o (h_r k 43 (h_ix (1 : Int32))) (fun a14 => fg_g (h_k k a14 = 1) (fg_g (vp_in (nI i) (h_n k a14)) (fg_b (fn_X9_append (h_r k 36 (h_ix (1 : Int32))) (h_i k a8 (h_ix (nI i))) (h_i k a14 (h_ix (nI i))) k) (fun (_ : Unit) s17 => some ((), s17))))))))))) = fg_b (fn_X9_append (some 38) (nI (w_fr C B i)) (nI (w_en C B i)) k) (fun (_ : Unit) s17 => some ((), s17)) := fr
        rw [q_nIx (show i < 2 ^ 31 by omega)] at fr'
        rw [fr', m1, fg_b_1]
        refine ⟨k3, rfl, c_wwS m2 s10, c_WV_ww hW (c_wwS m2 s10) (m4 4 (by decide)), m3, ?_⟩
        show c_cn k3 _ (L ++ [])
        rw [List.append_nil]
        exact c_cn_ap hc m2 m4
      · have c3' : ¬ (w_sg B (w_fr C B i) (w_en C B i) = [] ∨ s_lx (w_sg A (w_fr C A i) (w_en C A i)) (w_sg B (w_fr C B i) (w_en C B i)) = 0) := fun w => w.elim (fun q => c2 (qe.mp q)) (fun q => c3 (p2.mpr q))
        rw [fg_if_0 (fun w => by have := (z0 _ (by omega)).mp w; omega), fg_if_0 (fun w => c1 (pe.mp w)), fg_if_0 c3']
        by_cases c4 : p < 0
        · rw [fg_if_0 (Int32.not_le.mpr c4), fg_if_1 (p3.mp c4)]
          exact two 0 A B _ _ _ _ (by omega) hA hB ba.2 ba.1 bb.2 bb.1 (by omega) a1 a2 b1 b2 r37 r38
        · rw [fg_if_1 (Int32.not_lt.mp c4), fg_if_0 (fun w => c4 (p3.mpr w))]
          exact two 1 B A _ _ _ _ (by omega) hB hA bb.2 bb.1 ba.2 ba.1 (by omega) b1 b2 a1 a2 r38 r37
theorem ci_weave_92 (hC : C.length ≤ 300) (hA : A.length ≤ 300) (hB : B.length ≤ 300) : ∀ (d i N : Nat) (k : h_S) (acc : List Int32) (L : List (List Int32 × List Int32)), i + d = C.length + 1 → d < N → c_WV k C A B → c_jn k acc → c_cn k acc L → acc.length + (j_row C A B d i).length ≤ 600 → acc.length ≤ w_fr C A i + w_fr C B i → L.length ≤ i → ∃ k3, fn_X9_weaveBy_92 N (nI i) k = some ((), k3) ∧ c_ww c_Wj k k3 ∧ c_jn k3 (acc ++ j_row C A B d i) ∧ c_cn k3 (acc ++ j_row C A B d i) (L ++ j_cl C A B d i) := by
  intro d
  induction d with
  | zero =>
    intro i N k acc L hi hN hW hj hc hr hr2 hL
    obtain ⟨N, rfl⟩ : ∃ m, N = m + 1 := ⟨N - 1, by omega⟩
    refine ⟨k, ?_, c_ww0 hW.1, by show c_jn k (acc ++ []); rw [List.append_nil]; exact hj, by show c_cn k (acc ++ []) (L ++ []); rw [List.append_nil, List.append_nil]; exact hc⟩
    show fn_X9_weaveBy_92b _ _ _ = _
    unfold fn_X9_weaveBy_92b
    rw [hW.2.2.2.1, fg_if_1 ((n_lt (by omega) (by omega)).mpr (by omega))]
  | succ d ih =>
    intro i N k acc L hi hN hW hj hc hr hr2 hL
    obtain ⟨N, rfl⟩ : ∃ m, N = m + 1 := ⟨N - 1, by omega⟩
    have ba := w_en_b (C := C) (R := A) i
    have bb := w_en_b (C := C) (R := B) i
    have la := j_P_len (C := C) (R := A) i
    have lb := j_P_len (C := C) (R := B) i
    have lo := j_one_len (j_P C A i) (j_P C B i)
    have lc := (j_one_cl (j_P C A i) (j_P C B i)).1
    obtain ⟨k1, m1, m2, m3, m4, m5⟩ := ci_joinPuts hC hA hB (show i ≤ C.length by omega) hW hj (by omega) (by omega) hc
    have er : j_row C A B (d + 1) i = (j_one (j_P C A i) (j_P C B i)).1 ++ (j_b C A B i ++ j_row C A B d (i + 1)) := rfl
    have ec : j_cl C A B (d + 1) i = (j_one (j_P C A i) (j_P C B i)).2 ++ j_cl C A B d (i + 1) := rfl
    rw [er] at hr ⊢
    rw [ec]
    rw [List.length_append, List.length_append] at hr
    have fa := w_fr_s (C := C) (R := A) i
    have fb := w_fr_s (C := C) (R := B) i
    have ga : w_en C A i ≤ w_fr C A (i + 1) := by
      rw [fa]
      by_cases q : w_kp C A i
      · rw [fg_if_1 q]; omega
      · rw [fg_if_0 q]; exact Nat.le_refl _
    have gb : w_en C B i ≤ w_fr C B (i + 1) := by
      rw [fb]
      by_cases q : w_kp C B i
      · rw [fg_if_1 q]; omega
      · rw [fg_if_0 q]; exact Nat.le_refl _
    have skip : ¬ (w_kp C A i ∧ w_kp C B i) → ∃ k3, fn_X9_weaveBy_92 N (nI (i + 1)) k1 = some ((), k3) ∧ c_ww c_Wj k k3 ∧ c_jn k3 (acc ++ ((j_one (j_P C A i) (j_P C B i)).1 ++ (j_b C A B i ++ j_row C A B d (i + 1)))) ∧ c_cn k3 (acc ++ ((j_one (j_P C A i) (j_P C B i)).1 ++ (j_b C A B i ++ j_row C A B d (i + 1)))) (L ++ ((j_one (j_P C A i) (j_P C B i)).2 ++ j_cl C A B d (i + 1))) := by
      intro c
      have eb : j_b C A B i = [] := fg_if_0 c
      obtain ⟨k3, o1, o2, o3, o4⟩ := ih (i + 1) N k1 (acc ++ (j_one (j_P C A i) (j_P C B i)).1) (L ++ (j_one (j_P C A i) (j_P C B i)).2) (by omega) (by omega) m3 m4 m5 (by rw [List.length_append]; omega) (by rw [List.length_append]; omega) (by rw [List.length_append]; omega)
      rw [eb, List.nil_append, ← List.append_assoc acc, ← List.append_assoc L]
      exact ⟨k3, o1, c_wwt m2 o2, o3, o4⟩
    show ∃ k3, fn_X9_weaveBy_92b (fn_X9_weaveBy_92 N) _ _ = _ ∧ _
    unfold fn_X9_weaveBy_92b
    rw [hW.2.2.2.1, fg_if_0 (fun w => by have := (n_lt (a := C.length) (b := i) (by omega) (by omega)).mp w; omega), m1, fg_b_1, m3.2.2.2.1, n_p1]
    by_cases c1 : C.length ≤ i
    · rw [fg_if_1 ((n_le (by omega) (by omega)).mpr c1)]
      exact skip (fun w => by have := w.1.1; omega)
    · have c1' : ¬ nI C.length ≤ nI i := fun w => c1 ((n_le (by omega) (by omega)).mp w)
      rw [fg_if_0 c1', fg_g_1 ((n_vp (by omega)).mpr (by omega)), q_nIx (show i < 2 ^ 31 by omega), m3.2.2.2.2 i (by omega), q_bn_if]
      by_cases c2 : w_kp C A i ∧ w_kp C B i
      · have eb : j_b C A B i = [w_c C i] := fg_if_1 c2
        have l1 : (j_b C A B i).length = 1 := by rw [eb]; rfl
        rw [fg_if_1 c2.1] at fa
        rw [fg_if_1 c2.2] at fb
        obtain ⟨ac, hac⟩ : ∃ ac, ac = acc ++ (j_one (j_P C A i) (j_P C B i)).1 := ⟨_, rfl⟩
        have lac : ac.length = acc.length + (j_one (j_P C A i) (j_P C B i)).1.length := by rw [hac, List.length_append]
        rw [← hac] at m4 m5
        obtain ⟨k2, q1, q2, q3, q4⟩ := ci_append (k := k1) (a := 35) (f := i) (u := i + 1) (by decide) (by decide) hC (by omega) (by omega) m3.1 m3.2.2.1.1 m4 (by omega)
        have e1 : w_sg C i (i + 1) = [w_c C i] := by rw [w_sg_c (by omega) (by omega), w_sg_n (Nat.le_refl _)]
        rw [e1] at q3
        have q5 := c_cn_ap (D := [w_c C i]) m5 q2 q4
        have s10 : ∀ k, k ∈ [10, 47] → k ∈ c_Wj := by decide
        obtain ⟨k3, o1, o2, o3, o4⟩ := ih (i + 1) N k2 (ac ++ [w_c C i]) (L ++ (j_one (j_P C A i) (j_P C B i)).2) (by omega) (by omega) (c_WV_ww m3 (c_wwS q2 s10) (q4 4 (by decide))) q3 q5 (by rw [List.length_append, List.length_cons, List.length_nil]; omega) (by rw [List.length_append, List.length_cons, List.length_nil]; omega) (by rw [List.length_append]; omega)
        rw [fg_if_1 c2, cf_r m3.1 (show c_fr 10 3 = some 35 by decide), q1, fg_b_1, eb, ← List.append_assoc acc, ← hac, ← List.append_assoc ac, ← List.append_assoc L]
        exact ⟨k3, o1, c_wwt m2 (c_wwt (c_wwS q2 s10) o2), o3, o4⟩
      · rw [fg_if_0 c2]
        exact skip c2
def c_W9 : List Nat := [10, 31, 32, 33, 35, 37, 38, 39, 41, 42, 44, 45, 46, 47, 48, 49, 50]
theorem ci_weave_47 (hC : C.length ≤ 300) (hA : A.length ≤ 300) (hB : B.length ≤ 300) : ∀ (d j N : Nat) (k : h_S), j + d = 300 → d < N → c_F k → c_rw k 35 C → c_rw k 37 A → c_rw k 38 B → h_i k 10 4 = nI C.length → h_i k 39 0 = nI A.length → h_i k 39 1 = nI B.length → (∀ a, a < j → h_i k 46 a = 0) → ∃ k3, fn_X9_weaveBy_47 N (nI j) k = some ((), k3) ∧ c_ww c_W9 k k3 ∧ c_jn k3 (j_row C A B (C.length + 1) 0) ∧ c_cn k3 (j_row C A B (C.length + 1) 0) (j_cl C A B (C.length + 1) 0) := by
  intro d
  induction d with
  | zero =>
    intro j N k hj hN hF r35 r37 r38 h4 h0 h1 hg
    obtain ⟨N, rfl⟩ : ∃ m, N = m + 1 := ⟨N - 1, by omega⟩
    obtain ⟨k1, a1, a2, a3, a4⟩ := ci_findWay (e := 0) (G := fun _ => False) (by omega) hC hA hF r35 r37 h4 h0 (fun a ha => by rw [hg a (by omega), q_b0 id])
    obtain ⟨k2, b1, b2, b3, b4⟩ := ci_findWay (k := k1) (e := 1) (G := fun a => False ∨ ¬ w_kp C A a) (by omega) hC hB a2.1 (c_rw_ww r35 a2 (by decide)) (c_rw_ww r38 a2 (by decide)) (by rw [(a2.2 10 (by decide)).2.2.1]; exact h4) (by rw [(a2.2 39 (by decide)).2.2.1]; exact h1) a4
    have s0 : ∀ x, x ∈ c_Wf 0 → x ∈ c_W9 := by decide
    have s1 : ∀ x, x ∈ c_Wf 1 → x ∈ c_W9 := by decide
    have w2 : c_ww c_W9 k k2 := c_wwt (c_wwS a2 s0) (c_wwS b2 s1)
    obtain ⟨k3, hk3⟩ : ∃ k3, k3 = h_si (h_si k2 10 11 0) 10 15 0 := ⟨_, rfl⟩
    have w3 : c_ww [10] k2 k3 := by rw [hk3]; exact c_wwt (c_ww_si b2.1 (by simp)) (c_ww_si b2.1 (by simp))
    have o10 : ∀ i, i ≠ 11 → i ≠ 15 → h_i k3 10 i = h_i k2 10 i := fun i h1 h2 => by rw [hk3, h_i_si, if_neg (fun q => h2 q.2), h_i_si, if_neg (fun q => h1 q.2)]
    have hWV : c_WV k3 C A B := by
      refine ⟨w3.1, ⟨fun i hi => ?_, fun i hi => ?_⟩, ⟨?_, ?_, ?_⟩, ?_, fun a ha => ?_⟩
      · rw [(w3.2 (41 + 0) (by decide)).2.2.1, (w3.2 (44 + 0) (by decide)).2.2.1, (b2.2 (41 + 0) (by decide)).2.2.1, (b2.2 (44 + 0) (by decide)).2.2.1]; exact a3 i hi
      · rw [(w3.2 (41 + 1) (by decide)).2.2.1, (w3.2 (44 + 1) (by decide)).2.2.1]; exact b3 i hi
      · exact c_rw_ww (c_rw_ww (c_rw_ww r35 a2 (by decide)) b2 (by decide)) w3 (by decide)
      · exact c_rw_ww (c_rw_ww (c_rw_ww r37 a2 (by decide)) b2 (by decide)) w3 (by decide)
      · exact c_rw_ww (c_rw_ww (c_rw_ww r38 a2 (by decide)) b2 (by decide)) w3 (by decide)
      · rw [o10 4 (by decide) (by decide), (b2.2 10 (by decide)).2.2.1, (a2.2 10 (by decide)).2.2.1]; exact h4
      · rw [(w3.2 46 (by decide)).2.2.1, b4 a ha]
        refine q_bc ⟨fun q => ?_, fun q => ?_⟩
        · intro w
          rcases q with (q | q) | q
          · exact q
          · exact q w.1
          · exact q w.2
        · by_cases c : w_kp C A a
          · exact Or.inr (fun z => q ⟨c, z⟩)
          · exact Or.inl (Or.inr c)
    have hrow := j_row_len (C := C) (A := A) (B := B) (C.length + 1) 0
    obtain ⟨k4, d1, d2, d3, d4⟩ := ci_weave_92 hC hA hB (C.length + 1) 0 g_N k3 [] [] (by omega) (by have := g_N_le; omega) hWV ⟨by rw [hk3, h_i_si, if_neg (by omega), h_i_si, if_pos ⟨rfl, rfl⟩]; rfl, fun i x hx => by cases hx⟩ ⟨by rw [hk3, h_i_si, if_pos ⟨rfl, rfl⟩]; rfl, fun n P Q hn => by cases hn⟩ (by show 0 + _ ≤ _; omega) (Nat.zero_le _) (Nat.le_refl _)
    rw [List.nil_append] at d3 d4
    rw [List.nil_append] at d4
    refine ⟨k4, ?_, c_wwt w2 (c_wwt (c_wwS w3 (by decide)) (c_wwS d2 (by decide))), d3, d4⟩
    have a1' : fn_X9_findWay 0 k = some ((), k1) := a1
    have b1' : fn_X9_findWay 1 k1 = some ((), k2) := b1
    have c0 : (300 : Int32) ≤ nI j := (n_le (a := 300) (by omega) (by omega)).mpr (by omega)
    show fn_X9_weaveBy_47b _ _ _ = _
    unfold fn_X9_weaveBy_47b
    rw [fg_if_1 c0, a1', fg_b_1, b1', fg_b_1, fg_let_1, fg_let_1, ← hk3]
    exact d1
  | succ d ih =>
    intro j N k hj hN hF r35 r37 r38 h4 h0 h1 hg
    obtain ⟨N, rfl⟩ : ∃ m, N = m + 1 := ⟨N - 1, by omega⟩
    have w1 : c_ww [46] k (h_si k 46 j 0) := c_ww_si hF (by simp)
    obtain ⟨k3, m1, m2, m3, m4⟩ := ih (j + 1) N (h_si k 46 j 0) (by omega) (by omega) hF (c_rw_ww r35 w1 (by decide)) (c_rw_ww r37 w1 (by decide)) (c_rw_ww r38 w1 (by decide)) (by rw [h_i_si, if_neg (by omega)]; exact h4) (by rw [h_i_si, if_neg (by omega)]; exact h0) (by rw [h_i_si, if_neg (by omega)]; exact h1) (fun a ha => by
      rw [h_i_si]
      by_cases c : a = j
      · rw [if_pos ⟨rfl, c⟩]
      · rw [if_neg (fun q => c q.2)]; exact hg a (by omega))
    refine ⟨k3, ?_, c_wwt (c_wwS w1 (by decide)) m2, m3, m4⟩
    have c0 : ¬ (300 : Int32) ≤ nI j := fun w => by have := (n_le (a := 300) (b := j) (by omega) (by omega)).mp w; omega
    show fn_X9_weaveBy_47b (fn_X9_weaveBy_47 N) _ _ = _
    unfold fn_X9_weaveBy_47b
    rw [fg_if_0 c0, fg_g_1 ((n_vp (by omega)).mpr (by omega)), fg_let_1, q_nIx (by omega), n_p1]
    exact m1
theorem ci_weaveBy {a b c : Nat} {LA LB LC : List Int32} (hF : c_F k) (ha : 128 ≤ a) (hb : 128 ≤ b) (hc : 128 ≤ c) (lA : LA.length ≤ 300) (lB : LB.length ≤ 300) (lC : LC.length ≤ 300) (rA : c_rw k a LA) (nA : h_n k a = LA.length) (rB : c_rw k b LB) (nB : h_n k b = LB.length) (rC : c_rw k c LC) (nC : h_n k c = LC.length) : ∃ k3, fn_X9_weaveBy (some a) (some b) (some c) k = some ((), k3) ∧ c_ww c_W9 k k3 ∧ c_jn k3 (j_row (s_kp 0 LC) (s_kp 0 LA) (s_kp 0 LB) ((s_kp 0 LC).length + 1) 0) ∧ c_cn k3 (j_row (s_kp 0 LC) (s_kp 0 LA) (s_kp 0 LB) ((s_kp 0 LC).length + 1) 0) (j_cl (s_kp 0 LC) (s_kp 0 LA) (s_kp 0 LB) ((s_kp 0 LC).length + 1) 0) := by
  have eA := s_kp_len 0 LA
  have eB := s_kp_len 0 LB
  have eC := s_kp_len 0 LC
  obtain ⟨k1, a1, a2, a3⟩ := ci_withoutGaps (b := 35) hF (by omega) lC rC nC (cf_k hF rfl (by decide)) (cf_n (a := 35) hF rfl (by decide) rfl)
  obtain ⟨K1, h1⟩ : ∃ K, K = h_si k1 10 4 (nI (s_kp 0 LC).length) := ⟨_, rfl⟩
  have w1 : c_ww [10, 35] k K1 := by rw [h1]; exact c_wwt (c_wwS a2 (by simp)) (c_ww_si a2.1 (by simp))
  obtain ⟨k2, b1, b2, b3⟩ := ci_withoutGaps (k := K1) (a := a) (b := 37) w1.1 (by omega) lA (c_rw_ww rA w1 (by simp; omega)) (by rw [(w1.2 a (by simp; omega)).2.1]; exact nA) (cf_k w1.1 rfl (by decide)) (cf_n (a := 37) w1.1 rfl (by decide) rfl)
  obtain ⟨K2, h2⟩ : ∃ K, K = h_si k2 39 0 (nI (s_kp 0 LA).length) := ⟨_, rfl⟩
  have w2 : c_ww [37, 39] K1 K2 := by rw [h2]; exact c_wwt (c_wwS b2 (by simp)) (c_ww_si b2.1 (by simp))
  obtain ⟨k3, d1, d2, d3⟩ := ci_withoutGaps (k := K2) (a := b) (b := 38) w2.1 (by omega) lB (c_rw_ww (c_rw_ww rB w1 (by simp; omega)) w2 (by simp; omega)) (by rw [(w2.2 b (by simp; omega)).2.1, (w1.2 b (by simp; omega)).2.1]; exact nB) (cf_k w2.1 rfl (by decide)) (cf_n (a := 38) w2.1 rfl (by decide) rfl)
  obtain ⟨K3, h3⟩ : ∃ K, K = h_si k3 39 1 (nI (s_kp 0 LB).length) := ⟨_, rfl⟩
  have w3 : c_ww [38, 39] K2 K3 := by rw [h3]; exact c_wwt (c_wwS d2 (by simp)) (c_ww_si d2.1 (by simp))
  have v0 : vp_in (0 : Int32) 2 := (n_vp (k := 0) (n := 2) (by decide)).mpr (by decide)
  have v1 : vp_in (1 : Int32) 2 := (n_vp (k := 1) (n := 2) (by decide)).mpr (by decide)
  have r36 : h_r K1 36 (h_ix (0 : Int32)) = some 37 := (c_r3 (e := 0) w1.1 (by omega)).2.2
  have r36' : h_r K2 36 (h_ix (1 : Int32)) = some 38 := (c_r3 (e := 1) w2.1 (by omega)).2.2
  have r35 : c_rw K3 35 (s_kp 0 LC) := by
    have : c_rw K1 35 (s_kp 0 LC) := by rw [h1]; exact c_rw_ww (X := [10]) a3 (c_ww_si a2.1 (by simp)) (by decide)
    exact c_rw_ww (c_rw_ww this w2 (by decide)) w3 (by decide)
  have r37 : c_rw K3 37 (s_kp 0 LA) := by
    have : c_rw K2 37 (s_kp 0 LA) := by rw [h2]; exact c_rw_ww (X := [39]) b3 (c_ww_si b2.1 (by simp)) (by decide)
    exact c_rw_ww this w3 (by decide)
  have r38 : c_rw K3 38 (s_kp 0 LB) := by rw [h3]; exact c_rw_ww (X := [39]) d3 (c_ww_si d2.1 (by simp)) (by decide)
  have x4 : h_i K3 10 4 = nI (s_kp 0 LC).length := by rw [(w3.2 10 (by decide)).2.2.1, (w2.2 10 (by decide)).2.2.1, h1, h_i_si, if_pos ⟨rfl, rfl⟩]
  have x0 : h_i K3 39 0 = nI (s_kp 0 LA).length := by rw [h3, h_i_si, if_neg (by omega), (d2.2 39 (by decide)).2.2.1, h2, h_i_si, if_pos ⟨rfl, rfl⟩]
  have x1 : h_i K3 39 1 = nI (s_kp 0 LB).length := by rw [h3, h_i_si, if_pos ⟨rfl, rfl⟩]
  obtain ⟨k4, m1, m2, m3, m4⟩ := ci_weave_47 (C := s_kp 0 LC) (A := s_kp 0 LA) (B := s_kp 0 LB) (by omega) (by omega) (by omega) 300 0 g_N K3 (by omega) (by have := g_N_le; omega) w3.1 r35 r37 r38 x4 x0 x1 (fun a ha => by omega)
  refine ⟨k4, ?_, c_wwt (c_wwS w1 (by decide)) (c_wwt (c_wwS w2 (by decide)) (c_wwt (c_wwS w3 (by decide)) m2)), m3, m4⟩
  unfold fn_X9_weaveBy
  rw [cf_r hF (show c_fr 10 3 = some 35 by decide), a1, fg_b_1, fg_let_1, ← h1, fg_g_1 v0, r36, b1, fg_b_1, fg_g_1 v0, fg_let_1, show h_ix (0 : Int32) = 0 from rfl, ← h2, fg_g_1 v1, r36', d1, fg_b_1, fg_g_1 v1, fg_let_1, show h_ix (1 : Int32) = 1 from rfl, ← h3]
  exact m1
end CWw
