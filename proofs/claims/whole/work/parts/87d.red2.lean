section RE2
variable {t T : r_T} {s : sA}
def l_R : List Nat := [40, 41, 42, 43, 44, 45, 46, 47]
theorem rt_w7 (i j k x : Nat) : (rt_A (rt_A (rt_P T j (r_w T i)) 46 j (T.2 46 i)) 47 j (T.2 47 i)).2 k x = if (41 ≤ k ∧ k ≤ 47) ∧ x = j then T.2 k i else T.2 k x := by
  unfold rt_P r_w
  by_cases e : x = j
  · by_cases c : 41 ≤ k ∧ k ≤ 47
    · rw [if_pos ⟨c, e⟩]
      rcases (show k = 41 ∨ k = 42 ∨ k = 43 ∨ k = 44 ∨ k = 45 ∨ k = 46 ∨ k = 47 by omega) with rfl | rfl | rfl | rfl | rfl | rfl | rfl <;> simp [rt_AA, e]
    · rw [if_neg (fun w => c w.1)]
      simp only [rt_AA]
      rw [if_neg (by omega), if_neg (by omega), if_neg (by omega), if_neg (by omega), if_neg (by omega), if_neg (by omega), if_neg (by omega)]
  · rw [if_neg (fun w => e w.2)]
    simp [rt_AA, e]
theorem ri_widen_7 {lo by_ many : Nat} (hb : many + by_ ≤ 60) (hl : lo ≤ many) (h40 : t.1 40 = nI many) : ∀ (d q N : Nat) (T : r_T), lo + d = q → q ≤ many → d < N → r_fr l_R t T → T.1 40 = nI many → (∀ k, 41 ≤ k ∧ k ≤ 47 → ∀ j, T.2 k j = if q + by_ ≤ j ∧ j < many + by_ then t.2 k (j - by_) else t.2 k j) → ∃ T2, fn_X12_widen_7 N (nI lo) (nI by_) (nI q - 1) T = some ((), T2) ∧ r_fr l_R t T2 ∧ T2.1 40 = nI (many + by_) ∧ (∀ k, 41 ≤ k ∧ k ≤ 47 → ∀ j, T2.2 k j = if lo + by_ ≤ j ∧ j < many + by_ then t.2 k (j - by_) else t.2 k j) := by
  intro d
  induction d with
  | zero =>
    intro q N T hq hqm hN hf h4 hi
    obtain ⟨N, rfl⟩ : ∃ m, N = m + 1 := ⟨N - 1, by omega⟩
    obtain rfl : lo = q := by omega
    refine ⟨rt_F T 40 (nI (many + by_)), ?_, r_frt hf (r_frF (by decide)), by rw [rt_FF, if_pos rfl], hi⟩
    show fn_X12_widen_7b _ _ _ _ _ = _
    unfold fn_X12_widen_7b
    have c : nI lo - 1 < nI lo := by
      cases lo with
      | zero => decide
      | succ x => rw [n_m1]; exact (n_lt (by omega) (by omega)).mpr (by omega)
    rw [fg_if_1 c, fg_let_1, h4, n_add]
  | succ d ih =>
    intro q N T hq hqm hN hf h4 hi
    obtain ⟨N, rfl⟩ : ∃ m, N = m + 1 := ⟨N - 1, by omega⟩
    obtain ⟨q, rfl⟩ : ∃ z, q = z + 1 := ⟨q - 1, by omega⟩
    show ∃ T2, fn_X12_widen_7b (fn_X12_widen_7 N) _ _ _ _ = _ ∧ _
    unfold fn_X12_widen_7b
    have g1 : vp_in (nI q) 60 := (n_vp (by omega)).mpr (by omega)
    have g2 : vp_in (nI (q + by_)) 60 := (n_vp (by omega)).mpr (by omega)
    have es := ri_setPiece (t := T) (show q + by_ < 60 by omega) (r_w T q)
    unfold r_w at es
    rw [n_m1, fg_if_0 (fun w => by have := (n_lt (a := q) (b := lo) (by omega) (by omega)).mp w; omega), fg_g_1 g1, fg_g_1 g1, fg_g_1 g1, fg_g_1 g1, fg_g_1 g1, n_add, q_nIx (by omega), es, fg_b_1, fg_g_1 g1, fg_g_1 g2, fg_let_1, fg_g_1 g1, fg_g_1 g2, fg_let_1, q_nIx (by omega)]
    have e46 : (rt_P T (q + by_) (r_w T q)).2 46 q = T.2 46 q := rfl
    have e47 : (rt_A (rt_P T (q + by_) (r_w T q)) 46 (q + by_) (T.2 46 q)).2 47 q = T.2 47 q := rfl
    have eq1 : nI q + -1 = nI q - 1 := q_nIm q
    rw [eq1]
    show ∃ T2, fn_X12_widen_7 N (nI lo) (nI by_) (nI q - 1) (rt_A (rt_A (rt_P T (q + by_) (r_w T q)) 46 (q + by_) (T.2 46 q)) 47 (q + by_) (T.2 47 q)) = _ ∧ _
    refine ih q N _ (by omega) (by omega) (by omega) (r_frt hf (r_frt (r_frt (r_frS (rt_P_fr T _ _) (by decide)) (r_frA (by decide))) (r_frA (by decide)))) h4 (fun k hk j => ?_)
    rw [rt_w7, hi k hk, hi k hk]
    by_cases c : j = q + by_
    · rw [if_pos ⟨hk, c⟩, if_neg (by omega), if_pos (by omega), show j - by_ = q by omega]
    · rw [if_neg (fun w => c w.2)]
      by_cases c2 : q + 1 + by_ ≤ j ∧ j < many + by_
      · rw [if_pos c2, if_pos (by omega)]
      · rw [if_neg c2, if_neg (by omega)]
theorem ri_widen {lo by_ many : Nat} (hb : many + by_ ≤ 60) (hl : lo ≤ many) (h40 : t.1 40 = nI many) : ∃ T2, fn_X12_widen (nI lo) (nI by_) t = some ((), T2) ∧ r_fr l_R t T2 ∧ T2.1 40 = nI (many + by_) ∧ (∀ j, r_w T2 j = if lo + by_ ≤ j ∧ j < many + by_ then r_w t (j - by_) else r_w t j) := by
  unfold fn_X12_widen
  rw [fg_let_1, h40]
  obtain ⟨T2, f1, f2, f3, f4⟩ := ri_widen_7 hb hl h40 (many - lo) many g_N t (by omega) (Nat.le_refl _) (by have := g_N_le; omega) r_fr0 h40 (fun k hk j => by rw [if_neg (by omega)])
  refine ⟨T2, f1, f2, f3, fun j => ?_⟩
  unfold r_w
  rw [f4 41 (by omega), f4 42 (by omega), f4 43 (by omega), f4 44 (by omega), f4 45 (by omega)]
  by_cases c : lo + by_ ≤ j ∧ j < many + by_
  · simp only [if_pos c]
  · simp only [if_neg c]
/-- a place of n is made at p: what is there then -/
theorem l_W_wid {p n : Nat} {a b : List sP} {T2 : r_T} (h : l_W T 0 (a ++ b)) (hp : a.length = p) (e : ∀ j, r_w T2 j = if p + n ≤ j ∧ j < (a ++ b).length + n then r_w T (j - n) else r_w T j) : l_W T2 0 a ∧ l_W T2 (p + n) b := by
  obtain ⟨h1, h2⟩ := l_W_app.mp h
  refine ⟨l_W_tr h1 (fun i hi => by rw [e, if_neg (by omega)]), l_W_tr h2 (fun i hi => ?_)⟩
  rw [e, if_pos (by rw [List.length_append]; omega)]
  congr 1
  omega
theorem ri_openAt_2 {z : sP → Nat} {l : List sP} {at_ : Nat} (hat : at_ ≤ 300) (hl : l.length + 1 ≤ 60) (h40 : t.1 40 = nI l.length) (hW : l_W t 0 l) (hb : l_b t z l) : ∀ (d i N : Nat), i + d = l.length → d < N → ∃ T2, fn_X12_openAt_2 N (nI at_) (nI i) t = some (nI (i + (e_oa z at_ (e_end z 0 (l.take i)) (l.drop i)).1.length), T2) ∧ r_fr l_R t T2 ∧ T2.1 40 = nI (i + (e_oa z at_ (e_end z 0 (l.take i)) (l.drop i)).1.length + (e_oa z at_ (e_end z 0 (l.take i)) (l.drop i)).2.length) ∧ l_W T2 0 (l.take i ++ ((e_oa z at_ (e_end z 0 (l.take i)) (l.drop i)).1 ++ (e_oa z at_ (e_end z 0 (l.take i)) (l.drop i)).2)) := by
  intro d
  induction d with
  | zero =>
    intro i N hi hN
    obtain ⟨N, rfl⟩ : ∃ m, N = m + 1 := ⟨N - 1, by omega⟩
    have ei : i = l.length := by omega
    rw [List.drop_eq_nil_of_le (by omega), List.take_of_length_le (by omega)]
    refine ⟨t, ?_, r_fr0, ?_, ?_⟩
    · show fn_X12_openAt_2b _ _ _ _ = _
      unfold fn_X12_openAt_2b fn_X12_openAt_26
      rw [h40, fg_if_1 ((n_le (by omega) (by omega)).mpr (by omega)), fg_if_1 ((n_le (by omega) (by omega)).mpr (by omega))]
      rfl
    · rw [h40, ei]; rfl
    · show l_W t 0 (l ++ ([] ++ []))
      rw [List.append_nil, List.append_nil]; exact hW
  | succ d ih =>
    intro i N hi hN
    obtain ⟨N, rfl⟩ : ∃ m, N = m + 1 := ⟨N - 1, by omega⟩
    have hi2 : i < l.length := by omega
    have g1 : vp_in (nI i) 60 := (n_vp (by omega)).mpr (by omega)
    have eE : e_end z 0 (l.take (i + 1)) = min 300 (e_end z 0 (l.take i) + z l[i]) := by
      rw [List.take_succ_eq_append_getElem hi2, e_end_app]
      rfl
    have hE := (e_end_ge (z := z) (l.take i) 0 (by omega)).2
    obtain ⟨b1, b2⟩ := hb i hi2
    show ∃ T2, fn_X12_openAt_2b (fn_X12_openAt_2 N) _ _ _ = _ ∧ _
    rw [List.drop_eq_getElem_cons hi2]
    unfold fn_X12_openAt_2b e_oa
    rw [h40, fg_if_0 (fun q => by have := (n_le (a := l.length) (b := i) (by omega) (by omega)).mp q; omega), fg_g_1 g1, q_nIx (by omega), b2, eE]
    by_cases c1 : at_ < min 300 (e_end z 0 (l.take i) + z l[i])
    · rw [fg_if_1 ((n_lt (by omega) (by omega)).mpr c1)]
      simp only [if_pos c1]
      unfold fn_X12_openAt_26
      rw [h40, fg_if_0 (fun q => by have := (n_le (a := l.length) (b := i) (by omega) (by omega)).mp q; omega), fg_g_1 g1, q_nIx (by omega), b1]
      have el : l = l.take i ++ (l[i] :: l.drop (i + 1)) := by rw [← List.drop_eq_getElem_cons hi2, List.take_append_drop]
      have lt : (l.take i).length = i := by rw [List.length_take]; omega
      by_cases c2 : e_end z 0 (l.take i) < at_
      · simp only [if_pos c2]
        rw [fg_if_0 (fun q => by have := (n_le (a := at_) (by omega) (by omega)).mp q; omega), fg_g_1 g1, n_sub (by omega)]
        obtain ⟨T2, f1, f2, f3, f4⟩ := ri_widen (t := t) (lo := i) (by_ := 1) (by omega) (by omega) h40
        have f1' : fn_X12_widen (nI i) 1 t = some ((), T2) := f1
        have hW1 : l_W t 0 (l.take i ++ (l[i] :: l.drop (i + 1))) := by rw [← el]; exact hW
        obtain ⟨w1, w2⟩ := l_W_wid hW1 lt (by rw [← el]; exact f4)
        obtain ⟨w3, w4⟩ := l_W_cons.mp w2
        have e2 : r_w T2 i = l[i] := by
          rw [f4, if_neg (by omega)]
          have := hW i l[i] (List.getElem?_eq_getElem hi2)
          rw [Nat.zero_add] at this
          exact this
        obtain ⟨k, hk⟩ : ∃ k, k = at_ - e_end z 0 (l.take i) := ⟨_, rfl⟩
        rw [← hk]
        have es := ri_setPiece (t := T2) (show i + 1 < 60 by omega) (e_tl l[i] k)
        rw [← e2] at es
        have es2 : fn_X12_setPiece (nI (i + 1)) (T2.2 41 i) (T2.2 42 i + nI k) (T2.2 43 i - nI k) (T2.2 44 i) (T2.2 45 i) T2 = some ((), rt_P T2 (i + 1) (e_tl (r_w T2 i) k)) := es
        rw [f1', fg_b_1, fg_g_1 g1, fg_g_1 g1, fg_g_1 g1, fg_g_1 g1, fg_g_1 g1, n_p1, es2, fg_b_1, fg_g_1 g1, fg_let_1, e2]
        refine ⟨_, rfl, r_frt f2 (r_frt (r_frS (rt_P_fr T2 _ _) (by decide)) (r_frA (by decide))), ?_, ?_⟩
        · show T2.1 40 = _
          rw [f3]
          congr 1
          show l.length + 1 = i + 1 + ((l.drop (i + 1)).length + 1)
          rw [List.length_drop]; omega
        · have rw3 : ∀ x, r_w (rt_A (rt_P T2 (i + 1) (e_tl l[i] k)) 43 i (nI k)) x = if x = i then e_hd (r_w T2 i) k else if x = i + 1 then e_tl l[i] k else r_w T2 x := by
            intro x
            by_cases c3 : x = i
            · rw [if_pos c3, c3]
              unfold r_w rt_P e_hd
              simp [rt_AA]
            · rw [if_neg c3]
              have : r_w (rt_A (rt_P T2 (i + 1) (e_tl l[i] k)) 43 i (nI k)) x = r_w (rt_P T2 (i + 1) (e_tl l[i] k)) x := by
                unfold r_w
                simp [rt_AA, c3]
              rw [this, r_w_P]
          show l_W _ 0 (l.take i ++ (e_hd l[i] k :: (e_tl l[i] k :: l.drop (i + 1))))
          refine l_W_app.mpr ⟨l_W_tr w1 (fun x hx => ?_), ?_⟩
          · rw [rw3, if_neg (by omega), if_neg (by omega)]
          · rw [lt, Nat.zero_add]
            refine l_W_cons.mpr ⟨by rw [rw3, if_pos rfl, e2], l_W_cons.mpr ⟨by rw [rw3, if_neg (by omega), if_pos rfl], l_W_tr w4 (fun x hx => ?_)⟩⟩
            rw [rw3, if_neg (by omega), if_neg (by omega)]
      · simp only [if_neg c2]
        rw [fg_if_1 ((n_le (by omega) (by omega)).mpr (by omega))]
        refine ⟨t, rfl, r_fr0, ?_, ?_⟩
        · rw [h40]
          congr 1
          show l.length = i + 0 + ((l.drop (i + 1)).length + 1)
          rw [List.length_drop]; omega
        · show l_W t 0 (l.take i ++ ([] ++ (l[i] :: l.drop (i + 1))))
          rw [List.nil_append, ← el]; exact hW
    · rw [fg_if_0 (fun q => c1 ((n_lt (by omega) (by omega)).mp q)), n_p1]
      simp only [if_neg c1]
      obtain ⟨T2, f1, f2, f3, f4⟩ := ih (i + 1) N (by omega) (by omega)
      rw [eE] at f1 f3 f4
      refine ⟨T2, ?_, f2, ?_, ?_⟩
      · rw [f1]
        congr 3
        show i + 1 + _ = i + (_ + 1)
        omega
      · rw [f3]
        congr 1
        show i + 1 + _ + _ = i + (_ + 1) + _
        omega
      · rw [List.take_succ_eq_append_getElem hi2, List.append_assoc] at f4
        exact f4
theorem ri_openAt {z : sP → Nat} {l : List sP} {at_ : Nat} (hat : at_ ≤ 300) (hl : l.length + 1 ≤ 60) (h40 : t.1 40 = nI l.length) (hW : l_W t 0 l) (hb : l_b t z l) : ∃ T2, fn_X12_openAt (nI at_) t = some (nI (e_oa z at_ 0 l).1.length, T2) ∧ r_fr l_R t T2 ∧ T2.1 40 = nI ((e_oa z at_ 0 l).1 ++ (e_oa z at_ 0 l).2).length ∧ l_W T2 0 ((e_oa z at_ 0 l).1 ++ (e_oa z at_ 0 l).2) := by
  have := ri_openAt_2 hat hl h40 hW hb l.length 0 g_N (by omega) (by have := g_N_le; omega)
  simp only [List.drop_zero, List.take_zero, Nat.zero_add, List.nil_append] at this
  obtain ⟨T2, f1, f2, f3, f4⟩ := this
  exact ⟨T2, f1, f2, by rw [List.length_append]; exact f3, f4⟩
end RE2
