section CVw
variable {k k2 k3 : h_S} {s : sA} {y : c_Y} {M : Nat}
theorem ci_isGivenAt (h : CBM k s M y) (vv : ivv s) {i m : Nat} (hi : i < sC s 4) (hm : m ≤ 600) : fn_X8_isGivenAt (yA y 4 i) (nI m) k = some (q_b (s_gv s i (nI m)), k) := by
  obtain ⟨_, h1, _, _, h3, h4, _⟩ := CB_ver h hi
  obtain ⟨_, m1, m2, _⟩ := vv i hi
  have mx : nI m < 2147483647 := by
    rw [Int32.lt_iff_toInt_lt, q_nI (by omega)]
    have : (2147483647 : Int32).toInt = 2147483647 := rfl
    omega
  unfold fn_X8_isGivenAt s_gv
  rw [fg_g_1 h1, h3, h4]
  unfold s_nv
  by_cases c1 : sF s 58 i = -9
  · rw [if_pos c1, fg_if_1 mx, q_b0 (fun q => q.1 c1)]
  · rw [if_neg c1]
    by_cases c2 : nI m < sF s 58 i
    · rw [fg_if_1 c2, q_b0 (fun q => Int32.not_le.mpr c2 q.2.1)]
    · rw [fg_if_0 c2]
      by_cases c3 : sF s 59 i = -9
      · rw [if_pos c3, fg_if_0 (Int32.not_le.mpr mx), q_b1 ⟨c1, Int32.not_lt.mp c2, Or.inl c3⟩]
      · rw [if_neg c3]
        by_cases c4 : sF s 59 i ≤ nI m
        · rw [fg_if_1 c4, q_b0 (fun q => by
            rcases q.2.2 with r | r
            · exact c3 r
            · exact Int32.not_le.mpr r c4)]
        · rw [fg_if_0 c4, q_b1 ⟨c1, Int32.not_lt.mp c2, Or.inr (Int32.not_le.mp c4)⟩]
theorem ci_openHomes (h : CBM k s M y) (v : ivc s) (vr : ivr2 s) (vv : ivv s) {i m : Nat} (hi : i < sC s 4) (hm : m ≤ sC s 0) (x : Int32) : ∃ X, fn_X11_openHomes x (some (yA y 4 i)) (nI m) k = some (X, k) ∧ b_set X (fun j => s_opn s x i (nI m) ∧ j < sC s 2 ∧ ¬ s_whyOf s x (nI j) 0 (nI m) = -9) := by
  have v0 := v.1
  have v2 := v.2.2.1
  obtain ⟨_, h1, h0, _⟩ := CB_ver h hi
  obtain ⟨⟨w, z, hw, hz, e1, e2⟩, _⟩ := vv i hi
  obtain ⟨U, u1, u2⟩ := ci_usable h v vr (m := m) (u := 0) hm (by omega) x
  have u1' : fn_X11_usable x 0 (nI m) k = some (U, k) := u1
  have u2' : b_set U (fun j => j < sC s 2 ∧ ¬ s_whyOf s x (nI j) 0 (nI m) = -9) := u2
  have e49 : fn_X11_openHomes_49 x (nI m) k = some (U, k) := by unfold fn_X11_openHomes_49; rw [u1', fg_b_1]
  unfold fn_X11_openHomes
  rw [fg_o_1, fg_g_1 h1, h0, e1, ci_ownerOf h v hw, fg_b_1]
  unfold fn_X11_openHomes_20
  by_cases c1 : sF s 9 w = x
  · have op : s_opn s x i (nI m) := Or.inl (by rw [e1, q_nIx (by omega)]; exact c1)
    rw [fg_if_1 c1, fg_if_0 (by decide), e49]
    exact ⟨U, rfl, b_set_c u2' (fun j _ => ⟨fun q => ⟨op, q⟩, fun q => q.2⟩)⟩
  · have hm2 := ci_mayUse h v vr hw (m := m) (u := 0) hm (by omega) x
    have hm2' : fn_X11_mayUse x (nI w) 0 (nI m) k = some (q_b (¬ s_whyOf s x (nI w) 0 (nI m) = -9), k) := hm2
    rw [fg_if_0 c1, fg_if_1 (show (0 : Int32) = 0 from rfl), fg_o_1, fg_g_1 h1, ci_isGivenAt h vv hi (by omega), fg_b_1, q_b_if, fg_o_1, fg_g_1 h1, h0, e1, hm2', fg_b_1, q_b_if, e49]
    have no : ¬ (s_gv s i (nI m) ∧ ¬ s_whyOf s x (nI w) 0 (nI m) = -9) → ¬ s_opn s x i (nI m) := by
      intro q r
      unfold s_opn at r
      rw [e1, q_nIx (by omega)] at r
      rcases r with r | r
      · exact c1 r
      · exact q r
    by_cases c2 : s_gv s i (nI m)
    · rw [fg_if_1 c2]
      by_cases c3 : ¬ s_whyOf s x (nI w) 0 (nI m) = -9
      · have op : s_opn s x i (nI m) := Or.inr ⟨c2, by rw [e1]; exact c3⟩
        rw [fg_if_1 c3]
        exact ⟨U, rfl, b_set_c u2' (fun j _ => ⟨fun q => ⟨op, q⟩, fun q => q.2⟩)⟩
      · rw [fg_if_0 c3]
        exact ⟨0, rfl, b_set_c b_set0 (fun j _ => ⟨fun q => q.elim, fun q => no (fun r => c3 r.2) q.1⟩)⟩
    · rw [fg_if_0 c2]
      exact ⟨0, rfl, b_set_c b_set0 (fun j _ => ⟨fun q => q.elim, fun q => no (fun r => c2 r.1) q.1⟩)⟩
/-- read through the open homes -/
theorem ci_isIn (h : CBM k s M y) (v : ivc s) (vd : ivd s) {i m : Nat} {a X : Int32} (hX : b_set X (fun j => s_opn s a i (nI m) ∧ j < sC s 2 ∧ ¬ s_whyOf s a (nI j) 0 (nI m) = -9)) {x : Int32} (hx : x = -7 ∨ ∃ z, z < sC s 3 ∧ x = nI z) : fn_X7_isIn x X k = some (q_b (s_opn s a i (nI m) ∧ s_isr s a x (nI m)), k) := by
  have v2 := v.2.2.1
  have v3 := v.2.2.2.1
  unfold fn_X7_isIn s_isr
  rw [ci_wordAt h v, fg_b_1]
  rcases hx with e | ⟨z, hz, e⟩
  · have n : ¬ q_in x (sC s 3) := by
      rw [e]
      intro q
      have := q.1
      have e1 : (-7 : Int32).toInt = -7 := rfl
      omega
    rw [fg_if_0 n, fg_if_1 rfl, q_b0 (fun q => q.2.1 e)]
  · obtain ⟨⟨w, hw, ew⟩, _⟩ := vd z hz
    have wd := CB_wd h hz
    have nn : ¬ (some (yA y 18 z) = none) := by simp
    rw [e, fg_if_1 ((n_inI (by omega)).mpr hz), q_nIx (by omega), fg_if_0 nn, fg_o_1, fg_g_1 wd.2.1, wd.2.2.2.2.1, ew, fg_if_c (b_set_bit hX (by omega))]
    by_cases c : s_opn s a i (nI m) ∧ w < sC s 2 ∧ ¬ s_whyOf s a (nI w) 0 (nI m) = -9
    · rw [fg_if_1 c, q_b1 ⟨c.1, nI_n7 (by omega), c.2.2⟩]
    · rw [fg_if_0 c, q_b0 (fun q => c ⟨q.1, hw, q.2.2⟩)]
theorem cs_view (h : CB k s y) (v : ivc s) (vr : ivr2 s) (vv : ivv s) (vd : ivd s) (vx : ivx s) (a x i m : Int32) : ∃ k2, fn_X11_view a x i m k = some ((s_view s a x i m).1, k2) ∧ CB k2 (s_view s a x i m).2 y := by
  have v4 := v.2.2.2.2.1
  have v0 := v.1
  refine ⟨k, ?_, h⟩
  unfold fn_X11_view s_view
  rw [ci_versionAt (CB_M h) v, fg_b_1, ci_isHand h.2.1 v, fg_b_1, q_b_if]
  by_cases c1 : q_in a (sC s 1)
  · rw [fg_if_1 c1]
    by_cases c2 : q_in x (sC s 4)
    · obtain ⟨e1, l1⟩ := n_in c2
      have nn : ¬ (some (yA y 4 (h_ix x)) = none) := by simp
      obtain ⟨_, h1, h0, h57, _, _, b, hb, ar⟩ := CB_ver (CB_M h) l1
      have hl := s_vs_300 (s := s) (h_ix x)
      simp only [fg_if_1 c2]
      rw [fg_if_0 nn, fg_o_1, fg_g_1 h1, hb, fg_o_1, fg_g_1 ar.2.1, ar.2.2.1, show Int32.ofNat (s_vs s (h_ix x)).length = nI (s_vs s (h_ix x)).length from rfl, ci_withinN _ (by omega), fg_b_1, q_b_if]
      by_cases c3 : q_in i (s_vs s (h_ix x)).length
      · rw [fg_if_1 c3, ci_isMoment h.2.1 v, fg_b_1, q_b_if]
        by_cases c4 : q_in m ((sC s 0 : Nat) + 1)
        · have c : q_in a (sC s 1) ∧ q_in x (sC s 4) ∧ q_in i (s_vs s (h_ix x)).length ∧ q_in m ((sC s 0 : Nat) + 1) := ⟨c1, c2, c3, c4⟩
          obtain ⟨e3, l3⟩ := n_in c3
          obtain ⟨e4, l4⟩ := n_in (n := sC s 0 + 1) c4
          have hg := List.getElem?_eq_getElem l3
          rw [fg_if_1 c4, fg_o_1, fg_g_1 h1, h57, fg_if_1 c]
          by_cases c5 : sF s 57 (h_ix x) ≤ m
          · obtain ⟨X, o1, o2⟩ := ci_openHomes (CB_M h) v vr vv l1 (m := h_ix m) (by omega) a
            rw [← e4] at o1
            have ew : h_i k b (h_ix i) = (s_vs s (h_ix x))[h_ix i] := ar.2.2.2 _ _ hg
            have hin := ci_isIn (CB_M h) v vd o2 (s_vs_w vx (List.getElem_mem l3))
            rw [← e4] at hin
            rw [fg_if_1 c5, fg_if_1 c5, o1, fg_b_1, fg_o_1, fg_g_1 h1, hb, fg_o_1, fg_g_1 ar.2.1, ar.2.2.1, fg_g_1 (by rw [e3]; exact (n_vp (by omega)).mpr l3), ew, hin, fg_b_1, q_b_if, hg]
            show _ = some (fg_if (s_opn s a (h_ix x) m ∧ s_isr s a (s_vs s (h_ix x))[h_ix i] m) (s_vs s (h_ix x))[h_ix i] (-7), k)
            rw [fg_if_some]
          · rw [fg_if_0 c5, fg_if_0 c5]
        · rw [fg_if_0 c4, fg_if_0 (fun q => c4 q.2.2.2)]
      · rw [fg_if_0 c3, fg_if_0 (fun q => c3 q.2.2.1)]
    · simp only [fg_if_0 c2]
      rw [fg_if_T, fg_if_0 (fun q => c2 q.2.1)]
  · rw [fg_if_0 c1, fg_if_0 (fun q => c1 q.1)]
theorem uF_same {S : sA} (f i : Nat) : uF S f i (sF S f i) = S := by
  unfold uF
  refine Prod.ext rfl (Prod.ext rfl (Prod.ext ?_ rfl))
  funext j
  show (if j = f then (fun x => if x = i then sF S f i else S.2.2.1 j x) else S.2.2.1 j) = _
  by_cases e : j = f
  · rw [if_pos e]
    funext x
    by_cases e2 : x = i
    · rw [if_pos e2, e2, e]; rfl
    · rw [if_neg e2]
  · rw [if_neg e]
theorem ci_owe {S : sA} (h : CBM k S M y) (v : ivc S) (vn : ivn S) {a o b : Nat} (ha : a < sC S 1) (ho : o < sC S 1) (hb : b < sC S 1) : ∃ k2, fn_X11_owe (nI a) (nI o) (nI b) k = some (fg_if (nI b = nI a) 0 (sN S 2), k2) ∧ CBM k2 (fg_if (nI b = nI a) S (s_owe S (nI a) (nI o) (nI b))) M y ∧ (∀ z j, h_r k2 z j = h_r k z j) := by
  have v1 := v.2.1
  obtain ⟨⟨p, hp, ep⟩, q, hq, eq⟩ := vn
  have e12 : h_i k 0 12 = nI (100 * p + q) := by
    rw [h.2.1.2.2.2.2.2.2, ep, eq, show (100 : Int32) = nI 100 from rfl, n_mul, n_add]
  have ed : h_i k 0 12 / 100 = nI p := by
    rw [e12, show (100 : Int32) = nI 100 from rfl, n_div (by omega) (by omega)]
    congr 1
    omega
  have em : h_i k 0 12 - h_i k 0 12 / 100 * 100 = nI q := by
    rw [ed, e12, show (100 : Int32) = nI 100 from rfl, n_mul, n_sub (by omega)]
    congr 1
    omega
  have e8 : ∀ c, nI a * 8 + nI c = nI (8 * a + c) := fun c => by rw [show (8 : Int32) = nI 8 from rfl, n_mul, n_add, Nat.mul_comm]
  have f11 : ∀ i, i < 64 → h_i k 11 i = sF S 104 i := h.2.2.1.2.2
  unfold fn_X11_owe
  by_cases c1 : nI b = nI a
  · rw [fg_if_1 c1, fg_if_1 c1, fg_if_1 c1]
    exact ⟨k, rfl, h, fun _ _ => rfl⟩
  · rw [fg_if_0 c1, fg_if_0 c1, fg_if_0 c1, ci_isHand h.2.1 v, fg_b_1, q_b_if, fg_if_1 ((n_inI (by omega)).mpr hb), ci_isHand h.2.1 v, fg_b_1, q_b_if, fg_if_1 ((n_inI (by omega)).mpr ho), fg_let_1, em, ed]
    have go : vp_in (nI (8 * a + o)) 64 := (n_vp (by omega)).mpr (by omega)
    have gb : vp_in (nI (8 * a + b)) 64 := (n_vp (by omega)).mpr (by omega)
    have e51 : ∀ w : Int32, fn_X11_owe_59 (nI a) (nI o) (nI b) (nI p) w k = some (nI p, h_si (h_si k 11 (8 * a + o) (sF S 104 (8 * a + o) + w)) 11 (8 * a + b) (h_i (h_si k 11 (8 * a + o) (sF S 104 (8 * a + o) + w)) 11 (8 * a + b) + (nI p - w))) := by
      intro w
      unfold fn_X11_owe_59
      rw [e8, e8, fg_g_1 go, fg_g_1 go, fg_let_1, fg_g_1 gb, fg_g_1 gb, fg_let_1, q_nIx (by omega), q_nIx (by omega), f11 _ (by omega)]
    unfold s_owe fn_X11_owe_42
    rw [e51, e51, q_nIx (by omega), q_nIx (by omega), q_nIx (by omega), ep, eq]
    by_cases c2 : nI o = nI b ∨ nI o = nI a
    · have eF : ∀ Z : Option (Int32 × h_S), fg_if (nI o = nI b) (some (nI p, h_si (h_si k 11 (8 * a + o) (sF S 104 (8 * a + o) + 0)) 11 (8 * a + b) (h_i (h_si k 11 (8 * a + o) (sF S 104 (8 * a + o) + 0)) 11 (8 * a + b) + (nI p - 0)))) (fg_if (nI o = nI a) (some (nI p, h_si (h_si k 11 (8 * a + o) (sF S 104 (8 * a + o) + 0)) 11 (8 * a + b) (h_i (h_si k 11 (8 * a + o) (sF S 104 (8 * a + o) + 0)) 11 (8 * a + b) + (nI p - 0)))) Z) = some (nI p, h_si (h_si k 11 (8 * a + o) (sF S 104 (8 * a + o) + 0)) 11 (8 * a + b) (h_i (h_si k 11 (8 * a + o) (sF S 104 (8 * a + o) + 0)) 11 (8 * a + b) + (nI p - 0))) := by
        intro Z
        by_cases z : nI o = nI b
        · rw [fg_if_1 z]
        · rw [fg_if_0 z, fg_if_1 (c2.resolve_left z)]
      rw [eF, fg_if_1 c2]
      refine ⟨_, rfl, ?_, fun _ _ => rfl⟩
      have h1 := cs_debt h (i := 8 * a + o) (by omega) (sF S 104 (8 * a + o) + 0)
      rw [Int32.add_zero, uF_same] at h1
      have e1 : h_i (h_si k 11 (8 * a + o) (sF S 104 (8 * a + o))) 11 (8 * a + b) = sF S 104 (8 * a + b) := h1.2.2.1.2.2 _ (by omega)
      have h2 := cs_debt h1 (i := 8 * a + b) (by omega) (sF S 104 (8 * a + b) + nI p)
      rw [Int32.add_zero, e1, Int32.sub_zero]
      exact h2
    · have n1 : ¬ nI o = nI b := fun z => c2 (Or.inl z)
      have n2 : ¬ nI o = nI a := fun z => c2 (Or.inr z)
      rw [fg_if_0 n1, fg_if_0 n2, fg_if_0 c2]
      refine ⟨_, rfl, ?_, fun _ _ => rfl⟩
      have nb : 8 * a + b ≠ 8 * a + o := fun z => n1 (by rw [show o = b by omega])
      have h1 := cs_debt h (i := 8 * a + o) (by omega) (sF S 104 (8 * a + o) + nI p * nI q / 10)
      have e1 : h_i (h_si k 11 (8 * a + o) (sF S 104 (8 * a + o) + nI p * nI q / 10)) 11 (8 * a + b) = sF S 104 (8 * a + b) := by
        rw [h_i_si, if_neg (fun z => nb z.2), f11 _ (by omega)]
      rw [e1]
      exact cs_debt h1 (i := 8 * a + b) (by omega) _
theorem ci_handOf (h : CBM k s M y) (v : ivc s) {z : Nat} (hz : z < sC s 3) : fn_X7_handOf (nI z) k = some (sF s 24 z, k) := by
  have v3 := v.2.2.2.1
  have wd := CB_wd h hz
  have nn : ¬ (some (yA y 18 z) = none) := by simp
  unfold fn_X7_handOf
  rw [ci_wordAt h v, fg_b_1, fg_if_1 ((n_inI (by omega)).mpr hz), q_nIx (by omega), fg_if_0 nn, fg_o_1, fg_g_1 wd.2.1, wd.2.2.2.1]
theorem s_rl_no (h o : Int32) (hn : ∀ x : Int32, True) : ∀ (l : List Int32) (z : sA × Nat × Int32), (∀ x, x ∈ l → ¬ s_isr s h x (nI (sC s 0))) → s_rl s h o l z = z := by
  intro l
  induction l with
  | nil => intro z _; rfl
  | cons x l ih =>
    intro z q
    unfold s_rl
    rw [fg_if_0 (q x (List.mem_cons_self))]
    exact ih z (fun w hw => q w (List.mem_cons_of_mem _ hw))
theorem ci_read_52 (v : ivc s) (g : ivg s) (vd : ivd s) (vn : ivn s) (vo : ivo s) (vv : ivv s) {i a o w b : Nat} {X : Int32} (hi : i < sC s 4) (ha : a < sC s 1) (ho : o < sC s 1) (hw : w < sC s 2) (ew : sF s 56 i = nI w) (eo : sF s 9 w = nI o) (hX : b_set X (fun j => s_opn s (nI a) i (nI (sC s 0)) ∧ j < sC s 2 ∧ ¬ s_whyOf s (nI a) (nI j) 0 (nI (sC s 0)) = -9)) (hl : (s_vs s i).length ≤ 300) (hws : ∀ x, x ∈ s_vs s i → x = -7 ∨ ∃ z, z < sC s 3 ∧ x = nI z) (hop : s_opn s (nI a) i (nI (sC s 0))) : ∀ (d j N : Nat) (K : h_S) (S : sA) (c : Nat) (u : Int32), j + d = (s_vs s i).length → d < N → CB K S y → s_dbt s S → h_r K (yA y 4 i) 2 = some b → ∃ K2, fn_X11_read_52 N (nI a) (some (yA y 4 i)) X (fg_if (c = 0) 0 1) u (some b) (nI (s_vs s i).length) (nI j) K = some ((fg_if ((s_rl s (nI a) (nI o) ((s_vs s i).drop j) (S, c, u)).2.1 = 0) (-3 : Int32) (s_rl s (nI a) (nI o) ((s_vs s i).drop j) (S, c, u)).2.2), K2) ∧ ((s_rl s (nI a) (nI o) ((s_vs s i).drop j) (S, c, u)).2.1 = 0 → CB K2 (s_rl s (nI a) (nI o) ((s_vs s i).drop j) (S, c, u)).1 y) ∧ (¬ (s_rl s (nI a) (nI o) ((s_vs s i).drop j) (S, c, u)).2.1 = 0 → CB K2 (s_act (s_rl s (nI a) (nI o) ((s_vs s i).drop j) (S, c, u)).1 (s_rl s (nI a) (nI o) ((s_vs s i).drop j) (S, c, u)).2.2) y) := by
  have cS : ∀ {S : sA}, s_dbt s S → ∀ i, sC S i = sC s i := fun h i => by unfold sC; rw [h.1]
  have nS : ∀ {S : sA}, s_dbt s S → ∀ i, sN S i = sN s i := fun h i => by unfold sN; rw [h.2.1]
  have vS : ∀ {S : sA}, s_dbt s S → ivc S := fun h => by unfold ivc; simp only [cS h]; exact v
  have gS : ∀ {S : sA}, s_dbt s S → ivg S := fun {S} h => by
    have e : sG S = sG s := by unfold sG; rw [h.2.2.1]
    unfold ivg; rw [e, cS h]; exact g
  have rS : ∀ {S : sA}, s_dbt s S → sR S = sR s := fun {S} h => by unfold sR; rw [h.2.2.1]
  have v3 := v.2.2.2.1
  intro d
  induction d with
  | zero =>
    intro j N K S c u hj hN hK hS hr
    obtain ⟨N, rfl⟩ : ∃ m, N = m + 1 := ⟨N - 1, by omega⟩
    rw [List.drop_eq_nil_of_le (by omega)]
    show ∃ K2, fn_X11_read_52b _ _ _ _ _ _ _ _ _ _ = some (fg_if (c = 0) (-3 : Int32) u, K2) ∧ (c = 0 → CB K2 S y) ∧ (¬ c = 0 → CB K2 (s_act S u) y)
    unfold fn_X11_read_52b
    rw [fg_if_1 ((n_le (by omega) (by omega)).mpr (by omega))]
    by_cases c0 : c = 0
    · rw [fg_if_1 (show fg_if (c = 0) (0 : Int32) 1 = 0 from fg_if_1 c0), fg_if_1 c0]
      exact ⟨K, rfl, fun _ => hK, fun q => absurd c0 q⟩
    · rw [fg_if_0 (show ¬ fg_if (c = 0) (0 : Int32) 1 = 0 by rw [fg_if_0 c0]; decide), fg_if_0 c0, ci_acted hK.2.1.1 (vS hS).1, fg_b_1]
      exact ⟨_, rfl, fun q => absurd q c0, fun _ => cs_act (CB_M hK) (by omega) (gS hS) u⟩
  | succ d ih =>
    intro j N K S c u hj hN hK hS hr
    obtain ⟨N, rfl⟩ : ∃ m, N = m + 1 := ⟨N - 1, by omega⟩
    have hj2 : j < (s_vs s i).length := by omega
    have hg := List.getElem?_eq_getElem hj2
    have hx := hws _ (List.getElem_mem hj2)
    have vsS : s_vs S i = s_vs s i := by unfold s_vs; rw [rS hS, hS.2.2.2 56 (by decide), hS.2.2.2 57 (by decide)]
    obtain ⟨_, k29, k56, _, _, _, b2, hb2, ar⟩ := CB_ver (CB_M hK) (i := i) (by rw [cS hS]; exact hi)
    rw [hr] at hb2
    cases hb2
    rw [vsS] at ar
    have e36 := ar.2.2.2 j _ hg
    have vdS : ivd S := fun z hz => by rw [cS hS] at hz; rw [cS hS, cS hS, hS.2.2.2 25 (by decide), hS.2.2.2 24 (by decide)]; exact vd z hz
    have opS : s_opn S (nI a) i (nI (sC s 0)) ↔ s_opn s (nI a) i (nI (sC s 0)) := by
      unfold s_opn s_gv
      rw [s_dbt_why hS, hS.2.2.2 9 (by decide), hS.2.2.2 56 (by decide), hS.2.2.2 58 (by decide), hS.2.2.2 59 (by decide)]
    have hin := ci_isIn (CB_M hK) (vS hS) vdS (i := i) (m := sC s 0) (a := nI a) (X := X) (b_set_c hX (fun j _ => by rw [opS, cS hS, s_dbt_why hS])) (x := (s_vs s i)[j]) (by rw [cS hS]; exact hx)
    have er : (s_opn S (nI a) i (nI (sC s 0)) ∧ s_isr S (nI a) (s_vs s i)[j] (nI (sC s 0))) ↔ s_isr s (nI a) (s_vs s i)[j] (nI (sC s 0)) := by
      rw [opS]
      unfold s_isr
      rw [s_dbt_why hS, hS.2.2.2 25 (by decide)]
      exact ⟨fun q => q.2, fun q => ⟨hop, q⟩⟩
    rw [q_bc er] at hin
    rw [List.drop_eq_getElem_cons hj2]
    show ∃ K2, fn_X11_read_52b (fn_X11_read_52 N) _ _ _ _ _ _ _ _ _ = _ ∧ _
    unfold fn_X11_read_52b s_rl
    rw [fg_if_0 (fun z => by have := (n_le (a := (s_vs s i).length) (b := j) (by omega) (by omega)).mp z; omega), fg_o_1, fg_g_1 ar.2.1, ar.2.2.1, fg_g_1 ((n_vp (by omega)).mpr hj2), q_nIx (by omega), e36, hin, fg_b_1, q_b_if, n_p1]
    by_cases c1 : s_isr s (nI a) (s_vs s i)[j] (nI (sC s 0))
    · rw [fg_if_1 c1, fg_if_1 c1]
      obtain ⟨z, hz, ez⟩ := hx.resolve_left c1.1
      obtain ⟨_, b3, hb3, eb⟩ := vd z hz
      have hoS := ci_ownerOf (CB_M hK) (vS hS) (w := w) (by rw [cS hS]; exact hw)
      have hhS := ci_handOf (CB_M hK) (vS hS) (z := z) (by rw [cS hS]; exact hz)
      rw [hS.2.2.2 9 (by decide), eo] at hoS
      rw [hS.2.2.2 24 (by decide), eb] at hhS
      obtain ⟨K2, o1, o2, o3⟩ := ci_owe (CB_M hK) (vS hS) (by unfold ivn; rw [nS hS, nS hS]; exact vn) (a := a) (o := o) (b := b3) (by rw [cS hS]; exact ha) (by rw [cS hS]; exact ho) (by rw [cS hS]; exact hb3)
      rw [fg_o_1, fg_g_1 k29, k56, hS.2.2.2 56 (by decide), ew, hoS, fg_b_1, ez, hhS, fg_b_1, o1, fg_b_1, q_nIx (by omega), eb, nS hS]
      have i1 : fg_if (c + 1 = 0) (0 : Int32) 1 = 1 := fg_if_0 (by omega)
      have hK2r : h_r K2 (yA y 4 i) 2 = some b := by
        rw [o3]; exact hr
      by_cases c2 : nI b3 = nI a
      · rw [fg_if_1 c2] at o2
        rw [fg_if_1 c2, fg_if_1 c2, Int32.add_zero]
        have := ih (j + 1) N K2 S (c + 1) u (by omega) (by omega) o2 hS hK2r
        rw [i1] at this
        exact this
      · rw [fg_if_0 c2] at o2
        rw [fg_if_0 c2, fg_if_0 c2]
        have e0 : sC (s_owe S (nI a) (nI o) (nI b3)) 0 = sC S 0 := by rw [cS (s_dbt_owe hS _ _ _), cS hS]
        have o2' : CB K2 (s_owe S (nI a) (nI o) (nI b3)) y := by
          have : CBM K2 (s_owe S (nI a) (nI o) (nI b3)) (sC (s_owe S (nI a) (nI o) (nI b3)) 0) y := by rw [e0]; exact o2
          exact this
        have := ih (j + 1) N K2 _ (c + 1) (u + sN s 2) (by omega) (by omega) o2' (s_dbt_owe hS _ _ _) hK2r
        rw [i1] at this
        exact this
    · rw [fg_if_0 c1, fg_if_0 c1]
      exact ih (j + 1) N K S c u (by omega) (by omega) hK hS hr
theorem ci_read_no (h : CBM k s M y) (v : ivc s) (vd : ivd s) {i b : Nat} {a X : Int32} {l : List Int32} (hX : b_set X (fun j => s_opn s a i (nI (sC s 0)) ∧ j < sC s 2 ∧ ¬ s_whyOf s a (nI j) 0 (nI (sC s 0)) = -9)) (hn : ¬ s_opn s a i (nI (sC s 0))) (har : c_ar k 9 b l) (hl : l.length ≤ 300) (hws : ∀ x, x ∈ l → x = -7 ∨ ∃ z, z < sC s 3 ∧ x = nI z) (r : Option Nat) (u : Int32) : ∀ (d j N : Nat), j + d = l.length → d < N → fn_X11_read_52 N a r X 0 u (some b) (nI l.length) (nI j) k = some (-3, k) := by
  intro d
  induction d with
  | zero =>
    intro j N hj hN
    obtain ⟨N, rfl⟩ : ∃ m, N = m + 1 := ⟨N - 1, by omega⟩
    show fn_X11_read_52b _ _ _ _ _ _ _ _ _ _ = _
    unfold fn_X11_read_52b
    rw [fg_if_1 ((n_le (by omega) (by omega)).mpr (by omega)), fg_if_1 rfl]
  | succ d ih =>
    intro j N hj hN
    obtain ⟨N, rfl⟩ : ∃ m, N = m + 1 := ⟨N - 1, by omega⟩
    have hj2 : j < l.length := by omega
    show fn_X11_read_52b (fn_X11_read_52 N) _ _ _ _ _ _ _ _ _ = _
    unfold fn_X11_read_52b
    rw [fg_if_0 (fun z => by have := (n_le (a := l.length) (b := j) (by omega) (by omega)).mp z; omega), fg_o_1, fg_g_1 har.2.1, har.2.2.1, fg_g_1 ((n_vp (by omega)).mpr hj2), q_nIx (by omega), har.2.2.2 j _ (List.getElem?_eq_getElem hj2), ci_isIn h v vd hX (hws _ (List.getElem_mem hj2)), fg_b_1, q_b_if, fg_if_0 (fun q => hn q.1), n_p1]
    exact ih (j + 1) N (by omega) (by omega)
theorem cs_read (h : CB k s y) (v : ivc s) (g : ivg s) (vr : ivr2 s) (vv : ivv s) (vd : ivd s) (vx : ivx s) (vn : ivn s) (vo : ivo s) (a x : Int32) : ∃ k2, fn_X11_read a x k = some ((s_read s a x).1, k2) ∧ CB k2 (s_read s a x).2 y := by
  have v4 := v.2.2.2.2.1
  have v1 := v.2.1
  unfold fn_X11_read s_read
  rw [ci_versionAt (CB_M h) v, fg_b_1, ci_isHand h.2.1 v, fg_b_1, q_b_if]
  by_cases c1 : q_in a (sC s 1)
  · rw [fg_if_1 c1]
    by_cases c2 : q_in x (sC s 4)
    · have c : q_in a (sC s 1) ∧ q_in x (sC s 4) := ⟨c1, c2⟩
      obtain ⟨e1, l1⟩ := n_in c2
      obtain ⟨ea, la⟩ := n_in c1
      have nn : ¬ (some (yA y 4 (h_ix x)) = none) := by simp
      obtain ⟨_, h1, h0, h57, _, _, b, hb, ar⟩ := CB_ver (CB_M h) l1
      have hl := s_vs_300 (s := s) (h_ix x)
      obtain ⟨⟨w2, z2, hw2, hz2, ew, ez⟩, _⟩ := vv _ l1
      obtain ⟨o, ho, eo⟩ := vo w2 hw2
      obtain ⟨X, o1, o2⟩ := ci_openHomes (CB_M h) v vr vv l1 (m := sC s 0) (Nat.le_refl _) a
      simp only [fg_if_1 c2, fg_if_1 c]
      rw [fg_if_0 nn, h.2.1.1, o1, fg_b_1, fg_o_1, fg_g_1 h1, hb, fg_o_1, fg_g_1 ar.2.1, ar.2.2.1]
      unfold s_rlo
      by_cases c3 : s_opn s a (h_ix x) (nI (sC s 0))
      · simp only [fg_if_1 c3]
        have o2' := o2
        have c3' := c3
        rw [ea] at o2' c3'
        obtain ⟨K2, k1, k2, k3⟩ := ci_read_52 v g vd vn vo vv l1 la ho hw2 ew eo o2' hl (fun y hy => s_vs_w vx hy) c3' (s_vs s (h_ix x)).length 0 g_N k s 0 0 (by omega) (by have := g_N_le; omega) h s_dbt0 hb
        rw [List.drop_zero, fg_if_1 (show (0 : Nat) = 0 from rfl), ← ea] at k1
        rw [List.drop_zero, ← ea] at k2 k3
        have k0 := (s_rl_0 (s := s) a (nI o) (s_vs s (h_ix x)) (s, 0, 0)).2
        have k1' : fn_X11_read_52 g_N a (some (yA y 4 (h_ix x))) X 0 0 (some b) (Int32.ofNat (s_vs s (h_ix x)).length) 0 k = _ := k1
        rw [k1', ew, q_nIx (by have := v.2.2.1; omega), eo]
        generalize s_rl s a (nI o) (s_vs s (h_ix x)) (s, 0, 0) = R at k0 k2 k3
        by_cases c4 : R.2.1 = 0
        · have r1 := k2 c4
          rw [k0 c4] at r1
          simp only [fg_if_1 c4]
          exact ⟨K2, rfl, r1⟩
        · simp only [fg_if_0 c4]
          exact ⟨K2, rfl, k3 c4⟩
      · simp only [fg_if_0 c3]
        rw [fg_if_T]
        have kk := ci_read_no (CB_M h) v vd o2 c3 ar hl (fun y hy => s_vs_w vx hy) (some (yA y 4 (h_ix x))) 0 (s_vs s (h_ix x)).length 0 g_N (by omega) (by have := g_N_le; omega)
        exact ⟨k, kk, h⟩
    · have c : ¬ (q_in a (sC s 1) ∧ q_in x (sC s 4)) := fun q => c2 q.2
      simp only [fg_if_0 c2, fg_if_0 c]
      rw [fg_if_T]
      exact ⟨k, rfl, h⟩
  · have c : ¬ (q_in a (sC s 1) ∧ q_in x (sC s 4)) := fun q => c1 q.1
    rw [fg_if_0 c1]
    simp only [fg_if_0 c]
    exact ⟨k, rfl, h⟩
end CVw
