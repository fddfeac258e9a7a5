section CCp
variable {k k2 : h_S} {s : sA} {y : c_Y} {M : Nat} {A B : List Int32} {ra rb : Nat}
def c_oft (k : h_S) (O : Nat → Nat) : Prop := ∀ x, x < 500 → h_i k 34 x = nI (O x)
theorem c_oft_u {O : Nat → Nat} {x v : Nat} (h : c_oft k O) : c_oft (h_si k 34 x (nI v)) (s_up O x v) := by
  intro z hz
  rw [h_i_si]
  unfold s_up
  by_cases e : z = x
  · rw [if_pos ⟨rfl, e⟩, if_pos e]
  · rw [if_neg (fun q => e q.2), if_neg e]; exact h z hz
theorem ci_in500 {x : Int32} (hx : x = -7 ∨ ∃ z, z < 500 ∧ x = nI z) : fn_X11_within x 500 k = some (q_b (¬ x = -7), k) := by
  have e : fn_X11_within x 500 k = some (q_b (q_in x ((500 : Nat) : Int)), k) := ci_withinN x (n := 500) (by decide)
  rw [e]
  congr 2
  refine q_bc ⟨fun q c => ?_, fun q => ?_⟩
  · rw [c] at q; exact absurd q.1 (by decide)
  · obtain ⟨z, h1, h2⟩ := hx.resolve_left q
    rw [h2]
    exact (n_inI (by omega)).mpr h1
theorem ci_common_71 (hB : B.length ≤ 300) (hw : s_wd B) (nb : rb ≠ 34) (hk : h_n k rb = B.length) : ∀ (d j N c : Nat) (k2 : h_S) (O : Nat → Nat), j + d = B.length → d < N → c_F k2 → c_ww [34] k k2 → c_rw k2 rb B → c_oft k2 O → (∀ x, O x ≤ 1000) → ∃ k3, fn_X9_commonTo_71 N (nI c) (some rb) (nI B.length) (nI j) k2 = some (nI (c + s_cm O (B.drop j)), k3) ∧ c_ww [34] k k3 := by
  intro d
  induction d with
  | zero =>
    intro j N c k2 O hj hN hF hw2 h1 h2 h3
    obtain ⟨N, rfl⟩ : ∃ m, N = m + 1 := ⟨N - 1, by omega⟩
    refine ⟨k2, ?_, hw2⟩
    show fn_X9_commonTo_71b _ _ _ _ _ _ = _
    unfold fn_X9_commonTo_71b
    rw [fg_if_1 ((n_le (by omega) (by omega)).mpr (by omega)), List.drop_eq_nil_of_le (by omega)]
    rfl
  | succ d ih =>
    intro j N c k2 O hj hN hF hw2 h1 h2 h3
    obtain ⟨N, rfl⟩ : ∃ m, N = m + 1 := ⟨N - 1, by omega⟩
    have hj2 : j < B.length := by omega
    have eb := h1.2.2 j _ (List.getElem?_eq_getElem hj2)
    have hm := hw _ (List.getElem_mem hj2)
    have hdr : B.drop j = B[j] :: B.drop (j + 1) := List.drop_eq_getElem_cons hj2
    generalize B[j] = x at eb hm hdr
    have ecm : s_cm O (B.drop j) = if x = -7 then s_cm O (B.drop (j + 1)) else if O (h_ix x) = 0 then s_cm O (B.drop (j + 1)) else s_cm (s_up O (h_ix x) (O (h_ix x) - 1)) (B.drop (j + 1)) + 1 := by rw [hdr]; rfl
    have g1 : vp_in (nI j) (h_n k2 rb) := (n_vp (by omega)).mpr (by have := h1.2.1; omega)
    show ∃ k3, fn_X9_commonTo_71b (fn_X9_commonTo_71 N) _ _ _ _ _ = _ ∧ _
    unfold fn_X9_commonTo_71b
    rw [fg_if_0 (fun q => by have := (n_le (a := B.length) (b := j) (by omega) (by omega)).mp q; omega), fg_o_1, fg_g_1 h1.1, fg_g_1 g1, q_nIx (by omega), eb, ci_in500 hm, fg_b_1, q_bn_if, n_p1, n_p1, ecm]
    by_cases c1 : x = -7
    · rw [fg_if_1 c1, if_pos c1]
      exact ih (j + 1) N c k2 O (by omega) (by omega) hF hw2 h1 h2 h3
    · obtain ⟨z, hz, ez⟩ := hm.resolve_left c1
      have g2 : vp_in x 500 := by rw [ez]; exact (n_vp (by omega)).mpr hz
      have ix : h_ix x = z := by rw [ez, q_nIx (by omega)]
      have hO := h3 z
      rw [fg_if_0 c1, if_neg c1, fg_g_1 g2, fg_g_1 g2, fg_g_1 g2, ix, h2 z hz, fg_let_1]
      by_cases c2 : O z = 0
      · rw [fg_if_1 (by rw [c2]; decide), if_pos c2]
        exact ih (j + 1) N c k2 O (by omega) (by omega) hF hw2 h1 h2 h3
      · have n0 : ¬ nI (O z) ≤ 0 := fun q => by have := (n_le (a := O z) (b := 0) (by omega) (by omega)).mp q; omega
        have e1 : nI (O z) - 1 = nI (O z - 1) := n_sub (a := O z) (b := 1) (by omega)
        rw [fg_if_0 n0, if_neg c2, e1]
        have w1 : c_ww [34] k2 (h_si k2 34 z (nI (O z - 1))) := c_ww_si hF (by decide)
        obtain ⟨k3, m1, m2⟩ := ih (j + 1) N (c + 1) (h_si k2 34 z (nI (O z - 1))) (s_up O z (O z - 1)) (by omega) (by omega) w1.1 (c_wwt hw2 w1) (c_rw_ww h1 w1 (by simp [nb])) (c_oft_u h2) (fun q => by unfold s_up; split; omega; exact h3 q)
        refine ⟨k3, ?_, m2⟩
        rw [m1]
        congr 3
        omega
theorem ci_common_17 (hA : A.length ≤ 300) (hB : B.length ≤ 300) (hwA : s_wd A) (hwB : s_wd B) (na : ra ≠ 34) (nb : rb ≠ 34) (hk : h_n k rb = B.length) : ∀ (d j N : Nat) (k2 : h_S) (O : Nat → Nat), j + d = A.length → d < N → c_F k2 → c_ww [34] k k2 → c_rw k2 ra A → c_rw k2 rb B → c_oft k2 O → (∀ x, O x ≤ j) → ∃ k3, fn_X9_commonTo_17 N (some rb) (some ra) (nI A.length) (nI j) k2 = some (nI (s_cm (s_oft O (A.drop j)) B), k3) ∧ c_ww [34] k k3 := by
  intro d
  induction d with
  | zero =>
    intro j N k2 O hj hN hF hw2 h1 h2 h3 h4
    obtain ⟨N, rfl⟩ : ∃ m, N = m + 1 := ⟨N - 1, by omega⟩
    obtain ⟨k3, m1, m2⟩ := ci_common_71 hB hwB nb hk B.length 0 g_N 0 k2 O (by omega) (by have := g_N_le; omega) hF hw2 h2 h3 (fun x => by have := h4 x; omega)
    refine ⟨k3, ?_, m2⟩
    show fn_X9_commonTo_17b _ _ _ _ _ _ = _
    unfold fn_X9_commonTo_17b
    have en : Int32.ofNat (h_n k2 rb) = nI B.length := by rw [(hw2.2 rb (by simp [nb])).2.1, hk]; rfl
    rw [fg_if_1 ((n_le (by omega) (by omega)).mpr (by omega)), List.drop_eq_nil_of_le (by omega), fg_o_1, fg_g_1 h2.1, en]
    rw [Nat.zero_add] at m1
    exact m1
  | succ d ih =>
    intro j N k2 O hj hN hF hw2 h1 h2 h3 h4
    obtain ⟨N, rfl⟩ : ∃ m, N = m + 1 := ⟨N - 1, by omega⟩
    have hj2 : j < A.length := by omega
    have eb := h1.2.2 j _ (List.getElem?_eq_getElem hj2)
    have hm := hwA _ (List.getElem_mem hj2)
    have hdr : A.drop j = A[j] :: A.drop (j + 1) := List.drop_eq_getElem_cons hj2
    generalize A[j] = x at eb hm hdr
    have eof : s_oft O (A.drop j) = if x = -7 then s_oft O (A.drop (j + 1)) else s_oft (s_up O (h_ix x) (O (h_ix x) + 1)) (A.drop (j + 1)) := by rw [hdr]; rfl
    have g1 : vp_in (nI j) (h_n k2 ra) := (n_vp (by omega)).mpr (by have := h1.2.1; omega)
    show ∃ k3, fn_X9_commonTo_17b (fn_X9_commonTo_17 N) _ _ _ _ _ = _ ∧ _
    unfold fn_X9_commonTo_17b
    rw [fg_if_0 (fun q => by have := (n_le (a := A.length) (b := j) (by omega) (by omega)).mp q; omega), fg_o_1, fg_g_1 h1.1, fg_g_1 g1, q_nIx (by omega), eb, ci_in500 hm, fg_b_1, q_bn_if, n_p1, eof]
    by_cases c1 : x = -7
    · rw [fg_if_1 c1, if_pos c1]
      exact ih (j + 1) N k2 O (by omega) (by omega) hF hw2 h1 h2 h3 (fun x => by have := h4 x; omega)
    · obtain ⟨z, hz, ez⟩ := hm.resolve_left c1
      have g2 : vp_in x 500 := by rw [ez]; exact (n_vp (by omega)).mpr hz
      have ix : h_ix x = z := by rw [ez, q_nIx (by omega)]
      have hO := h4 z
      rw [fg_if_0 c1, if_neg c1, fg_g_1 g2, fg_g_1 g2, ix, h3 z hz, fg_let_1, n_p1]
      have w1 : c_ww [34] k2 (h_si k2 34 z (nI (O z + 1))) := c_ww_si hF (by decide)
      exact ih (j + 1) N (h_si k2 34 z (nI (O z + 1))) (s_up O z (O z + 1)) (by omega) (by omega) w1.1 (c_wwt hw2 w1) (c_rw_ww h1 w1 (by simp [na])) (c_rw_ww h2 w1 (by simp [nb])) (c_oft_u h3) (fun q => by unfold s_up; split; omega; have := h4 q; omega)
theorem ci_commonTo (hA : A.length ≤ 300) (hB : B.length ≤ 300) (hwA : s_wd A) (hwB : s_wd B) (na : ra ≠ 34) (nb : rb ≠ 34) (hF : c_F k) (h1 : c_rw k ra A) (h2 : c_rw k rb B) (n1 : h_n k ra = A.length) (n2 : h_n k rb = B.length) : ∃ k3, fn_X9_commonTo (some ra) (some rb) k = some (nI (s_cm (s_oft (fun _ => 0) A) B), k3) ∧ c_ww [34] k k3 := by
  have r2 : h_r k 10 2 = some 34 := cf_r hF rfl
  have k34 : h_k k 34 = 1 := cf_k hF rfl (by decide)
  have n34 : h_n k 34 = 500 := cf_n (kd := 1) hF rfl (by decide) rfl
  have w1 : c_ww [34] k (h_af k 34 (fun x => if x < h_n k 34 then 0 else h_i k 34 x)) := c_ww_af hF (by decide)
  obtain ⟨k3, m1, m2⟩ := ci_common_17 hA hB hwA hwB na nb n2 A.length 0 g_N _ (fun _ => 0) (by omega) (by have := g_N_le; omega) w1.1 w1 (c_rw_ww h1 w1 (by simp [na])) (c_rw_ww h2 w1 (by simp [nb])) (fun x hx => by
    rw [h_i_af, if_pos rfl, n34, if_pos hx]
    rfl) (fun _ => Nat.le_refl _)
  refine ⟨k3, ?_, m2⟩
  have e1 := w1.2 ra (by simp [na])
  have en : Int32.ofNat (h_n (h_af k 34 (fun x => if x < h_n k 34 then 0 else h_i k 34 x)) ra) = nI A.length := by rw [e1.2.1, n1]; rfl
  unfold fn_X9_commonTo
  rw [r2, ci_fill k34 (by rw [n34]; decide), fg_b_1, fg_o_1, fg_g_1 (by rw [e1.1]; exact h1.1), en]
  exact m1
theorem cs_compare (h : CB k s y) (v : ivc s) (vx : ivx s) (x u w : Int32) : ∃ k2, fn_X11_compare x u w k = some ((s_compare s x u w).1, k2) ∧ CB k2 (s_compare s x u w).2 y := by
  have ew : fn_X11_within w 4 k = some (q_b (q_in w ((4 : Nat) : Int)), k) := ci_withinN w (n := 4) (by decide)
  unfold fn_X11_compare s_compare
  rw [ci_versionAt (CB_M h) v, fg_b_1, ci_versionAt (CB_M h) v, fg_b_1]
  by_cases c1 : q_in x (sC s 4)
  · have nn1 : ¬ (some (yA y 4 (h_ix x)) = none) := by simp
    by_cases c2 : q_in u (sC s 4)
    · have nn2 : ¬ (some (yA y 4 (h_ix u)) = none) := by simp
      have c : q_in x (sC s 4) ∧ q_in u (sC s 4) := ⟨c1, c2⟩
      simp only [fg_if_1 c1, fg_if_1 c2, fg_if_0 nn1, fg_if_0 nn2, ew, fg_b_1, q_b_if, fg_if_1 c]
      by_cases c3 : q_in w 4
      · have c3' : q_in w ((4 : Nat) : Int) := c3
        obtain ⟨_, w1, _, _, _, _, ra, w2, w3⟩ := CB_ver (CB_M h) (n_in c1).2
        obtain ⟨_, z1, _, _, _, _, rb, z2, z3⟩ := CB_ver (CB_M h) (n_in c2).2
        have hA := s_vs_300 (s := s) (h_ix x)
        have hB := s_vs_300 (s := s) (h_ix u)
        have ga := w3.1.1
        have gb := z3.1.1
        have ta := (CB_ver (CB_M h) (n_in c1).2).1.1
        have tb := (CB_ver (CB_M h) (n_in c2).2).1.1
        have h1 : c_rw k ra (s_vs s (h_ix x)) := ⟨w3.2.1, Nat.le_of_eq w3.2.2.1.symm, w3.2.2.2⟩
        have h2 : c_rw k rb (s_vs s (h_ix u)) := ⟨z3.2.1, Nat.le_of_eq z3.2.2.1.symm, z3.2.2.2⟩
        have ni : ∀ a, 128 ≤ a → a ∉ c_W3 := fun a ha q => by
          unfold c_W3 at q
          simp only [List.mem_cons, List.not_mem_nil, or_false] at q
          omega
        obtain ⟨K2, m1, m2, _⟩ := ci_sharedOf hA hB (ni ra ga) (ni rb gb) h.1 h1 h2
        have hK2 := CB_ww (CB_M h) m2 (by decide)
        have mx := m2.2 _ (ni _ ta)
        have mu := m2.2 _ (ni _ tb)
        have ma := m2.2 ra (ni ra ga)
        have mb := m2.2 rb (ni rb gb)
        have w1' : h_k K2 (yA y 4 (h_ix x)) = 29 := by rw [mx.1]; exact w1
        have z1' : h_k K2 (yA y 4 (h_ix u)) = 29 := by rw [mu.1]; exact z1
        have w2' : h_r K2 (yA y 4 (h_ix x)) 2 = some ra := by rw [mx.2.2.2]; exact w2
        have z2' : h_r K2 (yA y 4 (h_ix u)) 2 = some rb := by rw [mu.2.2.2]; exact z2
        have na1 : h_n K2 ra = (s_vs s (h_ix x)).length := by rw [ma.2.1]; exact w3.2.2.1
        have nb1 : h_n K2 rb = (s_vs s (h_ix u)).length := by rw [mb.2.1]; exact z3.2.2.1
        obtain ⟨K3, g1, g2⟩ := ci_commonTo hA hB (s_vs_wd v vx _) (s_vs_wd v vx _) (show ra ≠ 34 by omega) (show rb ≠ 34 by omega) m2.1 (c_rw_ww h1 m2 (ni ra ga)) (c_rw_ww h2 m2 (ni rb gb)) na1 nb1
        have hK3 := CB_ww hK2 g2 (by decide)
        have esb : fn_X9_sharedBy (some ra) (some rb) k = some (nI (s_lc (s_vs s (h_ix x)) (s_vs s (h_ix u))), K2) := by
          unfold fn_X9_sharedBy
          have e1 : h_min (Int32.ofNat (h_n k ra)) 300 = nI (s_vs s (h_ix x)).length := by
            rw [w3.2.2.1]
            show h_min (nI (s_vs s (h_ix x)).length) (nI 300) = _
            rw [n_min _ _ (by omega) (by omega), Nat.min_eq_left hA]
          have e2 : h_min (Int32.ofNat (h_n k rb)) 300 = nI (s_vs s (h_ix u)).length := by
            rw [z3.2.2.1]
            show h_min (nI (s_vs s (h_ix u)).length) (nI 300) = _
            rw [n_min _ _ (by omega) (by omega), Nat.min_eq_left hB]
          rw [fg_o_1, fg_g_1 h1.1, fg_o_1, fg_g_1 h2.1, e1, e2, m1, fg_b_1]
        have ea1 : Int32.ofNat (h_n K2 ra) = nI (s_vs s (h_ix x)).length := by rw [na1]; rfl
        have eb1 : Int32.ofNat (h_n K2 rb) = nI (s_vs s (h_ix u)).length := by rw [nb1]; rfl
        have ka : h_k K2 ra = 1 := by rw [ma.1]; exact w3.2.1
        have kb : h_k K2 rb = 1 := by rw [mb.1]; exact z3.2.1
        rw [fg_if_1 c3', fg_if_1 c3, fg_o_1, fg_g_1 w1, fg_o_1, fg_g_1 z1, w2, z2, esb, fg_b_1]
        simp only [fg_o_1, fg_g_1 w1', fg_g_1 z1', w2', z2', fg_g_1 ka, fg_g_1 kb, ea1, eb1, g1, fg_b_1]
        by_cases q0 : w = 0
        · have q1 : ¬ w = 1 := by rw [q0]; decide
          have q2 : ¬ w = 2 := by rw [q0]; decide
          have q3 : ¬ w = 3 := by rw [q0]; decide
          simp only [fg_if_1 q0, fg_if_0 q1, fg_if_0 q2, fg_if_0 q3]
          exact ⟨K2, rfl, hK2⟩
        · simp only [fg_if_0 q0]
          by_cases q1 : w = 1
          · simp only [fg_if_1 q1]
            exact ⟨K2, rfl, hK2⟩
          · simp only [fg_if_0 q1]
            by_cases q2 : w = 2
            · simp only [fg_if_1 q2]
              exact ⟨K2, rfl, hK2⟩
            · have q3 : w = 3 := by
                obtain ⟨e, l⟩ := n_in (n := 4) c3
                rcases (show h_ix w = 0 ∨ h_ix w = 1 ∨ h_ix w = 2 ∨ h_ix w = 3 by omega) with r | r | r | r
                · exact absurd (by rw [e, r]; rfl) q0
                · exact absurd (by rw [e, r]; rfl) q1
                · exact absurd (by rw [e, r]; rfl) q2
                · rw [e, r]; rfl
              simp only [fg_if_0 q2, fg_if_1 q3]
              exact ⟨K3, rfl, hK3⟩
      · have c3' : ¬ q_in w ((4 : Nat) : Int) := c3
        rw [fg_if_0 c3', fg_if_0 c3]
        exact ⟨k, rfl, h⟩
    · have c : ¬ (q_in x (sC s 4) ∧ q_in u (sC s 4)) := fun q => c2 q.2
      simp only [fg_if_1 c1, fg_if_0 c2, fg_if_0 nn1, fg_if_T, fg_if_0 c]
      exact ⟨k, rfl, h⟩
  · have c : ¬ (q_in x (sC s 4) ∧ q_in u (sC s 4)) := fun q => c1 q.1
    simp only [fg_if_0 c1, fg_if_T, fg_if_0 c]
    exact ⟨k, rfl, h⟩
end CCp
