/-! chains home -/
def s_hm (s : sA) (x : Int32) (c : List Int32) : List Int32 := if c.getLast? = some (sF s 25 (h_ix x)) then c else c ++ [sF s 25 (h_ix x)]
def s_cy (s : sA) (v i : Nat) : Int32 × List Int32 := ((s_it (sR s) 4 (h_ix (sF s 56 v)) (h_ix (sF s 57 v)))[i]?).getD (0, [])
def s_ch (s : sA) (v i : Nat) : List Int32 := s_hm s (s_cy s v i).1 (s_cy s v i).2
noncomputable def s_steps (s : sA) (v i : Int32) : Int32 × sA := (fg_if (q_in v (sC s 4) ∧ q_in i (s_vs s (h_ix v)).length) (fg_if (s_vg s (h_ix v) (h_ix i) = -7) (-3) (nI (s_ch s (h_ix v) (h_ix i)).length)) (-1), s)
noncomputable def s_chain (s : sA) (v i j : Int32) : Int32 × sA := (fg_if (q_in v (sC s 4) ∧ q_in i (s_vs s (h_ix v)).length) (fg_if (s_vg s (h_ix v) (h_ix i) = -7) (-3) (s_get (s_ch s (h_ix v) (h_ix i)) j)) (-1), s)
section SCh
variable {s : sA}
theorem s_it_len (R : Nat → Nat → List sP) : ∀ (f w m : Nat) (y : Int32 × List Int32), y ∈ s_it R f w m → 1 ≤ y.2.length ∧ y.2.length ≤ f + 1 := by
  intro f
  induction f with
  | zero =>
    intro w m y h
    unfold s_it at h
    obtain ⟨p, hp, h⟩ := List.mem_flatMap.mp h
    by_cases c : p.1 < 2
    · rw [if_pos c] at h
      obtain ⟨z, _, e⟩ := List.mem_map.mp h
      rw [← e]; simp
    · rw [if_neg c] at h
      rw [List.mem_singleton.mp h]; simp
  | succ f ih =>
    intro w m y h
    unfold s_it at h
    obtain ⟨p, hp, h⟩ := List.mem_flatMap.mp h
    by_cases c : p.1 < 2
    · rw [if_pos c] at h
      obtain ⟨z, _, e⟩ := List.mem_map.mp h
      rw [← e]; simp
    · rw [if_neg c] at h
      obtain ⟨z, hz, e⟩ := List.mem_map.mp h
      have := ih _ _ z (List.mem_of_mem_take (List.mem_of_mem_drop (List.mem_of_mem_take hz)))
      rw [← e, List.length_cons]
      omega
theorem s_hm_len (x : Int32) (c : List Int32) : c.length ≤ (s_hm s x c).length ∧ (s_hm s x c).length ≤ c.length + 1 := by
  unfold s_hm
  split
  · omega
  · rw [List.length_append, List.length_singleton]; omega
theorem s_hm_cons (x a : Int32) {c : List Int32} (h : 1 ≤ c.length) : s_hm s x (a :: c) = a :: s_hm s x c := by
  unfold s_hm
  have e : (a :: c).getLast? = c.getLast? := by
    cases c with
    | nil => exact absurd h (by decide)
    | cons b c => rw [List.getLast?_cons_cons]
  rw [e]
  split
  · rfl
  · rfl
theorem s_ip_len (R : Nat → Nat → List sP) (f w m : Nat) (p : sP) : (s_ip R f w m p).length = (s_pp R f m p).length := by
  unfold s_ip s_pp
  by_cases c : p.1 < 2
  · rw [if_pos c, if_pos c, List.length_map]
  · rw [if_neg c, if_neg c]
    cases f with
    | zero => rfl
    | succ f =>
      show (List.map _ _).length = (List.take (h_ix p.2.2.1) (List.drop (h_ix p.2.1) (s_sh R f (h_ix p.2.2.2.1) (if p.1 = 2 then h_ix p.2.2.2.2 else m)))).length
      rw [List.length_map, ← s_it_sh]
      simp only [List.length_take, List.length_drop, List.length_map]
/-- what a version shows, with its chains -/
theorem s_vs_cy {v i : Nat} (h : i < (s_vs s v).length) : (s_it (sR s) 4 (h_ix (sF s 56 v)) (h_ix (sF s 57 v)))[i]? = some (s_cy s v i) ∧ (s_cy s v i).1 = s_vg s v i ∧ (s_inf s (h_ix (sF s 56 v)) (h_ix (sF s 57 v)))[i]?.map (fun y => (y.1, y.2.2)) = some (s_cy s v i) := by
  have hi := s_vs_300 (s := s) v
  have e1 : s_vs s v = ((s_it (sR s) 4 (h_ix (sF s 56 v)) (h_ix (sF s 57 v))).map (fun y => y.1)).take 300 := (s_it_sh _ _ _ _).symm
  have l1 : i < (s_it (sR s) 4 (h_ix (sF s 56 v)) (h_ix (sF s 57 v))).length := by
    rw [e1, List.length_take, List.length_map] at h
    omega
  have a1 : (s_it (sR s) 4 (h_ix (sF s 56 v)) (h_ix (sF s 57 v)))[i]? = some (s_cy s v i) := by
    unfold s_cy
    rw [List.getElem?_eq_getElem l1]
    rfl
  refine ⟨a1, ?_, ?_⟩
  · unfold s_vg
    rw [e1, List.getElem?_take, if_pos (by omega), List.getElem?_map, a1]
    rfl
  · rw [← List.getElem?_map]
    have e2 : (s_inf s (h_ix (sF s 56 v)) (h_ix (sF s 57 v))).map (fun y => (y.1, y.2.2)) = (s_it (sR s) 4 (h_ix (sF s 56 v)) (h_ix (sF s 57 v))).take 300 := by
      unfold s_inf l_OUT
      rw [List.map_take, l_num_it, s_it_ip]
    rw [e2, List.getElem?_take, if_pos (by omega), a1]
end SCh
section RCh
variable {t T : r_T} {s : sA}
theorem ri_noChain (h : RA t s) (v : ivc s) (vp : ivp s) (vv : ivv s) (x i : Int32) : ∃ T, fn_X12_noChain x i t = some (fg_if (q_in x (sC s 4) ∧ q_in i (s_vs s (h_ix x)).length) (fg_if (s_vg s (h_ix x) (h_ix i) = -7) (-3) 0) (-1), T) ∧ RA T s ∧ (q_in x (sC s 4) → q_in i (s_vs s (h_ix x)).length → T.2 36 (h_ix i) = s_vg s (h_ix x) (h_ix i) ∧ T.2 38 (h_ix i) = nI (s_cy s (h_ix x) (h_ix i)).2.length ∧ ∀ j z, (s_cy s (h_ix x) (h_ix i)).2[j]? = some z → T.2 39 (5 * h_ix i + j) = z) := by
  unfold fn_X12_noChain
  rw [ri_noVersion h v, fg_b_1, q_bn_if]
  by_cases c1 : q_in x (sC s 4)
  · obtain ⟨e1, l1⟩ := n_in c1
    have v0 := v.1
    have v2 := v.2.2.1
    obtain ⟨⟨w, m, hw, hm, ew, em⟩, _⟩ := vv (h_ix x) l1
    obtain ⟨T, f1, f2, f4, _, _, f5⟩ := ri_lay h v vp (w := w) (m := m) (by omega) (by omega)
    have eV : s_vs s (h_ix x) = s_sh (sR s) 4 w m := by unfold s_vs; rw [ew, em, q_nIx (by omega), q_nIx (by omega)]
    have hl := s_vs_300 (s := s) (h_ix x)
    have el : fn_X12_layVersion x t = some ((), T) := by
      unfold fn_X12_layVersion
      have v4 := v.2.2.2.2.1
      have g1 : vp_in x 16 := by rw [e1]; exact (n_vp (by omega)).mpr (by omega)
      rw [fg_g_1 g1, fg_g_1 g1, h.2.1 56 rfl, h.2.1 57 rfl, ew, em, f1, fg_b_1]
    rw [← eV] at f2
    rw [fg_if_1 c1, el, fg_b_1, f2, ri_in, q_bc (q_in0n (by omega)), fg_b_1, q_b_if]
    by_cases c2 : q_in i (s_vs s (h_ix x)).length
    · obtain ⟨e2, l2⟩ := n_in c2
      obtain ⟨b1, b2, b3⟩ := s_vs_cy l2
      rw [ew, em, q_nIx (by omega), q_nIx (by omega)] at b3
      obtain ⟨y, y1, y2⟩ := Option.map_eq_some_iff.mp b3
      obtain ⟨o1, o2, o3, o4⟩ := f4 (h_ix i) y y1
      have y3 : y.1 = (s_cy s (h_ix x) (h_ix i)).1 := by rw [← y2]
      have y4 : y.2.2 = (s_cy s (h_ix x) (h_ix i)).2 := by rw [← y2]
      rw [y3, b2] at o1
      rw [y4] at o3 o4
      have g1 : vp_in i 300 := by rw [e2]; exact (n_vp (by omega)).mpr (by omega)
      refine ⟨T, ?_, f5, fun _ _ => ⟨o1, o3, o4⟩⟩
      have cc : q_in x (sC s 4) ∧ q_in i (s_vs s (h_ix x)).length := ⟨c1, c2⟩
      rw [fg_if_1 c2, fg_g_1 g1, o1, fg_if_1 cc, fg_if_some]
    · refine ⟨T, ?_, f5, fun _ q => absurd q c2⟩
      rw [fg_if_0 c2, fg_if_0 (fun q => c2 q.2)]
  · refine ⟨t, ?_, h, fun q => absurd q c1⟩
    rw [fg_if_0 c1, fg_if_0 (fun q => c1 q.1)]
theorem s_cy_len {v i : Nat} (h : i < (s_vs s v).length) : 1 ≤ (s_cy s v i).2.length ∧ (s_cy s v i).2.length ≤ 5 := s_it_len _ 4 _ _ _ (List.mem_of_getElem? (s_vs_cy h).1)
theorem ri_chainMany (h : RA T s) (v : ivc s) (vx : ivx s) {x i : Nat} (hi : i < (s_vs s x).length) (h7 : ¬ s_vg s x i = -7) (h36 : T.2 36 i = s_vg s x i) (h38 : T.2 38 i = nI (s_cy s x i).2.length) (h39 : ∀ j z, (s_cy s x i).2[j]? = some z → T.2 39 (5 * i + j) = z) : fn_X12_chainMany (nI i) T = some (nI (s_ch s x i).length, T) ∧ ∃ z, z < sC s 3 ∧ s_vg s x i = nI z := by
  have v3 := v.2.2.2.1
  have hl := s_vs_300 (s := s) x
  obtain ⟨n1, n2⟩ := s_cy_len hi
  have hm : s_vg s x i ∈ s_vs s x := List.mem_of_getElem? (s_vg_in hi)
  obtain ⟨z, z1, z2⟩ : ∃ z, z < sC s 3 ∧ s_vg s x i = nI z := by
    rcases s_vs_w vx hm with q | q
    · exact absurd q h7
    · exact q
  refine ⟨?_, z, z1, z2⟩
  have e1 : (s_cy s x i).1 = nI z := by rw [(s_vs_cy hi).2.1, z2]
  unfold fn_X12_chainMany
  have ei : h_ix (nI i) = i := q_nIx (by omega)
  have e5 : (5 : Int32) * nI i = nI (5 * i) := n_mul 5 i
  obtain ⟨n, hn⟩ : ∃ n, (s_cy s x i).2.length = n + 1 := ⟨(s_cy s x i).2.length - 1, by omega⟩
  rw [fg_g_1 ((n_vp (by omega)).mpr (by omega)), ei, h38, e5, n_add, hn, ← Nat.add_assoc, n_m1, fg_g_1 ((n_vp (by omega)).mpr (by omega)), fg_g_1 ((n_vp (by omega)).mpr (by omega)), h36, z2, fg_g_1 ((n_vp (by omega)).mpr (by omega)), q_nIx (by omega), q_nIx (by omega), h.2.1 25 rfl, n_p1]
  have hn2 : n < (s_cy s x i).2.length := by omega
  have el : (s_cy s x i).2.getLast? = some (s_cy s x i).2[n] := by
    rw [List.getLast?_eq_getElem?, hn, Nat.add_sub_cancel, List.getElem?_eq_getElem hn2]
  rw [h39 n _ (List.getElem?_eq_getElem hn2)]
  unfold s_ch s_hm
  rw [el, e1, q_nIx (by omega)]
  by_cases c : (s_cy s x i).2[n] = sF s 25 z
  · rw [fg_if_1 c, if_pos (by rw [c]), hn]
  · rw [fg_if_0 c, if_neg (fun q => c (Option.some.inj q)), List.length_append, hn]
    rfl
theorem rs_steps (h : RA t s) (v : ivc s) (vp : ivp s) (vv : ivv s) (vx : ivx s) (x i : Int32) : ∃ t2, fn_X12_steps x i t = some ((s_steps s x i).1, t2) ∧ RA t2 (s_steps s x i).2 := by
  obtain ⟨T, a1, a2, a3⟩ := ri_noChain h v vp vv x i
  unfold fn_X12_steps s_steps
  rw [a1, fg_b_1]
  by_cases c : q_in x (sC s 4) ∧ q_in i (s_vs s (h_ix x)).length
  · simp only [fg_if_1 c]
    by_cases c2 : s_vg s (h_ix x) (h_ix i) = -7
    · simp only [fg_if_1 c2]
      rw [fg_if_0 (by decide)]
      exact ⟨T, rfl, a2⟩
    · obtain ⟨b1, b2, b3⟩ := a3 c.1 c.2
      obtain ⟨e2, l2⟩ := n_in c.2
      obtain ⟨d1, _⟩ := ri_chainMany a2 v vx l2 c2 b1 b2 b3
      rw [← e2] at d1
      simp only [fg_if_0 c2]
      rw [fg_if_1 (by decide), d1, fg_b_1]
      exact ⟨T, rfl, a2⟩
  · simp only [fg_if_0 c]
    rw [fg_if_0 (by decide)]
    exact ⟨T, rfl, a2⟩
theorem rs_chain (h : RA t s) (v : ivc s) (vp : ivp s) (vv : ivv s) (vx : ivx s) (x i j : Int32) : ∃ t2, fn_X12_chain x i j t = some ((s_chain s x i j).1, t2) ∧ RA t2 (s_chain s x i j).2 := by
  obtain ⟨T, a1, a2, a3⟩ := ri_noChain h v vp vv x i
  have v3 := v.2.2.2.1
  unfold fn_X12_chain s_chain
  rw [a1, fg_b_1]
  by_cases c : q_in x (sC s 4) ∧ q_in i (s_vs s (h_ix x)).length
  · simp only [fg_if_1 c]
    by_cases c2 : s_vg s (h_ix x) (h_ix i) = -7
    · simp only [fg_if_1 c2]
      rw [fg_if_0 (by decide)]
      exact ⟨T, rfl, a2⟩
    · obtain ⟨b1, b2, b3⟩ := a3 c.1 c.2
      obtain ⟨e2, l2⟩ := n_in c.2
      obtain ⟨d1, z, z1, z2⟩ := ri_chainMany a2 v vx l2 c2 b1 b2 b3
      obtain ⟨n1, n2⟩ := s_cy_len l2
      have n3 := s_hm_len (s := s) (s_cy s (h_ix x) (h_ix i)).1 (s_cy s (h_ix x) (h_ix i)).2
      have n3' : (s_ch s (h_ix x) (h_ix i)).length ≤ 6 := by unfold s_ch; omega
      rw [← e2] at d1
      have hl := s_vs_300 (s := s) (h_ix x)
      have g1 : vp_in i 300 := by rw [e2]; exact (n_vp (by omega)).mpr (by omega)
      simp only [fg_if_0 c2]
      rw [fg_if_1 (by decide), d1, fg_b_1, ri_in, q_bc (q_in0n (by omega)), fg_b_1, q_b_if]
      unfold s_get
      by_cases c3 : q_in j (s_ch s (h_ix x) (h_ix i)).length
      · obtain ⟨e3, l3⟩ := n_in c3
        have e5 : (5 : Int32) * i + j = nI (5 * h_ix i + h_ix j) := by
          have : (5 : Int32) * nI (h_ix i) + nI (h_ix j) = nI (5 * h_ix i + h_ix j) := by
            rw [show (5 : Int32) = nI 5 from rfl, n_mul, n_add]
          rw [← e2, ← e3] at this
          exact this
        have ejl : nI (s_cy s (h_ix x) (h_ix i)).2.length ≤ j ↔ (s_cy s (h_ix x) (h_ix i)).2.length ≤ h_ix j := by
          have : nI (s_cy s (h_ix x) (h_ix i)).2.length ≤ nI (h_ix j) ↔ _ := n_le (a := (s_cy s (h_ix x) (h_ix i)).2.length) (b := h_ix j) (by omega) (by omega)
          rw [← e3] at this
          exact this
        have ex : (s_cy s (h_ix x) (h_ix i)).1 = nI z := by rw [(s_vs_cy l2).2.1, z2]
        rw [fg_if_1 c3, fg_if_1 c3, fg_g_1 g1, b2, fg_if_c ejl, fg_g_1 g1, b1, z2, fg_g_1 ((n_vp (by omega)).mpr (by omega)), q_nIx (by omega), a2.2.1 25 rfl, e5]
        by_cases c4 : (s_cy s (h_ix x) (h_ix i)).2.length ≤ h_ix j
        · rw [fg_if_1 c4]
          refine ⟨T, ?_, a2⟩
          have ej : h_ix j = (s_cy s (h_ix x) (h_ix i)).2.length := by unfold s_ch at l3; omega
          rw [ej] at l3
          rw [ej]
          unfold s_ch s_hm at l3 ⊢
          rw [ex, q_nIx (by omega)] at l3 ⊢
          by_cases q : (s_cy s (h_ix x) (h_ix i)).2.getLast? = some (sF s 25 z)
          · rw [if_pos q] at l3; omega
          · rw [if_neg q, List.getElem?_append_right (Nat.le_refl _), Nat.sub_self]
            rfl
        · rw [fg_if_0 c4]
          have hj : h_ix j < (s_cy s (h_ix x) (h_ix i)).2.length := by omega
          rw [fg_g_1 ((n_vp (by omega)).mpr (by omega)), q_nIx (by omega), b3 _ _ (List.getElem?_eq_getElem hj)]
          refine ⟨T, ?_, a2⟩
          unfold s_ch s_hm
          split
          · rw [List.getElem?_eq_getElem hj]; rfl
          · rw [List.getElem?_append_left hj, List.getElem?_eq_getElem hj]; rfl
      · rw [fg_if_0 c3, fg_if_0 c3]
        exact ⟨T, rfl, a2⟩
  · simp only [fg_if_0 c]
    rw [fg_if_0 (by decide)]
    exact ⟨T, rfl, a2⟩
end RCh
