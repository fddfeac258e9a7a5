/-! what two rows share -/
def s_lc : List Int32 → List Int32 → Nat
  | [], _ => 0
  | _ :: _, [] => 0
  | a :: as, b :: bs => if a = b ∧ ¬ a = -7 then s_lc as bs + 1 else max (s_lc as (b :: bs)) (s_lc (a :: as) bs)
termination_by as bs => as.length + bs.length
theorem s_lc_n (b : List Int32) : s_lc [] b = 0 := by rw [s_lc]
theorem s_lc_n2 (a : List Int32) : s_lc a [] = 0 := by
  cases a with
  | nil => rw [s_lc]
  | cons x a => rw [s_lc]
theorem s_lc_c (a b : Int32) (as bs : List Int32) : s_lc (a :: as) (b :: bs) = if a = b ∧ ¬ a = -7 then s_lc as bs + 1 else max (s_lc as (b :: bs)) (s_lc (a :: as) bs) := by rw [s_lc]
theorem s_lc_le : ∀ (n : Nat) (a b : List Int32), a.length + b.length = n → s_lc a b ≤ a.length ∧ s_lc a b ≤ b.length := by
  intro n
  induction n using Nat.strongRecOn with
  | ind n ih =>
    intro a b h
    cases a with
    | nil => rw [s_lc_n]; exact ⟨Nat.zero_le _, Nat.zero_le _⟩
    | cons x a =>
      cases b with
      | nil => rw [s_lc_n2]; exact ⟨Nat.zero_le _, Nat.zero_le _⟩
      | cons z b =>
        simp only [List.length_cons] at h ⊢
        have h1 := ih (a.length + b.length) (by omega) a b rfl
        have h2 := ih (a.length + (b.length + 1)) (by omega) a (z :: b) (by simp)
        have h3 := ih (a.length + 1 + b.length) (by omega) (x :: a) b (by simp)
        simp only [List.length_cons] at h2 h3
        rw [s_lc_c]
        split <;> omega
/-- the table -/
def s_T (A B : List Int32) (i j : Nat) : Nat := s_lc (A.drop i) (B.drop j)
section SLc
variable {A B : List Int32}
theorem s_T_1 {i j : Nat} (h : A.length ≤ i) : s_T A B i j = 0 := by unfold s_T; rw [List.drop_eq_nil_of_le h, s_lc_n]
theorem s_T_2 {i j : Nat} (h : B.length ≤ j) : s_T A B i j = 0 := by unfold s_T; rw [List.drop_eq_nil_of_le h, s_lc_n2]
theorem s_T_c {i j : Nat} (hi : i < A.length) (hj : j < B.length) : s_T A B i j = if A[i] = B[j] ∧ ¬ A[i] = -7 then s_T A B (i + 1) (j + 1) + 1 else max (s_T A B (i + 1) j) (s_T A B i (j + 1)) := by
  unfold s_T
  rw [List.drop_eq_getElem_cons hi, List.drop_eq_getElem_cons hj, s_lc_c]
theorem s_T_le (i j : Nat) : s_T A B i j ≤ A.length := by
  have := (s_lc_le _ (A.drop i) (B.drop j) rfl).1
  rw [List.length_drop] at this
  unfold s_T
  omega
end SLc
/-- without gaps, or as it is -/
def s_kp (f : Int32) (L : List Int32) : List Int32 := if f = 0 then L.filter (fun x => !decide (x = -7)) else L
def s_up (O : Nat → Nat) (x v : Nat) : Nat → Nat := fun z => if z = x then v else O z
/-- how often each word stands -/
def s_oft : (Nat → Nat) → List Int32 → Nat → Nat
  | O, [] => O
  | O, x :: l => if x = -7 then s_oft O l else s_oft (s_up O (h_ix x) (O (h_ix x) + 1)) l
/-- how many are taken away -/
def s_cm : (Nat → Nat) → List Int32 → Nat
  | _, [] => 0
  | O, x :: l => if x = -7 then s_cm O l else if O (h_ix x) = 0 then s_cm O l else s_cm (s_up O (h_ix x) (O (h_ix x) - 1)) l + 1
noncomputable def s_compare (s : sA) (v u w : Int32) : Int32 × sA := (fg_if (q_in v (sC s 4) ∧ q_in u (sC s 4)) (fg_if (q_in w 4) (fg_if (w = 0) (nI (s_lc (s_vs s (h_ix v)) (s_vs s (h_ix u)))) (fg_if (w = 1) (nI (s_vs s (h_ix v)).length - nI (s_lc (s_vs s (h_ix v)) (s_vs s (h_ix u)))) (fg_if (w = 2) (nI (s_vs s (h_ix u)).length - nI (s_lc (s_vs s (h_ix v)) (s_vs s (h_ix u)))) (nI (s_cm (s_oft (fun _ => 0) (s_vs s (h_ix v))) (s_vs s (h_ix u))) - nI (s_lc (s_vs s (h_ix v)) (s_vs s (h_ix u))))))) (-2)) (-1), s)
section RLc
variable {t T : r_T} {s : sA}
/-- a row lies in an array, its length in a number -/
def r_in (a b : Nat) (T : r_T) (l : List Int32) : Prop := T.1 a = nI l.length ∧ ∀ (i : Nat) (x : Int32), l[i]? = some x → T.2 b i = x
def l_V5 : List Nat := 35 :: l_S
theorem ri_layV (h : RA t s) (v : ivc s) (vp : ivp s) (vv : ivv s) {x : Nat} (hx : x < sC s 4) : ∃ t2, fn_X12_layVersion (nI x) t = some ((), t2) ∧ r_in 35 36 t2 (s_vs s x) ∧ r_fr l_V5 t t2 ∧ RA t2 s := by
  have v0 := v.1
  have v2 := v.2.2.1
  have v4 := v.2.2.2.2.1
  obtain ⟨⟨w, m, hw, hm, e1, e2⟩, _⟩ := vv x hx
  obtain ⟨t2, f1, f2, f4, _, f6, f3⟩ := ri_lay h v vp (w := w) (m := m) (by omega) (by omega)
  have eV : s_vs s x = s_sh (sR s) 4 w m := by unfold s_vs; rw [e1, e2, q_nIx (by omega), q_nIx (by omega)]
  refine ⟨t2, ?_, ⟨by rw [eV]; exact f2, fun i z hz => l_out_w f4 (by rw [← eV]; exact hz)⟩, f6, f3⟩
  unfold fn_X12_layVersion
  have g1 : vp_in (nI x) 16 := (n_vp (by omega)).mpr (by omega)
  rw [fg_g_1 g1, fg_g_1 g1, q_nIx (by omega), h.2.1 56 rfl, h.2.1 57 rfl, e1, e2, f1, fg_b_1]
theorem s_kp_c (f x : Int32) (L : List Int32) : s_kp f (x :: L) = if f = 0 ∧ x = -7 then s_kp f L else x :: s_kp f L := by
  unfold s_kp
  by_cases c : f = 0
  · simp only [if_pos c]
    by_cases c2 : x = -7
    · rw [List.filter_cons_of_neg (by simp [c2]), if_pos ⟨c, c2⟩]
    · rw [List.filter_cons_of_pos (by simp [c2]), if_neg (fun q => c2 q.2)]
  · simp only [if_neg c]
    rw [if_neg (fun q => c q.1)]
theorem s_kp_len (f : Int32) (L : List Int32) : (s_kp f L).length ≤ L.length := by
  unfold s_kp
  split
  · exact List.length_filter_le _ _
  · exact Nat.le_refl _
theorem r_in_sn {a b : Nat} {l : List Int32} {x : Int32} (h : r_in a b T l) (hl : l.length < 1000) (hab : True) : r_in a b (rt_F (rt_A T b l.length x) a (nI (l.length + 1))) (l ++ [x]) := by
  refine ⟨?_, fun i z hz => ?_⟩
  · rw [rt_FF, if_pos rfl, List.length_append]; rfl
  · rw [List.getElem?_append] at hz
    show (rt_A T b l.length x).2 b i = z
    rw [rt_AA, if_pos rfl]
    by_cases c : i < l.length
    · rw [if_pos c] at hz
      rw [if_neg (by omega)]
      exact h.2 i z hz
    · rw [if_neg c] at hz
      have e : i = l.length := by
        have := (List.getElem?_eq_some_iff.mp hz).1
        simp at this
        omega
      rw [if_pos e]
      subst e
      simpa using hz
theorem ri_takeOne_12 {L : List Int32} (hL : L.length ≤ 300) (f : Int32) : ∀ (d j N : Nat) (T : r_T) (acc : List Int32), j + d = L.length → d < N → r_in 35 36 T L → r_in 60 62 T acc → acc.length ≤ j → ∃ T2, fn_X12_takeOne_12 N f (nI j) T = some ((), T2) ∧ r_fr [60, 62] T T2 ∧ r_in 60 62 T2 (acc ++ s_kp f (L.drop j)) := by
  intro d
  induction d with
  | zero =>
    intro j N T acc hj hN h1 h2 ha
    obtain ⟨N, rfl⟩ : ∃ m, N = m + 1 := ⟨N - 1, by omega⟩
    refine ⟨T, ?_, r_fr0, ?_⟩
    · show fn_X12_takeOne_12b _ _ _ _ = _
      unfold fn_X12_takeOne_12b
      rw [h1.1, fg_if_1 ((n_le (by omega) (by omega)).mpr (by omega))]
    · rw [List.drop_eq_nil_of_le (by omega)]
      have : s_kp f [] = [] := by unfold s_kp; split <;> rfl
      rw [this, List.append_nil]
      exact h2
  | succ d ih =>
    intro j N T acc hj hN h1 h2 ha
    obtain ⟨N, rfl⟩ : ∃ m, N = m + 1 := ⟨N - 1, by omega⟩
    have hj2 : j < L.length := by omega
    have g1 : vp_in (nI j) 300 := (n_vp (by omega)).mpr (by omega)
    have ej : T.2 36 j = L[j] := h1.2 j _ (List.getElem?_eq_getElem hj2)
    have st : ¬ (f = 0 ∧ L[j] = -7) → ∃ T2, fn_X12_takeOne_35 (fn_X12_takeOne_12 N) f (nI j) T = some ((), T2) ∧ r_fr [60, 62] T T2 ∧ r_in 60 62 T2 (acc ++ s_kp f (L.drop j)) := by
      intro c
      have f0 : r_fr [60, 62] T (rt_F (rt_A T 62 acc.length L[j]) 60 (nI (acc.length + 1))) := r_frt (r_frA (by decide)) (r_frF (by decide))
      obtain ⟨T2, k1, k2, k3⟩ := ih (j + 1) N (rt_F (rt_A T 62 acc.length L[j]) 60 (nI (acc.length + 1))) (acc ++ [L[j]]) (by omega) (by omega) ⟨by rw [f0.1 35 (by decide)]; exact h1.1, fun i x hx => by rw [f0.2 36 (by decide)]; exact h1.2 i x hx⟩ (r_in_sn h2 (by omega) trivial) (by rw [List.length_append]; simp; omega)
      refine ⟨T2, ?_, r_frt f0 k2, ?_⟩
      · unfold fn_X12_takeOne_35
        rw [fg_g_1 g1, h2.1, fg_g_1 ((n_vp (by omega)).mpr (by omega)), q_nIx (by omega), q_nIx (by omega), ej, fg_let_1, fg_let_1, show (rt_A T 62 acc.length L[j]).1 60 = T.1 60 from rfl, h2.1, n_p1, n_p1]
        exact k1
      · rw [List.drop_eq_getElem_cons hj2, s_kp_c, if_neg c]
        rw [List.append_assoc] at k3
        exact k3
    show ∃ T2, fn_X12_takeOne_12b (fn_X12_takeOne_12 N) _ _ _ = _ ∧ _
    unfold fn_X12_takeOne_12b
    rw [h1.1, fg_if_0 (fun q => by have := (n_le (a := L.length) (b := j) (by omega) (by omega)).mp q; omega), fg_g_1 g1, q_nIx (by omega), ej, n_p1]
    by_cases c1 : f = 0
    · rw [fg_if_1 c1]
      by_cases c2 : L[j] = -7
      · rw [fg_if_1 c2]
        obtain ⟨T2, k1, k2, k3⟩ := ih (j + 1) N T acc (by omega) (by omega) h1 h2 (by omega)
        refine ⟨T2, k1, k2, ?_⟩
        rw [List.drop_eq_getElem_cons hj2, s_kp_c, if_pos ⟨c1, c2⟩]
        exact k3
      · rw [fg_if_0 c2]
        exact st (fun q => c2 q.2)
    · rw [fg_if_0 c1]
      exact st (fun q => c1 q.1)
theorem ri_takeTwo_12 {L : List Int32} (hL : L.length ≤ 300) (f : Int32) : ∀ (d j N : Nat) (T : r_T) (acc : List Int32), j + d = L.length → d < N → r_in 35 36 T L → r_in 61 63 T acc → acc.length ≤ j → ∃ T2, fn_X12_takeTwo_12 N f (nI j) T = some ((), T2) ∧ r_fr [61, 63] T T2 ∧ r_in 61 63 T2 (acc ++ s_kp f (L.drop j)) := by
  intro d
  induction d with
  | zero =>
    intro j N T acc hj hN h1 h2 ha
    obtain ⟨N, rfl⟩ : ∃ m, N = m + 1 := ⟨N - 1, by omega⟩
    refine ⟨T, ?_, r_fr0, ?_⟩
    · show fn_X12_takeTwo_12b _ _ _ _ = _
      unfold fn_X12_takeTwo_12b
      rw [h1.1, fg_if_1 ((n_le (by omega) (by omega)).mpr (by omega))]
    · rw [List.drop_eq_nil_of_le (by omega)]
      have : s_kp f [] = [] := by unfold s_kp; split <;> rfl
      rw [this, List.append_nil]
      exact h2
  | succ d ih =>
    intro j N T acc hj hN h1 h2 ha
    obtain ⟨N, rfl⟩ : ∃ m, N = m + 1 := ⟨N - 1, by omega⟩
    have hj2 : j < L.length := by omega
    have g1 : vp_in (nI j) 300 := (n_vp (by omega)).mpr (by omega)
    have ej : T.2 36 j = L[j] := h1.2 j _ (List.getElem?_eq_getElem hj2)
    have st : ¬ (f = 0 ∧ L[j] = -7) → ∃ T2, fn_X12_takeTwo_35 (fn_X12_takeTwo_12 N) f (nI j) T = some ((), T2) ∧ r_fr [61, 63] T T2 ∧ r_in 61 63 T2 (acc ++ s_kp f (L.drop j)) := by
      intro c
      have f0 : r_fr [61, 63] T (rt_F (rt_A T 63 acc.length L[j]) 61 (nI (acc.length + 1))) := r_frt (r_frA (by decide)) (r_frF (by decide))
      obtain ⟨T2, k1, k2, k3⟩ := ih (j + 1) N (rt_F (rt_A T 63 acc.length L[j]) 61 (nI (acc.length + 1))) (acc ++ [L[j]]) (by omega) (by omega) ⟨by rw [f0.1 35 (by decide)]; exact h1.1, fun i x hx => by rw [f0.2 36 (by decide)]; exact h1.2 i x hx⟩ (r_in_sn h2 (by omega) trivial) (by rw [List.length_append]; simp; omega)
      refine ⟨T2, ?_, r_frt f0 k2, ?_⟩
      · unfold fn_X12_takeTwo_35
        rw [fg_g_1 g1, h2.1, fg_g_1 ((n_vp (by omega)).mpr (by omega)), q_nIx (by omega), q_nIx (by omega), ej, fg_let_1, fg_let_1, show (rt_A T 63 acc.length L[j]).1 61 = T.1 61 from rfl, h2.1, n_p1, n_p1]
        exact k1
      · rw [List.drop_eq_getElem_cons hj2, s_kp_c, if_neg c]
        rw [List.append_assoc] at k3
        exact k3
    show ∃ T2, fn_X12_takeTwo_12b (fn_X12_takeTwo_12 N) _ _ _ = _ ∧ _
    unfold fn_X12_takeTwo_12b
    rw [h1.1, fg_if_0 (fun q => by have := (n_le (a := L.length) (b := j) (by omega) (by omega)).mp q; omega), fg_g_1 g1, q_nIx (by omega), ej, n_p1]
    by_cases c1 : f = 0
    · rw [fg_if_1 c1]
      by_cases c2 : L[j] = -7
      · rw [fg_if_1 c2]
        obtain ⟨T2, k1, k2, k3⟩ := ih (j + 1) N T acc (by omega) (by omega) h1 h2 (by omega)
        refine ⟨T2, k1, k2, ?_⟩
        rw [List.drop_eq_getElem_cons hj2, s_kp_c, if_pos ⟨c1, c2⟩]
        exact k3
      · rw [fg_if_0 c2]
        exact st (fun q => c2 q.2)
    · rw [fg_if_0 c1]
      exact st (fun q => c1 q.1)
def l_V6 : List Nat := 60 :: 62 :: l_V5
def l_V7 : List Nat := 61 :: 63 :: l_V5
theorem ri_takeOne (h : RA t s) (v : ivc s) (vp : ivp s) (vv : ivv s) {x : Nat} (hx : x < sC s 4) (f : Int32) : ∃ T2, fn_X12_takeOne (nI x) f t = some ((), T2) ∧ r_fr l_V6 t T2 ∧ RA T2 s ∧ r_in 60 62 T2 (s_kp f (s_vs s x)) := by
  obtain ⟨T1, a1, a2, a3, a4⟩ := ri_layV h v vp vv hx
  have hl := s_vs_300 (s := s) x
  have f0 : r_fr [60, 62] T1 (rt_F T1 60 0) := r_frF (by decide)
  obtain ⟨T2, b1, b2, b3⟩ := ri_takeOne_12 hl f (s_vs s x).length 0 g_N (rt_F T1 60 0) [] (by omega) (by have := g_N_le; omega) ⟨a2.1, a2.2⟩ ⟨rfl, fun i x hx => by cases hx⟩ (by simp)
  have fr : r_fr l_V6 t T2 := r_frt (r_frS a3 (by decide)) (r_frS (r_frt f0 b2) (by decide))
  refine ⟨T2, ?_, fr, RA_fr h fr (by decide), b3⟩
  unfold fn_X12_takeOne
  rw [a1, fg_b_1, fg_let_1]
  exact b1
theorem ri_takeTwo (h : RA t s) (v : ivc s) (vp : ivp s) (vv : ivv s) {x : Nat} (hx : x < sC s 4) (f : Int32) : ∃ T2, fn_X12_takeTwo (nI x) f t = some ((), T2) ∧ r_fr l_V7 t T2 ∧ RA T2 s ∧ r_in 61 63 T2 (s_kp f (s_vs s x)) := by
  obtain ⟨T1, a1, a2, a3, a4⟩ := ri_layV h v vp vv hx
  have hl := s_vs_300 (s := s) x
  have f0 : r_fr [61, 63] T1 (rt_F T1 61 0) := r_frF (by decide)
  obtain ⟨T2, b1, b2, b3⟩ := ri_takeTwo_12 hl f (s_vs s x).length 0 g_N (rt_F T1 61 0) [] (by omega) (by have := g_N_le; omega) ⟨a2.1, a2.2⟩ ⟨rfl, fun i x hx => by cases hx⟩ (by simp)
  have fr : r_fr l_V7 t T2 := r_frt (r_frS a3 (by decide)) (r_frS (r_frt f0 b2) (by decide))
  refine ⟨T2, ?_, fr, RA_fr h fr (by decide), b3⟩
  unfold fn_X12_takeTwo
  rw [a1, fg_b_1, fg_let_1]
  exact b1
end RLc
