/-! join of the class: the joined row -/
section CWv
variable {k k2 : h_S} {s : sA} {y : c_Y} {M : Nat} {C R A B L : List Int32}
/-- the joined row -/
def c_jn (k : h_S) (acc : List Int32) : Prop := h_i k 10 11 = nI acc.length ∧ ∀ (j : Nat) (x : Int32), acc[j]? = some x → h_i k 47 j = x
theorem ci_append_3 {a u : Nat} (na : a ≠ 10) (na2 : a ≠ 47) (hR : R.length ≤ 300) (hu : u ≤ R.length) : ∀ (d z N : Nat) (k : h_S) (acc : List Int32), z + d = u → d < N → c_F k → c_rw k a R → c_jn k acc → acc.length + d ≤ 600 → ∃ k3, fn_X9_append_3 N (some a) (nI u) (nI z) k = some ((), k3) ∧ c_ww [10, 47] k k3 ∧ c_jn k3 (acc ++ w_sg R z u) ∧ ∀ j, j ≠ 11 → h_i k3 10 j = h_i k 10 j := by
  intro d
  induction d with
  | zero =>
    intro z N k acc hz hN hF hr hj hl
    obtain ⟨N, rfl⟩ : ∃ m, N = m + 1 := ⟨N - 1, by omega⟩
    refine ⟨k, ?_, c_ww0 hF, by rw [w_sg_n (by omega), List.append_nil]; exact hj, fun _ _ => rfl⟩
    show fn_X9_append_3b _ _ _ _ _ = _
    unfold fn_X9_append_3b
    rw [fg_if_1 ((n_le (by omega) (by omega)).mpr (by omega))]
  | succ d ih =>
    intro z N k acc hz hN hF hr hj hl
    obtain ⟨N, rfl⟩ : ∃ m, N = m + 1 := ⟨N - 1, by omega⟩
    have n47 : h_n k 47 = 600 := cf_n (a := 47) hF rfl (by decide) rfl
    obtain ⟨K, hK⟩ : ∃ K, K = h_si (h_si k 47 acc.length (w_c R z)) 10 11 (nI (acc.length + 1)) := ⟨_, rfl⟩
    have w1 : c_ww [10, 47] k K := by rw [hK]; exact c_wwt (c_ww_si hF (by simp)) (c_ww_si hF (by simp))
    have j1 : c_jn K (acc ++ [w_c R z]) := by
      refine ⟨by rw [hK, h_i_si, if_pos ⟨rfl, rfl⟩, List.length_append]; rfl, fun j x hx => ?_⟩
      rw [hK, h_i_si, if_neg (by omega), h_i_si]
      by_cases c : j < acc.length
      · rw [List.getElem?_append_left c] at hx
        rw [if_neg (by omega)]
        exact hj.2 j x hx
      · have hjl := (List.getElem?_eq_some_iff.mp hx).1
        rw [List.length_append, List.length_cons, List.length_nil] at hjl
        have e : j = acc.length := by omega
        rw [List.getElem?_append_right (by omega), e, Nat.sub_self] at hx
        rw [if_pos ⟨rfl, e⟩]
        exact Option.some.inj hx
    obtain ⟨k3, m1, m2, m3, m4⟩ := ih (z + 1) N K (acc ++ [w_c R z]) (by omega) (by omega) w1.1 (c_rw_ww hr w1 (by simp [na, na2])) j1 (by rw [List.length_append, List.length_cons, List.length_nil]; omega)
    refine ⟨k3, ?_, c_wwt w1 m2, ?_, fun j hj2 => ?_⟩
    · have e11 : h_i (h_si k 47 acc.length (w_c R z)) 10 11 = nI acc.length := by rw [h_i_si, if_neg (by omega)]; exact hj.1
      have hrl := hr.2.1
      show fn_X9_append_3b (fn_X9_append_3 N) _ _ _ _ = _
      unfold fn_X9_append_3b
      rw [fg_if_0 (fun w => by have := (n_le (a := u) (b := z) (by omega) (by omega)).mp w; omega), n47, hj.1, fg_if_0 (fun w => by have := (n_le (a := 600) (b := acc.length) (by omega) (by omega)).mp w; omega), fg_o_1, fg_g_1 hr.1, fg_g_1 ((n_vp (by omega)).mpr (by omega)), fg_g_1 ((n_vp (by omega)).mpr (by omega)), fg_let_1, fg_let_1, q_nIx (show acc.length < 2 ^ 31 by omega), q_nIx (show z < 2 ^ 31 by omega), c_rw_at hr (by omega), e11, n_p1, n_p1, ← hK]
      exact m1
    · rw [w_sg_c (by omega) hu]
      rw [List.append_assoc] at m3
      exact m3
    · rw [m4 j hj2, hK, h_i_si, if_neg (by omega), h_i_si, if_neg (by omega)]
theorem ci_append {a f u : Nat} {acc : List Int32} (na : a ≠ 10) (na2 : a ≠ 47) (hR : R.length ≤ 300) (hu : u ≤ R.length) (hf : f ≤ u) (hF : c_F k) (hr : c_rw k a R) (hj : c_jn k acc) (hl : acc.length + (u - f) ≤ 600) : ∃ k3, fn_X9_append (some a) (nI f) (nI u) k = some ((), k3) ∧ c_ww [10, 47] k k3 ∧ c_jn k3 (acc ++ w_sg R f u) ∧ ∀ j, j ≠ 11 → h_i k3 10 j = h_i k 10 j := ci_append_3 na na2 hR hu (u - f) f g_N k acc (by omega) (by have := g_N_le; omega) hF hr hj hl
theorem ci_cmp (x z : Int32) : ∃ p, fn_J6_compare_7cf53 x z k = some (p, k) ∧ (p = 0 ↔ x = z) ∧ (p < 0 ↔ x < z) := by
  unfold fn_J6_compare_7cf53
  by_cases c : z ≤ x
  · rw [fg_if_1 c]
    by_cases c2 : x = z
    · rw [fg_if_1 c2]
      exact ⟨0, rfl, ⟨fun _ => c2, fun _ => rfl⟩, ⟨fun h => absurd h (by decide), fun h => absurd h (Int32.not_lt.mpr c)⟩⟩
    · rw [fg_if_0 c2]
      exact ⟨1, rfl, ⟨fun h => absurd h (by decide), fun h => absurd h c2⟩, ⟨fun h => absurd h (by decide), fun h => absurd h (Int32.not_lt.mpr c)⟩⟩
  · rw [fg_if_0 c]
    have c' := Int32.not_le.mp c
    exact ⟨-1, rfl, ⟨fun h => absurd h (by decide), fun h => by rw [h] at c'; exact absurd c' (Int32.lt_irrefl)⟩, ⟨fun _ => c', fun _ => by decide⟩⟩
/-- the woven state: rows, ways, what is gone -/
def c_WV (k : h_S) (C A B : List Int32) : Prop := c_F k ∧ (c_wy k 0 C A (C.length + 1) ∧ c_wy k 1 C B (C.length + 1)) ∧ (c_rw k 35 C ∧ c_rw k 37 A ∧ c_rw k 38 B) ∧ h_i k 10 4 = nI C.length ∧ ∀ a, a < C.length → h_i k 46 a = q_b (¬ (w_kp C A a ∧ w_kp C B a))
def c_Wj : List Nat := [10, 47, 48, 49, 50]
theorem c_WV_ww (h : c_WV k C A B) (w : c_ww c_Wj k k2) (e : h_i k2 10 4 = h_i k 10 4) : c_WV k2 C A B := by
  obtain ⟨h1, ⟨h2, h3⟩, ⟨h4, h5, h6⟩, h7, h8⟩ := h
  refine ⟨w.1, ⟨fun i hi => ?_, fun i hi => ?_⟩, ⟨c_rw_ww h4 w (by decide), c_rw_ww h5 w (by decide), c_rw_ww h6 w (by decide)⟩, e.trans h7, fun a ha => ?_⟩
  · rw [(w.2 (41 + 0) (by decide)).2.2.1, (w.2 (44 + 0) (by decide)).2.2.1]; exact h2 i hi
  · rw [(w.2 (41 + 1) (by decide)).2.2.1, (w.2 (44 + 1) (by decide)).2.2.1]; exact h3 i hi
  · rw [(w.2 46 (by decide)).2.2.1]; exact h8 a ha
theorem ci_order_39 {i a b c d : Nat} (hA : A.length ≤ 300) (hB : B.length ≤ 300) (hi : i < 301) (hab : a ≤ b) (hb : b ≤ A.length) (hcd : c ≤ d) (hd : d ≤ B.length) (hF : c_F k) (rA : c_rw k 37 A) (rB : c_rw k 38 B) (x0 : h_i k 41 i = nI a) (x1 : h_i k 42 i = nI c) : ∀ (n t N : Nat), t + n = b - a → n < N → t ≤ d - c → ∃ p, fn_X9_orderOfPuts_39 N (nI i) (nI (b - a)) (nI (d - c)) (nI t) k = some (p, k) ∧ (p = 0 ↔ s_lx (w_sg A (a + t) b) (w_sg B (c + t) d) = 0) ∧ (p < 0 ↔ s_lx (w_sg A (a + t) b) (w_sg B (c + t) d) = 1) := by
  obtain ⟨⟨k41, n41⟩, _, k37, n37⟩ := c_k3 (e := 0) hF (by omega)
  obtain ⟨⟨k42, n42⟩, _, k38, n38⟩ := c_k3 (e := 1) hF (by omega)
  have r40 : h_r k 40 (h_ix (0 : Int32)) = some 41 := (c_r3 (e := 0) hF (by omega)).1
  have r36 : h_r k 36 (h_ix (0 : Int32)) = some 37 := (c_r3 (e := 0) hF (by omega)).2.2
  have r40' : h_r k 40 (h_ix (1 : Int32)) = some 42 := (c_r3 (e := 1) hF (by omega)).1
  have r36' : h_r k 36 (h_ix (1 : Int32)) = some 38 := (c_r3 (e := 1) hF (by omega)).2.2
  have k41 : h_k k 41 = 1 := k41
  have n41 : h_n k 41 = 301 := n41
  have k37 : h_k k 37 = 1 := k37
  have n37 : h_n k 37 = 300 := n37
  have k42 : h_k k 42 = 1 := k42
  have n42 : h_n k 42 = 301 := n42
  have k38 : h_k k 38 = 1 := k38
  have n38 : h_n k 38 = 300 := n38
  have v0 : vp_in (0 : Int32) 2 := (n_vp (k := 0) (n := 2) (by decide)).mpr (by decide)
  have v1 : vp_in (1 : Int32) 2 := (n_vp (k := 1) (n := 2) (by decide)).mpr (by decide)
  intro n
  induction n with
  | zero =>
    intro t N ht hN htd
    obtain ⟨N, rfl⟩ : ∃ m, N = m + 1 := ⟨N - 1, by omega⟩
    show ∃ p, fn_X9_orderOfPuts_39b _ _ _ _ _ _ = _ ∧ _
    unfold fn_X9_orderOfPuts_39b fn_X9_orderOfPuts_112
    rw [fg_if_1 ((n_le (by omega) (by omega)).mpr (by omega)), w_sg_n (show b ≤ a + t by omega)]
    obtain ⟨p, p1, p2, p3⟩ := ci_cmp (k := k) (nI (b - a)) (nI (d - c))
    rw [p1, fg_b_1]
    refine ⟨p, rfl, ?_⟩
    rw [p2, p3, n_eq (by omega) (by omega), n_lt (by omega) (by omega)]
    by_cases e : d ≤ c + t
    · rw [w_sg_n e]
      exact ⟨⟨fun _ => rfl, fun _ => by omega⟩, ⟨fun h => by omega, fun h => absurd h (show ¬ (0 : Nat) = 1 by decide)⟩⟩
    · rw [w_sg_c (by omega) hd]
      exact ⟨⟨fun h => by omega, fun h => absurd h (show ¬ (1 : Nat) = 0 by decide)⟩, ⟨fun _ => rfl, fun _ => by omega⟩⟩
  | succ n ih =>
    intro t N ht hN htd
    obtain ⟨N, rfl⟩ : ∃ m, N = m + 1 := ⟨N - 1, by omega⟩
    show ∃ p, fn_X9_orderOfPuts_39b (fn_X9_orderOfPuts_39 N) _ _ _ _ _ = _ ∧ _
    unfold fn_X9_orderOfPuts_39b fn_X9_orderOfPuts_112
    rw [fg_if_0 (fun w => by have := (n_le (a := b - a) (b := t) (by omega) (by omega)).mp w; omega), w_sg_c (show a + t < b by omega) hb]
    by_cases e : d ≤ c + t
    · rw [fg_if_1 ((n_le (by omega) (by omega)).mpr (by omega)), w_sg_n e]
      obtain ⟨p, p1, p2, p3⟩ := ci_cmp (k := k) (nI (b - a)) (nI (d - c))
      rw [p1, fg_b_1]
      refine ⟨p, rfl, ?_⟩
      rw [p2, p3, n_eq (by omega) (by omega), n_lt (by omega) (by omega)]
      exact ⟨⟨fun h => by omega, fun h => absurd h (show ¬ (2 : Nat) = 0 by decide)⟩, ⟨fun h => by omega, fun h => absurd h (show ¬ (2 : Nat) = 1 by decide)⟩⟩
    · rw [fg_if_0 (fun w => by have := (n_le (a := d - c) (b := t) (by omega) (by omega)).mp w; omega), fg_g_1 v0, fg_g_1 v0, r40, fg_o_1, fg_g_1 k41, n41, fg_g_1 ((n_vp (by omega)).mpr (by omega)), r36, fg_o_1, fg_g_1 k37, n37, q_nIx (show i < 2 ^ 31 by omega), x0, n_add, fg_g_1 ((n_vp (by omega)).mpr (by omega)), fg_let_1, fg_g_1 v1, fg_g_1 v1, r40', fg_o_1, fg_g_1 k42, n42, fg_g_1 ((n_vp (by omega)).mpr (by omega)), r36', fg_o_1, fg_g_1 k38, n38, x1, n_add, fg_g_1 ((n_vp (by omega)).mpr (by omega)), fg_let_1, q_nIx (show a + t < 2 ^ 31 by omega), q_nIx (show c + t < 2 ^ 31 by omega), c_rw_at rA (by omega), c_rw_at rB (by omega), w_sg_c (show c + t < d by omega) hd]
      unfold s_lx
      by_cases c1 : w_c A (a + t) = w_c B (c + t)
      · rw [fg_if_1 c1, n_p1]
        simp only [if_pos c1]
        exact ih (t + 1) N (by omega) (by omega) (by omega)
      · rw [fg_if_0 c1]
        simp only [if_neg c1]
        obtain ⟨p, p1, p2, p3⟩ := ci_cmp (k := k) (w_c A (a + t)) (w_c B (c + t))
        rw [p1, fg_b_1]
        refine ⟨p, rfl, ⟨fun h => absurd (p2.mp h) c1, fun h => ?_⟩, ?_⟩
        · split at h <;> cases h
        · rw [p3]
          by_cases c2 : w_c A (a + t) < w_c B (c + t)
          · rw [if_pos c2]; exact ⟨fun _ => rfl, fun _ => c2⟩
          · rw [if_neg c2]; exact ⟨fun h => absurd h c2, fun h => absurd h (by decide)⟩
/-- where the clashes stand in the joined row -/
def c_cn (k : h_S) (acc : List Int32) (L : List (List Int32 × List Int32)) : Prop := h_i k 10 15 = nI L.length ∧ ∀ (n : Nat) (P Q : List Int32), L[n]? = some (P, Q) → n < 12 → ∃ st, st + P.length + Q.length ≤ acc.length ∧ h_i k 48 n = nI st ∧ h_i k 49 n = nI (st + P.length) ∧ h_i k 50 n = nI (st + P.length + Q.length) ∧ ∀ (j : Nat) (x : Int32), (P ++ Q)[j]? = some x → acc[st + j]? = some x
theorem c_cn_ap {acc D : List Int32} {L : List (List Int32 × List Int32)} (h : c_cn k acc L) (w : c_ww [10, 47] k k2) (e : ∀ j, j ≠ 11 → h_i k2 10 j = h_i k 10 j) : c_cn k2 (acc ++ D) L := by
  refine ⟨by rw [e 15 (by decide)]; exact h.1, fun n P Q hn h12 => ?_⟩
  obtain ⟨st, a1, a2, a3, a4, a5⟩ := h.2 n P Q hn h12
  refine ⟨st, by rw [List.length_append]; omega, ?_, ?_, ?_, fun j x hx => ?_⟩
  · rw [(w.2 48 (by decide)).2.2.1]; exact a2
  · rw [(w.2 49 (by decide)).2.2.1]; exact a3
  · rw [(w.2 50 (by decide)).2.2.1]; exact a4
  · have := a5 j x hx
    rw [List.getElem?_append_left (List.getElem?_eq_some_iff.mp this).1]
    exact this
theorem ci_noteClash {acc P Q : List Int32} {L : List (List Int32 × List Int32)} (hF : c_F k) (hj : c_jn k (acc ++ (P ++ Q))) (hl : (acc ++ (P ++ Q)).length ≤ 600) (hL : L.length ≤ 1000) (hc : c_cn k (acc ++ (P ++ Q)) L) : ∃ k3, fn_X9_noteClash (nI acc.length) (nI (acc.length + P.length)) k = some ((), k3) ∧ c_ww c_Wj k k3 ∧ c_jn k3 (acc ++ (P ++ Q)) ∧ c_cn k3 (acc ++ (P ++ Q)) (L ++ [(P, Q)]) ∧ ∀ j, j ≠ 15 → h_i k3 10 j = h_i k 10 j := by
  have ll : (L ++ [(P, Q)]).length = L.length + 1 := by rw [List.length_append]; rfl
  unfold fn_X9_noteClash
  rw [hc.1]
  by_cases c : 12 ≤ L.length
  · have c' : (12 : Int32) ≤ nI L.length := (n_le (a := 12) (by omega) (by omega)).mpr c
    rw [fg_if_1 c']
    unfold fn_X9_noteClash_42
    rw [hc.1, n_p1, fg_let_1]
    refine ⟨_, rfl, c_ww_si hF (by decide), ⟨by rw [h_i_si, if_neg (by omega)]; exact hj.1, fun j x hx => by rw [h_i_si, if_neg (by omega)]; exact hj.2 j x hx⟩, ⟨by rw [h_i_si, if_pos ⟨rfl, rfl⟩, ll], fun n P2 Q2 hn h12 => ?_⟩, fun j hj2 => by rw [h_i_si, if_neg (fun q => hj2 q.2)]⟩
    rw [List.getElem?_append_left (by omega)] at hn
    obtain ⟨st, a1, a2, a3, a4, a5⟩ := hc.2 n P2 Q2 hn h12
    exact ⟨st, a1, by rw [h_i_si, if_neg (by omega)]; exact a2, by rw [h_i_si, if_neg (by omega)]; exact a3, by rw [h_i_si, if_neg (by omega)]; exact a4, a5⟩
  · have c' : ¬ (12 : Int32) ≤ nI L.length := fun w => c ((n_le (a := 12) (by omega) (by omega)).mp w)
    have g : vp_in (nI L.length) 12 := (n_vp (by omega)).mpr (by omega)
    obtain ⟨K1, h1⟩ : ∃ K, K = h_si k 48 L.length (nI acc.length) := ⟨_, rfl⟩
    obtain ⟨K2, h2⟩ : ∃ K, K = h_si K1 49 L.length (nI (acc.length + P.length)) := ⟨_, rfl⟩
    obtain ⟨K3, h3⟩ : ∃ K, K = h_si K2 50 L.length (nI (acc ++ (P ++ Q)).length) := ⟨_, rfl⟩
    have e1 : ∀ j, h_i K1 10 j = h_i k 10 j := fun j => by rw [h1, h_i_si, if_neg (by omega)]
    have e2 : ∀ j, h_i K2 10 j = h_i k 10 j := fun j => by rw [h2, h_i_si, if_neg (by omega), e1]
    have e3 : ∀ j, h_i K3 10 j = h_i k 10 j := fun j => by rw [h3, h_i_si, if_neg (by omega), e2]
    have F1 : c_F K1 := by rw [h1]; exact hF
    have F2 : c_F K2 := by rw [h2]; exact F1
    have F3 : c_F K3 := by rw [h3]; exact F2
    have w3 : c_ww c_Wj k K3 := by
      refine c_wwt (k2 := K1) (by rw [h1]; exact c_ww_si hF (by decide)) (c_wwt (k2 := K2) (by rw [h2]; exact c_ww_si F1 (by decide)) (by rw [h3]; exact c_ww_si F2 (by decide)))
    rw [fg_if_0 c', fg_g_1 g, fg_let_1, q_nIx (show L.length < 2 ^ 31 by omega), ← h1, e1, hc.1, fg_g_1 g, fg_let_1, q_nIx (show L.length < 2 ^ 31 by omega), ← h2, e2, hc.1, fg_g_1 g, fg_let_1, q_nIx (show L.length < 2 ^ 31 by omega), e2, hj.1, ← h3]
    unfold fn_X9_noteClash_42
    rw [e3, hc.1, n_p1, fg_let_1]
    have y47 : ∀ j, h_i (h_si K3 10 15 (nI (L.length + 1))) 47 j = h_i k 47 j := fun j => by rw [h_i_si, if_neg (by omega), h3, h_i_si, if_neg (by omega), h2, h_i_si, if_neg (by omega), h1, h_i_si, if_neg (by omega)]
    have y48 : ∀ j, h_i (h_si K3 10 15 (nI (L.length + 1))) 48 j = if j = L.length then nI acc.length else h_i k 48 j := fun j => by
      rw [h_i_si, if_neg (by omega), h3, h_i_si, if_neg (by omega), h2, h_i_si, if_neg (by omega), h1, h_i_si]
      by_cases q : j = L.length
      · rw [if_pos ⟨rfl, q⟩, if_pos q]
      · rw [if_neg (fun z => q z.2), if_neg q]
    have y49 : ∀ j, h_i (h_si K3 10 15 (nI (L.length + 1))) 49 j = if j = L.length then nI (acc.length + P.length) else h_i k 49 j := fun j => by
      rw [h_i_si, if_neg (by omega), h3, h_i_si, if_neg (by omega), h2, h_i_si]
      by_cases q : j = L.length
      · rw [if_pos ⟨rfl, q⟩, if_pos q]
      · rw [if_neg (fun z => q z.2), if_neg q, h1, h_i_si, if_neg (by omega)]
    have y50 : ∀ j, h_i (h_si K3 10 15 (nI (L.length + 1))) 50 j = if j = L.length then nI (acc ++ (P ++ Q)).length else h_i k 50 j := fun j => by
      rw [h_i_si, if_neg (by omega), h3, h_i_si]
      by_cases q : j = L.length
      · rw [if_pos ⟨rfl, q⟩, if_pos q]
      · rw [if_neg (fun z => q z.2), if_neg q, h2, h_i_si, if_neg (by omega), h1, h_i_si, if_neg (by omega)]
    refine ⟨_, rfl, c_wwt w3 (c_ww_si F3 (by decide)), ⟨by rw [h_i_si, if_neg (by omega), e3]; exact hj.1, fun j x hx => by rw [y47]; exact hj.2 j x hx⟩, ⟨by rw [h_i_si, if_pos ⟨rfl, rfl⟩, ll], fun n P2 Q2 hn h12 => ?_⟩, fun j hj2 => by rw [h_i_si, if_neg (fun q => hj2 q.2), e3]⟩
    rw [y48, y49, y50]
    by_cases q : n < L.length
    · rw [List.getElem?_append_left q] at hn
      obtain ⟨st, a1, a2, a3, a4, a5⟩ := hc.2 n P2 Q2 hn h12
      rw [if_neg (by omega), if_neg (by omega), if_neg (by omega)]
      exact ⟨st, a1, a2, a3, a4, a5⟩
    · have hnl := (List.getElem?_eq_some_iff.mp hn).1
      rw [ll] at hnl
      have e : n = L.length := by omega
      rw [List.getElem?_append_right (by omega), e, Nat.sub_self] at hn
      have e2 : (P, Q) = (P2, Q2) := Option.some.inj hn
      injection e2 with e3 e4
      subst e3 e4
      rw [if_pos e, if_pos e, if_pos e]
      refine ⟨acc.length, by rw [List.length_append, List.length_append]; omega, rfl, rfl, by rw [List.length_append, List.length_append, Nat.add_assoc], fun j x hx => ?_⟩
      rw [List.getElem?_append_right (by omega), Nat.add_sub_cancel_left]
      exact hx
end CWv
