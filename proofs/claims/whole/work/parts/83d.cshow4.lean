section CV
variable {k k2 : h_S} {s : sA} {y : c_Y} {M : Nat} {C : Int32 → Int32 → Int32 → h_S → fg_R (Option Nat) h_S}
theorem fg_c_0 {ρ S : Type} (m : fg_R ρ S) : fg_c 0 0 m = m := by
  cases m with
  | none => rfl
  | some x => obtain ⟨a, b, c, d⟩ := x; show some (a, b, 0 + c, 0 + d) = _; rw [Nat.zero_add, Nat.zero_add]
theorem fg_c_c {ρ S : Type} (a b c d : Nat) (m : fg_R ρ S) : fg_c a b (fg_c c d m) = fg_c (a + c) (b + d) m := by
  cases m with
  | none => rfl
  | some x => obtain ⟨p, q, e, f⟩ := x; show some (p, q, a + (c + e), b + (d + f)) = some (p, q, a + c + e, b + d + f); rw [Nat.add_assoc, Nat.add_assoc]
theorem l_take_full (X Y : List Int32) (h : (X.take 300).length = 300) : (X ++ Y).take 300 = X.take 300 := by
  rw [List.take_append_of_le_length]
  rw [List.length_take] at h
  omega
theorem l_take_app (X Y : List Int32) : ((X.take 300) ++ Y).take 300 = (X ++ Y).take 300 := by
  by_cases h : 300 ≤ X.length
  · rw [List.take_append_of_le_length h, List.take_append_of_le_length (by rw [List.length_take]; omega), List.take_take, Nat.min_self]
  · rw [List.take_of_length_le (l := X) (by omega)]
/-- piece by piece -/
theorem ci_shownOf_90 (v : ivc s) {f : Nat} (hf : f ≤ 4) (hC : ∀ f2, f = f2 + 1 → c_SH s M f2 C) {m b a5 : Nat} {key : Int32} {P : List sP} (hP : P.length ≤ 24) (hok : ∀ p, p ∈ P → s_pok (sC s 2) p) (hq : ∀ p, p ∈ P → p.1 = 2 → h_ix p.2.2.2.2 ≤ m) (hm : m ≤ M) (hM : M ≤ 600) : ∀ (n p N : Nat) (k : h_S) (y : c_Y), P.length - p = n → p ≤ P.length → n < N → TXT k s M y → c_ps k b P → c_dr k (4 - f) (((P.take p).flatMap (s_pp (sR s) f m)).take 300) → ∃ k2 y2 c e, fn_X7_shownOf_90 C N (nI m) key (some a5) (nI (4 - f)) (some b) (nI (((P.take p).flatMap (s_pp (sR s) f m)).take 300).length) (nI p) k = fg_c c e (fn_X7_shownOf_128 C key (some a5) (nI (4 - f)) (nI ((P.flatMap (s_pp (sR s) f m)).take 300).length) k2) ∧ c_dr k2 (4 - f) ((P.flatMap (s_pp (sR s) f m)).take 300) ∧ TXT k2 s M y2 ∧ y_le y y2 ∧ c + zC y2 ≤ zC y ∧ e + zD y2 ≤ zD y ∧ c_ag (c_fxS f) c_tgS k k2 := by
  intro n
  have hsplit : ∀ p, P.flatMap (s_pp (sR s) f m) = (P.take p).flatMap (s_pp (sR s) f m) ++ (P.drop p).flatMap (s_pp (sR s) f m) := fun p => by rw [← List.flatMap_append, List.take_append_drop]
  induction n with
  | zero =>
    intro p N k y hn hp hN h hb hd
    obtain ⟨N, rfl⟩ : ∃ z, N = z + 1 := ⟨N - 1, by omega⟩
    have e : P.take p = P := List.take_of_length_le (by omega)
    rw [e] at hd ⊢
    refine ⟨k, y, 0, 0, ?_, hd, h, y_le0, by omega, by omega, c_ag0⟩
    rw [fg_c_0]
    show fn_X7_shownOf_90b C _ _ _ _ _ _ _ _ _ = _
    unfold fn_X7_shownOf_90b
    rw [fg_o_1, fg_g_1 hb.2.1, hb.2.2.1, show Int32.ofNat P.length = nI P.length from rfl, fg_if_1 ((n_le (a := P.length) (by omega) (by omega)).mpr (by omega))]
  | succ n ih =>
    intro p N k y hn hp hN h hb hd
    obtain ⟨N, rfl⟩ : ∃ z, N = z + 1 := ⟨N - 1, by omega⟩
    have hp2 : p < P.length := by omega
    show ∃ k2 y2 c e, fn_X7_shownOf_90b C (fn_X7_shownOf_90 C N) _ _ _ _ _ _ _ _ = _ ∧ _
    unfold fn_X7_shownOf_90b
    generalize hT : ((P.take p).flatMap (s_pp (sR s) f m)).take 300 = T at hd
    have hTl : T.length ≤ 300 := by rw [← hT]; exact List.length_take_le _ _
    rw [fg_o_1, fg_g_1 hb.2.1, hb.2.2.1, show Int32.ofNat P.length = nI P.length from rfl, fg_if_0 (fun w => by have := (n_le (a := P.length) (b := p) (by omega) (by omega)).mp w; omega)]
    by_cases c3 : 300 ≤ T.length
    · have eT : (P.flatMap (s_pp (sR s) f m)).take 300 = T := by
        rw [hsplit p, l_take_full _ _ (by rw [hT]; omega), hT]
      have c3' : (300 : Int32) ≤ nI T.length := (n_le (a := 300) (by omega) (by omega)).mpr c3
      rw [fg_if_1 c3', eT]
      exact ⟨k, y, 0, 0, by rw [fg_c_0], hd, h, y_le0, by omega, by omega, c_ag0⟩
    · have c3' : ¬ (300 : Int32) ≤ nI T.length := fun w => c3 ((n_le (a := 300) (by omega) (by omega)).mp w)
      obtain ⟨q, hq2⟩ : ∃ q, P[p]? = some q := ⟨P[p], List.getElem?_eq_getElem hp2⟩
      have hmem := List.mem_of_getElem? hq2
      obtain ⟨a, ha1, ha2⟩ := hb.2.2.2 p q hq2
      rw [fg_if_0 c3', fg_o_1, fg_g_1 hb.2.1, hb.2.2.1, fg_g_1 ((n_vp (by omega)).mpr hp2), q_nIx (by omega), ha1]
      obtain ⟨k1, y1, c1, e1, f1, f2, f3, f4, f5, f6, f7⟩ := ci_lay v hf hC h ha2 (hok q hmem) (hq q hmem) hm hM (T := T) (by omega) hd
      have eT : (T ++ s_pp (sR s) f m q).take 300 = ((P.take (p + 1)).flatMap (s_pp (sR s) f m)).take 300 := by
        rw [← hT, l_take_app]
        congr 1
        rw [List.take_add_one, hq2, List.flatMap_append]
        congr 1
        show _ = List.flatMap (s_pp (sR s) f m) [q]
        simp
      rw [eT] at f1 f2
      rw [f1, fg_bc_1, n_p1]
      obtain ⟨k2, y2, c2, e2, g1, g2, g3, g4, g5, g6, g7⟩ := ih (p + 1) N k1 y1 (by omega) (by omega) (by omega) f3 (c_ps_fr hb f7 (by decide) (by decide) (c_fxS_m (by omega) (by omega) (by omega))) f2
      exact ⟨k2, y2, c1 + c2, e1 + e2, by rw [g1, fg_c_c], g2, g3, y_let f4 g4, by omega, by omega, c_agt f7 g7⟩
/-- one slot's object and array alone -/
theorem c_sl_eq {a b c : Nat} (h : c_sl k s M a b c) (ea : c_eq k k2 a) (eb : c_eq k k2 b) : c_sl k2 s M a b c := by
  obtain ⟨a1, a2, a3, a4, a5, a6, a7, a8⟩ := h
  refine ⟨a1, by rw [ea.1]; exact a2, by rw [ea.2.2.2]; exact a3, a4, by rw [eb.1]; exact a5, by rw [eb.2.1]; exact a6, by rw [eb.2.1]; exact a7, ?_⟩
  rcases a8 with a8 | ⟨f, w, m, b1, b2, b3, b4, b5, b6, b7⟩
  · exact Or.inl (by rw [ea.2.2.1]; exact a8)
  · refine Or.inr ⟨f, w, m, b1, b2, b3, by rw [ea.2.2.1]; exact b4, by rw [ea.2.2.1]; exact b5, by rw [eb.2.1]; exact b6, by rw [eb.2.2.1]; exact b7⟩
theorem yS_sl (i a b c j : Nat) : yS (y_sl y i a b c) j = if j = i then a else yS y j := rfl
theorem yB_sl (i a b c j : Nat) : yB (y_sl y i a b c) j = if j = i then b else yB y j := rfl
theorem yC_sl (i a b c j : Nat) : yC (y_sl y i a b c) j = if j = i then c else yC y j := rfl
theorem z_sl (i a b c : Nat) (hi : i < 1024) : zC (y_sl y i a b c) + z_c (yC y i) = zC y + z_c c ∧ zD (y_sl y i a b c) + z_d (yC y i) = zD y + z_d c := by
  have h1 := z_sum_up (f := fun j => z_c (yC (y_sl y i a b c) j)) (g := fun j => z_c (yC y j)) (j := i) 1024 hi (fun j _ hj => by rw [yC_sl, if_neg hj])
  have h2 := z_sum_up (f := fun j => z_d (yC (y_sl y i a b c) j)) (g := fun j => z_d (yC y j)) (j := i) 1024 hi (fun j _ hj => by rw [yC_sl, if_neg hj])
  simp only [yC_sl, if_true] at h1 h2
  exact ⟨h1, h2⟩
/-- a slot gets anew an object a, an array b; all others stay -/
theorem TXT_slot {i a b c : Nat} (h : TXT k s M y) (hi : i < 1024) (hF : c_F k2) (hc : c ≠ 0) (g : c_ag [3, 16, 17] [1, 4, 5] k k2) (e20 : ∀ j, h_r k2 20 j = if j = i then some a else h_r k 20 j) (hs : c_sl k2 s M a b c) (ho : ∀ j, j < 1024 → j ≠ i → yC y j ≠ 0 → c_eq k k2 (yS y j) ∧ c_eq k k2 (yB y j) ∧ yS y j ≠ a ∧ yB y j ≠ b) : TXT k2 s M (y_sl y i a b c) := by
  obtain ⟨a1, a2, a3, a4⟩ := h
  refine ⟨hF, by rw [(g.1 3 (by decide)).2.2.1]; exact a2, fun w hw => ?_, fun j hj => ?_, fun j1 j2 h1 h2 n1 n2 e => ?_⟩
  · rw [(g.1 16 (by decide)).2.2.2]
    exact ⟨(a3 w hw).1, c_ch_fr g (by decide) (by decide) (by decide) (by decide) _ _ (a3 w hw).2.1, (a3 w hw).2.2⟩
  · rw [yC_sl, yS_sl, yB_sl, e20]
    by_cases e : j = i
    · rw [if_pos e, if_pos e, if_pos e, if_pos e]
      exact Or.inr ⟨hc, rfl, hs⟩
    · rw [if_neg e, if_neg e, if_neg e, if_neg e]
      rcases a4.1 j hj with w | ⟨w1, w2, w3⟩
      · exact Or.inl w
      · obtain ⟨o1, o2, _, _⟩ := ho j hj e w1
        exact Or.inr ⟨w1, w2, c_sl_eq w3 o1 o2⟩
  · rw [yC_sl] at n1 n2
    rw [yS_sl, yS_sl, yB_sl, yB_sl] at e
    by_cases e1 : j1 = i
    · by_cases e2 : j2 = i
      · rw [e1, e2]
      · rw [if_neg e2] at n2
        rw [if_pos e1, if_neg e2, if_pos e1, if_neg e2] at e
        obtain ⟨_, _, o3, o4⟩ := ho j2 h2 e2 n2
        rcases e with e | e
        · exact absurd e.symm o3
        · exact absurd e.symm o4
    · rw [if_neg e1] at n1
      by_cases e2 : j2 = i
      · rw [if_neg e1, if_pos e2, if_neg e1, if_pos e2] at e
        obtain ⟨_, _, o3, o4⟩ := ho j1 h1 e1 n1
        rcases e with e | e
        · exact absurd e o3
        · exact absurd e o4
      · rw [if_neg e2] at n2
        rw [if_neg e1, if_neg e2, if_neg e1, if_neg e2] at e
        exact a4.2 j1 j2 h1 h2 n1 n2 e
end CV
