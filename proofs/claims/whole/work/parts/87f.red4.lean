section RE4
variable {t T : r_T} {s : sA}
def r_o (T : r_T) (i : Nat) : sP := (T.2 49 i, T.2 50 i, T.2 51 i, T.2 52 i, T.2 53 i)
/-- what has left -/
def l_O (T : r_T) (l : List sP) : Prop := ∀ (i : Nat) (q : sP), l[i]? = some q → r_o T i = q
def l_X : List Nat := [40, 41, 42, 43, 44, 45, 48, 49, 50, 51, 52, 53]
theorem l_O_app {O : List sP} {p : sP} {T2 : r_T} (h : l_O T O) (e1 : ∀ i, i < O.length → r_o T2 i = r_o T i) (e2 : r_o T2 O.length = p) : l_O T2 (O ++ [p]) := by
  intro i q hq
  by_cases c : i < O.length
  · rw [List.getElem?_append_left c] at hq
    rw [e1 i c]; exact h i q hq
  · rw [List.getElem?_append_right (by omega)] at hq
    have : i = O.length := by
      rcases Nat.lt_or_ge (i - O.length) 1 with w | w
      · omega
      · rw [List.getElem?_eq_none (by exact w)] at hq; cases hq
    subst this
    rw [Nat.sub_self] at hq
    cases hq
    exact e2
theorem l_W_snoc {o : Nat} {K : List sP} {p : sP} {T2 : r_T} (h : l_W T o K) (e1 : ∀ i, i < K.length → r_w T2 (o + i) = r_w T (o + i)) (e2 : r_w T2 (o + K.length) = p) : l_W T2 o (K ++ [p]) := l_W_app.mpr ⟨l_W_tr h e1, l_W_cons.mpr ⟨e2, l_W_nil⟩⟩
theorem ri_tk380 {F : List sP} (hF : F.length ≤ 30) : ∀ (d j N : Nat) (T : r_T), j + d = F.length → d < N → r_fr l_X t T → T.1 40 = t.1 40 → (∀ k, 48 ≤ k → k ≤ 53 → T.2 k = t.2 k ∧ T.1 k = t.1 k) → l_W T 0 (F.take j) → l_W T (30 + j) (F.drop j) → ∃ T2, fn_X12_takeOut_380 N (nI F.length) 30 (nI j) T = some ((), T2) ∧ r_fr l_X t T2 ∧ T2.1 40 = t.1 40 ∧ (∀ k, 48 ≤ k → k ≤ 53 → T2.2 k = t.2 k ∧ T2.1 k = t.1 k) ∧ l_W T2 0 F := by
  intro d
  induction d with
  | zero =>
    intro j N T hj hN hf h40 hk h1 h2
    obtain ⟨N, rfl⟩ : ∃ m, N = m + 1 := ⟨N - 1, by omega⟩
    refine ⟨T, ?_, hf, h40, hk, by rw [List.take_of_length_le (by omega)] at h1; exact h1⟩
    show fn_X12_takeOut_380b _ _ _ _ _ = _
    unfold fn_X12_takeOut_380b
    rw [fg_if_1 ((n_le (by omega) (by omega)).mpr (by omega))]
  | succ d ih =>
    intro j N T hj hN hf h40 hk h1 h2
    obtain ⟨N, rfl⟩ : ∃ m, N = m + 1 := ⟨N - 1, by omega⟩
    have hj2 : j < F.length := by omega
    rw [List.drop_eq_getElem_cons hj2] at h2
    obtain ⟨h3, h4⟩ := l_W_cons.mp h2
    have g1 : vp_in (nI (30 + j)) 60 := (n_vp (by omega)).mpr (by omega)
    have es := ri_setPiece (t := T) (show j < 60 by omega) (r_w T (30 + j))
    unfold r_w at es
    show ∃ T2, fn_X12_takeOut_380b (fn_X12_takeOut_380 N) _ _ _ _ = _ ∧ _
    unfold fn_X12_takeOut_380b
    rw [fg_if_0 (fun q => by have := (n_le (a := F.length) (b := j) (by omega) (by omega)).mp q; omega), show (30 : Int32) + nI j = nI (30 + j) from n_add 30 j, fg_g_1 g1, fg_g_1 g1, fg_g_1 g1, fg_g_1 g1, fg_g_1 g1, q_nIx (by omega), es, fg_b_1, n_p1]
    refine ih (j + 1) N _ (by omega) (by omega) (r_frt hf (r_frS (rt_P_fr T _ _) (by decide))) h40 (fun k k1 k2 => ?_) ?_ ?_
    · refine ⟨?_, (hk k k1 k2).2⟩
      rw [← (hk k k1 k2).1]
      exact (rt_P_fr T j _).2 k (by simp [l_B]; omega)
    · rw [List.take_succ_eq_append_getElem hj2]
      refine l_W_snoc h1 (fun i hi => ?_) ?_
      · rw [List.length_take] at hi
        show r_w (rt_P T j (r_w T (30 + j))) _ = _
        rw [r_w_P, if_neg (by omega)]
      · rw [List.length_take, show 0 + min j F.length = j by omega]
        show r_w (rt_P T j (r_w T (30 + j))) _ = _
        rw [r_w_P, if_pos rfl]; exact h3
    · refine l_W_tr h4 (fun i hi => ?_)
      show r_w (rt_P T j (r_w T (30 + j))) _ = _
      rw [r_w_P, if_neg (by omega)]
      congr 1
theorem ri_tk209 {K25 : Int32 → Int32 → Int32 → Int32 → Int32 → Int32 → r_T → Option (Unit × r_T)} {f o p a n j : Nat} {x5 x8 x9 : Int32} (hp : p < 30) (hn : n < 30) (hj : j < 30) (h48 : T.1 48 = nI j) : ∃ T2, fn_X12_takeOut_209 K25 (nI f) (nI o) (nI n) x5 30 (nI p) x8 x9 T = (fg_if ((r_w T p).2.2.1 ≤ x9) (K25 (nI f) (nI o) (nI n) x5 30 (nI (p + 1)) T2) (K25 (nI f) (nI o) (nI (n + 1)) x5 30 (nI (p + 1)) (rt_P T2 (30 + n) ((r_w T p).1, (r_w T p).2.1 + x9, (r_w T p).2.2.1 - x9, (r_w T p).2.2.2)))) ∧ r_fr [48, 49, 50, 51, 52, 53] T T2 ∧ T2.1 48 = nI (j + 1) ∧ (∀ i, i ≠ j → r_o T2 i = r_o T i) ∧ r_o T2 j = ((r_w T p).1, (r_w T p).2.1 + x8, x9 - x8, (r_w T p).2.2.2) := by
  have g1 : vp_in (nI p) 60 := (n_vp (by omega)).mpr (by omega)
  have g2 : vp_in (nI j) 60 := (n_vp (by omega)).mpr (by omega)
  unfold fn_X12_takeOut_209
  simp only [fg_let_1, rt_AF, rt_FA, h48, fg_g_1 g1, fg_g_1 g2, q_nIx (show p < 2 ^ 31 by omega), q_nIx (show j < 2 ^ 31 by omega), n_p1, show (30 : Int32) + nI n = nI (30 + n) from n_add 30 n]
  generalize hT : rt_F (rt_A (rt_A (rt_A (rt_A (rt_A T 49 j (T.2 41 p)) 50 j ((rt_A T 49 j (T.2 41 p)).2 42 p + x8)) 51 j (x9 - x8)) 52 j ((rt_A (rt_A (rt_A T 49 j (T.2 41 p)) 50 j ((rt_A T 49 j (T.2 41 p)).2 42 p + x8)) 51 j (x9 - x8)).2 44 p)) 53 j ((rt_A (rt_A (rt_A (rt_A T 49 j (T.2 41 p)) 50 j ((rt_A T 49 j (T.2 41 p)).2 42 p + x8)) 51 j (x9 - x8)) 52 j ((rt_A (rt_A (rt_A T 49 j (T.2 41 p)) 50 j ((rt_A T 49 j (T.2 41 p)).2 42 p + x8)) 51 j (x9 - x8)).2 44 p)).2 45 p)) 48 (nI (j + 1)) = T2
  have fr : r_fr [48, 49, 50, 51, 52, 53] T T2 := by
    rw [← hT]
    exact r_frt (r_frt (r_frt (r_frt (r_frt (r_frA (by decide)) (r_frA (by decide))) (r_frA (by decide))) (r_frA (by decide))) (r_frA (by decide))) (r_frF (by decide))
  have e43 : ∀ x, (rt_A (rt_A (rt_A (rt_A (rt_A T 49 j (T.2 41 p)) 50 j ((rt_A T 49 j (T.2 41 p)).2 42 p + x8)) 51 j (x9 - x8)) 52 j ((rt_A (rt_A (rt_A T 49 j (T.2 41 p)) 50 j ((rt_A T 49 j (T.2 41 p)).2 42 p + x8)) 51 j (x9 - x8)).2 44 p)) 53 j ((rt_A (rt_A (rt_A (rt_A T 49 j (T.2 41 p)) 50 j ((rt_A T 49 j (T.2 41 p)).2 42 p + x8)) 51 j (x9 - x8)) 52 j ((rt_A (rt_A (rt_A T 49 j (T.2 41 p)) 50 j ((rt_A T 49 j (T.2 41 p)).2 42 p + x8)) 51 j (x9 - x8)).2 44 p)).2 45 p)).2 x p = T2.2 x p := fun x => by rw [← hT]; rfl
  have es := ri_setPiece (t := T2) (show 30 + n < 60 by omega) ((r_w T p).1, (r_w T p).2.1 + x9, (r_w T p).2.2.1 - x9, (r_w T p).2.2.2)
  dsimp only [r_w] at es
  refine ⟨T2, ?_, fr, by rw [← hT]; rfl, fun i hi => ?_, ?_⟩
  · simp only [e43, fr.2 41 (by decide), fr.2 42 (by decide), fr.2 43 (by decide), fr.2 44 (by decide), fr.2 45 (by decide), es, fg_b_1, r_w]
  · rw [← hT]
    unfold r_o
    simp [rt_FA, rt_AA, hi]
  · rw [← hT]
    unfold r_o r_w
    simp [rt_FA, rt_AA]
end RE4
