section RE3
variable {t T : r_T} {s : sA}
def l_L : List Nat := [10, 11, 12, 13, 14, 15, 16, 17, 18, 19, 20, 21]
def l_Q : List Nat := [16, 17, 18, 19, 20, 21]
theorem r_log_f {m : Int32} {L : Nat} (hb : ∀ l, l < L → r_lg (t.2 12 l) l) : ∀ (l : Nat) (x : Int32) (n n2 : Nat), l ≤ L → l < 2 ^ 31 → r_lg x l → l < n → l < n2 → r_log t m n x = r_log t m n2 x := by
  intro l
  induction l using Nat.strongRecOn with
  | ind l ih =>
    intro x n n2 hl hl31 hx h1 h2
    obtain ⟨n, rfl⟩ : ∃ m, n = m + 1 := ⟨n - 1, by omega⟩
    obtain ⟨n2, rfl⟩ : ∃ m, n2 = m + 1 := ⟨n2 - 1, by omega⟩
    unfold r_log
    rcases hx with rfl | ⟨y, hy, rfl⟩
    · rw [if_pos (by decide), if_pos (by decide)]
    · rw [if_neg (n_neg (by omega)), if_neg (n_neg (by omega)), q_nIx (by omega)]
      by_cases c : t.2 13 y ≤ m
      · rw [if_pos c, if_pos c]
      · rw [if_neg c, if_neg c]
        exact ih y hy _ n n2 (by omega) (by omega) (hb y (by omega)) (by omega) (by omega)
theorem r_log_lt {t2 : r_T} {m : Int32} {L : Nat} (hL : L < 2 ^ 31) (hb : ∀ l, l < L → r_lg (t.2 12 l) l) (e12 : ∀ l, l < L → t2.2 12 l = t.2 12 l) (e13 : ∀ l, l < L → t2.2 13 l = t.2 13 l) : ∀ (n : Nat) (x : Int32), r_lg x L → r_log t2 m n x = r_log t m n x := by
  intro n
  induction n with
  | zero => intro x _; rfl
  | succ n ih =>
    intro x hx
    unfold r_log
    rcases hx with rfl | ⟨y, hy, rfl⟩
    · rw [if_pos (by decide), if_pos (by decide)]
    · rw [if_neg (n_neg (by omega)), if_neg (n_neg (by omega)), q_nIx (by omega), e13 y hy, e12 y hy]
      by_cases c : t.2 13 y ≤ m
      · rw [if_pos c, if_pos c]
      · rw [if_neg c, if_neg c]
        refine ih _ ?_
        rcases hb y hy with w | ⟨z, hz, w⟩
        · exact Or.inl w
        · exact Or.inr ⟨z, by omega, w⟩
/-- the pieces go to the pool -/
theorem ri_store_89 {l : List sP} {P : Nat} (hl : l.length ≤ 24) (hP : P + l.length ≤ 28800) (h40 : t.1 40 = nI l.length) (hW : l_W t 0 l) : ∀ (d j N : Nat) (T : r_T), j + d = l.length → d < N → r_fr l_Q t T → T.1 16 = nI (P + j) → (∀ k, 17 ≤ k ∧ k ≤ 21 → ∀ x, x < P → T.2 k x = t.2 k x) → (∀ i, i < j → l[i]? = some (r_pc T (P + i))) → ∃ T2, fn_X12_store_89 N (nI j) T = some (1, T2) ∧ r_fr l_Q t T2 ∧ T2.1 16 = nI (P + l.length) ∧ (∀ k, 17 ≤ k ∧ k ≤ 21 → ∀ x, x < P → T2.2 k x = t.2 k x) ∧ (∀ i, i < l.length → l[i]? = some (r_pc T2 (P + i))) := by
  intro d
  induction d with
  | zero =>
    intro j N T hj hN hf h16 hk hi
    obtain ⟨N, rfl⟩ : ∃ m, N = m + 1 := ⟨N - 1, by omega⟩
    have ej : j = l.length := by omega
    refine ⟨T, ?_, hf, by rw [h16, ej], hk, fun i h => hi i (by omega)⟩
    show fn_X12_store_89b _ _ _ = _
    unfold fn_X12_store_89b
    rw [hf.1 40 (by decide), h40, fg_if_1 ((n_le (by omega) (by omega)).mpr (by omega))]
  | succ d ih =>
    intro j N T hj hN hf h16 hk hi
    obtain ⟨N, rfl⟩ : ∃ m, N = m + 1 := ⟨N - 1, by omega⟩
    have hj2 : j < l.length := by omega
    show ∃ T2, fn_X12_store_89b (fn_X12_store_89 N) _ _ = _ ∧ _
    unfold fn_X12_store_89b
    have g1 : vp_in (nI j) 60 := (n_vp (by omega)).mpr (by omega)
    have g2 : vp_in (nI (P + j)) 28800 := (n_vp (by omega)).mpr (by omega)
    rw [hf.1 40 (by decide), h40, fg_if_0 (fun q => by have := (n_le (a := l.length) (b := j) (by omega) (by omega)).mp q; omega)]
    simp only [fg_let_1, rt_AF, h16, fg_g_1 g1, fg_g_1 g2, q_nIx (show j < 2 ^ 31 by omega), q_nIx (show P + j < 2 ^ 31 by omega), n_p1]
    have ew : r_w T j = l[j] := by
      have := hW j l[j] (List.getElem?_eq_getElem hj2)
      rw [Nat.zero_add] at this
      rw [← this]
      unfold r_w
      rw [hf.2 41 (by decide), hf.2 42 (by decide), hf.2 43 (by decide), hf.2 44 (by decide), hf.2 45 (by decide)]
    refine ih (j + 1) N _ (by omega) (by omega) (r_frt hf (r_frt (r_frt (r_frt (r_frt (r_frt (r_frA (by decide)) (r_frA (by decide))) (r_frA (by decide))) (r_frA (by decide))) (r_frA (by decide))) (r_frF (by decide)))) ?_ (fun k h2 x hx => ?_) (fun i h2 => ?_)
    · rw [rt_FF, if_pos rfl, Nat.add_assoc]
    · rw [rt_FA]
      simp only [rt_AA, if_neg (show ¬ x = P + j by omega), ite_self]
      exact hk k h2 x hx
    · by_cases e : i = j
      · subst e
        rw [List.getElem?_eq_getElem hj2, ← ew]
        unfold r_pc r_w
        simp [rt_FA, rt_AA]
      · rw [hi i (by omega)]
        unfold r_pc
        simp [rt_FA, rt_AA, show ¬ i = j by omega]
/-- what a store makes of the logs -/
theorem ri_store {l : List sP} {w : Nat} (hw : w < 12) (hRW : RW t s) (h1 : t.1 1 = nI (sC s 0)) (v0 : sC s 0 < 512) (hl : l.length ≤ 60) (h40 : t.1 40 = nI l.length) (hW : l_W t 0 l) : ∃ T2, fn_X12_store (nI w) t = some (q_b (l.length ≤ 24), T2) ∧ (l.length ≤ 24 → r_fr l_L t T2 ∧ RW T2 (s_act (uR s w (sC s 0 + 1) l) 0)) ∧ (¬ l.length ≤ 24 → T2 = t) := by
  unfold fn_X12_store
  rw [h40]
  by_cases c : l.length ≤ 24
  · rw [fg_if_1 (show nI l.length ≤ 24 from (n_le (b := 24) (by omega) (by omega)).mpr c), q_b1 c]
    obtain ⟨L, P, a1, a2, a3, a4, a5, a6, a7⟩ := hRW
    have g1 : vp_in (nI w) 12 := (n_vp (by omega)).mpr hw
    have g2 : vp_in (nI L) 1200 := (n_vp (by omega)).mpr (by omega)
    simp only [fg_let_1, rt_AF, a3, a4, h1, h40, fg_g_1 g1, fg_g_1 g2, q_nIx (show L < 2 ^ 31 by omega), q_nIx (show w < 2 ^ 31 by omega), n_p1]
    generalize ht9 : rt_F (rt_A (rt_A (rt_A (rt_A (rt_A t 12 L (t.2 11 w)) 13 L (nI (sC s 0 + 1))) 14 L (nI P)) 15 L (nI l.length)) 11 w (nI L)) 10 (nI (L + 1)) = t9
    have fr9 : r_fr [10, 11, 12, 13, 14, 15] t t9 := by
      rw [← ht9]
      exact r_frt (r_frt (r_frt (r_frt (r_frt (r_frA (by decide)) (r_frA (by decide))) (r_frA (by decide))) (r_frA (by decide))) (r_frA (by decide))) (r_frF (by decide))
    have k10 : t9.1 10 = nI (L + 1) := by rw [← ht9]; rfl
    have k11 : ∀ x, t9.2 11 x = if x = w then nI L else t.2 11 x := fun x => by rw [← ht9]; simp [rt_FA, rt_AA]
    have k12 : ∀ x, t9.2 12 x = if x = L then t.2 11 w else t.2 12 x := fun x => by rw [← ht9]; simp [rt_FA, rt_AA]
    have k13 : ∀ x, t9.2 13 x = if x = L then nI (sC s 0 + 1) else t.2 13 x := fun x => by rw [← ht9]; simp [rt_FA, rt_AA]
    have k14 : ∀ x, t9.2 14 x = if x = L then nI P else t.2 14 x := fun x => by rw [← ht9]; simp [rt_FA, rt_AA]
    have k15 : ∀ x, t9.2 15 x = if x = L then nI l.length else t.2 15 x := fun x => by rw [← ht9]; simp [rt_FA, rt_AA]
    obtain ⟨T2, f1, f2, f3, f4, f5⟩ := ri_store_89 (t := t9) (l := l) (P := P) c (by omega) (by rw [fr9.1 40 (by decide)]; exact h40) (l_W_tr hW (fun i hi => by
      unfold r_w
      rw [fr9.2 41 (by decide), fr9.2 42 (by decide), fr9.2 43 (by decide), fr9.2 44 (by decide), fr9.2 45 (by decide)])) l.length 0 g_N t9 (by omega) (by have := g_N_le; omega) r_fr0 (by rw [fr9.1 16 (by decide), a4]; rfl) (fun _ _ _ _ => rfl) (fun i hi => absurd hi (Nat.not_lt_zero _))
    refine ⟨T2, f1, fun _ => ⟨r_frt (r_frS fr9 (by decide)) (r_frS f2 (by decide)), ?_⟩, fun n => absurd c n⟩
    have j10 : T2.1 10 = nI (L + 1) := by rw [f2.1 10 (by decide)]; exact k10
    have j11 : ∀ x, T2.2 11 x = if x = w then nI L else t.2 11 x := fun x => by rw [f2.2 11 (by decide)]; exact k11 x
    have j12 : ∀ x, T2.2 12 x = if x = L then t.2 11 w else t.2 12 x := fun x => by rw [f2.2 12 (by decide)]; exact k12 x
    have j13 : ∀ x, T2.2 13 x = if x = L then nI (sC s 0 + 1) else t.2 13 x := fun x => by rw [f2.2 13 (by decide)]; exact k13 x
    have j14 : ∀ x, T2.2 14 x = if x = L then nI P else t.2 14 x := fun x => by rw [f2.2 14 (by decide)]; exact k14 x
    have j15 : ∀ x, T2.2 15 x = if x = L then nI l.length else t.2 15 x := fun x => by rw [f2.2 15 (by decide)]; exact k15 x
    have hb : ∀ x, x < L → r_lg (t.2 12 x) x := fun x hx => (a6 x hx).1
    have e12 : ∀ x, x < L → T2.2 12 x = t.2 12 x := fun x hx => by rw [j12, if_neg (by omega)]
    have e13 : ∀ x, x < L → T2.2 13 x = t.2 13 x := fun x hx => by rw [j13, if_neg (by omega)]
    have rowo : ∀ x, r_lg x L → r_row T2 x = r_row t x := by
      intro x hx
      unfold r_row
      rcases hx with rfl | ⟨y, hy, rfl⟩
      · rw [if_pos (by decide), if_pos (by decide)]
      · rw [if_neg (n_neg (by omega)), if_neg (n_neg (by omega)), q_nIx (by omega), j14, if_neg (by omega), j15, if_neg (by omega)]
        obtain ⟨_, a, n, b1, b2, b3, b4⟩ := a6 y hy
        rw [b1, b2, q_nIx (by omega), q_nIx (by omega)]
        apply List.map_congr_left
        intro i hi
        have hi := List.mem_range.mp hi
        unfold r_pc
        rw [f4 17 (by omega) _ (by omega), f4 18 (by omega) _ (by omega), f4 19 (by omega) _ (by omega), f4 20 (by omega) _ (by omega), f4 21 (by omega) _ (by omega), fr9.2 17 (by decide), fr9.2 18 (by decide), fr9.2 19 (by decide), fr9.2 20 (by decide), fr9.2 21 (by decide)]
    have rown : r_row T2 (nI L) = l := by
      unfold r_row
      rw [if_neg (n_neg (by omega)), q_nIx (by omega), j14, if_pos rfl, j15, if_pos rfl, q_nIx (by omega), q_nIx (by omega)]
      apply List.ext_getElem?
      intro i
      rw [List.getElem?_map]
      by_cases hi : i < l.length
      · rw [f5 i hi, List.getElem?_range hi]; rfl
      · rw [List.getElem?_eq_none (l := List.range l.length) (by rw [List.length_range]; omega), List.getElem?_eq_none (l := l) (by omega)]; rfl
    refine ⟨L + 1, P + l.length, ?_, by omega, j10, f3, fun x hx => ?_, fun x hx => ?_, fun x hx m hm => ?_⟩
    · show L + 1 ≤ sC s 0 + 1
      omega
    · rw [j11]
      by_cases e : x = w
      · rw [if_pos e]; exact Or.inr ⟨L, by omega, rfl⟩
      · rw [if_neg e]
        rcases a5 x hx with q | ⟨y, hy, q⟩
        · exact Or.inl q
        · exact Or.inr ⟨y, by omega, q⟩
    · rw [j12, j14, j15]
      by_cases e : x = L
      · rw [if_pos e, if_pos e, if_pos e, e]
        exact ⟨a5 w hw, P, l.length, rfl, rfl, c, Nat.le_refl _⟩
      · rw [if_neg e, if_neg e, if_neg e]
        obtain ⟨b0, a, n, b1, b2, b3, b4⟩ := a6 x (by omega)
        exact ⟨b0, a, n, b1, b2, b3, by omega⟩
    · show (if x = w ∧ sC s 0 + 1 ≤ m then l else sR s x m) = _
      rw [j11]
      by_cases e : x = w
      · rw [if_pos e]
        have er : r_log T2 (nI m) 1200 (nI L) = if nI (sC s 0 + 1) ≤ nI m then nI L else r_log T2 (nI m) 1199 (t.2 11 w) := by
          show (if nI L < 0 then nI L else if T2.2 13 (h_ix (nI L)) ≤ nI m then nI L else r_log T2 (nI m) 1199 (T2.2 12 (h_ix (nI L)))) = _
          rw [if_neg (n_neg (by omega)), q_nIx (by omega), j13, if_pos rfl, j12, if_pos rfl]
        rw [er]
        by_cases e2 : sC s 0 + 1 ≤ m
        · rw [if_pos ⟨e, e2⟩, if_pos ((n_le (by omega) hm).mpr e2), rown]
        · rw [if_neg (fun q => e2 q.2), if_neg (fun q => e2 ((n_le (by omega) hm).mp q)), r_log_lt (t := t) (by omega) hb e12 e13 _ _ (a5 w hw), r_log_f (n2 := 1200) hb L _ 1199 (Nat.le_refl _) (by omega) (a5 w hw) (by omega) (by omega), rowo _ (r_log_lg hb _ _ (a5 w hw)), a7 x hx m hm, e]
      · rw [if_neg (fun q => e q.1), if_neg e, r_log_lt (t := t) (by omega) hb e12 e13 _ _ (a5 x hx), rowo _ (r_log_lg hb _ _ (a5 x hx)), a7 x hx m hm]
  · rw [fg_if_0 (show ¬ nI l.length ≤ 24 from fun q => c ((n_le (b := 24) (by omega) (by omega)).mp q)), q_b0 c]
    exact ⟨t, rfl, fun n => absurd n c, fun _ => rfl⟩
end RE3
