section RE5
variable {t T : r_T} {s : sA}
theorem ri_tk25 {z : sP → Nat} {l F1 F2 : List sP} {f o : Nat} (ho : o ≤ 300) (hfo : f < o) (hl : l.length ≤ 24) (hF1 : F1.length ≤ 28) (hF2 : F2.length ≤ 28) (hok : ∀ p, p ∈ l → e_ok z p) (hb : l_b t z l) : ∀ (d j N : Nat) (T : r_T) (K O : List sP), j + d = l.length → d < N → r_fr l_X t T → K ++ (e_tk z f o (e_end z 0 (l.take j)) (l.drop j)).1 = F1 → O ++ (e_tk z f o (e_end z 0 (l.take j)) (l.drop j)).2 = F2 → l_W T 30 K → l_O T O → T.1 48 = nI O.length → l_W T j (l.drop j) → ∃ T2, fn_X12_takeOut_25 N (nI f) (nI o) (nI K.length) (nI l.length) 30 (nI j) T = some ((), T2) ∧ r_fr l_X t T2 ∧ T2.1 40 = nI F1.length ∧ l_W T2 0 F1 ∧ l_O T2 F2 ∧ T2.1 48 = nI F2.length := by
  intro d
  induction d with
  | zero =>
    intro j N T K O hj hN hf e1 e2 h1 h2 h3 h4
    obtain ⟨N, rfl⟩ : ∃ m, N = m + 1 := ⟨N - 1, by omega⟩
    rw [List.drop_eq_nil_of_le (by omega)] at e1 e2
    have e1' : K = F1 := by rw [← e1]; exact (List.append_nil K).symm
    have e2' : O = F2 := by rw [← e2]; exact (List.append_nil O).symm
    subst e1' e2'
    show ∃ T2, fn_X12_takeOut_25b _ _ _ _ _ _ _ _ = _ ∧ _
    unfold fn_X12_takeOut_25b
    rw [fg_if_1 ((n_le (by omega) (by omega)).mpr (by omega)), fg_let_1]
    obtain ⟨T2, f1, f2, f3, f4, f5⟩ := ri_tk380 (t := rt_F T 40 (nI K.length)) (F := K) (by omega) K.length 0 g_N (rt_F T 40 (nI K.length)) (by omega) (by have := g_N_le; omega) r_fr0 rfl (fun k _ _ => ⟨rfl, rfl⟩) (by rw [List.take_zero]; exact l_W_nil) (by rw [List.drop_zero]; exact h1)
    refine ⟨T2, f1, r_frt (r_frt hf (r_frF (by decide))) f2, f3.trans (by rw [rt_FF, if_pos rfl]), f5, fun i q hq => ?_, ?_⟩
    · unfold r_o
      rw [(f4 49 (by omega) (by omega)).1, (f4 50 (by omega) (by omega)).1, (f4 51 (by omega) (by omega)).1, (f4 52 (by omega) (by omega)).1, (f4 53 (by omega) (by omega)).1]
      exact h2 i q hq
    · rw [(f4 48 (by omega) (by omega)).2]
      exact h3
  | succ d ih =>
    intro j N T K O hj hN hf e1 e2 h1 h2 h3 h4
    obtain ⟨N, rfl⟩ : ∃ m, N = m + 1 := ⟨N - 1, by omega⟩
    have hj2 : j < l.length := by omega
    have hp := hok l[j] (List.getElem_mem hj2)
    rw [List.drop_eq_getElem_cons hj2] at e1 e2 h4
    obtain ⟨w1, w2⟩ := l_W_cons.mp h4
    have g1 : vp_in (nI j) 60 := (n_vp (by omega)).mpr (by omega)
    have eE : e_end z 0 (l.take (j + 1)) = min 300 (e_end z 0 (l.take j) + z l[j]) := by
      rw [List.take_succ_eq_append_getElem hj2, e_end_app]
      rfl
    have hE := (e_end_ge (z := z) (l.take j) 0 (by omega)).2
    obtain ⟨b1, b2⟩ := hb j hj2
    have b1' : T.2 46 j = nI (e_end z 0 (l.take j)) := by rw [hf.2 46 (by decide)]; exact b1
    have b2' : T.2 47 j = nI (min 300 (e_end z 0 (l.take j) + z l[j])) := by rw [hf.2 47 (by decide), ← eE]; exact b2
    have kl : K.length ≤ 28 := by have := congrArg List.length e1; rw [List.length_append] at this; omega
    have ol : O.length ≤ 28 := by have := congrArg List.length e2; rw [List.length_append] at this; omega
    unfold e_tk at e1 e2
    rw [← eE] at e1 e2 b2'
    generalize e_end z 0 (l.take j) = st at e1 e2 b1' eE hE
    show ∃ T2, fn_X12_takeOut_25b (fn_X12_takeOut_25 N) _ _ _ _ _ _ _ = _ ∧ _
    unfold fn_X12_takeOut_25b
    have en : e_end z 0 (l.take (j + 1)) ≤ 300 := (e_end_ge (z := z) (l.take (j + 1)) 0 (by omega)).2
    rw [fg_if_0 (fun q => by have := (n_le (a := l.length) (b := j) (by omega) (by omega)).mp q; omega), fg_g_1 g1, fg_g_1 g1, fg_g_1 g1, fg_g_1 g1, q_nIx (by omega), b1', b2']
    by_cases c1 : e_end z 0 (l.take (j + 1)) ≤ f ∨ o ≤ st
    · rw [if_pos c1] at e1 e2
      have e54 : fg_if (nI (e_end z 0 (l.take (j + 1))) ≤ nI f) (fn_X12_takeOut_54 (fn_X12_takeOut_25 N) (nI f) (nI o) (nI K.length) (nI l.length) 30 (nI j) T) (fg_if (nI st < nI o) (fg_if (nI f ≤ nI st) (fn_X12_takeOut_128 (fn_X12_takeOut_25 N) (nI f) (nI o) (nI K.length) (nI l.length) 30 (nI j) 0 T) (fn_X12_takeOut_128 (fn_X12_takeOut_25 N) (nI f) (nI o) (nI K.length) (nI l.length) 30 (nI j) (nI f - nI st) T)) (fn_X12_takeOut_54 (fn_X12_takeOut_25 N) (nI f) (nI o) (nI K.length) (nI l.length) 30 (nI j) T)) = fn_X12_takeOut_54 (fn_X12_takeOut_25 N) (nI f) (nI o) (nI K.length) (nI l.length) 30 (nI j) T := by
        by_cases c2 : e_end z 0 (l.take (j + 1)) ≤ f
        · rw [fg_if_1 ((n_le (by omega) (by omega)).mpr c2)]
        · rw [fg_if_0 (fun q => c2 ((n_le (by omega) (by omega)).mp q)), fg_if_0 (fun q => by have := (n_lt (a := st) (b := o) (by omega) (by omega)).mp q; omega)]
      rw [e54]
      unfold fn_X12_takeOut_54
      have hk1 : K.length + 1 ≤ 28 := by have := congrArg List.length e1; rw [List.length_append, List.length_cons] at this; omega
      have es := ri_setPiece (t := T) (show 30 + K.length < 60 by omega) (r_w T j)
      unfold r_w at es
      rw [fg_g_1 g1, fg_g_1 g1, fg_g_1 g1, fg_g_1 g1, fg_g_1 g1, show (30 : Int32) + nI K.length = nI (30 + K.length) from n_add 30 _, q_nIx (by omega), es, fg_b_1, n_p1, n_p1]
      have := ih (j + 1) N (rt_P T (30 + K.length) (r_w T j)) (K ++ [l[j]]) O (by omega) (by omega) (r_frt hf (r_frS (rt_P_fr T _ _) (by decide))) (by rw [List.append_assoc]; exact e1) e2 (l_W_snoc h1 (fun i hi => by rw [r_w_P, if_neg (by omega)]) (by rw [r_w_P, if_pos rfl]; exact w1)) (fun i q hq => h2 i q hq) h3 (l_W_tr w2 (fun i hi => by rw [List.length_drop] at hi; rw [r_w_P, if_neg (by omega)]))
      rw [List.length_append] at this
      exact this
    · rw [if_neg c1] at e1 e2
      have c2 : ¬ nI (e_end z 0 (l.take (j + 1))) ≤ nI f := fun q => c1 (Or.inl ((n_le (by omega) (by omega)).mp q))
      have c3 : nI st < nI o := (n_lt (by omega) (by omega)).mpr (by omega)
      rw [fg_if_0 c2, fg_if_1 c3]
      have e128 : fg_if (nI f ≤ nI st) (fn_X12_takeOut_128 (fn_X12_takeOut_25 N) (nI f) (nI o) (nI K.length) (nI l.length) 30 (nI j) 0 T) (fn_X12_takeOut_128 (fn_X12_takeOut_25 N) (nI f) (nI o) (nI K.length) (nI l.length) 30 (nI j) (nI f - nI st) T) = fn_X12_takeOut_128 (fn_X12_takeOut_25 N) (nI f) (nI o) (nI K.length) (nI l.length) 30 (nI j) (nI (f - st)) T := by
        by_cases c4 : f ≤ st
        · rw [fg_if_1 ((n_le (by omega) (by omega)).mpr c4), show f - st = 0 by omega]
          rfl
        · rw [fg_if_0 (fun q => c4 ((n_le (by omega) (by omega)).mp q)), n_sub (by omega)]
      rw [e128]
      obtain ⟨⟨n, hn, en2, hzn⟩, _⟩ := hp
      have en3 : T.2 43 j = nI n := by have := congrArg (fun q : sP => q.2.2.1) w1; rw [← en2]; exact this
      unfold fn_X12_takeOut_128
      rw [fg_g_1 g1, fg_g_1 g1, fg_g_1 g1, q_nIx (by omega), b1', b2', en3]
      have e160 : fg_if (nI (e_end z 0 (l.take (j + 1))) ≤ nI o) (fn_X12_takeOut_160 (fn_X12_takeOut_25 N) (nI f) (nI o) (nI K.length) (nI l.length) 30 (nI j) (nI (f - st)) (nI n) T) (fn_X12_takeOut_160 (fn_X12_takeOut_25 N) (nI f) (nI o) (nI K.length) (nI l.length) 30 (nI j) (nI (f - st)) (nI o - nI st) T) = fn_X12_takeOut_160 (fn_X12_takeOut_25 N) (nI f) (nI o) (nI K.length) (nI l.length) 30 (nI j) (nI (f - st)) (if o < e_end z 0 (l.take (j + 1)) then nI (o - st) else l[j].2.2.1) T := by
        by_cases c4 : o < e_end z 0 (l.take (j + 1))
        · rw [fg_if_0 (fun q => by have := (n_le (b := o) (by omega) (by omega)).mp q; omega), if_pos c4, n_sub (by omega)]
        · rw [fg_if_1 ((n_le (by omega) (by omega)).mpr (by omega)), if_neg c4, en2]
      rw [e160]
      -- the left part
      obtain ⟨K2, T3, f1, f2, f3, f4, f5, f6, f7, f8⟩ : ∃ K2 T3, fn_X12_takeOut_160 (fn_X12_takeOut_25 N) (nI f) (nI o) (nI K.length) (nI l.length) 30 (nI j) (nI (f - st)) (if o < e_end z 0 (l.take (j + 1)) then nI (o - st) else l[j].2.2.1) T = fn_X12_takeOut_209 (fn_X12_takeOut_25 N) (nI f) (nI o) (nI K2.length) (nI l.length) 30 (nI j) (nI (f - st)) (if o < e_end z 0 (l.take (j + 1)) then nI (o - st) else l[j].2.2.1) T3 ∧ K2 = K ++ (if st < f then [e_hd l[j] (f - st)] else []) ∧ l_W T3 30 K2 ∧ r_fr l_X t T3 ∧ l_O T3 O ∧ T3.1 48 = nI O.length ∧ r_w T3 j = l[j] ∧ l_W T3 (j + 1) (l.drop (j + 1)) := by
        unfold fn_X12_takeOut_160
        by_cases c4 : st < f
        · have hk1 : K.length + 1 ≤ 28 := by have := congrArg List.length e1; rw [if_pos c4, List.length_append, List.length_append, List.length_append] at this; simp only [List.length_singleton] at this; omega
          have es := ri_setPiece (t := T) (show 30 + K.length < 60 by omega) (e_hd (r_w T j) (f - st))
          have es2 : fn_X12_setPiece (nI (30 + K.length)) (T.2 41 j) (T.2 42 j) (nI (f - st)) (T.2 44 j) (T.2 45 j) T = some ((), rt_P T (30 + K.length) (e_hd (r_w T j) (f - st))) := es
          refine ⟨K ++ [e_hd l[j] (f - st)], rt_P T (30 + K.length) (e_hd (r_w T j) (f - st)), ?_, by rw [if_pos c4], l_W_snoc h1 (fun i hi => by rw [r_w_P, if_neg (by omega)]) (by rw [r_w_P, if_pos rfl, w1]), r_frt hf (r_frS (rt_P_fr T _ _) (by decide)), fun i q hq => h2 i q hq, h3, by rw [r_w_P, if_neg (by omega)]; exact w1, l_W_tr w2 (fun i hi => by rw [List.length_drop] at hi; rw [r_w_P, if_neg (by omega)])⟩
          rw [fg_if_0 (fun q => by have := (n_le (a := f - st) (b := 0) (by omega) (by omega)).mp q; omega), fg_g_1 g1, fg_g_1 g1, fg_g_1 g1, fg_g_1 g1, show (30 : Int32) + nI K.length = nI (30 + K.length) from n_add 30 _, q_nIx (by omega), es2, fg_b_1, n_p1, List.length_append]
          rfl
        · refine ⟨K, T, ?_, by rw [if_neg c4, List.append_nil], h1, hf, h2, h3, w1, w2⟩
          rw [fg_if_1 (show nI (f - st) ≤ 0 by rw [show f - st = 0 by omega]; decide)]
      have k2l : K2.length ≤ 28 := by
        have := congrArg List.length e1
        rw [f2, List.length_append]
        rw [List.length_append, List.length_append, List.length_append] at this
        omega
      have o1 : O.length + 1 ≤ 28 := by have := congrArg List.length e2; rw [List.length_append, List.length_cons] at this; omega
      obtain ⟨T4, q1, q2, q3, q4, q5⟩ := ri_tk209 (K25 := fn_X12_takeOut_25 N) (f := f) (o := o) (p := j) (a := 0) (n := K2.length) (j := O.length) (x5 := nI l.length) (x8 := nI (f - st)) (x9 := if o < e_end z 0 (l.take (j + 1)) then nI (o - st) else l[j].2.2.1) (by omega) (by omega) (by omega) f6
      rw [f1, q1, f7]
      have h2' : l_O T4 (O ++ [(l[j].1, l[j].2.1 + nI (f - st), (if o < e_end z 0 (l.take (j + 1)) then nI (o - st) else l[j].2.2.1) - nI (f - st), l[j].2.2.2)]) := l_O_app f5 (fun i hi => q4 i (by omega)) (by rw [q5, f7])
      have rw4 : ∀ x, r_w T4 x = r_w T3 x := fun x => by
        unfold r_w
        rw [q2.2 41 (by decide), q2.2 42 (by decide), q2.2 43 (by decide), q2.2 44 (by decide), q2.2 45 (by decide)]
      have hf4 : r_fr l_X t T4 := r_frt f4 (r_frS q2 (by decide))
      by_cases c4 : o < e_end z 0 (l.take (j + 1))
      · simp only [if_pos c4] at e1 e2 h2' ⊢
        have k3 : K2.length + 1 ≤ 28 := by
          have := congrArg List.length e1
          rw [f2, List.length_append]
          rw [List.length_append, List.length_append, List.length_append, List.length_singleton] at this
          omega
        rw [en2, fg_if_0 (fun q => by have := (n_le (a := n) (b := o - st) (by omega) (by omega)).mp q; omega)]
        have etl : ((l[j].1, l[j].2.1 + nI (o - st), nI n - nI (o - st), l[j].2.2.2) : sP) = e_tl l[j] (o - st) := by unfold e_tl; rw [en2]
        rw [etl]
        have := ih (j + 1) N (rt_P T4 (30 + K2.length) (e_tl l[j] (o - st))) (K2 ++ [e_tl l[j] (o - st)]) _ (by omega) (by omega) (r_frt hf4 (r_frS (rt_P_fr T4 _ _) (by decide))) (by rw [f2, List.append_assoc, List.append_assoc, ← List.append_assoc (if st < f then _ else _)]; exact e1) (by rw [List.append_assoc]; exact e2) (l_W_snoc (l_W_tr f3 (fun i _ => rw4 _)) (fun i hi => by rw [r_w_P, if_neg (by omega)]) (by rw [r_w_P, if_pos rfl])) (fun i q hq => h2' i q hq) (by rw [List.length_append]; exact q3) (l_W_tr f8 (fun i hi => by rw [List.length_drop] at hi; rw [r_w_P, if_neg (by omega), rw4]))
        rw [List.length_append] at this
        exact this
      · simp only [if_neg c4] at e1 e2 h2' ⊢
        rw [fg_if_1 (Int32.le_refl _)]
        exact ih (j + 1) N T4 K2 _ (by omega) (by omega) hf4 (by rw [f2, List.append_assoc]; rw [List.append_nil] at e1; exact e1) (by rw [List.append_assoc]; exact e2) (l_W_tr f3 (fun i _ => rw4 _)) h2' (by rw [List.length_append]; exact q3) (l_W_tr f8 (fun i _ => rw4 _))
/-- takeOut: what leaves, what is left -/
theorem ri_takeOut {z : sP → Nat} {l : List sP} {f n : Nat} (hn : 0 < n) (ho : f + n ≤ 300) (hl : l.length ≤ 24) (hok : ∀ p, p ∈ l → e_ok z p) (h40 : t.1 40 = nI l.length) (hW : l_W t 0 l) (hb : l_b t z l) : ∃ T2, fn_X12_takeOut (nI f) (nI n) t = some ((), T2) ∧ r_fr l_X t T2 ∧ T2.1 40 = nI (e_lift z f n l).2.length ∧ l_W T2 0 (e_lift z f n l).2 ∧ l_O T2 (e_lift z f n l).1 ∧ T2.1 48 = nI (e_lift z f n l).1.length ∧ (e_lift z f n l).2.length ≤ 26 ∧ (e_lift z f n l).1.length ≤ 26 := by
  have e : e_tk z f (f + n) 0 l = ((e_lift z f n l).2, (e_lift z f n l).1) := e_tk1 (by omega) l 0 hok (by omega) (by omega)
  have l1 := (e_oa_all (z := z) l f 0).1
  have l2 := e_ob_all (z := z) (e_oa z f 0 l).2 (f + n) f
  have m1 : (e_lift z f n l).2.length ≤ 26 := by unfold e_lift; rw [List.length_append]; omega
  have m2 : (e_lift z f n l).1.length ≤ 26 := by unfold e_lift; dsimp only; omega
  unfold fn_X12_takeOut
  rw [fg_let_1, n_add, show (rt_F t 48 0).1 40 = t.1 40 from rfl, h40]
  obtain ⟨T2, f1, f2, f3, f4, f5, f6⟩ := ri_tk25 (t := t) (z := z) (l := l) (F1 := (e_lift z f n l).2) (F2 := (e_lift z f n l).1) (f := f) (o := f + n) ho (by omega) hl (by omega) (by omega) hok hb l.length 0 g_N (rt_F t 48 0) [] [] (by omega) (by have := g_N_le; omega) (r_frF (by decide)) (by rw [List.drop_zero]; show (e_tk z f (f + n) 0 l).1 = _; rw [e]) (by rw [List.drop_zero]; show (e_tk z f (f + n) 0 l).2 = _; rw [e]) l_W_nil (fun i q hq => by simp at hq) rfl (by rw [List.drop_zero]; exact hW)
  exact ⟨T2, f1, f2, f3, f4, f5, f6, m1, m2⟩
end RE5
