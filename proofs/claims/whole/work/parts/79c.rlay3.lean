section LC
variable {a b : Nat → Nat}
theorem l_dn_c {k : Nat} {c d : Nat → Nat} (h : ∀ j, j < k → c j = d j) : l_dn b k c = l_dn b k d := by
  induction k with
  | zero => rfl
  | succ k ih =>
    unfold l_dn
    rw [ih (fun j hj => h j (by omega)), h k (by omega)]
theorem l_pu_c {k : Nat} : ∀ {c d : Nat → Nat}, (∀ j, j < k → c j = d j) → (l_pu a b k c).2 = (l_pu a b k d).2 ∧ ∀ j, j < k → (l_pu a b k c).1 j = (l_pu a b k d).1 j := by
  induction k with
  | zero => intro c d _; exact ⟨rfl, fun j hj => absurd hj (Nat.not_lt_zero j)⟩
  | succ k ih =>
    intro c d h
    have e := h k (by omega)
    have hu : ∀ j, j < k + 1 → l_up c k (c k + 1) j = l_up d k (d k + 1) j := fun j hj => by
      by_cases w : j = k
      · rw [w, l_up_same, l_up_same, e]
      · rw [l_up_ne _ w, l_up_ne _ w]; exact h j hj
    unfold l_pu
    rw [← e]
    by_cases w1 : c k < b k
    · rw [if_pos w1, if_pos w1]
      by_cases w2 : a k ≤ c k
      · rw [if_pos w2, if_pos w2]
        have i := ih (c := l_up c k (c k + 1)) (d := l_up d k (c k + 1)) (fun j hj => by have := hu j (by omega); rw [← e] at this; exact this)
        refine ⟨i.1, fun j hj => ?_⟩
        by_cases w : j < k
        · exact i.2 j w
        · have : j = k := by omega
          subst this
          have z : ∀ (n : Nat) (c : Nat → Nat) (j : Nat), n ≤ j → (l_pu a b n c).1 j = c j := by
            intro n
            induction n with
            | zero => intro c j _; rfl
            | succ n ihn =>
              intro c j hj
              unfold l_pu
              split
              · split
                · rw [ihn _ j (by omega), l_up_ne _ (by omega)]
                · exact l_up_ne _ (by omega)
              · rfl
          rw [z j _ j (Nat.le_refl _), z j _ j (Nat.le_refl _), l_up_same, l_up_same]
      · rw [if_neg w2, if_neg w2]
        exact ⟨rfl, fun j hj => by have := hu j hj; rw [← e] at this; exact this⟩
    · rw [if_neg w1, if_neg w1]
      exact ⟨rfl, fun j hj => h j hj⟩
/-- the frames from n on aren't touched -/
theorem l_pu_hi : ∀ (n : Nat) (c : Nat → Nat) (j : Nat), n ≤ j → (l_pu a b n c).1 j = c j := by
  intro n
  induction n with
  | zero => intro c j _; rfl
  | succ n ihn =>
    intro c j hj
    unfold l_pu
    split
    · split
      · rw [ihn _ j (by omega), l_up_ne _ (by omega)]
      · exact l_up_ne _ (by omega)
    · rfl
theorem l_pl_dn {k : Nat} {x : (Nat → Nat) × List lI} (h : l_dn b k x.1 = true) (I : List lI) : l_pl a b k I x = x := by
  cases I with
  | nil => rfl
  | cons i r => unfold l_pl; rw [if_pos h]
theorem l_pl_app {k : Nat} : ∀ (I J : List lI) (x : (Nat → Nat) × List lI), l_pl a b k (I ++ J) x = l_pl a b k J (l_pl a b k I x) := by
  intro I
  induction I with
  | nil => intro J x; rfl
  | cons i r ih =>
    intro J x
    show (if l_dn b k x.1 then x else l_pl a b k (r ++ J) _) = l_pl a b k J (if l_dn b k x.1 then x else l_pl a b k r _)
    by_cases w : l_dn b k x.1 = true
    · rw [if_pos w, if_pos w, l_pl_dn w]
    · rw [if_neg w, if_neg w, ih]
theorem l_pl_c {k : Nat} : ∀ (I : List lI) {c d : Nat → Nat} (O : List lI), (∀ j, j < k → c j = d j) → (l_pl a b k I (c, O)).2 = (l_pl a b k I (d, O)).2 ∧ ∀ j, j < k → (l_pl a b k I (c, O)).1 j = (l_pl a b k I (d, O)).1 j := by
  intro I
  induction I with
  | nil => intro c d O h; exact ⟨rfl, h⟩
  | cons i r ih =>
    intro c d O h
    unfold l_pl
    have e := l_dn_c (b := b) h
    obtain ⟨e2, e3⟩ := l_pu_c (a := a) (b := b) h
    show (if l_dn b k c = true then _ else _ : (Nat → Nat) × List lI).2 = (if l_dn b k d = true then _ else _ : (Nat → Nat) × List lI).2 ∧ _
    by_cases w : l_dn b k c = true
    · have w2 : l_dn b k d = true := by rw [← e]; exact w
      simp only [if_pos w, if_pos w2]
      exact ⟨trivial, h⟩
    · have w2 : ¬ l_dn b k d = true := by rw [← e]; exact w
      simp only [if_neg w, if_neg w2, e2]
      exact ih _ e3
/-- what passes a window, for the frames below -/
theorem l_pl_win {k : Nat} : ∀ (I : List lI) (c : Nat → Nat) (O : List lI), (l_pl a b (k + 1) I (c, O)).2 = (l_pl a b k ((I.take (b k - c k)).drop (a k - c k)) (c, O)).2 ∧ ∀ j, j < k → (l_pl a b (k + 1) I (c, O)).1 j = (l_pl a b k ((I.take (b k - c k)).drop (a k - c k)) (c, O)).1 j := by
  intro I
  induction I with
  | nil => intro c O; simp [l_pl]
  | cons i r ih =>
    intro c O
    have e0 : l_dn b (k + 1) c = (l_dn b k c || decide (b k ≤ c k)) := rfl
    have e1 : l_pl a b (k + 1) (i :: r) (c, O) = if l_dn b (k + 1) c = true then (c, O) else l_pl a b (k + 1) r ((l_pu a b (k + 1) c).1, if (l_pu a b (k + 1) c).2 then O ++ [i] else O) := rfl
    by_cases w1 : l_dn b k c = true
    · rw [e1, if_pos (by rw [e0, w1]; rfl), l_pl_dn (x := (c, O)) w1]
      exact ⟨rfl, fun _ _ => rfl⟩
    · by_cases w2 : b k ≤ c k
      · rw [e1, if_pos (by rw [e0]; simp [w2]), show b k - c k = 0 by omega]
        simp [l_pl]
      · have w3 : ¬ l_dn b (k + 1) c = true := by rw [e0]; simp [w1, w2]
        rw [e1, if_neg w3]
        have ep : l_pu a b (k + 1) c = if a k ≤ c k then l_pu a b k (l_up c k (c k + 1)) else (l_up c k (c k + 1), false) := by
          show (if c k < b k then _ else _) = _
          rw [if_pos (by omega)]
        obtain ⟨B, hB⟩ : ∃ B, b k - c k = B + 1 := ⟨b k - c k - 1, by omega⟩
        by_cases w4 : a k ≤ c k
        · rw [ep, if_pos w4, hB, show a k - c k = 0 by omega, List.take_succ_cons, List.drop_zero]
          have e2 : l_pl a b k (i :: r.take B) (c, O) = l_pl a b k (r.take B) ((l_pu a b k c).1, if (l_pu a b k c).2 then O ++ [i] else O) := by
            show (if l_dn b k c = true then _ else _) = _
            rw [if_neg w1]
          rw [e2]
          obtain ⟨f1, f2⟩ := l_pu_c (a := a) (b := b) (k := k) (c := l_up c k (c k + 1)) (d := c) (fun j hj => l_up_ne _ (by omega))
          have f3 := l_pu_hi (a := a) (b := b) k (l_up c k (c k + 1)) k (Nat.le_refl _)
          rw [l_up_same] at f3
          obtain ⟨g1, g2⟩ := ih (l_pu a b k (l_up c k (c k + 1))).1 (if (l_pu a b k (l_up c k (c k + 1))).2 then O ++ [i] else O)
          rw [f3, show b k - (c k + 1) = B by omega, show a k - (c k + 1) = 0 by omega, List.drop_zero] at g1 g2
          obtain ⟨q1, q2⟩ := l_pl_c (a := a) (b := b) (r.take B) (if (l_pu a b k c).2 then O ++ [i] else O) f2
          rw [f1] at g1 g2 ⊢
          exact ⟨g1.trans q1, fun j hj => (g2 j hj).trans (q2 j hj)⟩
        · obtain ⟨A, hA⟩ : ∃ A, a k - c k = A + 1 := ⟨a k - c k - 1, by omega⟩
          rw [ep, if_neg w4, hB, hA, List.take_succ_cons, List.drop_succ_cons]
          have g := ih (l_up c k (c k + 1)) O
          rw [l_up_same, show b k - (c k + 1) = B by omega, show a k - (c k + 1) = A by omega] at g
          obtain ⟨q1, q2⟩ := l_pl_c (a := a) (b := b) (k := k) ((r.take B).drop A) O (c := l_up c k (c k + 1)) (d := c) (fun j hj => l_up_ne _ (by omega))
          exact ⟨g.1.trans q1, fun j hj => (g.2 j hj).trans (q2 j hj)⟩
end LC
section LD
variable {t : r_T} {s : sA}
/-- logOf: the newest log that stood as of m -/
theorem ri_logOf_7 (m : Int32) {L : Nat} (hL : L ≤ 1200) (hb : ∀ l, l < L → r_lg (t.2 12 l) l) : ∀ (l : Nat) (x : Int32) (n N : Nat), l ≤ L → r_lg x l → l < n → l < N → fn_X12_logOf_7 N m x t = some (r_log t m n x, t) := by
  intro l
  induction l using Nat.strongRecOn with
  | ind l ih =>
    intro x n N hl hx hn hN
    obtain ⟨N, rfl⟩ : ∃ m, N = m + 1 := ⟨N - 1, by omega⟩
    obtain ⟨n, rfl⟩ : ∃ m, n = m + 1 := ⟨n - 1, by omega⟩
    show fn_X12_logOf_7b (fn_X12_logOf_7 N) _ _ _ = _
    have e : r_log t m (n + 1) x = if x < 0 then x else if t.2 13 (h_ix x) ≤ m then x else r_log t m n (t.2 12 (h_ix x)) := rfl
    unfold fn_X12_logOf_7b
    rcases hx with hx | ⟨y, hy, hx⟩
    · have c : x < 0 := by rw [hx]; decide
      rw [fg_if_1 c, e, if_pos c]
    · have c : ¬ x < 0 := by rw [hx]; exact n_neg (by omega)
      have ix : h_ix x = y := by rw [hx]; exact q_nIx (by omega)
      have vp : vp_in x 1200 := by rw [hx]; exact (n_vp (by omega)).mpr (by omega)
      rw [fg_if_0 c, fg_g_1 vp, e, if_neg c, ix]
      by_cases c2 : t.2 13 y ≤ m
      · rw [fg_if_1 c2, if_pos c2]
      · rw [fg_if_0 c2, if_neg c2, fg_g_1 vp]
        exact ih y hy _ n N (by omega) (hb y (by omega)) (by omega) (by omega)
theorem ri_logOf (h : RW t s) (v : ivc s) {w m : Nat} (hw : w < 12) : fn_X12_logOf (nI w) (nI m) t = some (r_log t (nI m) 1200 (t.2 11 w), t) := by
  obtain ⟨L, P, a1, a2, a3, a4, a5, a6, a7⟩ := h
  have := v.1
  unfold fn_X12_logOf
  rw [fg_g_1 ((n_vp (by omega)).mpr (by omega)), q_nIx (by omega)]
  exact ri_logOf_7 (L := L) _ (by omega) (fun l hl => (a6 l hl).1) L _ 1200 g_N (Nat.le_refl _) (a5 w hw) (by omega) (by have := g_N_le; omega)
/-- the log that is found is one -/
theorem r_log_lg {m : Int32} {L : Nat} (hb : ∀ l, l < L → r_lg (t.2 12 l) l) : ∀ (n : Nat) (x : Int32), r_lg x L → r_lg (r_log t m n x) L := by
  intro n
  induction n with
  | zero => intro x _; exact Or.inl rfl
  | succ n ih =>
    intro x hx
    unfold r_log
    by_cases c : x < 0
    · rw [if_pos c]; exact hx
    · rw [if_neg c]
      by_cases c2 : t.2 13 (h_ix x) ≤ m
      · rw [if_pos c2]; exact hx
      · rw [if_neg c2]
        rcases hx with hx | ⟨y, hy, hx⟩
        · exact absurd (by rw [hx]; decide) c
        · apply ih
          rw [hx]
          by_cases hy2 : y < 2 ^ 31
          · rw [q_nIx hy2]
            rcases hb y hy with e | ⟨z, hz, e⟩
            · exact Or.inl e
            · exact Or.inr ⟨z, by omega, e⟩
          · by_cases hc : h_ix (nI y) < L
            · rcases hb _ hc with e | ⟨z, hz, e⟩
              · exact Or.inl e
              · exact Or.inr ⟨z, by omega, e⟩
            · have := n_ixlt (nI y); omega
end LD
