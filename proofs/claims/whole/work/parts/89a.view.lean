/-! view, read -/
def s_gv (s : sA) (v : Nat) (m : Int32) : Prop := ¬ sF s 58 v = -9 ∧ sF s 58 v ≤ m ∧ (sF s 59 v = -9 ∨ m < sF s 59 v)
def s_opn (s : sA) (h : Int32) (v : Nat) (m : Int32) : Prop := sF s 9 (h_ix (sF s 56 v)) = h ∨ (s_gv s v m ∧ ¬ s_whyOf s h (sF s 56 v) 0 m = -9)
def s_isr (s : sA) (h x m : Int32) : Prop := ¬ x = -7 ∧ ¬ s_whyOf s h (sF s 25 (h_ix x)) 0 m = -9
noncomputable def s_view (s : sA) (h v i m : Int32) : Int32 × sA := (fg_if (q_in h (sC s 1) ∧ q_in v (sC s 4) ∧ q_in i (s_vs s (h_ix v)).length ∧ q_in m ((sC s 0 : Nat) + 1)) (fg_if (sF s 57 (h_ix v) ≤ m) (fg_if (s_opn s h (h_ix v) m ∧ s_isr s h ((s_vs s (h_ix v))[h_ix i]?.getD 0) m) ((s_vs s (h_ix v))[h_ix i]?.getD 0) (-7)) (-3)) (-1), s)
/-- what is owed for a word of the hand b, shown by the hand o, read by h -/
noncomputable def s_owe (S : sA) (h o b : Int32) : sA := fg_if (o = b ∨ o = h) (uF S 104 (8 * h_ix h + h_ix b) (sF S 104 (8 * h_ix h + h_ix b) + sN S 2)) (uF (uF S 104 (8 * h_ix h + h_ix o) (sF S 104 (8 * h_ix h + h_ix o) + sN S 2 * sN S 3 / 10)) 104 (8 * h_ix h + h_ix b) (sF S 104 (8 * h_ix h + h_ix b) + (sN S 2 - sN S 2 * sN S 3 / 10)))
noncomputable def s_rl (s : sA) (h o : Int32) : List Int32 → sA × Nat × Int32 → sA × Nat × Int32
  | [], z => z
  | x :: l, z => s_rl s h o l (fg_if (s_isr s h x (nI (sC s 0))) (fg_if (sF s 24 (h_ix x) = h) (z.1, z.2.1 + 1, z.2.2) (s_owe z.1 h o (sF s 24 (h_ix x)), z.2.1 + 1, z.2.2 + sN s 2)) z)
noncomputable def s_rlo (s : sA) (h : Int32) (v : Nat) : sA × Nat × Int32 := fg_if (s_opn s h v (nI (sC s 0))) (s_rl s h (sF s 9 (h_ix (sF s 56 v))) (s_vs s v) (s, 0, 0)) (s, 0, 0)
noncomputable def s_read (s : sA) (h v : Int32) : Int32 × sA := fg_if (q_in h (sC s 1) ∧ q_in v (sC s 4)) (fg_if ((s_rlo s h (h_ix v)).2.1 = 0) (-3, s) ((s_rlo s h (h_ix v)).2.2, s_act (s_rlo s h (h_ix v)).1 (s_rlo s h (h_ix v)).2.2)) (-1, s)
/-- price, share -/
def ivn (s : sA) : Prop := (∃ p, p ≤ 99 ∧ sN s 2 = nI p) ∧ (∃ q, q ≤ 10 ∧ sN s 3 = nI q)
/-- writings' hands -/
def ivo (s : sA) : Prop := ∀ w, w < sC s 2 → ∃ h, h < sC s 1 ∧ sF s 9 w = nI h
section SV
variable {s : sA}
/-- what is shown: words that there are, gaps -/
theorem s_sh_w (vx : ivx s) : ∀ (f w m : Nat) (x : Int32), x ∈ s_sh (sR s) f w m → x = -7 ∨ ∃ z, z < sC s 3 ∧ x = nI z := by
  have hw : ∀ p : sP, s_pk s p → p.1 < 2 → ∀ x, x ∈ s_ws p.2.1 (h_ix p.2.2.1) → x = -7 ∨ ∃ z, z < sC s 3 ∧ x = nI z := by
    intro p hp c x hx
    obtain ⟨⟨_, ⟨n, _, hn, en⟩, ⟨a, ha, ea⟩, _⟩, h6⟩ := hp
    unfold s_ws at hx
    obtain ⟨i, hi, e⟩ := List.mem_map.mp hx
    have hi := List.mem_range.mp hi
    have := h6 c
    rw [en, q_nIx (by omega)] at hi
    rw [ea, en, q_nIx (by omega), q_nIx (by omega)] at this
    exact Or.inr ⟨a + i, by omega, by rw [← e, ea, n_add]⟩
  intro f
  induction f with
  | zero =>
    intro w m x hx
    unfold s_sh at hx
    obtain ⟨p, hp, hx⟩ := List.mem_flatMap.mp (List.mem_of_mem_take hx)
    by_cases c : p.1 < 2
    · rw [if_pos c] at hx; exact hw p (vx w m p hp) c x hx
    · rw [if_neg c, List.mem_singleton] at hx; exact Or.inl hx
  | succ f ih =>
    intro w m x hx
    unfold s_sh at hx
    obtain ⟨p, hp, hx⟩ := List.mem_flatMap.mp (List.mem_of_mem_take hx)
    by_cases c : p.1 < 2
    · rw [if_pos c] at hx; exact hw p (vx w m p hp) c x hx
    · rw [if_neg c] at hx
      exact ih _ _ x (List.mem_of_mem_drop (List.mem_of_mem_take hx))
theorem s_vs_w (vx : ivx s) {v : Nat} {x : Int32} (h : x ∈ s_vs s v) : x = -7 ∨ ∃ z, z < sC s 3 ∧ x = nI z := s_sh_w vx _ _ _ x h
theorem nI_n7 {z : Nat} (hz : z < 2 ^ 31) : ¬ nI z = -7 := fun w => by
  have := congrArg Int32.toInt w
  rw [q_nI hz] at this
  have e1 : (-7 : Int32).toInt = -7 := rfl
  omega
theorem s_whr_104 {S : sA} (i : Nat) (x : Int32) (h w u m : Int32) : ∀ n j, s_whr (uF S 104 i x) h w u m n j = s_whr S h w u m n j := by
  intro n
  induction n with
  | zero => intro j; rfl
  | succ n ih =>
    intro j
    unfold s_whr
    rw [ih]
    have e : ∀ z, z ≠ 104 → ∀ a, sF (uF S 104 i x) z a = sF S z a := fun z hz a => by rw [sF_uF, if_neg hz]
    unfold s_mine s_hold
    rw [e 90 (by decide), e 91 (by decide), e 92 (by decide), e 93 (by decide), e 94 (by decide), e 96 (by decide), e 97 (by decide), sG_uF]
theorem s_whyOf_104 {S : sA} (i : Nat) (x : Int32) (h w u m : Int32) : s_whyOf (uF S 104 i x) h w u m = s_whyOf S h w u m := by
  unfold s_whyOf
  rw [s_whr_104, sF_uF, if_neg (by decide)]
  rfl
/-- S differs from s in debts alone -/
def s_dbt (s S : sA) : Prop := S.1 = s.1 ∧ S.2.1 = s.2.1 ∧ S.2.2.2 = s.2.2.2 ∧ ∀ k, k ≠ 104 → sF S k = sF s k
theorem s_dbt0 : s_dbt s s := ⟨rfl, rfl, rfl, fun _ _ => rfl⟩
theorem s_dbtu {S : sA} (h : s_dbt s S) (i : Nat) (x : Int32) : s_dbt s (uF S 104 i x) := ⟨h.1, h.2.1, h.2.2.1, fun k hk => by funext a; rw [sF_uF, if_neg hk, h.2.2.2 k hk]⟩
theorem s_dbt_why {S : sA} (h : s_dbt s S) (a w u m : Int32) : s_whyOf S a w u m = s_whyOf s a w u m := by
  have hr : ∀ n j, s_whr S a w u m n j = s_whr s a w u m n j := by
    intro n
    induction n with
    | zero => intro j; rfl
    | succ n ih =>
      intro j
      unfold s_whr s_mine s_hold
      rw [ih, h.2.2.2 90 (by decide), h.2.2.2 91 (by decide), h.2.2.2 92 (by decide), h.2.2.2 93 (by decide), h.2.2.2 94 (by decide), h.2.2.2 96 (by decide), h.2.2.2 97 (by decide)]
      have : sG S = sG s := by unfold sG; rw [h.2.2.1]
      rw [this]
  unfold s_whyOf
  rw [hr, h.2.2.2 9 (by decide)]
  have : sC S 6 = sC s 6 := by unfold sC; rw [h.1]
  rw [this]
theorem s_dbt_owe {S : sA} (h : s_dbt s S) (a o b : Int32) : s_dbt s (s_owe S a o b) := by
  unfold s_owe
  by_cases c : o = b ∨ o = a
  · rw [fg_if_1 c]; exact s_dbtu h _ _
  · rw [fg_if_0 c]; exact s_dbtu (s_dbtu h _ _) _ _
theorem i_dd (d x p : Int32) : d + x + (p - x) = d + p := by
  rw [Int32.add_assoc, Int32.sub_eq_add_neg, Int32.add_comm p, ← Int32.add_assoc x, Int32.add_right_neg, Int32.zero_add]
theorem s_rl_0 (h o : Int32) : ∀ (l : List Int32) (z : sA × Nat × Int32), z.2.1 ≤ (s_rl s h o l z).2.1 ∧ ((s_rl s h o l z).2.1 = z.2.1 → s_rl s h o l z = z) := by
  intro l
  induction l with
  | nil => intro z; exact ⟨Nat.le_refl _, fun _ => rfl⟩
  | cons x l ih =>
    intro z
    unfold s_rl
    by_cases c : s_isr s h x (nI (sC s 0))
    · rw [fg_if_1 c]
      by_cases c2 : sF s 24 (h_ix x) = h
      · rw [fg_if_1 c2]
        have := (ih (z.1, z.2.1 + 1, z.2.2)).1
        have q : z.2.1 + 1 ≤ (s_rl s h o l (z.1, z.2.1 + 1, z.2.2)).2.1 := this
        exact ⟨by omega, fun e => by omega⟩
      · rw [fg_if_0 c2]
        have := (ih (s_owe z.1 h o (sF s 24 (h_ix x)), z.2.1 + 1, z.2.2 + sN s 2)).1
        have q : z.2.1 + 1 ≤ (s_rl s h o l (s_owe z.1 h o (sF s 24 (h_ix x)), z.2.1 + 1, z.2.2 + sN s 2)).2.1 := this
        exact ⟨by omega, fun e => by omega⟩
    · rw [fg_if_0 c]
      exact ih z
end SV
section RVw
variable {t T : r_T} {s : sA}
theorem ri_isOpen (h : RA t s) (v : ivc s) (vr : ivr s) (vv : ivv s) {x m : Nat} (hx : x < sC s 4) (hm : m < 2 ^ 31) (a : Int32) : fn_X12_isOpen a (nI x) (nI m) t = some (q_b (s_opn s a x (nI m)), t) := by
  have v4 := v.2.2.2.2.1
  have v2 := v.2.2.1
  have g1 : vp_in (nI x) 16 := (n_vp (by omega)).mpr (by omega)
  obtain ⟨⟨w, z, hw, hz, e1, e2⟩, m1, m2, m3⟩ := vv x hx
  unfold fn_X12_isOpen
  rw [fg_g_1 g1, fg_g_1 g1, fg_g_1 g1, fg_g_1 g1, fg_g_1 g1, q_nIx (by omega), h.2.1 58 rfl, h.2.1 59 rfl, h.2.1 56 rfl, e1]
  have e51 : ∀ (p : Prop), fn_X12_isOpen_51 a (nI m) (nI w) (q_b p) t = some (q_b (sF s 9 w = a ∨ (p ∧ ¬ s_whyOf s a (nI w) 0 (nI m) = -9)), t) := by
    intro p
    unfold fn_X12_isOpen_51
    rw [fg_g_1 ((n_vp (by omega)).mpr (by omega)), q_nIx (by omega), h.2.1 9 rfl]
    by_cases c1 : sF s 9 w = a
    · rw [fg_if_1 c1, q_b1 (Or.inl c1)]
    · rw [fg_if_0 c1, q_b_if]
      by_cases c2 : p
      · have hy := ri_whyOf h v vr a 0 (w := w) (m := m) (by omega) hm
        rw [fg_if_1 c2, hy, fg_b_1]
        by_cases c3 : s_whyOf s a (nI w) 0 (nI m) = -9
        · rw [fg_if_1 c3, q_b0 (fun q => by
            rcases q with q | q
            · exact c1 q
            · exact q.2 c3)]
        · rw [fg_if_0 c3, q_b1 (Or.inr ⟨c2, c3⟩)]
      · rw [fg_if_0 c2, q_b0 (fun q => by
          rcases q with q | q
          · exact c1 q
          · exact c2 q.1)]
  have e50 : fn_X12_isOpen_50 a (nI m) (nI w) t = some (q_b (sF s 9 w = a ∨ (False ∧ ¬ s_whyOf s a (nI w) 0 (nI m) = -9)), t) := by
    have := e51 False
    rw [q_b0 id] at this
    exact this
  have e46 : fn_X12_isOpen_46 a (nI m) (nI w) t = some (q_b (sF s 9 w = a ∨ (True ∧ ¬ s_whyOf s a (nI w) 0 (nI m) = -9)), t) := by
    have := e51 True
    rw [q_b1 trivial] at this
    exact this
  have fin : ∀ p : Prop, (p ↔ s_gv s x (nI m)) → (some (q_b (sF s 9 w = a ∨ (p ∧ ¬ s_whyOf s a (nI w) 0 (nI m) = -9)), t) : Option (Int32 × r_T)) = some (q_b (s_opn s a x (nI m)), t) := by
    intro p hp
    unfold s_opn
    rw [e1, q_nIx (by omega), propext hp]
  rw [e50, e46]
  by_cases c1 : sF s 58 x = -9
  · rw [fg_if_1 ((s_mn0 m1).mpr c1)]
    exact fin False ⟨fun q => q.elim, fun q => q.1 c1⟩
  · rw [fg_if_0 (fun q => c1 ((s_mn0 m1).mp q))]
    by_cases c2 : nI m < sF s 58 x
    · rw [fg_if_1 c2]
      exact fin False ⟨fun q => q.elim, fun q => Int32.not_le.mpr c2 q.2.1⟩
    · rw [fg_if_0 c2]
      by_cases c3 : sF s 59 x = -9
      · rw [fg_if_1 ((s_mn0 m2).mpr c3)]
        exact fin True ⟨fun _ => ⟨c1, Int32.not_lt.mp c2, Or.inl c3⟩, fun _ => trivial⟩
      · rw [fg_if_0 (fun q => c3 ((s_mn0 m2).mp q))]
        by_cases c4 : sF s 59 x ≤ nI m
        · rw [fg_if_1 c4]
          exact fin False ⟨fun q => q.elim, fun q => by
            rcases q.2.2 with r | r
            · exact c3 r
            · exact Int32.not_le.mpr r c4⟩
        · rw [fg_if_0 c4]
          exact fin True ⟨fun _ => ⟨c1, Int32.not_lt.mp c2, Or.inr (Int32.not_le.mp c4)⟩, fun _ => trivial⟩
theorem ri_isRead (h : RA t s) (v : ivc s) (vr : ivr s) (vd : ivd s) {m : Nat} (hm : m < 2 ^ 31) (a : Int32) {x : Int32} (hx : x = -7 ∨ ∃ z, z < sC s 3 ∧ x = nI z) : fn_X12_isRead a x (nI m) t = some (q_b (s_isr s a x (nI m)), t) := by
  have v3 := v.2.2.2.1
  have v2 := v.2.2.1
  unfold fn_X12_isRead s_isr
  rcases hx with e | ⟨z, hz, e⟩
  · rw [fg_if_1 e, q_b0 (fun q => q.1 e)]
  · obtain ⟨⟨w, hw, ew⟩, _⟩ := vd z hz
    rw [e, fg_if_0 (nI_n7 (by omega)), fg_g_1 ((n_vp (by omega)).mpr (by omega)), q_nIx (by omega), h.2.1 25 rfl, ew]
    have hy := ri_whyOf h v vr a 0 (w := w) (m := m) (by omega) hm
    rw [hy, fg_b_1]
    by_cases c : s_whyOf s a (nI w) 0 (nI m) = -9
    · rw [fg_if_1 c, q_b0 (fun q => q.2 c)]
    · rw [fg_if_0 c, q_b1 ⟨nI_n7 (by omega), c⟩]
theorem rs_view (h : RA t s) (v : ivc s) (vp : ivp s) (vr : ivr s) (vv : ivv s) (vd : ivd s) (vx : ivx s) (a x i m : Int32) : ∃ t2, fn_X12_view a x i m t = some ((s_view s a x i m).1, t2) ∧ RA t2 (s_view s a x i m).2 := by
  have v4 := v.2.2.2.2.1
  have v0 := v.1
  unfold fn_X12_view s_view
  have eno : ∀ (p : Prop) (T : r_T), RA T s → ¬ (q_in a (sC s 1) ∧ q_in x (sC s 4) ∧ q_in i (s_vs s (h_ix x)).length ∧ q_in m ((sC s 0 : Nat) + 1)) → ∃ t2, some ((-1 : Int32), T) = some ((fg_if (q_in a (sC s 1) ∧ q_in x (sC s 4) ∧ q_in i (s_vs s (h_ix x)).length ∧ q_in m ((sC s 0 : Nat) + 1)) (fg_if (sF s 57 (h_ix x) ≤ m) (fg_if (s_opn s a (h_ix x) m ∧ s_isr s a ((s_vs s (h_ix x))[h_ix i]?.getD 0) m) ((s_vs s (h_ix x))[h_ix i]?.getD 0) (-7)) (-3)) (-1 : Int32)), t2) ∧ RA t2 s := by
    intro _ T hT c
    rw [fg_if_0 c]
    exact ⟨T, rfl, hT⟩
  rw [ri_noHand h v, fg_b_1, q_bn_if]
  by_cases c1 : q_in a (sC s 1)
  · rw [fg_if_1 c1, ri_noVersion h v, fg_b_1, q_bn_if]
    by_cases c2 : q_in x (sC s 4)
    · rw [fg_if_1 c2, ri_noMoment h v, fg_b_1, q_bn_if]
      by_cases c3 : q_in m ((sC s 0 : Nat) + 1)
      · obtain ⟨e1, l1⟩ := n_in c2
        obtain ⟨e2, l2⟩ := n_in (n := sC s 0 + 1) c3
        obtain ⟨t2, w, z, f1, f2, f3, f4, f5⟩ := ri_layVersion h v vp vv l1
        rw [← e1] at f1
        have hl := s_sh_300 (sR s) 4 w z
        rw [fg_if_1 c3, f1, fg_b_1, f3, ← f2, ri_in, q_bc (q_in0n (by rw [f2]; omega)), fg_b_1, q_b_if]
        by_cases c4 : q_in i (s_vs s (h_ix x)).length
        · have c : q_in a (sC s 1) ∧ q_in x (sC s 4) ∧ q_in i (s_vs s (h_ix x)).length ∧ q_in m ((sC s 0 : Nat) + 1) := ⟨c1, c2, c4, c3⟩
          obtain ⟨e3, l3⟩ := n_in c4
          have hg := List.getElem?_eq_getElem l3
          have g1 : vp_in x 16 := by rw [e1]; exact (n_vp (by omega)).mpr (by omega)
          have g3 : vp_in i 300 := by rw [e3]; exact (n_vp (by rw [f2] at l3; omega)).mpr (by rw [f2] at l3; omega)
          rw [fg_if_1 c4, fg_if_1 c, fg_g_1 g1, f5.2.1 57 rfl]
          refine ⟨t2, ?_, f5⟩
          by_cases c5 : sF s 57 (h_ix x) ≤ m
          · have ew : t2.2 36 (h_ix i) = (s_vs s (h_ix x))[h_ix i] := l_out_w f4 (by rw [← f2]; exact hg)
            have ho := ri_isOpen f5 v vr vv l1 (m := h_ix m) (n_ixlt m) a
            rw [← e1, ← e2] at ho
            have hr := ri_isRead f5 v vr vd (m := h_ix m) (n_ixlt m) a (s_vs_w vx (List.getElem_mem l3))
            rw [← e2] at hr
            rw [fg_if_1 c5, fg_if_1 c5, fg_g_1 g3, ho, fg_b_1, q_b_if, ew, hr, fg_b_1, q_b_if, hg]
            show _ = some (fg_if (s_opn s a (h_ix x) m ∧ s_isr s a (s_vs s (h_ix x))[h_ix i] m) (s_vs s (h_ix x))[h_ix i] (-7), t2)
            by_cases c6 : s_opn s a (h_ix x) m
            · rw [fg_if_1 c6]
              by_cases c7 : s_isr s a (s_vs s (h_ix x))[h_ix i] m
              · rw [fg_if_1 c7, fg_if_1 ⟨c6, c7⟩]
              · rw [fg_if_0 c7, fg_if_0 (fun q => c7 q.2)]
            · rw [fg_if_0 c6, fg_if_0 (fun q => c6 q.1)]
          · rw [fg_if_0 c5, fg_if_0 c5]
        · rw [fg_if_0 c4]
          exact eno True t2 f5 (fun q => c4 q.2.2.1)
      · rw [fg_if_0 c3]
        exact eno True t h (fun q => c3 q.2.2.2)
    · rw [fg_if_0 c2]
      exact eno True t h (fun q => c2 q.2.1)
  · rw [fg_if_0 c1]
    exact eno True t h (fun q => c1 q.1)
theorem ri_read_56 {a : Int32} (v : ivc s) (vr : ivr s) (vd : ivd s) (vn : ivn s) (va : q_in a (sC s 1)) {o : Nat} (ho : o < 8) {l : List Int32} (hl : l.length ≤ 300) (hw : ∀ x, x ∈ l → x = -7 ∨ ∃ z, z < sC s 3 ∧ x = nI z) : ∀ (d j N : Nat) (T : r_T) (S : sA) (c : Nat) (u : Int32), j + d = l.length → d < N → c ≤ j → RA T S → s_dbt s S → T.1 35 = nI l.length → (∀ i x, l[i]? = some x → T.2 36 i = x) → ∃ T2, fn_X12_read_56 N a 1 (nI o) (nI c) u (nI j) T = some ((fg_if ((s_rl s a (nI o) (l.drop j) (S, c, u)).2.1 = 0) (-3 : Int32) (s_rl s a (nI o) (l.drop j) (S, c, u)).2.2), T2) ∧ ((s_rl s a (nI o) (l.drop j) (S, c, u)).2.1 = 0 → RA T2 (s_rl s a (nI o) (l.drop j) (S, c, u)).1) ∧ (¬ (s_rl s a (nI o) (l.drop j) (S, c, u)).2.1 = 0 → RA T2 (s_act (s_rl s a (nI o) (l.drop j) (S, c, u)).1 (s_rl s a (nI o) (l.drop j) (S, c, u)).2.2)) ∧ s_dbt s (s_rl s a (nI o) (l.drop j) (S, c, u)).1 := by
  have v1 := v.2.1
  obtain ⟨ea, la⟩ := n_in va
  have cS : ∀ {S : sA}, s_dbt s S → ∀ i, sC S i = sC s i := fun h i => by unfold sC; rw [h.1]
  have nS : ∀ {S : sA}, s_dbt s S → ∀ i, sN S i = sN s i := fun h i => by unfold sN; rw [h.2.1]
  have vS : ∀ {S : sA}, s_dbt s S → ivc S := fun h => by unfold ivc; simp only [cS h]; exact v
  intro d
  induction d with
  | zero =>
    intro j N T S c u hj hN hc hT hS h35 h36
    obtain ⟨N, rfl⟩ : ∃ m, N = m + 1 := ⟨N - 1, by omega⟩
    rw [List.drop_eq_nil_of_le (by omega)]
    show ∃ T2, fn_X12_read_56b _ _ _ _ _ _ _ _ = some (fg_if (c = 0) (-3 : Int32) u, T2) ∧ (c = 0 → RA T2 S) ∧ (¬ c = 0 → RA T2 (s_act S u)) ∧ s_dbt s S
    unfold fn_X12_read_56b fn_X12_read_196
    rw [h35, fg_if_1 ((n_le (by omega) (by omega)).mpr (by omega))]
    by_cases c0 : c = 0
    · rw [fg_if_1 (show nI c = 0 by rw [c0]; rfl), fg_if_1 c0]
      exact ⟨T, rfl, fun _ => hT, fun q => absurd c0 q, hS⟩
    · rw [fg_if_0 (show ¬ nI c = 0 from fun q => c0 ((n_eq (b := 0) (by omega) (by omega)).mp q)), fg_if_0 c0, ri_acted hT (vS hS), fg_b_1]
      exact ⟨_, rfl, fun q => absurd q c0, fun _ => rs_act hT u, hS⟩
  | succ d ih =>
    intro j N T S c u hj hN hc hT hS h35 h36
    obtain ⟨N, rfl⟩ : ∃ m, N = m + 1 := ⟨N - 1, by omega⟩
    have hj2 : j < l.length := by omega
    have hg := List.getElem?_eq_getElem hj2
    have e36 := h36 j _ hg
    have hx := hw l[j] (List.getElem_mem hj2)
    rw [List.drop_eq_getElem_cons hj2]
    show ∃ T2, fn_X12_read_56b (fn_X12_read_56 N) _ _ _ _ _ _ _ = _ ∧ _
    unfold fn_X12_read_56b s_rl
    have vrS : ivr S := fun r hr => by rw [cS hS] at hr; rw [hS.2.2.2 91 (by decide)]; exact vr r hr
    have vdS : ivd S := fun z hz => by rw [cS hS] at hz; rw [cS hS, cS hS, hS.2.2.2 25 (by decide), hS.2.2.2 24 (by decide)]; exact vd z hz
    have hr := ri_isRead hT (vS hS) vrS vdS (m := sC s 0) (by have := v.1; omega) a (x := l[j]) (by rw [cS hS]; exact hx)
    have er : s_isr S a l[j] (nI (sC s 0)) ↔ s_isr s a l[j] (nI (sC s 0)) := by
      unfold s_isr
      rw [s_dbt_why hS, hS.2.2.2 25 (by decide)]
    rw [q_bc er] at hr
    rw [h35, fg_if_0 (fun z => by have := (n_le (a := l.length) (b := j) (by omega) (by omega)).mp z; omega), fg_if_0 (by decide), fg_g_1 ((n_vp (by omega)).mpr (by omega)), q_nIx (by omega), e36, hT.1.1, cS hS, hr, fg_b_1, q_b_if, n_p1, n_p1]
    by_cases c1 : s_isr s a l[j] (nI (sC s 0))
    · rw [fg_if_1 c1, fg_if_1 c1]
      obtain ⟨z, hz, ez⟩ := hx.resolve_left c1.1
      obtain ⟨_, b, hb, eb⟩ := vd z hz
      have v3 := v.2.2.2.1
      have g5 : vp_in l[j] 500 := by rw [ez]; exact (n_vp (by omega)).mpr (by omega)
      rw [fg_g_1 g5, fg_let_1, hT.2.1 24 rfl, hS.2.2.2 24 (by decide), ez, q_nIx (by omega), eb]
      by_cases c2 : nI b = a
      · rw [fg_if_1 c2, fg_if_1 c2]
        exact ih (j + 1) N T S (c + 1) u (by omega) (by omega) (by omega) hT hS h35 h36
      · rw [fg_if_0 c2, fg_if_0 c2, fg_let_1, hT.1.2.2.2.2.2.2.2.2.2.2.2.1, hT.1.2.2.2.2.2.2.2.2.2.2.2.2, nS hS, nS hS]
        have e8b : (8 : Int32) * a + nI b = nI (8 * h_ix a + b) := by rw [show (8 : Int32) * a + nI b = nI 8 * nI (h_ix a) + nI b by rw [← ea]; rfl, n_mul, n_add]
        have e8o : (8 : Int32) * a + nI o = nI (8 * h_ix a + o) := by rw [show (8 : Int32) * a + nI o = nI 8 * nI (h_ix a) + nI o by rw [← ea]; rfl, n_mul, n_add]
        have gb : vp_in (nI (8 * h_ix a + b)) 64 := (n_vp (by omega)).mpr (by omega)
        have go : vp_in (nI (8 * h_ix a + o)) 64 := (n_vp (by omega)).mpr (by omega)
        have e102 : ∀ (X : r_T) (i : Nat) (w : Int32), (rt_A X 104 i w).1 102 = X.1 102 := fun _ _ _ => rfl
        have s102 : T.1 102 = sN s 2 := by rw [hT.1.2.2.2.2.2.2.2.2.2.2.2.1, nS hS]
        have e152 : ∀ (q r : Nat) (w : Int32), q < 64 → r < 64 → fn_X12_read_152 (fn_X12_read_56 N) a 1 (nI o) (nI (c + 1)) u (nI j) (nI b) w (nI b) (8 * a) T = fn_X12_read_152 (fn_X12_read_56 N) a 1 (nI o) (nI (c + 1)) u (nI j) (nI b) w (nI b) (8 * a) T := fun _ _ _ _ _ => rfl
        have f104 : ∀ i, T.2 104 i = sF S 104 i := hT.2.1 104 rfl
        by_cases c3 : o = b ∨ nI o = a
        · -- to the writer alone
          have cs : nI o = nI b ∨ nI o = a := by
            rcases c3 with q | q
            · exact Or.inl (by rw [q])
            · exact Or.inr q
          have eF : fg_if (nI o = nI b) (fn_X12_read_150 (fn_X12_read_56 N) a 1 (nI o) (nI (c + 1)) u (nI j) (nI b) (sN s 2 * sN s 3 / 10) (8 * a) T) (fg_if (nI o = a) (fn_X12_read_150 (fn_X12_read_56 N) a 1 (nI o) (nI (c + 1)) u (nI j) (nI b) (sN s 2 * sN s 3 / 10) (8 * a) T) (fn_X12_read_152 (fn_X12_read_56 N) a 1 (nI o) (nI (c + 1)) u (nI j) (nI b) (sN s 2 * sN s 3 / 10) (nI o) (8 * a) T)) = fn_X12_read_150 (fn_X12_read_56 N) a 1 (nI o) (nI (c + 1)) u (nI j) (nI b) (sN s 2 * sN s 3 / 10) (8 * a) T := by
            by_cases q : nI o = nI b
            · rw [fg_if_1 q]
            · rw [fg_if_0 q, fg_if_1 (cs.resolve_left q)]
          rw [eF]
          unfold fn_X12_read_150 fn_X12_read_152
          rw [e8b, fg_g_1 gb, fg_g_1 gb, fg_let_1, fg_g_1 gb, fg_g_1 gb, fg_let_1, q_nIx (by omega)]
          simp only [rt_AF, s102, n_p1]
          have eO : s_owe S a (nI o) (nI b) = uF S 104 (8 * h_ix a + b) (sF S 104 (8 * h_ix a + b) + sN s 2) := by
            unfold s_owe
            rw [fg_if_1 cs, q_nIx (by omega), nS hS]
          have eT : rt_A (rt_A T 104 (8 * h_ix a + b) (T.2 104 (8 * h_ix a + b) + sN s 2 * sN s 3 / 10)) 104 (8 * h_ix a + b) ((rt_A T 104 (8 * h_ix a + b) (T.2 104 (8 * h_ix a + b) + sN s 2 * sN s 3 / 10)).2 104 (8 * h_ix a + b) + (sN s 2 - sN s 2 * sN s 3 / 10)) = rt_A T 104 (8 * h_ix a + b) (sF S 104 (8 * h_ix a + b) + sN s 2) := by
            refine rt_ext (fun k => rfl) (fun k i => ?_)
            by_cases q1 : k = 104
            · subst q1
              by_cases q2 : i = 8 * h_ix a + b
              · subst q2
                simp only [rt_AA, if_true, f104, i_dd]
              · simp only [rt_AA, if_true, if_neg q2]
            · simp only [rt_AA, if_neg q1]
          rw [eT, eO]
          exact ih (j + 1) N _ _ (c + 1) (u + sN s 2) (by omega) (by omega) (by omega) (RA_A hT rfl) (s_dbtu hS _ _) h35 h36
        · have n1 : ¬ nI o = nI b := fun q => c3 (Or.inl ((n_eq (by omega) (by omega)).mp q))
          have n2 : ¬ nI o = a := fun q => c3 (Or.inr q)
          rw [fg_if_0 n1, fg_if_0 n2]
          unfold fn_X12_read_152
          rw [e8b, e8o, fg_g_1 go, fg_g_1 go, fg_let_1, fg_g_1 gb, fg_g_1 gb, fg_let_1, q_nIx (by omega), q_nIx (by omega)]
          simp only [rt_AF, s102, n_p1]
          have nb : 8 * h_ix a + b ≠ 8 * h_ix a + o := fun q => c3 (Or.inl (by omega))
          have eO : s_owe S a (nI o) (nI b) = uF (uF S 104 (8 * h_ix a + o) (sF S 104 (8 * h_ix a + o) + sN s 2 * sN s 3 / 10)) 104 (8 * h_ix a + b) (sF S 104 (8 * h_ix a + b) + (sN s 2 - sN s 2 * sN s 3 / 10)) := by
            unfold s_owe
            rw [fg_if_0 (fun q => by
              rcases q with q | q
              · exact n1 q
              · exact n2 q), q_nIx (by omega), q_nIx (by omega), nS hS, nS hS]
          have e2b : (rt_A T 104 (8 * h_ix a + o) (T.2 104 (8 * h_ix a + o) + sN s 2 * sN s 3 / 10)).2 104 (8 * h_ix a + b) = sF S 104 (8 * h_ix a + b) := by rw [rt_AA, if_pos rfl, if_neg nb, f104]
          rw [eO, e2b, f104]
          exact ih (j + 1) N _ _ (c + 1) (u + sN s 2) (by omega) (by omega) (by omega) (RA_A (RA_A hT rfl) rfl) (s_dbtu (s_dbtu hS _ _) _ _) h35 h36
    · rw [fg_if_0 c1, fg_if_0 c1]
      exact ih (j + 1) N T S c u (by omega) (by omega) (by omega) hT hS h35 h36
theorem rs_read (h : RA t s) (v : ivc s) (vp : ivp s) (vr : ivr s) (vv : ivv s) (vd : ivd s) (vx : ivx s) (vn : ivn s) (vo : ivo s) (a x : Int32) : ∃ t2, fn_X12_read a x t = some ((s_read s a x).1, t2) ∧ RA t2 (s_read s a x).2 := by
  have v4 := v.2.2.2.2.1
  have v2 := v.2.2.1
  have v1 := v.2.1
  unfold fn_X12_read s_read
  rw [ri_noHand h v, fg_b_1, q_bn_if]
  by_cases c1 : q_in a (sC s 1)
  · rw [fg_if_1 c1, ri_noVersion h v, fg_b_1, q_bn_if]
    by_cases c2 : q_in x (sC s 4)
    · have c : q_in a (sC s 1) ∧ q_in x (sC s 4) := ⟨c1, c2⟩
      obtain ⟨e1, l1⟩ := n_in c2
      obtain ⟨t2, w, z, f1, f2, f3, f4, f5⟩ := ri_layVersion h v vp vv l1
      rw [← e1] at f1
      have hl := s_vs_300 (s := s) (h_ix x)
      obtain ⟨⟨w2, z2, hw2, hz2, ew, ez⟩, _⟩ := vv _ l1
      obtain ⟨o, ho, eo⟩ := vo w2 hw2
      have g1 : vp_in x 16 := by rw [e1]; exact (n_vp (by omega)).mpr (by omega)
      have ho2 := ri_isOpen f5 v vr vv l1 (m := sC s 0) (by have := v.1; omega) a
      rw [← e1] at ho2
      rw [fg_if_1 c2, f1, fg_b_1, f5.1.1, ho2, fg_b_1, fg_g_1 g1, f5.2.1 56 rfl, ew, fg_g_1 ((n_vp (by omega)).mpr (by omega)), fg_let_1, q_nIx (by omega), f5.2.1 9 rfl, eo]
      simp only [fg_if_1 c]
      unfold s_rlo
      by_cases c3 : s_opn s a (h_ix x) (nI (sC s 0))
      · rw [q_b1 c3]
        simp only [fg_if_1 c3]
        rw [ew, q_nIx (by omega), eo]
        obtain ⟨T2, k1, k2, k3, k4⟩ := ri_read_56 (a := a) v vr vd vn c1 (o := o) (by omega) hl (fun y hy => s_vs_w vx hy) (s_vs s (h_ix x)).length 0 g_N t2 s 0 0 (by omega) (by have := g_N_le; omega) (Nat.le_refl _) f5 s_dbt0 (by rw [f2]; exact f3) (fun i y hy => l_out_w f4 (by rw [← f2]; exact hy))
        rw [List.drop_zero] at k1 k2 k3
        have k1' : fn_X12_read_56 g_N a 1 (nI o) 0 0 0 t2 = _ := k1
        rw [k1']
        have k0 := (s_rl_0 (s := s) a (nI o) (s_vs s (h_ix x)) (s, 0, 0)).2
        generalize s_rl s a (nI o) (s_vs s (h_ix x)) (s, 0, 0) = R at k0 k2 k3 k4
        by_cases c4 : R.2.1 = 0
        · have r1 : RA T2 R.1 := k2 c4
          rw [k0 c4] at r1
          simp only [fg_if_1 c4]
          exact ⟨T2, rfl, r1⟩
        · simp only [fg_if_0 c4]
          exact ⟨T2, rfl, k3 c4⟩
      · rw [q_b0 c3]
        simp only [fg_if_0 c3]
        obtain ⟨N, hN⟩ : ∃ m, g_N = m + 1 := ⟨g_N - 1, by have := g_N_le; omega⟩
        rw [hN]
        refine ⟨t2, ?_, ?_⟩
        · show fn_X12_read_56b _ _ _ _ _ _ _ _ = _
          unfold fn_X12_read_56b fn_X12_read_196
          rw [fg_if_1 (show (0 : Int32) = 0 from rfl), fg_if_1 (show (0 : Int32) = 0 from rfl), fg_if_same, fg_if_T]
        · rw [fg_if_T]; exact f5
    · have c : ¬ (q_in a (sC s 1) ∧ q_in x (sC s 4)) := fun q => c2 q.2
      rw [fg_if_0 c2]
      simp only [fg_if_0 c]
      exact ⟨t, rfl, h⟩
  · have c : ¬ (q_in a (sC s 1) ∧ q_in x (sC s 4)) := fun q => c1 q.1
    rw [fg_if_0 c1]
    simp only [fg_if_0 c]
    exact ⟨t, rfl, h⟩
end RVw
