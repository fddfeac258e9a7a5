section LF
variable {s : sA}
theorem l_pu_ab {a b a2 b2 : Nat → Nat} : ∀ {k : Nat}, (∀ j, j < k → a j = a2 j ∧ b j = b2 j) → ∀ c, l_pu a b k c = l_pu a2 b2 k c := by
  intro k
  induction k with
  | zero => intro _ c; rfl
  | succ k ih =>
    intro h c
    unfold l_pu
    rw [(h k (by omega)).1, (h k (by omega)).2, ih (fun j hj => h j (by omega))]
theorem l_dn_ab {b b2 : Nat → Nat} : ∀ {k : Nat}, (∀ j, j < k → b j = b2 j) → ∀ c, l_dn b k c = l_dn b2 k c := by
  intro k
  induction k with
  | zero => intro _ c; rfl
  | succ k ih =>
    intro h c
    unfold l_dn
    rw [h k (by omega), ih (fun j hj => h j (by omega))]
theorem l_pl_ab {a b a2 b2 : Nat → Nat} {k : Nat} (h : ∀ j, j < k → a j = a2 j ∧ b j = b2 j) : ∀ (I : List lI) (x : (Nat → Nat) × List lI), l_pl a b k I x = l_pl a2 b2 k I x := by
  intro I
  induction I with
  | nil => intro x; rfl
  | cons i r ih =>
    intro x
    unfold l_pl
    rw [l_dn_ab (fun j hj => (h j hj).2), l_pu_ab h, ih]
theorem l_V_ab {L : Nat} {a b c a2 b2 : Nat → Nat} {ws ws2 : Nat → Int32} {g : Nat} {O : List lI} {t : r_T} (h : l_V L a b c ws g O t) (e : ∀ k, k ≤ L → a k = a2 k ∧ b k = b2 k ∧ ws k = ws2 k) : l_V L a2 b2 c ws2 g O t := by
  refine ⟨fun k hk => ?_, h.2⟩
  rw [← (e k hk).1, ← (e k hk).2.1, ← (e k hk).2.2]
  exact h.1 k hk
theorem l_fu_mono (f : Nat) {n m : Nat} (h : n ≤ m) : l_fu f n ≤ l_fu f m := by
  cases f with
  | zero => unfold l_fu; omega
  | succ f => unfold l_fu; exact Nat.succ_le_succ (Nat.mul_le_mul_right _ h)
theorem n_wrap (p : Nat) : nI (p + 4294967295 + 1) = nI p := by
  rw [show p + 4294967295 + 1 = p + 4294967296 by omega, ← n_add, show nI 4294967296 = 0 from rfl, Int32.add_zero]
theorem l_win {α : Type} (l : List α) (A n : Nat) : (l.take (min (A + n) 300)).drop A = ((l.take 300).drop A).take n := by
  rw [List.take_drop, List.take_take]
/-- fuel for what is within a piece -/
def l_fx : Nat → Nat
  | 0 => 0
  | f + 1 => l_fu f 24
/-- the items of a piece at the level L -/
def l_IT (s : sA) (f w m : Nat) (g : Nat) (pre : List Int32) (p : sP) : List lI := (s_ip (sR s) f w m p).map (fun y => (y.1, g, pre ++ y.2))
/-- what the loop of the frame L does -/
def l_LOOP (s : sA) (f : Nat) : Prop := ∀ (L : Nat), L + f = 4 → 0 < L → ∀ (a b c : Nat → Nat) (ws : Nat → Int32) (g : Nat) (O : List lI) (t : r_T) (w m : Nat) (lg : Int32) (l : List sP) (p N : Nat), a 0 = 0 → l_V L a b c ws g O t → ws L = nI w → m ≤ 600 → t.2 28 L = lg → t.2 29 L = nI p → t.2 30 L = nI m → l_row t lg l → p ≤ l.length → (∀ q, q ∈ l → s_pok 12 q) → RW t s → l_fu f (l.length - p) ≤ N → ∃ t2 N2, fn_X12_layLog_21 N (nI L) t = fn_X12_layLog_21 N2 (nI L + -1) t2 ∧ N ≤ N2 + l_fu f (l.length - p) ∧ l_V L a b (l_pl a b (L + 1) ((l.drop p).flatMap (l_IT s f w m g ((List.range L).map ws))) (c, O)).1 ws g (l_pl a b (L + 1) ((l.drop p).flatMap (l_IT s f w m g ((List.range L).map ws))) (c, O)).2 t2 ∧ r_fr l_S t t2 ∧ l_lo L t t2
/-- one piece -/
theorem ri_piece (v : ivc s) (vp : ivp s) {f L : Nat} (hf : L + f = 4) (IH : ∀ f2, f = f2 + 1 → l_LOOP s f2) {a b c : Nat → Nat} {ws : Nat → Int32} {g : Nat} {O : List lI} {t : r_T} {w m : Nat} {lg : Int32} {l : List sP} {p N : Nat} {q : sP} (ha : a 0 = 0) (hV : l_V L a b c ws g O (rt_A t 29 L (nI (p + 1)))) (hw : ws L = nI w) (hm : m ≤ 600) (h28 : t.2 28 L = lg) (h29 : t.2 29 L = nI p) (h30 : t.2 30 L = nI m) (hr : l_row t lg l) (hq : l[p]? = some q) (hok : s_pok 12 q) (hRW : RW t s) (hnd : l_dn b (L + 1) c = false) (hN : l_fx f ≤ N) : ∃ t2 N2, fn_X12_layLog_21 (N + 1) (nI L) t = fn_X12_layLog_21 N2 (nI L) t2 ∧ N ≤ N2 + l_fx f ∧ l_V L a b (l_pl a b (L + 1) (l_IT s f w m g ((List.range L).map ws) q) (c, O)).1 ws g (l_pl a b (L + 1) (l_IT s f w m g ((List.range L).map ws) q) (c, O)).2 t2 ∧ r_fr l_S t t2 ∧ l_lo L t t2 ∧ t2.2 28 L = lg ∧ t2.2 29 L = nI (p + 1) ∧ t2.2 30 L = nI m := by
  have hp : p < l.length := (List.getElem?_eq_some_iff.mp hq).1
  rcases hr with ⟨_, e⟩ | ⟨x, A0, e1, e2, e3, e4, e5, e6, e7⟩
  · rw [e] at hp; exact absurd hp (Nat.not_lt_zero _)
  have hqp : q = r_pc t (A0 + p) := by
    have := e7 p hp
    rw [hq] at this
    exact Option.some.inj this
  have vL : vp_in (nI L) 5 := (n_vp (by omega)).mpr (by omega)
  have ixL : h_ix (nI L) = L := q_nIx (by omega)
  have vx : vp_in (nI x) 1200 := (n_vp (by omega)).mpr (by omega)
  have ixx : h_ix (nI x) = x := q_nIx (by omega)
  have vq : vp_in (nI (A0 + p)) 28800 := (n_vp (by omega)).mpr (by omega)
  have ixq : h_ix (nI (A0 + p)) = A0 + p := q_nIx (by omega)
  -- isDone
  have hV0 : ∃ g0, l_V L a b c ws g0 O t := by
    by_cases h0 : L = 0
    · subst h0
      refine ⟨p + 4294967295, ?_⟩
      exact ⟨hV.1, by rw [h29, n_wrap], hV.2.2.1, hV.2.2.2.1, hV.2.2.2.2⟩
    · refine ⟨g, l_V_t hV ?_ (fun k hk => ?_)⟩
      · show t.2 29 0 = (rt_A t 29 L (nI (p + 1))).2 29 0
        rw [rt_AA, if_pos rfl, if_neg (fun e => h0 e.symm)]
      · show t.2 k = (rt_A t 29 L (nI (p + 1))).2 k
        funext i
        rw [rt_AA, if_neg (fun e => by rw [e] at hk; exact absurd hk (by decide))]
  obtain ⟨g0, hV0⟩ := hV0
  have hD := ri_isDone hV0 (by omega)
  rw [hnd] at hD
  generalize hs : rt_A t 29 L (nI (p + 1)) = s36 at hV
  have fr36 : r_fr l_S t s36 := by rw [← hs]; exact r_frA (by decide)
  have q1 : s36.2 17 (A0 + p) = q.1 := by rw [fr36.2 17 (by decide), hqp]; rfl
  have q2 : s36.2 18 (A0 + p) = q.2.1 := by rw [fr36.2 18 (by decide), hqp]; rfl
  have q3 : s36.2 19 (A0 + p) = q.2.2.1 := by rw [fr36.2 19 (by decide), hqp]; rfl
  have q4 : s36.2 20 (A0 + p) = q.2.2.2.1 := by rw [fr36.2 20 (by decide), hqp]; rfl
  have q5 : s36.2 21 (A0 + p) = q.2.2.2.2 := by rw [fr36.2 21 (by decide), hqp]; rfl
  have s28 : s36.2 28 L = lg := by rw [← hs]; exact h28
  have s29 : s36.2 29 L = nI (p + 1) := by rw [← hs, rt_AA, if_pos rfl, if_pos rfl]
  have s30 : s36.2 30 L = nI m := by rw [← hs]; exact h30
  have lo36 : l_lo L t s36 := fun k hk => by
    rw [← hs]
    refine ⟨rfl, ?_, rfl⟩
    rw [rt_AA, if_pos rfl, if_neg (by omega)]
  obtain ⟨⟨kd, hkd, ek⟩, ⟨n, hn1, hn2, en⟩, ⟨A, hA, eA⟩, hof, hat⟩ := hok
  have hstart : fn_X12_layLog_21 (N + 1) (nI L) t = fg_if ((2 : Int32) ≤ q.1) (fg_if (nI L = 4) (fg_b (fn_X12_show (-7) (nI L) s36) (fun _ s55 => fn_X12_layLog_21 N (nI L) s55)) (fg_if (q.1 = 2) (fn_X12_layLog_217 (fn_X12_layLog_21 N) (nI L) (nI (A0 + p)) q.2.2.2.2 q.2.2.2.1 (nI L + 1) s36) (fn_X12_layLog_217 (fn_X12_layLog_21 N) (nI L) (nI (A0 + p)) (nI m) q.2.2.2.1 (nI L + 1) s36))) (fn_X12_layLog_114 (fn_X12_layLog_21 N) g_N (nI L) (nI (A0 + p)) 0 s36) := by
    show fn_X12_layLog_21b (fn_X12_layLog_21 N) (nI L) t = _
    unfold fn_X12_layLog_21b
    have d1 : ¬ nI L < 0 := n_neg (by omega)
    have d2 : ¬ nI x < 0 := n_neg (by omega)
    have d3 : ¬ nI l.length ≤ nI p := fun w => by have := (n_le (a := l.length) (b := p) (by omega) (by omega)).mp w; omega
    have d4 : (if false = true then (1 : Int32) else 0) = 0 := rfl
    simp only [fg_if_0 d1, fg_g_1 vL, ixL, h28, e1, fg_if_0 d2, fg_g_1 vx, ixx, e3, h29, fg_if_0 d3, hD, fg_b_1, fg_if_1 d4, e4, n_add, fg_let_1, n_p1, hs, fg_g_1 vq, ixq, q1, q4, q5, s30]
  have pre1 : (List.range (L + 1)).map ws = (List.range L).map ws ++ [nI w] := by rw [List.range_succ, List.map_append, ← hw]; rfl
  rw [hstart]
  by_cases c2 : q.1 < 2
  · -- words
    rw [fg_if_0 (fun w => Int32.not_le.mpr c2 w)]
    obtain ⟨t2, f1, f2, f3⟩ := ri_layLog_114 (L := L) (a := a) (b := b) (ws := ws) (g := g) (by omega) ha (K := fn_X12_layLog_21 N) (x := A0 + p) (n := n) (A := q.2.1) (by omega) hn2 n 0 g_N c O s36 (by omega) (by have := g_N_le; omega) hV (by rw [q3, en]) q2
    have eit : l_IT s f w m g ((List.range L).map ws) q = (List.range n).map (fun i => (q.2.1 + nI (0 + i), g, (List.range (L + 1)).map ws)) := by
      unfold l_IT s_ip s_ws
      rw [if_pos c2, List.map_map, List.map_map, en, q_nIx (by omega), pre1]
      apply List.map_congr_left
      intro i _
      rw [Nat.zero_add]; rfl
    rw [eit]
    have f3' : r_fr l_S s36 t2 := r_frS f3 (by decide)
    refine ⟨t2, N, f1, by omega, f2, r_frt fr36 f3', fun k hk => ?_, ?_, ?_, ?_⟩
    · rw [f3.2 28 (by decide), f3.2 29 (by decide), f3.2 30 (by decide)]; exact lo36 k hk
    · rw [f3.2 28 (by decide)]; exact s28
    · rw [f3.2 29 (by decide)]; exact s29
    · rw [f3.2 30 (by decide)]; exact s30
  · rw [fg_if_1 (Int32.not_lt.mp c2)]
    cases f with
    | zero =>
      have e4 : L = 4 := by omega
      rw [fg_if_1 (by rw [e4]; rfl)]
      obtain ⟨t2, f1, f2, f3⟩ := ri_show (L := L) (by omega) ha (-7) hV
      have eit : l_IT s 0 w m g ((List.range L).map ws) q = [(-7, g, (List.range (L + 1)).map ws)] := by
        unfold l_IT s_ip
        rw [if_neg c2, pre1]; rfl
      have epl : l_pl a b (L + 1) [(-7, g, (List.range (L + 1)).map ws)] (c, O) = ((l_pu a b (L + 1) c).1, if (l_pu a b (L + 1) c).2 then O ++ [(-7, g, (List.range (L + 1)).map ws)] else O) := by
        show (if l_dn b (L + 1) c = true then _ else _) = _
        rw [hnd]; rfl
      rw [eit, epl, f1, fg_b_1]
      have f3' : r_fr l_S s36 t2 := r_frS f3 (by decide)
      refine ⟨t2, N, rfl, by omega, f2, r_frt fr36 f3', fun k hk => ?_, ?_, ?_, ?_⟩
      · rw [f3.2 28 (by decide), f3.2 29 (by decide), f3.2 30 (by decide)]; exact lo36 k hk
      · rw [f3.2 28 (by decide)]; exact s28
      · rw [f3.2 29 (by decide)]; exact s29
      · rw [f3.2 30 (by decide)]; exact s30
    | succ f2 =>
      have nL4 : ¬ nI L = 4 := fun w => by have := (n_eq (a := L) (b := 4) (by omega) (by omega)).mp w; omega
      obtain ⟨w2, hw2, ew2⟩ := hof c2
      rw [fg_if_0 nL4]
      -- the moment
      obtain ⟨m2, hm2, em2⟩ : ∃ m2, m2 ≤ 600 ∧ m2 = (if q.1 = 2 then h_ix q.2.2.2.2 else m) := by
        by_cases c3 : q.1 = 2
        · obtain ⟨m3, hm3, e⟩ := hat c3
          exact ⟨m3, hm3, by rw [if_pos c3, e, q_nIx (by omega)]⟩
        · exact ⟨m, hm, by rw [if_neg c3]⟩
      have hstep : fg_if (q.1 = 2) (fn_X12_layLog_217 (fn_X12_layLog_21 N) (nI L) (nI (A0 + p)) q.2.2.2.2 q.2.2.2.1 (nI L + 1) s36) (fn_X12_layLog_217 (fn_X12_layLog_21 N) (nI L) (nI (A0 + p)) (nI m) q.2.2.2.1 (nI L + 1) s36) = fn_X12_layLog_217 (fn_X12_layLog_21 N) (nI L) (nI (A0 + p)) (nI m2) (nI w2) (nI (L + 1)) s36 := by
        rw [ew2, n_p1]
        by_cases c3 : q.1 = 2
        · obtain ⟨m3, hm3, e⟩ := hat c3
          rw [if_pos c3, e, q_nIx (by omega)] at em2
          rw [fg_if_1 c3, e, em2]
        · rw [if_neg c3] at em2
          rw [fg_if_0 c3, em2]
      rw [hstep]
      unfold fn_X12_layLog_217
      have hE := ri_enter (RW_fr hRW fr36) v (L := L + 1) (m := m2) (n := n) (by omega) hw2 hA hn2
      rw [fg_g_1 vq, fg_g_1 vq, ixq, q2, q3, en, eA, hE, fg_b_1, n_p1]
      generalize ht9 : rt_A (rt_A (rt_A (rt_A (rt_A (rt_A (rt_A s36 31 (L + 1) (nI w2)) 30 (L + 1) (nI m2)) 28 (L + 1) (r_log s36 (nI m2) 1200 (s36.2 11 w2))) 29 (L + 1) 0) 32 (L + 1) (nI A)) 33 (L + 1) (nI (min (A + n) 300))) 34 (L + 1) 0 = t9
      have fr9 : r_fr l_S s36 t9 := by
        rw [← ht9]
        exact r_frt (r_frA (by decide)) (r_frt (r_frA (by decide)) (r_frt (r_frA (by decide)) (r_frt (r_frA (by decide)) (r_frt (r_frA (by decide)) (r_frt (r_frA (by decide)) (r_frA (by decide)))))))
      have k31 : ∀ k, t9.2 31 k = if k = L + 1 then nI w2 else s36.2 31 k := fun k => by rw [← ht9]; simp only [rt_AA]; simp
      have k30 : ∀ k, t9.2 30 k = if k = L + 1 then nI m2 else s36.2 30 k := fun k => by rw [← ht9]; simp only [rt_AA]; simp
      have k28 : ∀ k, t9.2 28 k = if k = L + 1 then r_log s36 (nI m2) 1200 (s36.2 11 w2) else s36.2 28 k := fun k => by rw [← ht9]; simp only [rt_AA]; simp
      have k29 : ∀ k, t9.2 29 k = if k = L + 1 then 0 else s36.2 29 k := fun k => by rw [← ht9]; simp only [rt_AA]; simp
      have k32 : ∀ k, t9.2 32 k = if k = L + 1 then nI A else s36.2 32 k := fun k => by rw [← ht9]; simp only [rt_AA]; simp
      have k33 : ∀ k, t9.2 33 k = if k = L + 1 then nI (min (A + n) 300) else s36.2 33 k := fun k => by rw [← ht9]; simp only [rt_AA]; simp
      have k34 : ∀ k, t9.2 34 k = if k = L + 1 then 0 else s36.2 34 k := fun k => by rw [← ht9]; simp only [rt_AA]; simp
      have kO : ∀ z, z ∈ ([36, 37, 38, 39] : List Nat) → t9.2 z = s36.2 z := fun z hz => by
        rw [← ht9]
        funext i
        simp only [rt_AA]
        rcases (show z = 36 ∨ z = 37 ∨ z = 38 ∨ z = 39 by simpa using hz) with rfl | rfl | rfl | rfl <;> rfl
      have hRW9 : RW t9 s := RW_fr (RW_fr hRW fr36) fr9
      have hrow9 : l_row t9 (r_log s36 (nI m2) 1200 (s36.2 11 w2)) (sR s w2 m2) := l_row_c (l_row_of (RW_fr hRW fr36) v hw2 (by omega)) fr9
      have hV9 : l_V (L + 1) (l_up a (L + 1) A) (l_up b (L + 1) (min (A + n) 300)) (l_up c (L + 1) 0) (fun k => if k = L + 1 then nI w2 else ws k) g O t9 := by
        refine ⟨fun k hk => ?_, ?_, ?_, hV.2.2.2.1, ?_⟩
        · by_cases e : k = L + 1
          · subst e
            show t9.2 31 (L + 1) = (if L + 1 = L + 1 then nI w2 else ws (L + 1)) ∧ _
            rw [k31, k32, k33, k34, if_pos rfl, if_pos rfl, if_pos rfl, if_pos rfl, if_pos rfl, l_up_same, l_up_same, l_up_same]
            exact ⟨rfl, rfl, rfl, rfl, by omega, Nat.min_le_right _ _, Nat.zero_le _⟩
          · show t9.2 31 k = (if k = L + 1 then nI w2 else ws k) ∧ _
            rw [k31, k32, k33, k34, if_neg e, if_neg e, if_neg e, if_neg e, if_neg e, l_up_ne _ e, l_up_ne _ e, l_up_ne _ e]
            exact hV.1 k (by omega)
        · rw [k29, if_neg (by omega)]; exact hV.2.1
        · rw [l_up_ne _ (by omega)]; exact hV.2.2.1
        · unfold l_out
          rw [kO 36 (by decide), kO 37 (by decide), kO 38 (by decide), kO 39 (by decide)]
          exact hV.2.2.2.2
      have hlen := (vp w2 m2).1
      have hmono : l_fu f2 ((sR s w2 m2).length - 0) ≤ l_fu f2 24 := l_fu_mono f2 (by omega)
      have hN' : l_fu f2 24 ≤ N := hN
      obtain ⟨t2, N2, f1, f2', f3, f4, f5⟩ := IH f2 rfl (L + 1) (by omega) (by omega) (l_up a (L + 1) A) (l_up b (L + 1) (min (A + n) 300)) (l_up c (L + 1) 0) (fun k => if k = L + 1 then nI w2 else ws k) g O t9 w2 m2 _ (sR s w2 m2) 0 N (by rw [l_up_ne _ (by omega)]; exact ha) hV9 (if_pos rfl) hm2 (by rw [k28, if_pos rfl]) (by rw [k29, if_pos rfl]; rfl) (by rw [k30, if_pos rfl]) hrow9 (Nat.zero_le _) (fun q hq => by
        obtain ⟨p1, p2, p3, p4, p5⟩ := (vp w2 m2).2 q hq
        have := v.2.2.1
        exact ⟨p1, p2, p3, fun c => by obtain ⟨z, hz, e⟩ := p4 c; exact ⟨z, by omega, e⟩, p5⟩) hRW9 (by omega)
      rw [n_pm] at f1
      have hab : ∀ j, j < L + 1 → l_up a (L + 1) A j = a j ∧ l_up b (L + 1) (min (A + n) 300) j = b j := fun j hj => ⟨l_up_ne _ (by omega), l_up_ne _ (by omega)⟩
      generalize hI : ((sR s w2 m2).drop 0).flatMap (l_IT s f2 w2 m2 g ((List.range (L + 1)).map (fun k => if k = L + 1 then nI w2 else ws k))) = I at f3
      obtain ⟨g1, g2⟩ := l_pl_win (a := l_up a (L + 1) A) (b := l_up b (L + 1) (min (A + n) 300)) (k := L + 1) I (l_up c (L + 1) 0) O
      rw [l_up_same, l_up_same, l_up_same, Nat.sub_zero, Nat.sub_zero, l_pl_ab hab] at g1 g2
      obtain ⟨g3, g4⟩ := l_pl_c (a := a) (b := b) (k := L + 1) ((I.take (min (A + n) 300)).drop A) O (c := l_up c (L + 1) 0) (d := c) (fun j hj => l_up_ne _ (by omega))
      have eI : (I.take (min (A + n) 300)).drop A = l_IT s (f2 + 1) w m g ((List.range L).map ws) q := by
        have epre : (List.range (L + 1)).map (fun k => if k = L + 1 then nI w2 else ws k) = (List.range L).map ws ++ [nI w] := by
          rw [← pre1]
          apply List.map_congr_left
          intro k hk
          rw [if_neg (by have := List.mem_range.mp hk; omega)]
        have eI0 : I = (s_it (sR s) f2 w2 m2).map (fun y => (y.1, g, ((List.range L).map ws ++ [nI w]) ++ y.2)) := by
          rw [← hI, List.drop_zero, epre, s_it_ip, List.map_flatMap]
          rfl
        rw [eI0, l_win, ← List.map_take, ← List.map_drop, ← List.map_take]
        unfold l_IT s_ip
        rw [if_neg c2, List.map_map]
        have e9 : h_ix q.2.2.2.1 = w2 := by rw [ew2]; exact q_nIx (by omega)
        have e10 : h_ix q.2.1 = A := by rw [eA]; exact q_nIx (by omega)
        have e11 : h_ix q.2.2.1 = n := by rw [en]; exact q_nIx (by omega)
        show _ = List.map _ ((((s_it (sR s) f2 (h_ix q.2.2.2.1) (if q.1 = 2 then h_ix q.2.2.2.2 else m)).take 300).drop (h_ix q.2.1)).take (h_ix q.2.2.1))
        rw [← em2, e9, e10, e11]
        apply List.map_congr_left
        intro y _
        show (y.1, g, _) = (y.1, g, _)
        rw [List.append_assoc]; rfl
      rw [eI] at g1 g2 g3 g4
      refine ⟨t2, N2, f1, by show N ≤ N2 + l_fu f2 24; omega, ?_, r_frt fr36 (r_frt fr9 f4), fun k hk => ?_, ?_, ?_, ?_⟩
      · have h1 := l_V_low f3
        rw [g1.trans g3] at h1
        exact l_V_c (l_V_ab h1 (fun k hk => ⟨(hab k (by omega)).1, (hab k (by omega)).2, if_neg (by omega)⟩)) (fun k hk => (g2 k (by omega)).trans (g4 k (by omega)))
      · obtain ⟨x1, x2, x3⟩ := f5 k (by omega)
        rw [x1, x2, x3, k28, k29, k30, if_neg (by omega), if_neg (by omega), if_neg (by omega)]
        exact lo36 k hk
      · obtain ⟨x1, x2, x3⟩ := f5 L (by omega)
        rw [x1, k28, if_neg (by omega)]; exact s28
      · obtain ⟨x1, x2, x3⟩ := f5 L (by omega)
        rw [x2, k29, if_neg (by omega)]; exact s29
      · obtain ⟨x1, x2, x3⟩ := f5 L (by omega)
        rw [x3, k30, if_neg (by omega)]; exact s30
end LF
