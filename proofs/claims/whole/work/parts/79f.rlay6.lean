section LG
variable {s : sA}
/-- a frame whose row is at its end, or that is done, is left -/
theorem ri_pop {L : Nat} (hL : L ≤ 4) {a b c : Nat → Nat} {ws : Nat → Int32} {g : Nat} {O : List lI} {t : r_T} {lg : Int32} {l : List sP} {p N : Nat} (hV : l_V L a b c ws g O t) (h28 : t.2 28 L = lg) (h29 : t.2 29 L = nI p) (hr : l_row t lg l) (hp : p ≤ l.length) (hd : p = l.length ∨ l_dn b (L + 1) c = true) : fn_X12_layLog_21 (N + 1) (nI L) t = fn_X12_layLog_21 N (nI L + -1) t := by
  have vL : vp_in (nI L) 5 := (n_vp (by omega)).mpr (by omega)
  have ixL : h_ix (nI L) = L := q_nIx (by omega)
  have d1 : ¬ nI L < 0 := n_neg (by omega)
  show fn_X12_layLog_21b (fn_X12_layLog_21 N) (nI L) t = _
  unfold fn_X12_layLog_21b
  rw [fg_if_0 d1, fg_g_1 vL, ixL, h28]
  rcases hr with ⟨e, _⟩ | ⟨x, A0, e1, e2, e3, e4, e5, e6, e7⟩
  · rw [fg_if_1 e]
  · have vx : vp_in (nI x) 1200 := (n_vp (by omega)).mpr (by omega)
    have ixx : h_ix (nI x) = x := q_nIx (by omega)
    rw [e1, fg_if_0 (n_neg (by omega)), fg_g_1 vL, fg_g_1 vx, ixx, e3, h29]
    by_cases w : p = l.length
    · rw [fg_if_1 ((n_le (by omega) (by omega)).mpr (by omega))]
    · rw [fg_if_0 (fun q => by have := (n_le (a := l.length) (b := p) (by omega) (by omega)).mp q; omega), ri_isDone hV hL, fg_b_1]
      rcases hd with hd | hd
      · exact absurd hd w
      · rw [hd, fg_if_0 (by decide)]
theorem l_fu_s (f n : Nat) : l_fu f (n + 1) = l_fu f n + 1 + l_fx f := by
  cases f with
  | zero => rfl
  | succ f =>
    show (n + 1) * (1 + l_fu f 24) + 1 = n * (1 + l_fu f 24) + 1 + 1 + l_fu f 24
    rw [Nat.succ_mul]; omega
theorem l_fu_1 (f n : Nat) : 1 ≤ l_fu f n := by cases f <;> unfold l_fu <;> omega
/-- the loop of a frame above the first -/
theorem ri_LOOP1 (v : ivc s) (vp : ivp s) (f : Nat) (IH : ∀ f2, f = f2 + 1 → l_LOOP s f2) : l_LOOP s f := by
  intro L hLf hL0 a b c ws g O t w m lg l p N ha hV hw hm h28 h29 h30 hr hp hok hRW hN
  generalize hn : l.length - p = n at hN
  induction n generalizing c O t p N with
  | zero =>
    obtain ⟨N, rfl⟩ : ∃ z, N = z + 1 := ⟨N - 1, by have := l_fu_1 f 0; omega⟩
    refine ⟨t, N, ri_pop (by omega) hV h28 h29 hr hp (Or.inl (by omega)), by have := l_fu_1 f 0; omega, ?_, r_fr0, fun _ _ => ⟨rfl, rfl, rfl⟩⟩
    rw [List.drop_eq_nil_of_le (by omega)]
    exact hV
  | succ n ih =>
    have hp2 : p < l.length := by omega
    obtain ⟨q, hq⟩ : ∃ q, l[p]? = some q := ⟨l[p], List.getElem?_eq_getElem hp2⟩
    have hdrop : l.drop p = q :: l.drop (p + 1) := by
      rw [List.drop_eq_getElem_cons hp2]
      congr 1
      rw [List.getElem?_eq_getElem hp2] at hq
      exact Option.some.inj hq
    rw [l_fu_s] at hN ⊢
    obtain ⟨N, rfl⟩ : ∃ z, N = z + 1 := ⟨N - 1, by omega⟩
    by_cases hd : l_dn b (L + 1) c = true
    · refine ⟨t, N, ri_pop (by omega) hV h28 h29 hr hp (Or.inr hd), by omega, ?_, r_fr0, fun _ _ => ⟨rfl, rfl, rfl⟩⟩
      rw [l_pl_dn (x := (c, O)) hd]
      exact hV
    · have hV1 : l_V L a b c ws g O (rt_A t 29 L (nI (p + 1))) := by
        refine l_V_t hV ?_ (fun k hk => ?_)
        · rw [rt_AA, if_pos rfl, if_neg (by omega)]
        · funext i
          rw [rt_AA, if_neg (fun e => by rw [e] at hk; exact absurd hk (by decide))]
      obtain ⟨t1, N1, f1, f2, f3, f4, f5, f6, f7, f8⟩ := ri_piece v vp hLf IH (N := N) ha hV1 hw hm h28 h29 h30 hr hq (hok q (List.mem_of_getElem? hq)) hRW (by simpa using hd) (by omega)
      obtain ⟨t2, N2, g1, g2, g3, g4, g5⟩ := ih _ _ t1 (p + 1) N1 f3 f6 f7 f8 (l_row_c hr f4) (by omega) (RW_fr hRW f4) (by omega) (by omega)
      refine ⟨t2, N2, f1.trans g1, by omega, ?_, r_frt f4 g4, fun k hk => ?_⟩
      · rw [hdrop, List.flatMap_cons, l_pl_app]
        exact g3
      · obtain ⟨x1, x2, x3⟩ := g5 k hk
        obtain ⟨y1, y2, y3⟩ := f5 k hk
        exact ⟨x1.trans y1, x2.trans y2, x3.trans y3⟩
theorem ri_LOOP (v : ivc s) (vp : ivp s) : ∀ f, l_LOOP s f := by
  intro f
  induction f with
  | zero => exact ri_LOOP1 v vp 0 (fun f2 e => by omega)
  | succ f ih => exact ri_LOOP1 v vp (f + 1) (fun f2 e => (show f = f2 by omega) ▸ ih)
/-- items of a row, piece by piece, with the pieces' numbers -/
def l_num (s : sA) (w m : Nat) : Nat → List sP → List lI
  | _, [] => []
  | p, q :: r => l_IT s 4 w m p [] q ++ l_num s w m (p + 1) r
/-- the first frame's loop -/
theorem ri_LOOP0 (v : ivc s) (vp : ivp s) {a b : Nat → Nat} {ws : Nat → Int32} {w m : Nat} {lg : Int32} {l : List sP} (ha : a 0 = 0) (hw : ws 0 = nI w) (hm : m ≤ 600) (hok : ∀ q, q ∈ l → s_pok 12 q) : ∀ (n p N g : Nat) (c : Nat → Nat) (O : List lI) (t : r_T), l.length - p = n → (∀ g2, t.2 29 0 = nI (g2 + 1) → l_V 0 a b c ws g2 O t) → t.2 28 0 = lg → t.2 29 0 = nI p → t.2 30 0 = nI m → l_row t lg l → p ≤ l.length → RW t s → l_fu 4 n ≤ N → ∃ t2 N2 g2, fn_X12_layLog_21 N 0 t = fn_X12_layLog_21 N2 (-1) t2 ∧ N ≤ N2 + l_fu 4 n ∧ l_V 0 a b (l_pl a b 1 (l_num s w m p (l.drop p)) (c, O)).1 ws g2 (l_pl a b 1 (l_num s w m p (l.drop p)) (c, O)).2 t2 ∧ r_fr l_S t t2 := by
  intro n
  induction n with
  | zero =>
    intro p N g c O t hn hV h28 h29 h30 hr hp hRW hN
    obtain ⟨N, rfl⟩ : ∃ z, N = z + 1 := ⟨N - 1, by have := l_fu_1 4 0; omega⟩
    have hV0 := hV (p + 4294967295) (by rw [n_wrap]; exact h29)
    refine ⟨t, N, p + 4294967295, ri_pop (L := 0) (by omega) hV0 h28 h29 hr hp (Or.inl (by omega)), by have := l_fu_1 4 0; omega, ?_, r_fr0⟩
    rw [List.drop_eq_nil_of_le (by omega)]
    exact hV0
  | succ n ih =>
    intro p N g c O t hn hV h28 h29 h30 hr hp hRW hN
    have hp2 : p < l.length := by omega
    obtain ⟨q, hq⟩ : ∃ q, l[p]? = some q := ⟨l[p], List.getElem?_eq_getElem hp2⟩
    have hdrop : l.drop p = q :: l.drop (p + 1) := by
      rw [List.drop_eq_getElem_cons hp2]
      congr 1
      rw [List.getElem?_eq_getElem hp2] at hq
      exact Option.some.inj hq
    have hs := l_fu_s 4 n
    have hs3 : l_fu 4 (n + 1) = l_fu 4 n + 1 + l_fu 3 24 := hs
    obtain ⟨N, rfl⟩ : ∃ z, N = z + 1 := ⟨N - 1, by omega⟩
    have hV0 := hV (p + 4294967295) (by rw [n_wrap]; exact h29)
    by_cases hd : l_dn b 1 c = true
    · refine ⟨t, N, p + 4294967295, ri_pop (L := 0) (by omega) hV0 h28 h29 hr hp (Or.inr hd), by omega, ?_, r_fr0⟩
      rw [l_pl_dn (x := (c, O)) hd]
      exact hV0
    · have hV1 : l_V 0 a b c ws p O (rt_A t 29 0 (nI (p + 1))) := ⟨hV0.1, by rw [rt_AA, if_pos rfl, if_pos rfl], hV0.2.2.1, hV0.2.2.2.1, hV0.2.2.2.2⟩
      obtain ⟨t1, N1, f1, f2, f3, f4, f5, f6, f7, f8⟩ := ri_piece v vp (f := 4) (L := 0) (by omega) (fun f2 _ => ri_LOOP v vp f2) (N := N) ha hV1 hw hm h28 h29 h30 hr hq (hok q (List.mem_of_getElem? hq)) hRW (by simpa using hd) (by show l_fu 3 24 ≤ N; omega)
      have f2' : N ≤ N1 + l_fu 3 24 := f2
      obtain ⟨t2, N2, g2, g1, g2', g3, g4⟩ := ih (p + 1) N1 p _ _ t1 (by omega) (fun g2 e => ⟨f3.1, e, f3.2.2.1, f3.2.2.2.1, f3.2.2.2.2⟩) f6 f7 f8 (l_row_c hr f4) (by omega) (RW_fr hRW f4) (by omega)
      refine ⟨t2, N2, g2, f1.trans g1, by omega, ?_, r_frt f4 g4⟩
      rw [hdrop]
      show l_V 0 a b (l_pl a b 1 (l_IT s 4 w m p [] q ++ l_num s w m (p + 1) (l.drop (p + 1))) (c, O)).1 ws g2 (l_pl a b 1 (l_IT s 4 w m p [] q ++ l_num s w m (p + 1) (l.drop (p + 1))) (c, O)).2 t2
      rw [l_pl_app]
      exact g3
end LG
