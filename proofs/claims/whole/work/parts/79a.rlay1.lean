/-! THE FRAMES of lay: counters c, windows a .. b; an item: word, piece, chain -/
abbrev lI : Type := Int32 × Nat × List Int32
def l_up (c : Nat → Nat) (k v : Nat) : Nat → Nat := fun j => if j = k then v else c j
def l_pu (a b : Nat → Nat) : Nat → (Nat → Nat) → (Nat → Nat) × Bool
  | 0, c => (c, true)
  | k + 1, c => if c k < b k then (if a k ≤ c k then l_pu a b k (l_up c k (c k + 1)) else (l_up c k (c k + 1), false)) else (c, false)
def l_dn (b : Nat → Nat) : Nat → (Nat → Nat) → Bool
  | 0, _ => false
  | k + 1, c => l_dn b k c || decide (b k ≤ c k)
def l_pl (a b : Nat → Nat) (k : Nat) : List lI → (Nat → Nat) × List lI → (Nat → Nat) × List lI
  | [], x => x
  | i :: r, x => if l_dn b k x.1 then x else l_pl a b k r ((l_pu a b k x.1).1, if (l_pu a b k x.1).2 then x.2 ++ [i] else x.2)
/-- what has been shown -/
def l_out (t : r_T) (O : List lI) : Prop := ∀ (i : Nat) (y : lI), O[i]? = some y → t.2 36 i = y.1 ∧ t.2 37 i = nI y.2.1 ∧ t.2 38 i = nI y.2.2.length ∧ ∀ (j : Nat) (z : Int32), y.2.2[j]? = some z → t.2 39 (5 * i + j) = z
/-- the frames up to L, what has been shown -/
def l_V (L : Nat) (a b c : Nat → Nat) (ws : Nat → Int32) (g : Nat) (O : List lI) (t : r_T) : Prop := (∀ k, k ≤ L → t.2 31 k = ws k ∧ t.2 32 k = nI (a k) ∧ t.2 33 k = nI (b k) ∧ t.2 34 k = nI (c k) ∧ a k ≤ 500 ∧ b k ≤ 300 ∧ c k ≤ b k) ∧ t.2 29 0 = nI (g + 1) ∧ O.length = c 0 ∧ (∀ y, y ∈ O → y.2.2.length ≤ 5) ∧ l_out t O
section LA
variable {t : r_T} {a b c : Nat → Nat} {ws : Nat → Int32} {g L : Nat} {O : List lI}
theorem l_up_same (k v : Nat) : l_up c k v k = v := if_pos rfl
theorem l_up_ne {k j : Nat} (v : Nat) (h : j ≠ k) : l_up c k v j = c j := if_neg h
theorem l_up_id (k : Nat) : l_up c k (c k) = c := by
  funext j
  unfold l_up
  by_cases h : j = k
  · rw [if_pos h, h]
  · rw [if_neg h]
theorem ri_isDone_4 (h : l_V L a b c ws g O t) (hL : L ≤ 4) : ∀ (d k N : Nat) (x : Bool), k + d = L + 1 → d < N → x = l_dn b k c → fn_X12_isDone_4 N (nI L) (if x then 1 else 0) (nI k) t = some (if l_dn b (L + 1) c then 1 else 0, t) := by
  intro d
  induction d with
  | zero =>
    intro k N x hk hN hx
    obtain ⟨N, rfl⟩ : ∃ m, N = m + 1 := ⟨N - 1, by omega⟩
    show fn_X12_isDone_4b _ _ _ _ _ = _
    unfold fn_X12_isDone_4b
    obtain rfl : k = L + 1 := by omega
    rw [fg_if_1 ((n_lt (by omega) (by omega)).mpr (by omega)), ← hx]
    cases x
    · exact fg_g_1 (Or.inl rfl)
    · exact fg_g_1 (Or.inr rfl)
  | succ d ih =>
    intro k N x hk hN hx
    obtain ⟨N, rfl⟩ : ∃ m, N = m + 1 := ⟨N - 1, by omega⟩
    show fn_X12_isDone_4b (fn_X12_isDone_4 N) _ _ _ _ = _
    unfold fn_X12_isDone_4b
    obtain ⟨_, _, h3, h4, _, h6, h7⟩ := h.1 k (by omega)
    have e : l_dn b (k + 1) c = (l_dn b k c || decide (b k ≤ c k)) := rfl
    rw [fg_if_0 (fun w => by have := (n_lt (a := L) (b := k) (by omega) (by omega)).mp w; omega), n_p1]
    cases hx2 : x with
    | true =>
      rw [fg_if_0 (by decide)]
      exact ih (k + 1) N true (by omega) (by omega) (by rw [e, ← hx, hx2]; rfl)
    | false =>
      rw [fg_if_1 (by decide), fg_g_1 ((n_vp (by omega)).mpr (by omega)), fg_g_1 ((n_vp (by omega)).mpr (by omega)), q_nIx (show k < 2 ^ 31 by omega), h3, h4]
      by_cases w : c k < b k
      · rw [fg_if_1 ((n_lt (by omega) (by omega)).mpr w)]
        exact ih (k + 1) N false (by omega) (by omega) (by rw [e, ← hx, hx2]; simp; omega)
      · rw [fg_if_0 (fun q => w ((n_lt (by omega) (by omega)).mp q))]
        exact ih (k + 1) N true (by omega) (by omega) (by rw [e, ← hx, hx2]; simp; omega)
theorem ri_isDone (h : l_V L a b c ws g O t) (hL : L ≤ 4) : fn_X12_isDone (nI L) t = some (if l_dn b (L + 1) c then 1 else 0, t) := ri_isDone_4 h hL (L + 1) 0 g_N false (by omega) (by have := g_N_le; omega) rfl
/-- the chain is noted -/
theorem ri_show_100 {K5 : Int32 → Int32 → Int32 → Int32 → r_T → Option (Unit × r_T)} {x x3 : Int32} {p : Nat} (hL : L ≤ 4) (hp : p < 300) (hw : ∀ k, k ≤ L → t.2 31 k = ws k) : ∀ (d i N : Nat) (f : Nat → Int32), i + d = L + 1 → d < N → fn_X12_show_100 K5 N x (nI L) x3 (nI p) (nI i) (rt_Af t 39 f) = fn_X12_show_131 K5 x (nI L) x3 (nI p) (rt_Af t 39 (fun j => if 5 * p + i ≤ j ∧ j ≤ 5 * p + L then ws (j - 5 * p) else f j)) := by
  intro d
  induction d with
  | zero =>
    intro i N f hi hN
    obtain ⟨N, rfl⟩ : ∃ m, N = m + 1 := ⟨N - 1, by omega⟩
    show fn_X12_show_100b _ _ _ _ _ _ _ _ = _
    unfold fn_X12_show_100b
    rw [fg_if_1 ((n_lt (by omega) (by omega)).mpr (by omega))]
    congr 2
    funext j
    rw [if_neg (by omega)]
  | succ d ih =>
    intro i N f hi hN
    obtain ⟨N, rfl⟩ : ∃ m, N = m + 1 := ⟨N - 1, by omega⟩
    show fn_X12_show_100b K5 (fn_X12_show_100 K5 N) _ _ _ _ _ _ = _
    unfold fn_X12_show_100b
    have e31 : (rt_Af t 39 f).2 31 = t.2 31 := rfl
    rw [fg_if_0 (fun w => by have := (n_lt (a := L) (b := i) (by omega) (by omega)).mp w; omega), fg_g_1 ((n_vp (by omega)).mpr (by omega)), show (5 : Int32) = nI 5 from rfl, n_mul, n_add, fg_g_1 ((n_vp (by omega)).mpr (by omega)), fg_let_1, n_p1, q_nIx (by omega), q_nIx (by omega), e31, hw i (by omega), rt_A_Af, ih (i + 1) N _ (by omega) (by omega)]
    congr 2
    funext j
    by_cases e : j = 5 * p + i
    · have e9 : j - 5 * p = i := by omega
      rw [if_neg (by omega), if_pos e, if_pos (by omega), e9]
    · by_cases e2 : 5 * p + (i + 1) ≤ j ∧ j ≤ 5 * p + L
      · rw [if_pos e2, if_pos (by omega)]
      · rw [if_neg e2, if_neg e, if_neg (by omega)]
/-- a frame's counter -/
theorem l_V_up {k v : Nat} (h : l_V L a b c ws g O t) (hk : k ≤ L) (hv : v ≤ b k) (h0 : k ≠ 0) : l_V L a b (l_up c k v) ws g O (rt_A t 34 k (nI v)) := by
  refine ⟨fun j hj => ?_, h.2.1, ?_, h.2.2.2.1, h.2.2.2.2⟩
  · obtain ⟨h1, h2, h3, h4, h5, h6, h7⟩ := h.1 j hj
    refine ⟨h1, h2, h3, ?_, h5, h6, ?_⟩
    · rw [rt_AA, if_pos rfl]
      by_cases e : j = k
      · rw [if_pos e, e, l_up_same]
      · rw [if_neg e, l_up_ne v e]; exact h4
    · by_cases e : j = k
      · rw [e, l_up_same]; exact hv
      · rw [l_up_ne v e]; exact h7
  · rw [l_up_ne v (Ne.symm h0)]; exact h.2.2.1
theorem rt_A_same {k i : Nat} : rt_A t k i (t.2 k i) = t := by
  apply rt_ext
  · intro _; rfl
  · intro j x
    rw [rt_AA]
    by_cases e : j = k
    · by_cases e2 : x = i
      · rw [if_pos e, if_pos e2, e, e2]
      · rw [if_pos e, if_neg e2]
    · rw [if_neg e]
/-- one item more is shown -/
theorem l_V_put {x : Int32} (h : l_V L a b c ws g O t) (hL : L ≤ 4) (h0 : c 0 < b 0) : l_V L a b (l_up c 0 (c 0 + 1)) ws g (O ++ [(x, g, (List.range (L + 1)).map ws)]) (rt_Af (rt_A (rt_A (rt_A (rt_A t 34 0 (nI (c 0 + 1))) 36 (c 0) x) 37 (c 0) (nI g)) 38 (c 0) (nI (L + 1))) 39 (fun j => if 5 * c 0 + 0 ≤ j ∧ j ≤ 5 * c 0 + L then ws (j - 5 * c 0) else t.2 39 j)) := by
  refine ⟨fun j hj => ?_, h.2.1, ?_, ?_, ?_⟩
  · obtain ⟨h1, h2, h3, h4, h5, h6, h7⟩ := h.1 j hj
    refine ⟨h1, h2, h3, ?_, h5, h6, ?_⟩
    · show (if j = 0 then nI (c 0 + 1) else t.2 34 j) = _
      by_cases e : j = 0
      · rw [if_pos e, e, l_up_same]
      · rw [if_neg e, l_up_ne _ e]; exact h4
    · by_cases e : j = 0
      · rw [e, l_up_same]; omega
      · rw [l_up_ne _ e]; exact h7
  · rw [List.length_append, h.2.2.1, l_up_same]; rfl
  · intro y hy
    rcases List.mem_append.mp hy with hy | hy
    · exact h.2.2.2.1 y hy
    · rw [List.mem_singleton.mp hy]
      show ((List.range (L + 1)).map ws).length ≤ 5
      simp; omega
  · intro i y hy
    have hl := h.2.2.1
    by_cases e : i < c 0
    · rw [List.getElem?_append_left (by omega)] at hy
      obtain ⟨a1, a2, a3, a4⟩ := h.2.2.2.2 i y hy
      refine ⟨?_, ?_, ?_, fun j z hz => ?_⟩
      · show (if i = c 0 then x else t.2 36 i) = _
        rw [if_neg (by omega)]; exact a1
      · show (if i = c 0 then nI g else t.2 37 i) = _
        rw [if_neg (by omega)]; exact a2
      · show (if i = c 0 then nI (L + 1) else t.2 38 i) = _
        rw [if_neg (by omega)]; exact a3
      · show (if 5 * c 0 + 0 ≤ 5 * i + j ∧ 5 * i + j ≤ 5 * c 0 + L then ws (5 * i + j - 5 * c 0) else t.2 39 (5 * i + j)) = z
        have h5 := h.2.2.2.1 y (List.mem_of_getElem? hy)
        have hj : j < y.2.2.length := (List.getElem?_eq_some_iff.mp hz).1
        rw [if_neg (by omega)]
        exact a4 j z hz
    · have e2 : i = c 0 := by
        have := (List.getElem?_eq_some_iff.mp hy).1
        rw [List.length_append] at this
        simp at this
        omega
      subst e2
      rw [List.getElem?_append_right (by omega), hl] at hy
      simp at hy
      subst hy
      refine ⟨?_, ?_, ?_, fun j z hz => ?_⟩
      · show (if c 0 = c 0 then x else _) = _
        rw [if_pos rfl]
      · show (if c 0 = c 0 then nI g else _) = _
        rw [if_pos rfl]
      · show (if c 0 = c 0 then nI (L + 1) else _) = _
        rw [if_pos rfl]; simp
      · have hj : j < L + 1 := by
          have := (List.getElem?_eq_some_iff.mp hz).1
          simpa using this
        have hz2 : ws j = z := by simpa [hj] using hz
        show (if 5 * c 0 + 0 ≤ 5 * c 0 + j ∧ 5 * c 0 + j ≤ 5 * c 0 + L then ws (5 * c 0 + j - 5 * c 0) else _) = z
        rw [if_pos (by omega), show 5 * c 0 + j - 5 * c 0 = j by omega]
        exact hz2
end LA
