section RE
variable {t T : r_T} {s : sA}
def r_w (T : r_T) (i : Nat) : sP := (T.2 41 i, T.2 42 i, T.2 43 i, T.2 44 i, T.2 45 i)
/-- the list lies in the work's row from o on -/
def l_W (T : r_T) (o : Nat) (l : List sP) : Prop := ∀ (i : Nat) (q : sP), l[i]? = some q → r_w T (o + i) = q
theorem l_W_of {l : List sP} (h : l_w T l l.length) : l_W T 0 l := fun i q hq => by
  have hi : i < l.length := by
    rcases Nat.lt_or_ge i l.length with w | w
    · exact w
    · rw [List.getElem?_eq_none w] at hq; cases hq
  obtain ⟨a, b, c, d, e⟩ := h i q hi hq
  unfold r_w
  rw [Nat.zero_add, a, b, c, d, e]
theorem l_W_nil {o : Nat} : l_W T o [] := fun i q hq => by simp at hq
theorem l_W_cons {o : Nat} {p : sP} {l : List sP} : l_W T o (p :: l) ↔ r_w T o = p ∧ l_W T (o + 1) l := by
  constructor
  · intro h
    exact ⟨h 0 p rfl, fun i q hq => by have := h (i + 1) q hq; rw [← this]; congr 1; omega⟩
  · rintro ⟨h1, h2⟩ i q hq
    cases i with
    | zero => cases hq; exact h1
    | succ i => have := h2 i q hq; rw [← this]; congr 1; omega
theorem l_W_app {b : List sP} : ∀ {a : List sP} {o : Nat}, l_W T o (a ++ b) ↔ l_W T o a ∧ l_W T (o + a.length) b := by
  intro a
  induction a with
  | nil => intro o; exact ⟨fun h => ⟨l_W_nil, h⟩, fun h => h.2⟩
  | cons p a ih =>
    intro o
    rw [List.cons_append, l_W_cons, l_W_cons, ih, List.length_cons, show o + 1 + a.length = o + (a.length + 1) by omega]
    exact ⟨fun ⟨a, b, c⟩ => ⟨⟨a, b⟩, c⟩, fun ⟨⟨a, b⟩, c⟩ => ⟨a, b, c⟩⟩
theorem l_W_tr {T2 : r_T} {o o2 : Nat} {l : List sP} (h : l_W T o l) (e : ∀ i, i < l.length → r_w T2 (o2 + i) = r_w T (o + i)) : l_W T2 o2 l := fun i q hq => by
  have hi : i < l.length := by
    rcases Nat.lt_or_ge i l.length with w | w
    · exact w
    · rw [List.getElem?_eq_none w] at hq; cases hq
  rw [e i hi]
  exact h i q hq
theorem r_w_P (j : Nat) (p : sP) (i : Nat) : r_w (rt_P T j p) i = if i = j then p else r_w T i := by
  unfold r_w rt_P
  by_cases e : i = j
  · simp [rt_AA, e]
  · simp [rt_AA, e]
/-- starts and ends of the pieces -/
def l_b (T : r_T) (z : sP → Nat) (l : List sP) : Prop := ∀ i, i < l.length → T.2 46 i = nI (e_end z 0 (l.take i)) ∧ T.2 47 i = nI (e_end z 0 (l.take (i + 1)))
theorem s_ip_pp (R : Nat → Nat → List sP) (w m : Nat) (p : sP) : (s_ip R 4 w m p).length = (s_pp R 4 m p).length := by
  unfold s_ip s_pp
  by_cases c : p.1 < 2
  · rw [if_pos c, if_pos c, List.length_map]
  · rw [if_neg c, if_neg c, List.length_map, List.length_take, List.length_drop, List.length_take]
    show _ = (((s_sh R 3 (h_ix p.2.2.2.1) (if p.1 = 2 then h_ix p.2.2.2.2 else m)).drop (h_ix p.2.1)).take (h_ix p.2.2.1)).length
    rw [List.length_take, List.length_drop, ← s_it_sh, List.length_take, List.length_map]
theorem l_num_app (w m : Nat) (b : List sP) : ∀ (a : List sP) (p : Nat), l_num s w m p (a ++ b) = l_num s w m p a ++ l_num s w m (p + a.length) b := by
  intro a
  induction a with
  | nil => intro p; rfl
  | cons q a ih =>
    intro p
    show l_IT s 4 w m p [] q ++ l_num s w m (p + 1) (a ++ b) = (l_IT s 4 w m p [] q ++ l_num s w m (p + 1) a) ++ _
    rw [ih, List.append_assoc, List.length_cons, show p + 1 + a.length = p + (a.length + 1) by omega]
theorem l_IT_len (w m p : Nat) (q : sP) : (l_IT s 4 w m p [] q).length = e_z s m q := by
  unfold l_IT e_z
  rw [List.length_map, s_ip_pp]
theorem l_num_end (w m : Nat) : ∀ (a : List sP) (p c : Nat), e_end (e_z s m) (min 300 c) a = min 300 (c + (l_num s w m p a).length) := by
  intro a
  induction a with
  | nil => intro p c; rfl
  | cons q a ih =>
    intro p c
    show e_end (e_z s m) (min 300 (min 300 c + e_z s m q)) a = min 300 (c + (l_IT s 4 w m p [] q ++ l_num s w m (p + 1) a).length)
    rw [List.length_append, l_IT_len, show min 300 (min 300 c + e_z s m q) = min 300 (c + e_z s m q) by omega, ih (p + 1)]
    congr 1
    omega
theorem l_num_ge (w m : Nat) : ∀ (a : List sP) (p : Nat) (y : lI), y ∈ l_num s w m p a → p ≤ y.2.1 := by
  intro a
  induction a with
  | nil => intro p y hy; exact absurd hy List.not_mem_nil
  | cons q a ih =>
    intro p y hy
    rcases List.mem_append.mp (show y ∈ l_IT s 4 w m p [] q ++ l_num s w m (p + 1) a from hy) with w1 | w1
    · unfold l_IT at w1
      obtain ⟨x, _, e⟩ := List.mem_map.mp w1
      rw [← e]; exact Nat.le_refl _
    · have := ih (p + 1) y w1; omega
theorem l_end_len (w m : Nat) (l : List sP) : (l_OUT s w m l).length = e_end (e_z s m) 0 l := by
  unfold l_OUT
  rw [List.length_take]
  have := l_num_end (s := s) w m l 0 0
  rw [Nat.zero_add] at this
  exact this.symm
/-- which piece a place is of -/
theorem l_OUT_num {w m j i : Nat} {l : List sP} (hj : j < l.length) (hi : e_end (e_z s m) 0 (l.take j) ≤ i) {y : lI} (hy : (l_OUT s w m l)[i]? = some y) : (i < e_end (e_z s m) 0 (l.take (j + 1)) → y.2.1 = j) ∧ (e_end (e_z s m) 0 (l.take (j + 1)) ≤ i → y.2.1 ≠ j) := by
  have hi3 : i < 300 := by
    have : i < (l_OUT s w m l).length := by
      rcases Nat.lt_or_ge i (l_OUT s w m l).length with w | w
      · exact w
      · rw [List.getElem?_eq_none w] at hy; cases hy
    unfold l_OUT at this
    rw [List.length_take] at this
    omega
  have hy2 : (l_num s w m 0 l)[i]? = some y := by
    unfold l_OUT at hy
    rw [List.getElem?_take, if_pos hi3] at hy
    exact hy
  have el : l = l.take j ++ (l[j] :: l.drop (j + 1)) := by
    rw [← List.drop_eq_getElem_cons hj, List.take_append_drop]
  have e0 := l_num_end (s := s) w m (l.take j) 0 0
  have e1 := l_num_end (s := s) w m (l.take (j + 1)) 0 0
  rw [Nat.zero_add, show min 300 0 = 0 from rfl] at e0 e1
  have ll : (l.take j).length = j := by rw [List.length_take]; omega
  have ln : (l_num s w m 0 (l.take (j + 1))).length = (l_num s w m 0 (l.take j)).length + e_z s m l[j] := by
    rw [List.take_succ_eq_append_getElem hj, l_num_app, List.length_append]
    show _ + (l_IT s 4 w m _ [] l[j] ++ []).length = _
    rw [List.append_nil, l_IT_len]
  rw [e0] at hi
  rw [e1]
  have hi0 : (l_num s w m 0 (l.take j)).length ≤ i := by omega
  rw [el, l_num_app, ll, List.getElem?_append_right hi0, Nat.zero_add] at hy2
  have hy3 : (l_IT s 4 w m j [] l[j] ++ l_num s w m (j + 1) (l.drop (j + 1)))[i - (l_num s w m 0 (l.take j)).length]? = some y := hy2
  constructor
  · intro h
    rw [List.getElem?_append_left (by rw [l_IT_len]; omega)] at hy3
    unfold l_IT at hy3
    rw [List.getElem?_map] at hy3
    obtain ⟨x, _, e⟩ := Option.map_eq_some_iff.mp hy3
    rw [← e]
  · intro h
    rw [List.getElem?_append_right (by rw [l_IT_len]; omega)] at hy3
    have := l_num_ge w m _ _ y (List.mem_of_getElem? hy3)
    omega
theorem ri_bound_19 {K4 : Int32 → Int32 → r_T → Option (Unit × r_T)} {w m j : Nat} {l : List sP} (hj : j < l.length) (hl : l.length ≤ 60) (h35 : T.1 35 = nI (l_OUT s w m l).length) (h37 : ∀ (i : Nat) (y : lI), (l_OUT s w m l)[i]? = some y → T.2 37 i = nI y.2.1) (h37b : ∀ (y : lI), y ∈ l_OUT s w m l → y.2.1 < 2 ^ 31) : ∀ (d a N : Nat), a + d = e_end (e_z s m) 0 (l.take (j + 1)) → e_end (e_z s m) 0 (l.take j) ≤ a → d < N → fn_X12_bound_19 K4 N (nI a) (nI j) T = K4 (nI (e_end (e_z s m) 0 (l.take (j + 1)))) (nI (j + 1)) (rt_A T 47 j (nI (e_end (e_z s m) 0 (l.take (j + 1))))) := by
  have lo : (l_OUT s w m l).length ≤ 300 := by unfold l_OUT; rw [List.length_take]; omega
  have hE : e_end (e_z s m) 0 (l.take (j + 1)) ≤ (l_OUT s w m l).length := by
    rw [l_end_len]
    have : l = l.take (j + 1) ++ l.drop (j + 1) := (List.take_append_drop _ _).symm
    conv => rhs; rw [this, e_end_app]
    exact (e_end_ge _ _ (e_end_ge _ _ (by omega)).2).1
  intro d
  induction d with
  | zero =>
    intro a N ha h0 hN
    obtain ⟨N, rfl⟩ : ∃ m, N = m + 1 := ⟨N - 1, by omega⟩
    show fn_X12_bound_19b _ _ _ _ _ = _
    unfold fn_X12_bound_19b fn_X12_bound_43
    rw [h35, fg_g_1 ((n_vp (k := j) (by omega)).mpr (by omega)), fg_let_1, n_p1, q_nIx (by omega), show a = e_end (e_z s m) 0 (l.take (j + 1)) by omega]
    by_cases c : (l_OUT s w m l).length ≤ e_end (e_z s m) 0 (l.take (j + 1))
    · rw [fg_if_1 ((n_le (by omega) (by omega)).mpr c)]
    · rw [fg_if_0 (fun q => c ((n_le (by omega) (by omega)).mp q)), fg_g_1 ((n_vp (by omega)).mpr (by omega)), q_nIx (by omega)]
      have hi : e_end (e_z s m) 0 (l.take (j + 1)) < (l_OUT s w m l).length := by omega
      have hy := List.getElem?_eq_getElem hi
      have n1 := (l_OUT_num hj (by omega) hy).2 (Nat.le_refl _)
      rw [h37 _ _ hy, fg_if_0 (fun q => n1 ((n_eq (h37b _ (List.getElem_mem hi)) (by omega)).mp q))]
  | succ d ih =>
    intro a N ha h0 hN
    obtain ⟨N, rfl⟩ : ∃ m, N = m + 1 := ⟨N - 1, by omega⟩
    show fn_X12_bound_19b _ (fn_X12_bound_19 K4 N) _ _ _ = _
    unfold fn_X12_bound_19b
    have hi : a < (l_OUT s w m l).length := by omega
    have hy := List.getElem?_eq_getElem hi
    have n1 := (l_OUT_num hj h0 hy).1 (by omega)
    rw [h35, fg_if_0 (fun q => by have := (n_le (a := (l_OUT s w m l).length) (b := a) (by omega) (by omega)).mp q; omega), fg_g_1 ((n_vp (by omega)).mpr (by omega)), q_nIx (by omega), h37 _ _ hy, fg_if_1 (by rw [n1]), n_p1]
    exact ih (a + 1) N (by omega) (by omega) (by omega)
theorem ri_bound_4 {w m : Nat} {l : List sP} (hl : l.length ≤ 60) (h40 : t.1 40 = nI l.length) (h35 : t.1 35 = nI (l_OUT s w m l).length) (h37 : ∀ (i : Nat) (y : lI), (l_OUT s w m l)[i]? = some y → t.2 37 i = nI y.2.1) (h37b : ∀ (y : lI), y ∈ l_OUT s w m l → y.2.1 < 2 ^ 31) : ∀ (d j N : Nat) (T : r_T), j + d = l.length → d < N → r_fr [46, 47] t T → (∀ i, i < j → T.2 46 i = nI (e_end (e_z s m) 0 (l.take i)) ∧ T.2 47 i = nI (e_end (e_z s m) 0 (l.take (i + 1)))) → ∃ T2, fn_X12_bound_4 N (nI (e_end (e_z s m) 0 (l.take j))) (nI j) T = some ((), T2) ∧ r_fr [46, 47] t T2 ∧ l_b T2 (e_z s m) l := by
  intro d
  induction d with
  | zero =>
    intro j N T hj hN hf hb
    obtain ⟨N, rfl⟩ : ∃ m, N = m + 1 := ⟨N - 1, by omega⟩
    refine ⟨T, ?_, hf, fun i hi => hb i (by omega)⟩
    show fn_X12_bound_4b _ _ _ _ = _
    unfold fn_X12_bound_4b
    rw [hf.1 40 (by decide), h40, fg_if_1 ((n_le (by omega) (by omega)).mpr (by omega))]
  | succ d ih =>
    intro j N T hj hN hf hb
    obtain ⟨N, rfl⟩ : ∃ m, N = m + 1 := ⟨N - 1, by omega⟩
    show ∃ T2, fn_X12_bound_4b (fn_X12_bound_4 N) _ _ _ = _ ∧ _
    unfold fn_X12_bound_4b
    have hE := e_end_ge (z := e_z s m) (l.take (j + 1)) 0 (by omega)
    have f1 : r_fr [46, 47] t (rt_A T 46 j (nI (e_end (e_z s m) 0 (l.take j)))) := r_frt hf (r_frA (by decide))
    have hle : e_end (e_z s m) 0 (l.take j) ≤ e_end (e_z s m) 0 (l.take (j + 1)) := by
      rw [List.take_succ_eq_append_getElem (show j < l.length by omega), e_end_app]
      exact (e_end_ge _ _ (e_end_ge _ _ (by omega)).2).1
    rw [hf.1 40 (by decide), h40, fg_if_0 (fun q => by have := (n_le (a := l.length) (b := j) (by omega) (by omega)).mp q; omega), fg_g_1 ((n_vp (k := j) (by omega)).mpr (by omega)), fg_let_1, q_nIx (by omega)]
    rw [ri_bound_19 (s := s) (w := w) (m := m) (by omega) hl (by rw [f1.1 35 (by decide)]; exact h35) (fun i y hy => by rw [f1.2 37 (by decide)]; exact h37 i y hy) h37b (e_end (e_z s m) 0 (l.take (j + 1)) - e_end (e_z s m) 0 (l.take j)) (e_end (e_z s m) 0 (l.take j)) g_N (by omega) (Nat.le_refl _) (by have := g_N_le; omega)]
    refine ih (j + 1) N _ (by omega) (by omega) (r_frt f1 (r_frA (by decide))) (fun i hi => ?_)
    by_cases e : i = j
    · subst e
      exact ⟨by rw [rt_AA, if_neg (by decide), rt_AA, if_pos rfl, if_pos rfl], by rw [rt_AA, if_pos rfl, if_pos rfl]⟩
    · have := hb i (by omega)
      exact ⟨by rw [rt_AA, if_neg (by decide), rt_AA, if_pos rfl, if_neg e]; exact this.1, by rw [rt_AA, if_pos rfl, if_neg e, rt_AA, if_neg (by decide)]; exact this.2⟩
theorem l_num_lt (w m : Nat) : ∀ (a : List sP) (p : Nat) (y : lI), y ∈ l_num s w m p a → y.2.1 < p + a.length := by
  intro a
  induction a with
  | nil => intro p y hy; exact absurd hy List.not_mem_nil
  | cons q a ih =>
    intro p y hy
    rcases List.mem_append.mp (show y ∈ l_IT s 4 w m p [] q ++ l_num s w m (p + 1) a from hy) with w1 | w1
    · unfold l_IT at w1
      obtain ⟨x, _, e⟩ := List.mem_map.mp w1
      rw [← e, List.length_cons]
      show p < p + (a.length + 1)
      omega
    · have := ih (p + 1) y w1
      rw [List.length_cons]
      omega
theorem ri_bound {w m : Nat} {l : List sP} (hl : l.length ≤ 60) (h40 : t.1 40 = nI l.length) (h35 : t.1 35 = nI (l_OUT s w m l).length) (h37 : l_out t (l_OUT s w m l)) : ∃ T2, fn_X12_bound t = some ((), T2) ∧ r_fr [46, 47] t T2 ∧ l_b T2 (e_z s m) l := by
  unfold fn_X12_bound
  exact ri_bound_4 (s := s) (w := w) hl h40 h35 (fun i y hy => (h37 i y hy).2.1) (fun y hy => by
    have := l_num_lt w m l 0 y (List.mem_of_mem_take hy)
    omega) l.length 0 g_N t (by omega) (by have := g_N_le; omega) r_fr0 (fun i hi => absurd hi (Nat.not_lt_zero _))
end RE
