/-! seek of the class: hits are kept by counting -/
section SCn
variable {H : List sH}
def s_hc (H : List sH) (l : Nat) : Nat := (H.filter (fun h => decide (h.2.2 = l))).length
theorem s_hc_s {j : Nat} (hj : j < H.length) (l : Nat) : s_hc (H.take (j + 1)) l = s_hc (H.take j) l + if H[j].2.2 = l then 1 else 0 := by
  unfold s_hc
  rw [← List.take_append_getElem hj, List.filter_append, List.length_append]
  by_cases c : H[j].2.2 = l
  · rw [List.filter_cons_of_pos (by simp [c]), if_pos c]; rfl
  · rw [List.filter_cons_of_neg (by simp [c]), if_neg c]; rfl
theorem s_srt_s (m : Nat) (H : List sH) : (s_srt (m + 1) H).length = s_hc H m + (s_srt m H).length := by
  show (_ ++ _ : List sH).length = _
  rw [List.length_append]
  rfl
theorem s_srt_mono {m l : Nat} (h : l ≤ m) : (s_srt l H).length ≤ (s_srt m H).length := by
  induction h with
  | refl => exact Nat.le_refl _
  | step h ih => rw [s_srt_s]; omega
theorem s_srt_at {l c : Nat} (hc : c < s_hc H l) : ∀ m, l < m → (s_srt m H)[(s_srt m H).length - (s_srt (l + 1) H).length + c]? = (H.filter (fun h => decide (h.2.2 = l)))[c]? := by
  intro m
  induction m with
  | zero => intro h; omega
  | succ m ih =>
    intro hl
    have e := s_srt_s m H
    by_cases c1 : l = m
    · subst c1
      rw [Nat.sub_self, Nat.zero_add]
      show (H.filter (fun h => decide (h.2.2 = l)) ++ s_srt l H)[c]? = _
      rw [List.getElem?_append_left hc]
    · have := ih (by omega)
      have mo := s_srt_mono (H := H) (show l + 1 ≤ m by omega)
      rw [show (s_srt (m + 1) H).length - (s_srt (l + 1) H).length + c = s_hc H m + ((s_srt m H).length - (s_srt (l + 1) H).length + c) by omega, ← this]
      show (H.filter (fun h => decide (h.2.2 = m)) ++ s_srt m H)[_]? = _
      rw [List.getElem?_append_right (show (H.filter (fun h => decide (h.2.2 = m))).length ≤ s_hc H m + _ from Nat.le_add_right _ _)]
      congr 1
      exact Nat.add_sub_cancel_left (s_hc H m) _
theorem s_flt_at {A B : List sH} {x : sH} {p : sH → Bool} (hp : p x = true) : ((A ++ x :: B).filter p)[(A.filter p).length]? = some x := by
  rw [List.filter_append, List.getElem?_append_right (Nat.le_refl _), Nat.sub_self, List.filter_cons_of_pos hp]
  rfl
theorem s_hc_at {j : Nat} {x : sH} (hx : H[j]? = some x) : (H.filter (fun h => decide (h.2.2 = x.2.2)))[s_hc (H.take j) x.2.2]? = some x := by
  obtain ⟨hj, e⟩ := List.getElem?_eq_some_iff.mp hx
  have e1 : H.take j ++ x :: H.drop (j + 1) = H := by rw [← e, ← List.drop_eq_getElem_cons hj, List.take_append_drop]
  have := s_flt_at (A := H.take j) (x := x) (B := H.drop (j + 1)) (p := fun h => decide (h.2.2 = x.2.2)) (by simp)
  rw [e1] at this
  exact this
theorem s_hsur : ∀ (H : List sH) (l c : Nat), c < s_hc H l → ∃ j x, H[j]? = some x ∧ x.2.2 = l ∧ s_hc (H.take j) l = c := by
  intro H
  induction H with
  | nil => intro l c h; exact absurd h (Nat.not_lt_zero _)
  | cons x H ih =>
    intro l c h
    by_cases e : x.2.2 = l
    · have e1 : ∀ T : List sH, s_hc (x :: T) l = s_hc T l + 1 := fun T => by unfold s_hc; rw [List.filter_cons_of_pos (by simp [e])]; rfl
      rw [e1] at h
      by_cases c0 : c = 0
      · exact ⟨0, x, rfl, e, by rw [c0]; rfl⟩
      · obtain ⟨j, z, h1, h2, h3⟩ := ih l (c - 1) (by omega)
        refine ⟨j + 1, z, h1, h2, ?_⟩
        rw [List.take_succ_cons, e1, h3]
        omega
    · have e1 : ∀ T : List sH, s_hc (x :: T) l = s_hc T l := fun T => by unfold s_hc; rw [List.filter_cons_of_neg (by simp [e])]
      rw [e1] at h
      obtain ⟨j, z, h1, h2, h3⟩ := ih l c h
      refine ⟨j + 1, z, h1, h2, ?_⟩
      rw [List.take_succ_cons, e1, h3]
theorem s_blk : ∀ m i, i < (s_srt m H).length → ∃ l c, l < m ∧ c < s_hc H l ∧ i = (s_srt m H).length - (s_srt (l + 1) H).length + c := by
  intro m
  induction m with
  | zero => intro i h; exact absurd h (Nat.not_lt_zero _)
  | succ m ih =>
    intro i h
    have e := s_srt_s m H
    by_cases c : i < s_hc H m
    · exact ⟨m, i, by omega, c, by omega⟩
    · obtain ⟨l, d, h1, h2, h3⟩ := ih (i - s_hc H m) (by omega)
      have mo := s_srt_mono (H := H) (show l + 1 ≤ m by omega)
      exact ⟨l, d, by omega, h2, by omega⟩
theorem s_srt_len (hH : ∀ x, x ∈ H → x.2.2 ≤ 24) : (s_srt 25 H).length = H.length := by
  have : ∀ j, j ≤ H.length → (s_srt 25 (H.take j)).length = j := by
    intro j
    induction j with
    | zero => intro _; rw [List.take_zero]; rfl
    | succ j ih =>
      intro hj
      obtain ⟨A, B, h1, h2, _, _⟩ := s_srt_sn 25 (H.take j) H[j] (by have := hH _ (List.getElem_mem (show j < H.length by omega)); omega)
      have e := ih (by omega)
      rw [h1, List.length_append] at e
      rw [← List.take_append_getElem (show j < H.length by omega), h2, List.length_append, List.length_cons]
      omega
  have e := this H.length (Nat.le_refl _)
  rw [List.take_length] at e
  exact e
/-- where the r-th hit comes to lie -/
def s_pos (H : List sH) (r : Nat) : Nat := (s_srt 25 H).length - (s_srt ((H[r]?.getD (0, 0, 0)).2.2 + 1) H).length + s_hc (H.take r) (H[r]?.getD (0, 0, 0)).2.2
theorem s_pos_e {r : Nat} {x : sH} (hx : H[r]? = some x) : s_pos H r = (s_srt 25 H).length - (s_srt (x.2.2 + 1) H).length + s_hc (H.take r) x.2.2 := by
  unfold s_pos
  rw [hx]
  rfl
theorem s_pos_at {r : Nat} {x : sH} (hx : H[r]? = some x) (hl : x.2.2 ≤ 24) : (s_srt 25 H)[s_pos H r]? = some x := by
  have e := s_hc_at hx
  rw [s_pos_e hx, s_srt_at (by exact (List.getElem?_eq_some_iff.mp e).1) 25 (by omega)]
  exact e
theorem s_pos_sur {i : Nat} (hi : i < (s_srt 25 H).length) : ∃ r, r < H.length ∧ i = s_pos H r := by
  obtain ⟨l, c, h1, h2, h3⟩ := s_blk 25 i hi
  obtain ⟨j, x, e1, e2, e3⟩ := s_hsur H l c h2
  refine ⟨j, (List.getElem?_eq_some_iff.mp e1).1, ?_⟩
  rw [s_pos_e e1, e2, e3]
  exact h3
end SCn
section CSn
variable {k K k2 : h_S} {s : sA} {y : c_Y} {M : Nat} {H : List sH} {q : Nat}
theorem ci_lh {h : sH} (o : s_hok h) : fn_X11_linksOfHit (nI (s_hcd h)) k = some (nI h.2.2, k) := by
  obtain ⟨b1, b2⟩ := s_hcd_b o
  unfold fn_X11_linksOfHit
  rw [show (4800 : Int32) = nI 4800 from rfl, show (24 : Int32) = nI 24 from rfl, n_div (by omega) (by omega), b2, n_min _ _ (by have := o.2.2; omega) (by omega), Nat.min_eq_left o.2.2]
/-- the counters -/
def c_nx (k : h_S) (q : Nat) (f : Nat → Nat) : Prop := h_k k q = 1 ∧ h_n k q = 26 ∧ ∀ l, l < 25 → h_i k q l = nI (f l)
theorem c_nx_u {f : Nat → Nat} {l v : Nat} (h : c_nx k q f) : c_nx (h_si k q l (nI v)) q (fun x => if x = l then v else f x) := by
  refine ⟨h.1, h.2.1, fun x hx => ?_⟩
  rw [h_i_si]
  show _ = nI (if x = l then v else f x)
  by_cases e : x = l
  · rw [if_pos ⟨rfl, e⟩, if_pos e]
  · rw [if_neg (fun z => e z.2), if_neg e]; exact h.2.2 x hx
theorem c_nx_c {f g : Nat → Nat} (h : c_nx k q f) (e : ∀ l, l < 25 → f l = g l) : c_nx k q g := ⟨h.1, h.2.1, fun l hl => by rw [h.2.2 l hl, e l hl]⟩
theorem ci_keep_7 (nq : q ≠ 12) (hH : ∀ x, x ∈ H → s_hok x) (hl : H.length ≤ 4800) (hf : c_hl (h_i K 12) H) : ∀ (d j N : Nat) (k2 : h_S), j + d = H.length → d < N → c_ww [13, q] K k2 → c_nx k2 q (s_hc (H.take j)) → ∃ k3, fn_X11_keepHits_7 N (nI H.length) q (nI j) k2 = fn_X11_keepHits_39 g_N (nI H.length) q 0 24 k3 ∧ c_ww [13, q] K k3 ∧ c_nx k3 q (s_hc H) := by
  intro d
  induction d with
  | zero =>
    intro j N k2 hj hN hw hx
    obtain ⟨N, rfl⟩ : ∃ m, N = m + 1 := ⟨N - 1, by omega⟩
    refine ⟨k2, ?_, hw, ?_⟩
    · show fn_X11_keepHits_7b _ _ _ _ _ = _
      unfold fn_X11_keepHits_7b
      rw [fg_if_1 ((n_le (by omega) (by omega)).mpr (by omega))]
    · rw [show j = H.length by omega, List.take_length] at hx
      exact hx
  | succ d ih =>
    intro j N k2 hj hN hw hx
    obtain ⟨N, rfl⟩ : ∃ m, N = m + 1 := ⟨N - 1, by omega⟩
    have hj2 : j < H.length := by omega
    have o := hH _ (List.getElem_mem hj2)
    have ef : h_i k2 12 j = nI (s_hcd H[j]) := by
      rw [(hw.2 12 (by simp; omega)).2.2.1]
      exact hf j _ (List.getElem?_eq_getElem hj2)
    have o3 := o.2.2
    have gq : vp_in (nI H[j].2.2) (h_n k2 q) := by rw [hx.2.1]; exact (n_vp (by omega)).mpr (by omega)
    have hb : s_hc (H.take j) H[j].2.2 ≤ 4800 := by
      have := List.length_filter_le (fun h : sH => decide (h.2.2 = H[j].2.2)) (H.take j)
      have := List.length_take_le j H
      unfold s_hc
      omega
    show ∃ k3, fn_X11_keepHits_7b (fn_X11_keepHits_7 N) _ _ _ _ = _ ∧ _
    unfold fn_X11_keepHits_7b
    rw [fg_if_0 (fun w => by have := (n_le (a := H.length) (b := j) (by omega) (by omega)).mp w; omega), fg_g_1 ((n_vp (by omega)).mpr (by omega)), q_nIx (show j < 2 ^ 31 by omega), ef, ci_lh o, fg_b_1, fg_g_1 hx.1, fg_g_1 gq, fg_g_1 gq, fg_let_1, q_nIx (show H[j].2.2 < 2 ^ 31 by omega), hx.2.2 _ (by omega), n_p1, n_p1]
    refine ih (j + 1) N _ (by omega) (by omega) (c_wwt hw (c_ww_si hw.1 (by simp))) (c_nx_c (c_nx_u hx) (fun l _ => ?_))
    rw [s_hc_s hj2]
    by_cases e : l = H[j].2.2
    · rw [if_pos e, if_pos e.symm, e]
    · rw [if_neg e, if_neg (fun z => e z.symm), Nat.add_zero]
theorem ci_keep_39 (hl : (s_srt 25 H).length ≤ 4800) : ∀ (d N : Nat) (k2 : h_S), d ≤ 25 → d < N → c_ww [13, q] K k2 → c_nx k2 q (fun l => if l < d then s_hc H l else (s_srt 25 H).length - (s_srt (l + 1) H).length) → ∃ k3, fn_X11_keepHits_39 N (nI H.length) q (nI ((s_srt 25 H).length - (s_srt d H).length)) (nI d + (-1)) k2 = fn_X11_keepHits_69 g_N (nI H.length) q 0 k3 ∧ c_ww [13, q] K k3 ∧ c_nx k3 q (fun l => (s_srt 25 H).length - (s_srt (l + 1) H).length) := by
  intro d
  induction d with
  | zero =>
    intro N k2 hd hN hw hx
    obtain ⟨N, rfl⟩ : ∃ m, N = m + 1 := ⟨N - 1, by omega⟩
    refine ⟨k2, ?_, hw, c_nx_c hx (fun l _ => by rw [if_neg (by omega)])⟩
    show fn_X11_keepHits_39b _ _ _ _ _ _ = _
    unfold fn_X11_keepHits_39b
    rw [fg_if_1 (by decide)]
  | succ d ih =>
    intro N k2 hd hN hw hx
    obtain ⟨N, rfl⟩ : ∃ m, N = m + 1 := ⟨N - 1, by omega⟩
    have gq : vp_in (nI d) (h_n k2 q) := by rw [hx.2.1]; exact (n_vp (by omega)).mpr (by omega)
    have ev : h_i k2 q d = nI (s_hc H d) := by
      rw [hx.2.2 d (by omega)]
      dsimp only
      rw [if_pos (by omega)]
    have es := s_srt_s d H
    have mo := s_srt_mono (H := H) (show d + 1 ≤ 25 by omega)
    show ∃ k3, fn_X11_keepHits_39b (fn_X11_keepHits_39 N) _ _ _ _ _ = _ ∧ _
    unfold fn_X11_keepHits_39b
    rw [n_pm, fg_if_0 (n_neg (by omega)), fg_g_1 hx.1, fg_g_1 gq, fg_g_1 gq, fg_let_1, q_nIx (show d < 2 ^ 31 by omega), ev, n_add, show (s_srt 25 H).length - (s_srt (d + 1) H).length + s_hc H d = (s_srt 25 H).length - (s_srt d H).length by omega]
    refine ih N _ (by omega) (by omega) (c_wwt hw (c_ww_si hw.1 (by simp))) (c_nx_c (c_nx_u hx) (fun l _ => ?_))
    by_cases e : l = d
    · rw [if_pos e, if_neg (by omega), e]
    · rw [if_neg e]
      by_cases e2 : l < d
      · rw [if_pos e2, if_pos (by omega)]
      · rw [if_neg e2, if_neg (by omega)]
theorem ci_keep_69 (nq : q ≠ 12) (nq2 : q ≠ 13) (hH : ∀ x, x ∈ H → s_hok x) (hl : H.length ≤ 4800) (hf : c_hl (h_i K 12) H) : ∀ (d j N : Nat) (k2 : h_S), j + d = H.length → d < N → c_ww [13, q] K k2 → c_nx k2 q (fun l => (s_srt 25 H).length - (s_srt (l + 1) H).length + s_hc (H.take j) l) → (∀ (i : Nat) (x : sH), (s_srt 25 H)[i]? = some x → i < 200 → (∃ r, r < j ∧ i = s_pos H r) → h_i k2 13 i = nI (s_hcd x)) → ∃ k3, fn_X11_keepHits_69 N (nI H.length) q (nI j) k2 = some ((), h_si k3 0 15 (nI (min H.length 200)), 0, 0) ∧ c_ww [13, q] K k3 ∧ (∀ (i : Nat) (x : sH), (s_srt 25 H)[i]? = some x → i < 200 → h_i k3 13 i = nI (s_hcd x)) := by
  have hlen := s_srt_len (H := H) (fun x hx => (hH x hx).2.2)
  intro d
  induction d with
  | zero =>
    intro j N k2 hj hN hw hx hi
    obtain ⟨N, rfl⟩ : ∃ m, N = m + 1 := ⟨N - 1, by omega⟩
    refine ⟨k2, ?_, hw, fun i x h1 h2 => hi i x h1 h2 ?_⟩
    · show fn_X11_keepHits_69b _ _ _ _ _ = _
      unfold fn_X11_keepHits_69b
      rw [fg_if_1 ((n_le (by omega) (by omega)).mpr (by omega)), fg_let_1, show (200 : Int32) = nI 200 from rfl, n_min _ _ (by omega) (by omega)]
    · obtain ⟨r, r1, r2⟩ := s_pos_sur (List.getElem?_eq_some_iff.mp h1).1
      exact ⟨r, by omega, r2⟩
  | succ d ih =>
    intro j N k2 hj hN hw hx hi
    obtain ⟨N, rfl⟩ : ∃ m, N = m + 1 := ⟨N - 1, by omega⟩
    have hj2 : j < H.length := by omega
    have o := hH _ (List.getElem_mem hj2)
    have ef : h_i k2 12 j = nI (s_hcd H[j]) := by
      rw [(hw.2 12 (by simp; omega)).2.2.1]
      exact hf j _ (List.getElem?_eq_getElem hj2)
    have o3 := o.2.2
    have gq : vp_in (nI H[j].2.2) (h_n k2 q) := by rw [hx.2.1]; exact (n_vp (by omega)).mpr (by omega)
    have ep := s_pos_e (List.getElem?_eq_getElem hj2)
    have at1 := s_pos_at (List.getElem?_eq_getElem hj2) o3
    have pl := (List.getElem?_eq_some_iff.mp at1).1
    have ev : h_i k2 q H[j].2.2 = nI (s_pos H j) := by rw [hx.2.2 _ (by omega), ep]
    have tail : ∀ k4 : h_S, c_ww [13, q] K k4 → c_nx k4 q (fun l => (s_srt 25 H).length - (s_srt (l + 1) H).length + s_hc (H.take j) l) → (∀ (i : Nat) (x : sH), (s_srt 25 H)[i]? = some x → i < 200 → (∃ r, r < j + 1 ∧ i = s_pos H r) → h_i k4 13 i = nI (s_hcd x)) → ∃ k3, fn_X11_keepHits_113 (fn_X11_keepHits_69 N) (nI H.length) q (nI j) (nI H[j].2.2) k4 = some ((), h_si k3 0 15 (nI (min H.length 200)), 0, 0) ∧ c_ww [13, q] K k3 ∧ (∀ (i : Nat) (x : sH), (s_srt 25 H)[i]? = some x → i < 200 → h_i k3 13 i = nI (s_hcd x)) := by
      intro k4 w4 x4 i4
      have gq4 : vp_in (nI H[j].2.2) (h_n k4 q) := by rw [x4.2.1]; exact (n_vp (by omega)).mpr (by omega)
      have ev4 : h_i k4 q H[j].2.2 = nI (s_pos H j) := by rw [x4.2.2 _ (by omega), ep]
      unfold fn_X11_keepHits_113
      rw [fg_g_1 x4.1, fg_g_1 gq4, fg_g_1 gq4, fg_let_1, q_nIx (show H[j].2.2 < 2 ^ 31 by omega), ev4, n_p1, n_p1]
      refine ih (j + 1) N _ (by omega) (by omega) (c_wwt w4 (c_ww_si w4.1 (by simp))) (c_nx_c (c_nx_u x4) (fun l _ => ?_)) (fun i x h1 h2 h3 => ?_)
      · rw [s_hc_s hj2]
        by_cases e : l = H[j].2.2
        · rw [if_pos e, if_pos e.symm, e, ep]; omega
        · rw [if_neg e, if_neg (fun z => e z.symm)]; rfl
      · rw [h_i_si, if_neg (fun z => nq2 z.1.symm)]
        exact i4 i x h1 h2 h3
    show ∃ k3, fn_X11_keepHits_69b (fn_X11_keepHits_69 N) _ _ _ _ = _ ∧ _
    unfold fn_X11_keepHits_69b
    rw [fg_if_0 (fun w => by have := (n_le (a := H.length) (b := j) (by omega) (by omega)).mp w; omega), fg_g_1 ((n_vp (by omega)).mpr (by omega)), q_nIx (show j < 2 ^ 31 by omega), ef, ci_lh o, fg_b_1, fg_g_1 hx.1, fg_g_1 gq, q_nIx (show H[j].2.2 < 2 ^ 31 by omega), ev]
    by_cases c : 200 ≤ s_pos H j
    · have c' : (200 : Int32) ≤ nI (s_pos H j) := (n_le (a := 200) (by omega) (by omega)).mpr c
      rw [fg_if_1 c']
      refine tail k2 hw hx (fun i x h1 h2 h3 => hi i x h1 h2 ?_)
      obtain ⟨r, r1, r2⟩ := h3
      by_cases e : r = j
      · rw [e] at r2; omega
      · exact ⟨r, by omega, r2⟩
    · have c' : ¬ (200 : Int32) ≤ nI (s_pos H j) := fun w => c ((n_le (a := 200) (by omega) (by omega)).mp w)
      rw [fg_if_0 c', fg_g_1 gq, fg_g_1 ((n_vp (by omega)).mpr (by omega)), fg_g_1 ((n_vp (by omega)).mpr (by omega)), fg_let_1, q_nIx (show s_pos H j < 2 ^ 31 by omega)]
      refine tail _ (c_wwt hw (c_ww_si hw.1 (by simp))) ⟨hx.1, hx.2.1, fun l hl => by rw [h_i_si, if_neg (fun z => nq2 z.1)]; exact hx.2.2 l hl⟩ (fun i x h1 h2 h3 => ?_)
      rw [h_i_si]
      by_cases e : i = s_pos H j
      · rw [if_pos ⟨rfl, e⟩]
        rw [e, at1] at h1
        rw [ef, Option.some.inj h1]
      · rw [if_neg (fun z => e z.2)]
        obtain ⟨r, r1, r2⟩ := h3
        by_cases e2 : r = j
        · rw [e2] at r2; exact absurd r2 e
        · exact hi i x h1 h2 ⟨r, by omega, r2⟩
theorem ci_keepHits (hF : c_F k) (hH : ∀ x, x ∈ H → s_hok x) (hl : H.length ≤ 4800) (hf : c_hl (h_i k 12) H) : ∃ k3 q, fn_X11_keepHits (nI H.length) k = some ((), h_si k3 0 15 (nI (min H.length 200)), 1, 26) ∧ c_tg 15 q ∧ c_F k3 ∧ c_ww [13, q] (h_nw k q 1 26) k3 ∧ q = c_ad 15 k ∧ (∀ (i : Nat) (x : sH), (s_srt 25 H)[i]? = some x → i < 200 → h_i k3 13 i = nI (s_hcd x)) := by
  obtain ⟨q, eq⟩ : ∃ q, c_ad 15 k = q := ⟨_, rfl⟩
  have t : c_tg 15 q := by rw [← eq]; unfold c_ad c_tg; omega
  have hlen := s_srt_len (H := H) (fun x hx => (hH x hx).2.2)
  have F1 : c_F (h_nw k q 1 26) := cf_nw hF eq.symm (by decide)
  have t1 := t.1
  have hf1 : c_hl (h_i (h_nw k q 1 26) 12) H := fun j x hx => by rw [h_i_nw, if_neg (by omega)]; exact hf j x hx
  have x0 : c_nx (h_nw k q 1 26) q (s_hc (H.take 0)) := ⟨by rw [h_k_nw, if_pos rfl], by rw [h_n_nw, if_pos rfl], fun l _ => by rw [h_i_nw, if_pos rfl, List.take_zero]; rfl⟩
  obtain ⟨k3, a1, a2, a3⟩ := ci_keep_7 (K := h_nw k q 1 26) (q := q) (by omega) hH hl hf1 H.length 0 g_N _ (by omega) (by have := g_N_le; omega) (c_ww0 F1) x0
  obtain ⟨k4, b1, b2, b3⟩ := ci_keep_39 (K := h_nw k q 1 26) (q := q) (H := H) (by omega) 25 g_N k3 (by omega) (by have := g_N_le; omega) a2 (c_nx_c a3 (fun l hl => by rw [if_pos hl]))
  obtain ⟨k5, d1, d2, d3⟩ := ci_keep_69 (K := h_nw k q 1 26) (q := q) (by omega) (by omega) hH hl hf1 H.length 0 g_N k4 (by omega) (by have := g_N_le; omega) b2 (c_nx_c b3 (fun l _ => by rw [List.take_zero]; rfl)) (fun i x _ _ h => by obtain ⟨r, r1, _⟩ := h; omega)
  refine ⟨k5, q, ?_, t, d2.1, d2, eq.symm, d3⟩
  unfold fn_X11_keepHits
  rw [fg_let_1, eq, fg_let_1]
  rw [Nat.sub_self] at b1
  have := (a1.trans b1).trans d1
  rw [show (0 : Int32) = nI 0 from rfl, this]
  rfl
end CSn
