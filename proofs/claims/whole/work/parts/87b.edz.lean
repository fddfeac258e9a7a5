/-! sizes of pieces -/
section EZ
variable {s : sA}
def e_L (s : sA) (m : Nat) (p : sP) : Nat := (s_sh (sR s) 3 (h_ix p.2.2.2.1) (if p.1 = 2 then h_ix p.2.2.2.2 else m)).length
theorem s_ws_len (a : Int32) (n : Nat) : (s_ws a n).length = n := by
  unfold s_ws
  rw [List.length_map, List.length_range]
theorem e_z_w {m : Nat} {p : sP} (h : p.1 < 2) : e_z s m p = h_ix p.2.2.1 := by
  unfold e_z s_pp
  rw [if_pos h, s_ws_len]
theorem e_z_s {m : Nat} {p : sP} (h : ¬ p.1 < 2) : e_z s m p = min (e_L s m p - h_ix p.2.1) (h_ix p.2.2.1) := by
  unfold e_z s_pp e_L
  rw [if_neg h, List.length_take, List.length_drop]
  exact Nat.min_comm _ _
/-- a piece as it may be, its words there -/
def s_pk (s : sA) (p : sP) : Prop := s_pok (sC s 2) p ∧ (p.1 < 2 → h_ix p.2.1 + h_ix p.2.2.1 ≤ sC s 3)
theorem e_z_300 {m : Nat} {p : sP} (h : ¬ p.1 < 2) : h_ix p.2.1 + e_z s m p ≤ 300 ∨ e_z s m p = 0 := by
  rw [e_z_s h]
  have := s_sh_300 (sR s) 3 (h_ix p.2.2.2.1) (if p.1 = 2 then h_ix p.2.2.2.2 else m)
  unfold e_L
  omega
theorem e_z_hd {m k : Nat} {p : sP} (hk : k < e_z s m p) (h5 : k < 2 ^ 31) : e_z s m (e_hd p k) = k := by
  by_cases c : p.1 < 2
  · rw [e_z_w (p := e_hd p k) c]
    exact q_nIx h5
  · rw [e_z_s (p := e_hd p k) c]
    rw [e_z_s c] at hk
    show min (e_L s m p - h_ix p.2.1) (h_ix (nI k)) = k
    rw [q_nIx h5]
    omega
theorem e_z_tl {m k a n : Nat} {p : sP} (hk : k < e_z s m p) (ea : p.2.1 = nI a) (ha : a ≤ 600) (en : p.2.2.1 = nI n) (hn : n ≤ 500) : e_z s m (e_tl p k) = e_z s m p - k ∧ (e_tl p k).2.1 = nI (a + k) ∧ (e_tl p k).2.2.1 = nI (n - k) ∧ e_z s m p ≤ n := by
  have hz : e_z s m p ≤ n := by
    by_cases c : p.1 < 2
    · rw [e_z_w c, en, q_nIx (by omega)]; exact Nat.le_refl _
    · rw [e_z_s c, en, q_nIx (by omega)]; omega
  have e1 : (e_tl p k).2.1 = nI (a + k) := by show p.2.1 + nI k = _; rw [ea, n_add]
  have e2 : (e_tl p k).2.2.1 = nI (n - k) := by show p.2.2.1 - nI k = _; rw [en, n_sub (by omega)]
  refine ⟨?_, e1, e2, hz⟩
  by_cases c : p.1 < 2
  · rw [e_z_w (p := e_tl p k) c, e_z_w c, e2, en, q_nIx (by omega), q_nIx (by omega)]
  · rw [e_z_s (p := e_tl p k) c, e_z_s c, e1, e2, ea, en, q_nIx (by omega), q_nIx (by omega), q_nIx (by omega), q_nIx (by omega)]
    show min (e_L s m p - (a + k)) (n - k) = _
    rw [e_z_s c, ea, en, q_nIx (by omega), q_nIx (by omega)] at hk
    omega
theorem e_ok_z {m : Nat} {p : sP} (h : s_pk s p) : e_ok (e_z s m) p := by
  obtain ⟨⟨_, ⟨n, hn1, hn, en⟩, ⟨a, ha, ea⟩, _⟩, _⟩ := h
  have hz : e_z s m p ≤ n := by
    by_cases c : p.1 < 2
    · rw [e_z_w c, en, q_nIx (by omega)]; exact Nat.le_refl _
    · rw [e_z_s c, en, q_nIx (by omega)]; omega
  refine ⟨⟨n, hn, en, hz⟩, fun k hk => ?_⟩
  obtain ⟨t1, t2, t3, t4⟩ := e_z_tl hk ea (by omega) en hn
  refine ⟨e_z_hd hk (by omega), t1, ⟨n - k, by omega, t3, by omega⟩, fun j hj => ⟨e_z_hd (p := e_tl p k) (by omega) (by omega), ?_⟩⟩
  by_cases c : p.1 < 2
  · rw [e_z_w (p := e_tl (e_tl p k) j) c, e_z_w c, en, q_nIx (by omega)]
    show h_ix ((e_tl p k).2.2.1 - nI j) = _
    rw [e_z_w c, en, q_nIx (by omega)] at hj hk
    rw [t3, n_sub (by omega), q_nIx (by omega)]
  · have ha3 : a + k ≤ 600 := by
      have := e_z_300 (s := s) (m := m) c
      rw [ea, q_nIx (by omega)] at this
      omega
    exact (t1 ▸ (e_z_tl (p := e_tl p k) (by omega) t2 ha3 t3 (by omega)).1)
theorem s_pk_hd {m k : Nat} {p : sP} (v : ivc s) (h : s_pk s p) (h0 : 0 < k) (hk : k < e_z s m p) : s_pk s (e_hd p k) ∧ s_pk s (e_tl p k) := by
  obtain ⟨⟨h1, ⟨n, hn1, hn, en⟩, ⟨a, ha, ea⟩, h4, h5⟩, h6⟩ := h
  obtain ⟨t1, t2, t3, t4⟩ := e_z_tl hk ea (by omega) en hn
  refine ⟨⟨⟨h1, ⟨k, h0, by omega, rfl⟩, ⟨a, ha, ea⟩, h4, h5⟩, fun c => ?_⟩, ⟨⟨h1, ⟨n - k, by omega, by omega, t3⟩, ⟨a + k, ?_, t2⟩, h4, h5⟩, fun c => ?_⟩⟩
  · have := h6 c
    rw [ea, en, q_nIx (by omega), q_nIx (by omega)] at this
    show h_ix p.2.1 + h_ix (nI k) ≤ _
    rw [ea, q_nIx (by omega), q_nIx (by omega)]
    omega
  · by_cases c : p.1 < 2
    · have := h6 c
      rw [ea, en, q_nIx (by omega), q_nIx (by omega)] at this
      have v3 := v.2.2.2.1
      omega
    · have := e_z_300 (s := s) (m := m) c
      rw [ea, q_nIx (by omega)] at this
      omega
  · have := h6 c
    rw [ea, en, q_nIx (by omega), q_nIx (by omega)] at this
    rw [t2, t3, q_nIx (by omega), q_nIx (by omega)]
    omega
end EZ
