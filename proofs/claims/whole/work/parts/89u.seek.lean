/-! seeking: hits (version, place, links), those in more links first -/
abbrev sH : Type := Nat × Nat × Nat
def s_srt : Nat → List sH → List sH
  | 0, _ => []
  | m + 1, H => H.filter (fun h => decide (h.2.2 = m)) ++ s_srt m H
/-- in how many links a word is -/
noncomputable def s_lw (s : sA) (x : Int32) : Nat → Nat → Nat
  | 0, _ => 0
  | d + 1, l => fg_if (s_hl (s_e1 s l 0) (s_e2 s l 0) x ∨ s_hl (s_e1 s l 1) (s_e2 s l 1) x) 1 0 + s_lw s x d (l + 1)
def s_ht (s : sA) (a : Int32) (q i n v p : Nat) : Prop := p + n ≤ (s_vs s v).length ∧ ∀ j, j < n → ¬ s_vg s v (p + j) = -7 ∧ sF s 23 (h_ix (s_vg s v (p + j))) = sF s 112 (60 * q + i + j) ∧ s_isr s a (s_vg s v (p + j)) (nI (sC s 0))
noncomputable def s_hp (s : sA) (a : Int32) (q i n v : Nat) : Nat → Nat → List sH
  | 0, _ => []
  | d + 1, p => fg_if (s_ht s a q i n v p) ((v, p, s_lw s (s_vg s v p) (sC s 5) 0) :: s_hp s a q i n v d (p + 1)) (s_hp s a q i n v d (p + 1))
noncomputable def s_hv (s : sA) (a : Int32) (q i n : Nat) : Nat → Nat → List sH
  | 0, _ => []
  | d + 1, v => fg_if (s_opn s a v (nI (sC s 0))) (s_hp s a q i n v (s_vs s v).length 0) [] ++ s_hv s a q i n d (v + 1)
/-- the hits that are kept -/
def s_kept (s : sA) (K : List sH) : sA := uC (uFf (uFf (uFf s 106 (fun i => nI (K[i]?.getD (0, 0, 0)).1)) 107 (fun i => nI (K[i]?.getD (0, 0, 0)).2.1)) 108 (fun i => nI (K[i]?.getD (0, 0, 0)).2.2)) 8 K.length
noncomputable def s_seek (s : sA) (a k l i n : Int32) : Int32 × sA := fg_if (q_in a (sC s 1) ∧ q_in k 4) (fg_if (s_bf s (h_ix k) l i n = 0) (fg_if (n = 0) (-2, s_flt s 0) (nI (s_hv s a (h_ix k) (h_ix i) (h_ix n) (sC s 4) 0).length, s_flt (s_kept s ((s_srt 25 (s_hv s a (h_ix k) (h_ix i) (h_ix n) (sC s 4) 0)).take 200)) 0)) (s_br s (s_bf s (h_ix k) l i n))) (-1, s_flt s 0)
section SSk
variable {s : sA}
theorem s_lw_le (x : Int32) : ∀ (d l : Nat), s_lw s x d l ≤ d := by
  intro d
  induction d with
  | zero => intro l; exact Nat.le_refl _
  | succ d ih =>
    intro l
    unfold s_lw
    have := ih (l + 1)
    by_cases c : s_hl (s_e1 s l 0) (s_e2 s l 0) x ∨ s_hl (s_e1 s l 1) (s_e2 s l 1) x
    · rw [fg_if_1 c]; omega
    · rw [fg_if_0 c]; omega
theorem s_srt_l : ∀ (m : Nat) (H : List sH) (h : sH), h ∈ s_srt m H → h.2.2 < m ∧ h ∈ H := by
  intro m
  induction m with
  | zero => intro H h q; cases q
  | succ m ih =>
    intro H h q
    unfold s_srt at q
    rcases List.mem_append.mp q with w | w
    · obtain ⟨w1, w2⟩ := List.mem_filter.mp w
      simp at w2
      exact ⟨by omega, w1⟩
    · obtain ⟨w1, w2⟩ := ih H h w
      exact ⟨by omega, w2⟩
/-- one more hit: behind those in as many links -/
theorem s_srt_sn : ∀ (m : Nat) (H : List sH) (h : sH), h.2.2 < m → ∃ A B, s_srt m H = A ++ B ∧ s_srt m (H ++ [h]) = A ++ h :: B ∧ (∀ a, a ∈ A → h.2.2 ≤ a.2.2) ∧ (∀ b, b ∈ B → b.2.2 < h.2.2) := by
  intro m
  induction m with
  | zero => intro H h q; omega
  | succ m ih =>
    intro H h q
    by_cases c : h.2.2 = m
    · have e0 : s_srt m (H ++ [h]) = s_srt m H := by
        have : ∀ z, z ≤ m → s_srt z (H ++ [h]) = s_srt z H := by
          intro z
          induction z with
          | zero => intro _; rfl
          | succ z ih2 =>
            intro hz
            unfold s_srt
            rw [ih2 (by omega), List.filter_append, List.filter_cons_of_neg (by simp; omega)]
            simp
        exact this m (Nat.le_refl _)
      refine ⟨H.filter (fun h => decide (h.2.2 = m)), s_srt m H, rfl, ?_, fun a ha => ?_, fun b hb => ?_⟩
      · show (H ++ [h]).filter _ ++ s_srt m (H ++ [h]) = _
        rw [e0, List.filter_append, List.filter_cons_of_pos (by simp [c])]
        simp
      · have := (List.mem_filter.mp ha).2
        simp at this
        omega
      · have := (s_srt_l m H b hb).1
        omega
    · obtain ⟨A, B, h1, h2, h3, h4⟩ := ih H h (by omega)
      refine ⟨H.filter (fun h => decide (h.2.2 = m)) ++ A, B, ?_, ?_, fun a ha => ?_, h4⟩
      · show H.filter _ ++ s_srt m H = _
        rw [h1, List.append_assoc]
      · show (H ++ [h]).filter _ ++ s_srt m (H ++ [h]) = _
        rw [h2, List.filter_append, List.filter_cons_of_neg (by simp [c])]
        simp
      · rcases List.mem_append.mp ha with w | w
        · have := (List.mem_filter.mp w).2
          simp at this
          omega
        · exact h3 a w
theorem s_hp_n {a : Int32} {q i n v : Nat} : ∀ (d p : Nat), (s_vs s v).length < p + n → s_hp s a q i n v d p = [] := by
  intro d
  induction d with
  | zero => intro p _; rfl
  | succ d ih =>
    intro p h
    unfold s_hp
    rw [fg_if_0 (fun z => by have := z.1; omega), ih (p + 1) (by omega)]
end SSk
section RSk
variable {t T T2 : r_T} {s : sA} {K : List sH}
def r_kh (T : r_T) (K : List sH) : Prop := T.1 105 = nI K.length ∧ ∀ (i : Nat) (h : sH), K[i]? = some h → T.2 106 i = nI h.1 ∧ T.2 107 i = nI h.2.1 ∧ T.2 108 i = nI h.2.2
def l_H : List Nat := [105, 106, 107, 108]
theorem RA_kh (h : RA T (s_kept s K)) : r_kh T K := by
  refine ⟨h.1.2.2.2.2.2.2.2.2.1, fun i x hx => ?_⟩
  have hi := (List.getElem?_eq_some_iff.mp hx).1
  obtain ⟨a1, a2, a3⟩ := h.2.2.1 i hi
  have e6 : sF (s_kept s K) 106 i = nI (K[i]?.getD (0, 0, 0)).1 := rfl
  have e7 : sF (s_kept s K) 107 i = nI (K[i]?.getD (0, 0, 0)).2.1 := rfl
  have e8 : sF (s_kept s K) 108 i = nI (K[i]?.getD (0, 0, 0)).2.2 := rfl
  rw [a1, a2, a3, e6, e7, e8, hx]
  exact ⟨rfl, rfl, rfl⟩
theorem RA_kept {K2 : List sH} (h : RA T s) (f : r_fr l_H T T2) (hk : r_kh T2 K2) : RA T2 (s_kept s K2) := by
  obtain ⟨h1, h2, h3, h4, h5, h6⟩ := h
  refine ⟨?_, fun k hk i => ?_, fun i hi => ?_, ?_, ?_, ?_⟩
  · unfold RN at *
    rw [f.1 1 (by decide), f.1 3 (by decide), f.1 8 (by decide), f.1 22 (by decide), f.1 55 (by decide), f.1 80 (by decide), f.1 89 (by decide), f.1 74 (by decide), f.1 0 (by decide), f.1 114 (by decide), f.1 102 (by decide), f.1 103 (by decide), hk.1]
    obtain ⟨b1, b2, b3, b4, b5, b6, b7, b8, b9, b10⟩ := h1
    exact ⟨b1, b2, b3, b4, b5, b6, b7, b8, rfl, b10⟩
  · have n6 : k ≠ 105 ∧ k ≠ 106 ∧ k ≠ 107 ∧ k ≠ 108 := by
      refine ⟨fun e => ?_, fun e => ?_, fun e => ?_, fun e => ?_⟩ <;> rw [e] at hk <;> exact absurd hk (by decide)
    have e : sF (s_kept s K2) k i = sF s k i := by
      unfold s_kept
      rw [sF_uC, sF_uFf, if_neg n6.2.2.2, sF_uFf, if_neg n6.2.2.1, sF_uFf, if_neg n6.2.1]
    rw [e, f.2 k (by unfold l_H; simp; omega)]
    exact h2 k hk i
  · have hi : i < K2.length := hi
    obtain ⟨a1, a2, a3⟩ := hk.2 i _ (List.getElem?_eq_getElem hi)
    have e6 : sF (s_kept s K2) 106 i = nI (K2[i]?.getD (0, 0, 0)).1 := rfl
    have e7 : sF (s_kept s K2) 107 i = nI (K2[i]?.getD (0, 0, 0)).2.1 := rfl
    have e8 : sF (s_kept s K2) 108 i = nI (K2[i]?.getD (0, 0, 0)).2.2 := rfl
    rw [a1, a2, a3, e6, e7, e8, List.getElem?_eq_getElem hi]
    exact ⟨rfl, rfl, rfl⟩
  · exact RG_c h4 rfl (Nat.le_refl _) (f.1 4 (by decide)) (f.2 5 (by decide)) (f.2 6 (by decide)) (f.2 7 (by decide))
  · exact RW_c h5 rfl (Nat.le_refl _) (f.1 10 (by decide)) (f.1 16 (by decide)) (f.2 11 (by decide)) (f.2 12 (by decide)) (f.2 13 (by decide)) (f.2 14 (by decide)) (f.2 15 (by decide)) (f.2 17 (by decide)) (f.2 18 (by decide)) (f.2 19 (by decide)) (f.2 20 (by decide)) (f.2 21 (by decide))
  · exact RK_c h6 rfl rfl (f.2 76 (by decide)) (f.2 77 (by decide)) (f.2 79 (by decide))
theorem s_kept2 {K2 : List sH} : s_kept (s_kept s K) K2 = s_kept s K2 := by
  unfold s_kept uC uFf
  refine Prod.ext ?_ (Prod.ext rfl (Prod.ext ?_ rfl))
  · funext j
    show (if j = 8 then K2.length else if j = 8 then K.length else s.1 j) = (if j = 8 then K2.length else s.1 j)
    by_cases e : j = 8
    · rw [if_pos e, if_pos e]
    · rw [if_neg e, if_neg e, if_neg e]
  · funext j
    dsimp only
    by_cases e : j = 108
    · simp [e]
    · by_cases e2 : j = 107
      · simp [e2]
      · by_cases e3 : j = 106
        · simp [e3]
        · simp [e, e2, e3]
/-- the shift to the right, and the hit in its place -/
theorem ri_keepHit_72 {P : List sH} {h : sH} {p n : Nat} (hn : n < 200) (hpn : p ≤ n) (hPn : n ≤ P.length) (ht : r_kh t P ∨ ∀ (i : Nat) (h : sH), P[i]? = some h → t.2 106 i = nI h.1 ∧ t.2 107 i = nI h.2.1 ∧ t.2 108 i = nI h.2.2) : ∀ (d N : Nat) (T : r_T), d < N → p + d ≤ n → r_fr [106, 107, 108] t T → (∀ (i : Nat) (x : sH), i ≤ p + d → P[i]? = some x → T.2 106 i = nI x.1 ∧ T.2 107 i = nI x.2.1 ∧ T.2 108 i = nI x.2.2 ∨ i = p + d) → (∀ (i : Nat) (x : sH), p + d < i → i ≤ n → P[i - 1]? = some x → T.2 106 i = nI x.1 ∧ T.2 107 i = nI x.2.1 ∧ T.2 108 i = nI x.2.2) → ∃ T2, fn_X12_keepHit_72 N (nI h.1) (nI h.2.1) (nI h.2.2) (nI p) (nI (p + d)) T = some ((), T2) ∧ r_fr [106, 107, 108] t T2 ∧ (∀ (i : Nat) (x : sH), i < p → P[i]? = some x → T2.2 106 i = nI x.1 ∧ T2.2 107 i = nI x.2.1 ∧ T2.2 108 i = nI x.2.2) ∧ (T2.2 106 p = nI h.1 ∧ T2.2 107 p = nI h.2.1 ∧ T2.2 108 p = nI h.2.2) ∧ (∀ (i : Nat) (x : sH), p < i → i ≤ n → P[i - 1]? = some x → T2.2 106 i = nI x.1 ∧ T2.2 107 i = nI x.2.1 ∧ T2.2 108 i = nI x.2.2) := by
  intro d
  induction d with
  | zero =>
    intro N T hN hd hf h1 h2
    obtain ⟨N, rfl⟩ : ∃ m, N = m + 1 := ⟨N - 1, by omega⟩
    have g1 : vp_in (nI p) 200 := (n_vp (by omega)).mpr (by omega)
    show ∃ T2, fn_X12_keepHit_72b _ _ _ _ _ _ _ = _ ∧ _
    unfold fn_X12_keepHit_72b
    have c0 : nI (p + 0) ≤ nI p := Int32.le_refl _
    rw [fg_if_1 c0, fg_g_1 g1, fg_let_1, fg_g_1 g1, fg_let_1, fg_g_1 g1, fg_let_1, q_nIx (by omega)]
    refine ⟨_, rfl, r_frt hf (r_frt (r_frt (r_frA (by decide)) (r_frA (by decide))) (r_frA (by decide))), fun i x hi hx => ?_, ?_, fun i x hi hi2 hx => ?_⟩
    · rcases h1 i x (by omega) hx with w | w
      · simp [rt_AA, show i ≠ p by omega, w]
      · omega
    · simp [rt_AA]
    · have := h2 i x (by omega) hi2 hx
      simp [rt_AA, show i ≠ p by omega, this]
  | succ d ih =>
    intro N T hN hd hf h1 h2
    obtain ⟨N, rfl⟩ : ∃ m, N = m + 1 := ⟨N - 1, by omega⟩
    have g1 : vp_in (nI (p + (d + 1))) 200 := (n_vp (by omega)).mpr (by omega)
    have g2 : vp_in (nI (p + d)) 200 := (n_vp (by omega)).mpr (by omega)
    have hx : p + d < P.length := by omega
    have e0 := h1 (p + d) _ (by omega) (List.getElem?_eq_getElem hx)
    have e0 := e0.resolve_right (by omega)
    show ∃ T2, fn_X12_keepHit_72b (fn_X12_keepHit_72 N) _ _ _ _ _ _ = _ ∧ _
    unfold fn_X12_keepHit_72b
    have ee : nI (p + (d + 1)) - 1 = nI (p + d) := by rw [← Nat.add_assoc, n_m1]
    have ee2 : nI (p + (d + 1)) + (-1) = nI (p + d) := by rw [← Nat.add_assoc, n_pm]
    rw [fg_if_0 (fun q => by have := (n_le (a := p + (d + 1)) (b := p) (by omega) (by omega)).mp q; omega), ee, ee2, fg_g_1 g2, fg_g_1 g1, fg_let_1, fg_g_1 g2, fg_g_1 g1, fg_let_1, fg_g_1 g2, fg_g_1 g1, fg_let_1, q_nIx (by omega), q_nIx (by omega)]
    refine ih N _ (by omega) (by omega) (r_frt hf (r_frt (r_frt (r_frA (by decide)) (r_frA (by decide))) (r_frA (by decide)))) (fun i x hi hx2 => ?_) (fun i x hi hi2 hx2 => ?_)
    · by_cases e : i = p + d
      · exact Or.inr e
      · left
        have := (h1 i x (by omega) hx2).resolve_right (by omega)
        simp [rt_AA, show i ≠ p + (d + 1) by omega, this]
    · by_cases e : i = p + (d + 1)
      · have hh : P[p + d]? = some x := by rw [← hx2, e]; rfl
        rw [List.getElem?_eq_getElem hx] at hh
        injection hh with hh
        rw [hh] at e0
        simp [rt_AA, e, e0]
      · have := h2 i x (by omega) hi2 hx2
        simp [rt_AA, e, this]
theorem ri_keepHit_6 {A B : List sH} {h : sH} (hA : ∀ a, a ∈ A → h.2.2 ≤ a.2.2) (hB : ∀ b, b ∈ B → b.2.2 < h.2.2) (hs : ∀ x, x ∈ A ++ B → x.2.2 ≤ 100) (hh : h.2.2 ≤ 100) (hk : r_kh T ((A ++ B).take 200)) : ∀ (d N : Nat), d < N → min A.length 200 + d ≤ ((A ++ B).take 200).length → fn_X12_keepHit_6 N (nI h.1) (nI h.2.1) (nI h.2.2) (nI (min A.length 200 + d)) T = fn_X12_keepHit_30 (nI h.1) (nI h.2.1) (nI h.2.2) (nI (min A.length 200)) T := by
  have hl : ((A ++ B).take 200).length ≤ 200 := List.length_take_le _ _
  have el : ((A ++ B).take 200).length = min 200 (A.length + B.length) := by rw [List.length_take, List.length_append]
  intro d
  induction d with
  | zero =>
    intro N hN hd
    obtain ⟨N, rfl⟩ : ∃ m, N = m + 1 := ⟨N - 1, by omega⟩
    show fn_X12_keepHit_6b _ _ _ _ _ _ = _
    unfold fn_X12_keepHit_6b
    rw [Nat.add_zero]
    by_cases c : min A.length 200 = 0
    · rw [c, fg_if_1 (by decide)]
    · obtain ⟨z, hz⟩ : ∃ z, min A.length 200 = z + 1 := ⟨min A.length 200 - 1, by omega⟩
      have hzA : z < A.length := by omega
      have ex : ((A ++ B).take 200)[z]? = some A[z] := by rw [List.getElem?_take, if_pos (by omega), List.getElem?_append_left hzA, List.getElem?_eq_getElem hzA]
      have m1 := List.getElem_mem hzA
      have := (hk.2 z _ ex).2.2
      have b1 := hA _ m1
      have b2 := hs _ (List.mem_append_left B m1)
      rw [hz, fg_if_0 (fun q => by have := (n_le (a := z + 1) (b := 0) (by omega) (by omega)).mp q; omega), n_m1, fg_g_1 ((n_vp (by omega)).mpr (by omega)), q_nIx (by omega), this, fg_if_1 ((n_le (by omega) (by omega)).mpr b1)]
  | succ d ih =>
    intro N hN hd
    obtain ⟨N, rfl⟩ : ∃ m, N = m + 1 := ⟨N - 1, by omega⟩
    show fn_X12_keepHit_6b (fn_X12_keepHit_6 N) _ _ _ _ _ = _
    unfold fn_X12_keepHit_6b
    have hmin : min A.length 200 = A.length := by omega
    have hzB : A.length + d - A.length < B.length := by omega
    have ex : ((A ++ B).take 200)[A.length + d]? = some B[A.length + d - A.length] := by rw [List.getElem?_take, if_pos (by omega), List.getElem?_append_right (by omega), List.getElem?_eq_getElem hzB]
    have m1 := List.getElem_mem hzB
    have e8 := (hk.2 _ _ ex).2.2
    have b1 := hB _ m1
    have b2 := hs _ (List.mem_append_right A m1)
    rw [hmin] at ih ⊢
    rw [← Nat.add_assoc, fg_if_0 (fun q => by have := (n_le (a := A.length + d + 1) (b := 0) (by omega) (by omega)).mp q; omega), n_m1, n_pm, fg_g_1 ((n_vp (by omega)).mpr (by omega)), q_nIx (by omega), e8, fg_if_0 (fun q => by have := (n_le (a := h.2.2) (by omega) (by omega)).mp q; omega)]
    exact ih N (by omega) (by omega)
theorem ri_keepHit {H : List sH} {h : sH} (hH : ∀ x, x ∈ H → x.2.2 ≤ 24) (hh : h.2.2 ≤ 24) (hk : r_kh T ((s_srt 25 H).take 200)) : ∃ T2, fn_X12_keepHit (nI h.1) (nI h.2.1) (nI h.2.2) T = some ((), T2) ∧ r_fr l_H T T2 ∧ r_kh T2 ((s_srt 25 (H ++ [h])).take 200) := by
  obtain ⟨A, B, h1, h2, h3, h4⟩ := s_srt_sn 25 H h (by omega)
  have hs : ∀ x, x ∈ A ++ B → x.2.2 ≤ 100 := fun x hx => by rw [← h1] at hx; have := (s_srt_l 25 H x hx).1; omega
  rw [h1] at hk
  rw [h2]
  have el : ((A ++ B).take 200).length = min 200 (A.length + B.length) := by rw [List.length_take, List.length_append]
  have e6 := ri_keepHit_6 h3 h4 hs (by omega) hk (((A ++ B).take 200).length - min A.length 200) g_N (by have := g_N_le; omega) (by omega)
  rw [show min A.length 200 + (((A ++ B).take 200).length - min A.length 200) = ((A ++ B).take 200).length by omega] at e6
  unfold fn_X12_keepHit
  rw [hk.1, e6]
  unfold fn_X12_keepHit_30
  by_cases c : 200 ≤ A.length
  · have c1 : (200 : Int32) ≤ nI (min A.length 200) := (n_le (a := 200) (b := min A.length 200) (by omega) (by omega)).mpr (by omega)
    rw [fg_if_1 c1]
    refine ⟨T, rfl, r_fr0, ?_⟩
    rw [List.take_append_of_le_length c] at hk ⊢
    exact hk
  · have c1 : ¬ (200 : Int32) ≤ nI (min A.length 200) := fun q => by have := (n_le (a := 200) (b := min A.length 200) (by omega) (by omega)).mp q; omega
    have hmin : min A.length 200 = A.length := by omega
    obtain ⟨n, hn⟩ : ∃ n, n = min 199 (A.length + B.length) := ⟨_, rfl⟩
    have en : (if 200 ≤ ((A ++ B).take 200).length then 200 else ((A ++ B).take 200).length + 1) = n + 1 := by split <;> omega
    have e61 : fg_if ((200 : Int32) ≤ T.1 105) (fn_X12_keepHit_61 (nI h.1) (nI h.2.1) (nI h.2.2) (nI A.length) 200 T) (fn_X12_keepHit_61 (nI h.1) (nI h.2.1) (nI h.2.2) (nI A.length) (T.1 105 + 1) T) = fn_X12_keepHit_61 (nI h.1) (nI h.2.1) (nI h.2.2) (nI A.length) (nI (n + 1)) T := by
      rw [hk.1]
      by_cases q : 200 ≤ ((A ++ B).take 200).length
      · have q' : (200 : Int32) ≤ nI ((A ++ B).take 200).length := (n_le (a := 200) (by omega) (by omega)).mpr q
        rw [fg_if_1 q', ← en, if_pos q]
        rfl
      · have q' : ¬ (200 : Int32) ≤ nI ((A ++ B).take 200).length := fun z => q ((n_le (a := 200) (by omega) (by omega)).mp z)
        rw [fg_if_0 q', ← en, if_neg q, n_p1]
    rw [fg_if_0 c1, hmin, e61]
    unfold fn_X12_keepHit_61
    have f1 : r_fr l_H T (rt_F T 105 (nI (n + 1))) := r_frF (by decide)
    have hP : ∀ (i : Nat) (x : sH), (A ++ B)[i]? = some x → i < 200 → (rt_F T 105 (nI (n + 1))).2 106 i = nI x.1 ∧ (rt_F T 105 (nI (n + 1))).2 107 i = nI x.2.1 ∧ (rt_F T 105 (nI (n + 1))).2 108 i = nI x.2.2 := fun i x hx hi => hk.2 i x (by rw [List.getElem?_take, if_pos hi]; exact hx)
    obtain ⟨T2, m1, m2, m3, m4, m5⟩ := ri_keepHit_72 (t := rt_F T 105 (nI (n + 1))) (P := (A ++ B).take 200) (h := h) (p := A.length) (n := n) (by omega) (by omega) (by omega) (Or.inr (fun i x hx => hk.2 i x hx)) (n - A.length) g_N (rt_F T 105 (nI (n + 1))) (by have := g_N_le; omega) (by omega) r_fr0 (fun i x hi hx => Or.inl (hk.2 i x hx)) (fun i x hi hi2 => by omega)
    rw [show A.length + (n - A.length) = n by omega] at m1
    have f2 : r_fr l_H T T2 := r_frt f1 (r_frS m2 (by decide))
    refine ⟨T2, ?_, f2, ?_, fun i x hx => ?_⟩
    · rw [fg_let_1, fg_let_1, rt_FF, if_pos rfl, n_m1]
      exact m1
    · rw [m2.1 105 (by decide), rt_FF, if_pos rfl, List.length_take, List.length_append, List.length_cons]
      congr 1
      omega
    · rw [List.getElem?_take] at hx
      by_cases hi : i < 200
      · rw [if_pos hi] at hx
        have hil := (List.getElem?_eq_some_iff.mp hx).1
        rw [List.length_append, List.length_cons] at hil
        by_cases q1 : i < A.length
        · rw [List.getElem?_append_left q1] at hx
          exact m3 i x q1 (by rw [List.getElem?_take, if_pos hi, List.getElem?_append_left q1]; exact hx)
        · by_cases q2 : i = A.length
          · rw [List.getElem?_append_right (by omega), q2, Nat.sub_self] at hx
            have : some h = some x := hx
            injection this with this
            rw [q2, ← this]
            exact m4
          · rw [List.getElem?_append_right (by omega), show i - A.length = (i - 1 - A.length) + 1 by omega, List.getElem?_cons_succ] at hx
            exact m5 i x (by omega) (by omega) (by rw [List.getElem?_take, if_pos (by omega), List.getElem?_append_right (by omega)]; exact hx)
      · rw [if_neg hi] at hx; cases hx
end RSk
