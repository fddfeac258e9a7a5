section CLi
variable {k : h_S}
theorem ci_kinit {q : Nat} {x0 x1 x2 x3 x4 x5 : Int32} (hF : c_F k) (hq : h_k k q = 22) (q8 : c_tg 12 q) : ∃ k2, fn_X1_init q x0 x1 x2 x3 x4 x5 k = some ((), k2, 2, 4) ∧ c_F k2 ∧ c_lnk k2 q x0 x1 x2 x3 x4 x5 ∧ (∀ z, z ≠ q → h_k k z ≠ 0 ∨ z < 128 → c_eq k k2 z) := by
  obtain ⟨a, ea⟩ : ∃ a, c_ad 13 k = a := ⟨_, rfl⟩
  have a0 : h_k k a = 0 := by rw [← ea]; exact cf_z hF rfl
  have a8 : c_tg 13 a := by rw [← ea]; unfold c_tg c_ad; omega
  have qa : q ≠ a := fun e => by rw [e, a0] at hq; exact absurd hq (by decide)
  have F5 : c_F (h_nw k a 1 2) := cf_nw hF ea.symm (by decide)
  have k5 : h_k (h_nw k a 1 2) q = 22 := by rw [h_k_nw, if_neg qa]; exact hq
  have F9 : c_F (h_sr (h_nw k a 1 2) q 1 (some a)) := cf_sr F5 k5 (by decide) _
  obtain ⟨b, eb⟩ : ∃ b, c_ad 13 (h_sr (h_nw k a 1 2) q 1 (some a)) = b := ⟨_, rfl⟩
  have b0 : h_k (h_nw k a 1 2) b = 0 := (cf_z F9 eb.symm : h_k (h_sr (h_nw k a 1 2) q 1 (some a)) b = 0)
  have b8 : c_tg 13 b := by rw [← eb]; unfold c_tg c_ad; omega
  have qb : q ≠ b := fun e => by rw [e, b0] at k5; exact absurd k5 (by decide)
  have ab : a ≠ b := fun e => by rw [← e, h_k_nw, if_pos rfl] at b0; exact absurd b0 (by decide)
  have b00 : h_k k b = 0 := by rw [h_k_nw, if_neg (fun e => ab e.symm)] at b0; exact b0
  have F14 : c_F (h_nw (h_sr (h_nw k a 1 2) q 1 (some a)) b 1 2) := cf_nw F9 eb.symm (by decide)
  have k14 : h_k (h_nw (h_sr (h_nw k a 1 2) q 1 (some a)) b 1 2) q = 22 := by rw [h_k_nw, if_neg qb]; exact k5
  have F18 : c_F (h_sr (h_nw (h_sr (h_nw k a 1 2) q 1 (some a)) b 1 2) q 2 (some b)) := cf_sr F14 k14 (by decide) _
  have r1 : h_r (h_sr (h_nw (h_sr (h_nw k a 1 2) q 1 (some a)) b 1 2) q 2 (some b)) q 1 = some a := by
    rw [h_r_sr, if_neg (by omega), h_r_nw, if_neg qb, h_r_sr, if_pos ⟨rfl, rfl⟩]
  have r2 : h_r (h_sr (h_nw (h_sr (h_nw k a 1 2) q 1 (some a)) b 1 2) q 2 (some b)) q 2 = some b := by
    rw [h_r_sr, if_pos ⟨rfl, rfl⟩]
  have ka : h_k (h_sr (h_nw (h_sr (h_nw k a 1 2) q 1 (some a)) b 1 2) q 2 (some b)) a = 1 := by
    show h_k (h_nw (h_sr (h_nw k a 1 2) q 1 (some a)) b 1 2) a = 1
    rw [h_k_nw, if_neg ab]
    show h_k (h_nw k a 1 2) a = 1
    rw [h_k_nw, if_pos rfl]
  have kb : h_k (h_sr (h_nw (h_sr (h_nw k a 1 2) q 1 (some a)) b 1 2) q 2 (some b)) b = 1 := by
    show h_k (h_nw (h_sr (h_nw k a 1 2) q 1 (some a)) b 1 2) b = 1
    rw [h_k_nw, if_pos rfl]
  have na : h_n (h_sr (h_nw (h_sr (h_nw k a 1 2) q 1 (some a)) b 1 2) q 2 (some b)) a = 2 := by
    show h_n (h_nw (h_sr (h_nw k a 1 2) q 1 (some a)) b 1 2) a = 2
    rw [h_n_nw, if_neg ab]
    show h_n (h_nw k a 1 2) a = 2
    rw [h_n_nw, if_pos rfl]
  have nb : h_n (h_sr (h_nw (h_sr (h_nw k a 1 2) q 1 (some a)) b 1 2) q 2 (some b)) b = 2 := by
    show h_n (h_nw (h_sr (h_nw k a 1 2) q 1 (some a)) b 1 2) b = 2
    rw [h_n_nw, if_pos rfl]
  have kq : h_k (h_sr (h_nw (h_sr (h_nw k a 1 2) q 1 (some a)) b 1 2) q 2 (some b)) q = 22 := k14
  have fr : ∀ z, z ≠ q → z ≠ a → z ≠ b → c_eq k (h_sr (h_nw (h_sr (h_nw k a 1 2) q 1 (some a)) b 1 2) q 2 (some b)) z := fun z h1 h2 h3 => c_eqt (c_eqt (c_eqt (c_eq_nw h2) (c_eq_sr h1)) (c_eq_nw h3)) (c_eq_sr h1)
  unfold fn_X1_init
  simp only [fg_let_1, ea, fg_g_1 k5, eb]
  generalize h_sr (h_nw (h_sr (h_nw k a 1 2) q 1 (some a)) b 1 2) q 2 (some b) = S at F18 r1 r2 ka kb na nb kq fr
  have i0 : vp_in 0 2 := (n_vp (k := 0) (n := 2) (by decide)).mpr (by decide)
  have i1 : vp_in 1 2 := (n_vp (k := 1) (n := 2) (by decide)).mpr (by decide)
  simp only [h_r_si, h_k_si, h_n_si, r1, r2, fg_o_1, fg_g_1 ka, fg_g_1 kb, na, nb, fg_g_1 i0, fg_g_1 i1, show h_ix (0 : Int32) = 0 from rfl, show h_ix (1 : Int32) = 1 from rfl, fg_c_1]
  refine ⟨_, rfl, F18, ⟨q8, kq, ?_, ?_, ⟨a, r1, a8, ka, na, fun j x hx => ?_⟩, b, r2, b8, kb, nb, fun j x hx => ?_⟩, fun z h1 h2 => ?_⟩
  · simp [h_i_si, qa, qb]
  · simp [h_i_si]
  · rcases j with _ | _ | j
    · cases hx; simp [h_i_si, qa, qa.symm, ab, ab.symm]
    · cases hx; simp [h_i_si, qa, qa.symm, ab, ab.symm]
    · simp at hx
  · rcases j with _ | _ | j
    · cases hx; simp [h_i_si, qb, qb.symm, ab, ab.symm]
    · cases hx; simp [h_i_si, qb, qb.symm, ab, ab.symm]
    · simp at hx
  · have za : z ≠ a := fun e => by
      rcases h2 with w | w
      · exact w (by rw [e]; exact a0)
      · have := a8.1; omega
    have zb : z ≠ b := fun e => by
      rcases h2 with w | w
      · exact w (by rw [e]; exact b00)
      · have := b8.1; omega
    exact c_eqt (fr z h1 za zb) (c_eqt (c_eqt (c_eqt (c_eqt (c_eqt (c_eq_si h1) (c_eq_si za)) (c_eq_si zb)) (c_eq_si za)) (c_eq_si zb)) (c_eq_si h1))
end CLi
