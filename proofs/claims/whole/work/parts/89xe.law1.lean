/-! the law: both sides in the machine's state -/
/-- the reference's part of the state -/
def rE (S : h_S) (o : Nat) (ra : Nat → Nat) : h_S := (S.1, (fun a => if a = o ∨ (r_inv ra a).isSome = true then S.2.1 a else 0), S.2.2.1, S.2.2.2.1, S.2.2.2.2)
def ZB (s : sA) (y : c_Y) (n bc bs : Nat) : Prop := zC y + 40 * (512 - n) + 2 * (500 - sC s 3) + 3 * (12 - sC s 7) ≤ bc ∧ zD y + 1400 * (512 - n) + 1005 * (500 - sC s 3) + 1604 * (12 - sC s 7) ≤ bs
def LI (g : h_G) (o1 o2 n : Nat) (S : h_S) (bc bs : Nat) : Prop := ∃ (k : h_S) (b : Nat → Nat) (ra : Nat → Nat) (t : r_T) (s : sA) (y : c_Y), c_R (rE S o2 ra) g b k S ∧ c_at b k 0 o1 ∧ r_ok o2 ra S ∧ S = r_emb S o2 ra t ∧ CB k s y ∧ RA t s ∧ IV s ∧ sC s 0 ≤ n ∧ ZB s y n bc bs
section LAw
variable {S S2 k k2 : h_S} {o o1 o2 : Nat} {ra b b2 : Nat → Nat} {g : h_G} {t t2 : r_T}
theorem r_inv_s {a j : Nat} (h : r_inv ra a = some j) : j < 115 ∧ r_len j ≠ 0 ∧ ra j = a := by
  unfold r_inv at h
  have h1 := List.find?_some h
  have h2 := List.mem_range.mp (List.mem_of_find?_eq_some h)
  simp at h1
  exact ⟨h2, h1.1, h1.2⟩
theorem rE_k (a : Nat) : h_k (rE S o ra) a = if a = o ∨ (r_inv ra a).isSome = true then h_k S a else 0 := rfl
theorem r_kd0 (j : Nat) : r_kd j ≠ 0 := by unfold r_kd; split <;> decide
/-- an address of the reference's -/
abbrev r_ad (o : Nat) (ra : Nat → Nat) (a : Nat) : Prop := a = o ∨ (r_inv ra a).isSome = true
theorem r_ad_k (hok : r_ok o ra S) {a : Nat} (h : r_ad o ra a) : h_k S a ≠ 0 := by
  rcases h with e | e
  · rw [e, hok.1]; decide
  · obtain ⟨j, hj⟩ := Option.isSome_iff_exists.mp e
    obtain ⟨h1, h2, h3⟩ := r_inv_s hj
    rw [← h3, (hok.2.1 j h1 h2).2.1]
    exact r_kd0 j
theorem rE_n0 (hok : r_ok o ra S) {a : Nat} : h_k (rE S o ra) a ≠ 0 ↔ r_ad o ra a := by
  rw [rE_k]
  by_cases c : r_ad o ra a
  · rw [if_pos c]; exact ⟨fun _ => c, fun _ => r_ad_k hok c⟩
  · rw [if_neg c]; exact ⟨fun h => absurd rfl h, fun h => absurd h c⟩
theorem r_ad_ra (hok : r_ok o ra S) {j : Nat} (h1 : j < 115) (h2 : r_len j ≠ 0) : r_ad o ra (ra j) := Or.inr (by rw [r_inv_eq hok h2]; rfl)
theorem rE_same (a : Nat) : h_n (rE S o ra) a = h_n S a ∧ (∀ j, h_i (rE S o ra) a j = h_i S a j) ∧ (∀ j, h_r (rE S o ra) a j = h_r S a j) := ⟨rfl, fun _ => rfl, fun _ => rfl⟩
/-- c_R with the reference's part of the state itself -/
theorem cR_rE {E : h_S} (hok : r_ok o ra S) (h : c_R E g b k S) (hE : ∀ a, r_ad o ra a → h_k E a ≠ 0) : c_R (rE S o ra) g b k S := by
  refine ⟨h.1, h.2.1, h.2.2.1, fun A hA => ?_⟩
  have c := (rE_n0 hok).mp hA
  refine ⟨?_, rfl, fun _ => rfl, fun _ => rfl, (h.2.2.2 A (hE A c)).2.2.2.2⟩
  rw [rE_k, if_pos c]
/-- behind a call of the class -/
theorem l_cls (hok : r_ok o ra S) (e : S = r_emb S o ra t) (h : c_R (rE S o ra) g b2 k2 S2) : r_ok o ra S2 ∧ S2 = r_emb S2 o ra t ∧ c_R (rE S2 o ra) g b2 k2 S2 := by
  have ag : ∀ a, r_ad o ra a → h_k S2 a = h_k S a ∧ h_n S2 a = h_n S a ∧ (∀ j, h_i S2 a j = h_i S a j) ∧ (∀ j, h_r S2 a j = h_r S a j) := fun a ha => by
    obtain ⟨q1, q2, q3, q4, _⟩ := h.2.2.2 a ((rE_n0 hok).mpr ha)
    rw [rE_k, if_pos ha] at q1
    exact ⟨q1, q2, q3, q4⟩
  have ao := ag o (Or.inl rfl)
  have hok2 : r_ok o ra S2 := by
    refine ⟨by rw [ao.1]; exact hok.1, fun j h1 h2 => ?_, hok.2.2⟩
    obtain ⟨q1, q2, q3⟩ := hok.2.1 j h1 h2
    have aj := ag (ra j) (r_ad_ra hok h1 h2)
    exact ⟨by rw [ao.2.2.2]; exact q1, by rw [aj.1]; exact q2, by rw [aj.2.1]; exact q3⟩
  have io : ∀ j, h_i S o j = t.1 j := fun j => by
    have := e_io (s := S) (o := o) (ra := ra) (τ := t) j
    rw [← e] at this
    exact this
  have ia : ∀ i j, r_len i ≠ 0 → h_i S (ra i) j = t.2 i j := fun i j hi => by
    have := e_ia (τ := t) hok hi j
    rw [← e] at this
    exact this
  refine ⟨hok2, ?_, cR_rE hok2 h (fun a ha => (rE_n0 hok).mpr ha)⟩
  refine e_ext rfl rfl rfl ?_ rfl
  funext a j
  show h_i S2 a j = (if a = o then t.1 else match r_inv ra a with
    | some k => t.2 k
    | none => S2.2.2.2.1 a) j
  by_cases c : a = o
  · rw [if_pos c, c, ao.2.2.1, io]
  · rw [if_neg c]
    cases hi : r_inv ra a with
    | none => rfl
    | some i =>
      obtain ⟨h1, h2, h3⟩ := r_inv_s hi
      show h_i S2 a j = t.2 i j
      rw [← h3, (ag (ra i) (r_ad_ra hok h1 h2)).2.2.1, ia i j h2]
/-- behind a call of the reference -/
theorem l_ref (hok : r_ok o ra S) (h : c_R (rE S o ra) g b k S) : r_ok o ra (r_emb S o ra t2) ∧ r_emb S o ra t2 = r_emb (r_emb S o ra t2) o ra t2 ∧ c_R (rE (r_emb S o ra t2) o ra) g b k (r_emb S o ra t2) := by
  have hok2 : r_ok o ra (r_emb S o ra t2) := hok
  refine ⟨hok2, ?_, ?_⟩
  · refine e_ext rfl rfl rfl ?_ rfl
    funext a j
    show (if a = o then t2.1 else match r_inv ra a with
      | some k => t2.2 k
      | none => S.2.2.2.1 a) j = (if a = o then t2.1 else match r_inv ra a with
      | some k => t2.2 k
      | none => (if a = o then t2.1 else match r_inv ra a with
        | some k => t2.2 k
        | none => S.2.2.2.1 a)) j
    by_cases c : a = o
    · rw [if_pos c, if_pos c]
    · rw [if_neg c, if_neg c]
      cases hi : r_inv ra a with
      | none => simp only [if_neg c]
      | some i => rfl
  · have R2 : c_R (rE S o ra) g b k (r_emb S o ra t2) → c_R (rE (r_emb S o ra t2) o ra) g b k (r_emb S o ra t2) := fun q => cR_rE hok2 q (fun a ha => (rE_n0 hok).mpr ha)
    refine ⟨fun a ha => ?_, h.2.1, h.2.2.1, fun A hA => ?_⟩
    · obtain ⟨q1, q2, q3, q4, q5⟩ := h.1 a ha
      refine ⟨q1, q2, fun j => ?_, q4, q5⟩
      rw [← q3 j]
      have nb : ¬ r_ad o ra (b a) := fun c => (h.2.2.2 (b a) ((rE_n0 hok).mpr c)).2.2.2.2 a ha rfl
      show (if b a = o then t2.1 else match r_inv ra (b a) with
        | some k => t2.2 k
        | none => S.2.2.2.1 (b a)) j = S.2.2.2.1 (b a) j
      rw [if_neg (fun c => nb (Or.inl c))]
      cases hi : r_inv ra (b a) with
      | none => rfl
      | some i => exact absurd (Or.inr (by rw [hi]; rfl)) nb
    · have c := (rE_n0 hok2).mp hA
      refine ⟨?_, rfl, fun _ => rfl, fun _ => rfl, (h.2.2.2 A ((rE_n0 hok).mpr c)).2.2.2.2⟩
      rw [rE_k, if_pos c]
theorem LI_32 {n bc bs : Nat} (h : LI g o1 o2 n S bc bs) : h_k S o1 = 32 := by
  obtain ⟨k, b, ra, t, s, y, hR, ha, hok, he, hC, _⟩ := h
  rw [cr_k hR ha]
  exact cf_k hC.1 rfl (by decide)
theorem LI_1 {n bc bs : Nat} (h : LI g o1 o2 n S bc bs) : LI g o1 o2 (n + 1) S bc bs := by
  obtain ⟨k, b, ra, t, s, y, hR, ha, hok, he, hC, hA, hI, h0, z1, z2⟩ := h
  exact ⟨k, b, ra, t, s, y, hR, ha, hok, he, hC, hA, hI, by omega, by omega, by omega⟩
theorem l_call0 {ρ : Type} {n bc bs : Nat} {f11 : h_S → Option (ρ × h_S)} {f12 : r_T → Option (ρ × r_T)} {W11 : h_S → (ρ → h_S → Prop) → Prop} {W12 : h_S → (ρ → h_S → Prop) → Prop} (F11 : ∀ {E : h_S} {b : Nat → Nat} {k S : h_S} {r : ρ} {t : h_S} {Q : ρ → h_S → Prop}, c_R E g b k S → c_F k → c_at b k 0 o1 → f11 k = some (r, t) → (∀ (b2 : Nat → Nat) (S2 : h_S), c_ext b k b2 t → c_R E g b2 t S2 → c_F t → Q r S2) → W11 S Q) (F12 : ∀ {ra : Nat → Nat} {s0 : h_S}, r_ok o2 ra s0 → ∀ {Q : ρ → h_S → Prop} {r : ρ} {t τ : r_T}, f12 τ = some (r, t) → Q r (r_emb s0 o2 ra t) → W12 (r_emb s0 o2 ra τ) Q) (hp : PS0 f11 f12) (h : LI g o1 o2 n S bc bs) (hn : n < 512) {Q : ρ → h_S → Prop} (hQ : ∀ (p : ρ) (S2 : h_S), h_k S2 o2 = 33 → (∀ Q2 : ρ → h_S → Prop, (∀ S3, LI g o1 o2 (n + 1) S3 bc bs → Q2 p S3) → W12 S2 Q2) → Q p S2) : W11 S Q := by
  obtain ⟨k, b, ra, t, s, y, hR, ha, hok, he, hC, hA, hI, h0, z1, z2⟩ := h
  obtain ⟨r, k2, t2, s2, y2, c1, c2, c3, c4, c5, ⟨m1, m2, m3⟩, c6, c7⟩ := hp k t s y hC hA hI (by omega)
  refine F11 hR hC.1 ha c1 (fun b2 S2 x2 R2 F2 => ?_)
  obtain ⟨hok2, he2, R2'⟩ := l_cls hok he R2
  refine hQ r S2 hok2.1 (fun Q2 hq => ?_)
  have w : W12 (r_emb S2 o2 ra t) Q2 := by
    refine F12 hok2 c2 (hq _ ?_)
    obtain ⟨q1, q2, q3⟩ := l_ref (t2 := t2) hok2 R2'
    have v := c5.1
    exact ⟨k2, b2, ra, t2, s2, y2, q3, cr_atx ha x2, q1, q2, c3, c4, c5, by omega, by have := v.2.2.2.1; have := v.2.2.2.2.2.2.2.1; omega, by have := v.2.2.2.1; have := v.2.2.2.2.2.2.2.1; omega⟩
  rw [← he2] at w
  exact w
theorem l_call1 {ρ : Type} {n bc bs : Nat} {f11 : h_S → fg_R ρ h_S} {f12 : r_T → Option (ρ × r_T)} {W11 : h_S → Nat → Nat → (ρ → h_S → Prop) → Prop} {W12 : h_S → (ρ → h_S → Prop) → Prop} (F11 : ∀ {E : h_S} {b : Nat → Nat} {k S : h_S} {r : ρ} {t : h_S} {C D mc ms : Nat} {Q : ρ → h_S → Prop}, c_R E g b k S → c_F k → c_at b k 0 o1 → f11 k = some (r, t, C, D) → (∀ (b2 : Nat → Nat) (S2 : h_S), c_ext b k b2 t → c_R E g b2 t S2 → c_F t → Q r S2) → C ≤ mc → D ≤ ms → W11 S mc ms Q) (F12 : ∀ {ra : Nat → Nat} {s0 : h_S}, r_ok o2 ra s0 → ∀ {Q : ρ → h_S → Prop} {r : ρ} {t τ : r_T}, f12 τ = some (r, t) → Q r (r_emb s0 o2 ra t) → W12 (r_emb s0 o2 ra τ) Q) (hp : PS1 f11 f12) (h : LI g o1 o2 n S bc bs) (hn : n < 512) {Q : Nat → Nat → ρ → h_S → Prop} (hQ : ∀ (mc ms : Nat) (p : ρ) (S2 : h_S), h_k S2 o2 = 33 → (∀ Q2 : ρ → h_S → Prop, (∀ S3, LI g o1 o2 (n + 1) S3 (bc - mc) (bs - ms) → Q2 p S3) → W12 S2 Q2) → Q mc ms p S2) : ∃ mc ms : Nat, mc ≤ bc ∧ ms ≤ bs ∧ W11 S mc ms (Q mc ms) := by
  obtain ⟨k, b, ra, t, s, y, hR, ha, hok, he, hC, hA, hI, h0, z1, z2⟩ := h
  obtain ⟨r, k2, c, d, t2, s2, y2, c1, c2, c3, c4, c5, ⟨m1, m2, m3⟩, c6, c7⟩ := hp k t s y hC hA hI (by omega)
  have v3 := c5.1.2.2.2.1
  have v7 := c5.1.2.2.2.2.2.2.2.1
  refine ⟨c, d, by omega, by omega, F11 hR hC.1 ha c1 (fun b2 S2 x2 R2 F2 => ?_) (Nat.le_refl _) (Nat.le_refl _)⟩
  obtain ⟨hok2, he2, R2'⟩ := l_cls hok he R2
  refine hQ c d r S2 hok2.1 (fun Q2 hq => ?_)
  have w : W12 (r_emb S2 o2 ra t) Q2 := by
    refine F12 hok2 c2 (hq _ ?_)
    obtain ⟨q1, q2, q3⟩ := l_ref (t2 := t2) hok2 R2'
    exact ⟨k2, b2, ra, t2, s2, y2, q3, cr_atx ha x2, q1, q2, c3, c4, c5, by omega, by omega, by omega⟩
  rw [← he2] at w
  exact w
theorem h_ite {c : Prop} {D : Decidable c} {A B : Prop} (h1 : c → A) (h2 : ¬ c → B) : @ite Prop c D A B := by
  by_cases q : c
  · rw [if_pos q]; exact h1 q
  · rw [if_neg q]; exact h2 q
end LAw
