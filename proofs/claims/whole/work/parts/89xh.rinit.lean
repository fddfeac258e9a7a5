/-! the reference's constructor -/
def x_W (o : Nat) (R : h_S → Nat → Nat → Prop) : List (Nat × Nat × Nat) → h_S → Nat → Nat → Prop
  | [], s, c, d => R s c d
  | x :: F, s, c, d => 1 ≤ c ∧ x.2.2 ≤ d ∧ ∀ q : Nat, h_k s q = 0 → (h_k (h_nw s q x.2.1 x.2.2) o = 33 ∧ x_W o R F (h_sr (h_nw s q x.2.1 x.2.2) o x.1 (some q)) (c - 1) (d - x.2.2))
def l_AR : List (Nat × Nat × Nat) := [(2, 1, 1201), (5, 1, 1200), (6, 1, 1200), (7, 1, 1200), (9, 1, 12), (11, 1, 12), (12, 1, 1200), (13, 1, 1200), (14, 1, 1200), (15, 1, 1200), (17, 1, 28800), (18, 1, 28800), (19, 1, 28800), (20, 1, 28800), (21, 1, 28800), (23, 1, 500), (24, 1, 500), (25, 1, 500), (26, 1, 500), (27, 1, 500), (28, 1, 5), (29, 1, 5), (30, 1, 5), (31, 1, 5), (32, 1, 5), (33, 1, 5), (34, 1, 5), (36, 1, 300), (37, 1, 300), (38, 1, 300), (39, 1, 1500), (41, 1, 60), (42, 1, 60), (43, 1, 60), (44, 1, 60), (45, 1, 60), (46, 1, 60), (47, 1, 60), (49, 1, 60), (50, 1, 60), (51, 1, 60), (52, 1, 60), (53, 1, 60), (54, 1, 12), (56, 1, 16), (57, 1, 16), (58, 1, 16), (59, 1, 16), (62, 1, 300), (63, 1, 300), (64, 1, 90601), (65, 1, 500), (66, 1, 600), (67, 1, 2), (68, 1, 604), (69, 2, 602), (70, 1, 604), (72, 1, 3000), (75, 1, 12), (76, 1, 12), (77, 1, 12), (78, 2, 12), (79, 1, 7200), (81, 1, 24), (82, 1, 24), (83, 1, 24), (84, 1, 24), (85, 1, 24), (86, 1, 24), (90, 1, 20), (91, 1, 20), (92, 1, 20), (93, 1, 20), (94, 1, 20), (95, 1, 20), (96, 1, 20), (97, 1, 20), (104, 1, 64), (106, 1, 200), (107, 1, 200), (108, 1, 200), (109, 1, 1024), (110, 1, 4), (111, 1, 4), (112, 1, 240), (113, 1, 60)]
def x_sum : List (Nat × Nat × Nat) → Nat
  | [] => 0
  | x :: F => x.2.2 + x_sum F
def c_Em : h_S := ([], (fun _ => 0), (fun _ => 0), (fun _ _ => 0), (fun _ _ => none))
def XI (g : h_G) (b : Nat → Nat) (k : h_S) (o : Nat) (F : List Nat) (S : h_S) (ra : Nat → Nat) : Prop := c_R c_Em g b k S ∧ h_k S o = 33 ∧ (∀ a, h_k k a ≠ 0 → b a ≠ o ∧ ∀ j, j ∈ F → b a ≠ ra j) ∧ (∀ j, j ∈ F → h_r S o j = some (ra j) ∧ h_k S (ra j) = r_kd j ∧ h_n S (ra j) = r_len j ∧ ∀ i, h_i S (ra j) i = 0) ∧ (∀ i j, i ∈ F → j ∈ F → ra i = ra j → i = j) ∧ (∀ i, h_i S o i = 0)
section RIn
variable {g : h_G} {b ra : Nat → Nat} {k S : h_S} {o : Nat} {F : List Nat} {t : r_T}
theorem x_step {q j : Nat} (h : XI g b k o F S ra) (hj : j ∉ F) (hq : h_k S q = 0) : XI g b k o (j :: F) (h_sr (h_nw S q (r_kd j) (r_len j)) o j (some q)) (fun i => if i = j then q else ra i) := by
  obtain ⟨h1, h2, h3, h4, h5, h6⟩ := h
  have oq : o ≠ q := fun e => by rw [e, hq] at h2; exact absurd h2 (by decide)
  have bq : ∀ a, h_k k a ≠ 0 → b a ≠ q := fun a ha e => ha (by rw [← (h1.1 a ha).1, e]; exact hq)
  have rq : ∀ i, i ∈ F → ra i ≠ q := fun i hi e => by
    have := (h4 i hi).2.1
    rw [e, hq] at this
    exact r_kd0 i this.symm
  have ij : ∀ i, i ∈ F → i ≠ j := fun i hi e => hj (by rw [← e]; exact hi)
  have K : ∀ a, a ≠ q → h_k (h_sr (h_nw S q (r_kd j) (r_len j)) o j (some q)) a = h_k S a := fun a ha => by
    show h_k (h_nw S q (r_kd j) (r_len j)) a = _
    rw [h_k_nw, if_neg ha]
  have N : ∀ a, a ≠ q → h_n (h_sr (h_nw S q (r_kd j) (r_len j)) o j (some q)) a = h_n S a := fun a ha => by
    show h_n (h_nw S q (r_kd j) (r_len j)) a = _
    rw [h_n_nw, if_neg ha]
  have I : ∀ a i, a ≠ q → h_i (h_sr (h_nw S q (r_kd j) (r_len j)) o j (some q)) a i = h_i S a i := fun a i ha => by
    show h_i (h_nw S q (r_kd j) (r_len j)) a i = _
    rw [h_i_nw, if_neg ha]
  have Rr : ∀ a i, a ≠ q → ¬ (a = o ∧ i = j) → h_r (h_sr (h_nw S q (r_kd j) (r_len j)) o j (some q)) a i = h_r S a i := fun a i ha hn => by
    rw [h_r_sr, if_neg hn, h_r_nw, if_neg ha]
  refine ⟨⟨fun a ha => ?_, h1.2.1, h1.2.2.1, fun A hA => absurd rfl hA⟩, by rw [K o oq]; exact h2, fun a ha => ⟨(h3 a ha).1, fun i hi => ?_⟩, fun i hi => ?_, fun i i2 hi hi2 e => ?_, fun i => by rw [I o i oq]; exact h6 i⟩
  · obtain ⟨q1, q2, q3, q4, q5⟩ := h1.1 a ha
    have nb := bq a ha
    exact ⟨by rw [K _ nb]; exact q1, by rw [N _ nb]; exact q2, fun i => by rw [I _ _ nb]; exact q3 i, fun i => by rw [Rr _ _ nb (fun z => (h3 a ha).1 z.1)]; exact q4 i, q5⟩
  · show b a ≠ (if i = j then q else ra i)
    by_cases e : i = j
    · rw [if_pos e]; exact bq a ha
    · rw [if_neg e]
      exact (h3 a ha).2 i ((List.mem_cons.mp hi).resolve_left e)
  · dsimp only
    by_cases e : i = j
    · rw [if_pos e, e]
      refine ⟨by rw [h_r_sr, if_pos ⟨rfl, rfl⟩], ?_, ?_, fun x => ?_⟩
      · show h_k (h_nw S q (r_kd j) (r_len j)) q = _
        rw [h_k_nw, if_pos rfl]
      · show h_n (h_nw S q (r_kd j) (r_len j)) q = _
        rw [h_n_nw, if_pos rfl]
      · show h_i (h_nw S q (r_kd j) (r_len j)) q x = _
        rw [h_i_nw, if_pos rfl]
    · have hi2 := (List.mem_cons.mp hi).resolve_left e
      rw [if_neg e]
      obtain ⟨q1, q2, q3, q4⟩ := h4 i hi2
      have nr := rq i hi2
      exact ⟨by rw [Rr _ _ oq (fun z => e z.2)]; exact q1, by rw [K _ nr]; exact q2, by rw [N _ nr]; exact q3, fun x => by rw [I _ _ nr]; exact q4 x⟩
  · have e : (if i = j then q else ra i) = (if i2 = j then q else ra i2) := e
    by_cases e1 : i = j
    · by_cases e2 : i2 = j
      · rw [e1, e2]
      · rw [if_pos e1, if_neg e2] at e
        exact absurd e.symm (rq i2 ((List.mem_cons.mp hi2).resolve_left e2))
    · by_cases e2 : i2 = j
      · rw [if_neg e1, if_pos e2] at e
        exact absurd e (rq i ((List.mem_cons.mp hi).resolve_left e1))
      · rw [if_neg e1, if_neg e2] at e
        exact h5 i i2 ((List.mem_cons.mp hi).resolve_left e1) ((List.mem_cons.mp hi2).resolve_left e2) e
theorem x_ok {R : h_S → Nat → Nat → Prop} : ∀ (L : List (Nat × Nat × Nat)) (F : List Nat) (S : h_S) (ra : Nat → Nat) (c d : Nat), XI g b k o F S ra → (∀ x, x ∈ L → x.2.1 = r_kd x.1 ∧ x.2.2 = r_len x.1 ∧ x.1 ∉ F) → (L.map (fun x => x.1)).Nodup → L.length ≤ c → x_sum L ≤ d → (∀ (S2 : h_S) (ra2 : Nat → Nat) (F2 : List Nat), XI g b k o F2 S2 ra2 → (∀ j, j ∈ F → j ∈ F2) → (∀ x, x ∈ L → x.1 ∈ F2) → R S2 (c - L.length) (d - x_sum L)) → x_W o R L S c d := by
  intro L
  induction L with
  | nil => intro F S ra c d h _ _ _ _ hR; exact hR S ra F h (fun _ q => q) (fun x hx => by cases hx)
  | cons x L ih =>
    intro F S ra c d h hx hN hc hd hR
    obtain ⟨e1, e2, nF⟩ := hx x List.mem_cons_self
    rw [List.length_cons] at hc
    have hd : x.2.2 + x_sum L ≤ d := hd
    have hN2 : (x.1 :: L.map (fun x => x.1)).Nodup := hN
    rw [List.nodup_cons] at hN2
    refine ⟨by omega, by omega, fun q hq => ⟨?_, ?_⟩⟩
    · have oq : o ≠ q := fun e => by have := h.2.1; rw [e, hq] at this; exact absurd this (by decide)
      rw [h_k_nw, if_neg oq]; exact h.2.1
    · rw [e1, e2]
      have h2 := x_step h nF hq
      refine ih (x.1 :: F) _ _ (c - 1) (d - r_len x.1) h2 (fun z hz => ?_) hN2.2 (by omega) (by rw [← e2]; omega) (fun S2 ra2 F2 h3 h4 h5 => ?_)
      · obtain ⟨q1, q2, q3⟩ := hx z (List.mem_cons_of_mem _ hz)
        refine ⟨q1, q2, fun w => ?_⟩
        rcases List.mem_cons.mp w with w | w
        · exact hN2.1 (by rw [← w]; exact List.mem_map.mpr ⟨z, hz, rfl⟩)
        · exact q3 w
      · have := hR S2 ra2 F2 h3 (fun j hj => h4 j (List.mem_cons_of_mem _ hj)) (fun z hz => by
          rcases List.mem_cons.mp hz with w | w
          · rw [w]; exact h4 _ List.mem_cons_self
          · exact h5 z w)
        rw [List.length_cons, show x_sum (x :: L) = x.2.2 + x_sum L from rfl, e2] at this
        rw [show c - 1 - L.length = c - (L.length + 1) by omega, show d - r_len x.1 - x_sum L = d - (r_len x.1 + x_sum L) by omega]
        exact this
def t_00 : r_T := ((fun _ => 0), (fun _ _ => 0))
theorem l_AR_all : ∀ j, j < 115 → r_len j ≠ 0 → ∃ x, x ∈ l_AR ∧ x.1 = j := by decide +kernel
theorem XI_ok (h : XI g b k o F S ra) (hF : ∀ x, x ∈ l_AR → x.1 ∈ F) : r_ok o ra S ∧ S = r_emb S o ra t_00 ∧ c_R (rE S o ra) g b k S := by
  obtain ⟨h1, h2, h3, h4, h5, h6⟩ := h
  have inF : ∀ j, j < 115 → r_len j ≠ 0 → j ∈ F := fun j hj hl => by
    obtain ⟨x, q1, q2⟩ := l_AR_all j hj hl
    rw [← q2]; exact hF x q1
  have hok : r_ok o ra S := ⟨h2, fun j hj hl => by
    obtain ⟨q1, q2, q3, _⟩ := h4 j (inF j hj hl)
    exact ⟨q1, q2, q3⟩, fun i j hi hj li lj e => h5 i j (inF i hi li) (inF j hj lj) e⟩
  refine ⟨hok, ?_, ⟨h1.1, h1.2.1, h1.2.2.1, fun A hA => ?_⟩⟩
  · refine e_ext rfl rfl rfl ?_ rfl
    funext a j
    show h_i S a j = (if a = o then t_00.1 else match r_inv ra a with
      | some k => t_00.2 k
      | none => S.2.2.2.1 a) j
    by_cases c : a = o
    · rw [if_pos c, c, h6]; rfl
    · rw [if_neg c]
      cases hi : r_inv ra a with
      | none => rfl
      | some i =>
        obtain ⟨q1, q2, q3⟩ := r_inv_s hi
        show h_i S a j = 0
        rw [← q3]
        exact (h4 i (inF i q1 q2)).2.2.2 j
  · have c := (rE_n0 hok).mp hA
    refine ⟨by rw [rE_k, if_pos c], rfl, fun _ => rfl, fun _ => rfl, fun a ha => ?_⟩
    rcases c with c | c
    · rw [c]; exact (h3 a ha).1
    · obtain ⟨i, hi⟩ := Option.isSome_iff_exists.mp c
      obtain ⟨q1, q2, q3⟩ := r_inv_s hi
      rw [← q3]
      exact (h3 a ha).2 i (inF i q1 q2)
theorem ri_752 {Q : h_S → Prop} {c d : Nat} (hok : r_ok o ra S) : ∀ (e i : Nat) (f : Nat → Int32), i + e = 4 → Q (r_emb S o ra (rt_Af t 110 (fun x => if i ≤ x ∧ x < 4 then -1 else f x))) → w_X12_init_752 Q (e + 1) o (nI i) (r_emb S o ra (rt_Af t 110 f)) c d := by
  have hl : r_len 110 ≠ 0 := by decide
  intro e
  induction e with
  | zero =>
    intro i f hi hQ
    show w_X12_init_752b _ _ _ _ _ _ _
    unfold w_X12_init_752b
    have ef : (fun x => if i ≤ x ∧ x < 4 then -1 else f x) = f := by funext x; rw [if_neg (by omega)]
    rw [ef] at hQ
    exact h_ite (fun _ => hQ) (fun q => absurd ((n_le (a := 4) (by omega) (by omega)).mpr (by omega)) q)
  | succ e ih =>
    intro i f hi hQ
    show w_X12_init_752b Q (w_X12_init_752 Q (e + 1)) _ _ _ _ _
    unfold w_X12_init_752b
    refine h_ite (fun q => absurd ((n_le (a := 4) (b := i) (by omega) (by omega)).mp q) (by omega)) (fun _ => ⟨hok.1, ra 110, e_rr hok hl, e_kk hok hl, ?_, ?_⟩)
    · rw [e_n, e_nn hok hl]; exact (n_vp (by omega)).mpr (show i < 4 by omega)
    · show w_X12_init_752 Q (e + 1) o (nI i + 1) (h_si (r_emb S o ra (rt_Af t 110 f)) (ra 110) (h_ix (nI i)) (-1)) c d
      rw [e_sa hok hl, n_p1, q_nIx (by omega), rt_A_Af]
      refine ih (i + 1) _ (by omega) ?_
      have ef : (fun x => if i + 1 ≤ x ∧ x < 4 then -1 else if x = i then -1 else f x) = (fun x => if i ≤ x ∧ x < 4 then (-1 : Int32) else f x) := by
        funext x
        by_cases c1 : x = i
        · rw [if_neg (by omega), if_pos c1, if_pos (by omega)]
        · by_cases c2 : i + 1 ≤ x ∧ x < 4
          · rw [if_pos c2, if_pos (by omega)]
          · rw [if_neg c2, if_neg c1, if_neg (by omega)]
      rw [ef]
      exact hQ
theorem ri_731 {Q : h_S → Prop} {c d : Nat} (hok : r_ok o ra S) : ∀ (e i : Nat) (f : Nat → Int32), i + e = 12 → Q (r_emb S o ra (rt_Af (rt_Af t 11 (fun x => if i ≤ x ∧ x < 12 then -1 else f x)) 110 (fun x => if 0 ≤ x ∧ x < 4 then -1 else t.2 110 x))) → w_X12_init_731 Q (e + 1) o (nI i) (r_emb S o ra (rt_Af t 11 f)) c d := by
  have hl : r_len 11 ≠ 0 := by decide
  intro e
  induction e with
  | zero =>
    intro i f hi hQ
    show w_X12_init_731b _ _ _ _ _ _ _
    unfold w_X12_init_731b
    have ef : (fun x => if i ≤ x ∧ x < 12 then -1 else f x) = f := by funext x; rw [if_neg (by omega)]
    rw [ef] at hQ
    refine h_ite (fun _ => ⟨5, ?_⟩) (fun q => absurd ((n_le (a := 12) (by omega) (by omega)).mpr (by omega)) q)
    have := ri_752 (Q := Q) (c := c) (d := d) (t := rt_Af t 11 f) hok 4 0 (t.2 110) (by omega) hQ
    have es : rt_Af (rt_Af t 11 f) 110 (t.2 110) = rt_Af t 11 f := rt_Af_self (t := rt_Af t 11 f) 110
    rw [es] at this
    exact this
  | succ e ih =>
    intro i f hi hQ
    show w_X12_init_731b Q (w_X12_init_731 Q (e + 1)) _ _ _ _ _
    unfold w_X12_init_731b
    refine h_ite (fun q => absurd ((n_le (a := 12) (b := i) (by omega) (by omega)).mp q) (by omega)) (fun _ => ⟨hok.1, ra 11, e_rr hok hl, e_kk hok hl, ?_, ?_⟩)
    · rw [e_n, e_nn hok hl]; exact (n_vp (by omega)).mpr (show i < 12 by omega)
    · show w_X12_init_731 Q (e + 1) o (nI i + 1) (h_si (r_emb S o ra (rt_Af t 11 f)) (ra 11) (h_ix (nI i)) (-1)) c d
      rw [e_sa hok hl, n_p1, q_nIx (by omega), rt_A_Af]
      refine ih (i + 1) _ (by omega) ?_
      have ef : (fun x => if i + 1 ≤ x ∧ x < 12 then -1 else if x = i then -1 else f x) = (fun x => if i ≤ x ∧ x < 12 then (-1 : Int32) else f x) := by
        funext x
        by_cases c1 : x = i
        · rw [if_neg (by omega), if_pos c1, if_pos (by omega)]
        · by_cases c2 : i + 1 ≤ x ∧ x < 12
          · rw [if_pos c2, if_pos (by omega)]
          · rw [if_neg c2, if_neg c1, if_neg (by omega)]
      rw [ef]
      exact hQ
/-- the reference's state at the start -/
def t_0 : r_T := rt_Af (rt_Af (rt_F (rt_F t_00 102 10) 103 3) 11 (fun x => if 0 ≤ x ∧ x < 12 then -1 else 0)) 110 (fun x => if 0 ≤ x ∧ x < 4 then -1 else 0)
set_option maxRecDepth 100000 in
theorem x_init (o : Nat) (s : h_S) (mc ms : Nat) (Q : h_S → Prop) (h : x_W o (fun s c d => ∃ n, w_X12_init_731 Q n o 0 (h_si (h_si s o 102 10) o 103 3) c d) l_AR s mc ms) : w_X12_init o s mc ms Q := h
theorem ri_init {mc ms : Nat} {Q : h_S → Prop} (h : XI g b k o [] S ra) (hc : 86 ≤ mc) (hd : 266017 ≤ ms) (hQ : ∀ (S2 : h_S) (ra2 : Nat → Nat), r_ok o ra2 (r_emb S2 o ra2 t_0) → r_emb S2 o ra2 t_0 = r_emb (r_emb S2 o ra2 t_0) o ra2 t_0 → c_R (rE (r_emb S2 o ra2 t_0) o ra2) g b k (r_emb S2 o ra2 t_0) → Q (r_emb S2 o ra2 t_0)) : w_X12_init o S mc ms Q := by
  apply x_init
  have n86 : l_AR.length = 86 := by decide +kernel
  have nsum : x_sum l_AR = 266017 := by decide +kernel
  refine x_ok l_AR [] S ra mc ms h (fun x hx => ?_) (by decide +kernel) (by omega) (by omega) (fun S2 ra2 F2 h2 _ hF => ?_)
  · have all : ∀ x, x ∈ l_AR → x.2.1 = r_kd x.1 ∧ x.2.2 = r_len x.1 := by decide +kernel
    exact ⟨(all x hx).1, (all x hx).2, fun q => by cases q⟩
  · obtain ⟨q1, q2, q3⟩ := XI_ok h2 hF
    refine ⟨13, ?_⟩
    obtain ⟨r1, r2, r3⟩ := l_ref (t2 := t_0) q1 q3
    have e1 : h_si (h_si S2 o 102 10) o 103 3 = r_emb S2 o ra2 (rt_F (rt_F t_00 102 10) 103 3) := by
      rw [← e_so, ← e_so, ← q2]
    rw [e1]
    have es : rt_Af (rt_F (rt_F t_00 102 10) 103 3) 11 (fun _ => 0) = rt_F (rt_F t_00 102 10) 103 3 := rt_Af_self (t := rt_F (rt_F t_00 102 10) 103 3) 11
    have := ri_731 (Q := Q) (c := mc - l_AR.length) (d := ms - x_sum l_AR) (t := rt_F (rt_F t_00 102 10) 103 3) q1 12 0 (fun _ => 0) (by omega) (hQ S2 ra2 r1 r2 r3)
    rw [es] at this
    exact this
end RIn
