/-- the numbers at a become g -/
def h_af (k : h_S) (a : Nat) (g : Nat → Int32) : h_S := (k.1, k.2.1, k.2.2.1, (fun b => if b = a then g else k.2.2.2.1 b), k.2.2.2.2)
/-- what a piece shows -/
def s_pp (R : Nat → Nat → List sP) (f m : Nat) (p : sP) : List Int32 := if p.1 < 2 then s_ws p.2.1 (h_ix p.2.2.1) else match f with
  | 0 => [-7]
  | f + 1 => ((s_sh R f (h_ix p.2.2.2.1) (if p.1 = 2 then h_ix p.2.2.2.2 else m)).drop (h_ix p.2.1)).take (h_ix p.2.2.1)
theorem s_sh_pp (R : Nat → Nat → List sP) (f w m : Nat) : s_sh R f w m = ((R w m).flatMap (s_pp R f m)).take 300 := by
  cases f with
  | zero => unfold s_sh s_pp; rfl
  | succ f => unfold s_sh s_pp; rfl
/-- spans are of moments that had been -/
def ivq (s : sA) : Prop := ∀ w m p, p ∈ sR s w m → p.1 = 2 → h_ix p.2.2.2.2 ≤ m
/-- a draft holds T -/
def c_dr (k : h_S) (d : Nat) (T : List Int32) : Prop := ∀ (j : Nat) (x : Int32), T[j]? = some x → h_i k (22 + d) j = x
section CT
variable {k k2 : h_S} {s : sA} {y : c_Y} {M : Nat}
theorem h_i_af (a : Nat) (g : Nat → Int32) (b : Nat) : h_i (h_af k a g) b = if b = a then g else h_i k b := rfl
theorem h_si_af (a i : Nat) (g : Nat → Int32) (v : Int32) : h_si (h_af k a g) a i v = h_af k a (fun x => if x = i then v else g x) := by
  unfold h_si h_af
  congr 4
  funext b
  show h_up (fun b => if b = a then g else k.2.2.2.1 b) a i v b = _
  unfold h_up
  by_cases e : b = a
  · simp [e]
  · simp [e]
theorem h_af_self (a : Nat) : h_af k a (h_i k a) = k := by
  unfold h_af
  have : (fun b => if b = a then h_i k a else k.2.2.2.1 b) = k.2.2.2.1 := by
    funext b
    by_cases e : b = a
    · rw [if_pos e, e]; rfl
    · rw [if_neg e]
  rw [this]
theorem c_eq_af {a b : Nat} {g : Nat → Int32} (h : b ≠ a) : c_eq k (h_af k a g) b := ⟨rfl, rfl, by rw [h_i_af, if_neg h], rfl⟩
theorem cf_af {a : Nat} {g : Nat → Int32} (h : c_F k) : c_F (h_af k a g) := h
theorem c_ag_af {fx tg : List Nat} {a : Nat} {g : Nat → Int32} (h1 : a < 128) (h2 : a ∉ fx) : c_ag fx tg k (h_af k a g) := ⟨fun b hb => c_eq_af (fun e => h2 (by rw [← e]; exact hb)), fun b hb _ _ => c_eq_af (by omega)⟩
theorem h_cp_af (a sp d dp n : Nat) : h_cp k a sp d dp n = h_af k d (va_cpy (h_i k a) (h_i k d) sp dp n) := rfl
theorem TXT_fr {fx tg : List Nat} (h : TXT k s M y) (g : c_ag fx tg k k2) (hF : c_F k2) (h3 : 3 ∈ fx) (h16 : 16 ∈ fx) (h17 : 17 ∈ fx) (h20 : 20 ∈ fx) (t1 : 1 ∈ tg) (t2 : 2 ∈ tg) (t3 : 3 ∈ tg) (t4 : 4 ∈ tg) (t5 : 5 ∈ tg) : TXT k2 s M y := by
  obtain ⟨a1, a2, a3, a4⟩ := h
  refine ⟨hF, by rw [(g.1 3 h3).2.2.1]; exact a2, fun w hw => ?_, fun i hi => ?_, a4.2⟩
  · rw [(g.1 16 h16).2.2.2]
    exact ⟨(a3 w hw).1, c_ch_fr g t1 t5 t4 h17 _ _ (a3 w hw).2.1, (a3 w hw).2.2⟩
  · rw [(g.1 20 h20).2.2.2]
    rcases a4.1 i hi with e | ⟨e1, e2, e3⟩
    · exact Or.inl e
    · exact Or.inr ⟨e1, e2, c_sl_fr e3 g t2 t3 (Nat.le_refl _) (Nat.le_refl _) (fun _ _ _ _ _ _ => rfl)⟩
theorem TXT_af {d : Nat} {g : Nat → Int32} (h : TXT k s M y) (hd : d ≤ 4) : TXT (h_af k (22 + d) g) s M y := TXT_fr (fx := [3, 16, 17, 20]) (tg := [1, 2, 3, 4, 5]) h (c_ag_af (by omega) (by simp; omega)) (cf_af h.1) (by decide) (by decide) (by decide) (by decide) (by decide) (by decide) (by decide) (by decide) (by decide)
theorem c_dr_af {d : Nat} {g : Nat → Int32} {T : List Int32} (h : ∀ (j : Nat) (x : Int32), T[j]? = some x → g j = x) : c_dr (h_af k (22 + d) g) d T := fun j x hj => by rw [h_i_af, if_pos rfl]; exact h j x hj
/-- the words of a piece are laid out -/
theorem ci_lay_37 {C : Int32 → Int32 → Int32 → h_S → fg_R (Option Nat) h_S} {a d z v : Nat} {A : Int32} (hk : h_k k a = 23) (hA : h_i k a 1 = A) (ha : a ≠ 22 + d) (hd : h_k k (22 + d) = 1) (hn : h_n k (22 + d) = 300) (hz : z + v ≤ 300) : ∀ (e j N : Nat) (g : Nat → Int32), j + e = v → e < N → fn_X7_lay_37 C N (some a) (nI z) (some (22 + d)) (nI v) (nI j) (h_af k (22 + d) g) = some (nI (z + v), h_af k (22 + d) (fun x => if z + j ≤ x ∧ x < z + v then A + nI (x - z) else g x), 0, 0) := by
  intro e
  induction e with
  | zero =>
    intro j N g hj hN
    obtain ⟨N, rfl⟩ : ∃ m, N = m + 1 := ⟨N - 1, by omega⟩
    show fn_X7_lay_37b C _ _ _ _ _ _ _ = _
    unfold fn_X7_lay_37b
    rw [fg_if_1 ((n_le (by omega) (by omega)).mpr (by omega)), n_add]
    congr 3
    congr 1
    funext x
    rw [if_neg (by omega)]
  | succ e ih =>
    intro j N g hj hN
    obtain ⟨N, rfl⟩ : ∃ m, N = m + 1 := ⟨N - 1, by omega⟩
    show fn_X7_lay_37b C (fn_X7_lay_37 C N) _ _ _ _ _ _ = _
    unfold fn_X7_lay_37b
    have e1 : h_k (h_af k (22 + d) g) a = 23 := hk
    have e2 : h_k (h_af k (22 + d) g) (22 + d) = 1 := hd
    have e3 : h_n (h_af k (22 + d) g) (22 + d) = 300 := hn
    have e4 : h_i (h_af k (22 + d) g) a 1 = A := by rw [h_i_af, if_neg ha]; exact hA
    rw [fg_if_0 (fun w => by have := (n_le (a := v) (b := j) (by omega) (by omega)).mp w; omega), fg_o_1, fg_g_1 e1, fg_o_1, fg_g_1 e2, e3, n_add, fg_g_1 ((n_vp (by omega)).mpr (by omega)), fg_let_1, e4, q_nIx (by omega), h_si_af, n_p1, ih (j + 1) N _ (by omega) (by omega)]
    congr 3
    congr 1
    funext x
    by_cases c : x = z + j
    · have c9 : x - z = j := by omega
      rw [if_neg (by omega), if_pos c, if_pos (by omega), c9]
    · by_cases c2 : z + (j + 1) ≤ x ∧ x < z + v
      · rw [if_pos c2, if_pos (by omega)]
      · rw [if_neg c2, if_neg c, if_neg (by omega)]
theorem c_dk (h : c_F k) {d : Nat} (hd : d ≤ 4) : h_k k (22 + d) = 1 ∧ h_n k (22 + d) = 300 ∧ h_r k 21 d = some (22 + d) := by
  rcases (show d = 0 ∨ d = 1 ∨ d = 2 ∨ d = 3 ∨ d = 4 by omega) with rfl | rfl | rfl | rfl | rfl
  · exact ⟨cf_k h rfl (by decide), cf_n (a := 22) h rfl (by decide) rfl, cf_r (a := 21) (j := 0) h rfl⟩
  · exact ⟨cf_k h rfl (by decide), cf_n (a := 23) h rfl (by decide) rfl, cf_r (a := 21) (j := 1) h rfl⟩
  · exact ⟨cf_k h rfl (by decide), cf_n (a := 24) h rfl (by decide) rfl, cf_r (a := 21) (j := 2) h rfl⟩
  · exact ⟨cf_k h rfl (by decide), cf_n (a := 25) h rfl (by decide) rfl, cf_r (a := 21) (j := 3) h rfl⟩
  · exact ⟨cf_k h rfl (by decide), cf_n (a := 26) h rfl (by decide) rfl, cf_r (a := 21) (j := 4) h rfl⟩
theorem n_min (a b : Nat) (ha : a < 2 ^ 31) (hb : b < 2 ^ 31) : h_min (nI a) (nI b) = nI (min a b) := by
  unfold h_min
  by_cases c : b < a
  · rw [if_pos ((n_lt hb ha).mpr c), Nat.min_eq_right (by omega)]
  · rw [if_neg (fun q => c ((n_lt hb ha).mp q)), Nat.min_eq_left (by omega)]
theorem n_max (a b : Nat) (ha : a < 2 ^ 31) (hb : b < 2 ^ 31) : h_max (nI a) (nI b) = nI (max a b) := by
  unfold h_max
  by_cases c : a < b
  · rw [if_pos ((n_lt ha hb).mpr c), Nat.max_eq_right (by omega)]
  · rw [if_neg (fun q => c ((n_lt ha hb).mp q)), Nat.max_eq_left (by omega)]
/-- a list put behind another one, up to 300 -/
theorem l_putb (T I : List Int32) (hT : T.length ≤ 300) : (T ++ I).take 300 = T ++ I.take (300 - T.length) := by
  rw [List.take_append, List.take_of_length_le hT]
end CT
