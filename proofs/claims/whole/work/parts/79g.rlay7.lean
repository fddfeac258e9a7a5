section LH
variable {s : sA}
theorem l_pl_0 {a b : Nat → Nat} : ∀ (I : List lI) (c : Nat → Nat) (O : List lI), (l_pl a b 0 I (c, O)).2 = O ++ I := by
  intro I
  induction I with
  | nil => intro c O; simp [l_pl]
  | cons i r ih =>
    intro c O
    have e : l_pl a b 0 (i :: r) (c, O) = l_pl a b 0 r (c, O ++ [i]) := rfl
    rw [e, ih, List.append_assoc]; rfl
/-- a row laid out: what is shown of it -/
def l_OUT (s : sA) (w m : Nat) (l : List sP) : List lI := (l_num s w m 0 l).take 300
theorem ri_layLog (v : ivc s) (vp : ivp s) {t : r_T} (hRW : RW t s) {w m : Nat} {lg : Int32} {l : List sP} (hw : w < 12) (hm : m ≤ 600) (hr : l_row t lg l) (hok : ∀ q, q ∈ l → s_pok 12 q) : ∃ t2, fn_X12_layLog lg (nI w) (nI m) t = some ((), t2) ∧ t2.1 35 = nI (l_OUT s w m l).length ∧ l_out t2 (l_OUT s w m l) ∧ (∀ y, y ∈ l_OUT s w m l → y.2.2.length ≤ 5) ∧ r_fr (35 :: l_S) t t2 := by
  have hE := ri_enter hRW v (L := 0) (m := m) (A := 0) (n := 300) (by omega) hw (by omega) (by omega)
  have hE2 : fn_X12_enter 0 (nI w) (nI m) 0 300 t = some ((), _) := hE
  unfold fn_X12_layLog
  rw [hE2, fg_b_1, fg_g_1 (show vp_in (0 : Int32) 5 from (n_vp (k := 0) (by omega)).mpr (by omega)), fg_let_1, show h_ix 0 = 0 from rfl]
  generalize ht : rt_A (rt_A (rt_A (rt_A (rt_A (rt_A (rt_A (rt_A t 31 0 (nI w)) 30 0 (nI m)) 28 0 (r_log t (nI m) 1200 (t.2 11 w))) 29 0 0) 32 0 (nI 0)) 33 0 (nI (min (0 + 300) 300))) 34 0 0) 28 0 lg = t9
  have fr9 : r_fr l_S t t9 := by
    rw [← ht]
    exact r_frt (r_frA (by decide)) (r_frt (r_frA (by decide)) (r_frt (r_frA (by decide)) (r_frt (r_frA (by decide)) (r_frt (r_frA (by decide)) (r_frt (r_frA (by decide)) (r_frt (r_frA (by decide)) (r_frA (by decide))))))))
  have k31 : t9.2 31 0 = nI w := by rw [← ht]; rfl
  have k30 : t9.2 30 0 = nI m := by rw [← ht]; rfl
  have k28 : t9.2 28 0 = lg := by rw [← ht]; rfl
  have k29 : t9.2 29 0 = nI 0 := by rw [← ht]; rfl
  have k32 : t9.2 32 0 = nI 0 := by rw [← ht]; rfl
  have k33 : t9.2 33 0 = nI 300 := by rw [← ht]; rfl
  have k34 : t9.2 34 0 = nI 0 := by rw [← ht]; rfl
  have hV : ∀ g2, t9.2 29 0 = nI (g2 + 1) → l_V 0 (fun _ => 0) (fun _ => 300) (fun _ => 0) (fun _ => nI w) g2 [] t9 := by
    intro g2 e
    refine ⟨fun k hk => ?_, e, rfl, fun y hy => absurd hy (List.not_mem_nil), fun i y hy => by simp at hy⟩
    obtain rfl : k = 0 := by omega
    exact ⟨k31, k32, k33, k34, show 0 ≤ 500 by omega, show 300 ≤ 300 by omega, show 0 ≤ 300 by omega⟩
  have hlen : l.length ≤ 60 := by
    rcases hr with ⟨_, e⟩ | ⟨_, _, _, _, _, _, _, e, _⟩
    · rw [e]; decide
    · exact e
  have hfu : l_fu 4 (l.length - 0) ≤ 500000000 := Nat.le_trans (l_fu_mono 4 (show l.length - 0 ≤ 60 by omega)) (by decide)
  have hg := g_N_le
  obtain ⟨t2, N2, g2, f1, f2, f3, f4⟩ := ri_LOOP0 v vp (a := fun _ => 0) (b := fun _ => 300) (ws := fun _ => nI w) (w := w) (m := m) (lg := lg) (l := l) rfl rfl hm hok (l.length - 0) 0 g_N 0 (fun _ => 0) [] t9 rfl hV k28 k29 k30 (l_row_c hr fr9) (Nat.zero_le _) (RW_fr hRW fr9) (by omega)
  rw [f1]
  obtain ⟨N2, rfl⟩ : ∃ z, N2 = z + 1 := ⟨N2 - 1, by omega⟩
  have e1 : fn_X12_layLog_21 (N2 + 1) (-1) t2 = some ((), rt_F t2 35 (t2.2 34 0)) := by
    show fn_X12_layLog_21b (fn_X12_layLog_21 N2) (-1) t2 = _
    unfold fn_X12_layLog_21b
    rw [fg_if_1 (by decide), fg_g_1 (show vp_in (0 : Int32) 5 from (n_vp (k := 0) (by omega)).mpr (by omega))]
    rfl
  have eO : (l_pl (fun _ => 0) (fun _ => 300) 1 (l_num s w m 0 (l.drop 0)) ((fun _ => 0), [])).2 = l_OUT s w m l := by
    rw [(l_pl_win (a := fun _ => 0) (b := fun _ => 300) (k := 0) (l_num s w m 0 (l.drop 0)) (fun _ => 0) []).1, l_pl_0]
    rfl
  rw [eO] at f3
  refine ⟨_, e1, ?_, ?_, f3.2.2.2.1, ?_⟩
  · rw [rt_FF, if_pos rfl, (f3.1 0 (Nat.le_refl _)).2.2.2.1, f3.2.2.1]
  · exact f3.2.2.2.2
  · have h1 : r_fr (35 :: l_S) t t2 := r_frS (r_frt fr9 f4) (fun k hk => List.mem_cons_of_mem _ hk)
    exact r_frt h1 (r_frF (by decide))
/-- what a writing shows, with pieces and chains -/
def s_inf (s : sA) (w m : Nat) : List lI := l_OUT s w m (sR s w m)
theorem l_num_it (w m : Nat) : ∀ (l : List sP) (p : Nat), (l_num s w m p l).map (fun y => (y.1, y.2.2)) = l.flatMap (s_ip (sR s) 4 w m) := by
  intro l
  induction l with
  | nil => intro p; rfl
  | cons q r ih =>
    intro p
    show ((l_IT s 4 w m p [] q) ++ l_num s w m (p + 1) r).map _ = _
    rw [List.map_append, ih, List.flatMap_cons]
    congr 1
    unfold l_IT
    rw [List.map_map]
    have : ((fun y : lI => (y.1, y.2.2)) ∘ fun y : Int32 × List Int32 => ((y.1, p, [] ++ y.2) : lI)) = id := by funext y; rfl
    rw [this, List.map_id]
theorem s_inf_w (w m : Nat) : (s_inf s w m).map (fun y => y.1) = s_sh (sR s) 4 w m := by
  unfold s_inf l_OUT
  rw [List.map_take, ← s_it_sh, s_it_ip, ← l_num_it w m (sR s w m) 0, List.map_map]
  rfl
theorem s_inf_len (w m : Nat) : (s_inf s w m).length = (s_sh (sR s) 4 w m).length := by rw [← s_inf_w, List.length_map]
/-- lay(w, m) -/
theorem ri_lay {t : r_T} (h : RA t s) (v : ivc s) (vp : ivp s) {w m : Nat} (hw : w < 12) (hm : m ≤ 600) : ∃ t2, fn_X12_lay (nI w) (nI m) t = some ((), t2) ∧ t2.1 35 = nI (s_sh (sR s) 4 w m).length ∧ l_out t2 (s_inf s w m) ∧ (∀ y, y ∈ s_inf s w m → y.2.2.length ≤ 5) ∧ r_fr (35 :: l_S) t t2 ∧ RA t2 s := by
  have v2 := v.2.2.1
  unfold fn_X12_lay
  rw [ri_logOf h.2.2.2.2.1 v hw, fg_b_1]
  obtain ⟨t2, f1, f2, f3, f4, f5⟩ := ri_layLog v vp h.2.2.2.2.1 hw hm (l_row_of (m := m) h.2.2.2.2.1 v hw (by omega)) (fun q hq => by
    obtain ⟨p1, p2, p3, p4, p5⟩ := (vp w m).2 q hq
    exact ⟨p1, p2, p3, fun c => by obtain ⟨z, hz, e⟩ := p4 c; exact ⟨z, by omega, e⟩, p5⟩)
  rw [f1, fg_b_1]
  exact ⟨t2, rfl, by rw [f2, ← s_inf_len]; rfl, f3, f4, f5, RA_fr h f5 (by decide)⟩
theorem l_out_w {t : r_T} {w m i : Nat} {x : Int32} (h : l_out t (s_inf s w m)) (hx : (s_sh (sR s) 4 w m)[i]? = some x) : t.2 36 i = x := by
  rw [← s_inf_w, List.getElem?_map] at hx
  obtain ⟨y, h1, h2⟩ := Option.map_eq_some_iff.mp hx
  rw [(h i y h1).1, h2]
end LH
