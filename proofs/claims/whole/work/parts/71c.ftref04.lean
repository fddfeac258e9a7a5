set_option maxRecDepth 100000 in
set_option maxHeartbeats 4000000 in
theorem ft_X12_layTree_75 {o : Nat} {ra : Nat → Nat} {s0 : h_S} (hok : r_ok o ra s0) {Q : h_S → Prop} {r : Unit} {t : r_T} (hQ : Q (r_emb s0 o ra t)) : ∀ (n : Nat) (x2 : Int32) (s : r_T), fn_X12_layTree_75 n x2 s = some (r, t) → w_X12_layTree_75 Q n o x2 (r_emb s0 o ra s) := by
  intro n
  induction n with
  | zero => intro x2 s h; exact fg_none h
  | succ n ih =>
    intro x2 s h
    exact ft_X12_layTree_75b hok hQ ih h
set_option maxRecDepth 100000 in
set_option maxHeartbeats 4000000 in
theorem ft_X12_layTree_2b {o : Nat} {ra : Nat → Nat} {s0 : h_S} (hok : r_ok o ra s0) {Q : h_S → Prop} {r : Unit} {t : r_T} (hQ : Q (r_emb s0 o ra t)) {K2 : Int32 → Int32 → r_T → Option (Unit × r_T)} {WK2 : Nat → Int32 → Int32 → h_S → Prop} (hK2 : ∀ (n0 : Int32) (n1 : Int32) (u : r_T), K2 n0 n1 u = some (r, t) → WK2 o n0 n1 (r_emb s0 o ra u)) {s : r_T} {x1 : Int32} {x2 : Int32} (h : fn_X12_layTree_2b K2 x1 x2 s = some (r, t)) : w_X12_layTree_2b Q WK2 o x1 x2 (r_emb s0 o ra s) := by
  unfold fn_X12_layTree_2b at h
  unfold w_X12_layTree_2b
  refine fg_ite Iff.rfl (fun d => ?_) (fun d => ?_)
  · have h := fg_if_t d h
    exact ⟨g_N, ft_X12_layTree_75 hok hQ g_N _ _ h⟩
  · have h := fg_if_e d h
    refine ⟨hok.1, ?_⟩
    try simp -zeta only [e_io]
    refine fg_ite Iff.rfl (fun d => ?_) (fun d => ?_)
    · have h := fg_if_t d h
      rw [fr_r109 hok]
      exact ft_X12_layTree_63 hok hQ hK2 h
    · have h := fg_if_e d h
      refine ⟨ra 26, fr_r26 hok, ?_⟩
      refine ⟨fr_k26 hok, ?_⟩
      obtain ⟨c, h⟩ := fg_g_s h
      refine ⟨fr_vp (fr_n26 hok) c, ?_⟩
      try simp -zeta only [fr_i26 hok]
      refine fg_ite Iff.rfl (fun d => ?_) (fun d => ?_)
      · have h := fg_if_t d h
        rw [fr_r109 hok]
        exact ft_X12_layTree_63 hok hQ hK2 h
      · have h := fg_if_e d h
        refine ⟨ra 24, fr_r24 hok, ?_⟩
        refine ⟨fr_k24 hok, ?_⟩
        obtain ⟨c, h⟩ := fg_g_s h
        refine ⟨fr_vp (fr_n24 hok) c, ?_⟩
        refine ⟨ra 23, fr_r23 hok, ?_⟩
        refine ⟨fr_k23 hok, ?_⟩
        obtain ⟨c, h⟩ := fg_g_s h
        refine ⟨fr_vp (fr_n23 hok) c, ?_⟩
        try simp -zeta only [fr_i23 hok, fr_i24 hok]
        obtain ⟨p15, s14, e_s14, h⟩ := fg_b_s h
        refine ft_X12_mix hok e_s14 ?_
        refine ⟨hok.1, ?_⟩
        refine ⟨ra 26, fr_r26 hok, ?_⟩
        refine ⟨fr_k26 hok, ?_⟩
        obtain ⟨c, h⟩ := fg_g_s h
        refine ⟨fr_vp (fr_n26 hok) c, ?_⟩
        try simp -zeta only [fr_i26 hok]
        obtain ⟨p21, s20, e_s20, h⟩ := fg_b_s h
        refine ft_X12_mix hok e_s20 ?_
        rw [fr_r109 hok]
        exact ft_X12_layTree_64 hok hQ hK2 h
set_option maxRecDepth 100000 in
set_option maxHeartbeats 4000000 in
theorem ft_X12_layTree_2 {o : Nat} {ra : Nat → Nat} {s0 : h_S} (hok : r_ok o ra s0) {Q : h_S → Prop} {r : Unit} {t : r_T} (hQ : Q (r_emb s0 o ra t)) : ∀ (n : Nat) (x1 : Int32) (x2 : Int32) (s : r_T), fn_X12_layTree_2 n x1 x2 s = some (r, t) → w_X12_layTree_2 Q n o x1 x2 (r_emb s0 o ra s) := by
  intro n
  induction n with
  | zero => intro x1 x2 s h; exact fg_none h
  | succ n ih =>
    intro x1 x2 s h
    exact ft_X12_layTree_2b hok hQ ih h
set_option maxRecDepth 100000 in
set_option maxHeartbeats 4000000 in
theorem ft_X12_layTree {o : Nat} {ra : Nat → Nat} {s0 : h_S} (hok : r_ok o ra s0) {Q : h_S → Prop} {r : Unit} {t : r_T} {s : r_T} {x1 : Int32} (h : fn_X12_layTree x1 s = some (r, t)) (hQ : Q (r_emb s0 o ra t)) : w_X12_layTree o x1 (r_emb s0 o ra s) Q := by
  unfold fn_X12_layTree at h
  unfold w_X12_layTree
  exact ⟨g_N, ft_X12_layTree_2 hok hQ g_N _ _ _ h⟩
set_option maxRecDepth 100000 in
set_option maxHeartbeats 4000000 in
theorem ft_X12_seal {o : Nat} {ra : Nat → Nat} {s0 : h_S} (hok : r_ok o ra s0) {Q : Int32 → h_S → Prop} {r : Int32} {t : r_T} {s : r_T} {x1 : Int32} (h : fn_X12_seal x1 s = some (r, t)) (hQ : Q r (r_emb s0 o ra t)) : w_X12_seal o x1 (r_emb s0 o ra s) Q := by
  unfold fn_X12_seal at h
  unfold w_X12_seal
  refine ⟨hok.1, ?_⟩
  obtain ⟨p3, s2, e_s2, h⟩ := fg_b_s h
  refine ft_X12_noMoment hok e_s2 ?_
  refine fg_ite Iff.rfl (fun d => ?_) (fun d => ?_)
  · have h := fg_if_t d h
    refine ⟨hok.1, ?_⟩
    obtain ⟨u_, s6, e_s6, h⟩ := fg_b_s h
    refine ft_X12_layTree hok e_s6 ?_
    refine ⟨hok.1, ?_⟩
    refine ⟨ra 109, fr_r109 hok, ?_⟩
    refine ⟨fr_k109 hok, ?_⟩
    obtain ⟨c, h⟩ := fg_g_s h
    refine ⟨fr_vp (fr_n109 hok) c, ?_⟩
    try simp -zeta only [fr_i109 hok]
    obtain ⟨q, q2⟩ := fg_ret h
    subst q
    subst q2
    exact hQ
  · have h := fg_if_e d h
    obtain ⟨q, q2⟩ := fg_ret h
    subst q
    subst q2
    exact hQ
set_option maxRecDepth 100000 in
set_option maxHeartbeats 4000000 in
theorem ft_X12_sideOf {o : Nat} {ra : Nat → Nat} {s0 : h_S} (hok : r_ok o ra s0) {Q : Int32 → h_S → Prop} {r : Int32} {t : r_T} {s : r_T} {x1 : Int32} {x2 : Int32} (h : fn_X12_sideOf x1 x2 s = some (r, t)) (hQ : Q r (r_emb s0 o ra t)) : w_X12_sideOf o x1 x2 (r_emb s0 o ra s) Q := by
  unfold fn_X12_sideOf at h
  unfold w_X12_sideOf
  refine ⟨hok.1, ?_⟩
  refine ⟨ra 109, fr_r109 hok, ?_⟩
  refine ⟨fr_k109 hok, ?_⟩
  obtain ⟨c, h⟩ := fg_g_s h
  refine ⟨fr_vp (fr_n109 hok) c, ?_⟩
  try simp -zeta only [fr_i109 hok]
  obtain ⟨q, q2⟩ := fg_ret h
  subst q
  subst q2
  exact hQ
set_option maxRecDepth 100000 in
set_option maxHeartbeats 4000000 in
theorem ft_X12_side {o : Nat} {ra : Nat → Nat} {s0 : h_S} (hok : r_ok o ra s0) {Q : Int32 → h_S → Prop} {r : Int32} {t : r_T} {s : r_T} {x1 : Int32} {x2 : Int32} {x3 : Int32} (h : fn_X12_side x1 x2 x3 s = some (r, t)) (hQ : Q r (r_emb s0 o ra t)) : w_X12_side o x1 x2 x3 (r_emb s0 o ra s) Q := by
  unfold fn_X12_side at h
  unfold w_X12_side
  refine ⟨hok.1, ?_⟩
  obtain ⟨p3, s2, e_s2, h⟩ := fg_b_s h
  refine ft_X12_noWord hok e_s2 ?_
  refine fg_ite Iff.rfl (fun d => ?_) (fun d => ?_)
  · have h := fg_if_t d h
    refine ⟨hok.1, ?_⟩
    obtain ⟨p7, s6, e_s6, h⟩ := fg_b_s h
    refine ft_X12_noMoment hok e_s6 ?_
    refine fg_ite Iff.rfl (fun d => ?_) (fun d => ?_)
    · have h := fg_if_t d h
      obtain ⟨p10, s9, e_s9, h⟩ := fg_b_s h
      refine ft_X12_in hok e_s9 ?_
      refine fg_ite Iff.rfl (fun d => ?_) (fun d => ?_)
      · have h := fg_if_t d h
        unfold w_X12_side_28
        obtain ⟨q, q2⟩ := fg_ret h
        subst q
        subst q2
        exact hQ
      · have h := fg_if_e d h
        refine ⟨hok.1, ?_⟩
        obtain ⟨u_, s13, e_s13, h⟩ := fg_b_s h
        refine ft_X12_layTree hok e_s13 ?_
        refine ⟨hok.1, ?_⟩
        obtain ⟨p17, s16, e_s16, h⟩ := fg_b_s h
        refine ft_X12_sideOf hok e_s16 ?_
        obtain ⟨q, q2⟩ := fg_ret h
        subst q
        subst q2
        exact hQ
    · have h := fg_if_e d h
      unfold w_X12_side_28
      obtain ⟨q, q2⟩ := fg_ret h
      subst q
      subst q2
      exact hQ
  · have h := fg_if_e d h
    unfold w_X12_side_28
    obtain ⟨q, q2⟩ := fg_ret h
    subst q
    subst q2
    exact hQ
set_option maxRecDepth 100000 in
set_option maxHeartbeats 4000000 in
theorem ft_X12_prove_29 {o : Nat} {ra : Nat → Nat} {s0 : h_S} (hok : r_ok o ra s0) {Q : Int32 → h_S → Prop} {r : Int32} {t : r_T} (hQ : Q r (r_emb s0 o ra t)) {s : r_T} (h : fn_X12_prove_29 s = some (r, t)) : w_X12_prove_29 Q o (r_emb s0 o ra s) := by
  unfold fn_X12_prove_29 at h
  unfold w_X12_prove_29
  refine ⟨hok.1, ?_⟩
  obtain ⟨p3, s2, e_s2, h⟩ := fg_b_s h
  refine ft_X12_refused hok e_s2 ?_
  obtain ⟨q, q2⟩ := fg_ret h
  subst q
  subst q2
  exact hQ
set_option maxRecDepth 100000 in
set_option maxHeartbeats 4000000 in
theorem ft_X12_prove_176 {o : Nat} {ra : Nat → Nat} {s0 : h_S} (hok : r_ok o ra s0) {Q : Int32 → h_S → Prop} {r : Int32} {t : r_T} (hQ : Q r (r_emb s0 o ra t)) {s : r_T} {y0 : Int32} (h : fn_X12_prove_176 y0 s = some (r, t)) : w_X12_prove_176 Q y0 o (r_emb s0 o ra s) := by
  unfold fn_X12_prove_176 at h
  unfold w_X12_prove_176
  refine ⟨hok.1, ?_⟩
  obtain ⟨p3, s2, e_s2, h⟩ := fg_b_s h
  refine ft_X12_refused hok e_s2 ?_
  obtain ⟨q, q2⟩ := fg_ret h
  subst q
  subst q2
  exact hQ
set_option maxRecDepth 100000 in
set_option maxHeartbeats 4000000 in
theorem ft_X12_prove_78b {o : Nat} {ra : Nat → Nat} {s0 : h_S} (hok : r_ok o ra s0) {Q : Int32 → h_S → Prop} {r : Int32} {t : r_T} (hQ : Q r (r_emb s0 o ra t)) {K78 : Int32 → Int32 → Int32 → Int32 → Int32 → r_T → Option (Int32 × r_T)} {WK78 : Nat → Int32 → Int32 → Int32 → Int32 → Int32 → h_S → Prop} (hK78 : ∀ (n0 : Int32) (n1 : Int32) (n2 : Int32) (n3 : Int32) (n4 : Int32) (u : r_T), K78 n0 n1 n2 n3 n4 u = some (r, t) → WK78 o n0 n1 n2 n3 n4 (r_emb s0 o ra u)) {s : r_T} {x1 : Int32} {x6 : Int32} {x8 : Int32} {x10 : Int32} {x11 : Int32} (h : fn_X12_prove_78b K78 x1 x6 x8 x10 x11 s = some (r, t)) : w_X12_prove_78b Q WK78 o x1 x6 x8 x10 x11 (r_emb s0 o ra s) := by
  unfold fn_X12_prove_78b at h
  unfold w_X12_prove_78b
  refine fg_ite Iff.rfl (fun d => ?_) (fun d => ?_)
  · have h := fg_if_t d h
    refine ⟨hok.1, ?_⟩
    refine ⟨ra 109, fr_r109 hok, ?_⟩
    refine ⟨fr_k109 hok, ?_⟩
    obtain ⟨c, h⟩ := fg_g_s h
    refine ⟨fr_vp (fr_n109 hok) c, ?_⟩
    try simp -zeta only [fr_i109 hok]
    refine fg_ite Iff.rfl (fun d => ?_) (fun d => ?_)
    · have h := fg_if_t d h
      exact ft_X12_prove_176 hok hQ h
    · have h := fg_if_e d h
      exact ft_X12_prove_176 hok hQ h
  · have h := fg_if_e d h
    refine ⟨hok.1, ?_⟩
    refine ⟨ra 112, fr_r112 hok, ?_⟩
    refine ⟨fr_k112 hok, ?_⟩
    obtain ⟨c, h⟩ := fg_g_s h
    refine ⟨fr_vp (fr_n112 hok) c, ?_⟩
    try simp -zeta only [fr_i112 hok]
    obtain ⟨v11, e_v11, h⟩ := fg_let_s h
    intro S_v11
    have z_v11 : v11 = S_v11 := e_v11
    clear_value S_v11
    subst z_v11
    obtain ⟨p13, s12, e_s12, h⟩ := fg_b_s h
    refine ft_X12_sideOf hok e_s12 ?_
    refine fg_ite Iff.rfl (fun d => ?_) (fun d => ?_)
    · have h := fg_if_t d h
      refine fg_ite Iff.rfl (fun d => ?_) (fun d => ?_)
      · have h := fg_if_t d h
        obtain ⟨p19, s18, e_s18, h⟩ := fg_b_s h
        refine ft_X12_mix hok e_s18 ?_
        unfold w_X12_prove_151
        exact hK78 _ _ _ _ _ _ h
      · have h := fg_if_e d h
        obtain ⟨p17, s16, e_s16, h⟩ := fg_b_s h
        refine ft_X12_mix hok e_s16 ?_
        unfold w_X12_prove_151
        exact hK78 _ _ _ _ _ _ h
    · have h := fg_if_e d h
      refine ⟨hok.1, ?_⟩
      obtain ⟨p22, s21, e_s21, h⟩ := fg_b_s h
      refine ft_X12_refused hok e_s21 ?_
      obtain ⟨q, q2⟩ := fg_ret h
      subst q
      subst q2
      exact hQ
set_option maxRecDepth 100000 in
set_option maxHeartbeats 4000000 in
theorem ft_X12_prove_78 {o : Nat} {ra : Nat → Nat} {s0 : h_S} (hok : r_ok o ra s0) {Q : Int32 → h_S → Prop} {r : Int32} {t : r_T} (hQ : Q r (r_emb s0 o ra t)) : ∀ (n : Nat) (x1 : Int32) (x6 : Int32) (x8 : Int32) (x10 : Int32) (x11 : Int32) (s : r_T), fn_X12_prove_78 n x1 x6 x8 x10 x11 s = some (r, t) → w_X12_prove_78 Q n o x1 x6 x8 x10 x11 (r_emb s0 o ra s) := by
  intro n
  induction n with
  | zero => intro x1 x6 x8 x10 x11 s h; exact fg_none h
  | succ n ih =>
    intro x1 x6 x8 x10 x11 s h
    exact ft_X12_prove_78b hok hQ ih h
set_option maxRecDepth 100000 in
set_option maxHeartbeats 4000000 in
theorem ft_X12_prove {o : Nat} {ra : Nat → Nat} {s0 : h_S} (hok : r_ok o ra s0) {Q : Int32 → h_S → Prop} {r : Int32} {t : r_T} {s : r_T} {x1 : Int32} {x2 : Int32} {x3 : Int32} {x4 : Int32} {x5 : Int32} {x6 : Int32} {x7 : Int32} {x8 : Int32} (h : fn_X12_prove x1 x2 x3 x4 x5 x6 x7 x8 s = some (r, t)) (hQ : Q r (r_emb s0 o ra t)) : w_X12_prove o x1 x2 x3 x4 x5 x6 x7 x8 (r_emb s0 o ra s) Q := by
  unfold fn_X12_prove at h
  unfold w_X12_prove
  obtain ⟨p2, s1, e_s1, h⟩ := fg_b_s h
  refine ft_X12_in hok e_s1 ?_
  refine fg_ite Iff.rfl (fun d => ?_) (fun d => ?_)
  · have h := fg_if_t d h
    exact ft_X12_prove_29 hok hQ h
  · have h := fg_if_e d h
    refine ⟨hok.1, ?_⟩
    obtain ⟨p6, s5, e_s5, h⟩ := fg_b_s h
    refine ft_X12_noMoment hok e_s5 ?_
    refine fg_ite Iff.rfl (fun d => ?_) (fun d => ?_)
    · have h := fg_if_t d h
      obtain ⟨p9, s8, e_s8, h⟩ := fg_b_s h
      refine ft_X12_noSheet hok e_s8 ?_
      refine fg_ite Iff.rfl (fun d => ?_) (fun d => ?_)
      · have h := fg_if_t d h
        refine ⟨hok.1, ?_⟩
        obtain ⟨p13, s12, e_s12, h⟩ := fg_b_s h
        refine ft_X12_barred hok e_s12 ?_
        refine fg_ite Iff.rfl (fun d => ?_) (fun d => ?_)
        · have h := fg_if_t d h
          refine ⟨hok.1, ?_⟩
          obtain ⟨u_, s16, e_s16, h⟩ := fg_b_s h
          refine ft_X12_layTree hok e_s16 ?_
          obtain ⟨p19, s18, e_s18, h⟩ := fg_b_s h
          refine ft_X12_mix hok e_s18 ?_
          obtain ⟨p21, s20, e_s20, h⟩ := fg_b_s h
          refine ft_X12_mix hok e_s20 ?_
          exact ⟨g_N, ft_X12_prove_78 hok hQ g_N _ _ _ _ _ _ h⟩
        · have h := fg_if_e d h
          obtain ⟨q, q2⟩ := fg_ret h
          subst q
          subst q2
          exact hQ
      · have h := fg_if_e d h
        exact ft_X12_prove_29 hok hQ h
    · have h := fg_if_e d h
      exact ft_X12_prove_29 hok hQ h
set_option maxRecDepth 100000 in
set_option maxHeartbeats 4000000 in
theorem ft_X12_stamp {o : Nat} {ra : Nat → Nat} {s0 : h_S} (hok : r_ok o ra s0) {Q : Int32 → h_S → Prop} {r : Int32} {t : r_T} {s : r_T} {x1 : Int32} (h : fn_X12_stamp x1 s = some (r, t)) (hQ : Q r (r_emb s0 o ra t)) : w_X12_stamp o x1 (r_emb s0 o ra s) Q := by
  unfold fn_X12_stamp at h
  unfold w_X12_stamp
  refine ⟨hok.1, ?_⟩
  obtain ⟨p3, s2, e_s2, h⟩ := fg_b_s h
  refine ft_X12_noMoment hok e_s2 ?_
  refine fg_ite Iff.rfl (fun d => ?_) (fun d => ?_)
  · have h := fg_if_t d h
    refine ⟨hok.1, ?_⟩
    refine ⟨ra 2, fr_r2 hok, ?_⟩
    refine ⟨fr_k2 hok, ?_⟩
    obtain ⟨c, h⟩ := fg_g_s h
    refine ⟨fr_vp (fr_n2 hok) c, ?_⟩
    unfold w_X12_stamp_18
    try simp -zeta only [fr_i2 hok]
    obtain ⟨q, q2⟩ := fg_ret h
    subst q
    subst q2
    exact hQ
  · have h := fg_if_e d h
    unfold w_X12_stamp_18
    obtain ⟨q, q2⟩ := fg_ret h
    subst q
    subst q2
    exact hQ
set_option maxRecDepth 100000 in
set_option maxHeartbeats 4000000 in
theorem ft_X12_sheet_31 {o : Nat} {ra : Nat → Nat} {s0 : h_S} (hok : r_ok o ra s0) {Q : Int32 → h_S → Prop} {r : Int32} {t : r_T} (hQ : Q r (r_emb s0 o ra t)) {s : r_T} (h : fn_X12_sheet_31 s = some (r, t)) : w_X12_sheet_31 Q o (r_emb s0 o ra s) := by
  unfold fn_X12_sheet_31 at h
  unfold w_X12_sheet_31
  refine ⟨hok.1, ?_⟩
  obtain ⟨p3, s2, e_s2, h⟩ := fg_b_s h
  refine ft_X12_refused hok e_s2 ?_
  obtain ⟨q, q2⟩ := fg_ret h
  subst q
  subst q2
  exact hQ
set_option maxRecDepth 100000 in
set_option maxHeartbeats 4000000 in
theorem ft_X12_sheet_65b {o : Nat} {ra : Nat → Nat} {s0 : h_S} (hok : r_ok o ra s0) {Q : Int32 → h_S → Prop} {r : Int32} {t : r_T} (hQ : Q r (r_emb s0 o ra t)) {K65 : Int32 → Int32 → Int32 → r_T → Option (Int32 × r_T)} {WK65 : Nat → Int32 → Int32 → Int32 → h_S → Prop} (hK65 : ∀ (n0 : Int32) (n1 : Int32) (n2 : Int32) (u : r_T), K65 n0 n1 n2 u = some (r, t) → WK65 o n0 n1 n2 (r_emb s0 o ra u)) {s : r_T} {x1 : Int32} {x3 : Int32} {x4 : Int32} (h : fn_X12_sheet_65b K65 x1 x3 x4 s = some (r, t)) : w_X12_sheet_65b Q WK65 o x1 x3 x4 (r_emb s0 o ra s) := by
  unfold fn_X12_sheet_65b at h
  unfold w_X12_sheet_65b
  refine fg_ite Iff.rfl (fun d => ?_) (fun d => ?_)
  · have h := fg_if_t d h
    refine ⟨hok.1, ?_⟩
    obtain ⟨p4, s3, e_s3, h⟩ := fg_b_s h
    refine ft_X12_refused hok e_s3 ?_
    obtain ⟨q, q2⟩ := fg_ret h
    subst q
    subst q2
    exact hQ
  · have h := fg_if_e d h
    refine ⟨hok.1, ?_⟩
    refine ⟨ra 112, fr_r112 hok, ?_⟩
    refine ⟨fr_k112 hok, ?_⟩
    obtain ⟨c, h⟩ := fg_g_s h
    refine ⟨fr_vp (fr_n112 hok) c, ?_⟩
    obtain ⟨s9, e_s9, h⟩ := fg_let_s h
    intro S_s9
    have z_s9 : S_s9 = r_emb s0 o ra s9 := by rw [e_s9]; exact fr_s112 hok _ _
    clear_value S_s9
    subst z_s9
    exact hK65 _ _ _ _ h
set_option maxRecDepth 100000 in
set_option maxHeartbeats 4000000 in
theorem ft_X12_sheet_65 {o : Nat} {ra : Nat → Nat} {s0 : h_S} (hok : r_ok o ra s0) {Q : Int32 → h_S → Prop} {r : Int32} {t : r_T} (hQ : Q r (r_emb s0 o ra t)) : ∀ (n : Nat) (x1 : Int32) (x3 : Int32) (x4 : Int32) (s : r_T), fn_X12_sheet_65 n x1 x3 x4 s = some (r, t) → w_X12_sheet_65 Q n o x1 x3 x4 (r_emb s0 o ra s) := by
  intro n
  induction n with
  | zero => intro x1 x3 x4 s h; exact fg_none h
  | succ n ih =>
    intro x1 x3 x4 s h
    exact ft_X12_sheet_65b hok hQ ih h
set_option maxRecDepth 100000 in
set_option maxHeartbeats 4000000 in
theorem ft_X12_sheet {o : Nat} {ra : Nat → Nat} {s0 : h_S} (hok : r_ok o ra s0) {Q : Int32 → h_S → Prop} {r : Int32} {t : r_T} {s : r_T} {x1 : Int32} {x2 : Int32} {x3 : Int32} (h : fn_X12_sheet x1 x2 x3 s = some (r, t)) (hQ : Q r (r_emb s0 o ra t)) : w_X12_sheet o x1 x2 x3 (r_emb s0 o ra s) Q := by
  unfold fn_X12_sheet at h
  unfold w_X12_sheet
  obtain ⟨p2, s1, e_s1, h⟩ := fg_b_s h
  refine ft_X12_noSheet hok e_s1 ?_
  refine fg_ite Iff.rfl (fun d => ?_) (fun d => ?_)
  · have h := fg_if_t d h
    obtain ⟨p5, s4, e_s4, h⟩ := fg_b_s h
    refine ft_X12_in hok e_s4 ?_
    refine fg_ite Iff.rfl (fun d => ?_) (fun d => ?_)
    · have h := fg_if_t d h
      exact ft_X12_sheet_31 hok hQ h
    · have h := fg_if_e d h
      refine fg_ite Iff.rfl (fun d => ?_) (fun d => ?_)
      · have h := fg_if_t d h
        refine fg_ite Iff.rfl (fun d => ?_) (fun d => ?_)
        · have h := fg_if_t d h
          refine ⟨hok.1, ?_⟩
          refine ⟨ra 110, fr_r110 hok, ?_⟩
          refine ⟨fr_k110 hok, ?_⟩
          obtain ⟨c, h⟩ := fg_g_s h
          refine ⟨fr_vp (fr_n110 hok) c, ?_⟩
          obtain ⟨s13, e_s13, h⟩ := fg_let_s h
          intro S_s13
          have z_s13 : S_s13 = r_emb s0 o ra s13 := by rw [e_s13]; exact fr_s110 hok _ _
          clear_value S_s13
          subst z_s13
          refine ⟨ra 111, fr_r111 hok, ?_⟩
          refine ⟨fr_k111 hok, ?_⟩
          obtain ⟨c, h⟩ := fg_g_s h
          refine ⟨fr_vp (fr_n111 hok) c, ?_⟩
          obtain ⟨s17, e_s17, h⟩ := fg_let_s h
          intro S_s17
          have z_s17 : S_s17 = r_emb s0 o ra s17 := by rw [e_s17]; exact fr_s111 hok _ _
          clear_value S_s17
          subst z_s17
          exact ⟨g_N, ft_X12_sheet_65 hok hQ g_N _ _ _ _ h⟩
        · have h := fg_if_e d h
          refine ⟨hok.1, ?_⟩
          obtain ⟨p20, s19, e_s19, h⟩ := fg_b_s h
          refine ft_X12_failed hok e_s19 ?_
          obtain ⟨q, q2⟩ := fg_ret h
          subst q
          subst q2
          exact hQ
      · have h := fg_if_e d h
        exact ft_X12_sheet_31 hok hQ h
  · have h := fg_if_e d h
    refine ⟨hok.1, ?_⟩
    obtain ⟨p23, s22, e_s22, h⟩ := fg_b_s h
    refine ft_X12_refused hok e_s22 ?_
    obtain ⟨q, q2⟩ := fg_ret h
    subst q
    subst q2
    exact hQ
set_option maxRecDepth 100000 in
set_option maxHeartbeats 4000000 in
theorem ft_X12_lose_23 {o : Nat} {ra : Nat → Nat} {s0 : h_S} (hok : r_ok o ra s0) {Q : Int32 → h_S → Prop} {r : Int32} {t : r_T} (hQ : Q r (r_emb s0 o ra t)) {s : r_T} {x1 : Int32} {y0 : Int32} (h : fn_X12_lose_23 x1 y0 s = some (r, t)) : w_X12_lose_23 Q o x1 y0 (r_emb s0 o ra s) := by
  unfold fn_X12_lose_23 at h
  unfold w_X12_lose_23
  refine ⟨hok.1, ?_⟩
  refine ⟨ra 110, fr_r110 hok, ?_⟩
  refine ⟨fr_k110 hok, ?_⟩
  obtain ⟨c, h⟩ := fg_g_s h
  refine ⟨fr_vp (fr_n110 hok) c, ?_⟩
  obtain ⟨s5, e_s5, h⟩ := fg_let_s h
  intro S_s5
  have z_s5 : S_s5 = r_emb s0 o ra s5 := by rw [e_s5]; exact fr_s110 hok _ _
  clear_value S_s5
  subst z_s5
  obtain ⟨q, q2⟩ := fg_ret h
  subst q
  subst q2
  exact hQ
set_option maxRecDepth 100000 in
set_option maxHeartbeats 4000000 in
theorem ft_X12_lose {o : Nat} {ra : Nat → Nat} {s0 : h_S} (hok : r_ok o ra s0) {Q : Int32 → h_S → Prop} {r : Int32} {t : r_T} {s : r_T} {x1 : Int32} (h : fn_X12_lose x1 s = some (r, t)) (hQ : Q r (r_emb s0 o ra t)) : w_X12_lose o x1 (r_emb s0 o ra s) Q := by
  unfold fn_X12_lose at h
  unfold w_X12_lose
  obtain ⟨p2, s1, e_s1, h⟩ := fg_b_s h
  refine ft_X12_noSheet hok e_s1 ?_
  refine fg_ite Iff.rfl (fun d => ?_) (fun d => ?_)
  · have h := fg_if_t d h
    refine ⟨hok.1, ?_⟩
    refine ⟨ra 110, fr_r110 hok, ?_⟩
    refine ⟨fr_k110 hok, ?_⟩
    obtain ⟨c, h⟩ := fg_g_s h
    refine ⟨fr_vp (fr_n110 hok) c, ?_⟩
    try simp -zeta only [fr_i110 hok]
    refine fg_ite Iff.rfl (fun d => ?_) (fun d => ?_)
    · have h := fg_if_t d h
      exact ft_X12_lose_23 hok hQ h
    · have h := fg_if_e d h
      exact ft_X12_lose_23 hok hQ h
  · have h := fg_if_e d h
    obtain ⟨q, q2⟩ := fg_ret h
    subst q
    subst q2
    exact hQ
set_option maxRecDepth 100000 in
set_option maxHeartbeats 4000000 in
theorem ft_X12_noCell {o : Nat} {ra : Nat → Nat} {s0 : h_S} (hok : r_ok o ra s0) {Q : Int32 → h_S → Prop} {r : Int32} {t : r_T} {s : r_T} {x1 : Int32} {x2 : Int32} (h : fn_X12_noCell x1 x2 s = some (r, t)) (hQ : Q r (r_emb s0 o ra t)) : w_X12_noCell o x1 x2 (r_emb s0 o ra s) Q := by
  unfold fn_X12_noCell at h
  unfold w_X12_noCell
  refine ⟨hok.1, ?_⟩
  refine ⟨ra 110, fr_r110 hok, ?_⟩
  refine ⟨fr_k110 hok, ?_⟩
  obtain ⟨c, h⟩ := fg_g_s h
  refine ⟨fr_vp (fr_n110 hok) c, ?_⟩
  try simp -zeta only [fr_i110 hok]
  refine fg_ite Iff.rfl (fun d => ?_) (fun d => ?_)
  · have h := fg_if_t d h
    refine ⟨ra 110, fr_r110 hok, ?_⟩
    refine ⟨fr_k110 hok, ?_⟩
    obtain ⟨c, h⟩ := fg_g_s h
    refine ⟨fr_vp (fr_n110 hok) c, ?_⟩
    try simp -zeta only [fr_i110 hok]
    obtain ⟨p10, s9, e_s9, h⟩ := fg_b_s h
    refine ft_X12_in hok e_s9 ?_
    refine fg_ite Iff.rfl (fun d => ?_) (fun d => ?_)
    · have h := fg_if_t d h
      unfold w_X12_noCell_36
      obtain ⟨q, q2⟩ := fg_ret h
      subst q
      subst q2
      exact hQ
    · have h := fg_if_e d h
      unfold w_X12_noCell_36
      obtain ⟨q, q2⟩ := fg_ret h
      subst q
      subst q2
      exact hQ
  · have h := fg_if_e d h
    unfold w_X12_noCell_36
    obtain ⟨q, q2⟩ := fg_ret h
    subst q
    subst q2
    exact hQ
set_option maxRecDepth 100000 in
set_option maxHeartbeats 4000000 in
theorem ft_X12_set_73 {o : Nat} {ra : Nat → Nat} {s0 : h_S} (hok : r_ok o ra s0) {Q : Int32 → h_S → Prop} {r : Int32} {t : r_T} (hQ : Q r (r_emb s0 o ra t)) {s : r_T} {y0 : Int32} {y1 : Int32} (h : fn_X12_set_73 y0 y1 s = some (r, t)) : w_X12_set_73 Q o y0 y1 (some (ra 112)) (r_emb s0 o ra s) := by
  unfold fn_X12_set_73 at h
  unfold w_X12_set_73
  refine ⟨ra 112, rfl, ?_⟩
  refine ⟨fr_k112 hok, ?_⟩
  obtain ⟨c, h⟩ := fg_g_s h
  refine ⟨fr_vp (fr_n112 hok) c, ?_⟩
  obtain ⟨s4, e_s4, h⟩ := fg_let_s h
  intro S_s4
  have z_s4 : S_s4 = r_emb s0 o ra s4 := by rw [e_s4]; exact fr_s112 hok _ _
  clear_value S_s4
  subst z_s4
  refine ⟨hok.1, ?_⟩
  obtain ⟨p7, s6, e_s6, h⟩ := fg_b_s h
  refine ft_X12_refused hok e_s6 ?_
  obtain ⟨q, q2⟩ := fg_ret h
  subst q
  subst q2
  exact hQ
set_option maxRecDepth 100000 in
set_option maxHeartbeats 4000000 in
theorem ft_X12_set {o : Nat} {ra : Nat → Nat} {s0 : h_S} (hok : r_ok o ra s0) {Q : Int32 → h_S → Prop} {r : Int32} {t : r_T} {s : r_T} {x1 : Int32} {x2 : Int32} {x3 : Int32} (h : fn_X12_set x1 x2 x3 s = some (r, t)) (hQ : Q r (r_emb s0 o ra t)) : w_X12_set o x1 x2 x3 (r_emb s0 o ra s) Q := by
  unfold fn_X12_set at h
  unfold w_X12_set
  obtain ⟨p2, s1, e_s1, h⟩ := fg_b_s h
  refine ft_X12_noSheet hok e_s1 ?_
  refine fg_ite Iff.rfl (fun d => ?_) (fun d => ?_)
  · have h := fg_if_t d h
    refine ⟨hok.1, ?_⟩
    obtain ⟨p6, s5, e_s5, h⟩ := fg_b_s h
    refine ft_X12_noCell hok e_s5 ?_
    refine fg_ite Iff.rfl (fun d => ?_) (fun d => ?_)
    · have h := fg_if_t d h
      refine ⟨hok.1, ?_⟩
      refine ⟨ra 111, fr_r111 hok, ?_⟩
      refine ⟨fr_k111 hok, ?_⟩
      obtain ⟨c, h⟩ := fg_g_s h
      refine ⟨fr_vp (fr_n111 hok) c, ?_⟩
      try simp -zeta only [fr_i111 hok]
      refine fg_ite Iff.rfl (fun d => ?_) (fun d => ?_)
      · have h := fg_if_t d h
        rw [fr_r112 hok]
        exact ft_X12_set_73 hok hQ h
      · have h := fg_if_e d h
        refine ⟨ra 111, fr_r111 hok, ?_⟩
        refine ⟨fr_k111 hok, ?_⟩
        obtain ⟨c, h⟩ := fg_g_s h
        refine ⟨fr_vp (fr_n111 hok) c, ?_⟩
        try simp -zeta only [fr_i111 hok]
        refine fg_ite Iff.rfl (fun d => ?_) (fun d => ?_)
        · have h := fg_if_t d h
          rw [fr_r112 hok]
          exact ft_X12_set_73 hok hQ h
        · have h := fg_if_e d h
          rw [fr_r112 hok]
          exact ft_X12_set_73 hok hQ h
    · have h := fg_if_e d h
      refine ⟨hok.1, ?_⟩
      obtain ⟨p19, s18, e_s18, h⟩ := fg_b_s h
      refine ft_X12_noCell hok e_s18 ?_
      refine ⟨hok.1, ?_⟩
      obtain ⟨p22, s21, e_s21, h⟩ := fg_b_s h
      refine ft_X12_failed hok e_s21 ?_
      obtain ⟨q, q2⟩ := fg_ret h
      subst q
      subst q2
      exact hQ
  · have h := fg_if_e d h
    refine ⟨hok.1, ?_⟩
    obtain ⟨p25, s24, e_s24, h⟩ := fg_b_s h
    refine ft_X12_refused hok e_s24 ?_
    obtain ⟨q, q2⟩ := fg_ret h
    subst q
    subst q2
    exact hQ
set_option maxRecDepth 100000 in
set_option maxHeartbeats 4000000 in
theorem ft_X12_cell_24 {o : Nat} {ra : Nat → Nat} {s0 : h_S} (hok : r_ok o ra s0) {Q : Int64 → h_S → Prop} {r : Int64} {t : r_T} (hQ : Q r (r_emb s0 o ra t)) {s : r_T} (h : fn_X12_cell_24 s = some (r, t)) : w_X12_cell_24 Q (r_emb s0 o ra s) := by
  unfold fn_X12_cell_24 at h
  unfold w_X12_cell_24
  obtain ⟨p2, s1, e_s1, h⟩ := fg_b_s h
  refine ft_X12_lost hok e_s1 ?_
  obtain ⟨q, q2⟩ := fg_ret h
  subst q
  subst q2
  exact hQ
set_option maxRecDepth 100000 in
set_option maxHeartbeats 4000000 in
theorem ft_X12_cell_53 {o : Nat} {ra : Nat → Nat} {s0 : h_S} (hok : r_ok o ra s0) {Q : Int64 → h_S → Prop} {r : Int64} {t : r_T} (hQ : Q r (r_emb s0 o ra t)) {s : r_T} {x1 : Int32} {x2 : Int32} (h : fn_X12_cell_53 x1 x2 s = some (r, t)) : w_X12_cell_53 Q o x1 x2 (r_emb s0 o ra s) := by
  unfold fn_X12_cell_53 at h
  unfold w_X12_cell_53
  refine ⟨hok.1, ?_⟩
  obtain ⟨p3, s2, e_s2, h⟩ := fg_b_s h
  refine ft_X12_noCell hok e_s2 ?_
  refine fg_ite Iff.rfl (fun d => ?_) (fun d => ?_)
  · have h := fg_if_t d h
    refine ⟨hok.1, ?_⟩
    refine ⟨ra 112, fr_r112 hok, ?_⟩
    refine ⟨fr_k112 hok, ?_⟩
    obtain ⟨c, h⟩ := fg_g_s h
    refine ⟨fr_vp (fr_n112 hok) c, ?_⟩
    unfold w_X12_cell_87
    try simp -zeta only [fr_i112 hok]
    obtain ⟨q, q2⟩ := fg_ret h
    subst q
    subst q2
    exact hQ
  · have h := fg_if_e d h
    refine ⟨hok.1, ?_⟩
    obtain ⟨p11, s10, e_s10, h⟩ := fg_b_s h
    refine ft_X12_noCell hok e_s10 ?_
    refine ⟨hok.1, ?_⟩
    obtain ⟨p14, s13, e_s13, h⟩ := fg_b_s h
    refine ft_X12_failedLong hok e_s13 ?_
    unfold w_X12_cell_87
    obtain ⟨q, q2⟩ := fg_ret h
    subst q
    subst q2
    exact hQ
set_option maxRecDepth 100000 in
set_option maxHeartbeats 4000000 in
theorem ft_X12_cell {o : Nat} {ra : Nat → Nat} {s0 : h_S} (hok : r_ok o ra s0) {Q : Int64 → h_S → Prop} {r : Int64} {t : r_T} {s : r_T} {x1 : Int32} {x2 : Int32} {x3 : Int32} (h : fn_X12_cell x1 x2 x3 s = some (r, t)) (hQ : Q r (r_emb s0 o ra t)) : w_X12_cell o x1 x2 x3 (r_emb s0 o ra s) Q := by
  unfold fn_X12_cell at h
  unfold w_X12_cell
  refine ⟨hok.1, ?_⟩
  obtain ⟨s2, e_s2, h⟩ := fg_let_s h
  intro S_s2
  have z_s2 : S_s2 = r_emb s0 o ra s2 := by rw [e_s2]; exact e_so _ _
  clear_value S_s2
  subst z_s2
  obtain ⟨p4, s3, e_s3, h⟩ := fg_b_s h
  refine ft_X12_noSheet hok e_s3 ?_
  refine fg_ite Iff.rfl (fun d => ?_) (fun d => ?_)
  · have h := fg_if_t d h
    obtain ⟨p7, s6, e_s6, h⟩ := fg_b_s h
    refine ft_X12_in hok e_s6 ?_
    refine fg_ite Iff.rfl (fun d => ?_) (fun d => ?_)
    · have h := fg_if_t d h
      exact ft_X12_cell_24 hok hQ h
    · have h := fg_if_e d h
      refine ⟨hok.1, ?_⟩
      refine ⟨ra 110, fr_r110 hok, ?_⟩
      refine ⟨fr_k110 hok, ?_⟩
      obtain ⟨c, h⟩ := fg_g_s h
      refine ⟨fr_vp (fr_n110 hok) c, ?_⟩
      try simp -zeta only [fr_i110 hok]
      refine fg_ite Iff.rfl (fun d => ?_) (fun d => ?_)
      · have h := fg_if_t d h
        exact ft_X12_cell_53 hok hQ h
      · have h := fg_if_e d h
        refine ⟨ra 111, fr_r111 hok, ?_⟩
        refine ⟨fr_k111 hok, ?_⟩
        obtain ⟨c, h⟩ := fg_g_s h
        refine ⟨fr_vp (fr_n111 hok) c, ?_⟩
        try simp -zeta only [fr_i111 hok]
        refine fg_ite Iff.rfl (fun d => ?_) (fun d => ?_)
        · have h := fg_if_t d h
          exact ft_X12_cell_53 hok hQ h
        · have h := fg_if_e d h
          obtain ⟨p19, s18, e_s18, h⟩ := fg_b_s h
          refine ft_X12_failedLong hok e_s18 ?_
          obtain ⟨q, q2⟩ := fg_ret h
          subst q
          subst q2
          exact hQ
  · have h := fg_if_e d h
    exact ft_X12_cell_24 hok hQ h
set_option maxRecDepth 100000 in
set_option maxHeartbeats 4000000 in
theorem ft_X12_copy_14 {o : Nat} {ra : Nat → Nat} {s0 : h_S} (hok : r_ok o ra s0) {Q : Int32 → h_S → Prop} {r : Int32} {t : r_T} (hQ : Q r (r_emb s0 o ra t)) {s : r_T} (h : fn_X12_copy_14 s = some (r, t)) : w_X12_copy_14 Q o (r_emb s0 o ra s) := by
  unfold fn_X12_copy_14 at h
  unfold w_X12_copy_14
  refine ⟨hok.1, ?_⟩
  obtain ⟨p3, s2, e_s2, h⟩ := fg_b_s h
  refine ft_X12_refused hok e_s2 ?_
  obtain ⟨q, q2⟩ := fg_ret h
  subst q
  subst q2
  exact hQ
set_option maxRecDepth 100000 in
set_option maxHeartbeats 4000000 in
theorem ft_X12_copy_38 {o : Nat} {ra : Nat → Nat} {s0 : h_S} (hok : r_ok o ra s0) {Q : Int32 → h_S → Prop} {r : Int32} {t : r_T} (hQ : Q r (r_emb s0 o ra t)) {s : r_T} (h : fn_X12_copy_38 s = some (r, t)) : w_X12_copy_38 Q o (r_emb s0 o ra s) := by
  unfold fn_X12_copy_38 at h
  unfold w_X12_copy_38
  refine ⟨hok.1, ?_⟩
  obtain ⟨p3, s2, e_s2, h⟩ := fg_b_s h
  refine ft_X12_failed hok e_s2 ?_
  obtain ⟨q, q2⟩ := fg_ret h
  subst q
  subst q2
  exact hQ
set_option maxRecDepth 100000 in
set_option maxHeartbeats 4000000 in
theorem ft_X12_copy_98 {o : Nat} {ra : Nat → Nat} {s0 : h_S} (hok : r_ok o ra s0) {Q : Int32 → h_S → Prop} {r : Int32} {t : r_T} (hQ : Q r (r_emb s0 o ra t)) {s : r_T} (h : fn_X12_copy_98 s = some (r, t)) : w_X12_copy_98 Q o (r_emb s0 o ra s) := by
  unfold fn_X12_copy_98 at h
  unfold w_X12_copy_98
  refine ⟨hok.1, ?_⟩
  obtain ⟨p3, s2, e_s2, h⟩ := fg_b_s h
  refine ft_X12_failed hok e_s2 ?_
  obtain ⟨q, q2⟩ := fg_ret h
  subst q
  subst q2
  exact hQ
set_option maxRecDepth 100000 in
set_option maxHeartbeats 4000000 in
theorem ft_X12_copy_144b {o : Nat} {ra : Nat → Nat} {s0 : h_S} (hok : r_ok o ra s0) {Q : Int32 → h_S → Prop} {r : Int32} {t : r_T} (hQ : Q r (r_emb s0 o ra t)) {K144 : Int32 → Int32 → Int32 → Int32 → r_T → Option (Int32 × r_T)} {WK144 : Nat → Int32 → Int32 → Int32 → Int32 → h_S → Prop} (hK144 : ∀ (n0 : Int32) (n1 : Int32) (n2 : Int32) (n3 : Int32) (u : r_T), K144 n0 n1 n2 n3 u = some (r, t) → WK144 o n0 n1 n2 n3 (r_emb s0 o ra u)) {s : r_T} {x3 : Int32} {x4 : Int32} {x5 : Int32} {x6 : Int32} (h : fn_X12_copy_144b K144 x3 x4 x5 x6 s = some (r, t)) : w_X12_copy_144b Q WK144 o x3 x4 x5 x6 (r_emb s0 o ra s) := by
  unfold fn_X12_copy_144b at h
  unfold w_X12_copy_144b
  refine fg_ite Iff.rfl (fun d => ?_) (fun d => ?_)
  · have h := fg_if_t d h
    refine ⟨hok.1, ?_⟩
    obtain ⟨p4, s3, e_s3, h⟩ := fg_b_s h
    refine ft_X12_refused hok e_s3 ?_
    obtain ⟨q, q2⟩ := fg_ret h
    subst q
    subst q2
    exact hQ
  · have h := fg_if_e d h
    refine ⟨hok.1, ?_⟩
    refine ⟨ra 113, fr_r113 hok, ?_⟩
    refine ⟨fr_k113 hok, ?_⟩
    obtain ⟨c, h⟩ := fg_g_s h
    refine ⟨fr_vp (fr_n113 hok) c, ?_⟩
    refine ⟨ra 112, fr_r112 hok, ?_⟩
    refine ⟨fr_k112 hok, ?_⟩
    obtain ⟨c, h⟩ := fg_g_s h
    refine ⟨fr_vp (fr_n112 hok) c, ?_⟩
    try simp -zeta only [fr_i113 hok]
    obtain ⟨s12, e_s12, h⟩ := fg_let_s h
    intro S_s12
    have z_s12 : S_s12 = r_emb s0 o ra s12 := by rw [e_s12]; exact fr_s112 hok _ _
    clear_value S_s12
    subst z_s12
    exact hK144 _ _ _ _ _ h
set_option maxRecDepth 100000 in
set_option maxHeartbeats 4000000 in
theorem ft_X12_copy_144 {o : Nat} {ra : Nat → Nat} {s0 : h_S} (hok : r_ok o ra s0) {Q : Int32 → h_S → Prop} {r : Int32} {t : r_T} (hQ : Q r (r_emb s0 o ra t)) : ∀ (n : Nat) (x3 : Int32) (x4 : Int32) (x5 : Int32) (x6 : Int32) (s : r_T), fn_X12_copy_144 n x3 x4 x5 x6 s = some (r, t) → w_X12_copy_144 Q n o x3 x4 x5 x6 (r_emb s0 o ra s) := by
  intro n
  induction n with
  | zero => intro x3 x4 x5 x6 s h; exact fg_none h
  | succ n ih =>
    intro x3 x4 x5 x6 s h
    exact ft_X12_copy_144b hok hQ ih h
set_option maxRecDepth 100000 in
set_option maxHeartbeats 4000000 in
theorem ft_X12_copy_107b {o : Nat} {ra : Nat → Nat} {s0 : h_S} (hok : r_ok o ra s0) {Q : Int32 → h_S → Prop} {r : Int32} {t : r_T} (hQ : Q r (r_emb s0 o ra t)) {K107 : Int32 → Int32 → Int32 → Int32 → Int32 → Int32 → r_T → Option (Int32 × r_T)} {WK107 : Nat → Int32 → Int32 → Int32 → Int32 → Int32 → Int32 → h_S → Prop} (hK107 : ∀ (n0 : Int32) (n1 : Int32) (n2 : Int32) (n3 : Int32) (n4 : Int32) (n5 : Int32) (u : r_T), K107 n0 n1 n2 n3 n4 n5 u = some (r, t) → WK107 o n0 n1 n2 n3 n4 n5 (r_emb s0 o ra u)) {s : r_T} {x1 : Int32} {x2 : Int32} {x3 : Int32} {x4 : Int32} {x5 : Int32} {x6 : Int32} (h : fn_X12_copy_107b K107 x1 x2 x3 x4 x5 x6 s = some (r, t)) : w_X12_copy_107b Q WK107 o x1 x2 x3 x4 x5 x6 (r_emb s0 o ra s) := by
  unfold fn_X12_copy_107b at h
  unfold w_X12_copy_107b
  refine fg_ite Iff.rfl (fun d => ?_) (fun d => ?_)
  · have h := fg_if_t d h
    exact ⟨g_N, ft_X12_copy_144 hok hQ g_N _ _ _ _ _ h⟩
  · have h := fg_if_e d h
    refine ⟨hok.1, ?_⟩
    refine ⟨ra 112, fr_r112 hok, ?_⟩
    refine ⟨fr_k112 hok, ?_⟩
    obtain ⟨c, h⟩ := fg_g_s h
    refine ⟨fr_vp (fr_n112 hok) c, ?_⟩
    refine ⟨ra 113, fr_r113 hok, ?_⟩
    refine ⟨fr_k113 hok, ?_⟩
    obtain ⟨c, h⟩ := fg_g_s h
    refine ⟨fr_vp (fr_n113 hok) c, ?_⟩
    try simp -zeta only [fr_i112 hok]
    obtain ⟨s9, e_s9, h⟩ := fg_let_s h
    intro S_s9
    have z_s9 : S_s9 = r_emb s0 o ra s9 := by rw [e_s9]; exact fr_s113 hok _ _
    clear_value S_s9
    subst z_s9
    exact hK107 _ _ _ _ _ _ _ h
set_option maxRecDepth 100000 in
set_option maxHeartbeats 4000000 in
theorem ft_X12_copy_107 {o : Nat} {ra : Nat → Nat} {s0 : h_S} (hok : r_ok o ra s0) {Q : Int32 → h_S → Prop} {r : Int32} {t : r_T} (hQ : Q r (r_emb s0 o ra t)) : ∀ (n : Nat) (x1 : Int32) (x2 : Int32) (x3 : Int32) (x4 : Int32) (x5 : Int32) (x6 : Int32) (s : r_T), fn_X12_copy_107 n x1 x2 x3 x4 x5 x6 s = some (r, t) → w_X12_copy_107 Q n o x1 x2 x3 x4 x5 x6 (r_emb s0 o ra s) := by
  intro n
  induction n with
  | zero => intro x1 x2 x3 x4 x5 x6 s h; exact fg_none h
  | succ n ih =>
    intro x1 x2 x3 x4 x5 x6 s h
    exact ft_X12_copy_107b hok hQ ih h
set_option maxRecDepth 100000 in
set_option maxHeartbeats 4000000 in
theorem ft_X12_copy {o : Nat} {ra : Nat → Nat} {s0 : h_S} (hok : r_ok o ra s0) {Q : Int32 → h_S → Prop} {r : Int32} {t : r_T} {s : r_T} {x1 : Int32} {x2 : Int32} {x3 : Int32} {x4 : Int32} {x5 : Int32} (h : fn_X12_copy x1 x2 x3 x4 x5 s = some (r, t)) (hQ : Q r (r_emb s0 o ra t)) : w_X12_copy o x1 x2 x3 x4 x5 (r_emb s0 o ra s) Q := by
  unfold fn_X12_copy at h
  unfold w_X12_copy
  obtain ⟨p2, s1, e_s1, h⟩ := fg_b_s h
  refine ft_X12_noSheet hok e_s1 ?_
  refine fg_ite Iff.rfl (fun d => ?_) (fun d => ?_)
  · have h := fg_if_t d h
    obtain ⟨p5, s4, e_s4, h⟩ := fg_b_s h
    refine ft_X12_noSheet hok e_s4 ?_
    refine fg_ite Iff.rfl (fun d => ?_) (fun d => ?_)
    · have h := fg_if_t d h
      refine ⟨hok.1, ?_⟩
      refine ⟨ra 110, fr_r110 hok, ?_⟩
      refine ⟨fr_k110 hok, ?_⟩
      obtain ⟨c, h⟩ := fg_g_s h
      refine ⟨fr_vp (fr_n110 hok) c, ?_⟩
      try simp -zeta only [fr_i110 hok]
      refine fg_ite Iff.rfl (fun d => ?_) (fun d => ?_)
      · have h := fg_if_t d h
        exact ft_X12_copy_38 hok hQ h
      · have h := fg_if_e d h
        refine ⟨ra 110, fr_r110 hok, ?_⟩
        refine ⟨fr_k110 hok, ?_⟩
        obtain ⟨c, h⟩ := fg_g_s h
        refine ⟨fr_vp (fr_n110 hok) c, ?_⟩
        try simp -zeta only [fr_i110 hok]
        refine fg_ite Iff.rfl (fun d => ?_) (fun d => ?_)
        · have h := fg_if_t d h
          refine ⟨ra 111, fr_r111 hok, ?_⟩
          refine ⟨fr_k111 hok, ?_⟩
          obtain ⟨c, h⟩ := fg_g_s h
          refine ⟨fr_vp (fr_n111 hok) c, ?_⟩
          refine ⟨ra 111, fr_r111 hok, ?_⟩
          refine ⟨fr_k111 hok, ?_⟩
          obtain ⟨c, h⟩ := fg_g_s h
          refine ⟨fr_vp (fr_n111 hok) c, ?_⟩
          try simp -zeta only [fr_i111 hok]
          refine fg_ite Iff.rfl (fun d => ?_) (fun d => ?_)
          · have h := fg_if_t d h
            refine ⟨ra 110, fr_r110 hok, ?_⟩
            refine ⟨fr_k110 hok, ?_⟩
            obtain ⟨c, h⟩ := fg_g_s h
            refine ⟨fr_vp (fr_n110 hok) c, ?_⟩
            try simp -zeta only [fr_i110 hok]
            obtain ⟨p27, s26, e_s26, h⟩ := fg_b_s h
            refine ft_X12_isBeyond hok e_s26 ?_
            refine fg_ite Iff.rfl (fun d => ?_) (fun d => ?_)
            · have h := fg_if_t d h
              refine ⟨hok.1, ?_⟩
              refine ⟨ra 110, fr_r110 hok, ?_⟩
              refine ⟨fr_k110 hok, ?_⟩
              obtain ⟨c, h⟩ := fg_g_s h
              refine ⟨fr_vp (fr_n110 hok) c, ?_⟩
              try simp -zeta only [fr_i110 hok]
              obtain ⟨p34, s33, e_s33, h⟩ := fg_b_s h
              refine ft_X12_isBeyond hok e_s33 ?_
              refine fg_ite Iff.rfl (fun d => ?_) (fun d => ?_)
              · have h := fg_if_t d h
                exact ⟨g_N, ft_X12_copy_107 hok hQ g_N _ _ _ _ _ _ _ h⟩
              · have h := fg_if_e d h
                exact ft_X12_copy_98 hok hQ h
            · have h := fg_if_e d h
              exact ft_X12_copy_98 hok hQ h
          · have h := fg_if_e d h
            obtain ⟨p37, s36, e_s36, h⟩ := fg_b_s h
            refine ft_X12_failed hok e_s36 ?_
            obtain ⟨q, q2⟩ := fg_ret h
            subst q
            subst q2
            exact hQ
        · have h := fg_if_e d h
          exact ft_X12_copy_38 hok hQ h
    · have h := fg_if_e d h
      exact ft_X12_copy_14 hok hQ h
  · have h := fg_if_e d h
    exact ft_X12_copy_14 hok hQ h
set_option maxRecDepth 100000 in
set_option maxHeartbeats 4000000 in
theorem ft_X12_traced {o : Nat} {ra : Nat → Nat} {s0 : h_S} (hok : r_ok o ra s0) {Q : h_S → Prop} {r : Unit} {t : r_T} {s : r_T} {x1 : Int32} (h : fn_X12_traced x1 s = some (r, t)) (hQ : Q (r_emb s0 o ra t)) : w_X12_traced o x1 (r_emb s0 o ra s) Q := by
  unfold fn_X12_traced at h
  unfold w_X12_traced
  refine ⟨hok.1, ?_⟩
  try simp -zeta only [e_io]
  obtain ⟨s2, e_s2, h⟩ := fg_let_s h
  intro S_s2
  have z_s2 : S_s2 = r_emb s0 o ra s2 := by rw [e_s2]; exact e_so _ _
  clear_value S_s2
  subst z_s2
  obtain ⟨_, q⟩ := fg_ret h
  subst q
  exact hQ
set_option maxRecDepth 100000 in
set_option maxHeartbeats 4000000 in
theorem ft_X12_tell_82 {o : Nat} {ra : Nat → Nat} {s0 : h_S} (hok : r_ok o ra s0) {Q : Int32 → h_S → Prop} {r : Int32} {t : r_T} (hQ : Q r (r_emb s0 o ra t)) {s : r_T} {x1 : Int32} {x2 : Int32} (h : fn_X12_tell_82 x1 x2 s = some (r, t)) : w_X12_tell_82 Q o x1 x2 (r_emb s0 o ra s) := by
  unfold fn_X12_tell_82 at h
  unfold w_X12_tell_82
  refine ⟨hok.1, ?_⟩
  refine ⟨ra 83, fr_r83 hok, ?_⟩
  refine ⟨fr_k83 hok, ?_⟩
  obtain ⟨c, h⟩ := fg_g_s h
  refine ⟨fr_vp (fr_n83 hok) c, ?_⟩
  refine fg_ite Iff.rfl (fun d => ?_) (fun d => ?_)
  · have h := fg_if_t d h
    unfold w_X12_tell_149
    try simp -zeta only [fr_i83 hok]
    obtain ⟨q, q2⟩ := fg_ret h
    subst q
    subst q2
    exact hQ
  · have h := fg_if_e d h
    refine fg_ite Iff.rfl (fun d => ?_) (fun d => ?_)
    · have h := fg_if_t d h
      refine ⟨ra 85, fr_r85 hok, ?_⟩
      refine ⟨fr_k85 hok, ?_⟩
      obtain ⟨c, h⟩ := fg_g_s h
      refine ⟨fr_vp (fr_n85 hok) c, ?_⟩
      unfold w_X12_tell_149
      try simp -zeta only [fr_i83 hok, fr_i85 hok]
      obtain ⟨q, q2⟩ := fg_ret h
      subst q
      subst q2
      exact hQ
    · have h := fg_if_e d h
      refine fg_ite Iff.rfl (fun d => ?_) (fun d => ?_)
      · have h := fg_if_t d h
        refine ⟨ra 85, fr_r85 hok, ?_⟩
        refine ⟨fr_k85 hok, ?_⟩
        obtain ⟨c, h⟩ := fg_g_s h
        refine ⟨fr_vp (fr_n85 hok) c, ?_⟩
        unfold w_X12_tell_149
        try simp -zeta only [fr_i83 hok, fr_i85 hok]
        obtain ⟨q, q2⟩ := fg_ret h
        subst q
        subst q2
        exact hQ
      · have h := fg_if_e d h
        refine fg_ite Iff.rfl (fun d => ?_) (fun d => ?_)
        · have h := fg_if_t d h
          unfold w_X12_tell_149
          try simp -zeta only [fr_i83 hok]
          obtain ⟨q, q2⟩ := fg_ret h
          subst q
          subst q2
          exact hQ
        · have h := fg_if_e d h
          unfold w_X12_tell_149
          try simp -zeta only [fr_i83 hok]
          obtain ⟨q, q2⟩ := fg_ret h
          subst q
          subst q2
          exact hQ
set_option maxRecDepth 100000 in
set_option maxHeartbeats 4000000 in
theorem ft_X12_tell_77 {o : Nat} {ra : Nat → Nat} {s0 : h_S} (hok : r_ok o ra s0) {Q : Int32 → h_S → Prop} {r : Int32} {t : r_T} (hQ : Q r (r_emb s0 o ra t)) {s : r_T} {x1 : Int32} {x2 : Int32} (h : fn_X12_tell_77 x1 x2 s = some (r, t)) : w_X12_tell_77 Q o x1 x2 (r_emb s0 o ra s) := by
  unfold fn_X12_tell_77 at h
  unfold w_X12_tell_77
  refine ⟨hok.1, ?_⟩
  obtain ⟨u_, s2, e_s2, h⟩ := fg_b_s h
  refine ft_X12_traced hok e_s2 ?_
  exact ft_X12_tell_82 hok hQ h
set_option maxRecDepth 100000 in
set_option maxHeartbeats 4000000 in
theorem ft_X12_tell_62 {o : Nat} {ra : Nat → Nat} {s0 : h_S} (hok : r_ok o ra s0) {Q : Int32 → h_S → Prop} {r : Int32} {t : r_T} (hQ : Q r (r_emb s0 o ra t)) {s : r_T} {x1 : Int32} {x2 : Int32} (h : fn_X12_tell_62 x1 x2 s = some (r, t)) : w_X12_tell_62 Q o x1 x2 (r_emb s0 o ra s) := by
  unfold fn_X12_tell_62 at h
  unfold w_X12_tell_62
  refine ⟨hok.1, ?_⟩
  obtain ⟨u_, s2, e_s2, h⟩ := fg_b_s h
  refine ft_X12_traced hok e_s2 ?_
  refine fg_ite Iff.rfl (fun d => ?_) (fun d => ?_)
  · have h := fg_if_t d h
    exact ft_X12_tell_77 hok hQ h
  · have h := fg_if_e d h
    refine fg_ite Iff.rfl (fun d => ?_) (fun d => ?_)
    · have h := fg_if_t d h
      exact ft_X12_tell_77 hok hQ h
    · have h := fg_if_e d h
      exact ft_X12_tell_82 hok hQ h
set_option maxRecDepth 100000 in
set_option maxHeartbeats 4000000 in
theorem ft_X12_tell_52 {o : Nat} {ra : Nat → Nat} {s0 : h_S} (hok : r_ok o ra s0) {Q : Int32 → h_S → Prop} {r : Int32} {t : r_T} (hQ : Q r (r_emb s0 o ra t)) {s : r_T} {x1 : Int32} {x2 : Int32} (h : fn_X12_tell_52 x1 x2 s = some (r, t)) : w_X12_tell_52 Q o x1 x2 (r_emb s0 o ra s) := by
  unfold fn_X12_tell_52 at h
  unfold w_X12_tell_52
  refine fg_ite Iff.rfl (fun d => ?_) (fun d => ?_)
  · have h := fg_if_t d h
    exact ft_X12_tell_62 hok hQ h
  · have h := fg_if_e d h
    refine ⟨hok.1, ?_⟩
    obtain ⟨u_, s3, e_s3, h⟩ := fg_b_s h
    refine ft_X12_traced hok e_s3 ?_
    exact ft_X12_tell_62 hok hQ h
set_option maxRecDepth 100000 in
set_option maxHeartbeats 4000000 in
theorem ft_X12_tell_42 {o : Nat} {ra : Nat → Nat} {s0 : h_S} (hok : r_ok o ra s0) {Q : Int32 → h_S → Prop} {r : Int32} {t : r_T} (hQ : Q r (r_emb s0 o ra t)) {s : r_T} {x1 : Int32} {x2 : Int32} (h : fn_X12_tell_42 x1 x2 s = some (r, t)) : w_X12_tell_42 Q o x1 x2 (r_emb s0 o ra s) := by
  unfold fn_X12_tell_42 at h
  unfold w_X12_tell_42
  refine fg_ite Iff.rfl (fun d => ?_) (fun d => ?_)
  · have h := fg_if_t d h
    refine ⟨hok.1, ?_⟩
    obtain ⟨u_, s3, e_s3, h⟩ := fg_b_s h
    refine ft_X12_traced hok e_s3 ?_
    exact ft_X12_tell_52 hok hQ h
  · have h := fg_if_e d h
    exact ft_X12_tell_52 hok hQ h
set_option maxRecDepth 100000 in
set_option maxHeartbeats 4000000 in
theorem ft_X12_tell_37 {o : Nat} {ra : Nat → Nat} {s0 : h_S} (hok : r_ok o ra s0) {Q : Int32 → h_S → Prop} {r : Int32} {t : r_T} (hQ : Q r (r_emb s0 o ra t)) {s : r_T} {x1 : Int32} {x2 : Int32} (h : fn_X12_tell_37 x1 x2 s = some (r, t)) : w_X12_tell_37 Q o x1 x2 (r_emb s0 o ra s) := by
  unfold fn_X12_tell_37 at h
  unfold w_X12_tell_37
  refine ⟨hok.1, ?_⟩
  obtain ⟨u_, s2, e_s2, h⟩ := fg_b_s h
  refine ft_X12_traced hok e_s2 ?_
  exact ft_X12_tell_42 hok hQ h
set_option maxRecDepth 100000 in
set_option maxHeartbeats 4000000 in
theorem ft_X12_tell_27 {o : Nat} {ra : Nat → Nat} {s0 : h_S} (hok : r_ok o ra s0) {Q : Int32 → h_S → Prop} {r : Int32} {t : r_T} (hQ : Q r (r_emb s0 o ra t)) {s : r_T} {x1 : Int32} {x2 : Int32} (h : fn_X12_tell_27 x1 x2 s = some (r, t)) : w_X12_tell_27 Q o x1 x2 (r_emb s0 o ra s) := by
  unfold fn_X12_tell_27 at h
  unfold w_X12_tell_27
  refine fg_ite Iff.rfl (fun d => ?_) (fun d => ?_)
  · have h := fg_if_t d h
    exact ft_X12_tell_37 hok hQ h
  · have h := fg_if_e d h
    refine fg_ite Iff.rfl (fun d => ?_) (fun d => ?_)
    · have h := fg_if_t d h
      exact ft_X12_tell_37 hok hQ h
    · have h := fg_if_e d h
      exact ft_X12_tell_42 hok hQ h
set_option maxRecDepth 100000 in
set_option maxHeartbeats 4000000 in
theorem ft_X12_tell {o : Nat} {ra : Nat → Nat} {s0 : h_S} (hok : r_ok o ra s0) {Q : Int32 → h_S → Prop} {r : Int32} {t : r_T} {s : r_T} {x1 : Int32} (h : fn_X12_tell x1 s = some (r, t)) (hQ : Q r (r_emb s0 o ra t)) : w_X12_tell o x1 (r_emb s0 o ra s) Q := by
  unfold fn_X12_tell at h
  unfold w_X12_tell
  refine ⟨hok.1, ?_⟩
  obtain ⟨p3, s2, e_s2, h⟩ := fg_b_s h
  refine ft_X12_noLink hok e_s2 ?_
  refine fg_ite Iff.rfl (fun d => ?_) (fun d => ?_)
  · have h := fg_if_t d h
    refine ⟨hok.1, ?_⟩
    refine ⟨ra 81, fr_r81 hok, ?_⟩
    refine ⟨fr_k81 hok, ?_⟩
    obtain ⟨c, h⟩ := fg_g_s h
    refine ⟨fr_vp (fr_n81 hok) c, ?_⟩
    try simp -zeta only [fr_i81 hok]
    refine fg_ite Iff.rfl (fun d => ?_) (fun d => ?_)
    · have h := fg_if_t d h
      obtain ⟨u_, s10, e_s10, h⟩ := fg_b_s h
      refine ft_X12_traced hok e_s10 ?_
      try simp -zeta only [fr_i81 hok]
      exact ft_X12_tell_27 hok hQ h
    · have h := fg_if_e d h
      try simp -zeta only [fr_i81 hok]
      exact ft_X12_tell_27 hok hQ h
  · have h := fg_if_e d h
    obtain ⟨q, q2⟩ := fg_ret h
    subst q
    subst q2
    exact hQ
set_option maxRecDepth 100000 in
set_option maxHeartbeats 4000000 in
theorem ft_X12_name_28 {o : Nat} {ra : Nat → Nat} {s0 : h_S} (hok : r_ok o ra s0) {Q : Int32 → h_S → Prop} {r : Int32} {t : r_T} (hQ : Q r (r_emb s0 o ra t)) {s : r_T} {x1 : Int32} {y0 : Int32} (h : fn_X12_name_28 x1 y0 s = some (r, t)) : w_X12_name_28 Q o x1 y0 o (r_emb s0 o ra s) := by
  unfold fn_X12_name_28 at h
  unfold w_X12_name_28
  refine ⟨hok.1, ?_⟩
  obtain ⟨u_, s2, e_s2, h⟩ := fg_b_s h
  refine ft_X12_traced hok e_s2 ?_
  refine ⟨hok.1, ?_⟩
  refine ⟨ra 81, fr_r81 hok, ?_⟩
  refine ⟨fr_k81 hok, ?_⟩
  obtain ⟨c, h⟩ := fg_g_s h
  refine ⟨fr_vp (fr_n81 hok) c, ?_⟩
  try simp -zeta only [fr_i81 hok]
  refine fg_ite Iff.rfl (fun d => ?_) (fun d => ?_)
  · have h := fg_if_t d h
    unfold w_X12_name_47
    obtain ⟨q, q2⟩ := fg_ret h
    subst q
    subst q2
    exact hQ
  · have h := fg_if_e d h
    unfold w_X12_name_47
    obtain ⟨q, q2⟩ := fg_ret h
    subst q
    subst q2
    exact hQ
set_option maxRecDepth 100000 in
set_option maxHeartbeats 4000000 in
theorem ft_X12_name {o : Nat} {ra : Nat → Nat} {s0 : h_S} (hok : r_ok o ra s0) {Q : Int32 → h_S → Prop} {r : Int32} {t : r_T} {s : r_T} {x1 : Int32} (h : fn_X12_name x1 s = some (r, t)) (hQ : Q r (r_emb s0 o ra t)) : w_X12_name o x1 (r_emb s0 o ra s) Q := by
  unfold fn_X12_name at h
  unfold w_X12_name
  refine ⟨hok.1, ?_⟩
  obtain ⟨p3, s2, e_s2, h⟩ := fg_b_s h
  refine ft_X12_noLink hok e_s2 ?_
  refine fg_ite Iff.rfl (fun d => ?_) (fun d => ?_)
  · have h := fg_if_t d h
    refine ⟨hok.1, ?_⟩
    refine ⟨ra 81, fr_r81 hok, ?_⟩
    refine ⟨fr_k81 hok, ?_⟩
    obtain ⟨c, h⟩ := fg_g_s h
    refine ⟨fr_vp (fr_n81 hok) c, ?_⟩
    try simp -zeta only [fr_i81 hok]
    refine fg_ite Iff.rfl (fun d => ?_) (fun d => ?_)
    · have h := fg_if_t d h
      exact ft_X12_name_28 hok hQ h
    · have h := fg_if_e d h
      exact ft_X12_name_28 hok hQ h
  · have h := fg_if_e d h
    obtain ⟨q, q2⟩ := fg_ret h
    subst q
    subst q2
    exact hQ
set_option maxRecDepth 100000 in
set_option maxHeartbeats 4000000 in
theorem ft_X12_as_74 {o : Nat} {ra : Nat → Nat} {s0 : h_S} (hok : r_ok o ra s0) {Q : Int32 → h_S → Prop} {r : Int32} {t : r_T} (hQ : Q r (r_emb s0 o ra t)) {s : r_T} {y0 : Int32} (h : fn_X12_as_74 y0 s = some (r, t)) : w_X12_as_74 Q o y0 (r_emb s0 o ra s) := by
  unfold fn_X12_as_74 at h
  unfold w_X12_as_74
  refine fg_ite Iff.rfl (fun d => ?_) (fun d => ?_)
  · have h := fg_if_t d h
    refine ⟨hok.1, ?_⟩
    obtain ⟨p4, s3, e_s3, h⟩ := fg_b_s h
    refine ft_X12_failed hok e_s3 ?_
    unfold w_X12_as_94
    obtain ⟨q, q2⟩ := fg_ret h
    subst q
    subst q2
    exact hQ
  · have h := fg_if_e d h
    refine ⟨hok.1, ?_⟩
    obtain ⟨p7, s6, e_s6, h⟩ := fg_b_s h
    refine ft_X12_refused hok e_s6 ?_
    unfold w_X12_as_94
    obtain ⟨q, q2⟩ := fg_ret h
    subst q
    subst q2
    exact hQ
set_option maxRecDepth 100000 in
set_option maxHeartbeats 4000000 in
theorem ft_X12_as_69 {o : Nat} {ra : Nat → Nat} {s0 : h_S} (hok : r_ok o ra s0) {Q : Int32 → h_S → Prop} {r : Int32} {t : r_T} (hQ : Q r (r_emb s0 o ra t)) {s : r_T} (h : fn_X12_as_69 s = some (r, t)) : w_X12_as_69 Q o (r_emb s0 o ra s) := by
  unfold fn_X12_as_69 at h
  unfold w_X12_as_69
  exact ft_X12_as_74 hok hQ h
set_option maxRecDepth 100000 in
set_option maxHeartbeats 4000000 in
theorem ft_X12_as_73 {o : Nat} {ra : Nat → Nat} {s0 : h_S} (hok : r_ok o ra s0) {Q : Int32 → h_S → Prop} {r : Int32} {t : r_T} (hQ : Q r (r_emb s0 o ra t)) {s : r_T} (h : fn_X12_as_73 s = some (r, t)) : w_X12_as_73 Q o (r_emb s0 o ra s) := by
  unfold fn_X12_as_73 at h
  unfold w_X12_as_73
  exact ft_X12_as_74 hok hQ h
set_option maxRecDepth 100000 in
set_option maxHeartbeats 4000000 in
theorem ft_X12_as_59 {o : Nat} {ra : Nat → Nat} {s0 : h_S} (hok : r_ok o ra s0) {Q : Int32 → h_S → Prop} {r : Int32} {t : r_T} (hQ : Q r (r_emb s0 o ra t)) {s : r_T} {x2 : Int32} {x3 : Int32} (h : fn_X12_as_59 x2 x3 s = some (r, t)) : w_X12_as_59 Q o x2 x3 (r_emb s0 o ra s) := by
  unfold fn_X12_as_59 at h
  unfold w_X12_as_59
  refine fg_ite Iff.rfl (fun d => ?_) (fun d => ?_)
  · have h := fg_if_t d h
    refine fg_ite Iff.rfl (fun d => ?_) (fun d => ?_)
    · have h := fg_if_t d h
      exact ft_X12_as_69 hok hQ h
    · have h := fg_if_e d h
      exact ft_X12_as_73 hok hQ h
  · have h := fg_if_e d h
    exact ft_X12_as_73 hok hQ h
set_option maxRecDepth 100000 in
set_option maxHeartbeats 4000000 in
theorem ft_X12_as {o : Nat} {ra : Nat → Nat} {s0 : h_S} (hok : r_ok o ra s0) {Q : Int32 → h_S → Prop} {r : Int32} {t : r_T} {s : r_T} {x1 : Int32} {x2 : Int32} (h : fn_X12_as x1 x2 s = some (r, t)) (hQ : Q r (r_emb s0 o ra t)) : w_X12_as o x1 x2 (r_emb s0 o ra s) Q := by
  unfold fn_X12_as at h
  unfold w_X12_as
  refine ⟨hok.1, ?_⟩
  obtain ⟨p3, s2, e_s2, h⟩ := fg_b_s h
  refine ft_X12_noLink hok e_s2 ?_
  refine fg_ite Iff.rfl (fun d => ?_) (fun d => ?_)
  · have h := fg_if_t d h
    obtain ⟨p6, s5, e_s5, h⟩ := fg_b_s h
    refine ft_X12_in hok e_s5 ?_
    refine fg_ite Iff.rfl (fun d => ?_) (fun d => ?_)
    · have h := fg_if_t d h
      refine ⟨hok.1, ?_⟩
      obtain ⟨p18, s17, e_s17, h⟩ := fg_b_s h
      refine ft_X12_refused hok e_s17 ?_
      obtain ⟨q, q2⟩ := fg_ret h
      subst q
      subst q2
      exact hQ
    · have h := fg_if_e d h
      refine ⟨hok.1, ?_⟩
      refine ⟨ra 81, fr_r81 hok, ?_⟩
      refine ⟨fr_k81 hok, ?_⟩
      obtain ⟨c, h⟩ := fg_g_s h
      refine ⟨fr_vp (fr_n81 hok) c, ?_⟩
      refine fg_ite Iff.rfl (fun d => ?_) (fun d => ?_)
      · have h := fg_if_t d h
        exact ft_X12_as_69 hok hQ h
      · have h := fg_if_e d h
        try simp -zeta only [fr_i81 hok]
        refine fg_ite Iff.rfl (fun d => ?_) (fun d => ?_)
        · have h := fg_if_t d h
          exact ft_X12_as_69 hok hQ h
        · have h := fg_if_e d h
          refine fg_ite Iff.rfl (fun d => ?_) (fun d => ?_)
          · have h := fg_if_t d h
            try simp -zeta only [fr_i81 hok]
            refine fg_ite Iff.rfl (fun d => ?_) (fun d => ?_)
            · have h := fg_if_t d h
              exact ft_X12_as_69 hok hQ h
            · have h := fg_if_e d h
              try simp -zeta only [fr_i81 hok]
              exact ft_X12_as_59 hok hQ h
          · have h := fg_if_e d h
            try simp -zeta only [fr_i81 hok]
            exact ft_X12_as_59 hok hQ h
  · have h := fg_if_e d h
    refine ⟨hok.1, ?_⟩
    obtain ⟨p21, s20, e_s20, h⟩ := fg_b_s h
    refine ft_X12_refused hok e_s20 ?_
    obtain ⟨q, q2⟩ := fg_ret h
    subst q
    subst q2
    exact hQ
set_option maxRecDepth 100000 in
set_option maxHeartbeats 4000000 in
theorem ft_X12_trace {o : Nat} {ra : Nat → Nat} {s0 : h_S} (hok : r_ok o ra s0) {Q : Int32 → h_S → Prop} {r : Int32} {t : r_T} {s : r_T} (h : fn_X12_trace s = some (r, t)) (hQ : Q r (r_emb s0 o ra t)) : w_X12_trace o (r_emb s0 o ra s) Q := by
  unfold fn_X12_trace at h
  unfold w_X12_trace
  refine ⟨hok.1, ?_⟩
  try simp -zeta only [e_io]
  obtain ⟨q, q2⟩ := fg_ret h
  subst q
  subst q2
  exact hQ
set_option maxRecDepth 100000 in
set_option maxHeartbeats 4000000 in
theorem ft_X12_fault {o : Nat} {ra : Nat → Nat} {s0 : h_S} (hok : r_ok o ra s0) {Q : Int32 → h_S → Prop} {r : Int32} {t : r_T} {s : r_T} (h : fn_X12_fault s = some (r, t)) (hQ : Q r (r_emb s0 o ra t)) : w_X12_fault o (r_emb s0 o ra s) Q := by
  unfold fn_X12_fault at h
  unfold w_X12_fault
  refine ⟨hok.1, ?_⟩
  try simp -zeta only [e_io]
  obtain ⟨q, q2⟩ := fg_ret h
  subst q
  subst q2
  exact hQ
set_option maxRecDepth 100000 in
set_option maxHeartbeats 4000000 in
theorem ft_X12_many {o : Nat} {ra : Nat → Nat} {s0 : h_S} (hok : r_ok o ra s0) {Q : Int32 → h_S → Prop} {r : Int32} {t : r_T} {s : r_T} {x1 : Int32} (h : fn_X12_many x1 s = some (r, t)) (hQ : Q r (r_emb s0 o ra t)) : w_X12_many o x1 (r_emb s0 o ra s) Q := by
  unfold fn_X12_many at h
  unfold w_X12_many
  refine fg_ite Iff.rfl (fun d => ?_) (fun d => ?_)
  · have h := fg_if_t d h
    refine ⟨hok.1, ?_⟩
    try simp -zeta only [e_io]
    obtain ⟨q, q2⟩ := fg_ret h
    subst q
    subst q2
    exact hQ
  · have h := fg_if_e d h
    refine fg_ite Iff.rfl (fun d => ?_) (fun d => ?_)
    · have h := fg_if_t d h
      refine ⟨hok.1, ?_⟩
      try simp -zeta only [e_io]
      obtain ⟨q, q2⟩ := fg_ret h
      subst q
      subst q2
      exact hQ
    · have h := fg_if_e d h
      refine fg_ite Iff.rfl (fun d => ?_) (fun d => ?_)
      · have h := fg_if_t d h
        refine ⟨hok.1, ?_⟩
        try simp -zeta only [e_io]
        obtain ⟨q, q2⟩ := fg_ret h
        subst q
        subst q2
        exact hQ
      · have h := fg_if_e d h
        refine fg_ite Iff.rfl (fun d => ?_) (fun d => ?_)
        · have h := fg_if_t d h
          refine ⟨hok.1, ?_⟩
          try simp -zeta only [e_io]
          obtain ⟨q, q2⟩ := fg_ret h
          subst q
          subst q2
          exact hQ
        · have h := fg_if_e d h
          refine fg_ite Iff.rfl (fun d => ?_) (fun d => ?_)
          · have h := fg_if_t d h
            refine ⟨hok.1, ?_⟩
            try simp -zeta only [e_io]
            obtain ⟨q, q2⟩ := fg_ret h
            subst q
            subst q2
            exact hQ
          · have h := fg_if_e d h
            refine fg_ite Iff.rfl (fun d => ?_) (fun d => ?_)
            · have h := fg_if_t d h
              refine ⟨hok.1, ?_⟩
              try simp -zeta only [e_io]
              obtain ⟨q, q2⟩ := fg_ret h
              subst q
              subst q2
              exact hQ
            · have h := fg_if_e d h
              refine fg_ite Iff.rfl (fun d => ?_) (fun d => ?_)
              · have h := fg_if_t d h
                refine ⟨hok.1, ?_⟩
                try simp -zeta only [e_io]
                obtain ⟨q, q2⟩ := fg_ret h
                subst q
                subst q2
                exact hQ
              · have h := fg_if_e d h
                refine fg_ite Iff.rfl (fun d => ?_) (fun d => ?_)
                · have h := fg_if_t d h
                  refine ⟨hok.1, ?_⟩
                  try simp -zeta only [e_io]
                  obtain ⟨q, q2⟩ := fg_ret h
                  subst q
                  subst q2
                  exact hQ
                · have h := fg_if_e d h
                  refine fg_ite Iff.rfl (fun d => ?_) (fun d => ?_)
                  · have h := fg_if_t d h
                    refine ⟨hok.1, ?_⟩
                    try simp -zeta only [e_io]
                    obtain ⟨q, q2⟩ := fg_ret h
                    subst q
                    subst q2
                    exact hQ
                  · have h := fg_if_e d h
                    obtain ⟨q, q2⟩ := fg_ret h
                    subst q
                    subst q2
                    exact hQ
