set_option maxRecDepth 100000 in
set_option maxHeartbeats 4000000 in
theorem ft_X12_put_24 {o : Nat} {ra : Nat → Nat} {s0 : h_S} (hok : r_ok o ra s0) {Q : Int32 → h_S → Prop} {r : Int32} {t : r_T} (hQ : Q r (r_emb s0 o ra t)) {s : r_T} (h : fn_X12_put_24 s = some (r, t)) : w_X12_put_24 Q o (r_emb s0 o ra s) := by
  unfold fn_X12_put_24 at h
  unfold w_X12_put_24
  refine ⟨hok.1, ?_⟩
  obtain ⟨p3, s2, e_s2, h⟩ := fg_b_s h
  refine ft_X12_refused hok e_s2 ?_
  obtain ⟨q, q2⟩ := fg_ret h
  subst q
  subst q2
  exact hQ
set_option maxRecDepth 100000 in
set_option maxHeartbeats 4000000 in
theorem ft_X12_put_150 {o : Nat} {ra : Nat → Nat} {s0 : h_S} (hok : r_ok o ra s0) {Q : Int32 → h_S → Prop} {r : Int32} {t : r_T} (hQ : Q r (r_emb s0 o ra t)) {s : r_T} (h : fn_X12_put_150 s = some (r, t)) : w_X12_put_150 Q o (r_emb s0 o ra s) := by
  unfold fn_X12_put_150 at h
  unfold w_X12_put_150
  refine ⟨hok.1, ?_⟩
  obtain ⟨p3, s2, e_s2, h⟩ := fg_b_s h
  refine ft_X12_refused hok e_s2 ?_
  obtain ⟨q, q2⟩ := fg_ret h
  subst q
  subst q2
  exact hQ
set_option maxRecDepth 100000 in
set_option maxHeartbeats 4000000 in
theorem ft_X12_put_211b {o : Nat} {ra : Nat → Nat} {s0 : h_S} (hok : r_ok o ra s0) {Q : Int32 → h_S → Prop} {r : Int32} {t : r_T} (hQ : Q r (r_emb s0 o ra t)) {K211 : Int32 → Int32 → Int32 → Int32 → Int32 → Int32 → Int32 → r_T → Option (Int32 × r_T)} {WK211 : Nat → Int32 → Int32 → Int32 → Int32 → Int32 → Int32 → Int32 → h_S → Prop} (hK211 : ∀ (n0 : Int32) (n1 : Int32) (n2 : Int32) (n3 : Int32) (n4 : Int32) (n5 : Int32) (n6 : Int32) (u : r_T), K211 n0 n1 n2 n3 n4 n5 n6 u = some (r, t) → WK211 o n0 n1 n2 n3 n4 n5 n6 (r_emb s0 o ra u)) {s : r_T} {x1 : Int32} {x3 : Int32} {x5 : Int32} {x6 : Int32} {x8 : Int32} {x9 : Int32} {x10 : Int32} (h : fn_X12_put_211b K211 x1 x3 x5 x6 x8 x9 x10 s = some (r, t)) : w_X12_put_211b Q WK211 o x1 x3 x5 x6 x8 x9 x10 (r_emb s0 o ra s) := by
  unfold fn_X12_put_211b at h
  unfold w_X12_put_211b
  refine fg_ite Iff.rfl (fun d => ?_) (fun d => ?_)
  · have h := fg_if_t d h
    refine ⟨hok.1, ?_⟩
    try simp -zeta only [e_io]
    obtain ⟨p4, s3, e_s3, h⟩ := fg_b_s h
    refine ft_X12_acted hok e_s3 ?_
    refine ⟨hok.1, ?_⟩
    obtain ⟨p7, s6, e_s6, h⟩ := fg_b_s h
    refine ft_X12_refused hok e_s6 ?_
    obtain ⟨q, q2⟩ := fg_ret h
    subst q
    subst q2
    exact hQ
  · have h := fg_if_e d h
    refine ⟨hok.1, ?_⟩
    refine ⟨ra 112, fr_r112 hok, ?_⟩
    refine ⟨fr_k112 hok, ?_⟩
    obtain ⟨c, h⟩ := fg_g_s h
    refine ⟨fr_vp (fr_n112 hok) c, ?_⟩
    refine ⟨ra 23, fr_r23 hok, ?_⟩
    refine ⟨fr_k23 hok, ?_⟩
    try simp -zeta only [e_io]
    obtain ⟨c, h⟩ := fg_g_s h
    refine ⟨fr_vp (fr_n23 hok) c, ?_⟩
    try simp -zeta only [e_io, fr_i112 hok]
    obtain ⟨s15, e_s15, h⟩ := fg_let_s h
    intro S_s15
    have z_s15 : S_s15 = r_emb s0 o ra s15 := by rw [e_s15]; exact fr_s23 hok _ _
    clear_value S_s15
    subst z_s15
    refine ⟨ra 24, fr_r24 hok, ?_⟩
    refine ⟨fr_k24 hok, ?_⟩
    try simp -zeta only [e_io]
    obtain ⟨c, h⟩ := fg_g_s h
    refine ⟨fr_vp (fr_n24 hok) c, ?_⟩
    try simp -zeta only [e_io]
    obtain ⟨s19, e_s19, h⟩ := fg_let_s h
    intro S_s19
    have z_s19 : S_s19 = r_emb s0 o ra s19 := by rw [e_s19]; exact fr_s24 hok _ _
    clear_value S_s19
    subst z_s19
    refine ⟨ra 25, fr_r25 hok, ?_⟩
    refine ⟨fr_k25 hok, ?_⟩
    try simp -zeta only [e_io]
    obtain ⟨c, h⟩ := fg_g_s h
    refine ⟨fr_vp (fr_n25 hok) c, ?_⟩
    try simp -zeta only [e_io]
    obtain ⟨s23, e_s23, h⟩ := fg_let_s h
    intro S_s23
    have z_s23 : S_s23 = r_emb s0 o ra s23 := by rw [e_s23]; exact fr_s25 hok _ _
    clear_value S_s23
    subst z_s23
    refine ⟨ra 26, fr_r26 hok, ?_⟩
    refine ⟨fr_k26 hok, ?_⟩
    try simp -zeta only [e_io]
    obtain ⟨c, h⟩ := fg_g_s h
    refine ⟨fr_vp (fr_n26 hok) c, ?_⟩
    try simp -zeta only [e_io]
    obtain ⟨s27, e_s27, h⟩ := fg_let_s h
    intro S_s27
    have z_s27 : S_s27 = r_emb s0 o ra s27 := by rw [e_s27]; exact fr_s26 hok _ _
    clear_value S_s27
    subst z_s27
    refine ⟨ra 27, fr_r27 hok, ?_⟩
    refine ⟨fr_k27 hok, ?_⟩
    try simp -zeta only [e_io]
    obtain ⟨c, h⟩ := fg_g_s h
    refine ⟨fr_vp (fr_n27 hok) c, ?_⟩
    try simp -zeta only [e_io]
    obtain ⟨s31, e_s31, h⟩ := fg_let_s h
    intro S_s31
    have z_s31 : S_s31 = r_emb s0 o ra s31 := by rw [e_s31]; exact fr_s27 hok _ _
    clear_value S_s31
    subst z_s31
    try simp -zeta only [e_io]
    obtain ⟨s32, e_s32, h⟩ := fg_let_s h
    intro S_s32
    have z_s32 : S_s32 = r_emb s0 o ra s32 := by rw [e_s32]; exact e_so _ _
    clear_value S_s32
    subst z_s32
    exact hK211 _ _ _ _ _ _ _ _ h
set_option maxRecDepth 100000 in
set_option maxHeartbeats 4000000 in
theorem ft_X12_put_211 {o : Nat} {ra : Nat → Nat} {s0 : h_S} (hok : r_ok o ra s0) {Q : Int32 → h_S → Prop} {r : Int32} {t : r_T} (hQ : Q r (r_emb s0 o ra t)) : ∀ (n : Nat) (x1 : Int32) (x3 : Int32) (x5 : Int32) (x6 : Int32) (x8 : Int32) (x9 : Int32) (x10 : Int32) (s : r_T), fn_X12_put_211 n x1 x3 x5 x6 x8 x9 x10 s = some (r, t) → w_X12_put_211 Q n o x1 x3 x5 x6 x8 x9 x10 (r_emb s0 o ra s) := by
  intro n
  induction n with
  | zero => intro x1 x3 x5 x6 x8 x9 x10 s h; exact fg_none h
  | succ n ih =>
    intro x1 x3 x5 x6 x8 x9 x10 s h
    exact ft_X12_put_211b hok hQ ih h
set_option maxRecDepth 100000 in
set_option maxHeartbeats 4000000 in
theorem ft_X12_put_171b {o : Nat} {ra : Nat → Nat} {s0 : h_S} (hok : r_ok o ra s0) {Q : Int32 → h_S → Prop} {r : Int32} {t : r_T} (hQ : Q r (r_emb s0 o ra t)) {K171 : Int32 → Int32 → Int32 → Int32 → Int32 → Int32 → Int32 → r_T → Option (Int32 × r_T)} {WK171 : Nat → Int32 → Int32 → Int32 → Int32 → Int32 → Int32 → Int32 → h_S → Prop} (hK171 : ∀ (n0 : Int32) (n1 : Int32) (n2 : Int32) (n3 : Int32) (n4 : Int32) (n5 : Int32) (n6 : Int32) (u : r_T), K171 n0 n1 n2 n3 n4 n5 n6 u = some (r, t) → WK171 o n0 n1 n2 n3 n4 n5 n6 (r_emb s0 o ra u)) {s : r_T} {x1 : Int32} {x3 : Int32} {x5 : Int32} {x6 : Int32} {x8 : Int32} {x9 : Int32} {x10 : Int32} (h : fn_X12_put_171b K171 x1 x3 x5 x6 x8 x9 x10 s = some (r, t)) : w_X12_put_171b Q WK171 o x1 x3 x5 x6 x8 x9 x10 (r_emb s0 o ra s) := by
  unfold fn_X12_put_171b at h
  unfold w_X12_put_171b
  refine ⟨hok.1, ?_⟩
  try simp -zeta only [e_io]
  refine fg_ite Iff.rfl (fun d => ?_) (fun d => ?_)
  · have h := fg_if_t d h
    exact ⟨g_N, ft_X12_put_211 hok hQ g_N _ _ _ _ _ _ _ _ h⟩
  · have h := fg_if_e d h
    refine ⟨ra 24, fr_r24 hok, ?_⟩
    refine ⟨fr_k24 hok, ?_⟩
    obtain ⟨c, h⟩ := fg_g_s h
    refine ⟨fr_vp (fr_n24 hok) c, ?_⟩
    try simp -zeta only [fr_i24 hok]
    refine fg_ite Iff.rfl (fun d => ?_) (fun d => ?_)
    · have h := fg_if_t d h
      unfold w_X12_put_199
      exact hK171 _ _ _ _ _ _ _ _ h
    · have h := fg_if_e d h
      unfold w_X12_put_199
      exact hK171 _ _ _ _ _ _ _ _ h
set_option maxRecDepth 100000 in
set_option maxHeartbeats 4000000 in
theorem ft_X12_put_171 {o : Nat} {ra : Nat → Nat} {s0 : h_S} (hok : r_ok o ra s0) {Q : Int32 → h_S → Prop} {r : Int32} {t : r_T} (hQ : Q r (r_emb s0 o ra t)) : ∀ (n : Nat) (x1 : Int32) (x3 : Int32) (x5 : Int32) (x6 : Int32) (x8 : Int32) (x9 : Int32) (x10 : Int32) (s : r_T), fn_X12_put_171 n x1 x3 x5 x6 x8 x9 x10 s = some (r, t) → w_X12_put_171 Q n o x1 x3 x5 x6 x8 x9 x10 (r_emb s0 o ra s) := by
  intro n
  induction n with
  | zero => intro x1 x3 x5 x6 x8 x9 x10 s h; exact fg_none h
  | succ n ih =>
    intro x1 x3 x5 x6 x8 x9 x10 s h
    exact ft_X12_put_171b hok hQ ih h
set_option maxRecDepth 100000 in
set_option maxHeartbeats 4000000 in
theorem ft_X12_put_54b {o : Nat} {ra : Nat → Nat} {s0 : h_S} (hok : r_ok o ra s0) {Q : Int32 → h_S → Prop} {r : Int32} {t : r_T} (hQ : Q r (r_emb s0 o ra t)) {K54 : Int32 → Int32 → Int32 → Int32 → Int32 → Int32 → r_T → Option (Int32 × r_T)} {WK54 : Nat → Int32 → Int32 → Int32 → Int32 → Int32 → Int32 → h_S → Prop} (hK54 : ∀ (n0 : Int32) (n1 : Int32) (n2 : Int32) (n3 : Int32) (n4 : Int32) (n5 : Int32) (u : r_T), K54 n0 n1 n2 n3 n4 n5 u = some (r, t) → WK54 o n0 n1 n2 n3 n4 n5 (r_emb s0 o ra u)) {s : r_T} {x1 : Int32} {x2 : Int32} {x3 : Int32} {x5 : Int32} {x6 : Int32} {x8 : Int32} (h : fn_X12_put_54b K54 x1 x2 x3 x5 x6 x8 s = some (r, t)) : w_X12_put_54b Q WK54 o x1 x2 x3 x5 x6 x8 (r_emb s0 o ra s) := by
  unfold fn_X12_put_54b at h
  unfold w_X12_put_54b
  refine fg_ite Iff.rfl (fun d => ?_) (fun d => ?_)
  · have h := fg_if_t d h
    refine fg_ite Iff.rfl (fun d => ?_) (fun d => ?_)
    · have h := fg_if_t d h
      refine ⟨hok.1, ?_⟩
      obtain ⟨p17, s16, e_s16, h⟩ := fg_b_s h
      refine ft_X12_refused hok e_s16 ?_
      obtain ⟨q, q2⟩ := fg_ret h
      subst q
      subst q2
      exact hQ
    · have h := fg_if_e d h
      refine ⟨hok.1, ?_⟩
      obtain ⟨u_, s4, e_s4, h⟩ := fg_b_s h
      refine ft_X12_open hok e_s4 ?_
      refine ⟨hok.1, ?_⟩
      try simp -zeta only [e_io]
      refine fg_ite Iff.rfl (fun d => ?_) (fun d => ?_)
      · have h := fg_if_t d h
        exact ft_X12_put_150 hok hQ h
      · have h := fg_if_e d h
        try simp -zeta only [e_io]
        obtain ⟨p9, s8, e_s8, h⟩ := fg_b_s h
        refine ft_X12_come hok e_s8 ?_
        refine fg_ite Iff.rfl (fun d => ?_) (fun d => ?_)
        · have h := fg_if_t d h
          exact ft_X12_put_150 hok hQ h
        · have h := fg_if_e d h
          refine ⟨hok.1, ?_⟩
          refine ⟨ra 9, fr_r9 hok, ?_⟩
          refine ⟨fr_k9 hok, ?_⟩
          obtain ⟨c, h⟩ := fg_g_s h
          refine ⟨fr_vp (fr_n9 hok) c, ?_⟩
          try simp -zeta only [fr_i9 hok]
          exact ⟨g_N, ft_X12_put_171 hok hQ g_N _ _ _ _ _ _ _ _ h⟩
  · have h := fg_if_e d h
    refine ⟨hok.1, ?_⟩
    refine ⟨ra 112, fr_r112 hok, ?_⟩
    refine ⟨fr_k112 hok, ?_⟩
    obtain ⟨c, h⟩ := fg_g_s h
    refine ⟨fr_vp (fr_n112 hok) c, ?_⟩
    try simp -zeta only [fr_i112 hok]
    obtain ⟨p23, s22, e_s22, h⟩ := fg_b_s h
    refine ft_X12_in hok e_s22 ?_
    refine fg_ite Iff.rfl (fun d => ?_) (fun d => ?_)
    · have h := fg_if_t d h
      refine ⟨hok.1, ?_⟩
      obtain ⟨p27, s26, e_s26, h⟩ := fg_b_s h
      refine ft_X12_refused hok e_s26 ?_
      obtain ⟨q, q2⟩ := fg_ret h
      subst q
      subst q2
      exact hQ
    · have h := fg_if_e d h
      exact hK54 _ _ _ _ _ _ _ h
set_option maxRecDepth 100000 in
set_option maxHeartbeats 4000000 in
theorem ft_X12_put_54 {o : Nat} {ra : Nat → Nat} {s0 : h_S} (hok : r_ok o ra s0) {Q : Int32 → h_S → Prop} {r : Int32} {t : r_T} (hQ : Q r (r_emb s0 o ra t)) : ∀ (n : Nat) (x1 : Int32) (x2 : Int32) (x3 : Int32) (x5 : Int32) (x6 : Int32) (x8 : Int32) (s : r_T), fn_X12_put_54 n x1 x2 x3 x5 x6 x8 s = some (r, t) → w_X12_put_54 Q n o x1 x2 x3 x5 x6 x8 (r_emb s0 o ra s) := by
  intro n
  induction n with
  | zero => intro x1 x2 x3 x5 x6 x8 s h; exact fg_none h
  | succ n ih =>
    intro x1 x2 x3 x5 x6 x8 s h
    exact ft_X12_put_54b hok hQ ih h
set_option maxRecDepth 100000 in
set_option maxHeartbeats 4000000 in
theorem ft_X12_put {o : Nat} {ra : Nat → Nat} {s0 : h_S} (hok : r_ok o ra s0) {Q : Int32 → h_S → Prop} {r : Int32} {t : r_T} {s : r_T} {x1 : Int32} {x2 : Int32} {x3 : Int32} {x4 : Int32} {x5 : Int32} {x6 : Int32} (h : fn_X12_put x1 x2 x3 x4 x5 x6 s = some (r, t)) (hQ : Q r (r_emb s0 o ra t)) : w_X12_put o x1 x2 x3 x4 x5 x6 (r_emb s0 o ra s) Q := by
  unfold fn_X12_put at h
  unfold w_X12_put
  refine ⟨hok.1, ?_⟩
  obtain ⟨p3, s2, e_s2, h⟩ := fg_b_s h
  refine ft_X12_noWriting hok e_s2 ?_
  refine fg_ite Iff.rfl (fun d => ?_) (fun d => ?_)
  · have h := fg_if_t d h
    obtain ⟨p6, s5, e_s5, h⟩ := fg_b_s h
    refine ft_X12_noSheet hok e_s5 ?_
    refine fg_ite Iff.rfl (fun d => ?_) (fun d => ?_)
    · have h := fg_if_t d h
      refine ⟨hok.1, ?_⟩
      obtain ⟨p10, s9, e_s9, h⟩ := fg_b_s h
      refine ft_X12_noPlaceAhead hok e_s9 ?_
      refine fg_ite Iff.rfl (fun d => ?_) (fun d => ?_)
      · have h := fg_if_t d h
        refine ⟨hok.1, ?_⟩
        obtain ⟨p14, s13, e_s13, h⟩ := fg_b_s h
        refine ft_X12_barred hok e_s13 ?_
        refine fg_ite Iff.rfl (fun d => ?_) (fun d => ?_)
        · have h := fg_if_t d h
          exact ⟨g_N, ft_X12_put_54 hok hQ g_N _ _ _ _ _ _ _ h⟩
        · have h := fg_if_e d h
          obtain ⟨q, q2⟩ := fg_ret h
          subst q
          subst q2
          exact hQ
      · have h := fg_if_e d h
        exact ft_X12_put_24 hok hQ h
    · have h := fg_if_e d h
      exact ft_X12_put_24 hok hQ h
  · have h := fg_if_e d h
    exact ft_X12_put_24 hok hQ h
set_option maxRecDepth 100000 in
set_option maxHeartbeats 4000000 in
theorem ft_X12_isThere {o : Nat} {ra : Nat → Nat} {s0 : h_S} (hok : r_ok o ra s0) {Q : Int32 → h_S → Prop} {r : Int32} {t : r_T} {s : r_T} {x1 : Int32} {x2 : Int32} (h : fn_X12_isThere x1 x2 s = some (r, t)) (hQ : Q r (r_emb s0 o ra t)) : w_X12_isThere o x1 x2 (r_emb s0 o ra s) Q := by
  unfold fn_X12_isThere at h
  unfold w_X12_isThere
  refine ⟨hok.1, ?_⟩
  refine ⟨ra 96, fr_r96 hok, ?_⟩
  refine ⟨fr_k96 hok, ?_⟩
  obtain ⟨c, h⟩ := fg_g_s h
  refine ⟨fr_vp (fr_n96 hok) c, ?_⟩
  try simp -zeta only [fr_i96 hok]
  refine fg_ite Iff.rfl (fun d => ?_) (fun d => ?_)
  · have h := fg_if_t d h
    unfold w_X12_isThere_35
    unfold w_X12_isThere_36
    refine ⟨Or.inl rfl, ?_⟩
    obtain ⟨q, q2⟩ := fg_ret h
    subst q
    subst q2
    exact hQ
  · have h := fg_if_e d h
    refine ⟨ra 97, fr_r97 hok, ?_⟩
    refine ⟨fr_k97 hok, ?_⟩
    obtain ⟨c, h⟩ := fg_g_s h
    refine ⟨fr_vp (fr_n97 hok) c, ?_⟩
    try simp -zeta only [fr_i97 hok]
    refine fg_ite Iff.rfl (fun d => ?_) (fun d => ?_)
    · have h := fg_if_t d h
      unfold w_X12_isThere_31
      unfold w_X12_isThere_36
      refine ⟨Or.inr rfl, ?_⟩
      obtain ⟨q, q2⟩ := fg_ret h
      subst q
      subst q2
      exact hQ
    · have h := fg_if_e d h
      refine ⟨ra 97, fr_r97 hok, ?_⟩
      refine ⟨fr_k97 hok, ?_⟩
      obtain ⟨c, h⟩ := fg_g_s h
      refine ⟨fr_vp (fr_n97 hok) c, ?_⟩
      try simp -zeta only [fr_i97 hok]
      refine fg_ite Iff.rfl (fun d => ?_) (fun d => ?_)
      · have h := fg_if_t d h
        unfold w_X12_isThere_35
        unfold w_X12_isThere_36
        refine ⟨Or.inl rfl, ?_⟩
        obtain ⟨q, q2⟩ := fg_ret h
        subst q
        subst q2
        exact hQ
      · have h := fg_if_e d h
        unfold w_X12_isThere_31
        unfold w_X12_isThere_36
        refine ⟨Or.inr rfl, ?_⟩
        obtain ⟨q, q2⟩ := fg_ret h
        subst q
        subst q2
        exact hQ
set_option maxRecDepth 100000 in
set_option maxHeartbeats 4000000 in
theorem ft_X12_allows_44 {o : Nat} {ra : Nat → Nat} {s0 : h_S} (hok : r_ok o ra s0) {Q : Int32 → h_S → Prop} {r : Int32} {t : r_T} (hQ : Q r (r_emb s0 o ra t)) {s : r_T} {x1 : Int32} {x3 : Int32} {x4 : Int32} {y0 : Int32} (h : fn_X12_allows_44 x1 x3 x4 y0 s = some (r, t)) : w_X12_allows_44 Q o x1 x3 x4 y0 (r_emb s0 o ra s) := by
  unfold fn_X12_allows_44 at h
  unfold w_X12_allows_44
  refine fg_ite Iff.rfl (fun d => ?_) (fun d => ?_)
  · have h := fg_if_t d h
    unfold w_X12_allows_101
    unfold w_X12_allows_102
    refine ⟨Or.inl rfl, ?_⟩
    obtain ⟨q, q2⟩ := fg_ret h
    subst q
    subst q2
    exact hQ
  · have h := fg_if_e d h
    refine ⟨hok.1, ?_⟩
    obtain ⟨p4, s3, e_s3, h⟩ := fg_b_s h
    refine ft_X12_isThere hok e_s3 ?_
    refine fg_ite Iff.rfl (fun d => ?_) (fun d => ?_)
    · have h := fg_if_t d h
      unfold w_X12_allows_101
      unfold w_X12_allows_102
      refine ⟨Or.inl rfl, ?_⟩
      obtain ⟨q, q2⟩ := fg_ret h
      subst q
      subst q2
      exact hQ
    · have h := fg_if_e d h
      refine ⟨hok.1, ?_⟩
      refine ⟨ra 93, fr_r93 hok, ?_⟩
      refine ⟨fr_k93 hok, ?_⟩
      obtain ⟨c, h⟩ := fg_g_s h
      refine ⟨fr_vp (fr_n93 hok) c, ?_⟩
      refine ⟨ra 94, fr_r94 hok, ?_⟩
      refine ⟨fr_k94 hok, ?_⟩
      obtain ⟨c, h⟩ := fg_g_s h
      refine ⟨fr_vp (fr_n94 hok) c, ?_⟩
      try simp -zeta only [fr_i93 hok, fr_i94 hok]
      obtain ⟨p14, s13, e_s13, h⟩ := fg_b_s h
      refine ft_X12_in hok e_s13 ?_
      refine fg_ite Iff.rfl (fun d => ?_) (fun d => ?_)
      · have h := fg_if_t d h
        unfold w_X12_allows_101
        unfold w_X12_allows_102
        refine ⟨Or.inl rfl, ?_⟩
        obtain ⟨q, q2⟩ := fg_ret h
        subst q
        subst q2
        exact hQ
      · have h := fg_if_e d h
        refine ⟨hok.1, ?_⟩
        refine ⟨ra 92, fr_r92 hok, ?_⟩
        refine ⟨fr_k92 hok, ?_⟩
        obtain ⟨c, h⟩ := fg_g_s h
        refine ⟨fr_vp (fr_n92 hok) c, ?_⟩
        try simp -zeta only [fr_i92 hok]
        obtain ⟨p21, s20, e_s20, h⟩ := fg_b_s h
        refine ft_X12_hasBit hok e_s20 ?_
        refine fg_ite Iff.rfl (fun d => ?_) (fun d => ?_)
        · have h := fg_if_t d h
          unfold w_X12_allows_101
          unfold w_X12_allows_102
          refine ⟨Or.inl rfl, ?_⟩
          obtain ⟨q, q2⟩ := fg_ret h
          subst q
          subst q2
          exact hQ
        · have h := fg_if_e d h
          unfold w_X12_allows_102
          refine ⟨Or.inr rfl, ?_⟩
          obtain ⟨q, q2⟩ := fg_ret h
          subst q
          subst q2
          exact hQ
set_option maxRecDepth 100000 in
set_option maxHeartbeats 4000000 in
theorem ft_X12_allows {o : Nat} {ra : Nat → Nat} {s0 : h_S} (hok : r_ok o ra s0) {Q : Int32 → h_S → Prop} {r : Int32} {t : r_T} {s : r_T} {x1 : Int32} {x2 : Int32} {x3 : Int32} {x4 : Int32} (h : fn_X12_allows x1 x2 x3 x4 s = some (r, t)) (hQ : Q r (r_emb s0 o ra t)) : w_X12_allows o x1 x2 x3 x4 (r_emb s0 o ra s) Q := by
  unfold fn_X12_allows at h
  unfold w_X12_allows
  refine ⟨hok.1, ?_⟩
  refine ⟨ra 91, fr_r91 hok, ?_⟩
  refine ⟨fr_k91 hok, ?_⟩
  obtain ⟨c, h⟩ := fg_g_s h
  refine ⟨fr_vp (fr_n91 hok) c, ?_⟩
  try simp -zeta only [fr_i91 hok]
  refine fg_ite Iff.rfl (fun d => ?_) (fun d => ?_)
  · have h := fg_if_t d h
    try simp -zeta only [fr_i91 hok]
    obtain ⟨p7, s6, e_s6, h⟩ := fg_b_s h
    refine ft_X12_groupAt hok e_s6 ?_
    obtain ⟨p9, s8, e_s8, h⟩ := fg_b_s h
    refine ft_X12_hasBit hok e_s8 ?_
    exact ft_X12_allows_44 hok hQ h
  · have h := fg_if_e d h
    try simp -zeta only [fr_i91 hok]
    refine fg_ite Iff.rfl (fun d => ?_) (fun d => ?_)
    · have h := fg_if_t d h
      exact ft_X12_allows_44 hok hQ h
    · have h := fg_if_e d h
      exact ft_X12_allows_44 hok hQ h
set_option maxRecDepth 100000 in
set_option maxHeartbeats 4000000 in
theorem ft_X12_whyOf_16b {o : Nat} {ra : Nat → Nat} {s0 : h_S} (hok : r_ok o ra s0) {Q : Int32 → h_S → Prop} {r : Int32} {t : r_T} (hQ : Q r (r_emb s0 o ra t)) {K16 : Int32 → Int32 → Int32 → Int32 → Int32 → r_T → Option (Int32 × r_T)} {WK16 : Nat → Int32 → Int32 → Int32 → Int32 → Int32 → h_S → Prop} (hK16 : ∀ (n0 : Int32) (n1 : Int32) (n2 : Int32) (n3 : Int32) (n4 : Int32) (u : r_T), K16 n0 n1 n2 n3 n4 u = some (r, t) → WK16 o n0 n1 n2 n3 n4 (r_emb s0 o ra u)) {s : r_T} {x1 : Int32} {x2 : Int32} {x3 : Int32} {x4 : Int32} {x5 : Int32} (h : fn_X12_whyOf_16b K16 x1 x2 x3 x4 x5 s = some (r, t)) : w_X12_whyOf_16b Q WK16 o x1 x2 x3 x4 x5 (r_emb s0 o ra s) := by
  unfold fn_X12_whyOf_16b at h
  unfold w_X12_whyOf_16b
  refine ⟨hok.1, ?_⟩
  try simp -zeta only [e_io]
  refine fg_ite Iff.rfl (fun d => ?_) (fun d => ?_)
  · have h := fg_if_t d h
    obtain ⟨q, q2⟩ := fg_ret h
    subst q
    subst q2
    exact hQ
  · have h := fg_if_e d h
    refine ⟨ra 90, fr_r90 hok, ?_⟩
    refine ⟨fr_k90 hok, ?_⟩
    obtain ⟨c, h⟩ := fg_g_s h
    refine ⟨fr_vp (fr_n90 hok) c, ?_⟩
    try simp -zeta only [fr_i90 hok]
    refine fg_ite Iff.rfl (fun d => ?_) (fun d => ?_)
    · have h := fg_if_t d h
      obtain ⟨p8, s7, e_s7, h⟩ := fg_b_s h
      refine ft_X12_allows hok e_s7 ?_
      refine fg_ite Iff.rfl (fun d => ?_) (fun d => ?_)
      · have h := fg_if_t d h
        unfold w_X12_whyOf_52
        exact hK16 _ _ _ _ _ _ h
      · have h := fg_if_e d h
        obtain ⟨q, q2⟩ := fg_ret h
        subst q
        subst q2
        exact hQ
    · have h := fg_if_e d h
      unfold w_X12_whyOf_52
      exact hK16 _ _ _ _ _ _ h
set_option maxRecDepth 100000 in
set_option maxHeartbeats 4000000 in
theorem ft_X12_whyOf_16 {o : Nat} {ra : Nat → Nat} {s0 : h_S} (hok : r_ok o ra s0) {Q : Int32 → h_S → Prop} {r : Int32} {t : r_T} (hQ : Q r (r_emb s0 o ra t)) : ∀ (n : Nat) (x1 : Int32) (x2 : Int32) (x3 : Int32) (x4 : Int32) (x5 : Int32) (s : r_T), fn_X12_whyOf_16 n x1 x2 x3 x4 x5 s = some (r, t) → w_X12_whyOf_16 Q n o x1 x2 x3 x4 x5 (r_emb s0 o ra s) := by
  intro n
  induction n with
  | zero => intro x1 x2 x3 x4 x5 s h; exact fg_none h
  | succ n ih =>
    intro x1 x2 x3 x4 x5 s h
    exact ft_X12_whyOf_16b hok hQ ih h
set_option maxRecDepth 100000 in
set_option maxHeartbeats 4000000 in
theorem ft_X12_whyOf {o : Nat} {ra : Nat → Nat} {s0 : h_S} (hok : r_ok o ra s0) {Q : Int32 → h_S → Prop} {r : Int32} {t : r_T} {s : r_T} {x1 : Int32} {x2 : Int32} {x3 : Int32} {x4 : Int32} (h : fn_X12_whyOf x1 x2 x3 x4 s = some (r, t)) (hQ : Q r (r_emb s0 o ra t)) : w_X12_whyOf o x1 x2 x3 x4 (r_emb s0 o ra s) Q := by
  unfold fn_X12_whyOf at h
  unfold w_X12_whyOf
  refine ⟨hok.1, ?_⟩
  refine ⟨ra 9, fr_r9 hok, ?_⟩
  refine ⟨fr_k9 hok, ?_⟩
  obtain ⟨c, h⟩ := fg_g_s h
  refine ⟨fr_vp (fr_n9 hok) c, ?_⟩
  try simp -zeta only [fr_i9 hok]
  refine fg_ite Iff.rfl (fun d => ?_) (fun d => ?_)
  · have h := fg_if_t d h
    obtain ⟨q, q2⟩ := fg_ret h
    subst q
    subst q2
    exact hQ
  · have h := fg_if_e d h
    exact ⟨g_N, ft_X12_whyOf_16 hok hQ g_N _ _ _ _ _ _ h⟩
set_option maxRecDepth 100000 in
set_option maxHeartbeats 4000000 in
theorem ft_X12_seen_52b {o : Nat} {ra : Nat → Nat} {s0 : h_S} (hok : r_ok o ra s0) {Q : Int32 → h_S → Prop} {r : Int32} {t : r_T} (hQ : Q r (r_emb s0 o ra t)) {K52 : Int32 → Int32 → Int32 → Int32 → Int32 → r_T → Option (Int32 × r_T)} {WK52 : Nat → Int32 → Int32 → Int32 → Int32 → Int32 → h_S → Prop} (hK52 : ∀ (n0 : Int32) (n1 : Int32) (n2 : Int32) (n3 : Int32) (n4 : Int32) (u : r_T), K52 n0 n1 n2 n3 n4 u = some (r, t) → WK52 o n0 n1 n2 n3 n4 (r_emb s0 o ra u)) {s : r_T} {x1 : Int32} {x2 : Int32} {x3 : Int32} {x4 : Int32} {x5 : Int32} (h : fn_X12_seen_52b K52 x1 x2 x3 x4 x5 s = some (r, t)) : w_X12_seen_52b Q WK52 o x1 x2 x3 x4 x5 (r_emb s0 o ra s) := by
  unfold fn_X12_seen_52b at h
  unfold w_X12_seen_52b
  refine fg_ite Iff.rfl (fun d => ?_) (fun d => ?_)
  · have h := fg_if_t d h
    refine ⟨hok.1, ?_⟩
    obtain ⟨u_, s3, e_s3, h⟩ := fg_b_s h
    refine ft_X12_open hok e_s3 ?_
    refine ⟨hok.1, ?_⟩
    obtain ⟨p7, s6, e_s6, h⟩ := fg_b_s h
    refine ft_X12_come hok e_s6 ?_
    refine fg_ite Iff.rfl (fun d => ?_) (fun d => ?_)
    · have h := fg_if_t d h
      unfold w_X12_seen_133
      obtain ⟨q, q2⟩ := fg_ret h
      subst q
      subst q2
      exact hQ
    · have h := fg_if_e d h
      refine ⟨hok.1, ?_⟩
      obtain ⟨p11, s10, e_s10, h⟩ := fg_b_s h
      refine ft_X12_shownThen hok e_s10 ?_
      refine ⟨hok.1, ?_⟩
      obtain ⟨p14, s13, e_s13, h⟩ := fg_b_s h
      refine ft_X12_acted hok e_s13 ?_
      unfold w_X12_seen_133
      obtain ⟨q, q2⟩ := fg_ret h
      subst q
      subst q2
      exact hQ
  · have h := fg_if_e d h
    refine ⟨hok.1, ?_⟩
    refine ⟨ra 9, fr_r9 hok, ?_⟩
    refine ⟨fr_k9 hok, ?_⟩
    obtain ⟨c, h⟩ := fg_g_s h
    refine ⟨fr_vp (fr_n9 hok) c, ?_⟩
    refine ⟨ra 25, fr_r25 hok, ?_⟩
    refine ⟨fr_k25 hok, ?_⟩
    obtain ⟨c, h⟩ := fg_g_s h
    refine ⟨fr_vp (fr_n25 hok) c, ?_⟩
    try simp -zeta only [e_io, fr_i9 hok, fr_i25 hok]
    obtain ⟨p23, s22, e_s22, h⟩ := fg_b_s h
    refine ft_X12_whyOf hok e_s22 ?_
    refine fg_ite Iff.rfl (fun d => ?_) (fun d => ?_)
    · have h := fg_if_t d h
      obtain ⟨q, q2⟩ := fg_ret h
      subst q
      subst q2
      exact hQ
    · have h := fg_if_e d h
      exact hK52 _ _ _ _ _ _ h
set_option maxRecDepth 100000 in
set_option maxHeartbeats 4000000 in
theorem ft_X12_seen_52 {o : Nat} {ra : Nat → Nat} {s0 : h_S} (hok : r_ok o ra s0) {Q : Int32 → h_S → Prop} {r : Int32} {t : r_T} (hQ : Q r (r_emb s0 o ra t)) : ∀ (n : Nat) (x1 : Int32) (x2 : Int32) (x3 : Int32) (x4 : Int32) (x5 : Int32) (s : r_T), fn_X12_seen_52 n x1 x2 x3 x4 x5 s = some (r, t) → w_X12_seen_52 Q n o x1 x2 x3 x4 x5 (r_emb s0 o ra s) := by
  intro n
  induction n with
  | zero => intro x1 x2 x3 x4 x5 s h; exact fg_none h
  | succ n ih =>
    intro x1 x2 x3 x4 x5 s h
    exact ft_X12_seen_52b hok hQ ih h
set_option maxRecDepth 100000 in
set_option maxHeartbeats 4000000 in
theorem ft_X12_seen {o : Nat} {ra : Nat → Nat} {s0 : h_S} (hok : r_ok o ra s0) {Q : Int32 → h_S → Prop} {r : Int32} {t : r_T} {s : r_T} {x1 : Int32} {x2 : Int32} {x3 : Int32} {x4 : Int32} (h : fn_X12_seen x1 x2 x3 x4 s = some (r, t)) (hQ : Q r (r_emb s0 o ra t)) : w_X12_seen o x1 x2 x3 x4 (r_emb s0 o ra s) Q := by
  unfold fn_X12_seen at h
  unfold w_X12_seen
  refine ⟨hok.1, ?_⟩
  obtain ⟨p3, s2, e_s2, h⟩ := fg_b_s h
  refine ft_X12_noWriting hok e_s2 ?_
  refine fg_ite Iff.rfl (fun d => ?_) (fun d => ?_)
  · have h := fg_if_t d h
    refine ⟨hok.1, ?_⟩
    obtain ⟨p7, s6, e_s6, h⟩ := fg_b_s h
    refine ft_X12_noPlaceAhead hok e_s6 ?_
    refine fg_ite Iff.rfl (fun d => ?_) (fun d => ?_)
    · have h := fg_if_t d h
      refine fg_ite Iff.rfl (fun d => ?_) (fun d => ?_)
      · have h := fg_if_t d h
        refine fg_ite Iff.rfl (fun d => ?_) (fun d => ?_)
        · have h := fg_if_t d h
          unfold w_X12_seen_47
          obtain ⟨q, q2⟩ := fg_ret h
          subst q
          subst q2
          exact hQ
        · have h := fg_if_e d h
          refine ⟨hok.1, ?_⟩
          try simp -zeta only [e_io]
          refine fg_ite Iff.rfl (fun d => ?_) (fun d => ?_)
          · have h := fg_if_t d h
            exact ⟨g_N, ft_X12_seen_52 hok hQ g_N _ _ _ _ _ _ h⟩
          · have h := fg_if_e d h
            unfold w_X12_seen_47
            obtain ⟨q, q2⟩ := fg_ret h
            subst q
            subst q2
            exact hQ
      · have h := fg_if_e d h
        obtain ⟨q, q2⟩ := fg_ret h
        subst q
        subst q2
        exact hQ
    · have h := fg_if_e d h
      unfold w_X12_seen_17
      obtain ⟨q, q2⟩ := fg_ret h
      subst q
      subst q2
      exact hQ
  · have h := fg_if_e d h
    unfold w_X12_seen_17
    obtain ⟨q, q2⟩ := fg_ret h
    subst q
    subst q2
    exact hQ
set_option maxRecDepth 100000 in
set_option maxHeartbeats 4000000 in
theorem ft_X12_isWindow {o : Nat} {ra : Nat → Nat} {s0 : h_S} (hok : r_ok o ra s0) {Q : Int32 → h_S → Prop} {r : Int32} {t : r_T} {s : r_T} {x0 : Int32} {x1 : Int32} (h : fn_X12_isWindow x0 x1 s = some (r, t)) (hQ : Q r (r_emb s0 o ra t)) : w_X12_isWindow x0 x1 (r_emb s0 o ra s) Q := by
  unfold fn_X12_isWindow at h
  unfold w_X12_isWindow
  obtain ⟨p2, s1, e_s1, h⟩ := fg_b_s h
  refine ft_X12_in hok e_s1 ?_
  refine fg_ite Iff.rfl (fun d => ?_) (fun d => ?_)
  · have h := fg_if_t d h
    unfold w_X12_isWindow_28
    unfold w_X12_isWindow_29
    refine ⟨Or.inl rfl, ?_⟩
    obtain ⟨q, q2⟩ := fg_ret h
    subst q
    subst q2
    exact hQ
  · have h := fg_if_e d h
    obtain ⟨p5, s4, e_s4, h⟩ := fg_b_s h
    refine ft_X12_in hok e_s4 ?_
    refine fg_ite Iff.rfl (fun d => ?_) (fun d => ?_)
    · have h := fg_if_t d h
      unfold w_X12_isWindow_28
      unfold w_X12_isWindow_29
      refine ⟨Or.inl rfl, ?_⟩
      obtain ⟨q, q2⟩ := fg_ret h
      subst q
      subst q2
      exact hQ
    · have h := fg_if_e d h
      unfold w_X12_isWindow_29
      refine ⟨Or.inr rfl, ?_⟩
      obtain ⟨q, q2⟩ := fg_ret h
      subst q
      subst q2
      exact hQ
set_option maxRecDepth 100000 in
set_option maxHeartbeats 4000000 in
theorem ft_X12_span {o : Nat} {ra : Nat → Nat} {s0 : h_S} (hok : r_ok o ra s0) {Q : Int32 → h_S → Prop} {r : Int32} {t : r_T} {s : r_T} {x1 : Int32} {x2 : Int32} {x3 : Int32} {x4 : Int32} {x5 : Int32} {x6 : Int32} (h : fn_X12_span x1 x2 x3 x4 x5 x6 s = some (r, t)) (hQ : Q r (r_emb s0 o ra t)) : w_X12_span o x1 x2 x3 x4 x5 x6 (r_emb s0 o ra s) Q := by
  unfold fn_X12_span at h
  unfold w_X12_span
  refine ⟨hok.1, ?_⟩
  obtain ⟨p3, s2, e_s2, h⟩ := fg_b_s h
  refine ft_X12_noWriting hok e_s2 ?_
  refine fg_ite Iff.rfl (fun d => ?_) (fun d => ?_)
  · have h := fg_if_t d h
    refine ⟨hok.1, ?_⟩
    obtain ⟨p7, s6, e_s6, h⟩ := fg_b_s h
    refine ft_X12_noWriting hok e_s6 ?_
    refine fg_ite Iff.rfl (fun d => ?_) (fun d => ?_)
    · have h := fg_if_t d h
      refine ⟨hok.1, ?_⟩
      obtain ⟨p11, s10, e_s10, h⟩ := fg_b_s h
      refine ft_X12_noPlaceAhead hok e_s10 ?_
      refine fg_ite Iff.rfl (fun d => ?_) (fun d => ?_)
      · have h := fg_if_t d h
        refine ⟨hok.1, ?_⟩
        obtain ⟨p15, s14, e_s14, h⟩ := fg_b_s h
        refine ft_X12_noMoment hok e_s14 ?_
        refine fg_ite Iff.rfl (fun d => ?_) (fun d => ?_)
        · have h := fg_if_t d h
          obtain ⟨p18, s17, e_s17, h⟩ := fg_b_s h
          refine ft_X12_isWindow hok e_s17 ?_
          refine fg_ite Iff.rfl (fun d => ?_) (fun d => ?_)
          · have h := fg_if_t d h
            obtain ⟨q, q2⟩ := fg_ret h
            subst q
            subst q2
            exact hQ
          · have h := fg_if_e d h
            refine ⟨hok.1, ?_⟩
            refine ⟨ra 9, fr_r9 hok, ?_⟩
            refine ⟨fr_k9 hok, ?_⟩
            obtain ⟨c, h⟩ := fg_g_s h
            refine ⟨fr_vp (fr_n9 hok) c, ?_⟩
            try simp -zeta only [e_io, fr_i9 hok]
            obtain ⟨p25, s24, e_s24, h⟩ := fg_b_s h
            refine ft_X12_whyOf hok e_s24 ?_
            refine fg_ite Iff.rfl (fun d => ?_) (fun d => ?_)
            · have h := fg_if_t d h
              obtain ⟨q, q2⟩ := fg_ret h
              subst q
              subst q2
              exact hQ
            · have h := fg_if_e d h
              refine ⟨hok.1, ?_⟩
              obtain ⟨u_, s28, e_s28, h⟩ := fg_b_s h
              refine ft_X12_open hok e_s28 ?_
              refine ⟨hok.1, ?_⟩
              obtain ⟨p32, s31, e_s31, h⟩ := fg_b_s h
              refine ft_X12_come hok e_s31 ?_
              refine fg_ite Iff.rfl (fun d => ?_) (fun d => ?_)
              · have h := fg_if_t d h
                unfold w_X12_span_109
                obtain ⟨q, q2⟩ := fg_ret h
                subst q
                subst q2
                exact hQ
              · have h := fg_if_e d h
                refine ⟨hok.1, ?_⟩
                obtain ⟨p36, s35, e_s35, h⟩ := fg_b_s h
                refine ft_X12_shownThen hok e_s35 ?_
                refine ⟨hok.1, ?_⟩
                obtain ⟨p39, s38, e_s38, h⟩ := fg_b_s h
                refine ft_X12_acted hok e_s38 ?_
                unfold w_X12_span_109
                obtain ⟨q, q2⟩ := fg_ret h
                subst q
                subst q2
                exact hQ
        · have h := fg_if_e d h
          unfold w_X12_span_34
          obtain ⟨q, q2⟩ := fg_ret h
          subst q
          subst q2
          exact hQ
      · have h := fg_if_e d h
        unfold w_X12_span_34
        obtain ⟨q, q2⟩ := fg_ret h
        subst q
        subst q2
        exact hQ
    · have h := fg_if_e d h
      unfold w_X12_span_34
      obtain ⟨q, q2⟩ := fg_ret h
      subst q
      subst q2
      exact hQ
  · have h := fg_if_e d h
    unfold w_X12_span_34
    obtain ⟨q, q2⟩ := fg_ret h
    subst q
    subst q2
    exact hQ
set_option maxRecDepth 100000 in
set_option maxHeartbeats 4000000 in
theorem ft_X12_come2_26 {o : Nat} {ra : Nat → Nat} {s0 : h_S} (hok : r_ok o ra s0) {Q : h_S → Prop} {r : Unit} {t : r_T} (hQ : Q (r_emb s0 o ra t)) {s : r_T} {y0 : Int32} {y1 : Int32} (h : fn_X12_come2_26 y0 y1 s = some (r, t)) : w_X12_come2_26 Q y0 y1 (some (ra 54)) (r_emb s0 o ra s) := by
  unfold fn_X12_come2_26 at h
  unfold w_X12_come2_26
  refine ⟨ra 54, rfl, ?_⟩
  refine ⟨fr_k54 hok, ?_⟩
  obtain ⟨c, h⟩ := fg_g_s h
  refine ⟨fr_vp (fr_n54 hok) c, ?_⟩
  obtain ⟨s4, e_s4, h⟩ := fg_let_s h
  intro S_s4
  have z_s4 : S_s4 = r_emb s0 o ra s4 := by rw [e_s4]; exact fr_s54 hok _ _
  clear_value S_s4
  subst z_s4
  obtain ⟨_, q⟩ := fg_ret h
  subst q
  exact hQ
set_option maxRecDepth 100000 in
set_option maxHeartbeats 4000000 in
theorem ft_X12_come2 {o : Nat} {ra : Nat → Nat} {s0 : h_S} (hok : r_ok o ra s0) {Q : h_S → Prop} {r : Unit} {t : r_T} {s : r_T} {x1 : Int32} {x2 : Int32} (h : fn_X12_come2 x1 x2 s = some (r, t)) (hQ : Q (r_emb s0 o ra t)) : w_X12_come2 o x1 x2 (r_emb s0 o ra s) Q := by
  unfold fn_X12_come2 at h
  unfold w_X12_come2
  refine ⟨hok.1, ?_⟩
  refine ⟨ra 54, fr_r54 hok, ?_⟩
  refine ⟨fr_k54 hok, ?_⟩
  obtain ⟨c, h⟩ := fg_g_s h
  refine ⟨fr_vp (fr_n54 hok) c, ?_⟩
  try simp -zeta only [fr_i54 hok]
  refine fg_ite Iff.rfl (fun d => ?_) (fun d => ?_)
  · have h := fg_if_t d h
    rw [fr_r54 hok]
    exact ft_X12_come2_26 hok hQ h
  · have h := fg_if_e d h
    refine ⟨ra 54, fr_r54 hok, ?_⟩
    refine ⟨fr_k54 hok, ?_⟩
    obtain ⟨c, h⟩ := fg_g_s h
    refine ⟨fr_vp (fr_n54 hok) c, ?_⟩
    try simp -zeta only [fr_i54 hok]
    rw [fr_r54 hok]
    exact ft_X12_come2_26 hok hQ h
set_option maxRecDepth 100000 in
set_option maxHeartbeats 4000000 in
theorem ft_X12_goFrom_84b {o : Nat} {ra : Nat → Nat} {s0 : h_S} (hok : r_ok o ra s0) {Q : h_S → Prop} {r : Unit} {t : r_T} (hQ : Q (r_emb s0 o ra t)) {K14 : Int32 → Int32 → Int32 → Int32 → r_T → Option (Unit × r_T)} {WK14 : Nat → Int32 → Int32 → Int32 → Int32 → h_S → Prop} (hK14 : ∀ (n0 : Int32) (n1 : Int32) (n2 : Int32) (n3 : Int32) (u : r_T), K14 n0 n1 n2 n3 u = some (r, t) → WK14 o n0 n1 n2 n3 (r_emb s0 o ra u)) {K84 : Int32 → Int32 → Int32 → Int32 → Int32 → Int32 → r_T → Option (Unit × r_T)} {WK84 : Nat → Int32 → Int32 → Int32 → Int32 → Int32 → Int32 → h_S → Prop} (hK84 : ∀ (n0 : Int32) (n1 : Int32) (n2 : Int32) (n3 : Int32) (n4 : Int32) (n5 : Int32) (u : r_T), K84 n0 n1 n2 n3 n4 n5 u = some (r, t) → WK84 o n0 n1 n2 n3 n4 n5 (r_emb s0 o ra u)) {s : r_T} {x2 : Int32} {x3 : Int32} {x4 : Int32} {x5 : Int32} {x6 : Int32} {x7 : Int32} (h : fn_X12_goFrom_84b K14 K84 x2 x3 x4 x5 x6 x7 s = some (r, t)) : w_X12_goFrom_84b Q WK14 WK84 o x2 x3 x4 x5 x6 x7 (r_emb s0 o ra s) := by
  unfold fn_X12_goFrom_84b at h
  unfold w_X12_goFrom_84b
  refine ⟨hok.1, ?_⟩
  refine ⟨ra 19, fr_r19 hok, ?_⟩
  refine ⟨fr_k19 hok, ?_⟩
  obtain ⟨c, h⟩ := fg_g_s h
  refine ⟨fr_vp (fr_n19 hok) c, ?_⟩
  try simp -zeta only [fr_i19 hok]
  refine fg_ite Iff.rfl (fun d => ?_) (fun d => ?_)
  · have h := fg_if_t d h
    unfold w_X12_goFrom_137
    exact hK14 _ _ _ _ _ h
  · have h := fg_if_e d h
    refine ⟨ra 17, fr_r17 hok, ?_⟩
    refine ⟨fr_k17 hok, ?_⟩
    obtain ⟨c, h⟩ := fg_g_s h
    refine ⟨fr_vp (fr_n17 hok) c, ?_⟩
    try simp -zeta only [fr_i17 hok]
    refine fg_ite Iff.rfl (fun d => ?_) (fun d => ?_)
    · have h := fg_if_t d h
      refine fg_ite Iff.rfl (fun d => ?_) (fun d => ?_)
      · have h := fg_if_t d h
        refine ⟨ra 18, fr_r18 hok, ?_⟩
        refine ⟨fr_k18 hok, ?_⟩
        obtain ⟨c, h⟩ := fg_g_s h
        refine ⟨fr_vp (fr_n18 hok) c, ?_⟩
        refine ⟨ra 25, fr_r25 hok, ?_⟩
        refine ⟨fr_k25 hok, ?_⟩
        try simp -zeta only [fr_i18 hok]
        obtain ⟨c, h⟩ := fg_g_s h
        refine ⟨fr_vp (fr_n25 hok) c, ?_⟩
        try simp -zeta only [fr_i18 hok, fr_i25 hok]
        obtain ⟨u_, s17, e_s17, h⟩ := fg_b_s h
        refine ft_X12_come2 hok e_s17 ?_
        exact hK84 _ _ _ _ _ _ _ h
      · have h := fg_if_e d h
        unfold w_X12_goFrom_137
        exact hK14 _ _ _ _ _ h
    · have h := fg_if_e d h
      unfold w_X12_goFrom_137
      exact hK14 _ _ _ _ _ h
set_option maxRecDepth 100000 in
set_option maxHeartbeats 4000000 in
theorem ft_X12_goFrom_84 {o : Nat} {ra : Nat → Nat} {s0 : h_S} (hok : r_ok o ra s0) {Q : h_S → Prop} {r : Unit} {t : r_T} (hQ : Q (r_emb s0 o ra t)) {K14 : Int32 → Int32 → Int32 → Int32 → r_T → Option (Unit × r_T)} {WK14 : Nat → Int32 → Int32 → Int32 → Int32 → h_S → Prop} (hK14 : ∀ (n0 : Int32) (n1 : Int32) (n2 : Int32) (n3 : Int32) (u : r_T), K14 n0 n1 n2 n3 u = some (r, t) → WK14 o n0 n1 n2 n3 (r_emb s0 o ra u)) : ∀ (n : Nat) (x2 : Int32) (x3 : Int32) (x4 : Int32) (x5 : Int32) (x6 : Int32) (x7 : Int32) (s : r_T), fn_X12_goFrom_84 K14 n x2 x3 x4 x5 x6 x7 s = some (r, t) → w_X12_goFrom_84 Q WK14 n o x2 x3 x4 x5 x6 x7 (r_emb s0 o ra s) := by
  intro n
  induction n with
  | zero => intro x2 x3 x4 x5 x6 x7 s h; exact fg_none h
  | succ n ih =>
    intro x2 x3 x4 x5 x6 x7 s h
    exact ft_X12_goFrom_84b hok hQ hK14 ih h
set_option maxRecDepth 100000 in
set_option maxHeartbeats 4000000 in
theorem ft_X12_goFrom_81 {o : Nat} {ra : Nat → Nat} {s0 : h_S} (hok : r_ok o ra s0) {Q : h_S → Prop} {r : Unit} {t : r_T} (hQ : Q (r_emb s0 o ra t)) {K14 : Int32 → Int32 → Int32 → Int32 → r_T → Option (Unit × r_T)} {WK14 : Nat → Int32 → Int32 → Int32 → Int32 → h_S → Prop} (hK14 : ∀ (n0 : Int32) (n1 : Int32) (n2 : Int32) (n3 : Int32) (u : r_T), K14 n0 n1 n2 n3 u = some (r, t) → WK14 o n0 n1 n2 n3 (r_emb s0 o ra u)) {s : r_T} {x2 : Int32} {x3 : Int32} {x4 : Int32} {x5 : Int32} {x6 : Int32} (h : fn_X12_goFrom_81 K14 x2 x3 x4 x5 x6 s = some (r, t)) : w_X12_goFrom_81 Q WK14 o x2 x3 x4 x5 x6 (r_emb s0 o ra s) := by
  unfold fn_X12_goFrom_81 at h
  unfold w_X12_goFrom_81
  exact ⟨g_N, ft_X12_goFrom_84 hok hQ hK14 g_N _ _ _ _ _ _ _ h⟩
set_option maxRecDepth 100000 in
set_option maxHeartbeats 4000000 in
theorem ft_X12_goFrom_69 {o : Nat} {ra : Nat → Nat} {s0 : h_S} (hok : r_ok o ra s0) {Q : h_S → Prop} {r : Unit} {t : r_T} (hQ : Q (r_emb s0 o ra t)) {K14 : Int32 → Int32 → Int32 → Int32 → r_T → Option (Unit × r_T)} {WK14 : Nat → Int32 → Int32 → Int32 → Int32 → h_S → Prop} (hK14 : ∀ (n0 : Int32) (n1 : Int32) (n2 : Int32) (n3 : Int32) (u : r_T), K14 n0 n1 n2 n3 u = some (r, t) → WK14 o n0 n1 n2 n3 (r_emb s0 o ra u)) {s : r_T} {x2 : Int32} {x3 : Int32} {x4 : Int32} {x5 : Int32} {x6 : Int32} (h : fn_X12_goFrom_69 K14 x2 x3 x4 x5 x6 s = some (r, t)) : w_X12_goFrom_69 Q WK14 o x2 x3 x4 x5 x6 (r_emb s0 o ra s) := by
  unfold fn_X12_goFrom_69 at h
  unfold w_X12_goFrom_69
  refine ⟨hok.1, ?_⟩
  refine ⟨ra 20, fr_r20 hok, ?_⟩
  refine ⟨fr_k20 hok, ?_⟩
  obtain ⟨c, h⟩ := fg_g_s h
  refine ⟨fr_vp (fr_n20 hok) c, ?_⟩
  try simp -zeta only [fr_i20 hok]
  obtain ⟨u_, s5, e_s5, h⟩ := fg_b_s h
  refine ft_X12_come2 hok e_s5 ?_
  exact ft_X12_goFrom_81 hok hQ hK14 h
set_option maxRecDepth 100000 in
set_option maxHeartbeats 4000000 in
theorem ft_X12_goFrom_14b {o : Nat} {ra : Nat → Nat} {s0 : h_S} (hok : r_ok o ra s0) {Q : h_S → Prop} {r : Unit} {t : r_T} (hQ : Q (r_emb s0 o ra t)) {K14 : Int32 → Int32 → Int32 → Int32 → r_T → Option (Unit × r_T)} {WK14 : Nat → Int32 → Int32 → Int32 → Int32 → h_S → Prop} (hK14 : ∀ (n0 : Int32) (n1 : Int32) (n2 : Int32) (n3 : Int32) (u : r_T), K14 n0 n1 n2 n3 u = some (r, t) → WK14 o n0 n1 n2 n3 (r_emb s0 o ra u)) {s : r_T} {x2 : Int32} {x3 : Int32} {x4 : Int32} {x5 : Int32} (h : fn_X12_goFrom_14b K14 x2 x3 x4 x5 s = some (r, t)) : w_X12_goFrom_14b Q WK14 o x2 x3 x4 x5 (r_emb s0 o ra s) := by
  unfold fn_X12_goFrom_14b at h
  unfold w_X12_goFrom_14b
  refine fg_ite Iff.rfl (fun d => ?_) (fun d => ?_)
  · have h := fg_if_t d h
    unfold w_X12_goFrom_143
    obtain ⟨_, q⟩ := fg_ret h
    subst q
    exact hQ
  · have h := fg_if_e d h
    refine ⟨hok.1, ?_⟩
    refine ⟨ra 15, fr_r15 hok, ?_⟩
    refine ⟨fr_k15 hok, ?_⟩
    obtain ⟨c, h⟩ := fg_g_s h
    refine ⟨fr_vp (fr_n15 hok) c, ?_⟩
    try simp -zeta only [fr_i15 hok]
    refine fg_ite Iff.rfl (fun d => ?_) (fun d => ?_)
    · have h := fg_if_t d h
      unfold w_X12_goFrom_143
      obtain ⟨_, q⟩ := fg_ret h
      subst q
      exact hQ
    · have h := fg_if_e d h
      refine ⟨ra 14, fr_r14 hok, ?_⟩
      refine ⟨fr_k14 hok, ?_⟩
      obtain ⟨c, h⟩ := fg_g_s h
      refine ⟨fr_vp (fr_n14 hok) c, ?_⟩
      refine ⟨ra 17, fr_r17 hok, ?_⟩
      refine ⟨fr_k17 hok, ?_⟩
      try simp -zeta only [fr_i14 hok]
      obtain ⟨c, h⟩ := fg_g_s h
      refine ⟨fr_vp (fr_n17 hok) c, ?_⟩
      try simp -zeta only [fr_i14 hok, fr_i17 hok]
      refine fg_ite Iff.rfl (fun d => ?_) (fun d => ?_)
      · have h := fg_if_t d h
        try simp -zeta only [fr_i14 hok]
        exact ft_X12_goFrom_69 hok hQ hK14 h
      · have h := fg_if_e d h
        refine ⟨ra 17, fr_r17 hok, ?_⟩
        refine ⟨fr_k17 hok, ?_⟩
        try simp -zeta only [fr_i14 hok]
        obtain ⟨c, h⟩ := fg_g_s h
        refine ⟨fr_vp (fr_n17 hok) c, ?_⟩
        try simp -zeta only [fr_i14 hok, fr_i17 hok]
        refine fg_ite Iff.rfl (fun d => ?_) (fun d => ?_)
        · have h := fg_if_t d h
          refine fg_ite Iff.rfl (fun d => ?_) (fun d => ?_)
          · have h := fg_if_t d h
            try simp -zeta only [fr_i14 hok]
            exact ft_X12_goFrom_69 hok hQ hK14 h
          · have h := fg_if_e d h
            try simp -zeta only [fr_i14 hok]
            exact ft_X12_goFrom_81 hok hQ hK14 h
        · have h := fg_if_e d h
          try simp -zeta only [fr_i14 hok]
          exact ft_X12_goFrom_81 hok hQ hK14 h
set_option maxRecDepth 100000 in
set_option maxHeartbeats 4000000 in
theorem ft_X12_goFrom_14 {o : Nat} {ra : Nat → Nat} {s0 : h_S} (hok : r_ok o ra s0) {Q : h_S → Prop} {r : Unit} {t : r_T} (hQ : Q (r_emb s0 o ra t)) : ∀ (n : Nat) (x2 : Int32) (x3 : Int32) (x4 : Int32) (x5 : Int32) (s : r_T), fn_X12_goFrom_14 n x2 x3 x4 x5 s = some (r, t) → w_X12_goFrom_14 Q n o x2 x3 x4 x5 (r_emb s0 o ra s) := by
  intro n
  induction n with
  | zero => intro x2 x3 x4 x5 s h; exact fg_none h
  | succ n ih =>
    intro x2 x3 x4 x5 s h
    exact ft_X12_goFrom_14b hok hQ ih h
set_option maxRecDepth 100000 in
set_option maxHeartbeats 4000000 in
theorem ft_X12_goFrom {o : Nat} {ra : Nat → Nat} {s0 : h_S} (hok : r_ok o ra s0) {Q : h_S → Prop} {r : Unit} {t : r_T} {s : r_T} {x1 : Int32} {x2 : Int32} {x3 : Int32} (h : fn_X12_goFrom x1 x2 x3 s = some (r, t)) (hQ : Q (r_emb s0 o ra t)) : w_X12_goFrom o x1 x2 x3 (r_emb s0 o ra s) Q := by
  unfold fn_X12_goFrom at h
  unfold w_X12_goFrom
  refine ⟨hok.1, ?_⟩
  try simp -zeta only [e_io]
  obtain ⟨p3, s2, e_s2, h⟩ := fg_b_s h
  refine ft_X12_logOf hok e_s2 ?_
  exact ⟨g_N, ft_X12_goFrom_14 hok hQ g_N _ _ _ _ _ h⟩
set_option maxRecDepth 100000 in
set_option maxHeartbeats 4000000 in
theorem ft_X12_laySteps_26 {o : Nat} {ra : Nat → Nat} {s0 : h_S} (hok : r_ok o ra s0) {Q : h_S → Prop} {r : Unit} {t : r_T} (hQ : Q (r_emb s0 o ra t)) {K2 : Int32 → Int32 → Int32 → r_T → Option (Unit × r_T)} {WK2 : Nat → Int32 → Int32 → Int32 → h_S → Prop} (hK2 : ∀ (n0 : Int32) (n1 : Int32) (n2 : Int32) (u : r_T), K2 n0 n1 n2 u = some (r, t) → WK2 o n0 n1 n2 (r_emb s0 o ra u)) {s : r_T} {x1 : Int32} {x2 : Int32} {x3 : Int32} {y0 : Int32} {y1 : Int32} (h : fn_X12_laySteps_26 K2 x1 x2 x3 y0 y1 s = some (r, t)) : w_X12_laySteps_26 Q WK2 o x1 x2 x3 y0 y1 (some (ra 54)) (r_emb s0 o ra s) := by
  unfold fn_X12_laySteps_26 at h
  unfold w_X12_laySteps_26
  refine ⟨ra 54, rfl, ?_⟩
  refine ⟨fr_k54 hok, ?_⟩
  obtain ⟨c, h⟩ := fg_g_s h
  refine ⟨fr_vp (fr_n54 hok) c, ?_⟩
  obtain ⟨s4, e_s4, h⟩ := fg_let_s h
  intro S_s4
  have z_s4 : S_s4 = r_emb s0 o ra s4 := by rw [e_s4]; exact fr_s54 hok _ _
  clear_value S_s4
  subst z_s4
  exact hK2 _ _ _ _ h
set_option maxRecDepth 100000 in
set_option maxHeartbeats 4000000 in
theorem ft_X12_laySteps_46b {o : Nat} {ra : Nat → Nat} {s0 : h_S} (hok : r_ok o ra s0) {Q : h_S → Prop} {r : Unit} {t : r_T} (hQ : Q (r_emb s0 o ra t)) {K35 : Int32 → Int32 → r_T → Option (Unit × r_T)} {WK35 : Nat → Int32 → Int32 → h_S → Prop} (hK35 : ∀ (n0 : Int32) (n1 : Int32) (u : r_T), K35 n0 n1 u = some (r, t) → WK35 o n0 n1 (r_emb s0 o ra u)) {K46 : Int32 → Int32 → Int32 → r_T → Option (Unit × r_T)} {WK46 : Nat → Int32 → Int32 → Int32 → h_S → Prop} (hK46 : ∀ (n0 : Int32) (n1 : Int32) (n2 : Int32) (u : r_T), K46 n0 n1 n2 u = some (r, t) → WK46 o n0 n1 n2 (r_emb s0 o ra u)) {s : r_T} {x2 : Int32} {x3 : Int32} {x4 : Int32} (h : fn_X12_laySteps_46b K35 K46 x2 x3 x4 s = some (r, t)) : w_X12_laySteps_46b Q WK35 WK46 o x2 x3 x4 (r_emb s0 o ra s) := by
  unfold fn_X12_laySteps_46b at h
  unfold w_X12_laySteps_46b
  refine ⟨hok.1, ?_⟩
  try simp -zeta only [e_io]
  refine fg_ite Iff.rfl (fun d => ?_) (fun d => ?_)
  · have h := fg_if_t d h
    exact hK35 _ _ _ h
  · have h := fg_if_e d h
    refine ⟨ra 54, fr_r54 hok, ?_⟩
    refine ⟨fr_k54 hok, ?_⟩
    obtain ⟨c, h⟩ := fg_g_s h
    refine ⟨fr_vp (fr_n54 hok) c, ?_⟩
    try simp -zeta only [fr_i54 hok]
    refine fg_ite Iff.rfl (fun d => ?_) (fun d => ?_)
    · have h := fg_if_t d h
      obtain ⟨u_, s7, e_s7, h⟩ := fg_b_s h
      refine ft_X12_goFrom hok e_s7 ?_
      unfold w_X12_laySteps_76
      exact hK46 _ _ _ _ h
    · have h := fg_if_e d h
      unfold w_X12_laySteps_76
      exact hK46 _ _ _ _ h
set_option maxRecDepth 100000 in
set_option maxHeartbeats 4000000 in
theorem ft_X12_laySteps_46 {o : Nat} {ra : Nat → Nat} {s0 : h_S} (hok : r_ok o ra s0) {Q : h_S → Prop} {r : Unit} {t : r_T} (hQ : Q (r_emb s0 o ra t)) {K35 : Int32 → Int32 → r_T → Option (Unit × r_T)} {WK35 : Nat → Int32 → Int32 → h_S → Prop} (hK35 : ∀ (n0 : Int32) (n1 : Int32) (u : r_T), K35 n0 n1 u = some (r, t) → WK35 o n0 n1 (r_emb s0 o ra u)) : ∀ (n : Nat) (x2 : Int32) (x3 : Int32) (x4 : Int32) (s : r_T), fn_X12_laySteps_46 K35 n x2 x3 x4 s = some (r, t) → w_X12_laySteps_46 Q WK35 n o x2 x3 x4 (r_emb s0 o ra s) := by
  intro n
  induction n with
  | zero => intro x2 x3 x4 s h; exact fg_none h
  | succ n ih =>
    intro x2 x3 x4 s h
    exact ft_X12_laySteps_46b hok hQ hK35 ih h
set_option maxRecDepth 100000 in
set_option maxHeartbeats 4000000 in
theorem ft_X12_laySteps_35b {o : Nat} {ra : Nat → Nat} {s0 : h_S} (hok : r_ok o ra s0) {Q : h_S → Prop} {r : Unit} {t : r_T} (hQ : Q (r_emb s0 o ra t)) {K35 : Int32 → Int32 → r_T → Option (Unit × r_T)} {WK35 : Nat → Int32 → Int32 → h_S → Prop} (hK35 : ∀ (n0 : Int32) (n1 : Int32) (u : r_T), K35 n0 n1 u = some (r, t) → WK35 o n0 n1 (r_emb s0 o ra u)) {s : r_T} {x2 : Int32} {x3 : Int32} (h : fn_X12_laySteps_35b K35 x2 x3 s = some (r, t)) : w_X12_laySteps_35b Q WK35 o x2 x3 (r_emb s0 o ra s) := by
  unfold fn_X12_laySteps_35b at h
  unfold w_X12_laySteps_35b
  refine ⟨hok.1, ?_⟩
  try simp -zeta only [e_io]
  refine fg_ite Iff.rfl (fun d => ?_) (fun d => ?_)
  · have h := fg_if_t d h
    obtain ⟨_, q⟩ := fg_ret h
    subst q
    exact hQ
  · have h := fg_if_e d h
    exact ⟨g_N, ft_X12_laySteps_46 hok hQ hK35 g_N _ _ _ _ h⟩
set_option maxRecDepth 100000 in
set_option maxHeartbeats 4000000 in
theorem ft_X12_laySteps_35 {o : Nat} {ra : Nat → Nat} {s0 : h_S} (hok : r_ok o ra s0) {Q : h_S → Prop} {r : Unit} {t : r_T} (hQ : Q (r_emb s0 o ra t)) : ∀ (n : Nat) (x2 : Int32) (x3 : Int32) (s : r_T), fn_X12_laySteps_35 n x2 x3 s = some (r, t) → w_X12_laySteps_35 Q n o x2 x3 (r_emb s0 o ra s) := by
  intro n
  induction n with
  | zero => intro x2 x3 s h; exact fg_none h
  | succ n ih =>
    intro x2 x3 s h
    exact ft_X12_laySteps_35b hok hQ ih h
set_option maxRecDepth 100000 in
set_option maxHeartbeats 4000000 in
theorem ft_X12_laySteps_2b {o : Nat} {ra : Nat → Nat} {s0 : h_S} (hok : r_ok o ra s0) {Q : h_S → Prop} {r : Unit} {t : r_T} (hQ : Q (r_emb s0 o ra t)) {K2 : Int32 → Int32 → Int32 → r_T → Option (Unit × r_T)} {WK2 : Nat → Int32 → Int32 → Int32 → h_S → Prop} (hK2 : ∀ (n0 : Int32) (n1 : Int32) (n2 : Int32) (u : r_T), K2 n0 n1 n2 u = some (r, t) → WK2 o n0 n1 n2 (r_emb s0 o ra u)) {s : r_T} {x1 : Int32} {x2 : Int32} {x3 : Int32} (h : fn_X12_laySteps_2b K2 x1 x2 x3 s = some (r, t)) : w_X12_laySteps_2b Q WK2 o x1 x2 x3 (r_emb s0 o ra s) := by
  unfold fn_X12_laySteps_2b at h
  unfold w_X12_laySteps_2b
  refine ⟨hok.1, ?_⟩
  try simp -zeta only [e_io]
  refine fg_ite Iff.rfl (fun d => ?_) (fun d => ?_)
  · have h := fg_if_t d h
    exact ⟨g_N, ft_X12_laySteps_35 hok hQ g_N _ _ _ h⟩
  · have h := fg_if_e d h
    refine fg_ite Iff.rfl (fun d => ?_) (fun d => ?_)
    · have h := fg_if_t d h
      rw [fr_r54 hok]
      exact ft_X12_laySteps_26 hok hQ hK2 h
    · have h := fg_if_e d h
      rw [fr_r54 hok]
      exact ft_X12_laySteps_26 hok hQ hK2 h
set_option maxRecDepth 100000 in
set_option maxHeartbeats 4000000 in
theorem ft_X12_laySteps_2 {o : Nat} {ra : Nat → Nat} {s0 : h_S} (hok : r_ok o ra s0) {Q : h_S → Prop} {r : Unit} {t : r_T} (hQ : Q (r_emb s0 o ra t)) : ∀ (n : Nat) (x1 : Int32) (x2 : Int32) (x3 : Int32) (s : r_T), fn_X12_laySteps_2 n x1 x2 x3 s = some (r, t) → w_X12_laySteps_2 Q n o x1 x2 x3 (r_emb s0 o ra s) := by
  intro n
  induction n with
  | zero => intro x1 x2 x3 s h; exact fg_none h
  | succ n ih =>
    intro x1 x2 x3 s h
    exact ft_X12_laySteps_2b hok hQ ih h
set_option maxRecDepth 100000 in
set_option maxHeartbeats 4000000 in
theorem ft_X12_laySteps {o : Nat} {ra : Nat → Nat} {s0 : h_S} (hok : r_ok o ra s0) {Q : h_S → Prop} {r : Unit} {t : r_T} {s : r_T} {x1 : Int32} {x2 : Int32} (h : fn_X12_laySteps x1 x2 s = some (r, t)) (hQ : Q (r_emb s0 o ra t)) : w_X12_laySteps o x1 x2 (r_emb s0 o ra s) Q := by
  unfold fn_X12_laySteps at h
  unfold w_X12_laySteps
  exact ⟨g_N, ft_X12_laySteps_2 hok hQ g_N _ _ _ _ h⟩
set_option maxRecDepth 100000 in
set_option maxHeartbeats 4000000 in
theorem ft_X12_live {o : Nat} {ra : Nat → Nat} {s0 : h_S} (hok : r_ok o ra s0) {Q : Int32 → h_S → Prop} {r : Int32} {t : r_T} {s : r_T} {x1 : Int32} {x2 : Int32} {x3 : Int32} {x4 : Int32} {x5 : Int32} (h : fn_X12_live x1 x2 x3 x4 x5 s = some (r, t)) (hQ : Q r (r_emb s0 o ra t)) : w_X12_live o x1 x2 x3 x4 x5 (r_emb s0 o ra s) Q := by
  unfold fn_X12_live at h
  unfold w_X12_live
  refine ⟨hok.1, ?_⟩
  obtain ⟨p3, s2, e_s2, h⟩ := fg_b_s h
  refine ft_X12_noWriting hok e_s2 ?_
  refine fg_ite Iff.rfl (fun d => ?_) (fun d => ?_)
  · have h := fg_if_t d h
    refine ⟨hok.1, ?_⟩
    obtain ⟨p7, s6, e_s6, h⟩ := fg_b_s h
    refine ft_X12_noWriting hok e_s6 ?_
    refine fg_ite Iff.rfl (fun d => ?_) (fun d => ?_)
    · have h := fg_if_t d h
      refine ⟨hok.1, ?_⟩
      obtain ⟨p11, s10, e_s10, h⟩ := fg_b_s h
      refine ft_X12_noPlaceAhead hok e_s10 ?_
      refine fg_ite Iff.rfl (fun d => ?_) (fun d => ?_)
      · have h := fg_if_t d h
        obtain ⟨p14, s13, e_s13, h⟩ := fg_b_s h
        refine ft_X12_isWindow hok e_s13 ?_
        refine fg_ite Iff.rfl (fun d => ?_) (fun d => ?_)
        · have h := fg_if_t d h
          obtain ⟨q, q2⟩ := fg_ret h
          subst q
          subst q2
          exact hQ
        · have h := fg_if_e d h
          refine ⟨hok.1, ?_⟩
          refine ⟨ra 9, fr_r9 hok, ?_⟩
          refine ⟨fr_k9 hok, ?_⟩
          obtain ⟨c, h⟩ := fg_g_s h
          refine ⟨fr_vp (fr_n9 hok) c, ?_⟩
          try simp -zeta only [e_io, fr_i9 hok]
          obtain ⟨p21, s20, e_s20, h⟩ := fg_b_s h
          refine ft_X12_whyOf hok e_s20 ?_
          refine fg_ite Iff.rfl (fun d => ?_) (fun d => ?_)
          · have h := fg_if_t d h
            obtain ⟨q, q2⟩ := fg_ret h
            subst q
            subst q2
            exact hQ
          · have h := fg_if_e d h
            refine ⟨hok.1, ?_⟩
            obtain ⟨u_, s24, e_s24, h⟩ := fg_b_s h
            refine ft_X12_laySteps hok e_s24 ?_
            refine ⟨hok.1, ?_⟩
            refine ⟨ra 54, fr_r54 hok, ?_⟩
            refine ⟨fr_k54 hok, ?_⟩
            obtain ⟨c, h⟩ := fg_g_s h
            refine ⟨fr_vp (fr_n54 hok) c, ?_⟩
            try simp -zeta only [fr_i54 hok]
            refine fg_ite Iff.rfl (fun d => ?_) (fun d => ?_)
            · have h := fg_if_t d h
              obtain ⟨u_, s31, e_s31, h⟩ := fg_b_s h
              refine ft_X12_open hok e_s31 ?_
              refine ⟨hok.1, ?_⟩
              obtain ⟨p35, s34, e_s34, h⟩ := fg_b_s h
              refine ft_X12_come hok e_s34 ?_
              refine fg_ite Iff.rfl (fun d => ?_) (fun d => ?_)
              · have h := fg_if_t d h
                unfold w_X12_live_125
                obtain ⟨q, q2⟩ := fg_ret h
                subst q
                subst q2
                exact hQ
              · have h := fg_if_e d h
                refine ⟨hok.1, ?_⟩
                obtain ⟨p39, s38, e_s38, h⟩ := fg_b_s h
                refine ft_X12_shownThen hok e_s38 ?_
                refine ⟨hok.1, ?_⟩
                obtain ⟨p42, s41, e_s41, h⟩ := fg_b_s h
                refine ft_X12_acted hok e_s41 ?_
                unfold w_X12_live_125
                obtain ⟨q, q2⟩ := fg_ret h
                subst q
                subst q2
                exact hQ
            · have h := fg_if_e d h
              refine ⟨ra 54, fr_r54 hok, ?_⟩
              refine ⟨fr_k54 hok, ?_⟩
              obtain ⟨c, h⟩ := fg_g_s h
              refine ⟨fr_vp (fr_n54 hok) c, ?_⟩
              try simp -zeta only [fr_i54 hok]
              obtain ⟨q, q2⟩ := fg_ret h
              subst q
              subst q2
              exact hQ
      · have h := fg_if_e d h
        unfold w_X12_live_25
        obtain ⟨q, q2⟩ := fg_ret h
        subst q
        subst q2
        exact hQ
    · have h := fg_if_e d h
      unfold w_X12_live_25
      obtain ⟨q, q2⟩ := fg_ret h
      subst q
      subst q2
      exact hQ
  · have h := fg_if_e d h
    unfold w_X12_live_25
    obtain ⟨q, q2⟩ := fg_ret h
    subst q
    subst q2
    exact hQ
set_option maxRecDepth 100000 in
set_option maxHeartbeats 4000000 in
theorem ft_X12_noPlaces {o : Nat} {ra : Nat → Nat} {s0 : h_S} (hok : r_ok o ra s0) {Q : Int32 → h_S → Prop} {r : Int32} {t : r_T} {s : r_T} {x1 : Int32} {x2 : Int32} {x3 : Int32} (h : fn_X12_noPlaces x1 x2 x3 s = some (r, t)) (hQ : Q r (r_emb s0 o ra t)) : w_X12_noPlaces o x1 x2 x3 (r_emb s0 o ra s) Q := by
  unfold fn_X12_noPlaces at h
  unfold w_X12_noPlaces
  refine ⟨hok.1, ?_⟩
  obtain ⟨p3, s2, e_s2, h⟩ := fg_b_s h
  refine ft_X12_noWriting hok e_s2 ?_
  refine fg_ite Iff.rfl (fun d => ?_) (fun d => ?_)
  · have h := fg_if_t d h
    refine ⟨hok.1, ?_⟩
    obtain ⟨u_, s6, e_s6, h⟩ := fg_b_s h
    refine ft_X12_open hok e_s6 ?_
    refine ⟨hok.1, ?_⟩
    try simp -zeta only [e_io]
    obtain ⟨p10, s9, e_s9, h⟩ := fg_b_s h
    refine ft_X12_in hok e_s9 ?_
    refine fg_ite Iff.rfl (fun d => ?_) (fun d => ?_)
    · have h := fg_if_t d h
      unfold w_X12_noPlaces_57
      obtain ⟨q, q2⟩ := fg_ret h
      subst q
      subst q2
      exact hQ
    · have h := fg_if_e d h
      refine ⟨hok.1, ?_⟩
      try simp -zeta only [e_io]
      obtain ⟨p14, s13, e_s13, h⟩ := fg_b_s h
      refine ft_X12_in hok e_s13 ?_
      refine fg_ite Iff.rfl (fun d => ?_) (fun d => ?_)
      · have h := fg_if_t d h
        unfold w_X12_noPlaces_57
        obtain ⟨q, q2⟩ := fg_ret h
        subst q
        subst q2
        exact hQ
      · have h := fg_if_e d h
        unfold w_X12_noPlaces_57
        obtain ⟨q, q2⟩ := fg_ret h
        subst q
        subst q2
        exact hQ
  · have h := fg_if_e d h
    obtain ⟨q, q2⟩ := fg_ret h
    subst q
    subst q2
    exact hQ
set_option maxRecDepth 100000 in
set_option maxHeartbeats 4000000 in
theorem ft_X12_cut {o : Nat} {ra : Nat → Nat} {s0 : h_S} (hok : r_ok o ra s0) {Q : Int32 → h_S → Prop} {r : Int32} {t : r_T} {s : r_T} {x1 : Int32} {x2 : Int32} {x3 : Int32} (h : fn_X12_cut x1 x2 x3 s = some (r, t)) (hQ : Q r (r_emb s0 o ra t)) : w_X12_cut o x1 x2 x3 (r_emb s0 o ra s) Q := by
  unfold fn_X12_cut at h
  unfold w_X12_cut
  refine ⟨hok.1, ?_⟩
  obtain ⟨p3, s2, e_s2, h⟩ := fg_b_s h
  refine ft_X12_noPlaces hok e_s2 ?_
  refine fg_ite Iff.rfl (fun d => ?_) (fun d => ?_)
  · have h := fg_if_t d h
    refine ⟨hok.1, ?_⟩
    obtain ⟨u_, s6, e_s6, h⟩ := fg_b_s h
    refine ft_X12_takeOut hok e_s6 ?_
    refine ⟨hok.1, ?_⟩
    obtain ⟨p10, s9, e_s9, h⟩ := fg_b_s h
    refine ft_X12_store hok e_s9 ?_
    refine fg_ite Iff.rfl (fun d => ?_) (fun d => ?_)
    · have h := fg_if_t d h
      unfold w_X12_cut_45
      obtain ⟨q, q2⟩ := fg_ret h
      subst q
      subst q2
      exact hQ
    · have h := fg_if_e d h
      refine ⟨hok.1, ?_⟩
      obtain ⟨p14, s13, e_s13, h⟩ := fg_b_s h
      refine ft_X12_shownThen hok e_s13 ?_
      refine ⟨hok.1, ?_⟩
      obtain ⟨p17, s16, e_s16, h⟩ := fg_b_s h
      refine ft_X12_acted hok e_s16 ?_
      unfold w_X12_cut_45
      obtain ⟨q, q2⟩ := fg_ret h
      subst q
      subst q2
      exact hQ
  · have h := fg_if_e d h
    obtain ⟨q, q2⟩ := fg_ret h
    subst q
    subst q2
    exact hQ
set_option maxRecDepth 100000 in
set_option maxHeartbeats 4000000 in
theorem ft_X12_layRow_28b {o : Nat} {ra : Nat → Nat} {s0 : h_S} (hok : r_ok o ra s0) {Q : h_S → Prop} {r : Unit} {t : r_T} (hQ : Q (r_emb s0 o ra t)) {K28 : Int32 → Int32 → r_T → Option (Unit × r_T)} {WK28 : Nat → Int32 → Int32 → h_S → Prop} (hK28 : ∀ (n0 : Int32) (n1 : Int32) (u : r_T), K28 n0 n1 u = some (r, t) → WK28 o n0 n1 (r_emb s0 o ra u)) {s : r_T} {x1 : Int32} {x2 : Int32} (h : fn_X12_layRow_28b K28 x1 x2 s = some (r, t)) : w_X12_layRow_28b Q WK28 o x1 x2 (r_emb s0 o ra s) := by
  unfold fn_X12_layRow_28b at h
  unfold w_X12_layRow_28b
  refine ⟨hok.1, ?_⟩
  try simp -zeta only [e_io]
  refine fg_ite Iff.rfl (fun d => ?_) (fun d => ?_)
  · have h := fg_if_t d h
    try simp -zeta only [e_io]
    obtain ⟨u_, s3, e_s3, h⟩ := fg_b_s h
    refine ft_X12_layLog hok e_s3 ?_
    refine ⟨hok.1, ?_⟩
    obtain ⟨u_, s6, e_s6, h⟩ := fg_b_s h
    refine ft_X12_bound hok e_s6 ?_
    obtain ⟨_, q⟩ := fg_ret h
    subst q
    exact hQ
  · have h := fg_if_e d h
    refine ⟨ra 41, fr_r41 hok, ?_⟩
    refine ⟨fr_k41 hok, ?_⟩
    obtain ⟨c, h⟩ := fg_g_s h
    refine ⟨fr_vp (fr_n41 hok) c, ?_⟩
    refine ⟨ra 17, fr_r17 hok, ?_⟩
    refine ⟨fr_k17 hok, ?_⟩
    try simp -zeta only [e_io]
    obtain ⟨c, h⟩ := fg_g_s h
    refine ⟨fr_vp (fr_n17 hok) c, ?_⟩
    try simp -zeta only [e_io, fr_i41 hok]
    obtain ⟨s14, e_s14, h⟩ := fg_let_s h
    intro S_s14
    have z_s14 : S_s14 = r_emb s0 o ra s14 := by rw [e_s14]; exact fr_s17 hok _ _
    clear_value S_s14
    subst z_s14
    refine ⟨ra 42, fr_r42 hok, ?_⟩
    refine ⟨fr_k42 hok, ?_⟩
    obtain ⟨c, h⟩ := fg_g_s h
    refine ⟨fr_vp (fr_n42 hok) c, ?_⟩
    refine ⟨ra 18, fr_r18 hok, ?_⟩
    refine ⟨fr_k18 hok, ?_⟩
    try simp -zeta only [e_io]
    obtain ⟨c, h⟩ := fg_g_s h
    refine ⟨fr_vp (fr_n18 hok) c, ?_⟩
    try simp -zeta only [e_io, fr_i42 hok]
    obtain ⟨s21, e_s21, h⟩ := fg_let_s h
    intro S_s21
    have z_s21 : S_s21 = r_emb s0 o ra s21 := by rw [e_s21]; exact fr_s18 hok _ _
    clear_value S_s21
    subst z_s21
    refine ⟨ra 43, fr_r43 hok, ?_⟩
    refine ⟨fr_k43 hok, ?_⟩
    obtain ⟨c, h⟩ := fg_g_s h
    refine ⟨fr_vp (fr_n43 hok) c, ?_⟩
    refine ⟨ra 19, fr_r19 hok, ?_⟩
    refine ⟨fr_k19 hok, ?_⟩
    try simp -zeta only [e_io]
    obtain ⟨c, h⟩ := fg_g_s h
    refine ⟨fr_vp (fr_n19 hok) c, ?_⟩
    try simp -zeta only [e_io, fr_i43 hok]
    obtain ⟨s28, e_s28, h⟩ := fg_let_s h
    intro S_s28
    have z_s28 : S_s28 = r_emb s0 o ra s28 := by rw [e_s28]; exact fr_s19 hok _ _
    clear_value S_s28
    subst z_s28
    refine ⟨ra 44, fr_r44 hok, ?_⟩
    refine ⟨fr_k44 hok, ?_⟩
    obtain ⟨c, h⟩ := fg_g_s h
    refine ⟨fr_vp (fr_n44 hok) c, ?_⟩
    refine ⟨ra 20, fr_r20 hok, ?_⟩
    refine ⟨fr_k20 hok, ?_⟩
    try simp -zeta only [e_io]
    obtain ⟨c, h⟩ := fg_g_s h
    refine ⟨fr_vp (fr_n20 hok) c, ?_⟩
    try simp -zeta only [e_io, fr_i44 hok]
    obtain ⟨s35, e_s35, h⟩ := fg_let_s h
    intro S_s35
    have z_s35 : S_s35 = r_emb s0 o ra s35 := by rw [e_s35]; exact fr_s20 hok _ _
    clear_value S_s35
    subst z_s35
    refine ⟨ra 45, fr_r45 hok, ?_⟩
    refine ⟨fr_k45 hok, ?_⟩
    obtain ⟨c, h⟩ := fg_g_s h
    refine ⟨fr_vp (fr_n45 hok) c, ?_⟩
    refine ⟨ra 21, fr_r21 hok, ?_⟩
    refine ⟨fr_k21 hok, ?_⟩
    try simp -zeta only [e_io]
    obtain ⟨c, h⟩ := fg_g_s h
    refine ⟨fr_vp (fr_n21 hok) c, ?_⟩
    try simp -zeta only [e_io, fr_i45 hok]
    obtain ⟨s42, e_s42, h⟩ := fg_let_s h
    intro S_s42
    have z_s42 : S_s42 = r_emb s0 o ra s42 := by rw [e_s42]; exact fr_s21 hok _ _
    clear_value S_s42
    subst z_s42
    exact hK28 _ _ _ h
set_option maxRecDepth 100000 in
set_option maxHeartbeats 4000000 in
theorem ft_X12_layRow_28 {o : Nat} {ra : Nat → Nat} {s0 : h_S} (hok : r_ok o ra s0) {Q : h_S → Prop} {r : Unit} {t : r_T} (hQ : Q (r_emb s0 o ra t)) : ∀ (n : Nat) (x1 : Int32) (x2 : Int32) (s : r_T), fn_X12_layRow_28 n x1 x2 s = some (r, t) → w_X12_layRow_28 Q n o x1 x2 (r_emb s0 o ra s) := by
  intro n
  induction n with
  | zero => intro x1 x2 s h; exact fg_none h
  | succ n ih =>
    intro x1 x2 s h
    exact ft_X12_layRow_28b hok hQ ih h
set_option maxRecDepth 100000 in
set_option maxHeartbeats 4000000 in
theorem ft_X12_layRow {o : Nat} {ra : Nat → Nat} {s0 : h_S} (hok : r_ok o ra s0) {Q : h_S → Prop} {r : Unit} {t : r_T} {s : r_T} {x1 : Int32} (h : fn_X12_layRow x1 s = some (r, t)) (hQ : Q (r_emb s0 o ra t)) : w_X12_layRow o x1 (r_emb s0 o ra s) Q := by
  unfold fn_X12_layRow at h
  unfold w_X12_layRow
  refine ⟨hok.1, ?_⟩
  refine ⟨ra 14, fr_r14 hok, ?_⟩
  refine ⟨fr_k14 hok, ?_⟩
  try simp -zeta only [e_io]
  obtain ⟨c, h⟩ := fg_g_s h
  refine ⟨fr_vp (fr_n14 hok) c, ?_⟩
  try simp -zeta only [e_io]
  obtain ⟨s5, e_s5, h⟩ := fg_let_s h
  intro S_s5
  have z_s5 : S_s5 = r_emb s0 o ra s5 := by rw [e_s5]; exact fr_s14 hok _ _
  clear_value S_s5
  subst z_s5
  refine ⟨ra 15, fr_r15 hok, ?_⟩
  refine ⟨fr_k15 hok, ?_⟩
  try simp -zeta only [e_io]
  obtain ⟨c, h⟩ := fg_g_s h
  refine ⟨fr_vp (fr_n15 hok) c, ?_⟩
  try simp -zeta only [e_io]
  obtain ⟨s9, e_s9, h⟩ := fg_let_s h
  intro S_s9
  have z_s9 : S_s9 = r_emb s0 o ra s9 := by rw [e_s9]; exact fr_s15 hok _ _
  clear_value S_s9
  subst z_s9
  exact ⟨g_N, ft_X12_layRow_28 hok hQ g_N _ _ _ h⟩
set_option maxRecDepth 100000 in
set_option maxHeartbeats 4000000 in
theorem ft_X12_move_102b {o : Nat} {ra : Nat → Nat} {s0 : h_S} (hok : r_ok o ra s0) {Q : Int32 → h_S → Prop} {r : Int32} {t : r_T} (hQ : Q r (r_emb s0 o ra t)) {K102 : Int32 → Int32 → Int32 → r_T → Option (Int32 × r_T)} {WK102 : Nat → Int32 → Int32 → Int32 → h_S → Prop} (hK102 : ∀ (n0 : Int32) (n1 : Int32) (n2 : Int32) (u : r_T), K102 n0 n1 n2 u = some (r, t) → WK102 o n0 n1 n2 (r_emb s0 o ra u)) {s : r_T} {x1 : Int32} {x6 : Int32} {x7 : Int32} (h : fn_X12_move_102b K102 x1 x6 x7 s = some (r, t)) : w_X12_move_102b Q WK102 o x1 x6 x7 (r_emb s0 o ra s) := by
  unfold fn_X12_move_102b at h
  unfold w_X12_move_102b
  refine ⟨hok.1, ?_⟩
  try simp -zeta only [e_io]
  refine fg_ite Iff.rfl (fun d => ?_) (fun d => ?_)
  · have h := fg_if_t d h
    obtain ⟨p4, s3, e_s3, h⟩ := fg_b_s h
    refine ft_X12_store hok e_s3 ?_
    refine fg_ite Iff.rfl (fun d => ?_) (fun d => ?_)
    · have h := fg_if_t d h
      unfold w_X12_move_186
      obtain ⟨q, q2⟩ := fg_ret h
      subst q
      subst q2
      exact hQ
    · have h := fg_if_e d h
      refine ⟨hok.1, ?_⟩
      try simp -zeta only [e_io]
      obtain ⟨p8, s7, e_s7, h⟩ := fg_b_s h
      refine ft_X12_acted hok e_s7 ?_
      unfold w_X12_move_186
      obtain ⟨q, q2⟩ := fg_ret h
      subst q
      subst q2
      exact hQ
  · have h := fg_if_e d h
    refine ⟨ra 49, fr_r49 hok, ?_⟩
    refine ⟨fr_k49 hok, ?_⟩
    obtain ⟨c, h⟩ := fg_g_s h
    refine ⟨fr_vp (fr_n49 hok) c, ?_⟩
    refine ⟨ra 50, fr_r50 hok, ?_⟩
    refine ⟨fr_k50 hok, ?_⟩
    obtain ⟨c, h⟩ := fg_g_s h
    refine ⟨fr_vp (fr_n50 hok) c, ?_⟩
    refine ⟨ra 51, fr_r51 hok, ?_⟩
    refine ⟨fr_k51 hok, ?_⟩
    obtain ⟨c, h⟩ := fg_g_s h
    refine ⟨fr_vp (fr_n51 hok) c, ?_⟩
    refine ⟨ra 52, fr_r52 hok, ?_⟩
    refine ⟨fr_k52 hok, ?_⟩
    obtain ⟨c, h⟩ := fg_g_s h
    refine ⟨fr_vp (fr_n52 hok) c, ?_⟩
    refine ⟨ra 53, fr_r53 hok, ?_⟩
    refine ⟨fr_k53 hok, ?_⟩
    obtain ⟨c, h⟩ := fg_g_s h
    refine ⟨fr_vp (fr_n53 hok) c, ?_⟩
    try simp -zeta only [fr_i49 hok, fr_i50 hok, fr_i51 hok, fr_i52 hok, fr_i53 hok]
    obtain ⟨u_, s24, e_s24, h⟩ := fg_b_s h
    refine ft_X12_setPiece hok e_s24 ?_
    exact hK102 _ _ _ _ h
set_option maxRecDepth 100000 in
set_option maxHeartbeats 4000000 in
theorem ft_X12_move_102 {o : Nat} {ra : Nat → Nat} {s0 : h_S} (hok : r_ok o ra s0) {Q : Int32 → h_S → Prop} {r : Int32} {t : r_T} (hQ : Q r (r_emb s0 o ra t)) : ∀ (n : Nat) (x1 : Int32) (x6 : Int32) (x7 : Int32) (s : r_T), fn_X12_move_102 n x1 x6 x7 s = some (r, t) → w_X12_move_102 Q n o x1 x6 x7 (r_emb s0 o ra s) := by
  intro n
  induction n with
  | zero => intro x1 x6 x7 s h; exact fg_none h
  | succ n ih =>
    intro x1 x6 x7 s h
    exact ft_X12_move_102b hok hQ ih h
set_option maxRecDepth 100000 in
set_option maxHeartbeats 4000000 in
theorem ft_X12_move_84 {o : Nat} {ra : Nat → Nat} {s0 : h_S} (hok : r_ok o ra s0) {Q : Int32 → h_S → Prop} {r : Int32} {t : r_T} (hQ : Q r (r_emb s0 o ra t)) {s : r_T} {x1 : Int32} {y0 : Int32} (h : fn_X12_move_84 x1 y0 s = some (r, t)) : w_X12_move_84 Q o x1 y0 o (r_emb s0 o ra s) := by
  unfold fn_X12_move_84 at h
  unfold w_X12_move_84
  refine ⟨hok.1, ?_⟩
  obtain ⟨p3, s2, e_s2, h⟩ := fg_b_s h
  refine ft_X12_openAt hok e_s2 ?_
  refine ⟨hok.1, ?_⟩
  try simp -zeta only [e_io]
  obtain ⟨u_, s5, e_s5, h⟩ := fg_b_s h
  refine ft_X12_widen hok e_s5 ?_
  exact ⟨g_N, ft_X12_move_102 hok hQ g_N _ _ _ _ h⟩
set_option maxRecDepth 100000 in
set_option maxHeartbeats 4000000 in
theorem ft_X12_move_57 {o : Nat} {ra : Nat → Nat} {s0 : h_S} (hok : r_ok o ra s0) {Q : Int32 → h_S → Prop} {r : Int32} {t : r_T} (hQ : Q r (r_emb s0 o ra t)) {s : r_T} {x1 : Int32} {x2 : Int32} {x3 : Int32} {x4 : Int32} (h : fn_X12_move_57 x1 x2 x3 x4 s = some (r, t)) : w_X12_move_57 Q o x1 x2 x3 x4 (r_emb s0 o ra s) := by
  unfold fn_X12_move_57 at h
  unfold w_X12_move_57
  refine ⟨hok.1, ?_⟩
  obtain ⟨u_, s2, e_s2, h⟩ := fg_b_s h
  refine ft_X12_takeOut hok e_s2 ?_
  refine ⟨hok.1, ?_⟩
  obtain ⟨u_, s5, e_s5, h⟩ := fg_b_s h
  refine ft_X12_layRow hok e_s5 ?_
  refine fg_ite Iff.rfl (fun d => ?_) (fun d => ?_)
  · have h := fg_if_t d h
    exact ft_X12_move_84 hok hQ h
  · have h := fg_if_e d h
    exact ft_X12_move_84 hok hQ h
set_option maxRecDepth 100000 in
set_option maxHeartbeats 4000000 in
theorem ft_X12_move {o : Nat} {ra : Nat → Nat} {s0 : h_S} (hok : r_ok o ra s0) {Q : Int32 → h_S → Prop} {r : Int32} {t : r_T} {s : r_T} {x1 : Int32} {x2 : Int32} {x3 : Int32} {x4 : Int32} (h : fn_X12_move x1 x2 x3 x4 s = some (r, t)) (hQ : Q r (r_emb s0 o ra t)) : w_X12_move o x1 x2 x3 x4 (r_emb s0 o ra s) Q := by
  unfold fn_X12_move at h
  unfold w_X12_move
  refine ⟨hok.1, ?_⟩
  obtain ⟨p3, s2, e_s2, h⟩ := fg_b_s h
  refine ft_X12_noPlaces hok e_s2 ?_
  refine fg_ite Iff.rfl (fun d => ?_) (fun d => ?_)
  · have h := fg_if_t d h
    unfold w_X12_move_30
    obtain ⟨q, q2⟩ := fg_ret h
    subst q
    subst q2
    exact hQ
  · have h := fg_if_e d h
    refine ⟨hok.1, ?_⟩
    try simp -zeta only [e_io]
    obtain ⟨p7, s6, e_s6, h⟩ := fg_b_s h
    refine ft_X12_in hok e_s6 ?_
    refine fg_ite Iff.rfl (fun d => ?_) (fun d => ?_)
    · have h := fg_if_t d h
      unfold w_X12_move_30
      obtain ⟨q, q2⟩ := fg_ret h
      subst q
      subst q2
      exact hQ
    · have h := fg_if_e d h
      refine fg_ite Iff.rfl (fun d => ?_) (fun d => ?_)
      · have h := fg_if_t d h
        refine fg_ite Iff.rfl (fun d => ?_) (fun d => ?_)
        · have h := fg_if_t d h
          exact ft_X12_move_57 hok hQ h
        · have h := fg_if_e d h
          refine fg_ite Iff.rfl (fun d => ?_) (fun d => ?_)
          · have h := fg_if_t d h
            exact ft_X12_move_57 hok hQ h
          · have h := fg_if_e d h
            obtain ⟨q, q2⟩ := fg_ret h
            subst q
            subst q2
            exact hQ
      · have h := fg_if_e d h
        obtain ⟨q, q2⟩ := fg_ret h
        subst q
        subst q2
        exact hQ
set_option maxRecDepth 100000 in
set_option maxHeartbeats 4000000 in
theorem ft_X12_again {o : Nat} {ra : Nat → Nat} {s0 : h_S} (hok : r_ok o ra s0) {Q : Int32 → h_S → Prop} {r : Int32} {t : r_T} {s : r_T} {x1 : Int32} {x2 : Int32} (h : fn_X12_again x1 x2 s = some (r, t)) (hQ : Q r (r_emb s0 o ra t)) : w_X12_again o x1 x2 (r_emb s0 o ra s) Q := by
  unfold fn_X12_again at h
  unfold w_X12_again
  refine ⟨hok.1, ?_⟩
  obtain ⟨p3, s2, e_s2, h⟩ := fg_b_s h
  refine ft_X12_noWriting hok e_s2 ?_
  refine fg_ite Iff.rfl (fun d => ?_) (fun d => ?_)
  · have h := fg_if_t d h
    refine ⟨hok.1, ?_⟩
    obtain ⟨p7, s6, e_s6, h⟩ := fg_b_s h
    refine ft_X12_noMoment hok e_s6 ?_
    refine fg_ite Iff.rfl (fun d => ?_) (fun d => ?_)
    · have h := fg_if_t d h
      refine ⟨hok.1, ?_⟩
      obtain ⟨u_, s10, e_s10, h⟩ := fg_b_s h
      refine ft_X12_load hok e_s10 ?_
      refine ⟨hok.1, ?_⟩
      obtain ⟨p14, s13, e_s13, h⟩ := fg_b_s h
      refine ft_X12_store hok e_s13 ?_
      refine ⟨hok.1, ?_⟩
      try simp -zeta only [e_io]
      obtain ⟨p17, s16, e_s16, h⟩ := fg_b_s h
      refine ft_X12_acted hok e_s16 ?_
      obtain ⟨q, q2⟩ := fg_ret h
      subst q
      subst q2
      exact hQ
    · have h := fg_if_e d h
      unfold w_X12_again_16
      obtain ⟨q, q2⟩ := fg_ret h
      subst q
      subst q2
      exact hQ
  · have h := fg_if_e d h
    unfold w_X12_again_16
    obtain ⟨q, q2⟩ := fg_ret h
    subst q
    subst q2
    exact hQ
set_option maxRecDepth 100000 in
set_option maxHeartbeats 4000000 in
theorem ft_X12_length {o : Nat} {ra : Nat → Nat} {s0 : h_S} (hok : r_ok o ra s0) {Q : Int32 → h_S → Prop} {r : Int32} {t : r_T} {s : r_T} {x1 : Int32} {x2 : Int32} (h : fn_X12_length x1 x2 s = some (r, t)) (hQ : Q r (r_emb s0 o ra t)) : w_X12_length o x1 x2 (r_emb s0 o ra s) Q := by
  unfold fn_X12_length at h
  unfold w_X12_length
  refine ⟨hok.1, ?_⟩
  obtain ⟨p3, s2, e_s2, h⟩ := fg_b_s h
  refine ft_X12_noWriting hok e_s2 ?_
  refine fg_ite Iff.rfl (fun d => ?_) (fun d => ?_)
  · have h := fg_if_t d h
    refine ⟨hok.1, ?_⟩
    obtain ⟨p7, s6, e_s6, h⟩ := fg_b_s h
    refine ft_X12_noMoment hok e_s6 ?_
    refine fg_ite Iff.rfl (fun d => ?_) (fun d => ?_)
    · have h := fg_if_t d h
      refine ⟨hok.1, ?_⟩
      obtain ⟨u_, s10, e_s10, h⟩ := fg_b_s h
      refine ft_X12_lay hok e_s10 ?_
      refine ⟨hok.1, ?_⟩
      try simp -zeta only [e_io]
      obtain ⟨q, q2⟩ := fg_ret h
      subst q
      subst q2
      exact hQ
    · have h := fg_if_e d h
      unfold w_X12_length_16
      obtain ⟨q, q2⟩ := fg_ret h
      subst q
      subst q2
      exact hQ
  · have h := fg_if_e d h
    unfold w_X12_length_16
    obtain ⟨q, q2⟩ := fg_ret h
    subst q
    subst q2
    exact hQ
set_option maxRecDepth 100000 in
set_option maxHeartbeats 4000000 in
theorem ft_X12_shown {o : Nat} {ra : Nat → Nat} {s0 : h_S} (hok : r_ok o ra s0) {Q : Int32 → h_S → Prop} {r : Int32} {t : r_T} {s : r_T} {x1 : Int32} {x2 : Int32} {x3 : Int32} (h : fn_X12_shown x1 x2 x3 s = some (r, t)) (hQ : Q r (r_emb s0 o ra t)) : w_X12_shown o x1 x2 x3 (r_emb s0 o ra s) Q := by
  unfold fn_X12_shown at h
  unfold w_X12_shown
  refine ⟨hok.1, ?_⟩
  obtain ⟨p3, s2, e_s2, h⟩ := fg_b_s h
  refine ft_X12_noWriting hok e_s2 ?_
  refine fg_ite Iff.rfl (fun d => ?_) (fun d => ?_)
  · have h := fg_if_t d h
    refine ⟨hok.1, ?_⟩
    obtain ⟨p7, s6, e_s6, h⟩ := fg_b_s h
    refine ft_X12_noMoment hok e_s6 ?_
    refine fg_ite Iff.rfl (fun d => ?_) (fun d => ?_)
    · have h := fg_if_t d h
      refine ⟨hok.1, ?_⟩
      obtain ⟨u_, s10, e_s10, h⟩ := fg_b_s h
      refine ft_X12_lay hok e_s10 ?_
      refine ⟨hok.1, ?_⟩
      try simp -zeta only [e_io]
      obtain ⟨p14, s13, e_s13, h⟩ := fg_b_s h
      refine ft_X12_in hok e_s13 ?_
      refine fg_ite Iff.rfl (fun d => ?_) (fun d => ?_)
      · have h := fg_if_t d h
        unfold w_X12_shown_50
        obtain ⟨q, q2⟩ := fg_ret h
        subst q
        subst q2
        exact hQ
      · have h := fg_if_e d h
        refine ⟨hok.1, ?_⟩
        refine ⟨ra 36, fr_r36 hok, ?_⟩
        refine ⟨fr_k36 hok, ?_⟩
        obtain ⟨c, h⟩ := fg_g_s h
        refine ⟨fr_vp (fr_n36 hok) c, ?_⟩
        unfold w_X12_shown_50
        try simp -zeta only [fr_i36 hok]
        obtain ⟨q, q2⟩ := fg_ret h
        subst q
        subst q2
        exact hQ
    · have h := fg_if_e d h
      unfold w_X12_shown_16
      obtain ⟨q, q2⟩ := fg_ret h
      subst q
      subst q2
      exact hQ
  · have h := fg_if_e d h
    unfold w_X12_shown_16
    obtain ⟨q, q2⟩ := fg_ret h
    subst q
    subst q2
    exact hQ
set_option maxRecDepth 100000 in
set_option maxHeartbeats 4000000 in
theorem ft_X12_pieces {o : Nat} {ra : Nat → Nat} {s0 : h_S} (hok : r_ok o ra s0) {Q : Int32 → h_S → Prop} {r : Int32} {t : r_T} {s : r_T} {x1 : Int32} (h : fn_X12_pieces x1 s = some (r, t)) (hQ : Q r (r_emb s0 o ra t)) : w_X12_pieces o x1 (r_emb s0 o ra s) Q := by
  unfold fn_X12_pieces at h
  unfold w_X12_pieces
  refine ⟨hok.1, ?_⟩
  obtain ⟨p3, s2, e_s2, h⟩ := fg_b_s h
  refine ft_X12_noWriting hok e_s2 ?_
  refine fg_ite Iff.rfl (fun d => ?_) (fun d => ?_)
  · have h := fg_if_t d h
    refine ⟨hok.1, ?_⟩
    try simp -zeta only [e_io]
    obtain ⟨u_, s6, e_s6, h⟩ := fg_b_s h
    refine ft_X12_load hok e_s6 ?_
    refine ⟨hok.1, ?_⟩
    try simp -zeta only [e_io]
    obtain ⟨q, q2⟩ := fg_ret h
    subst q
    subst q2
    exact hQ
  · have h := fg_if_e d h
    obtain ⟨q, q2⟩ := fg_ret h
    subst q
    subst q2
    exact hQ
set_option maxRecDepth 100000 in
set_option maxHeartbeats 4000000 in
theorem ft_X12_piece {o : Nat} {ra : Nat → Nat} {s0 : h_S} (hok : r_ok o ra s0) {Q : Int32 → h_S → Prop} {r : Int32} {t : r_T} {s : r_T} {x1 : Int32} {x2 : Int32} {x3 : Int32} (h : fn_X12_piece x1 x2 x3 s = some (r, t)) (hQ : Q r (r_emb s0 o ra t)) : w_X12_piece o x1 x2 x3 (r_emb s0 o ra s) Q := by
  unfold fn_X12_piece at h
  unfold w_X12_piece
  refine ⟨hok.1, ?_⟩
  obtain ⟨p3, s2, e_s2, h⟩ := fg_b_s h
  refine ft_X12_noWriting hok e_s2 ?_
  refine fg_ite Iff.rfl (fun d => ?_) (fun d => ?_)
  · have h := fg_if_t d h
    refine ⟨hok.1, ?_⟩
    try simp -zeta only [e_io]
    obtain ⟨u_, s6, e_s6, h⟩ := fg_b_s h
    refine ft_X12_load hok e_s6 ?_
    refine ⟨hok.1, ?_⟩
    try simp -zeta only [e_io]
    obtain ⟨p10, s9, e_s9, h⟩ := fg_b_s h
    refine ft_X12_in hok e_s9 ?_
    refine fg_ite Iff.rfl (fun d => ?_) (fun d => ?_)
    · have h := fg_if_t d h
      obtain ⟨q, q2⟩ := fg_ret h
      subst q
      subst q2
      exact hQ
    · have h := fg_if_e d h
      refine fg_ite Iff.rfl (fun d => ?_) (fun d => ?_)
      · have h := fg_if_t d h
        refine ⟨hok.1, ?_⟩
        refine ⟨ra 41, fr_r41 hok, ?_⟩
        refine ⟨fr_k41 hok, ?_⟩
        obtain ⟨c, h⟩ := fg_g_s h
        refine ⟨fr_vp (fr_n41 hok) c, ?_⟩
        try simp -zeta only [fr_i41 hok]
        obtain ⟨q, q2⟩ := fg_ret h
        subst q
        subst q2
        exact hQ
      · have h := fg_if_e d h
        refine fg_ite Iff.rfl (fun d => ?_) (fun d => ?_)
        · have h := fg_if_t d h
          refine ⟨hok.1, ?_⟩
          refine ⟨ra 42, fr_r42 hok, ?_⟩
          refine ⟨fr_k42 hok, ?_⟩
          obtain ⟨c, h⟩ := fg_g_s h
          refine ⟨fr_vp (fr_n42 hok) c, ?_⟩
          try simp -zeta only [fr_i42 hok]
          obtain ⟨q, q2⟩ := fg_ret h
          subst q
          subst q2
          exact hQ
        · have h := fg_if_e d h
          refine fg_ite Iff.rfl (fun d => ?_) (fun d => ?_)
          · have h := fg_if_t d h
            refine ⟨hok.1, ?_⟩
            refine ⟨ra 43, fr_r43 hok, ?_⟩
            refine ⟨fr_k43 hok, ?_⟩
            obtain ⟨c, h⟩ := fg_g_s h
            refine ⟨fr_vp (fr_n43 hok) c, ?_⟩
            try simp -zeta only [fr_i43 hok]
            obtain ⟨q, q2⟩ := fg_ret h
            subst q
            subst q2
            exact hQ
          · have h := fg_if_e d h
            refine fg_ite Iff.rfl (fun d => ?_) (fun d => ?_)
            · have h := fg_if_t d h
              refine ⟨hok.1, ?_⟩
              refine ⟨ra 44, fr_r44 hok, ?_⟩
              refine ⟨fr_k44 hok, ?_⟩
              obtain ⟨c, h⟩ := fg_g_s h
              refine ⟨fr_vp (fr_n44 hok) c, ?_⟩
              try simp -zeta only [fr_i44 hok]
              obtain ⟨q, q2⟩ := fg_ret h
              subst q
              subst q2
              exact hQ
            · have h := fg_if_e d h
              refine fg_ite Iff.rfl (fun d => ?_) (fun d => ?_)
              · have h := fg_if_t d h
                refine ⟨hok.1, ?_⟩
                refine ⟨ra 45, fr_r45 hok, ?_⟩
                refine ⟨fr_k45 hok, ?_⟩
                obtain ⟨c, h⟩ := fg_g_s h
                refine ⟨fr_vp (fr_n45 hok) c, ?_⟩
                try simp -zeta only [fr_i45 hok]
                obtain ⟨q, q2⟩ := fg_ret h
                subst q
                subst q2
                exact hQ
              · have h := fg_if_e d h
                obtain ⟨q, q2⟩ := fg_ret h
                subst q
                subst q2
                exact hQ
  · have h := fg_if_e d h
    obtain ⟨q, q2⟩ := fg_ret h
    subst q
    subst q2
    exact hQ
set_option maxRecDepth 100000 in
set_option maxHeartbeats 4000000 in
theorem ft_X12_word {o : Nat} {ra : Nat → Nat} {s0 : h_S} (hok : r_ok o ra s0) {Q : Int32 → h_S → Prop} {r : Int32} {t : r_T} {s : r_T} {x1 : Int32} {x2 : Int32} (h : fn_X12_word x1 x2 s = some (r, t)) (hQ : Q r (r_emb s0 o ra t)) : w_X12_word o x1 x2 (r_emb s0 o ra s) Q := by
  unfold fn_X12_word at h
  unfold w_X12_word
  refine ⟨hok.1, ?_⟩
  obtain ⟨p3, s2, e_s2, h⟩ := fg_b_s h
  refine ft_X12_noWord hok e_s2 ?_
  refine fg_ite Iff.rfl (fun d => ?_) (fun d => ?_)
  · have h := fg_if_t d h
    refine fg_ite Iff.rfl (fun d => ?_) (fun d => ?_)
    · have h := fg_if_t d h
      refine ⟨hok.1, ?_⟩
      refine ⟨ra 23, fr_r23 hok, ?_⟩
      refine ⟨fr_k23 hok, ?_⟩
      obtain ⟨c, h⟩ := fg_g_s h
      refine ⟨fr_vp (fr_n23 hok) c, ?_⟩
      try simp -zeta only [fr_i23 hok]
      obtain ⟨q, q2⟩ := fg_ret h
      subst q
      subst q2
      exact hQ
    · have h := fg_if_e d h
      refine fg_ite Iff.rfl (fun d => ?_) (fun d => ?_)
      · have h := fg_if_t d h
        refine ⟨hok.1, ?_⟩
        refine ⟨ra 24, fr_r24 hok, ?_⟩
        refine ⟨fr_k24 hok, ?_⟩
        obtain ⟨c, h⟩ := fg_g_s h
        refine ⟨fr_vp (fr_n24 hok) c, ?_⟩
        try simp -zeta only [fr_i24 hok]
        obtain ⟨q, q2⟩ := fg_ret h
        subst q
        subst q2
        exact hQ
      · have h := fg_if_e d h
        refine fg_ite Iff.rfl (fun d => ?_) (fun d => ?_)
        · have h := fg_if_t d h
          refine ⟨hok.1, ?_⟩
          refine ⟨ra 25, fr_r25 hok, ?_⟩
          refine ⟨fr_k25 hok, ?_⟩
          obtain ⟨c, h⟩ := fg_g_s h
          refine ⟨fr_vp (fr_n25 hok) c, ?_⟩
          try simp -zeta only [fr_i25 hok]
          obtain ⟨q, q2⟩ := fg_ret h
          subst q
          subst q2
          exact hQ
        · have h := fg_if_e d h
          refine fg_ite Iff.rfl (fun d => ?_) (fun d => ?_)
          · have h := fg_if_t d h
            refine ⟨hok.1, ?_⟩
            refine ⟨ra 26, fr_r26 hok, ?_⟩
            refine ⟨fr_k26 hok, ?_⟩
            obtain ⟨c, h⟩ := fg_g_s h
            refine ⟨fr_vp (fr_n26 hok) c, ?_⟩
            try simp -zeta only [fr_i26 hok]
            obtain ⟨q, q2⟩ := fg_ret h
            subst q
            subst q2
            exact hQ
          · have h := fg_if_e d h
            refine fg_ite Iff.rfl (fun d => ?_) (fun d => ?_)
            · have h := fg_if_t d h
              refine ⟨hok.1, ?_⟩
              refine ⟨ra 27, fr_r27 hok, ?_⟩
              refine ⟨fr_k27 hok, ?_⟩
              obtain ⟨c, h⟩ := fg_g_s h
              refine ⟨fr_vp (fr_n27 hok) c, ?_⟩
              try simp -zeta only [fr_i27 hok]
              obtain ⟨q, q2⟩ := fg_ret h
              subst q
              subst q2
              exact hQ
            · have h := fg_if_e d h
              obtain ⟨q, q2⟩ := fg_ret h
              subst q
              subst q2
              exact hQ
  · have h := fg_if_e d h
    obtain ⟨q, q2⟩ := fg_ret h
    subst q
    subst q2
    exact hQ
set_option maxRecDepth 100000 in
set_option maxHeartbeats 4000000 in
theorem ft_X12_noVersion {o : Nat} {ra : Nat → Nat} {s0 : h_S} (hok : r_ok o ra s0) {Q : Int32 → h_S → Prop} {r : Int32} {t : r_T} {s : r_T} {x1 : Int32} (h : fn_X12_noVersion x1 s = some (r, t)) (hQ : Q r (r_emb s0 o ra t)) : w_X12_noVersion o x1 (r_emb s0 o ra s) Q := by
  unfold fn_X12_noVersion at h
  unfold w_X12_noVersion
  refine ⟨hok.1, ?_⟩
  try simp -zeta only [e_io]
  obtain ⟨p3, s2, e_s2, h⟩ := fg_b_s h
  refine ft_X12_in hok e_s2 ?_
  refine fg_ite Iff.rfl (fun d => ?_) (fun d => ?_)
  · have h := fg_if_t d h
    unfold w_X12_noVersion_21
    refine ⟨Or.inr rfl, ?_⟩
    obtain ⟨q, q2⟩ := fg_ret h
    subst q
    subst q2
    exact hQ
  · have h := fg_if_e d h
    unfold w_X12_noVersion_21
    refine ⟨Or.inl rfl, ?_⟩
    obtain ⟨q, q2⟩ := fg_ret h
    subst q
    subst q2
    exact hQ
set_option maxRecDepth 100000 in
set_option maxHeartbeats 4000000 in
theorem ft_X12_layVersion {o : Nat} {ra : Nat → Nat} {s0 : h_S} (hok : r_ok o ra s0) {Q : h_S → Prop} {r : Unit} {t : r_T} {s : r_T} {x1 : Int32} (h : fn_X12_layVersion x1 s = some (r, t)) (hQ : Q (r_emb s0 o ra t)) : w_X12_layVersion o x1 (r_emb s0 o ra s) Q := by
  unfold fn_X12_layVersion at h
  unfold w_X12_layVersion
  refine ⟨hok.1, ?_⟩
  refine ⟨ra 56, fr_r56 hok, ?_⟩
  refine ⟨fr_k56 hok, ?_⟩
  obtain ⟨c, h⟩ := fg_g_s h
  refine ⟨fr_vp (fr_n56 hok) c, ?_⟩
  refine ⟨ra 57, fr_r57 hok, ?_⟩
  refine ⟨fr_k57 hok, ?_⟩
  obtain ⟨c, h⟩ := fg_g_s h
  refine ⟨fr_vp (fr_n57 hok) c, ?_⟩
  try simp -zeta only [fr_i56 hok, fr_i57 hok]
  obtain ⟨u_, s8, e_s8, h⟩ := fg_b_s h
  refine ft_X12_lay hok e_s8 ?_
  obtain ⟨_, q⟩ := fg_ret h
  subst q
  exact hQ
set_option maxRecDepth 100000 in
set_option maxHeartbeats 4000000 in
theorem ft_X12_version {o : Nat} {ra : Nat → Nat} {s0 : h_S} (hok : r_ok o ra s0) {Q : Int32 → h_S → Prop} {r : Int32} {t : r_T} {s : r_T} {x1 : Int32} (h : fn_X12_version x1 s = some (r, t)) (hQ : Q r (r_emb s0 o ra t)) : w_X12_version o x1 (r_emb s0 o ra s) Q := by
  unfold fn_X12_version at h
  unfold w_X12_version
  refine ⟨hok.1, ?_⟩
  obtain ⟨p3, s2, e_s2, h⟩ := fg_b_s h
  refine ft_X12_noWriting hok e_s2 ?_
  refine fg_ite Iff.rfl (fun d => ?_) (fun d => ?_)
  · have h := fg_if_t d h
    refine ⟨hok.1, ?_⟩
    try simp -zeta only [e_io]
    refine fg_ite Iff.rfl (fun d => ?_) (fun d => ?_)
    · have h := fg_if_t d h
      obtain ⟨q, q2⟩ := fg_ret h
      subst q
      subst q2
      exact hQ
    · have h := fg_if_e d h
      refine ⟨ra 56, fr_r56 hok, ?_⟩
      refine ⟨fr_k56 hok, ?_⟩
      try simp -zeta only [e_io]
      obtain ⟨c, h⟩ := fg_g_s h
      refine ⟨fr_vp (fr_n56 hok) c, ?_⟩
      try simp -zeta only [e_io]
      obtain ⟨s10, e_s10, h⟩ := fg_let_s h
      intro S_s10
      have z_s10 : S_s10 = r_emb s0 o ra s10 := by rw [e_s10]; exact fr_s56 hok _ _
      clear_value S_s10
      subst z_s10
      refine ⟨ra 57, fr_r57 hok, ?_⟩
      refine ⟨fr_k57 hok, ?_⟩
      try simp -zeta only [e_io]
      obtain ⟨c, h⟩ := fg_g_s h
      refine ⟨fr_vp (fr_n57 hok) c, ?_⟩
      try simp -zeta only [e_io]
      obtain ⟨s14, e_s14, h⟩ := fg_let_s h
      intro S_s14
      have z_s14 : S_s14 = r_emb s0 o ra s14 := by rw [e_s14]; exact fr_s57 hok _ _
      clear_value S_s14
      subst z_s14
      refine ⟨ra 58, fr_r58 hok, ?_⟩
      refine ⟨fr_k58 hok, ?_⟩
      try simp -zeta only [e_io]
      obtain ⟨c, h⟩ := fg_g_s h
      refine ⟨fr_vp (fr_n58 hok) c, ?_⟩
      try simp -zeta only [e_io]
      obtain ⟨s18, e_s18, h⟩ := fg_let_s h
      intro S_s18
      have z_s18 : S_s18 = r_emb s0 o ra s18 := by rw [e_s18]; exact fr_s58 hok _ _
      clear_value S_s18
      subst z_s18
      refine ⟨ra 59, fr_r59 hok, ?_⟩
      refine ⟨fr_k59 hok, ?_⟩
      try simp -zeta only [e_io]
      obtain ⟨c, h⟩ := fg_g_s h
      refine ⟨fr_vp (fr_n59 hok) c, ?_⟩
      try simp -zeta only [e_io]
      obtain ⟨s22, e_s22, h⟩ := fg_let_s h
      intro S_s22
      have z_s22 : S_s22 = r_emb s0 o ra s22 := by rw [e_s22]; exact fr_s59 hok _ _
      clear_value S_s22
      subst z_s22
      try simp -zeta only [e_io]
      obtain ⟨s23, e_s23, h⟩ := fg_let_s h
      intro S_s23
      have z_s23 : S_s23 = r_emb s0 o ra s23 := by rw [e_s23]; exact e_so _ _
      clear_value S_s23
      subst z_s23
      try simp -zeta only [e_io]
      obtain ⟨p25, s24, e_s24, h⟩ := fg_b_s h
      refine ft_X12_acted hok e_s24 ?_
      obtain ⟨q, q2⟩ := fg_ret h
      subst q
      subst q2
      exact hQ
  · have h := fg_if_e d h
    obtain ⟨q, q2⟩ := fg_ret h
    subst q
    subst q2
    exact hQ
set_option maxRecDepth 100000 in
set_option maxHeartbeats 4000000 in
theorem ft_X12_give {o : Nat} {ra : Nat → Nat} {s0 : h_S} (hok : r_ok o ra s0) {Q : Int32 → h_S → Prop} {r : Int32} {t : r_T} {s : r_T} {x1 : Int32} (h : fn_X12_give x1 s = some (r, t)) (hQ : Q r (r_emb s0 o ra t)) : w_X12_give o x1 (r_emb s0 o ra s) Q := by
  unfold fn_X12_give at h
  unfold w_X12_give
  refine ⟨hok.1, ?_⟩
  obtain ⟨p3, s2, e_s2, h⟩ := fg_b_s h
  refine ft_X12_noVersion hok e_s2 ?_
  refine fg_ite Iff.rfl (fun d => ?_) (fun d => ?_)
  · have h := fg_if_t d h
    refine ⟨hok.1, ?_⟩
    refine ⟨ra 58, fr_r58 hok, ?_⟩
    refine ⟨fr_k58 hok, ?_⟩
    obtain ⟨c, h⟩ := fg_g_s h
    refine ⟨fr_vp (fr_n58 hok) c, ?_⟩
    try simp -zeta only [fr_i58 hok]
    refine fg_ite Iff.rfl (fun d => ?_) (fun d => ?_)
    · have h := fg_if_t d h
      refine ⟨ra 58, fr_r58 hok, ?_⟩
      refine ⟨fr_k58 hok, ?_⟩
      obtain ⟨c, h⟩ := fg_g_s h
      refine ⟨fr_vp (fr_n58 hok) c, ?_⟩
      try simp -zeta only [e_io]
      obtain ⟨s13, e_s13, h⟩ := fg_let_s h
      intro S_s13
      have z_s13 : S_s13 = r_emb s0 o ra s13 := by rw [e_s13]; exact fr_s58 hok _ _
      clear_value S_s13
      subst z_s13
      obtain ⟨u_, s14, e_s14, h⟩ := fg_b_s h
      refine ft_X12_layVersion hok e_s14 ?_
      refine ⟨hok.1, ?_⟩
      try simp -zeta only [e_io]
      obtain ⟨p18, s17, e_s17, h⟩ := fg_b_s h
      refine ft_X12_acted hok e_s17 ?_
      obtain ⟨q, q2⟩ := fg_ret h
      subst q
      subst q2
      exact hQ
    · have h := fg_if_e d h
      obtain ⟨q, q2⟩ := fg_ret h
      subst q
      subst q2
      exact hQ
  · have h := fg_if_e d h
    obtain ⟨q, q2⟩ := fg_ret h
    subst q
    subst q2
    exact hQ
set_option maxRecDepth 100000 in
set_option maxHeartbeats 4000000 in
theorem ft_X12_back {o : Nat} {ra : Nat → Nat} {s0 : h_S} (hok : r_ok o ra s0) {Q : Int32 → h_S → Prop} {r : Int32} {t : r_T} {s : r_T} {x1 : Int32} (h : fn_X12_back x1 s = some (r, t)) (hQ : Q r (r_emb s0 o ra t)) : w_X12_back o x1 (r_emb s0 o ra s) Q := by
  unfold fn_X12_back at h
  unfold w_X12_back
  refine ⟨hok.1, ?_⟩
  obtain ⟨p3, s2, e_s2, h⟩ := fg_b_s h
  refine ft_X12_noVersion hok e_s2 ?_
  refine fg_ite Iff.rfl (fun d => ?_) (fun d => ?_)
  · have h := fg_if_t d h
    refine ⟨hok.1, ?_⟩
    refine ⟨ra 58, fr_r58 hok, ?_⟩
    refine ⟨fr_k58 hok, ?_⟩
    obtain ⟨c, h⟩ := fg_g_s h
    refine ⟨fr_vp (fr_n58 hok) c, ?_⟩
    try simp -zeta only [fr_i58 hok]
    refine fg_ite Iff.rfl (fun d => ?_) (fun d => ?_)
    · have h := fg_if_t d h
      unfold w_X12_back_28
      obtain ⟨q, q2⟩ := fg_ret h
      subst q
      subst q2
      exact hQ
    · have h := fg_if_e d h
      refine ⟨ra 59, fr_r59 hok, ?_⟩
      refine ⟨fr_k59 hok, ?_⟩
      obtain ⟨c, h⟩ := fg_g_s h
      refine ⟨fr_vp (fr_n59 hok) c, ?_⟩
      try simp -zeta only [fr_i59 hok]
      refine fg_ite Iff.rfl (fun d => ?_) (fun d => ?_)
      · have h := fg_if_t d h
        refine ⟨ra 59, fr_r59 hok, ?_⟩
        refine ⟨fr_k59 hok, ?_⟩
        obtain ⟨c, h⟩ := fg_g_s h
        refine ⟨fr_vp (fr_n59 hok) c, ?_⟩
        try simp -zeta only [e_io]
        obtain ⟨s17, e_s17, h⟩ := fg_let_s h
        intro S_s17
        have z_s17 : S_s17 = r_emb s0 o ra s17 := by rw [e_s17]; exact fr_s59 hok _ _
        clear_value S_s17
        subst z_s17
        obtain ⟨u_, s18, e_s18, h⟩ := fg_b_s h
        refine ft_X12_layVersion hok e_s18 ?_
        refine ⟨hok.1, ?_⟩
        try simp -zeta only [e_io]
        obtain ⟨p22, s21, e_s21, h⟩ := fg_b_s h
        refine ft_X12_acted hok e_s21 ?_
        obtain ⟨q, q2⟩ := fg_ret h
        subst q
        subst q2
        exact hQ
      · have h := fg_if_e d h
        unfold w_X12_back_28
        obtain ⟨q, q2⟩ := fg_ret h
        subst q
        subst q2
        exact hQ
  · have h := fg_if_e d h
    obtain ⟨q, q2⟩ := fg_ret h
    subst q
    subst q2
    exact hQ
set_option maxRecDepth 100000 in
set_option maxHeartbeats 4000000 in
theorem ft_X12_about_20b {o : Nat} {ra : Nat → Nat} {s0 : h_S} (hok : r_ok o ra s0) {Q : Int32 → h_S → Prop} {r : Int32} {t : r_T} (hQ : Q r (r_emb s0 o ra t)) {K20 : Int32 → Int32 → Int32 → Int32 → r_T → Option (Int32 × r_T)} {WK20 : Nat → Int32 → Int32 → Int32 → Int32 → h_S → Prop} (hK20 : ∀ (n0 : Int32) (n1 : Int32) (n2 : Int32) (n3 : Int32) (u : r_T), K20 n0 n1 n2 n3 u = some (r, t) → WK20 o n0 n1 n2 n3 (r_emb s0 o ra u)) {s : r_T} {x1 : Int32} {x2 : Int32} {x3 : Int32} {x4 : Int32} (h : fn_X12_about_20b K20 x1 x2 x3 x4 s = some (r, t)) : w_X12_about_20b Q WK20 o x1 x2 x3 x4 (r_emb s0 o ra s) := by
  unfold fn_X12_about_20b at h
  unfold w_X12_about_20b
  refine ⟨hok.1, ?_⟩
  try simp -zeta only [e_io]
  refine fg_ite Iff.rfl (fun d => ?_) (fun d => ?_)
  · have h := fg_if_t d h
    refine fg_ite Iff.rfl (fun d => ?_) (fun d => ?_)
    · have h := fg_if_t d h
      refine ⟨ra 59, fr_r59 hok, ?_⟩
      refine ⟨fr_k59 hok, ?_⟩
      obtain ⟨c, h⟩ := fg_g_s h
      refine ⟨fr_vp (fr_n59 hok) c, ?_⟩
      try simp -zeta only [fr_i59 hok]
      refine fg_ite Iff.rfl (fun d => ?_) (fun d => ?_)
      · have h := fg_if_t d h
        refine ⟨ra 58, fr_r58 hok, ?_⟩
        refine ⟨fr_k58 hok, ?_⟩
        obtain ⟨c, h⟩ := fg_g_s h
        refine ⟨fr_vp (fr_n58 hok) c, ?_⟩
        try simp -zeta only [fr_i58 hok]
        refine fg_ite Iff.rfl (fun d => ?_) (fun d => ?_)
        · have h := fg_if_t d h
          unfold w_X12_about_119
          obtain ⟨q, q2⟩ := fg_ret h
          subst q
          subst q2
          exact hQ
        · have h := fg_if_e d h
          unfold w_X12_about_119
          obtain ⟨q, q2⟩ := fg_ret h
          subst q
          subst q2
          exact hQ
      · have h := fg_if_e d h
        unfold w_X12_about_119
        obtain ⟨q, q2⟩ := fg_ret h
        subst q
        subst q2
        exact hQ
    · have h := fg_if_e d h
      refine fg_ite Iff.rfl (fun d => ?_) (fun d => ?_)
      · have h := fg_if_t d h
        refine ⟨ra 56, fr_r56 hok, ?_⟩
        refine ⟨fr_k56 hok, ?_⟩
        obtain ⟨c, h⟩ := fg_g_s h
        refine ⟨fr_vp (fr_n56 hok) c, ?_⟩
        try simp -zeta only [fr_i56 hok]
        obtain ⟨q, q2⟩ := fg_ret h
        subst q
        subst q2
        exact hQ
      · have h := fg_if_e d h
        refine fg_ite Iff.rfl (fun d => ?_) (fun d => ?_)
        · have h := fg_if_t d h
          refine ⟨ra 57, fr_r57 hok, ?_⟩
          refine ⟨fr_k57 hok, ?_⟩
          obtain ⟨c, h⟩ := fg_g_s h
          refine ⟨fr_vp (fr_n57 hok) c, ?_⟩
          try simp -zeta only [fr_i57 hok]
          obtain ⟨q, q2⟩ := fg_ret h
          subst q
          subst q2
          exact hQ
        · have h := fg_if_e d h
          refine fg_ite Iff.rfl (fun d => ?_) (fun d => ?_)
          · have h := fg_if_t d h
            try simp -zeta only [e_io]
            obtain ⟨q, q2⟩ := fg_ret h
            subst q
            subst q2
            exact hQ
          · have h := fg_if_e d h
            refine fg_ite Iff.rfl (fun d => ?_) (fun d => ?_)
            · have h := fg_if_t d h
              obtain ⟨q, q2⟩ := fg_ret h
              subst q
              subst q2
              exact hQ
            · have h := fg_if_e d h
              obtain ⟨q, q2⟩ := fg_ret h
              subst q
              subst q2
              exact hQ
  · have h := fg_if_e d h
    refine ⟨ra 36, fr_r36 hok, ?_⟩
    refine ⟨fr_k36 hok, ?_⟩
    obtain ⟨c, h⟩ := fg_g_s h
    refine ⟨fr_vp (fr_n36 hok) c, ?_⟩
    try simp -zeta only [fr_i36 hok]
    refine fg_ite Iff.rfl (fun d => ?_) (fun d => ?_)
    · have h := fg_if_t d h
      unfold w_X12_about_47
      exact hK20 _ _ _ _ _ h
    · have h := fg_if_e d h
      unfold w_X12_about_47
      exact hK20 _ _ _ _ _ h
set_option maxRecDepth 100000 in
set_option maxHeartbeats 4000000 in
theorem ft_X12_about_20 {o : Nat} {ra : Nat → Nat} {s0 : h_S} (hok : r_ok o ra s0) {Q : Int32 → h_S → Prop} {r : Int32} {t : r_T} (hQ : Q r (r_emb s0 o ra t)) : ∀ (n : Nat) (x1 : Int32) (x2 : Int32) (x3 : Int32) (x4 : Int32) (s : r_T), fn_X12_about_20 n x1 x2 x3 x4 s = some (r, t) → w_X12_about_20 Q n o x1 x2 x3 x4 (r_emb s0 o ra s) := by
  intro n
  induction n with
  | zero => intro x1 x2 x3 x4 s h; exact fg_none h
  | succ n ih =>
    intro x1 x2 x3 x4 s h
    exact ft_X12_about_20b hok hQ ih h
set_option maxRecDepth 100000 in
set_option maxHeartbeats 4000000 in
theorem ft_X12_about {o : Nat} {ra : Nat → Nat} {s0 : h_S} (hok : r_ok o ra s0) {Q : Int32 → h_S → Prop} {r : Int32} {t : r_T} {s : r_T} {x1 : Int32} {x2 : Int32} (h : fn_X12_about x1 x2 s = some (r, t)) (hQ : Q r (r_emb s0 o ra t)) : w_X12_about o x1 x2 (r_emb s0 o ra s) Q := by
  unfold fn_X12_about at h
  unfold w_X12_about
  refine ⟨hok.1, ?_⟩
  obtain ⟨p3, s2, e_s2, h⟩ := fg_b_s h
  refine ft_X12_noVersion hok e_s2 ?_
  refine fg_ite Iff.rfl (fun d => ?_) (fun d => ?_)
  · have h := fg_if_t d h
    refine ⟨hok.1, ?_⟩
    obtain ⟨u_, s6, e_s6, h⟩ := fg_b_s h
    refine ft_X12_layVersion hok e_s6 ?_
    exact ⟨g_N, ft_X12_about_20 hok hQ g_N _ _ _ _ _ h⟩
  · have h := fg_if_e d h
    obtain ⟨q, q2⟩ := fg_ret h
    subst q
    subst q2
    exact hQ
set_option maxRecDepth 100000 in
set_option maxHeartbeats 4000000 in
theorem ft_X12_at {o : Nat} {ra : Nat → Nat} {s0 : h_S} (hok : r_ok o ra s0) {Q : Int32 → h_S → Prop} {r : Int32} {t : r_T} {s : r_T} {x1 : Int32} {x2 : Int32} (h : fn_X12_at x1 x2 s = some (r, t)) (hQ : Q r (r_emb s0 o ra t)) : w_X12_at o x1 x2 (r_emb s0 o ra s) Q := by
  unfold fn_X12_at at h
  unfold w_X12_at
  refine ⟨hok.1, ?_⟩
  obtain ⟨p3, s2, e_s2, h⟩ := fg_b_s h
  refine ft_X12_noVersion hok e_s2 ?_
  refine fg_ite Iff.rfl (fun d => ?_) (fun d => ?_)
  · have h := fg_if_t d h
    refine ⟨hok.1, ?_⟩
    obtain ⟨u_, s6, e_s6, h⟩ := fg_b_s h
    refine ft_X12_layVersion hok e_s6 ?_
    refine ⟨hok.1, ?_⟩
    try simp -zeta only [e_io]
    obtain ⟨p10, s9, e_s9, h⟩ := fg_b_s h
    refine ft_X12_in hok e_s9 ?_
    refine fg_ite Iff.rfl (fun d => ?_) (fun d => ?_)
    · have h := fg_if_t d h
      unfold w_X12_at_41
      obtain ⟨q, q2⟩ := fg_ret h
      subst q
      subst q2
      exact hQ
    · have h := fg_if_e d h
      refine ⟨hok.1, ?_⟩
      refine ⟨ra 36, fr_r36 hok, ?_⟩
      refine ⟨fr_k36 hok, ?_⟩
      obtain ⟨c, h⟩ := fg_g_s h
      refine ⟨fr_vp (fr_n36 hok) c, ?_⟩
      unfold w_X12_at_41
      try simp -zeta only [fr_i36 hok]
      obtain ⟨q, q2⟩ := fg_ret h
      subst q
      subst q2
      exact hQ
  · have h := fg_if_e d h
    obtain ⟨q, q2⟩ := fg_ret h
    subst q
    subst q2
    exact hQ
set_option maxRecDepth 100000 in
set_option maxHeartbeats 4000000 in
theorem ft_X12_takeOne_35 {o : Nat} {ra : Nat → Nat} {s0 : h_S} (hok : r_ok o ra s0) {Q : h_S → Prop} {r : Unit} {t : r_T} (hQ : Q (r_emb s0 o ra t)) {K12 : Int32 → Int32 → r_T → Option (Unit × r_T)} {WK12 : Nat → Int32 → Int32 → h_S → Prop} (hK12 : ∀ (n0 : Int32) (n1 : Int32) (u : r_T), K12 n0 n1 u = some (r, t) → WK12 o n0 n1 (r_emb s0 o ra u)) {s : r_T} {x2 : Int32} {x3 : Int32} (h : fn_X12_takeOne_35 K12 x2 x3 s = some (r, t)) : w_X12_takeOne_35 Q WK12 o x2 x3 (r_emb s0 o ra s) := by
  unfold fn_X12_takeOne_35 at h
  unfold w_X12_takeOne_35
  refine ⟨hok.1, ?_⟩
  refine ⟨ra 36, fr_r36 hok, ?_⟩
  refine ⟨fr_k36 hok, ?_⟩
  obtain ⟨c, h⟩ := fg_g_s h
  refine ⟨fr_vp (fr_n36 hok) c, ?_⟩
  refine ⟨ra 62, fr_r62 hok, ?_⟩
  refine ⟨fr_k62 hok, ?_⟩
  try simp -zeta only [e_io]
  obtain ⟨c, h⟩ := fg_g_s h
  refine ⟨fr_vp (fr_n62 hok) c, ?_⟩
  try simp -zeta only [e_io, fr_i36 hok]
  obtain ⟨s8, e_s8, h⟩ := fg_let_s h
  intro S_s8
  have z_s8 : S_s8 = r_emb s0 o ra s8 := by rw [e_s8]; exact fr_s62 hok _ _
  clear_value S_s8
  subst z_s8
  try simp -zeta only [e_io]
  obtain ⟨s9, e_s9, h⟩ := fg_let_s h
  intro S_s9
  have z_s9 : S_s9 = r_emb s0 o ra s9 := by rw [e_s9]; exact e_so _ _
  clear_value S_s9
  subst z_s9
  unfold w_X12_takeOne_60
  exact hK12 _ _ _ h
set_option maxRecDepth 100000 in
set_option maxHeartbeats 4000000 in
theorem ft_X12_takeOne_12b {o : Nat} {ra : Nat → Nat} {s0 : h_S} (hok : r_ok o ra s0) {Q : h_S → Prop} {r : Unit} {t : r_T} (hQ : Q (r_emb s0 o ra t)) {K12 : Int32 → Int32 → r_T → Option (Unit × r_T)} {WK12 : Nat → Int32 → Int32 → h_S → Prop} (hK12 : ∀ (n0 : Int32) (n1 : Int32) (u : r_T), K12 n0 n1 u = some (r, t) → WK12 o n0 n1 (r_emb s0 o ra u)) {s : r_T} {x2 : Int32} {x3 : Int32} (h : fn_X12_takeOne_12b K12 x2 x3 s = some (r, t)) : w_X12_takeOne_12b Q WK12 o x2 x3 (r_emb s0 o ra s) := by
  unfold fn_X12_takeOne_12b at h
  unfold w_X12_takeOne_12b
  refine ⟨hok.1, ?_⟩
  try simp -zeta only [e_io]
  refine fg_ite Iff.rfl (fun d => ?_) (fun d => ?_)
  · have h := fg_if_t d h
    obtain ⟨_, q⟩ := fg_ret h
    subst q
    exact hQ
  · have h := fg_if_e d h
    refine fg_ite Iff.rfl (fun d => ?_) (fun d => ?_)
    · have h := fg_if_t d h
      refine ⟨ra 36, fr_r36 hok, ?_⟩
      refine ⟨fr_k36 hok, ?_⟩
      obtain ⟨c, h⟩ := fg_g_s h
      refine ⟨fr_vp (fr_n36 hok) c, ?_⟩
      try simp -zeta only [fr_i36 hok]
      refine fg_ite Iff.rfl (fun d => ?_) (fun d => ?_)
      · have h := fg_if_t d h
        unfold w_X12_takeOne_60
        exact hK12 _ _ _ h
      · have h := fg_if_e d h
        exact ft_X12_takeOne_35 hok hQ hK12 h
    · have h := fg_if_e d h
      exact ft_X12_takeOne_35 hok hQ hK12 h
set_option maxRecDepth 100000 in
set_option maxHeartbeats 4000000 in
theorem ft_X12_takeOne_12 {o : Nat} {ra : Nat → Nat} {s0 : h_S} (hok : r_ok o ra s0) {Q : h_S → Prop} {r : Unit} {t : r_T} (hQ : Q (r_emb s0 o ra t)) : ∀ (n : Nat) (x2 : Int32) (x3 : Int32) (s : r_T), fn_X12_takeOne_12 n x2 x3 s = some (r, t) → w_X12_takeOne_12 Q n o x2 x3 (r_emb s0 o ra s) := by
  intro n
  induction n with
  | zero => intro x2 x3 s h; exact fg_none h
  | succ n ih =>
    intro x2 x3 s h
    exact ft_X12_takeOne_12b hok hQ ih h
set_option maxRecDepth 100000 in
set_option maxHeartbeats 4000000 in
theorem ft_X12_takeOne {o : Nat} {ra : Nat → Nat} {s0 : h_S} (hok : r_ok o ra s0) {Q : h_S → Prop} {r : Unit} {t : r_T} {s : r_T} {x1 : Int32} {x2 : Int32} (h : fn_X12_takeOne x1 x2 s = some (r, t)) (hQ : Q (r_emb s0 o ra t)) : w_X12_takeOne o x1 x2 (r_emb s0 o ra s) Q := by
  unfold fn_X12_takeOne at h
  unfold w_X12_takeOne
  refine ⟨hok.1, ?_⟩
  obtain ⟨u_, s2, e_s2, h⟩ := fg_b_s h
  refine ft_X12_layVersion hok e_s2 ?_
  refine ⟨hok.1, ?_⟩
  obtain ⟨s5, e_s5, h⟩ := fg_let_s h
  intro S_s5
  have z_s5 : S_s5 = r_emb s0 o ra s5 := by rw [e_s5]; exact e_so _ _
  clear_value S_s5
  subst z_s5
  exact ⟨g_N, ft_X12_takeOne_12 hok hQ g_N _ _ _ h⟩
set_option maxRecDepth 100000 in
set_option maxHeartbeats 4000000 in
theorem ft_X12_takeTwo_35 {o : Nat} {ra : Nat → Nat} {s0 : h_S} (hok : r_ok o ra s0) {Q : h_S → Prop} {r : Unit} {t : r_T} (hQ : Q (r_emb s0 o ra t)) {K12 : Int32 → Int32 → r_T → Option (Unit × r_T)} {WK12 : Nat → Int32 → Int32 → h_S → Prop} (hK12 : ∀ (n0 : Int32) (n1 : Int32) (u : r_T), K12 n0 n1 u = some (r, t) → WK12 o n0 n1 (r_emb s0 o ra u)) {s : r_T} {x2 : Int32} {x3 : Int32} (h : fn_X12_takeTwo_35 K12 x2 x3 s = some (r, t)) : w_X12_takeTwo_35 Q WK12 o x2 x3 (r_emb s0 o ra s) := by
  unfold fn_X12_takeTwo_35 at h
  unfold w_X12_takeTwo_35
  refine ⟨hok.1, ?_⟩
  refine ⟨ra 36, fr_r36 hok, ?_⟩
  refine ⟨fr_k36 hok, ?_⟩
  obtain ⟨c, h⟩ := fg_g_s h
  refine ⟨fr_vp (fr_n36 hok) c, ?_⟩
  refine ⟨ra 63, fr_r63 hok, ?_⟩
  refine ⟨fr_k63 hok, ?_⟩
  try simp -zeta only [e_io]
  obtain ⟨c, h⟩ := fg_g_s h
  refine ⟨fr_vp (fr_n63 hok) c, ?_⟩
  try simp -zeta only [e_io, fr_i36 hok]
  obtain ⟨s8, e_s8, h⟩ := fg_let_s h
  intro S_s8
  have z_s8 : S_s8 = r_emb s0 o ra s8 := by rw [e_s8]; exact fr_s63 hok _ _
  clear_value S_s8
  subst z_s8
  try simp -zeta only [e_io]
  obtain ⟨s9, e_s9, h⟩ := fg_let_s h
  intro S_s9
  have z_s9 : S_s9 = r_emb s0 o ra s9 := by rw [e_s9]; exact e_so _ _
  clear_value S_s9
  subst z_s9
  unfold w_X12_takeTwo_60
  exact hK12 _ _ _ h
set_option maxRecDepth 100000 in
set_option maxHeartbeats 4000000 in
theorem ft_X12_takeTwo_12b {o : Nat} {ra : Nat → Nat} {s0 : h_S} (hok : r_ok o ra s0) {Q : h_S → Prop} {r : Unit} {t : r_T} (hQ : Q (r_emb s0 o ra t)) {K12 : Int32 → Int32 → r_T → Option (Unit × r_T)} {WK12 : Nat → Int32 → Int32 → h_S → Prop} (hK12 : ∀ (n0 : Int32) (n1 : Int32) (u : r_T), K12 n0 n1 u = some (r, t) → WK12 o n0 n1 (r_emb s0 o ra u)) {s : r_T} {x2 : Int32} {x3 : Int32} (h : fn_X12_takeTwo_12b K12 x2 x3 s = some (r, t)) : w_X12_takeTwo_12b Q WK12 o x2 x3 (r_emb s0 o ra s) := by
  unfold fn_X12_takeTwo_12b at h
  unfold w_X12_takeTwo_12b
  refine ⟨hok.1, ?_⟩
  try simp -zeta only [e_io]
  refine fg_ite Iff.rfl (fun d => ?_) (fun d => ?_)
  · have h := fg_if_t d h
    obtain ⟨_, q⟩ := fg_ret h
    subst q
    exact hQ
  · have h := fg_if_e d h
    refine fg_ite Iff.rfl (fun d => ?_) (fun d => ?_)
    · have h := fg_if_t d h
      refine ⟨ra 36, fr_r36 hok, ?_⟩
      refine ⟨fr_k36 hok, ?_⟩
      obtain ⟨c, h⟩ := fg_g_s h
      refine ⟨fr_vp (fr_n36 hok) c, ?_⟩
      try simp -zeta only [fr_i36 hok]
      refine fg_ite Iff.rfl (fun d => ?_) (fun d => ?_)
      · have h := fg_if_t d h
        unfold w_X12_takeTwo_60
        exact hK12 _ _ _ h
      · have h := fg_if_e d h
        exact ft_X12_takeTwo_35 hok hQ hK12 h
    · have h := fg_if_e d h
      exact ft_X12_takeTwo_35 hok hQ hK12 h
set_option maxRecDepth 100000 in
set_option maxHeartbeats 4000000 in
theorem ft_X12_takeTwo_12 {o : Nat} {ra : Nat → Nat} {s0 : h_S} (hok : r_ok o ra s0) {Q : h_S → Prop} {r : Unit} {t : r_T} (hQ : Q (r_emb s0 o ra t)) : ∀ (n : Nat) (x2 : Int32) (x3 : Int32) (s : r_T), fn_X12_takeTwo_12 n x2 x3 s = some (r, t) → w_X12_takeTwo_12 Q n o x2 x3 (r_emb s0 o ra s) := by
  intro n
  induction n with
  | zero => intro x2 x3 s h; exact fg_none h
  | succ n ih =>
    intro x2 x3 s h
    exact ft_X12_takeTwo_12b hok hQ ih h
set_option maxRecDepth 100000 in
set_option maxHeartbeats 4000000 in
theorem ft_X12_takeTwo {o : Nat} {ra : Nat → Nat} {s0 : h_S} (hok : r_ok o ra s0) {Q : h_S → Prop} {r : Unit} {t : r_T} {s : r_T} {x1 : Int32} {x2 : Int32} (h : fn_X12_takeTwo x1 x2 s = some (r, t)) (hQ : Q (r_emb s0 o ra t)) : w_X12_takeTwo o x1 x2 (r_emb s0 o ra s) Q := by
  unfold fn_X12_takeTwo at h
  unfold w_X12_takeTwo
  refine ⟨hok.1, ?_⟩
  obtain ⟨u_, s2, e_s2, h⟩ := fg_b_s h
  refine ft_X12_layVersion hok e_s2 ?_
  refine ⟨hok.1, ?_⟩
  obtain ⟨s5, e_s5, h⟩ := fg_let_s h
  intro S_s5
  have z_s5 : S_s5 = r_emb s0 o ra s5 := by rw [e_s5]; exact e_so _ _
  clear_value S_s5
  subst z_s5
  exact ⟨g_N, ft_X12_takeTwo_12 hok hQ g_N _ _ _ h⟩
set_option maxRecDepth 100000 in
set_option maxHeartbeats 4000000 in
theorem ft_X12_layShared_142 {o : Nat} {ra : Nat → Nat} {s0 : h_S} (hok : r_ok o ra s0) {Q : h_S → Prop} {r : Unit} {t : r_T} (hQ : Q (r_emb s0 o ra t)) {K5 : Int32 → r_T → Option (Unit × r_T)} {WK5 : Nat → Int32 → h_S → Prop} (hK5 : ∀ (n0 : Int32) (u : r_T), K5 n0 u = some (r, t) → WK5 o n0 (r_emb s0 o ra u)) {K14 : Int32 → Int32 → r_T → Option (Unit × r_T)} {WK14 : Nat → Int32 → Int32 → h_S → Prop} (hK14 : ∀ (n0 : Int32) (n1 : Int32) (u : r_T), K14 n0 n1 u = some (r, t) → WK14 o n0 n1 (r_emb s0 o ra u)) {s : r_T} {x1 : Int32} {x2 : Int32} {x3 : Int32} (h : fn_X12_layShared_142 K5 K14 x1 x2 x3 s = some (r, t)) : w_X12_layShared_142 Q WK5 WK14 o x1 x2 x3 (r_emb s0 o ra s) := by
  unfold fn_X12_layShared_142 at h
  unfold w_X12_layShared_142
  refine ⟨hok.1, ?_⟩
  refine ⟨ra 64, fr_r64 hok, ?_⟩
  refine ⟨fr_k64 hok, ?_⟩
  obtain ⟨c, h⟩ := fg_g_s h
  refine ⟨fr_vp (fr_n64 hok) c, ?_⟩
  obtain ⟨s5, e_s5, h⟩ := fg_let_s h
  intro S_s5
  have z_s5 : S_s5 = r_emb s0 o ra s5 := by rw [e_s5]; exact fr_s64 hok _ _
  clear_value S_s5
  subst z_s5
  exact hK14 _ _ _ h
set_option maxRecDepth 100000 in
set_option maxHeartbeats 4000000 in
theorem ft_X12_layShared_141 {o : Nat} {ra : Nat → Nat} {s0 : h_S} (hok : r_ok o ra s0) {Q : h_S → Prop} {r : Unit} {t : r_T} (hQ : Q (r_emb s0 o ra t)) {K5 : Int32 → r_T → Option (Unit × r_T)} {WK5 : Nat → Int32 → h_S → Prop} (hK5 : ∀ (n0 : Int32) (u : r_T), K5 n0 u = some (r, t) → WK5 o n0 (r_emb s0 o ra u)) {K14 : Int32 → Int32 → r_T → Option (Unit × r_T)} {WK14 : Nat → Int32 → Int32 → h_S → Prop} (hK14 : ∀ (n0 : Int32) (n1 : Int32) (u : r_T), K14 n0 n1 u = some (r, t) → WK14 o n0 n1 (r_emb s0 o ra u)) {s : r_T} {x1 : Int32} {x2 : Int32} {y0 : Int32} (h : fn_X12_layShared_141 K5 K14 x1 x2 y0 s = some (r, t)) : w_X12_layShared_141 Q WK5 WK14 o x1 x2 y0 (r_emb s0 o ra s) := by
  unfold fn_X12_layShared_141 at h
  unfold w_X12_layShared_141
  exact ft_X12_layShared_142 hok hQ hK5 hK14 h
set_option maxRecDepth 100000 in
set_option maxHeartbeats 4000000 in
theorem ft_X12_layShared_99 {o : Nat} {ra : Nat → Nat} {s0 : h_S} (hok : r_ok o ra s0) {Q : h_S → Prop} {r : Unit} {t : r_T} (hQ : Q (r_emb s0 o ra t)) {K5 : Int32 → r_T → Option (Unit × r_T)} {WK5 : Nat → Int32 → h_S → Prop} (hK5 : ∀ (n0 : Int32) (u : r_T), K5 n0 u = some (r, t) → WK5 o n0 (r_emb s0 o ra u)) {K14 : Int32 → Int32 → r_T → Option (Unit × r_T)} {WK14 : Nat → Int32 → Int32 → h_S → Prop} (hK14 : ∀ (n0 : Int32) (n1 : Int32) (u : r_T), K14 n0 n1 u = some (r, t) → WK14 o n0 n1 (r_emb s0 o ra u)) {s : r_T} {x1 : Int32} {x2 : Int32} {x4 : Int32} {x5 : Int32} {y0 : Int32} (h : fn_X12_layShared_99 K5 K14 x1 x2 x4 x5 y0 s = some (r, t)) : w_X12_layShared_99 Q WK5 WK14 o x1 x2 x4 x5 y0 (r_emb s0 o ra s) := by
  unfold fn_X12_layShared_99 at h
  unfold w_X12_layShared_99
  refine fg_ite Iff.rfl (fun d => ?_) (fun d => ?_)
  · have h := fg_if_t d h
    refine fg_ite Iff.rfl (fun d => ?_) (fun d => ?_)
    · have h := fg_if_t d h
      exact ft_X12_layShared_141 hok hQ hK5 hK14 h
    · have h := fg_if_e d h
      exact ft_X12_layShared_141 hok hQ hK5 hK14 h
  · have h := fg_if_e d h
    refine ⟨hok.1, ?_⟩
    refine ⟨ra 64, fr_r64 hok, ?_⟩
    refine ⟨fr_k64 hok, ?_⟩
    obtain ⟨c, h⟩ := fg_g_s h
    refine ⟨fr_vp (fr_n64 hok) c, ?_⟩
    try simp -zeta only [fr_i64 hok]
    exact ft_X12_layShared_141 hok hQ hK5 hK14 h
set_option maxRecDepth 100000 in
set_option maxHeartbeats 4000000 in
theorem ft_X12_layShared_98 {o : Nat} {ra : Nat → Nat} {s0 : h_S} (hok : r_ok o ra s0) {Q : h_S → Prop} {r : Unit} {t : r_T} (hQ : Q (r_emb s0 o ra t)) {K5 : Int32 → r_T → Option (Unit × r_T)} {WK5 : Nat → Int32 → h_S → Prop} (hK5 : ∀ (n0 : Int32) (u : r_T), K5 n0 u = some (r, t) → WK5 o n0 (r_emb s0 o ra u)) {K14 : Int32 → Int32 → r_T → Option (Unit × r_T)} {WK14 : Nat → Int32 → Int32 → h_S → Prop} (hK14 : ∀ (n0 : Int32) (n1 : Int32) (u : r_T), K14 n0 n1 u = some (r, t) → WK14 o n0 n1 (r_emb s0 o ra u)) {s : r_T} {x1 : Int32} {x2 : Int32} {x4 : Int32} {x5 : Int32} (h : fn_X12_layShared_98 K5 K14 x1 x2 x4 x5 s = some (r, t)) : w_X12_layShared_98 Q WK5 WK14 o x1 x2 x4 x5 (r_emb s0 o ra s) := by
  unfold fn_X12_layShared_98 at h
  unfold w_X12_layShared_98
  exact ft_X12_layShared_99 hok hQ hK5 hK14 h
set_option maxRecDepth 100000 in
set_option maxHeartbeats 4000000 in
theorem ft_X12_layShared_14b {o : Nat} {ra : Nat → Nat} {s0 : h_S} (hok : r_ok o ra s0) {Q : h_S → Prop} {r : Unit} {t : r_T} (hQ : Q (r_emb s0 o ra t)) {K5 : Int32 → r_T → Option (Unit × r_T)} {WK5 : Nat → Int32 → h_S → Prop} (hK5 : ∀ (n0 : Int32) (u : r_T), K5 n0 u = some (r, t) → WK5 o n0 (r_emb s0 o ra u)) {K14 : Int32 → Int32 → r_T → Option (Unit × r_T)} {WK14 : Nat → Int32 → Int32 → h_S → Prop} (hK14 : ∀ (n0 : Int32) (n1 : Int32) (u : r_T), K14 n0 n1 u = some (r, t) → WK14 o n0 n1 (r_emb s0 o ra u)) {s : r_T} {x1 : Int32} {x2 : Int32} (h : fn_X12_layShared_14b K5 K14 x1 x2 s = some (r, t)) : w_X12_layShared_14b Q WK5 WK14 o x1 x2 (r_emb s0 o ra s) := by
  unfold fn_X12_layShared_14b at h
  unfold w_X12_layShared_14b
  refine fg_ite Iff.rfl (fun d => ?_) (fun d => ?_)
  · have h := fg_if_t d h
    exact hK5 _ _ h
  · have h := fg_if_e d h
    refine ⟨hok.1, ?_⟩
    try simp -zeta only [e_io]
    refine fg_ite Iff.rfl (fun d => ?_) (fun d => ?_)
    · have h := fg_if_t d h
      exact ft_X12_layShared_142 hok hQ hK5 hK14 h
    · have h := fg_if_e d h
      try simp -zeta only [e_io]
      refine fg_ite Iff.rfl (fun d => ?_) (fun d => ?_)
      · have h := fg_if_t d h
        exact ft_X12_layShared_142 hok hQ hK5 hK14 h
      · have h := fg_if_e d h
        refine ⟨ra 64, fr_r64 hok, ?_⟩
        refine ⟨fr_k64 hok, ?_⟩
        obtain ⟨c, h⟩ := fg_g_s h
        refine ⟨fr_vp (fr_n64 hok) c, ?_⟩
        try simp -zeta only [fr_i64 hok]
        obtain ⟨v8, e_v8, h⟩ := fg_let_s h
        intro S_v8
        have z_v8 : v8 = S_v8 := e_v8
        clear_value S_v8
        subst z_v8
        refine ⟨ra 64, fr_r64 hok, ?_⟩
        refine ⟨fr_k64 hok, ?_⟩
        obtain ⟨c, h⟩ := fg_g_s h
        refine ⟨fr_vp (fr_n64 hok) c, ?_⟩
        try simp -zeta only [fr_i64 hok]
        obtain ⟨v12, e_v12, h⟩ := fg_let_s h
        intro S_v12
        have z_v12 : v12 = S_v12 := e_v12
        clear_value S_v12
        subst z_v12
        refine ⟨ra 62, fr_r62 hok, ?_⟩
        refine ⟨fr_k62 hok, ?_⟩
        obtain ⟨c, h⟩ := fg_g_s h
        refine ⟨fr_vp (fr_n62 hok) c, ?_⟩
        refine ⟨ra 63, fr_r63 hok, ?_⟩
        refine ⟨fr_k63 hok, ?_⟩
        obtain ⟨c, h⟩ := fg_g_s h
        refine ⟨fr_vp (fr_n63 hok) c, ?_⟩
        try simp -zeta only [fr_i62 hok, fr_i63 hok]
        refine fg_ite Iff.rfl (fun d => ?_) (fun d => ?_)
        · have h := fg_if_t d h
          refine ⟨ra 62, fr_r62 hok, ?_⟩
          refine ⟨fr_k62 hok, ?_⟩
          obtain ⟨c, h⟩ := fg_g_s h
          refine ⟨fr_vp (fr_n62 hok) c, ?_⟩
          try simp -zeta only [fr_i62 hok]
          refine fg_ite Iff.rfl (fun d => ?_) (fun d => ?_)
          · have h := fg_if_t d h
            exact ft_X12_layShared_98 hok hQ hK5 hK14 h
          · have h := fg_if_e d h
            exact ft_X12_layShared_99 hok hQ hK5 hK14 h
        · have h := fg_if_e d h
          exact ft_X12_layShared_98 hok hQ hK5 hK14 h
set_option maxRecDepth 100000 in
set_option maxHeartbeats 4000000 in
theorem ft_X12_layShared_14 {o : Nat} {ra : Nat → Nat} {s0 : h_S} (hok : r_ok o ra s0) {Q : h_S → Prop} {r : Unit} {t : r_T} (hQ : Q (r_emb s0 o ra t)) {K5 : Int32 → r_T → Option (Unit × r_T)} {WK5 : Nat → Int32 → h_S → Prop} (hK5 : ∀ (n0 : Int32) (u : r_T), K5 n0 u = some (r, t) → WK5 o n0 (r_emb s0 o ra u)) : ∀ (n : Nat) (x1 : Int32) (x2 : Int32) (s : r_T), fn_X12_layShared_14 K5 n x1 x2 s = some (r, t) → w_X12_layShared_14 Q WK5 n o x1 x2 (r_emb s0 o ra s) := by
  intro n
  induction n with
  | zero => intro x1 x2 s h; exact fg_none h
  | succ n ih =>
    intro x1 x2 s h
    exact ft_X12_layShared_14b hok hQ hK5 ih h
set_option maxRecDepth 100000 in
set_option maxHeartbeats 4000000 in
theorem ft_X12_layShared_5b {o : Nat} {ra : Nat → Nat} {s0 : h_S} (hok : r_ok o ra s0) {Q : h_S → Prop} {r : Unit} {t : r_T} (hQ : Q (r_emb s0 o ra t)) {K5 : Int32 → r_T → Option (Unit × r_T)} {WK5 : Nat → Int32 → h_S → Prop} (hK5 : ∀ (n0 : Int32) (u : r_T), K5 n0 u = some (r, t) → WK5 o n0 (r_emb s0 o ra u)) {s : r_T} {x1 : Int32} (h : fn_X12_layShared_5b K5 x1 s = some (r, t)) : w_X12_layShared_5b Q WK5 o x1 (r_emb s0 o ra s) := by
  unfold fn_X12_layShared_5b at h
  unfold w_X12_layShared_5b
  refine fg_ite Iff.rfl (fun d => ?_) (fun d => ?_)
  · have h := fg_if_t d h
    obtain ⟨_, q⟩ := fg_ret h
    subst q
    exact hQ
  · have h := fg_if_e d h
    refine ⟨hok.1, ?_⟩
    try simp -zeta only [e_io]
    exact ⟨g_N, ft_X12_layShared_14 hok hQ hK5 g_N _ _ _ h⟩
set_option maxRecDepth 100000 in
set_option maxHeartbeats 4000000 in
theorem ft_X12_layShared_5 {o : Nat} {ra : Nat → Nat} {s0 : h_S} (hok : r_ok o ra s0) {Q : h_S → Prop} {r : Unit} {t : r_T} (hQ : Q (r_emb s0 o ra t)) : ∀ (n : Nat) (x1 : Int32) (s : r_T), fn_X12_layShared_5 n x1 s = some (r, t) → w_X12_layShared_5 Q n o x1 (r_emb s0 o ra s) := by
  intro n
  induction n with
  | zero => intro x1 s h; exact fg_none h
  | succ n ih =>
    intro x1 s h
    exact ft_X12_layShared_5b hok hQ ih h
set_option maxRecDepth 100000 in
set_option maxHeartbeats 4000000 in
theorem ft_X12_layShared {o : Nat} {ra : Nat → Nat} {s0 : h_S} (hok : r_ok o ra s0) {Q : h_S → Prop} {r : Unit} {t : r_T} {s : r_T} (h : fn_X12_layShared s = some (r, t)) (hQ : Q (r_emb s0 o ra t)) : w_X12_layShared o (r_emb s0 o ra s) Q := by
  unfold fn_X12_layShared at h
  unfold w_X12_layShared
  refine ⟨hok.1, ?_⟩
  try simp -zeta only [e_io]
  exact ⟨g_N, ft_X12_layShared_5 hok hQ g_N _ _ h⟩
