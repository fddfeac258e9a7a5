set_option maxRecDepth 100000 in
set_option maxHeartbeats 4000000 in
theorem ft_X12_in {o : Nat} {ra : Nat → Nat} {s0 : h_S} (hok : r_ok o ra s0) {Q : Int32 → h_S → Prop} {r : Int32} {t : r_T} {s : r_T} {l0 : Int64} {l2 : Int64} {l4 : Int64} (h : fn_X12_in l0 l2 l4 s = some (r, t)) (hQ : Q r (r_emb s0 o ra t)) : w_X12_in l0 l2 l4 (r_emb s0 o ra s) Q := by
  unfold fn_X12_in at h
  unfold w_X12_in
  refine fg_ite Iff.rfl (fun d => ?_) (fun d => ?_)
  · have h := fg_if_t d h
    unfold w_X12_in_17
    unfold w_X12_in_18
    refine ⟨Or.inl rfl, ?_⟩
    obtain ⟨q, q2⟩ := fg_ret h
    subst q
    subst q2
    exact hQ
  · have h := fg_if_e d h
    refine fg_ite Iff.rfl (fun d => ?_) (fun d => ?_)
    · have h := fg_if_t d h
      unfold w_X12_in_17
      unfold w_X12_in_18
      refine ⟨Or.inl rfl, ?_⟩
      obtain ⟨q, q2⟩ := fg_ret h
      subst q
      subst q2
      exact hQ
    · have h := fg_if_e d h
      unfold w_X12_in_18
      refine ⟨Or.inr rfl, ?_⟩
      obtain ⟨q, q2⟩ := fg_ret h
      subst q
      subst q2
      exact hQ
set_option maxRecDepth 100000 in
set_option maxHeartbeats 4000000 in
theorem ft_X12_lost {o : Nat} {ra : Nat → Nat} {s0 : h_S} (hok : r_ok o ra s0) {Q : Int64 → h_S → Prop} {r : Int64} {t : r_T} {s : r_T} (h : fn_X12_lost s = some (r, t)) (hQ : Q r (r_emb s0 o ra t)) : w_X12_lost (r_emb s0 o ra s) Q := by
  unfold fn_X12_lost at h
  unfold w_X12_lost
  obtain ⟨q, q2⟩ := fg_ret h
  subst q
  subst q2
  exact hQ
set_option maxRecDepth 100000 in
set_option maxHeartbeats 4000000 in
theorem ft_X12_hasBit {o : Nat} {ra : Nat → Nat} {s0 : h_S} (hok : r_ok o ra s0) {Q : Int32 → h_S → Prop} {r : Int32} {t : r_T} {s : r_T} {x0 : Int32} {x1 : Int32} (h : fn_X12_hasBit x0 x1 s = some (r, t)) (hQ : Q r (r_emb s0 o ra t)) : w_X12_hasBit x0 x1 (r_emb s0 o ra s) Q := by
  unfold fn_X12_hasBit at h
  unfold w_X12_hasBit
  refine fg_ite Iff.rfl (fun d => ?_) (fun d => ?_)
  · have h := fg_if_t d h
    unfold w_X12_hasBit_14
    refine ⟨Or.inr rfl, ?_⟩
    obtain ⟨q, q2⟩ := fg_ret h
    subst q
    subst q2
    exact hQ
  · have h := fg_if_e d h
    unfold w_X12_hasBit_14
    refine ⟨Or.inl rfl, ?_⟩
    obtain ⟨q, q2⟩ := fg_ret h
    subst q
    subst q2
    exact hQ
set_option maxRecDepth 100000 in
set_option maxHeartbeats 4000000 in
theorem ft_X12_mix {o : Nat} {ra : Nat → Nat} {s0 : h_S} (hok : r_ok o ra s0) {Q : Int32 → h_S → Prop} {r : Int32} {t : r_T} {s : r_T} {x0 : Int32} {x1 : Int32} (h : fn_X12_mix x0 x1 s = some (r, t)) (hQ : Q r (r_emb s0 o ra t)) : w_X12_mix x0 x1 (r_emb s0 o ra s) Q := by
  unfold fn_X12_mix at h
  unfold w_X12_mix
  obtain ⟨v1, e_v1, h⟩ := fg_let_s h
  intro S_v1
  have z_v1 : v1 = S_v1 := e_v1
  clear_value S_v1
  subst z_v1
  obtain ⟨v2, e_v2, h⟩ := fg_let_s h
  intro S_v2
  have z_v2 : v2 = S_v2 := e_v2
  clear_value S_v2
  subst z_v2
  obtain ⟨q, q2⟩ := fg_ret h
  subst q
  subst q2
  exact hQ
set_option maxRecDepth 100000 in
set_option maxHeartbeats 4000000 in
theorem ft_X12_refused {o : Nat} {ra : Nat → Nat} {s0 : h_S} (hok : r_ok o ra s0) {Q : Int32 → h_S → Prop} {r : Int32} {t : r_T} {s : r_T} {x1 : Int32} (h : fn_X12_refused x1 s = some (r, t)) (hQ : Q r (r_emb s0 o ra t)) : w_X12_refused o x1 (r_emb s0 o ra s) Q := by
  unfold fn_X12_refused at h
  unfold w_X12_refused
  refine ⟨hok.1, ?_⟩
  obtain ⟨s2, e_s2, h⟩ := fg_let_s h
  intro S_s2
  have z_s2 : S_s2 = r_emb s0 o ra s2 := by rw [e_s2]; exact e_so _ _
  clear_value S_s2
  subst z_s2
  obtain ⟨q, q2⟩ := fg_ret h
  subst q
  subst q2
  exact hQ
set_option maxRecDepth 100000 in
set_option maxHeartbeats 4000000 in
theorem ft_X12_failed {o : Nat} {ra : Nat → Nat} {s0 : h_S} (hok : r_ok o ra s0) {Q : Int32 → h_S → Prop} {r : Int32} {t : r_T} {s : r_T} {x1 : Int32} (h : fn_X12_failed x1 s = some (r, t)) (hQ : Q r (r_emb s0 o ra t)) : w_X12_failed o x1 (r_emb s0 o ra s) Q := by
  unfold fn_X12_failed at h
  unfold w_X12_failed
  refine ⟨hok.1, ?_⟩
  obtain ⟨s2, e_s2, h⟩ := fg_let_s h
  intro S_s2
  have z_s2 : S_s2 = r_emb s0 o ra s2 := by rw [e_s2]; exact e_so _ _
  clear_value S_s2
  subst z_s2
  obtain ⟨q, q2⟩ := fg_ret h
  subst q
  subst q2
  exact hQ
set_option maxRecDepth 100000 in
set_option maxHeartbeats 4000000 in
theorem ft_X12_failedLong {o : Nat} {ra : Nat → Nat} {s0 : h_S} (hok : r_ok o ra s0) {Q : Int64 → h_S → Prop} {r : Int64} {t : r_T} {s : r_T} {x1 : Int32} (h : fn_X12_failedLong x1 s = some (r, t)) (hQ : Q r (r_emb s0 o ra t)) : w_X12_failedLong o x1 (r_emb s0 o ra s) Q := by
  unfold fn_X12_failedLong at h
  unfold w_X12_failedLong
  refine ⟨hok.1, ?_⟩
  obtain ⟨s2, e_s2, h⟩ := fg_let_s h
  intro S_s2
  have z_s2 : S_s2 = r_emb s0 o ra s2 := by rw [e_s2]; exact e_so _ _
  clear_value S_s2
  subst z_s2
  obtain ⟨p4, s3, e_s3, h⟩ := fg_b_s h
  refine ft_X12_lost hok e_s3 ?_
  obtain ⟨q, q2⟩ := fg_ret h
  subst q
  subst q2
  exact hQ
set_option maxRecDepth 100000 in
set_option maxHeartbeats 4000000 in
theorem ft_X12_acted {o : Nat} {ra : Nat → Nat} {s0 : h_S} (hok : r_ok o ra s0) {Q : Int32 → h_S → Prop} {r : Int32} {t : r_T} {s : r_T} {x1 : Int32} (h : fn_X12_acted x1 s = some (r, t)) (hQ : Q r (r_emb s0 o ra t)) : w_X12_acted o x1 (r_emb s0 o ra s) Q := by
  unfold fn_X12_acted at h
  unfold w_X12_acted
  refine ⟨hok.1, ?_⟩
  try simp -zeta only [e_io]
  obtain ⟨s2, e_s2, h⟩ := fg_let_s h
  intro S_s2
  have z_s2 : S_s2 = r_emb s0 o ra s2 := by rw [e_s2]; exact e_so _ _
  clear_value S_s2
  subst z_s2
  refine ⟨ra 2, fr_r2 hok, ?_⟩
  refine ⟨fr_k2 hok, ?_⟩
  try simp -zeta only [e_io]
  obtain ⟨c, h⟩ := fg_g_s h
  refine ⟨fr_vp (fr_n2 hok) c, ?_⟩
  try simp -zeta only [e_io, fr_i2 hok]
  obtain ⟨p7, s6, e_s6, h⟩ := fg_b_s h
  refine ft_X12_mix hok e_s6 ?_
  refine ⟨ra 2, fr_r2 hok, ?_⟩
  refine ⟨fr_k2 hok, ?_⟩
  try simp -zeta only [e_io]
  obtain ⟨c, h⟩ := fg_g_s h
  refine ⟨fr_vp (fr_n2 hok) c, ?_⟩
  try simp -zeta only [e_io]
  obtain ⟨s11, e_s11, h⟩ := fg_let_s h
  intro S_s11
  have z_s11 : S_s11 = r_emb s0 o ra s11 := by rw [e_s11]; exact fr_s2 hok _ _
  clear_value S_s11
  subst z_s11
  obtain ⟨q, q2⟩ := fg_ret h
  subst q
  subst q2
  exact hQ
set_option maxRecDepth 100000 in
set_option maxHeartbeats 4000000 in
theorem ft_X12_noHand {o : Nat} {ra : Nat → Nat} {s0 : h_S} (hok : r_ok o ra s0) {Q : Int32 → h_S → Prop} {r : Int32} {t : r_T} {s : r_T} {x1 : Int32} (h : fn_X12_noHand x1 s = some (r, t)) (hQ : Q r (r_emb s0 o ra t)) : w_X12_noHand o x1 (r_emb s0 o ra s) Q := by
  unfold fn_X12_noHand at h
  unfold w_X12_noHand
  refine ⟨hok.1, ?_⟩
  try simp -zeta only [e_io]
  obtain ⟨p3, s2, e_s2, h⟩ := fg_b_s h
  refine ft_X12_in hok e_s2 ?_
  refine fg_ite Iff.rfl (fun d => ?_) (fun d => ?_)
  · have h := fg_if_t d h
    unfold w_X12_noHand_21
    refine ⟨Or.inr rfl, ?_⟩
    obtain ⟨q, q2⟩ := fg_ret h
    subst q
    subst q2
    exact hQ
  · have h := fg_if_e d h
    unfold w_X12_noHand_21
    refine ⟨Or.inl rfl, ?_⟩
    obtain ⟨q, q2⟩ := fg_ret h
    subst q
    subst q2
    exact hQ
set_option maxRecDepth 100000 in
set_option maxHeartbeats 4000000 in
theorem ft_X12_noMoment {o : Nat} {ra : Nat → Nat} {s0 : h_S} (hok : r_ok o ra s0) {Q : Int32 → h_S → Prop} {r : Int32} {t : r_T} {s : r_T} {x1 : Int32} (h : fn_X12_noMoment x1 s = some (r, t)) (hQ : Q r (r_emb s0 o ra t)) : w_X12_noMoment o x1 (r_emb s0 o ra s) Q := by
  unfold fn_X12_noMoment at h
  unfold w_X12_noMoment
  refine ⟨hok.1, ?_⟩
  try simp -zeta only [e_io]
  obtain ⟨p3, s2, e_s2, h⟩ := fg_b_s h
  refine ft_X12_in hok e_s2 ?_
  refine fg_ite Iff.rfl (fun d => ?_) (fun d => ?_)
  · have h := fg_if_t d h
    unfold w_X12_noMoment_19
    refine ⟨Or.inr rfl, ?_⟩
    obtain ⟨q, q2⟩ := fg_ret h
    subst q
    subst q2
    exact hQ
  · have h := fg_if_e d h
    unfold w_X12_noMoment_19
    refine ⟨Or.inl rfl, ?_⟩
    obtain ⟨q, q2⟩ := fg_ret h
    subst q
    subst q2
    exact hQ
set_option maxRecDepth 100000 in
set_option maxHeartbeats 4000000 in
theorem ft_X12_hand {o : Nat} {ra : Nat → Nat} {s0 : h_S} (hok : r_ok o ra s0) {Q : Int32 → h_S → Prop} {r : Int32} {t : r_T} {s : r_T} (h : fn_X12_hand s = some (r, t)) (hQ : Q r (r_emb s0 o ra t)) : w_X12_hand o (r_emb s0 o ra s) Q := by
  unfold fn_X12_hand at h
  unfold w_X12_hand
  refine ⟨hok.1, ?_⟩
  try simp -zeta only [e_io]
  refine fg_ite Iff.rfl (fun d => ?_) (fun d => ?_)
  · have h := fg_if_t d h
    obtain ⟨q, q2⟩ := fg_ret h
    subst q
    subst q2
    exact hQ
  · have h := fg_if_e d h
    try simp -zeta only [e_io]
    obtain ⟨s3, e_s3, h⟩ := fg_let_s h
    intro S_s3
    have z_s3 : S_s3 = r_emb s0 o ra s3 := by rw [e_s3]; exact e_so _ _
    clear_value S_s3
    subst z_s3
    try simp -zeta only [e_io]
    obtain ⟨p5, s4, e_s4, h⟩ := fg_b_s h
    refine ft_X12_acted hok e_s4 ?_
    obtain ⟨q, q2⟩ := fg_ret h
    subst q
    subst q2
    exact hQ
set_option maxRecDepth 100000 in
set_option maxHeartbeats 4000000 in
theorem ft_X12_groupAt_7b {o : Nat} {ra : Nat → Nat} {s0 : h_S} (hok : r_ok o ra s0) {Q : Int32 → h_S → Prop} {r : Int32} {t : r_T} (hQ : Q r (r_emb s0 o ra t)) {K7 : Int32 → Int32 → Int32 → r_T → Option (Int32 × r_T)} {WK7 : Nat → Int32 → Int32 → Int32 → h_S → Prop} (hK7 : ∀ (n0 : Int32) (n1 : Int32) (n2 : Int32) (u : r_T), K7 n0 n1 n2 u = some (r, t) → WK7 o n0 n1 n2 (r_emb s0 o ra u)) {s : r_T} {x1 : Int32} {x2 : Int32} {x3 : Int32} (h : fn_X12_groupAt_7b K7 x1 x2 x3 s = some (r, t)) : w_X12_groupAt_7b Q WK7 o x1 x2 x3 (r_emb s0 o ra s) := by
  unfold fn_X12_groupAt_7b at h
  unfold w_X12_groupAt_7b
  refine fg_ite Iff.rfl (fun d => ?_) (fun d => ?_)
  · have h := fg_if_t d h
    obtain ⟨q, q2⟩ := fg_ret h
    subst q
    subst q2
    exact hQ
  · have h := fg_if_e d h
    refine ⟨hok.1, ?_⟩
    refine ⟨ra 5, fr_r5 hok, ?_⟩
    refine ⟨fr_k5 hok, ?_⟩
    obtain ⟨c, h⟩ := fg_g_s h
    refine ⟨fr_vp (fr_n5 hok) c, ?_⟩
    try simp -zeta only [fr_i5 hok]
    refine fg_ite Iff.rfl (fun d => ?_) (fun d => ?_)
    · have h := fg_if_t d h
      refine ⟨ra 7, fr_r7 hok, ?_⟩
      refine ⟨fr_k7 hok, ?_⟩
      obtain ⟨c, h⟩ := fg_g_s h
      refine ⟨fr_vp (fr_n7 hok) c, ?_⟩
      try simp -zeta only [fr_i7 hok]
      refine fg_ite Iff.rfl (fun d => ?_) (fun d => ?_)
      · have h := fg_if_t d h
        unfold w_X12_groupAt_38
        exact hK7 _ _ _ _ h
      · have h := fg_if_e d h
        refine ⟨ra 6, fr_r6 hok, ?_⟩
        refine ⟨fr_k6 hok, ?_⟩
        obtain ⟨c, h⟩ := fg_g_s h
        refine ⟨fr_vp (fr_n6 hok) c, ?_⟩
        try simp -zeta only [fr_i6 hok]
        obtain ⟨q, q2⟩ := fg_ret h
        subst q
        subst q2
        exact hQ
    · have h := fg_if_e d h
      unfold w_X12_groupAt_38
      exact hK7 _ _ _ _ h
set_option maxRecDepth 100000 in
set_option maxHeartbeats 4000000 in
theorem ft_X12_groupAt_7 {o : Nat} {ra : Nat → Nat} {s0 : h_S} (hok : r_ok o ra s0) {Q : Int32 → h_S → Prop} {r : Int32} {t : r_T} (hQ : Q r (r_emb s0 o ra t)) : ∀ (n : Nat) (x1 : Int32) (x2 : Int32) (x3 : Int32) (s : r_T), fn_X12_groupAt_7 n x1 x2 x3 s = some (r, t) → w_X12_groupAt_7 Q n o x1 x2 x3 (r_emb s0 o ra s) := by
  intro n
  induction n with
  | zero => intro x1 x2 x3 s h; exact fg_none h
  | succ n ih =>
    intro x1 x2 x3 s h
    exact ft_X12_groupAt_7b hok hQ ih h
set_option maxRecDepth 100000 in
set_option maxHeartbeats 4000000 in
theorem ft_X12_groupAt {o : Nat} {ra : Nat → Nat} {s0 : h_S} (hok : r_ok o ra s0) {Q : Int32 → h_S → Prop} {r : Int32} {t : r_T} {s : r_T} {x1 : Int32} {x2 : Int32} (h : fn_X12_groupAt x1 x2 s = some (r, t)) (hQ : Q r (r_emb s0 o ra t)) : w_X12_groupAt o x1 x2 (r_emb s0 o ra s) Q := by
  unfold fn_X12_groupAt at h
  unfold w_X12_groupAt
  refine ⟨hok.1, ?_⟩
  try simp -zeta only [e_io]
  exact ⟨g_N, ft_X12_groupAt_7 hok hQ g_N _ _ _ _ h⟩
set_option maxRecDepth 100000 in
set_option maxHeartbeats 4000000 in
theorem ft_X12_group {o : Nat} {ra : Nat → Nat} {s0 : h_S} (hok : r_ok o ra s0) {Q : Int32 → h_S → Prop} {r : Int32} {t : r_T} {s : r_T} {x1 : Int32} {x2 : Int32} (h : fn_X12_group x1 x2 s = some (r, t)) (hQ : Q r (r_emb s0 o ra t)) : w_X12_group o x1 x2 (r_emb s0 o ra s) Q := by
  unfold fn_X12_group at h
  unfold w_X12_group
  obtain ⟨p2, s1, e_s1, h⟩ := fg_b_s h
  refine ft_X12_in hok e_s1 ?_
  refine fg_ite Iff.rfl (fun d => ?_) (fun d => ?_)
  · have h := fg_if_t d h
    obtain ⟨q, q2⟩ := fg_ret h
    subst q
    subst q2
    exact hQ
  · have h := fg_if_e d h
    refine ⟨hok.1, ?_⟩
    try simp -zeta only [e_io]
    obtain ⟨p6, s5, e_s5, h⟩ := fg_b_s h
    refine ft_X12_in hok e_s5 ?_
    refine fg_ite Iff.rfl (fun d => ?_) (fun d => ?_)
    · have h := fg_if_t d h
      obtain ⟨q, q2⟩ := fg_ret h
      subst q
      subst q2
      exact hQ
    · have h := fg_if_e d h
      refine ⟨hok.1, ?_⟩
      try simp -zeta only [e_io]
      obtain ⟨p10, s9, e_s9, h⟩ := fg_b_s h
      refine ft_X12_groupAt hok e_s9 ?_
      refine ⟨hok.1, ?_⟩
      refine ⟨ra 5, fr_r5 hok, ?_⟩
      refine ⟨fr_k5 hok, ?_⟩
      try simp -zeta only [e_io]
      obtain ⟨c, h⟩ := fg_g_s h
      refine ⟨fr_vp (fr_n5 hok) c, ?_⟩
      try simp -zeta only [e_io]
      obtain ⟨s15, e_s15, h⟩ := fg_let_s h
      intro S_s15
      have z_s15 : S_s15 = r_emb s0 o ra s15 := by rw [e_s15]; exact fr_s5 hok _ _
      clear_value S_s15
      subst z_s15
      refine ⟨ra 6, fr_r6 hok, ?_⟩
      refine ⟨fr_k6 hok, ?_⟩
      try simp -zeta only [e_io]
      obtain ⟨c, h⟩ := fg_g_s h
      refine ⟨fr_vp (fr_n6 hok) c, ?_⟩
      try simp -zeta only [e_io]
      obtain ⟨s19, e_s19, h⟩ := fg_let_s h
      intro S_s19
      have z_s19 : S_s19 = r_emb s0 o ra s19 := by rw [e_s19]; exact fr_s6 hok _ _
      clear_value S_s19
      subst z_s19
      refine ⟨ra 7, fr_r7 hok, ?_⟩
      refine ⟨fr_k7 hok, ?_⟩
      try simp -zeta only [e_io]
      obtain ⟨c, h⟩ := fg_g_s h
      refine ⟨fr_vp (fr_n7 hok) c, ?_⟩
      try simp -zeta only [e_io]
      obtain ⟨s23, e_s23, h⟩ := fg_let_s h
      intro S_s23
      have z_s23 : S_s23 = r_emb s0 o ra s23 := by rw [e_s23]; exact fr_s7 hok _ _
      clear_value S_s23
      subst z_s23
      try simp -zeta only [e_io]
      obtain ⟨s24, e_s24, h⟩ := fg_let_s h
      intro S_s24
      have z_s24 : S_s24 = r_emb s0 o ra s24 := by rw [e_s24]; exact e_so _ _
      clear_value S_s24
      subst z_s24
      obtain ⟨p26, s25, e_s25, h⟩ := fg_b_s h
      refine ft_X12_acted hok e_s25 ?_
      obtain ⟨q, q2⟩ := fg_ret h
      subst q
      subst q2
      exact hQ
set_option maxRecDepth 100000 in
set_option maxHeartbeats 4000000 in
theorem ft_X12_noWriting {o : Nat} {ra : Nat → Nat} {s0 : h_S} (hok : r_ok o ra s0) {Q : Int32 → h_S → Prop} {r : Int32} {t : r_T} {s : r_T} {x1 : Int32} (h : fn_X12_noWriting x1 s = some (r, t)) (hQ : Q r (r_emb s0 o ra t)) : w_X12_noWriting o x1 (r_emb s0 o ra s) Q := by
  unfold fn_X12_noWriting at h
  unfold w_X12_noWriting
  refine ⟨hok.1, ?_⟩
  try simp -zeta only [e_io]
  obtain ⟨p3, s2, e_s2, h⟩ := fg_b_s h
  refine ft_X12_in hok e_s2 ?_
  refine fg_ite Iff.rfl (fun d => ?_) (fun d => ?_)
  · have h := fg_if_t d h
    unfold w_X12_noWriting_21
    refine ⟨Or.inr rfl, ?_⟩
    obtain ⟨q, q2⟩ := fg_ret h
    subst q
    subst q2
    exact hQ
  · have h := fg_if_e d h
    unfold w_X12_noWriting_21
    refine ⟨Or.inl rfl, ?_⟩
    obtain ⟨q, q2⟩ := fg_ret h
    subst q
    subst q2
    exact hQ
set_option maxRecDepth 100000 in
set_option maxHeartbeats 4000000 in
theorem ft_X12_logOf_7b {o : Nat} {ra : Nat → Nat} {s0 : h_S} (hok : r_ok o ra s0) {Q : Int32 → h_S → Prop} {r : Int32} {t : r_T} (hQ : Q r (r_emb s0 o ra t)) {K7 : Int32 → Int32 → r_T → Option (Int32 × r_T)} {WK7 : Nat → Int32 → Int32 → h_S → Prop} (hK7 : ∀ (n0 : Int32) (n1 : Int32) (u : r_T), K7 n0 n1 u = some (r, t) → WK7 o n0 n1 (r_emb s0 o ra u)) {s : r_T} {x2 : Int32} {x3 : Int32} (h : fn_X12_logOf_7b K7 x2 x3 s = some (r, t)) : w_X12_logOf_7b Q WK7 o x2 x3 (r_emb s0 o ra s) := by
  unfold fn_X12_logOf_7b at h
  unfold w_X12_logOf_7b
  refine fg_ite Iff.rfl (fun d => ?_) (fun d => ?_)
  · have h := fg_if_t d h
    unfold w_X12_logOf_31
    obtain ⟨q, q2⟩ := fg_ret h
    subst q
    subst q2
    exact hQ
  · have h := fg_if_e d h
    refine ⟨hok.1, ?_⟩
    refine ⟨ra 13, fr_r13 hok, ?_⟩
    refine ⟨fr_k13 hok, ?_⟩
    obtain ⟨c, h⟩ := fg_g_s h
    refine ⟨fr_vp (fr_n13 hok) c, ?_⟩
    try simp -zeta only [fr_i13 hok]
    refine fg_ite Iff.rfl (fun d => ?_) (fun d => ?_)
    · have h := fg_if_t d h
      unfold w_X12_logOf_31
      obtain ⟨q, q2⟩ := fg_ret h
      subst q
      subst q2
      exact hQ
    · have h := fg_if_e d h
      refine ⟨ra 12, fr_r12 hok, ?_⟩
      refine ⟨fr_k12 hok, ?_⟩
      obtain ⟨c, h⟩ := fg_g_s h
      refine ⟨fr_vp (fr_n12 hok) c, ?_⟩
      try simp -zeta only [fr_i12 hok]
      exact hK7 _ _ _ h
set_option maxRecDepth 100000 in
set_option maxHeartbeats 4000000 in
theorem ft_X12_logOf_7 {o : Nat} {ra : Nat → Nat} {s0 : h_S} (hok : r_ok o ra s0) {Q : Int32 → h_S → Prop} {r : Int32} {t : r_T} (hQ : Q r (r_emb s0 o ra t)) : ∀ (n : Nat) (x2 : Int32) (x3 : Int32) (s : r_T), fn_X12_logOf_7 n x2 x3 s = some (r, t) → w_X12_logOf_7 Q n o x2 x3 (r_emb s0 o ra s) := by
  intro n
  induction n with
  | zero => intro x2 x3 s h; exact fg_none h
  | succ n ih =>
    intro x2 x3 s h
    exact ft_X12_logOf_7b hok hQ ih h
set_option maxRecDepth 100000 in
set_option maxHeartbeats 4000000 in
theorem ft_X12_logOf {o : Nat} {ra : Nat → Nat} {s0 : h_S} (hok : r_ok o ra s0) {Q : Int32 → h_S → Prop} {r : Int32} {t : r_T} {s : r_T} {x1 : Int32} {x2 : Int32} (h : fn_X12_logOf x1 x2 s = some (r, t)) (hQ : Q r (r_emb s0 o ra t)) : w_X12_logOf o x1 x2 (r_emb s0 o ra s) Q := by
  unfold fn_X12_logOf at h
  unfold w_X12_logOf
  refine ⟨hok.1, ?_⟩
  refine ⟨ra 11, fr_r11 hok, ?_⟩
  refine ⟨fr_k11 hok, ?_⟩
  obtain ⟨c, h⟩ := fg_g_s h
  refine ⟨fr_vp (fr_n11 hok) c, ?_⟩
  try simp -zeta only [fr_i11 hok]
  exact ⟨g_N, ft_X12_logOf_7 hok hQ g_N _ _ _ h⟩
set_option maxRecDepth 100000 in
set_option maxHeartbeats 4000000 in
theorem ft_X12_writing {o : Nat} {ra : Nat → Nat} {s0 : h_S} (hok : r_ok o ra s0) {Q : Int32 → h_S → Prop} {r : Int32} {t : r_T} {s : r_T} {x1 : Int32} (h : fn_X12_writing x1 s = some (r, t)) (hQ : Q r (r_emb s0 o ra t)) : w_X12_writing o x1 (r_emb s0 o ra s) Q := by
  unfold fn_X12_writing at h
  unfold w_X12_writing
  refine ⟨hok.1, ?_⟩
  obtain ⟨p3, s2, e_s2, h⟩ := fg_b_s h
  refine ft_X12_noHand hok e_s2 ?_
  refine fg_ite Iff.rfl (fun d => ?_) (fun d => ?_)
  · have h := fg_if_t d h
    refine ⟨hok.1, ?_⟩
    try simp -zeta only [e_io]
    refine fg_ite Iff.rfl (fun d => ?_) (fun d => ?_)
    · have h := fg_if_t d h
      obtain ⟨q, q2⟩ := fg_ret h
      subst q
      subst q2
      exact hQ
    · have h := fg_if_e d h
      refine ⟨ra 9, fr_r9 hok, ?_⟩
      refine ⟨fr_k9 hok, ?_⟩
      try simp -zeta only [e_io]
      obtain ⟨c, h⟩ := fg_g_s h
      refine ⟨fr_vp (fr_n9 hok) c, ?_⟩
      try simp -zeta only [e_io]
      obtain ⟨s10, e_s10, h⟩ := fg_let_s h
      intro S_s10
      have z_s10 : S_s10 = r_emb s0 o ra s10 := by rw [e_s10]; exact fr_s9 hok _ _
      clear_value S_s10
      subst z_s10
      try simp -zeta only [e_io]
      obtain ⟨s11, e_s11, h⟩ := fg_let_s h
      intro S_s11
      have z_s11 : S_s11 = r_emb s0 o ra s11 := by rw [e_s11]; exact e_so _ _
      clear_value S_s11
      subst z_s11
      try simp -zeta only [e_io]
      obtain ⟨p13, s12, e_s12, h⟩ := fg_b_s h
      refine ft_X12_acted hok e_s12 ?_
      obtain ⟨q, q2⟩ := fg_ret h
      subst q
      subst q2
      exact hQ
  · have h := fg_if_e d h
    obtain ⟨q, q2⟩ := fg_ret h
    subst q
    subst q2
    exact hQ
set_option maxRecDepth 100000 in
set_option maxHeartbeats 4000000 in
theorem ft_X12_noWord {o : Nat} {ra : Nat → Nat} {s0 : h_S} (hok : r_ok o ra s0) {Q : Int32 → h_S → Prop} {r : Int32} {t : r_T} {s : r_T} {x1 : Int32} (h : fn_X12_noWord x1 s = some (r, t)) (hQ : Q r (r_emb s0 o ra t)) : w_X12_noWord o x1 (r_emb s0 o ra s) Q := by
  unfold fn_X12_noWord at h
  unfold w_X12_noWord
  refine ⟨hok.1, ?_⟩
  try simp -zeta only [e_io]
  obtain ⟨p3, s2, e_s2, h⟩ := fg_b_s h
  refine ft_X12_in hok e_s2 ?_
  refine fg_ite Iff.rfl (fun d => ?_) (fun d => ?_)
  · have h := fg_if_t d h
    unfold w_X12_noWord_21
    refine ⟨Or.inr rfl, ?_⟩
    obtain ⟨q, q2⟩ := fg_ret h
    subst q
    subst q2
    exact hQ
  · have h := fg_if_e d h
    unfold w_X12_noWord_21
    refine ⟨Or.inl rfl, ?_⟩
    obtain ⟨q, q2⟩ := fg_ret h
    subst q
    subst q2
    exact hQ
set_option maxRecDepth 100000 in
set_option maxHeartbeats 4000000 in
theorem ft_X12_enter_68 {o : Nat} {ra : Nat → Nat} {s0 : h_S} (hok : r_ok o ra s0) {Q : h_S → Prop} {r : Unit} {t : r_T} (hQ : Q (r_emb s0 o ra t)) {s : r_T} {x1 : Int32} {y0 : Int32} {y1 : Int32} (h : fn_X12_enter_68 x1 y0 y1 s = some (r, t)) : w_X12_enter_68 Q o x1 y0 y1 (some (ra 33)) (r_emb s0 o ra s) := by
  unfold fn_X12_enter_68 at h
  unfold w_X12_enter_68
  refine ⟨ra 33, rfl, ?_⟩
  refine ⟨fr_k33 hok, ?_⟩
  obtain ⟨c, h⟩ := fg_g_s h
  refine ⟨fr_vp (fr_n33 hok) c, ?_⟩
  obtain ⟨s4, e_s4, h⟩ := fg_let_s h
  intro S_s4
  have z_s4 : S_s4 = r_emb s0 o ra s4 := by rw [e_s4]; exact fr_s33 hok _ _
  clear_value S_s4
  subst z_s4
  refine ⟨hok.1, ?_⟩
  refine ⟨ra 34, fr_r34 hok, ?_⟩
  refine ⟨fr_k34 hok, ?_⟩
  obtain ⟨c, h⟩ := fg_g_s h
  refine ⟨fr_vp (fr_n34 hok) c, ?_⟩
  obtain ⟨s9, e_s9, h⟩ := fg_let_s h
  intro S_s9
  have z_s9 : S_s9 = r_emb s0 o ra s9 := by rw [e_s9]; exact fr_s34 hok _ _
  clear_value S_s9
  subst z_s9
  obtain ⟨_, q⟩ := fg_ret h
  subst q
  exact hQ
set_option maxRecDepth 100000 in
set_option maxHeartbeats 4000000 in
theorem ft_X12_enter {o : Nat} {ra : Nat → Nat} {s0 : h_S} (hok : r_ok o ra s0) {Q : h_S → Prop} {r : Unit} {t : r_T} {s : r_T} {x1 : Int32} {x2 : Int32} {x3 : Int32} {x4 : Int32} {x5 : Int32} (h : fn_X12_enter x1 x2 x3 x4 x5 s = some (r, t)) (hQ : Q (r_emb s0 o ra t)) : w_X12_enter o x1 x2 x3 x4 x5 (r_emb s0 o ra s) Q := by
  unfold fn_X12_enter at h
  unfold w_X12_enter
  refine ⟨hok.1, ?_⟩
  refine ⟨ra 31, fr_r31 hok, ?_⟩
  refine ⟨fr_k31 hok, ?_⟩
  obtain ⟨c, h⟩ := fg_g_s h
  refine ⟨fr_vp (fr_n31 hok) c, ?_⟩
  obtain ⟨s5, e_s5, h⟩ := fg_let_s h
  intro S_s5
  have z_s5 : S_s5 = r_emb s0 o ra s5 := by rw [e_s5]; exact fr_s31 hok _ _
  clear_value S_s5
  subst z_s5
  refine ⟨ra 30, fr_r30 hok, ?_⟩
  refine ⟨fr_k30 hok, ?_⟩
  obtain ⟨c, h⟩ := fg_g_s h
  refine ⟨fr_vp (fr_n30 hok) c, ?_⟩
  obtain ⟨s9, e_s9, h⟩ := fg_let_s h
  intro S_s9
  have z_s9 : S_s9 = r_emb s0 o ra s9 := by rw [e_s9]; exact fr_s30 hok _ _
  clear_value S_s9
  subst z_s9
  obtain ⟨p11, s10, e_s10, h⟩ := fg_b_s h
  refine ft_X12_logOf hok e_s10 ?_
  refine ⟨ra 28, fr_r28 hok, ?_⟩
  refine ⟨fr_k28 hok, ?_⟩
  obtain ⟨c, h⟩ := fg_g_s h
  refine ⟨fr_vp (fr_n28 hok) c, ?_⟩
  obtain ⟨s15, e_s15, h⟩ := fg_let_s h
  intro S_s15
  have z_s15 : S_s15 = r_emb s0 o ra s15 := by rw [e_s15]; exact fr_s28 hok _ _
  clear_value S_s15
  subst z_s15
  refine ⟨hok.1, ?_⟩
  refine ⟨ra 29, fr_r29 hok, ?_⟩
  refine ⟨fr_k29 hok, ?_⟩
  obtain ⟨c, h⟩ := fg_g_s h
  refine ⟨fr_vp (fr_n29 hok) c, ?_⟩
  obtain ⟨s20, e_s20, h⟩ := fg_let_s h
  intro S_s20
  have z_s20 : S_s20 = r_emb s0 o ra s20 := by rw [e_s20]; exact fr_s29 hok _ _
  clear_value S_s20
  subst z_s20
  refine ⟨ra 32, fr_r32 hok, ?_⟩
  refine ⟨fr_k32 hok, ?_⟩
  obtain ⟨c, h⟩ := fg_g_s h
  refine ⟨fr_vp (fr_n32 hok) c, ?_⟩
  obtain ⟨s24, e_s24, h⟩ := fg_let_s h
  intro S_s24
  have z_s24 : S_s24 = r_emb s0 o ra s24 := by rw [e_s24]; exact fr_s32 hok _ _
  clear_value S_s24
  subst z_s24
  refine fg_ite Iff.rfl (fun d => ?_) (fun d => ?_)
  · have h := fg_if_t d h
    rw [fr_r33 hok]
    exact ft_X12_enter_68 hok hQ h
  · have h := fg_if_e d h
    rw [fr_r33 hok]
    exact ft_X12_enter_68 hok hQ h
set_option maxRecDepth 100000 in
set_option maxHeartbeats 4000000 in
theorem ft_X12_isDone_4b {o : Nat} {ra : Nat → Nat} {s0 : h_S} (hok : r_ok o ra s0) {Q : Int32 → h_S → Prop} {r : Int32} {t : r_T} (hQ : Q r (r_emb s0 o ra t)) {K4 : Int32 → Int32 → Int32 → r_T → Option (Int32 × r_T)} {WK4 : Nat → Int32 → Int32 → Int32 → h_S → Prop} (hK4 : ∀ (n0 : Int32) (n1 : Int32) (n2 : Int32) (u : r_T), K4 n0 n1 n2 u = some (r, t) → WK4 o n0 n1 n2 (r_emb s0 o ra u)) {s : r_T} {x1 : Int32} {x2 : Int32} {x3 : Int32} (h : fn_X12_isDone_4b K4 x1 x2 x3 s = some (r, t)) : w_X12_isDone_4b Q WK4 o x1 x2 x3 (r_emb s0 o ra s) := by
  unfold fn_X12_isDone_4b at h
  unfold w_X12_isDone_4b
  refine fg_ite Iff.rfl (fun d => ?_) (fun d => ?_)
  · have h := fg_if_t d h
    obtain ⟨c, h⟩ := fg_g_s h
    refine ⟨c, ?_⟩
    obtain ⟨q, q2⟩ := fg_ret h
    subst q
    subst q2
    exact hQ
  · have h := fg_if_e d h
    refine fg_ite Iff.rfl (fun d => ?_) (fun d => ?_)
    · have h := fg_if_t d h
      refine ⟨hok.1, ?_⟩
      refine ⟨ra 34, fr_r34 hok, ?_⟩
      refine ⟨fr_k34 hok, ?_⟩
      obtain ⟨c, h⟩ := fg_g_s h
      refine ⟨fr_vp (fr_n34 hok) c, ?_⟩
      refine ⟨ra 33, fr_r33 hok, ?_⟩
      refine ⟨fr_k33 hok, ?_⟩
      obtain ⟨c, h⟩ := fg_g_s h
      refine ⟨fr_vp (fr_n33 hok) c, ?_⟩
      try simp -zeta only [fr_i33 hok, fr_i34 hok]
      refine fg_ite Iff.rfl (fun d => ?_) (fun d => ?_)
      · have h := fg_if_t d h
        unfold w_X12_isDone_33
        exact hK4 _ _ _ _ h
      · have h := fg_if_e d h
        unfold w_X12_isDone_28
        unfold w_X12_isDone_33
        exact hK4 _ _ _ _ h
    · have h := fg_if_e d h
      unfold w_X12_isDone_28
      unfold w_X12_isDone_33
      exact hK4 _ _ _ _ h
set_option maxRecDepth 100000 in
set_option maxHeartbeats 4000000 in
theorem ft_X12_isDone_4 {o : Nat} {ra : Nat → Nat} {s0 : h_S} (hok : r_ok o ra s0) {Q : Int32 → h_S → Prop} {r : Int32} {t : r_T} (hQ : Q r (r_emb s0 o ra t)) : ∀ (n : Nat) (x1 : Int32) (x2 : Int32) (x3 : Int32) (s : r_T), fn_X12_isDone_4 n x1 x2 x3 s = some (r, t) → w_X12_isDone_4 Q n o x1 x2 x3 (r_emb s0 o ra s) := by
  intro n
  induction n with
  | zero => intro x1 x2 x3 s h; exact fg_none h
  | succ n ih =>
    intro x1 x2 x3 s h
    exact ft_X12_isDone_4b hok hQ ih h
set_option maxRecDepth 100000 in
set_option maxHeartbeats 4000000 in
theorem ft_X12_isDone {o : Nat} {ra : Nat → Nat} {s0 : h_S} (hok : r_ok o ra s0) {Q : Int32 → h_S → Prop} {r : Int32} {t : r_T} {s : r_T} {x1 : Int32} (h : fn_X12_isDone x1 s = some (r, t)) (hQ : Q r (r_emb s0 o ra t)) : w_X12_isDone o x1 (r_emb s0 o ra s) Q := by
  unfold fn_X12_isDone at h
  unfold w_X12_isDone
  exact ⟨g_N, ft_X12_isDone_4 hok hQ g_N _ _ _ _ h⟩
set_option maxRecDepth 100000 in
set_option maxHeartbeats 4000000 in
theorem ft_X12_show_134 {o : Nat} {ra : Nat → Nat} {s0 : h_S} (hok : r_ok o ra s0) {Q : h_S → Prop} {r : Unit} {t : r_T} (hQ : Q (r_emb s0 o ra t)) {K5 : Int32 → Int32 → Int32 → Int32 → r_T → Option (Unit × r_T)} {WK5 : Nat → Int32 → Int32 → Int32 → Int32 → h_S → Prop} (hK5 : ∀ (n0 : Int32) (n1 : Int32) (n2 : Int32) (n3 : Int32) (u : r_T), K5 n0 n1 n2 n3 u = some (r, t) → WK5 o n0 n1 n2 n3 (r_emb s0 o ra u)) {s : r_T} {x1 : Int32} {x2 : Int32} {x3 : Int32} {x4 : Int32} {x5 : Int32} (h : fn_X12_show_134 K5 x1 x2 x3 x4 x5 s = some (r, t)) : w_X12_show_134 Q WK5 o x1 x2 x3 x4 x5 (r_emb s0 o ra s) := by
  unfold fn_X12_show_134 at h
  unfold w_X12_show_134
  refine fg_ite Iff.rfl (fun d => ?_) (fun d => ?_)
  · have h := fg_if_t d h
    unfold w_X12_show_154
    unfold w_X12_show_155
    exact hK5 _ _ _ _ _ h
  · have h := fg_if_e d h
    refine ⟨hok.1, ?_⟩
    refine ⟨ra 32, fr_r32 hok, ?_⟩
    refine ⟨fr_k32 hok, ?_⟩
    obtain ⟨c, h⟩ := fg_g_s h
    refine ⟨fr_vp (fr_n32 hok) c, ?_⟩
    try simp -zeta only [fr_i32 hok]
    refine fg_ite Iff.rfl (fun d => ?_) (fun d => ?_)
    · have h := fg_if_t d h
      unfold w_X12_show_154
      unfold w_X12_show_155
      exact hK5 _ _ _ _ _ h
    · have h := fg_if_e d h
      unfold w_X12_show_155
      exact hK5 _ _ _ _ _ h
set_option maxRecDepth 100000 in
set_option maxHeartbeats 4000000 in
theorem ft_X12_show_131 {o : Nat} {ra : Nat → Nat} {s0 : h_S} (hok : r_ok o ra s0) {Q : h_S → Prop} {r : Unit} {t : r_T} (hQ : Q (r_emb s0 o ra t)) {K5 : Int32 → Int32 → Int32 → Int32 → r_T → Option (Unit × r_T)} {WK5 : Nat → Int32 → Int32 → Int32 → Int32 → h_S → Prop} (hK5 : ∀ (n0 : Int32) (n1 : Int32) (n2 : Int32) (n3 : Int32) (u : r_T), K5 n0 n1 n2 n3 u = some (r, t) → WK5 o n0 n1 n2 n3 (r_emb s0 o ra u)) {s : r_T} {x1 : Int32} {x2 : Int32} {x3 : Int32} {x5 : Int32} (h : fn_X12_show_131 K5 x1 x2 x3 x5 s = some (r, t)) : w_X12_show_131 Q WK5 o x1 x2 x3 x5 (r_emb s0 o ra s) := by
  unfold fn_X12_show_131 at h
  unfold w_X12_show_131
  exact ft_X12_show_134 hok hQ hK5 h
set_option maxRecDepth 100000 in
set_option maxHeartbeats 4000000 in
theorem ft_X12_show_100b {o : Nat} {ra : Nat → Nat} {s0 : h_S} (hok : r_ok o ra s0) {Q : h_S → Prop} {r : Unit} {t : r_T} (hQ : Q (r_emb s0 o ra t)) {K5 : Int32 → Int32 → Int32 → Int32 → r_T → Option (Unit × r_T)} {WK5 : Nat → Int32 → Int32 → Int32 → Int32 → h_S → Prop} (hK5 : ∀ (n0 : Int32) (n1 : Int32) (n2 : Int32) (n3 : Int32) (u : r_T), K5 n0 n1 n2 n3 u = some (r, t) → WK5 o n0 n1 n2 n3 (r_emb s0 o ra u)) {K100 : Int32 → Int32 → Int32 → Int32 → Int32 → r_T → Option (Unit × r_T)} {WK100 : Nat → Int32 → Int32 → Int32 → Int32 → Int32 → h_S → Prop} (hK100 : ∀ (n0 : Int32) (n1 : Int32) (n2 : Int32) (n3 : Int32) (n4 : Int32) (u : r_T), K100 n0 n1 n2 n3 n4 u = some (r, t) → WK100 o n0 n1 n2 n3 n4 (r_emb s0 o ra u)) {s : r_T} {x1 : Int32} {x2 : Int32} {x3 : Int32} {x5 : Int32} {x6 : Int32} (h : fn_X12_show_100b K5 K100 x1 x2 x3 x5 x6 s = some (r, t)) : w_X12_show_100b Q WK5 WK100 o x1 x2 x3 x5 x6 (r_emb s0 o ra s) := by
  unfold fn_X12_show_100b at h
  unfold w_X12_show_100b
  refine fg_ite Iff.rfl (fun d => ?_) (fun d => ?_)
  · have h := fg_if_t d h
    exact ft_X12_show_131 hok hQ hK5 h
  · have h := fg_if_e d h
    refine ⟨hok.1, ?_⟩
    refine ⟨ra 31, fr_r31 hok, ?_⟩
    refine ⟨fr_k31 hok, ?_⟩
    obtain ⟨c, h⟩ := fg_g_s h
    refine ⟨fr_vp (fr_n31 hok) c, ?_⟩
    refine ⟨ra 39, fr_r39 hok, ?_⟩
    refine ⟨fr_k39 hok, ?_⟩
    obtain ⟨c, h⟩ := fg_g_s h
    refine ⟨fr_vp (fr_n39 hok) c, ?_⟩
    try simp -zeta only [fr_i31 hok]
    obtain ⟨s9, e_s9, h⟩ := fg_let_s h
    intro S_s9
    have z_s9 : S_s9 = r_emb s0 o ra s9 := by rw [e_s9]; exact fr_s39 hok _ _
    clear_value S_s9
    subst z_s9
    exact hK100 _ _ _ _ _ _ h
set_option maxRecDepth 100000 in
set_option maxHeartbeats 4000000 in
theorem ft_X12_show_100 {o : Nat} {ra : Nat → Nat} {s0 : h_S} (hok : r_ok o ra s0) {Q : h_S → Prop} {r : Unit} {t : r_T} (hQ : Q (r_emb s0 o ra t)) {K5 : Int32 → Int32 → Int32 → Int32 → r_T → Option (Unit × r_T)} {WK5 : Nat → Int32 → Int32 → Int32 → Int32 → h_S → Prop} (hK5 : ∀ (n0 : Int32) (n1 : Int32) (n2 : Int32) (n3 : Int32) (u : r_T), K5 n0 n1 n2 n3 u = some (r, t) → WK5 o n0 n1 n2 n3 (r_emb s0 o ra u)) : ∀ (n : Nat) (x1 : Int32) (x2 : Int32) (x3 : Int32) (x5 : Int32) (x6 : Int32) (s : r_T), fn_X12_show_100 K5 n x1 x2 x3 x5 x6 s = some (r, t) → w_X12_show_100 Q WK5 n o x1 x2 x3 x5 x6 (r_emb s0 o ra s) := by
  intro n
  induction n with
  | zero => intro x1 x2 x3 x5 x6 s h; exact fg_none h
  | succ n ih =>
    intro x1 x2 x3 x5 x6 s h
    exact ft_X12_show_100b hok hQ hK5 ih h
set_option maxRecDepth 100000 in
set_option maxHeartbeats 4000000 in
theorem ft_X12_show_53 {o : Nat} {ra : Nat → Nat} {s0 : h_S} (hok : r_ok o ra s0) {Q : h_S → Prop} {r : Unit} {t : r_T} (hQ : Q (r_emb s0 o ra t)) {K5 : Int32 → Int32 → Int32 → Int32 → r_T → Option (Unit × r_T)} {WK5 : Nat → Int32 → Int32 → Int32 → Int32 → h_S → Prop} (hK5 : ∀ (n0 : Int32) (n1 : Int32) (n2 : Int32) (n3 : Int32) (u : r_T), K5 n0 n1 n2 n3 u = some (r, t) → WK5 o n0 n1 n2 n3 (r_emb s0 o ra u)) {s : r_T} {x1 : Int32} {x2 : Int32} {x3 : Int32} {x4 : Int32} {x5 : Int32} {y0 : Int32} {y1 : Int32} {y2 : Int32} (h : fn_X12_show_53 K5 x1 x2 x3 x4 x5 y0 y1 y2 s = some (r, t)) : w_X12_show_53 Q WK5 o x1 x2 x3 x4 x5 y0 y1 y2 (some (ra 34)) (r_emb s0 o ra s) := by
  unfold fn_X12_show_53 at h
  unfold w_X12_show_53
  refine ⟨ra 34, rfl, ?_⟩
  refine ⟨fr_k34 hok, ?_⟩
  obtain ⟨c, h⟩ := fg_g_s h
  refine ⟨fr_vp (fr_n34 hok) c, ?_⟩
  obtain ⟨s4, e_s4, h⟩ := fg_let_s h
  intro S_s4
  have z_s4 : S_s4 = r_emb s0 o ra s4 := by rw [e_s4]; exact fr_s34 hok _ _
  clear_value S_s4
  subst z_s4
  refine fg_ite Iff.rfl (fun d => ?_) (fun d => ?_)
  · have h := fg_if_t d h
    refine fg_ite Iff.rfl (fun d => ?_) (fun d => ?_)
    · have h := fg_if_t d h
      exact ft_X12_show_131 hok hQ hK5 h
    · have h := fg_if_e d h
      refine ⟨hok.1, ?_⟩
      refine ⟨ra 36, fr_r36 hok, ?_⟩
      refine ⟨fr_k36 hok, ?_⟩
      obtain ⟨c, h⟩ := fg_g_s h
      refine ⟨fr_vp (fr_n36 hok) c, ?_⟩
      obtain ⟨s11, e_s11, h⟩ := fg_let_s h
      intro S_s11
      have z_s11 : S_s11 = r_emb s0 o ra s11 := by rw [e_s11]; exact fr_s36 hok _ _
      clear_value S_s11
      subst z_s11
      refine ⟨ra 29, fr_r29 hok, ?_⟩
      refine ⟨fr_k29 hok, ?_⟩
      obtain ⟨c, h⟩ := fg_g_s h
      refine ⟨fr_vp (fr_n29 hok) c, ?_⟩
      refine ⟨ra 37, fr_r37 hok, ?_⟩
      refine ⟨fr_k37 hok, ?_⟩
      obtain ⟨c, h⟩ := fg_g_s h
      refine ⟨fr_vp (fr_n37 hok) c, ?_⟩
      try simp -zeta only [fr_i29 hok]
      obtain ⟨s18, e_s18, h⟩ := fg_let_s h
      intro S_s18
      have z_s18 : S_s18 = r_emb s0 o ra s18 := by rw [e_s18]; exact fr_s37 hok _ _
      clear_value S_s18
      subst z_s18
      refine ⟨ra 38, fr_r38 hok, ?_⟩
      refine ⟨fr_k38 hok, ?_⟩
      obtain ⟨c, h⟩ := fg_g_s h
      refine ⟨fr_vp (fr_n38 hok) c, ?_⟩
      obtain ⟨s22, e_s22, h⟩ := fg_let_s h
      intro S_s22
      have z_s22 : S_s22 = r_emb s0 o ra s22 := by rw [e_s22]; exact fr_s38 hok _ _
      clear_value S_s22
      subst z_s22
      exact ⟨g_N, ft_X12_show_100 hok hQ hK5 g_N _ _ _ _ _ _ h⟩
  · have h := fg_if_e d h
    exact ft_X12_show_134 hok hQ hK5 h
set_option maxRecDepth 100000 in
set_option maxHeartbeats 4000000 in
theorem ft_X12_show_34 {o : Nat} {ra : Nat → Nat} {s0 : h_S} (hok : r_ok o ra s0) {Q : h_S → Prop} {r : Unit} {t : r_T} (hQ : Q (r_emb s0 o ra t)) {K5 : Int32 → Int32 → Int32 → Int32 → r_T → Option (Unit × r_T)} {WK5 : Nat → Int32 → Int32 → Int32 → Int32 → h_S → Prop} (hK5 : ∀ (n0 : Int32) (n1 : Int32) (n2 : Int32) (n3 : Int32) (u : r_T), K5 n0 n1 n2 n3 u = some (r, t) → WK5 o n0 n1 n2 n3 (r_emb s0 o ra u)) {s : r_T} {x1 : Int32} {x2 : Int32} {x3 : Int32} {x5 : Int32} {y0 : Int32} (h : fn_X12_show_34 K5 x1 x2 x3 x5 y0 s = some (r, t)) : w_X12_show_34 Q WK5 o x1 x2 x3 x5 y0 (r_emb s0 o ra s) := by
  unfold fn_X12_show_34 at h
  unfold w_X12_show_34
  refine ⟨hok.1, ?_⟩
  refine ⟨ra 34, fr_r34 hok, ?_⟩
  refine ⟨fr_k34 hok, ?_⟩
  obtain ⟨c, h⟩ := fg_g_s h
  refine ⟨fr_vp (fr_n34 hok) c, ?_⟩
  refine fg_ite Iff.rfl (fun d => ?_) (fun d => ?_)
  · have h := fg_if_t d h
    try simp -zeta only [fr_i34 hok]
    rw [fr_r34 hok]
    exact ft_X12_show_53 hok hQ hK5 h
  · have h := fg_if_e d h
    try simp -zeta only [fr_i34 hok]
    rw [fr_r34 hok]
    exact ft_X12_show_53 hok hQ hK5 h
set_option maxRecDepth 100000 in
set_option maxHeartbeats 4000000 in
theorem ft_X12_show_5b {o : Nat} {ra : Nat → Nat} {s0 : h_S} (hok : r_ok o ra s0) {Q : h_S → Prop} {r : Unit} {t : r_T} (hQ : Q (r_emb s0 o ra t)) {K5 : Int32 → Int32 → Int32 → Int32 → r_T → Option (Unit × r_T)} {WK5 : Nat → Int32 → Int32 → Int32 → Int32 → h_S → Prop} (hK5 : ∀ (n0 : Int32) (n1 : Int32) (n2 : Int32) (n3 : Int32) (u : r_T), K5 n0 n1 n2 n3 u = some (r, t) → WK5 o n0 n1 n2 n3 (r_emb s0 o ra u)) {s : r_T} {x1 : Int32} {x2 : Int32} {x3 : Int32} {x4 : Int32} (h : fn_X12_show_5b K5 x1 x2 x3 x4 s = some (r, t)) : w_X12_show_5b Q WK5 o x1 x2 x3 x4 (r_emb s0 o ra s) := by
  unfold fn_X12_show_5b at h
  unfold w_X12_show_5b
  refine fg_ite Iff.rfl (fun d => ?_) (fun d => ?_)
  · have h := fg_if_t d h
    obtain ⟨_, q⟩ := fg_ret h
    subst q
    exact hQ
  · have h := fg_if_e d h
    refine ⟨hok.1, ?_⟩
    refine ⟨ra 34, fr_r34 hok, ?_⟩
    refine ⟨fr_k34 hok, ?_⟩
    obtain ⟨c, h⟩ := fg_g_s h
    refine ⟨fr_vp (fr_n34 hok) c, ?_⟩
    refine ⟨ra 33, fr_r33 hok, ?_⟩
    refine ⟨fr_k33 hok, ?_⟩
    obtain ⟨c, h⟩ := fg_g_s h
    refine ⟨fr_vp (fr_n33 hok) c, ?_⟩
    try simp -zeta only [fr_i33 hok, fr_i34 hok]
    refine fg_ite Iff.rfl (fun d => ?_) (fun d => ?_)
    · have h := fg_if_t d h
      try simp -zeta only [fr_i34 hok]
      exact ft_X12_show_34 hok hQ hK5 h
    · have h := fg_if_e d h
      try simp -zeta only [fr_i34 hok]
      exact ft_X12_show_34 hok hQ hK5 h
set_option maxRecDepth 100000 in
set_option maxHeartbeats 4000000 in
theorem ft_X12_show_5 {o : Nat} {ra : Nat → Nat} {s0 : h_S} (hok : r_ok o ra s0) {Q : h_S → Prop} {r : Unit} {t : r_T} (hQ : Q (r_emb s0 o ra t)) : ∀ (n : Nat) (x1 : Int32) (x2 : Int32) (x3 : Int32) (x4 : Int32) (s : r_T), fn_X12_show_5 n x1 x2 x3 x4 s = some (r, t) → w_X12_show_5 Q n o x1 x2 x3 x4 (r_emb s0 o ra s) := by
  intro n
  induction n with
  | zero => intro x1 x2 x3 x4 s h; exact fg_none h
  | succ n ih =>
    intro x1 x2 x3 x4 s h
    exact ft_X12_show_5b hok hQ ih h
set_option maxRecDepth 100000 in
set_option maxHeartbeats 4000000 in
theorem ft_X12_show {o : Nat} {ra : Nat → Nat} {s0 : h_S} (hok : r_ok o ra s0) {Q : h_S → Prop} {r : Unit} {t : r_T} {s : r_T} {x1 : Int32} {x2 : Int32} (h : fn_X12_show x1 x2 s = some (r, t)) (hQ : Q (r_emb s0 o ra t)) : w_X12_show o x1 x2 (r_emb s0 o ra s) Q := by
  unfold fn_X12_show at h
  unfold w_X12_show
  exact ⟨g_N, ft_X12_show_5 hok hQ g_N _ _ _ _ _ h⟩
set_option maxRecDepth 100000 in
set_option maxHeartbeats 4000000 in
theorem ft_X12_layLog_114b {o : Nat} {ra : Nat → Nat} {s0 : h_S} (hok : r_ok o ra s0) {Q : h_S → Prop} {r : Unit} {t : r_T} (hQ : Q (r_emb s0 o ra t)) {K21 : Int32 → r_T → Option (Unit × r_T)} {WK21 : Nat → Int32 → h_S → Prop} (hK21 : ∀ (n0 : Int32) (u : r_T), K21 n0 u = some (r, t) → WK21 o n0 (r_emb s0 o ra u)) {K114 : Int32 → Int32 → Int32 → r_T → Option (Unit × r_T)} {WK114 : Nat → Int32 → Int32 → Int32 → h_S → Prop} (hK114 : ∀ (n0 : Int32) (n1 : Int32) (n2 : Int32) (u : r_T), K114 n0 n1 n2 u = some (r, t) → WK114 o n0 n1 n2 (r_emb s0 o ra u)) {s : r_T} {x4 : Int32} {x6 : Int32} {x7 : Int32} (h : fn_X12_layLog_114b K21 K114 x4 x6 x7 s = some (r, t)) : w_X12_layLog_114b Q WK21 WK114 o x4 x6 x7 (r_emb s0 o ra s) := by
  unfold fn_X12_layLog_114b at h
  unfold w_X12_layLog_114b
  refine ⟨hok.1, ?_⟩
  refine ⟨ra 19, fr_r19 hok, ?_⟩
  refine ⟨fr_k19 hok, ?_⟩
  obtain ⟨c, h⟩ := fg_g_s h
  refine ⟨fr_vp (fr_n19 hok) c, ?_⟩
  try simp -zeta only [fr_i19 hok]
  refine fg_ite Iff.rfl (fun d => ?_) (fun d => ?_)
  · have h := fg_if_t d h
    unfold w_X12_layLog_157
    unfold w_X12_layLog_237
    exact hK21 _ _ h
  · have h := fg_if_e d h
    obtain ⟨p7, s6, e_s6, h⟩ := fg_b_s h
    refine ft_X12_isDone hok e_s6 ?_
    refine fg_ite Iff.rfl (fun d => ?_) (fun d => ?_)
    · have h := fg_if_t d h
      refine ⟨hok.1, ?_⟩
      refine ⟨ra 18, fr_r18 hok, ?_⟩
      refine ⟨fr_k18 hok, ?_⟩
      obtain ⟨c, h⟩ := fg_g_s h
      refine ⟨fr_vp (fr_n18 hok) c, ?_⟩
      try simp -zeta only [fr_i18 hok]
      obtain ⟨u_, s13, e_s13, h⟩ := fg_b_s h
      refine ft_X12_show hok e_s13 ?_
      exact hK114 _ _ _ _ h
    · have h := fg_if_e d h
      unfold w_X12_layLog_157
      unfold w_X12_layLog_237
      exact hK21 _ _ h
set_option maxRecDepth 100000 in
set_option maxHeartbeats 4000000 in
theorem ft_X12_layLog_114 {o : Nat} {ra : Nat → Nat} {s0 : h_S} (hok : r_ok o ra s0) {Q : h_S → Prop} {r : Unit} {t : r_T} (hQ : Q (r_emb s0 o ra t)) {K21 : Int32 → r_T → Option (Unit × r_T)} {WK21 : Nat → Int32 → h_S → Prop} (hK21 : ∀ (n0 : Int32) (u : r_T), K21 n0 u = some (r, t) → WK21 o n0 (r_emb s0 o ra u)) : ∀ (n : Nat) (x4 : Int32) (x6 : Int32) (x7 : Int32) (s : r_T), fn_X12_layLog_114 K21 n x4 x6 x7 s = some (r, t) → w_X12_layLog_114 Q WK21 n o x4 x6 x7 (r_emb s0 o ra s) := by
  intro n
  induction n with
  | zero => intro x4 x6 x7 s h; exact fg_none h
  | succ n ih =>
    intro x4 x6 x7 s h
    exact ft_X12_layLog_114b hok hQ hK21 ih h
set_option maxRecDepth 100000 in
set_option maxHeartbeats 4000000 in
theorem ft_X12_layLog_217 {o : Nat} {ra : Nat → Nat} {s0 : h_S} (hok : r_ok o ra s0) {Q : h_S → Prop} {r : Unit} {t : r_T} (hQ : Q (r_emb s0 o ra t)) {K21 : Int32 → r_T → Option (Unit × r_T)} {WK21 : Nat → Int32 → h_S → Prop} (hK21 : ∀ (n0 : Int32) (u : r_T), K21 n0 u = some (r, t) → WK21 o n0 (r_emb s0 o ra u)) {s : r_T} {x4 : Int32} {x6 : Int32} {y0 : Int32} {y1 : Int32} {y2 : Int32} (h : fn_X12_layLog_217 K21 x4 x6 y0 y1 y2 s = some (r, t)) : w_X12_layLog_217 Q WK21 o x4 x6 y0 y1 y2 o (r_emb s0 o ra s) := by
  unfold fn_X12_layLog_217 at h
  unfold w_X12_layLog_217
  refine ⟨hok.1, ?_⟩
  refine ⟨ra 18, fr_r18 hok, ?_⟩
  refine ⟨fr_k18 hok, ?_⟩
  obtain ⟨c, h⟩ := fg_g_s h
  refine ⟨fr_vp (fr_n18 hok) c, ?_⟩
  refine ⟨ra 19, fr_r19 hok, ?_⟩
  refine ⟨fr_k19 hok, ?_⟩
  obtain ⟨c, h⟩ := fg_g_s h
  refine ⟨fr_vp (fr_n19 hok) c, ?_⟩
  refine ⟨hok.1, ?_⟩
  try simp -zeta only [fr_i18 hok, fr_i19 hok]
  obtain ⟨u_, s9, e_s9, h⟩ := fg_b_s h
  refine ft_X12_enter hok e_s9 ?_
  unfold w_X12_layLog_237
  exact hK21 _ _ h
set_option maxRecDepth 100000 in
set_option maxHeartbeats 4000000 in
theorem ft_X12_layLog_21b {o : Nat} {ra : Nat → Nat} {s0 : h_S} (hok : r_ok o ra s0) {Q : h_S → Prop} {r : Unit} {t : r_T} (hQ : Q (r_emb s0 o ra t)) {K21 : Int32 → r_T → Option (Unit × r_T)} {WK21 : Nat → Int32 → h_S → Prop} (hK21 : ∀ (n0 : Int32) (u : r_T), K21 n0 u = some (r, t) → WK21 o n0 (r_emb s0 o ra u)) {s : r_T} {x4 : Int32} (h : fn_X12_layLog_21b K21 x4 s = some (r, t)) : w_X12_layLog_21b Q WK21 o x4 (r_emb s0 o ra s) := by
  unfold fn_X12_layLog_21b at h
  unfold w_X12_layLog_21b
  refine fg_ite Iff.rfl (fun d => ?_) (fun d => ?_)
  · have h := fg_if_t d h
    refine ⟨hok.1, ?_⟩
    refine ⟨ra 34, fr_r34 hok, ?_⟩
    refine ⟨fr_k34 hok, ?_⟩
    obtain ⟨c, h⟩ := fg_g_s h
    refine ⟨fr_vp (fr_n34 hok) c, ?_⟩
    try simp -zeta only [fr_i34 hok]
    obtain ⟨s6, e_s6, h⟩ := fg_let_s h
    intro S_s6
    have z_s6 : S_s6 = r_emb s0 o ra s6 := by rw [e_s6]; exact e_so _ _
    clear_value S_s6
    subst z_s6
    obtain ⟨_, q⟩ := fg_ret h
    subst q
    exact hQ
  · have h := fg_if_e d h
    refine ⟨hok.1, ?_⟩
    refine ⟨ra 28, fr_r28 hok, ?_⟩
    refine ⟨fr_k28 hok, ?_⟩
    obtain ⟨c, h⟩ := fg_g_s h
    refine ⟨fr_vp (fr_n28 hok) c, ?_⟩
    try simp -zeta only [fr_i28 hok]
    refine fg_ite Iff.rfl (fun d => ?_) (fun d => ?_)
    · have h := fg_if_t d h
      unfold w_X12_layLog_66
      unfold w_X12_layLog_237
      exact hK21 _ _ h
    · have h := fg_if_e d h
      refine ⟨ra 29, fr_r29 hok, ?_⟩
      refine ⟨fr_k29 hok, ?_⟩
      obtain ⟨c, h⟩ := fg_g_s h
      refine ⟨fr_vp (fr_n29 hok) c, ?_⟩
      refine ⟨ra 15, fr_r15 hok, ?_⟩
      refine ⟨fr_k15 hok, ?_⟩
      try simp -zeta only [fr_i28 hok]
      obtain ⟨c, h⟩ := fg_g_s h
      refine ⟨fr_vp (fr_n15 hok) c, ?_⟩
      try simp -zeta only [fr_i15 hok, fr_i28 hok, fr_i29 hok]
      refine fg_ite Iff.rfl (fun d => ?_) (fun d => ?_)
      · have h := fg_if_t d h
        unfold w_X12_layLog_66
        unfold w_X12_layLog_237
        exact hK21 _ _ h
      · have h := fg_if_e d h
        obtain ⟨p20, s19, e_s19, h⟩ := fg_b_s h
        refine ft_X12_isDone hok e_s19 ?_
        refine fg_ite Iff.rfl (fun d => ?_) (fun d => ?_)
        · have h := fg_if_t d h
          refine ⟨hok.1, ?_⟩
          refine ⟨ra 14, fr_r14 hok, ?_⟩
          refine ⟨fr_k14 hok, ?_⟩
          try simp -zeta only [fr_i28 hok]
          obtain ⟨c, h⟩ := fg_g_s h
          refine ⟨fr_vp (fr_n14 hok) c, ?_⟩
          refine ⟨ra 29, fr_r29 hok, ?_⟩
          refine ⟨fr_k29 hok, ?_⟩
          obtain ⟨c, h⟩ := fg_g_s h
          refine ⟨fr_vp (fr_n29 hok) c, ?_⟩
          try simp -zeta only [fr_i14 hok, fr_i28 hok, fr_i29 hok]
          obtain ⟨v29, e_v29, h⟩ := fg_let_s h
          intro S_v29
          have z_v29 : v29 = S_v29 := e_v29
          clear_value S_v29
          subst z_v29
          refine ⟨ra 29, fr_r29 hok, ?_⟩
          refine ⟨fr_k29 hok, ?_⟩
          obtain ⟨c, h⟩ := fg_g_s h
          refine ⟨fr_vp (fr_n29 hok) c, ?_⟩
          refine ⟨ra 29, fr_r29 hok, ?_⟩
          refine ⟨fr_k29 hok, ?_⟩
          obtain ⟨c, h⟩ := fg_g_s h
          refine ⟨fr_vp (fr_n29 hok) c, ?_⟩
          try simp -zeta only [fr_i29 hok]
          obtain ⟨s36, e_s36, h⟩ := fg_let_s h
          intro S_s36
          have z_s36 : S_s36 = r_emb s0 o ra s36 := by rw [e_s36]; exact fr_s29 hok _ _
          clear_value S_s36
          subst z_s36
          refine ⟨ra 17, fr_r17 hok, ?_⟩
          refine ⟨fr_k17 hok, ?_⟩
          obtain ⟨c, h⟩ := fg_g_s h
          refine ⟨fr_vp (fr_n17 hok) c, ?_⟩
          try simp -zeta only [fr_i17 hok]
          refine fg_ite Iff.rfl (fun d => ?_) (fun d => ?_)
          · have h := fg_if_t d h
            refine fg_ite Iff.rfl (fun d => ?_) (fun d => ?_)
            · have h := fg_if_t d h
              obtain ⟨u_, s55, e_s55, h⟩ := fg_b_s h
              refine ft_X12_show hok e_s55 ?_
              unfold w_X12_layLog_237
              exact hK21 _ _ h
            · have h := fg_if_e d h
              refine ⟨ra 20, fr_r20 hok, ?_⟩
              refine ⟨fr_k20 hok, ?_⟩
              obtain ⟨c, h⟩ := fg_g_s h
              refine ⟨fr_vp (fr_n20 hok) c, ?_⟩
              refine ⟨ra 17, fr_r17 hok, ?_⟩
              refine ⟨fr_k17 hok, ?_⟩
              obtain ⟨c, h⟩ := fg_g_s h
              refine ⟨fr_vp (fr_n17 hok) c, ?_⟩
              try simp -zeta only [fr_i17 hok]
              refine fg_ite Iff.rfl (fun d => ?_) (fun d => ?_)
              · have h := fg_if_t d h
                refine ⟨ra 21, fr_r21 hok, ?_⟩
                refine ⟨fr_k21 hok, ?_⟩
                obtain ⟨c, h⟩ := fg_g_s h
                refine ⟨fr_vp (fr_n21 hok) c, ?_⟩
                try simp -zeta only [fr_i20 hok, fr_i21 hok]
                exact ft_X12_layLog_217 hok hQ hK21 h
              · have h := fg_if_e d h
                refine ⟨ra 30, fr_r30 hok, ?_⟩
                refine ⟨fr_k30 hok, ?_⟩
                obtain ⟨c, h⟩ := fg_g_s h
                refine ⟨fr_vp (fr_n30 hok) c, ?_⟩
                try simp -zeta only [fr_i20 hok, fr_i30 hok]
                exact ft_X12_layLog_217 hok hQ hK21 h
          · have h := fg_if_e d h
            exact ⟨g_N, ft_X12_layLog_114 hok hQ hK21 g_N _ _ _ _ h⟩
        · have h := fg_if_e d h
          unfold w_X12_layLog_66
          unfold w_X12_layLog_237
          exact hK21 _ _ h
set_option maxRecDepth 100000 in
set_option maxHeartbeats 4000000 in
theorem ft_X12_layLog_21 {o : Nat} {ra : Nat → Nat} {s0 : h_S} (hok : r_ok o ra s0) {Q : h_S → Prop} {r : Unit} {t : r_T} (hQ : Q (r_emb s0 o ra t)) : ∀ (n : Nat) (x4 : Int32) (s : r_T), fn_X12_layLog_21 n x4 s = some (r, t) → w_X12_layLog_21 Q n o x4 (r_emb s0 o ra s) := by
  intro n
  induction n with
  | zero => intro x4 s h; exact fg_none h
  | succ n ih =>
    intro x4 s h
    exact ft_X12_layLog_21b hok hQ ih h
set_option maxRecDepth 100000 in
set_option maxHeartbeats 4000000 in
theorem ft_X12_layLog {o : Nat} {ra : Nat → Nat} {s0 : h_S} (hok : r_ok o ra s0) {Q : h_S → Prop} {r : Unit} {t : r_T} {s : r_T} {x1 : Int32} {x2 : Int32} {x3 : Int32} (h : fn_X12_layLog x1 x2 x3 s = some (r, t)) (hQ : Q (r_emb s0 o ra t)) : w_X12_layLog o x1 x2 x3 (r_emb s0 o ra s) Q := by
  unfold fn_X12_layLog at h
  unfold w_X12_layLog
  refine ⟨hok.1, ?_⟩
  obtain ⟨u_, s2, e_s2, h⟩ := fg_b_s h
  refine ft_X12_enter hok e_s2 ?_
  refine ⟨hok.1, ?_⟩
  refine ⟨ra 28, fr_r28 hok, ?_⟩
  refine ⟨fr_k28 hok, ?_⟩
  obtain ⟨c, h⟩ := fg_g_s h
  refine ⟨fr_vp (fr_n28 hok) c, ?_⟩
  obtain ⟨s8, e_s8, h⟩ := fg_let_s h
  intro S_s8
  have z_s8 : S_s8 = r_emb s0 o ra s8 := by rw [e_s8]; exact fr_s28 hok _ _
  clear_value S_s8
  subst z_s8
  exact ⟨g_N, ft_X12_layLog_21 hok hQ g_N _ _ h⟩
set_option maxRecDepth 100000 in
set_option maxHeartbeats 4000000 in
theorem ft_X12_lay {o : Nat} {ra : Nat → Nat} {s0 : h_S} (hok : r_ok o ra s0) {Q : h_S → Prop} {r : Unit} {t : r_T} {s : r_T} {x1 : Int32} {x2 : Int32} (h : fn_X12_lay x1 x2 s = some (r, t)) (hQ : Q (r_emb s0 o ra t)) : w_X12_lay o x1 x2 (r_emb s0 o ra s) Q := by
  unfold fn_X12_lay at h
  unfold w_X12_lay
  refine ⟨hok.1, ?_⟩
  obtain ⟨p3, s2, e_s2, h⟩ := fg_b_s h
  refine ft_X12_logOf hok e_s2 ?_
  refine ⟨hok.1, ?_⟩
  obtain ⟨u_, s5, e_s5, h⟩ := fg_b_s h
  refine ft_X12_layLog hok e_s5 ?_
  obtain ⟨_, q⟩ := fg_ret h
  subst q
  exact hQ
set_option maxRecDepth 100000 in
set_option maxHeartbeats 4000000 in
theorem ft_X12_setPiece {o : Nat} {ra : Nat → Nat} {s0 : h_S} (hok : r_ok o ra s0) {Q : h_S → Prop} {r : Unit} {t : r_T} {s : r_T} {x1 : Int32} {x2 : Int32} {x3 : Int32} {x4 : Int32} {x5 : Int32} {x6 : Int32} (h : fn_X12_setPiece x1 x2 x3 x4 x5 x6 s = some (r, t)) (hQ : Q (r_emb s0 o ra t)) : w_X12_setPiece o x1 x2 x3 x4 x5 x6 (r_emb s0 o ra s) Q := by
  unfold fn_X12_setPiece at h
  unfold w_X12_setPiece
  refine ⟨hok.1, ?_⟩
  refine ⟨ra 41, fr_r41 hok, ?_⟩
  refine ⟨fr_k41 hok, ?_⟩
  obtain ⟨c, h⟩ := fg_g_s h
  refine ⟨fr_vp (fr_n41 hok) c, ?_⟩
  obtain ⟨s5, e_s5, h⟩ := fg_let_s h
  intro S_s5
  have z_s5 : S_s5 = r_emb s0 o ra s5 := by rw [e_s5]; exact fr_s41 hok _ _
  clear_value S_s5
  subst z_s5
  refine ⟨ra 42, fr_r42 hok, ?_⟩
  refine ⟨fr_k42 hok, ?_⟩
  obtain ⟨c, h⟩ := fg_g_s h
  refine ⟨fr_vp (fr_n42 hok) c, ?_⟩
  obtain ⟨s9, e_s9, h⟩ := fg_let_s h
  intro S_s9
  have z_s9 : S_s9 = r_emb s0 o ra s9 := by rw [e_s9]; exact fr_s42 hok _ _
  clear_value S_s9
  subst z_s9
  refine ⟨ra 43, fr_r43 hok, ?_⟩
  refine ⟨fr_k43 hok, ?_⟩
  obtain ⟨c, h⟩ := fg_g_s h
  refine ⟨fr_vp (fr_n43 hok) c, ?_⟩
  obtain ⟨s13, e_s13, h⟩ := fg_let_s h
  intro S_s13
  have z_s13 : S_s13 = r_emb s0 o ra s13 := by rw [e_s13]; exact fr_s43 hok _ _
  clear_value S_s13
  subst z_s13
  refine ⟨ra 44, fr_r44 hok, ?_⟩
  refine ⟨fr_k44 hok, ?_⟩
  obtain ⟨c, h⟩ := fg_g_s h
  refine ⟨fr_vp (fr_n44 hok) c, ?_⟩
  obtain ⟨s17, e_s17, h⟩ := fg_let_s h
  intro S_s17
  have z_s17 : S_s17 = r_emb s0 o ra s17 := by rw [e_s17]; exact fr_s44 hok _ _
  clear_value S_s17
  subst z_s17
  refine ⟨ra 45, fr_r45 hok, ?_⟩
  refine ⟨fr_k45 hok, ?_⟩
  obtain ⟨c, h⟩ := fg_g_s h
  refine ⟨fr_vp (fr_n45 hok) c, ?_⟩
  obtain ⟨s21, e_s21, h⟩ := fg_let_s h
  intro S_s21
  have z_s21 : S_s21 = r_emb s0 o ra s21 := by rw [e_s21]; exact fr_s45 hok _ _
  clear_value S_s21
  subst z_s21
  obtain ⟨_, q⟩ := fg_ret h
  subst q
  exact hQ
set_option maxRecDepth 100000 in
set_option maxHeartbeats 4000000 in
theorem ft_X12_load_28b {o : Nat} {ra : Nat → Nat} {s0 : h_S} (hok : r_ok o ra s0) {Q : h_S → Prop} {r : Unit} {t : r_T} (hQ : Q (r_emb s0 o ra t)) {K28 : Int32 → Int32 → r_T → Option (Unit × r_T)} {WK28 : Nat → Int32 → Int32 → h_S → Prop} (hK28 : ∀ (n0 : Int32) (n1 : Int32) (u : r_T), K28 n0 n1 u = some (r, t) → WK28 o n0 n1 (r_emb s0 o ra u)) {s : r_T} {x3 : Int32} {x4 : Int32} (h : fn_X12_load_28b K28 x3 x4 s = some (r, t)) : w_X12_load_28b Q WK28 o x3 x4 (r_emb s0 o ra s) := by
  unfold fn_X12_load_28b at h
  unfold w_X12_load_28b
  refine ⟨hok.1, ?_⟩
  try simp -zeta only [e_io]
  refine fg_ite Iff.rfl (fun d => ?_) (fun d => ?_)
  · have h := fg_if_t d h
    obtain ⟨_, q⟩ := fg_ret h
    subst q
    exact hQ
  · have h := fg_if_e d h
    refine ⟨ra 14, fr_r14 hok, ?_⟩
    refine ⟨fr_k14 hok, ?_⟩
    obtain ⟨c, h⟩ := fg_g_s h
    refine ⟨fr_vp (fr_n14 hok) c, ?_⟩
    refine ⟨ra 17, fr_r17 hok, ?_⟩
    refine ⟨fr_k17 hok, ?_⟩
    try simp -zeta only [fr_i14 hok]
    obtain ⟨c, h⟩ := fg_g_s h
    refine ⟨fr_vp (fr_n17 hok) c, ?_⟩
    refine ⟨ra 18, fr_r18 hok, ?_⟩
    refine ⟨fr_k18 hok, ?_⟩
    try simp -zeta only [fr_i14 hok]
    obtain ⟨c, h⟩ := fg_g_s h
    refine ⟨fr_vp (fr_n18 hok) c, ?_⟩
    refine ⟨ra 19, fr_r19 hok, ?_⟩
    refine ⟨fr_k19 hok, ?_⟩
    try simp -zeta only [fr_i14 hok]
    obtain ⟨c, h⟩ := fg_g_s h
    refine ⟨fr_vp (fr_n19 hok) c, ?_⟩
    refine ⟨ra 20, fr_r20 hok, ?_⟩
    refine ⟨fr_k20 hok, ?_⟩
    try simp -zeta only [fr_i14 hok]
    obtain ⟨c, h⟩ := fg_g_s h
    refine ⟨fr_vp (fr_n20 hok) c, ?_⟩
    refine ⟨ra 21, fr_r21 hok, ?_⟩
    refine ⟨fr_k21 hok, ?_⟩
    try simp -zeta only [fr_i14 hok]
    obtain ⟨c, h⟩ := fg_g_s h
    refine ⟨fr_vp (fr_n21 hok) c, ?_⟩
    try simp -zeta only [fr_i14 hok, fr_i17 hok, fr_i18 hok, fr_i19 hok, fr_i20 hok, fr_i21 hok]
    obtain ⟨u_, s21, e_s21, h⟩ := fg_b_s h
    refine ft_X12_setPiece hok e_s21 ?_
    exact hK28 _ _ _ h
set_option maxRecDepth 100000 in
set_option maxHeartbeats 4000000 in
theorem ft_X12_load_28 {o : Nat} {ra : Nat → Nat} {s0 : h_S} (hok : r_ok o ra s0) {Q : h_S → Prop} {r : Unit} {t : r_T} (hQ : Q (r_emb s0 o ra t)) : ∀ (n : Nat) (x3 : Int32) (x4 : Int32) (s : r_T), fn_X12_load_28 n x3 x4 s = some (r, t) → w_X12_load_28 Q n o x3 x4 (r_emb s0 o ra s) := by
  intro n
  induction n with
  | zero => intro x3 x4 s h; exact fg_none h
  | succ n ih =>
    intro x3 x4 s h
    exact ft_X12_load_28b hok hQ ih h
set_option maxRecDepth 100000 in
set_option maxHeartbeats 4000000 in
theorem ft_X12_load_22 {o : Nat} {ra : Nat → Nat} {s0 : h_S} (hok : r_ok o ra s0) {Q : h_S → Prop} {r : Unit} {t : r_T} (hQ : Q (r_emb s0 o ra t)) {s : r_T} {x3 : Int32} {y0 : Int32} (h : fn_X12_load_22 x3 y0 s = some (r, t)) : w_X12_load_22 Q o x3 y0 o (r_emb s0 o ra s) := by
  unfold fn_X12_load_22 at h
  unfold w_X12_load_22
  refine ⟨hok.1, ?_⟩
  obtain ⟨s2, e_s2, h⟩ := fg_let_s h
  intro S_s2
  have z_s2 : S_s2 = r_emb s0 o ra s2 := by rw [e_s2]; exact e_so _ _
  clear_value S_s2
  subst z_s2
  exact ⟨g_N, ft_X12_load_28 hok hQ g_N _ _ _ h⟩
set_option maxRecDepth 100000 in
set_option maxHeartbeats 4000000 in
theorem ft_X12_load {o : Nat} {ra : Nat → Nat} {s0 : h_S} (hok : r_ok o ra s0) {Q : h_S → Prop} {r : Unit} {t : r_T} {s : r_T} {x1 : Int32} {x2 : Int32} (h : fn_X12_load x1 x2 s = some (r, t)) (hQ : Q (r_emb s0 o ra t)) : w_X12_load o x1 x2 (r_emb s0 o ra s) Q := by
  unfold fn_X12_load at h
  unfold w_X12_load
  refine ⟨hok.1, ?_⟩
  obtain ⟨p3, s2, e_s2, h⟩ := fg_b_s h
  refine ft_X12_logOf hok e_s2 ?_
  refine fg_ite Iff.rfl (fun d => ?_) (fun d => ?_)
  · have h := fg_if_t d h
    refine ⟨hok.1, ?_⟩
    refine ⟨ra 15, fr_r15 hok, ?_⟩
    refine ⟨fr_k15 hok, ?_⟩
    obtain ⟨c, h⟩ := fg_g_s h
    refine ⟨fr_vp (fr_n15 hok) c, ?_⟩
    try simp -zeta only [fr_i15 hok]
    exact ft_X12_load_22 hok hQ h
  · have h := fg_if_e d h
    exact ft_X12_load_22 hok hQ h
set_option maxRecDepth 100000 in
set_option maxHeartbeats 4000000 in
theorem ft_X12_bound_43 {o : Nat} {ra : Nat → Nat} {s0 : h_S} (hok : r_ok o ra s0) {Q : h_S → Prop} {r : Unit} {t : r_T} (hQ : Q (r_emb s0 o ra t)) {K4 : Int32 → Int32 → r_T → Option (Unit × r_T)} {WK4 : Nat → Int32 → Int32 → h_S → Prop} (hK4 : ∀ (n0 : Int32) (n1 : Int32) (u : r_T), K4 n0 n1 u = some (r, t) → WK4 o n0 n1 (r_emb s0 o ra u)) {s : r_T} {x1 : Int32} {x2 : Int32} (h : fn_X12_bound_43 K4 x1 x2 s = some (r, t)) : w_X12_bound_43 Q WK4 o x1 x2 (r_emb s0 o ra s) := by
  unfold fn_X12_bound_43 at h
  unfold w_X12_bound_43
  refine ⟨hok.1, ?_⟩
  refine ⟨ra 47, fr_r47 hok, ?_⟩
  refine ⟨fr_k47 hok, ?_⟩
  obtain ⟨c, h⟩ := fg_g_s h
  refine ⟨fr_vp (fr_n47 hok) c, ?_⟩
  obtain ⟨s5, e_s5, h⟩ := fg_let_s h
  intro S_s5
  have z_s5 : S_s5 = r_emb s0 o ra s5 := by rw [e_s5]; exact fr_s47 hok _ _
  clear_value S_s5
  subst z_s5
  exact hK4 _ _ _ h
set_option maxRecDepth 100000 in
set_option maxHeartbeats 4000000 in
theorem ft_X12_bound_19b {o : Nat} {ra : Nat → Nat} {s0 : h_S} (hok : r_ok o ra s0) {Q : h_S → Prop} {r : Unit} {t : r_T} (hQ : Q (r_emb s0 o ra t)) {K4 : Int32 → Int32 → r_T → Option (Unit × r_T)} {WK4 : Nat → Int32 → Int32 → h_S → Prop} (hK4 : ∀ (n0 : Int32) (n1 : Int32) (u : r_T), K4 n0 n1 u = some (r, t) → WK4 o n0 n1 (r_emb s0 o ra u)) {K19 : Int32 → Int32 → r_T → Option (Unit × r_T)} {WK19 : Nat → Int32 → Int32 → h_S → Prop} (hK19 : ∀ (n0 : Int32) (n1 : Int32) (u : r_T), K19 n0 n1 u = some (r, t) → WK19 o n0 n1 (r_emb s0 o ra u)) {s : r_T} {x1 : Int32} {x2 : Int32} (h : fn_X12_bound_19b K4 K19 x1 x2 s = some (r, t)) : w_X12_bound_19b Q WK4 WK19 o x1 x2 (r_emb s0 o ra s) := by
  unfold fn_X12_bound_19b at h
  unfold w_X12_bound_19b
  refine ⟨hok.1, ?_⟩
  try simp -zeta only [e_io]
  refine fg_ite Iff.rfl (fun d => ?_) (fun d => ?_)
  · have h := fg_if_t d h
    exact ft_X12_bound_43 hok hQ hK4 h
  · have h := fg_if_e d h
    refine ⟨ra 37, fr_r37 hok, ?_⟩
    refine ⟨fr_k37 hok, ?_⟩
    obtain ⟨c, h⟩ := fg_g_s h
    refine ⟨fr_vp (fr_n37 hok) c, ?_⟩
    try simp -zeta only [fr_i37 hok]
    refine fg_ite Iff.rfl (fun d => ?_) (fun d => ?_)
    · have h := fg_if_t d h
      exact hK19 _ _ _ h
    · have h := fg_if_e d h
      exact ft_X12_bound_43 hok hQ hK4 h
set_option maxRecDepth 100000 in
set_option maxHeartbeats 4000000 in
theorem ft_X12_bound_19 {o : Nat} {ra : Nat → Nat} {s0 : h_S} (hok : r_ok o ra s0) {Q : h_S → Prop} {r : Unit} {t : r_T} (hQ : Q (r_emb s0 o ra t)) {K4 : Int32 → Int32 → r_T → Option (Unit × r_T)} {WK4 : Nat → Int32 → Int32 → h_S → Prop} (hK4 : ∀ (n0 : Int32) (n1 : Int32) (u : r_T), K4 n0 n1 u = some (r, t) → WK4 o n0 n1 (r_emb s0 o ra u)) : ∀ (n : Nat) (x1 : Int32) (x2 : Int32) (s : r_T), fn_X12_bound_19 K4 n x1 x2 s = some (r, t) → w_X12_bound_19 Q WK4 n o x1 x2 (r_emb s0 o ra s) := by
  intro n
  induction n with
  | zero => intro x1 x2 s h; exact fg_none h
  | succ n ih =>
    intro x1 x2 s h
    exact ft_X12_bound_19b hok hQ hK4 ih h
set_option maxRecDepth 100000 in
set_option maxHeartbeats 4000000 in
theorem ft_X12_bound_4b {o : Nat} {ra : Nat → Nat} {s0 : h_S} (hok : r_ok o ra s0) {Q : h_S → Prop} {r : Unit} {t : r_T} (hQ : Q (r_emb s0 o ra t)) {K4 : Int32 → Int32 → r_T → Option (Unit × r_T)} {WK4 : Nat → Int32 → Int32 → h_S → Prop} (hK4 : ∀ (n0 : Int32) (n1 : Int32) (u : r_T), K4 n0 n1 u = some (r, t) → WK4 o n0 n1 (r_emb s0 o ra u)) {s : r_T} {x1 : Int32} {x2 : Int32} (h : fn_X12_bound_4b K4 x1 x2 s = some (r, t)) : w_X12_bound_4b Q WK4 o x1 x2 (r_emb s0 o ra s) := by
  unfold fn_X12_bound_4b at h
  unfold w_X12_bound_4b
  refine ⟨hok.1, ?_⟩
  try simp -zeta only [e_io]
  refine fg_ite Iff.rfl (fun d => ?_) (fun d => ?_)
  · have h := fg_if_t d h
    obtain ⟨_, q⟩ := fg_ret h
    subst q
    exact hQ
  · have h := fg_if_e d h
    refine ⟨ra 46, fr_r46 hok, ?_⟩
    refine ⟨fr_k46 hok, ?_⟩
    obtain ⟨c, h⟩ := fg_g_s h
    refine ⟨fr_vp (fr_n46 hok) c, ?_⟩
    obtain ⟨s6, e_s6, h⟩ := fg_let_s h
    intro S_s6
    have z_s6 : S_s6 = r_emb s0 o ra s6 := by rw [e_s6]; exact fr_s46 hok _ _
    clear_value S_s6
    subst z_s6
    exact ⟨g_N, ft_X12_bound_19 hok hQ hK4 g_N _ _ _ h⟩
set_option maxRecDepth 100000 in
set_option maxHeartbeats 4000000 in
theorem ft_X12_bound_4 {o : Nat} {ra : Nat → Nat} {s0 : h_S} (hok : r_ok o ra s0) {Q : h_S → Prop} {r : Unit} {t : r_T} (hQ : Q (r_emb s0 o ra t)) : ∀ (n : Nat) (x1 : Int32) (x2 : Int32) (s : r_T), fn_X12_bound_4 n x1 x2 s = some (r, t) → w_X12_bound_4 Q n o x1 x2 (r_emb s0 o ra s) := by
  intro n
  induction n with
  | zero => intro x1 x2 s h; exact fg_none h
  | succ n ih =>
    intro x1 x2 s h
    exact ft_X12_bound_4b hok hQ ih h
set_option maxRecDepth 100000 in
set_option maxHeartbeats 4000000 in
theorem ft_X12_bound {o : Nat} {ra : Nat → Nat} {s0 : h_S} (hok : r_ok o ra s0) {Q : h_S → Prop} {r : Unit} {t : r_T} {s : r_T} (h : fn_X12_bound s = some (r, t)) (hQ : Q (r_emb s0 o ra t)) : w_X12_bound o (r_emb s0 o ra s) Q := by
  unfold fn_X12_bound at h
  unfold w_X12_bound
  exact ⟨g_N, ft_X12_bound_4 hok hQ g_N _ _ _ h⟩
set_option maxRecDepth 100000 in
set_option maxHeartbeats 4000000 in
theorem ft_X12_open {o : Nat} {ra : Nat → Nat} {s0 : h_S} (hok : r_ok o ra s0) {Q : h_S → Prop} {r : Unit} {t : r_T} {s : r_T} {x1 : Int32} (h : fn_X12_open x1 s = some (r, t)) (hQ : Q (r_emb s0 o ra t)) : w_X12_open o x1 (r_emb s0 o ra s) Q := by
  unfold fn_X12_open at h
  unfold w_X12_open
  refine ⟨hok.1, ?_⟩
  try simp -zeta only [e_io]
  obtain ⟨u_, s2, e_s2, h⟩ := fg_b_s h
  refine ft_X12_lay hok e_s2 ?_
  refine ⟨hok.1, ?_⟩
  try simp -zeta only [e_io]
  obtain ⟨u_, s5, e_s5, h⟩ := fg_b_s h
  refine ft_X12_load hok e_s5 ?_
  refine ⟨hok.1, ?_⟩
  obtain ⟨u_, s8, e_s8, h⟩ := fg_b_s h
  refine ft_X12_bound hok e_s8 ?_
  obtain ⟨_, q⟩ := fg_ret h
  subst q
  exact hQ
set_option maxRecDepth 100000 in
set_option maxHeartbeats 4000000 in
theorem ft_X12_widen_7b {o : Nat} {ra : Nat → Nat} {s0 : h_S} (hok : r_ok o ra s0) {Q : h_S → Prop} {r : Unit} {t : r_T} (hQ : Q (r_emb s0 o ra t)) {K7 : Int32 → Int32 → Int32 → r_T → Option (Unit × r_T)} {WK7 : Nat → Int32 → Int32 → Int32 → h_S → Prop} (hK7 : ∀ (n0 : Int32) (n1 : Int32) (n2 : Int32) (u : r_T), K7 n0 n1 n2 u = some (r, t) → WK7 o n0 n1 n2 (r_emb s0 o ra u)) {s : r_T} {x1 : Int32} {x2 : Int32} {x3 : Int32} (h : fn_X12_widen_7b K7 x1 x2 x3 s = some (r, t)) : w_X12_widen_7b Q WK7 o x1 x2 x3 (r_emb s0 o ra s) := by
  unfold fn_X12_widen_7b at h
  unfold w_X12_widen_7b
  refine fg_ite Iff.rfl (fun d => ?_) (fun d => ?_)
  · have h := fg_if_t d h
    refine ⟨hok.1, ?_⟩
    try simp -zeta only [e_io]
    obtain ⟨s3, e_s3, h⟩ := fg_let_s h
    intro S_s3
    have z_s3 : S_s3 = r_emb s0 o ra s3 := by rw [e_s3]; exact e_so _ _
    clear_value S_s3
    subst z_s3
    obtain ⟨_, q⟩ := fg_ret h
    subst q
    exact hQ
  · have h := fg_if_e d h
    refine ⟨hok.1, ?_⟩
    refine ⟨ra 41, fr_r41 hok, ?_⟩
    refine ⟨fr_k41 hok, ?_⟩
    obtain ⟨c, h⟩ := fg_g_s h
    refine ⟨fr_vp (fr_n41 hok) c, ?_⟩
    refine ⟨ra 42, fr_r42 hok, ?_⟩
    refine ⟨fr_k42 hok, ?_⟩
    obtain ⟨c, h⟩ := fg_g_s h
    refine ⟨fr_vp (fr_n42 hok) c, ?_⟩
    refine ⟨ra 43, fr_r43 hok, ?_⟩
    refine ⟨fr_k43 hok, ?_⟩
    obtain ⟨c, h⟩ := fg_g_s h
    refine ⟨fr_vp (fr_n43 hok) c, ?_⟩
    refine ⟨ra 44, fr_r44 hok, ?_⟩
    refine ⟨fr_k44 hok, ?_⟩
    obtain ⟨c, h⟩ := fg_g_s h
    refine ⟨fr_vp (fr_n44 hok) c, ?_⟩
    refine ⟨ra 45, fr_r45 hok, ?_⟩
    refine ⟨fr_k45 hok, ?_⟩
    obtain ⟨c, h⟩ := fg_g_s h
    refine ⟨fr_vp (fr_n45 hok) c, ?_⟩
    try simp -zeta only [fr_i41 hok, fr_i42 hok, fr_i43 hok, fr_i44 hok, fr_i45 hok]
    obtain ⟨u_, s20, e_s20, h⟩ := fg_b_s h
    refine ft_X12_setPiece hok e_s20 ?_
    refine ⟨hok.1, ?_⟩
    refine ⟨ra 46, fr_r46 hok, ?_⟩
    refine ⟨fr_k46 hok, ?_⟩
    obtain ⟨c, h⟩ := fg_g_s h
    refine ⟨fr_vp (fr_n46 hok) c, ?_⟩
    refine ⟨ra 46, fr_r46 hok, ?_⟩
    refine ⟨fr_k46 hok, ?_⟩
    obtain ⟨c, h⟩ := fg_g_s h
    refine ⟨fr_vp (fr_n46 hok) c, ?_⟩
    try simp -zeta only [fr_i46 hok]
    obtain ⟨s29, e_s29, h⟩ := fg_let_s h
    intro S_s29
    have z_s29 : S_s29 = r_emb s0 o ra s29 := by rw [e_s29]; exact fr_s46 hok _ _
    clear_value S_s29
    subst z_s29
    refine ⟨ra 47, fr_r47 hok, ?_⟩
    refine ⟨fr_k47 hok, ?_⟩
    obtain ⟨c, h⟩ := fg_g_s h
    refine ⟨fr_vp (fr_n47 hok) c, ?_⟩
    refine ⟨ra 47, fr_r47 hok, ?_⟩
    refine ⟨fr_k47 hok, ?_⟩
    obtain ⟨c, h⟩ := fg_g_s h
    refine ⟨fr_vp (fr_n47 hok) c, ?_⟩
    try simp -zeta only [fr_i47 hok]
    obtain ⟨s36, e_s36, h⟩ := fg_let_s h
    intro S_s36
    have z_s36 : S_s36 = r_emb s0 o ra s36 := by rw [e_s36]; exact fr_s47 hok _ _
    clear_value S_s36
    subst z_s36
    exact hK7 _ _ _ _ h
set_option maxRecDepth 100000 in
set_option maxHeartbeats 4000000 in
theorem ft_X12_widen_7 {o : Nat} {ra : Nat → Nat} {s0 : h_S} (hok : r_ok o ra s0) {Q : h_S → Prop} {r : Unit} {t : r_T} (hQ : Q (r_emb s0 o ra t)) : ∀ (n : Nat) (x1 : Int32) (x2 : Int32) (x3 : Int32) (s : r_T), fn_X12_widen_7 n x1 x2 x3 s = some (r, t) → w_X12_widen_7 Q n o x1 x2 x3 (r_emb s0 o ra s) := by
  intro n
  induction n with
  | zero => intro x1 x2 x3 s h; exact fg_none h
  | succ n ih =>
    intro x1 x2 x3 s h
    exact ft_X12_widen_7b hok hQ ih h
set_option maxRecDepth 100000 in
set_option maxHeartbeats 4000000 in
theorem ft_X12_widen {o : Nat} {ra : Nat → Nat} {s0 : h_S} (hok : r_ok o ra s0) {Q : h_S → Prop} {r : Unit} {t : r_T} {s : r_T} {x1 : Int32} {x2 : Int32} (h : fn_X12_widen x1 x2 s = some (r, t)) (hQ : Q (r_emb s0 o ra t)) : w_X12_widen o x1 x2 (r_emb s0 o ra s) Q := by
  unfold fn_X12_widen at h
  unfold w_X12_widen
  refine ⟨hok.1, ?_⟩
  try simp -zeta only [e_io]
  obtain ⟨v2, e_v2, h⟩ := fg_let_s h
  intro S_v2
  have z_v2 : v2 = S_v2 := e_v2
  clear_value S_v2
  subst z_v2
  exact ⟨g_N, ft_X12_widen_7 hok hQ g_N _ _ _ _ h⟩
set_option maxRecDepth 100000 in
set_option maxHeartbeats 4000000 in
theorem ft_X12_openAt_26 {o : Nat} {ra : Nat → Nat} {s0 : h_S} (hok : r_ok o ra s0) {Q : Int32 → h_S → Prop} {r : Int32} {t : r_T} (hQ : Q r (r_emb s0 o ra t)) {s : r_T} {x1 : Int32} {x2 : Int32} (h : fn_X12_openAt_26 x1 x2 s = some (r, t)) : w_X12_openAt_26 Q o x1 x2 (r_emb s0 o ra s) := by
  unfold fn_X12_openAt_26 at h
  unfold w_X12_openAt_26
  refine ⟨hok.1, ?_⟩
  try simp -zeta only [e_io]
  refine fg_ite Iff.rfl (fun d => ?_) (fun d => ?_)
  · have h := fg_if_t d h
    unfold w_X12_openAt_110
    obtain ⟨q, q2⟩ := fg_ret h
    subst q
    subst q2
    exact hQ
  · have h := fg_if_e d h
    refine ⟨ra 46, fr_r46 hok, ?_⟩
    refine ⟨fr_k46 hok, ?_⟩
    obtain ⟨c, h⟩ := fg_g_s h
    refine ⟨fr_vp (fr_n46 hok) c, ?_⟩
    try simp -zeta only [fr_i46 hok]
    refine fg_ite Iff.rfl (fun d => ?_) (fun d => ?_)
    · have h := fg_if_t d h
      unfold w_X12_openAt_110
      obtain ⟨q, q2⟩ := fg_ret h
      subst q
      subst q2
      exact hQ
    · have h := fg_if_e d h
      refine ⟨ra 46, fr_r46 hok, ?_⟩
      refine ⟨fr_k46 hok, ?_⟩
      obtain ⟨c, h⟩ := fg_g_s h
      refine ⟨fr_vp (fr_n46 hok) c, ?_⟩
      obtain ⟨u_, s10, e_s10, h⟩ := fg_b_s h
      refine ft_X12_widen hok e_s10 ?_
      refine ⟨hok.1, ?_⟩
      refine ⟨ra 41, fr_r41 hok, ?_⟩
      refine ⟨fr_k41 hok, ?_⟩
      obtain ⟨c, h⟩ := fg_g_s h
      refine ⟨fr_vp (fr_n41 hok) c, ?_⟩
      refine ⟨ra 42, fr_r42 hok, ?_⟩
      refine ⟨fr_k42 hok, ?_⟩
      obtain ⟨c, h⟩ := fg_g_s h
      refine ⟨fr_vp (fr_n42 hok) c, ?_⟩
      refine ⟨ra 43, fr_r43 hok, ?_⟩
      refine ⟨fr_k43 hok, ?_⟩
      obtain ⟨c, h⟩ := fg_g_s h
      refine ⟨fr_vp (fr_n43 hok) c, ?_⟩
      refine ⟨ra 44, fr_r44 hok, ?_⟩
      refine ⟨fr_k44 hok, ?_⟩
      obtain ⟨c, h⟩ := fg_g_s h
      refine ⟨fr_vp (fr_n44 hok) c, ?_⟩
      refine ⟨ra 45, fr_r45 hok, ?_⟩
      refine ⟨fr_k45 hok, ?_⟩
      obtain ⟨c, h⟩ := fg_g_s h
      refine ⟨fr_vp (fr_n45 hok) c, ?_⟩
      try simp -zeta only [fr_i41 hok, fr_i42 hok, fr_i43 hok, fr_i44 hok, fr_i45 hok, fr_i46 hok]
      obtain ⟨u_, s28, e_s28, h⟩ := fg_b_s h
      refine ft_X12_setPiece hok e_s28 ?_
      refine ⟨hok.1, ?_⟩
      refine ⟨ra 43, fr_r43 hok, ?_⟩
      refine ⟨fr_k43 hok, ?_⟩
      obtain ⟨c, h⟩ := fg_g_s h
      refine ⟨fr_vp (fr_n43 hok) c, ?_⟩
      try simp -zeta only [fr_i46 hok]
      obtain ⟨s34, e_s34, h⟩ := fg_let_s h
      intro S_s34
      have z_s34 : S_s34 = r_emb s0 o ra s34 := by rw [e_s34]; exact fr_s43 hok _ _
      clear_value S_s34
      subst z_s34
      unfold w_X12_openAt_110
      obtain ⟨q, q2⟩ := fg_ret h
      subst q
      subst q2
      exact hQ
set_option maxRecDepth 100000 in
set_option maxHeartbeats 4000000 in
theorem ft_X12_openAt_2b {o : Nat} {ra : Nat → Nat} {s0 : h_S} (hok : r_ok o ra s0) {Q : Int32 → h_S → Prop} {r : Int32} {t : r_T} (hQ : Q r (r_emb s0 o ra t)) {K2 : Int32 → Int32 → r_T → Option (Int32 × r_T)} {WK2 : Nat → Int32 → Int32 → h_S → Prop} (hK2 : ∀ (n0 : Int32) (n1 : Int32) (u : r_T), K2 n0 n1 u = some (r, t) → WK2 o n0 n1 (r_emb s0 o ra u)) {s : r_T} {x1 : Int32} {x2 : Int32} (h : fn_X12_openAt_2b K2 x1 x2 s = some (r, t)) : w_X12_openAt_2b Q WK2 o x1 x2 (r_emb s0 o ra s) := by
  unfold fn_X12_openAt_2b at h
  unfold w_X12_openAt_2b
  refine ⟨hok.1, ?_⟩
  try simp -zeta only [e_io]
  refine fg_ite Iff.rfl (fun d => ?_) (fun d => ?_)
  · have h := fg_if_t d h
    exact ft_X12_openAt_26 hok hQ h
  · have h := fg_if_e d h
    refine ⟨ra 47, fr_r47 hok, ?_⟩
    refine ⟨fr_k47 hok, ?_⟩
    obtain ⟨c, h⟩ := fg_g_s h
    refine ⟨fr_vp (fr_n47 hok) c, ?_⟩
    try simp -zeta only [fr_i47 hok]
    refine fg_ite Iff.rfl (fun d => ?_) (fun d => ?_)
    · have h := fg_if_t d h
      exact ft_X12_openAt_26 hok hQ h
    · have h := fg_if_e d h
      exact hK2 _ _ _ h
set_option maxRecDepth 100000 in
set_option maxHeartbeats 4000000 in
theorem ft_X12_openAt_2 {o : Nat} {ra : Nat → Nat} {s0 : h_S} (hok : r_ok o ra s0) {Q : Int32 → h_S → Prop} {r : Int32} {t : r_T} (hQ : Q r (r_emb s0 o ra t)) : ∀ (n : Nat) (x1 : Int32) (x2 : Int32) (s : r_T), fn_X12_openAt_2 n x1 x2 s = some (r, t) → w_X12_openAt_2 Q n o x1 x2 (r_emb s0 o ra s) := by
  intro n
  induction n with
  | zero => intro x1 x2 s h; exact fg_none h
  | succ n ih =>
    intro x1 x2 s h
    exact ft_X12_openAt_2b hok hQ ih h
set_option maxRecDepth 100000 in
set_option maxHeartbeats 4000000 in
theorem ft_X12_openAt {o : Nat} {ra : Nat → Nat} {s0 : h_S} (hok : r_ok o ra s0) {Q : Int32 → h_S → Prop} {r : Int32} {t : r_T} {s : r_T} {x1 : Int32} (h : fn_X12_openAt x1 s = some (r, t)) (hQ : Q r (r_emb s0 o ra t)) : w_X12_openAt o x1 (r_emb s0 o ra s) Q := by
  unfold fn_X12_openAt at h
  unfold w_X12_openAt
  exact ⟨g_N, ft_X12_openAt_2 hok hQ g_N _ _ _ h⟩
set_option maxRecDepth 100000 in
set_option maxHeartbeats 4000000 in
theorem ft_X12_store_89b {o : Nat} {ra : Nat → Nat} {s0 : h_S} (hok : r_ok o ra s0) {Q : Int32 → h_S → Prop} {r : Int32} {t : r_T} (hQ : Q r (r_emb s0 o ra t)) {K89 : Int32 → r_T → Option (Int32 × r_T)} {WK89 : Nat → Int32 → h_S → Prop} (hK89 : ∀ (n0 : Int32) (u : r_T), K89 n0 u = some (r, t) → WK89 o n0 (r_emb s0 o ra u)) {s : r_T} {x2 : Int32} (h : fn_X12_store_89b K89 x2 s = some (r, t)) : w_X12_store_89b Q WK89 o x2 (r_emb s0 o ra s) := by
  unfold fn_X12_store_89b at h
  unfold w_X12_store_89b
  refine ⟨hok.1, ?_⟩
  try simp -zeta only [e_io]
  refine fg_ite Iff.rfl (fun d => ?_) (fun d => ?_)
  · have h := fg_if_t d h
    obtain ⟨q, q2⟩ := fg_ret h
    subst q
    subst q2
    exact hQ
  · have h := fg_if_e d h
    refine ⟨ra 41, fr_r41 hok, ?_⟩
    refine ⟨fr_k41 hok, ?_⟩
    obtain ⟨c, h⟩ := fg_g_s h
    refine ⟨fr_vp (fr_n41 hok) c, ?_⟩
    refine ⟨ra 17, fr_r17 hok, ?_⟩
    refine ⟨fr_k17 hok, ?_⟩
    try simp -zeta only [e_io]
    obtain ⟨c, h⟩ := fg_g_s h
    refine ⟨fr_vp (fr_n17 hok) c, ?_⟩
    try simp -zeta only [e_io, fr_i41 hok]
    obtain ⟨s9, e_s9, h⟩ := fg_let_s h
    intro S_s9
    have z_s9 : S_s9 = r_emb s0 o ra s9 := by rw [e_s9]; exact fr_s17 hok _ _
    clear_value S_s9
    subst z_s9
    refine ⟨ra 42, fr_r42 hok, ?_⟩
    refine ⟨fr_k42 hok, ?_⟩
    obtain ⟨c, h⟩ := fg_g_s h
    refine ⟨fr_vp (fr_n42 hok) c, ?_⟩
    refine ⟨ra 18, fr_r18 hok, ?_⟩
    refine ⟨fr_k18 hok, ?_⟩
    try simp -zeta only [e_io]
    obtain ⟨c, h⟩ := fg_g_s h
    refine ⟨fr_vp (fr_n18 hok) c, ?_⟩
    try simp -zeta only [e_io, fr_i42 hok]
    obtain ⟨s16, e_s16, h⟩ := fg_let_s h
    intro S_s16
    have z_s16 : S_s16 = r_emb s0 o ra s16 := by rw [e_s16]; exact fr_s18 hok _ _
    clear_value S_s16
    subst z_s16
    refine ⟨ra 43, fr_r43 hok, ?_⟩
    refine ⟨fr_k43 hok, ?_⟩
    obtain ⟨c, h⟩ := fg_g_s h
    refine ⟨fr_vp (fr_n43 hok) c, ?_⟩
    refine ⟨ra 19, fr_r19 hok, ?_⟩
    refine ⟨fr_k19 hok, ?_⟩
    try simp -zeta only [e_io]
    obtain ⟨c, h⟩ := fg_g_s h
    refine ⟨fr_vp (fr_n19 hok) c, ?_⟩
    try simp -zeta only [e_io, fr_i43 hok]
    obtain ⟨s23, e_s23, h⟩ := fg_let_s h
    intro S_s23
    have z_s23 : S_s23 = r_emb s0 o ra s23 := by rw [e_s23]; exact fr_s19 hok _ _
    clear_value S_s23
    subst z_s23
    refine ⟨ra 44, fr_r44 hok, ?_⟩
    refine ⟨fr_k44 hok, ?_⟩
    obtain ⟨c, h⟩ := fg_g_s h
    refine ⟨fr_vp (fr_n44 hok) c, ?_⟩
    refine ⟨ra 20, fr_r20 hok, ?_⟩
    refine ⟨fr_k20 hok, ?_⟩
    try simp -zeta only [e_io]
    obtain ⟨c, h⟩ := fg_g_s h
    refine ⟨fr_vp (fr_n20 hok) c, ?_⟩
    try simp -zeta only [e_io, fr_i44 hok]
    obtain ⟨s30, e_s30, h⟩ := fg_let_s h
    intro S_s30
    have z_s30 : S_s30 = r_emb s0 o ra s30 := by rw [e_s30]; exact fr_s20 hok _ _
    clear_value S_s30
    subst z_s30
    refine ⟨ra 45, fr_r45 hok, ?_⟩
    refine ⟨fr_k45 hok, ?_⟩
    obtain ⟨c, h⟩ := fg_g_s h
    refine ⟨fr_vp (fr_n45 hok) c, ?_⟩
    refine ⟨ra 21, fr_r21 hok, ?_⟩
    refine ⟨fr_k21 hok, ?_⟩
    try simp -zeta only [e_io]
    obtain ⟨c, h⟩ := fg_g_s h
    refine ⟨fr_vp (fr_n21 hok) c, ?_⟩
    try simp -zeta only [e_io, fr_i45 hok]
    obtain ⟨s37, e_s37, h⟩ := fg_let_s h
    intro S_s37
    have z_s37 : S_s37 = r_emb s0 o ra s37 := by rw [e_s37]; exact fr_s21 hok _ _
    clear_value S_s37
    subst z_s37
    try simp -zeta only [e_io]
    obtain ⟨s38, e_s38, h⟩ := fg_let_s h
    intro S_s38
    have z_s38 : S_s38 = r_emb s0 o ra s38 := by rw [e_s38]; exact e_so _ _
    clear_value S_s38
    subst z_s38
    exact hK89 _ _ h
set_option maxRecDepth 100000 in
set_option maxHeartbeats 4000000 in
theorem ft_X12_store_89 {o : Nat} {ra : Nat → Nat} {s0 : h_S} (hok : r_ok o ra s0) {Q : Int32 → h_S → Prop} {r : Int32} {t : r_T} (hQ : Q r (r_emb s0 o ra t)) : ∀ (n : Nat) (x2 : Int32) (s : r_T), fn_X12_store_89 n x2 s = some (r, t) → w_X12_store_89 Q n o x2 (r_emb s0 o ra s) := by
  intro n
  induction n with
  | zero => intro x2 s h; exact fg_none h
  | succ n ih =>
    intro x2 s h
    exact ft_X12_store_89b hok hQ ih h
set_option maxRecDepth 100000 in
set_option maxHeartbeats 4000000 in
theorem ft_X12_store {o : Nat} {ra : Nat → Nat} {s0 : h_S} (hok : r_ok o ra s0) {Q : Int32 → h_S → Prop} {r : Int32} {t : r_T} {s : r_T} {x1 : Int32} (h : fn_X12_store x1 s = some (r, t)) (hQ : Q r (r_emb s0 o ra t)) : w_X12_store o x1 (r_emb s0 o ra s) Q := by
  unfold fn_X12_store at h
  unfold w_X12_store
  refine ⟨hok.1, ?_⟩
  try simp -zeta only [e_io]
  refine fg_ite Iff.rfl (fun d => ?_) (fun d => ?_)
  · have h := fg_if_t d h
    refine ⟨ra 11, fr_r11 hok, ?_⟩
    refine ⟨fr_k11 hok, ?_⟩
    obtain ⟨c, h⟩ := fg_g_s h
    refine ⟨fr_vp (fr_n11 hok) c, ?_⟩
    refine ⟨ra 12, fr_r12 hok, ?_⟩
    refine ⟨fr_k12 hok, ?_⟩
    try simp -zeta only [e_io]
    obtain ⟨c, h⟩ := fg_g_s h
    refine ⟨fr_vp (fr_n12 hok) c, ?_⟩
    try simp -zeta only [e_io, fr_i11 hok]
    obtain ⟨s9, e_s9, h⟩ := fg_let_s h
    intro S_s9
    have z_s9 : S_s9 = r_emb s0 o ra s9 := by rw [e_s9]; exact fr_s12 hok _ _
    clear_value S_s9
    subst z_s9
    refine ⟨ra 13, fr_r13 hok, ?_⟩
    refine ⟨fr_k13 hok, ?_⟩
    try simp -zeta only [e_io]
    obtain ⟨c, h⟩ := fg_g_s h
    refine ⟨fr_vp (fr_n13 hok) c, ?_⟩
    try simp -zeta only [e_io]
    obtain ⟨s13, e_s13, h⟩ := fg_let_s h
    intro S_s13
    have z_s13 : S_s13 = r_emb s0 o ra s13 := by rw [e_s13]; exact fr_s13 hok _ _
    clear_value S_s13
    subst z_s13
    refine ⟨ra 14, fr_r14 hok, ?_⟩
    refine ⟨fr_k14 hok, ?_⟩
    try simp -zeta only [e_io]
    obtain ⟨c, h⟩ := fg_g_s h
    refine ⟨fr_vp (fr_n14 hok) c, ?_⟩
    try simp -zeta only [e_io]
    obtain ⟨s17, e_s17, h⟩ := fg_let_s h
    intro S_s17
    have z_s17 : S_s17 = r_emb s0 o ra s17 := by rw [e_s17]; exact fr_s14 hok _ _
    clear_value S_s17
    subst z_s17
    refine ⟨ra 15, fr_r15 hok, ?_⟩
    refine ⟨fr_k15 hok, ?_⟩
    try simp -zeta only [e_io]
    obtain ⟨c, h⟩ := fg_g_s h
    refine ⟨fr_vp (fr_n15 hok) c, ?_⟩
    try simp -zeta only [e_io]
    obtain ⟨s21, e_s21, h⟩ := fg_let_s h
    intro S_s21
    have z_s21 : S_s21 = r_emb s0 o ra s21 := by rw [e_s21]; exact fr_s15 hok _ _
    clear_value S_s21
    subst z_s21
    refine ⟨ra 11, fr_r11 hok, ?_⟩
    refine ⟨fr_k11 hok, ?_⟩
    obtain ⟨c, h⟩ := fg_g_s h
    refine ⟨fr_vp (fr_n11 hok) c, ?_⟩
    try simp -zeta only [e_io]
    obtain ⟨s25, e_s25, h⟩ := fg_let_s h
    intro S_s25
    have z_s25 : S_s25 = r_emb s0 o ra s25 := by rw [e_s25]; exact fr_s11 hok _ _
    clear_value S_s25
    subst z_s25
    try simp -zeta only [e_io]
    obtain ⟨s26, e_s26, h⟩ := fg_let_s h
    intro S_s26
    have z_s26 : S_s26 = r_emb s0 o ra s26 := by rw [e_s26]; exact e_so _ _
    clear_value S_s26
    subst z_s26
    exact ⟨g_N, ft_X12_store_89 hok hQ g_N _ _ h⟩
  · have h := fg_if_e d h
    obtain ⟨q, q2⟩ := fg_ret h
    subst q
    subst q2
    exact hQ
set_option maxRecDepth 100000 in
set_option maxHeartbeats 4000000 in
theorem ft_X12_come {o : Nat} {ra : Nat → Nat} {s0 : h_S} (hok : r_ok o ra s0) {Q : Int32 → h_S → Prop} {r : Int32} {t : r_T} {s : r_T} {x1 : Int32} {x2 : Int32} {x3 : Int32} {x4 : Int32} {x5 : Int32} {x6 : Int32} {x7 : Int32} (h : fn_X12_come x1 x2 x3 x4 x5 x6 x7 s = some (r, t)) (hQ : Q r (r_emb s0 o ra t)) : w_X12_come o x1 x2 x3 x4 x5 x6 x7 (r_emb s0 o ra s) Q := by
  unfold fn_X12_come at h
  unfold w_X12_come
  refine ⟨hok.1, ?_⟩
  obtain ⟨p3, s2, e_s2, h⟩ := fg_b_s h
  refine ft_X12_openAt hok e_s2 ?_
  refine ⟨hok.1, ?_⟩
  obtain ⟨u_, s5, e_s5, h⟩ := fg_b_s h
  refine ft_X12_widen hok e_s5 ?_
  refine ⟨hok.1, ?_⟩
  obtain ⟨u_, s8, e_s8, h⟩ := fg_b_s h
  refine ft_X12_setPiece hok e_s8 ?_
  refine ⟨hok.1, ?_⟩
  obtain ⟨p12, s11, e_s11, h⟩ := fg_b_s h
  refine ft_X12_store hok e_s11 ?_
  obtain ⟨c, h⟩ := fg_g_s h
  refine ⟨c, ?_⟩
  obtain ⟨q, q2⟩ := fg_ret h
  subst q
  subst q2
  exact hQ
set_option maxRecDepth 100000 in
set_option maxHeartbeats 4000000 in
theorem ft_X12_takeOut_54 {o : Nat} {ra : Nat → Nat} {s0 : h_S} (hok : r_ok o ra s0) {Q : h_S → Prop} {r : Unit} {t : r_T} (hQ : Q (r_emb s0 o ra t)) {K25 : Int32 → Int32 → Int32 → Int32 → Int32 → Int32 → r_T → Option (Unit × r_T)} {WK25 : Nat → Int32 → Int32 → Int32 → Int32 → Int32 → Int32 → h_S → Prop} (hK25 : ∀ (n0 : Int32) (n1 : Int32) (n2 : Int32) (n3 : Int32) (n4 : Int32) (n5 : Int32) (u : r_T), K25 n0 n1 n2 n3 n4 n5 u = some (r, t) → WK25 o n0 n1 n2 n3 n4 n5 (r_emb s0 o ra u)) {s : r_T} {x1 : Int32} {x3 : Int32} {x4 : Int32} {x5 : Int32} {x6 : Int32} {x7 : Int32} (h : fn_X12_takeOut_54 K25 x1 x3 x4 x5 x6 x7 s = some (r, t)) : w_X12_takeOut_54 Q WK25 o x1 x3 x4 x5 x6 x7 (r_emb s0 o ra s) := by
  unfold fn_X12_takeOut_54 at h
  unfold w_X12_takeOut_54
  refine ⟨hok.1, ?_⟩
  refine ⟨ra 41, fr_r41 hok, ?_⟩
  refine ⟨fr_k41 hok, ?_⟩
  obtain ⟨c, h⟩ := fg_g_s h
  refine ⟨fr_vp (fr_n41 hok) c, ?_⟩
  refine ⟨ra 42, fr_r42 hok, ?_⟩
  refine ⟨fr_k42 hok, ?_⟩
  obtain ⟨c, h⟩ := fg_g_s h
  refine ⟨fr_vp (fr_n42 hok) c, ?_⟩
  refine ⟨ra 43, fr_r43 hok, ?_⟩
  refine ⟨fr_k43 hok, ?_⟩
  obtain ⟨c, h⟩ := fg_g_s h
  refine ⟨fr_vp (fr_n43 hok) c, ?_⟩
  refine ⟨ra 44, fr_r44 hok, ?_⟩
  refine ⟨fr_k44 hok, ?_⟩
  obtain ⟨c, h⟩ := fg_g_s h
  refine ⟨fr_vp (fr_n44 hok) c, ?_⟩
  refine ⟨ra 45, fr_r45 hok, ?_⟩
  refine ⟨fr_k45 hok, ?_⟩
  obtain ⟨c, h⟩ := fg_g_s h
  refine ⟨fr_vp (fr_n45 hok) c, ?_⟩
  try simp -zeta only [fr_i41 hok, fr_i42 hok, fr_i43 hok, fr_i44 hok, fr_i45 hok]
  obtain ⟨u_, s17, e_s17, h⟩ := fg_b_s h
  refine ft_X12_setPiece hok e_s17 ?_
  unfold w_X12_takeOut_365
  exact hK25 _ _ _ _ _ _ _ h
set_option maxRecDepth 100000 in
set_option maxHeartbeats 4000000 in
theorem ft_X12_takeOut_209 {o : Nat} {ra : Nat → Nat} {s0 : h_S} (hok : r_ok o ra s0) {Q : h_S → Prop} {r : Unit} {t : r_T} (hQ : Q (r_emb s0 o ra t)) {K25 : Int32 → Int32 → Int32 → Int32 → Int32 → Int32 → r_T → Option (Unit × r_T)} {WK25 : Nat → Int32 → Int32 → Int32 → Int32 → Int32 → Int32 → h_S → Prop} (hK25 : ∀ (n0 : Int32) (n1 : Int32) (n2 : Int32) (n3 : Int32) (n4 : Int32) (n5 : Int32) (u : r_T), K25 n0 n1 n2 n3 n4 n5 u = some (r, t) → WK25 o n0 n1 n2 n3 n4 n5 (r_emb s0 o ra u)) {s : r_T} {x1 : Int32} {x3 : Int32} {x4 : Int32} {x5 : Int32} {x6 : Int32} {x7 : Int32} {x8 : Int32} {x9 : Int32} (h : fn_X12_takeOut_209 K25 x1 x3 x4 x5 x6 x7 x8 x9 s = some (r, t)) : w_X12_takeOut_209 Q WK25 o x1 x3 x4 x5 x6 x7 x8 x9 (r_emb s0 o ra s) := by
  unfold fn_X12_takeOut_209 at h
  unfold w_X12_takeOut_209
  refine ⟨hok.1, ?_⟩
  refine ⟨ra 41, fr_r41 hok, ?_⟩
  refine ⟨fr_k41 hok, ?_⟩
  obtain ⟨c, h⟩ := fg_g_s h
  refine ⟨fr_vp (fr_n41 hok) c, ?_⟩
  refine ⟨ra 49, fr_r49 hok, ?_⟩
  refine ⟨fr_k49 hok, ?_⟩
  try simp -zeta only [e_io]
  obtain ⟨c, h⟩ := fg_g_s h
  refine ⟨fr_vp (fr_n49 hok) c, ?_⟩
  try simp -zeta only [e_io, fr_i41 hok]
  obtain ⟨s8, e_s8, h⟩ := fg_let_s h
  intro S_s8
  have z_s8 : S_s8 = r_emb s0 o ra s8 := by rw [e_s8]; exact fr_s49 hok _ _
  clear_value S_s8
  subst z_s8
  refine ⟨ra 42, fr_r42 hok, ?_⟩
  refine ⟨fr_k42 hok, ?_⟩
  obtain ⟨c, h⟩ := fg_g_s h
  refine ⟨fr_vp (fr_n42 hok) c, ?_⟩
  refine ⟨ra 50, fr_r50 hok, ?_⟩
  refine ⟨fr_k50 hok, ?_⟩
  try simp -zeta only [e_io]
  obtain ⟨c, h⟩ := fg_g_s h
  refine ⟨fr_vp (fr_n50 hok) c, ?_⟩
  try simp -zeta only [e_io, fr_i42 hok]
  obtain ⟨s15, e_s15, h⟩ := fg_let_s h
  intro S_s15
  have z_s15 : S_s15 = r_emb s0 o ra s15 := by rw [e_s15]; exact fr_s50 hok _ _
  clear_value S_s15
  subst z_s15
  refine ⟨ra 51, fr_r51 hok, ?_⟩
  refine ⟨fr_k51 hok, ?_⟩
  try simp -zeta only [e_io]
  obtain ⟨c, h⟩ := fg_g_s h
  refine ⟨fr_vp (fr_n51 hok) c, ?_⟩
  try simp -zeta only [e_io]
  obtain ⟨s19, e_s19, h⟩ := fg_let_s h
  intro S_s19
  have z_s19 : S_s19 = r_emb s0 o ra s19 := by rw [e_s19]; exact fr_s51 hok _ _
  clear_value S_s19
  subst z_s19
  refine ⟨ra 44, fr_r44 hok, ?_⟩
  refine ⟨fr_k44 hok, ?_⟩
  obtain ⟨c, h⟩ := fg_g_s h
  refine ⟨fr_vp (fr_n44 hok) c, ?_⟩
  refine ⟨ra 52, fr_r52 hok, ?_⟩
  refine ⟨fr_k52 hok, ?_⟩
  try simp -zeta only [e_io]
  obtain ⟨c, h⟩ := fg_g_s h
  refine ⟨fr_vp (fr_n52 hok) c, ?_⟩
  try simp -zeta only [e_io, fr_i44 hok]
  obtain ⟨s26, e_s26, h⟩ := fg_let_s h
  intro S_s26
  have z_s26 : S_s26 = r_emb s0 o ra s26 := by rw [e_s26]; exact fr_s52 hok _ _
  clear_value S_s26
  subst z_s26
  refine ⟨ra 45, fr_r45 hok, ?_⟩
  refine ⟨fr_k45 hok, ?_⟩
  obtain ⟨c, h⟩ := fg_g_s h
  refine ⟨fr_vp (fr_n45 hok) c, ?_⟩
  refine ⟨ra 53, fr_r53 hok, ?_⟩
  refine ⟨fr_k53 hok, ?_⟩
  try simp -zeta only [e_io]
  obtain ⟨c, h⟩ := fg_g_s h
  refine ⟨fr_vp (fr_n53 hok) c, ?_⟩
  try simp -zeta only [e_io, fr_i45 hok]
  obtain ⟨s33, e_s33, h⟩ := fg_let_s h
  intro S_s33
  have z_s33 : S_s33 = r_emb s0 o ra s33 := by rw [e_s33]; exact fr_s53 hok _ _
  clear_value S_s33
  subst z_s33
  try simp -zeta only [e_io]
  obtain ⟨s34, e_s34, h⟩ := fg_let_s h
  intro S_s34
  have z_s34 : S_s34 = r_emb s0 o ra s34 := by rw [e_s34]; exact e_so _ _
  clear_value S_s34
  subst z_s34
  refine ⟨ra 43, fr_r43 hok, ?_⟩
  refine ⟨fr_k43 hok, ?_⟩
  obtain ⟨c, h⟩ := fg_g_s h
  refine ⟨fr_vp (fr_n43 hok) c, ?_⟩
  try simp -zeta only [fr_i43 hok]
  refine fg_ite Iff.rfl (fun d => ?_) (fun d => ?_)
  · have h := fg_if_t d h
    unfold w_X12_takeOut_365
    exact hK25 _ _ _ _ _ _ _ h
  · have h := fg_if_e d h
    refine ⟨ra 41, fr_r41 hok, ?_⟩
    refine ⟨fr_k41 hok, ?_⟩
    obtain ⟨c, h⟩ := fg_g_s h
    refine ⟨fr_vp (fr_n41 hok) c, ?_⟩
    refine ⟨ra 42, fr_r42 hok, ?_⟩
    refine ⟨fr_k42 hok, ?_⟩
    obtain ⟨c, h⟩ := fg_g_s h
    refine ⟨fr_vp (fr_n42 hok) c, ?_⟩
    refine ⟨ra 43, fr_r43 hok, ?_⟩
    refine ⟨fr_k43 hok, ?_⟩
    obtain ⟨c, h⟩ := fg_g_s h
    refine ⟨fr_vp (fr_n43 hok) c, ?_⟩
    refine ⟨ra 44, fr_r44 hok, ?_⟩
    refine ⟨fr_k44 hok, ?_⟩
    obtain ⟨c, h⟩ := fg_g_s h
    refine ⟨fr_vp (fr_n44 hok) c, ?_⟩
    refine ⟨ra 45, fr_r45 hok, ?_⟩
    refine ⟨fr_k45 hok, ?_⟩
    obtain ⟨c, h⟩ := fg_g_s h
    refine ⟨fr_vp (fr_n45 hok) c, ?_⟩
    try simp -zeta only [fr_i41 hok, fr_i42 hok, fr_i43 hok, fr_i44 hok, fr_i45 hok]
    obtain ⟨u_, s54, e_s54, h⟩ := fg_b_s h
    refine ft_X12_setPiece hok e_s54 ?_
    unfold w_X12_takeOut_365
    exact hK25 _ _ _ _ _ _ _ h
set_option maxRecDepth 100000 in
set_option maxHeartbeats 4000000 in
theorem ft_X12_takeOut_160 {o : Nat} {ra : Nat → Nat} {s0 : h_S} (hok : r_ok o ra s0) {Q : h_S → Prop} {r : Unit} {t : r_T} (hQ : Q (r_emb s0 o ra t)) {K25 : Int32 → Int32 → Int32 → Int32 → Int32 → Int32 → r_T → Option (Unit × r_T)} {WK25 : Nat → Int32 → Int32 → Int32 → Int32 → Int32 → Int32 → h_S → Prop} (hK25 : ∀ (n0 : Int32) (n1 : Int32) (n2 : Int32) (n3 : Int32) (n4 : Int32) (n5 : Int32) (u : r_T), K25 n0 n1 n2 n3 n4 n5 u = some (r, t) → WK25 o n0 n1 n2 n3 n4 n5 (r_emb s0 o ra u)) {s : r_T} {x1 : Int32} {x3 : Int32} {x4 : Int32} {x5 : Int32} {x6 : Int32} {x7 : Int32} {x8 : Int32} {y0 : Int32} (h : fn_X12_takeOut_160 K25 x1 x3 x4 x5 x6 x7 x8 y0 s = some (r, t)) : w_X12_takeOut_160 Q WK25 o x1 x3 x4 x5 x6 x7 x8 y0 (r_emb s0 o ra s) := by
  unfold fn_X12_takeOut_160 at h
  unfold w_X12_takeOut_160
  refine fg_ite Iff.rfl (fun d => ?_) (fun d => ?_)
  · have h := fg_if_t d h
    exact ft_X12_takeOut_209 hok hQ hK25 h
  · have h := fg_if_e d h
    refine ⟨hok.1, ?_⟩
    refine ⟨ra 41, fr_r41 hok, ?_⟩
    refine ⟨fr_k41 hok, ?_⟩
    obtain ⟨c, h⟩ := fg_g_s h
    refine ⟨fr_vp (fr_n41 hok) c, ?_⟩
    refine ⟨ra 42, fr_r42 hok, ?_⟩
    refine ⟨fr_k42 hok, ?_⟩
    obtain ⟨c, h⟩ := fg_g_s h
    refine ⟨fr_vp (fr_n42 hok) c, ?_⟩
    refine ⟨ra 44, fr_r44 hok, ?_⟩
    refine ⟨fr_k44 hok, ?_⟩
    obtain ⟨c, h⟩ := fg_g_s h
    refine ⟨fr_vp (fr_n44 hok) c, ?_⟩
    refine ⟨ra 45, fr_r45 hok, ?_⟩
    refine ⟨fr_k45 hok, ?_⟩
    obtain ⟨c, h⟩ := fg_g_s h
    refine ⟨fr_vp (fr_n45 hok) c, ?_⟩
    try simp -zeta only [fr_i41 hok, fr_i42 hok, fr_i44 hok, fr_i45 hok]
    obtain ⟨u_, s15, e_s15, h⟩ := fg_b_s h
    refine ft_X12_setPiece hok e_s15 ?_
    exact ft_X12_takeOut_209 hok hQ hK25 h
set_option maxRecDepth 100000 in
set_option maxHeartbeats 4000000 in
theorem ft_X12_takeOut_128 {o : Nat} {ra : Nat → Nat} {s0 : h_S} (hok : r_ok o ra s0) {Q : h_S → Prop} {r : Unit} {t : r_T} (hQ : Q (r_emb s0 o ra t)) {K25 : Int32 → Int32 → Int32 → Int32 → Int32 → Int32 → r_T → Option (Unit × r_T)} {WK25 : Nat → Int32 → Int32 → Int32 → Int32 → Int32 → Int32 → h_S → Prop} (hK25 : ∀ (n0 : Int32) (n1 : Int32) (n2 : Int32) (n3 : Int32) (n4 : Int32) (n5 : Int32) (u : r_T), K25 n0 n1 n2 n3 n4 n5 u = some (r, t) → WK25 o n0 n1 n2 n3 n4 n5 (r_emb s0 o ra u)) {s : r_T} {x1 : Int32} {x3 : Int32} {x4 : Int32} {x5 : Int32} {x6 : Int32} {x7 : Int32} {y0 : Int32} (h : fn_X12_takeOut_128 K25 x1 x3 x4 x5 x6 x7 y0 s = some (r, t)) : w_X12_takeOut_128 Q WK25 o x1 x3 x4 x5 x6 x7 y0 (r_emb s0 o ra s) := by
  unfold fn_X12_takeOut_128 at h
  unfold w_X12_takeOut_128
  refine ⟨hok.1, ?_⟩
  refine ⟨ra 47, fr_r47 hok, ?_⟩
  refine ⟨fr_k47 hok, ?_⟩
  obtain ⟨c, h⟩ := fg_g_s h
  refine ⟨fr_vp (fr_n47 hok) c, ?_⟩
  try simp -zeta only [fr_i47 hok]
  refine fg_ite Iff.rfl (fun d => ?_) (fun d => ?_)
  · have h := fg_if_t d h
    refine ⟨ra 43, fr_r43 hok, ?_⟩
    refine ⟨fr_k43 hok, ?_⟩
    obtain ⟨c, h⟩ := fg_g_s h
    refine ⟨fr_vp (fr_n43 hok) c, ?_⟩
    try simp -zeta only [fr_i43 hok]
    exact ft_X12_takeOut_160 hok hQ hK25 h
  · have h := fg_if_e d h
    refine ⟨ra 46, fr_r46 hok, ?_⟩
    refine ⟨fr_k46 hok, ?_⟩
    obtain ⟨c, h⟩ := fg_g_s h
    refine ⟨fr_vp (fr_n46 hok) c, ?_⟩
    try simp -zeta only [fr_i46 hok]
    exact ft_X12_takeOut_160 hok hQ hK25 h
set_option maxRecDepth 100000 in
set_option maxHeartbeats 4000000 in
theorem ft_X12_takeOut_380b {o : Nat} {ra : Nat → Nat} {s0 : h_S} (hok : r_ok o ra s0) {Q : h_S → Prop} {r : Unit} {t : r_T} (hQ : Q (r_emb s0 o ra t)) {K380 : Int32 → Int32 → Int32 → r_T → Option (Unit × r_T)} {WK380 : Nat → Int32 → Int32 → Int32 → h_S → Prop} (hK380 : ∀ (n0 : Int32) (n1 : Int32) (n2 : Int32) (u : r_T), K380 n0 n1 n2 u = some (r, t) → WK380 o n0 n1 n2 (r_emb s0 o ra u)) {s : r_T} {x4 : Int32} {x6 : Int32} {x7 : Int32} (h : fn_X12_takeOut_380b K380 x4 x6 x7 s = some (r, t)) : w_X12_takeOut_380b Q WK380 o x4 x6 x7 (r_emb s0 o ra s) := by
  unfold fn_X12_takeOut_380b at h
  unfold w_X12_takeOut_380b
  refine fg_ite Iff.rfl (fun d => ?_) (fun d => ?_)
  · have h := fg_if_t d h
    obtain ⟨_, q⟩ := fg_ret h
    subst q
    exact hQ
  · have h := fg_if_e d h
    refine ⟨hok.1, ?_⟩
    refine ⟨ra 41, fr_r41 hok, ?_⟩
    refine ⟨fr_k41 hok, ?_⟩
    obtain ⟨c, h⟩ := fg_g_s h
    refine ⟨fr_vp (fr_n41 hok) c, ?_⟩
    refine ⟨ra 42, fr_r42 hok, ?_⟩
    refine ⟨fr_k42 hok, ?_⟩
    obtain ⟨c, h⟩ := fg_g_s h
    refine ⟨fr_vp (fr_n42 hok) c, ?_⟩
    refine ⟨ra 43, fr_r43 hok, ?_⟩
    refine ⟨fr_k43 hok, ?_⟩
    obtain ⟨c, h⟩ := fg_g_s h
    refine ⟨fr_vp (fr_n43 hok) c, ?_⟩
    refine ⟨ra 44, fr_r44 hok, ?_⟩
    refine ⟨fr_k44 hok, ?_⟩
    obtain ⟨c, h⟩ := fg_g_s h
    refine ⟨fr_vp (fr_n44 hok) c, ?_⟩
    refine ⟨ra 45, fr_r45 hok, ?_⟩
    refine ⟨fr_k45 hok, ?_⟩
    obtain ⟨c, h⟩ := fg_g_s h
    refine ⟨fr_vp (fr_n45 hok) c, ?_⟩
    try simp -zeta only [fr_i41 hok, fr_i42 hok, fr_i43 hok, fr_i44 hok, fr_i45 hok]
    obtain ⟨u_, s18, e_s18, h⟩ := fg_b_s h
    refine ft_X12_setPiece hok e_s18 ?_
    exact hK380 _ _ _ _ h
set_option maxRecDepth 100000 in
set_option maxHeartbeats 4000000 in
theorem ft_X12_takeOut_380 {o : Nat} {ra : Nat → Nat} {s0 : h_S} (hok : r_ok o ra s0) {Q : h_S → Prop} {r : Unit} {t : r_T} (hQ : Q (r_emb s0 o ra t)) : ∀ (n : Nat) (x4 : Int32) (x6 : Int32) (x7 : Int32) (s : r_T), fn_X12_takeOut_380 n x4 x6 x7 s = some (r, t) → w_X12_takeOut_380 Q n o x4 x6 x7 (r_emb s0 o ra s) := by
  intro n
  induction n with
  | zero => intro x4 x6 x7 s h; exact fg_none h
  | succ n ih =>
    intro x4 x6 x7 s h
    exact ft_X12_takeOut_380b hok hQ ih h
set_option maxRecDepth 100000 in
set_option maxHeartbeats 4000000 in
theorem ft_X12_takeOut_25b {o : Nat} {ra : Nat → Nat} {s0 : h_S} (hok : r_ok o ra s0) {Q : h_S → Prop} {r : Unit} {t : r_T} (hQ : Q (r_emb s0 o ra t)) {K25 : Int32 → Int32 → Int32 → Int32 → Int32 → Int32 → r_T → Option (Unit × r_T)} {WK25 : Nat → Int32 → Int32 → Int32 → Int32 → Int32 → Int32 → h_S → Prop} (hK25 : ∀ (n0 : Int32) (n1 : Int32) (n2 : Int32) (n3 : Int32) (n4 : Int32) (n5 : Int32) (u : r_T), K25 n0 n1 n2 n3 n4 n5 u = some (r, t) → WK25 o n0 n1 n2 n3 n4 n5 (r_emb s0 o ra u)) {s : r_T} {x1 : Int32} {x3 : Int32} {x4 : Int32} {x5 : Int32} {x6 : Int32} {x7 : Int32} (h : fn_X12_takeOut_25b K25 x1 x3 x4 x5 x6 x7 s = some (r, t)) : w_X12_takeOut_25b Q WK25 o x1 x3 x4 x5 x6 x7 (r_emb s0 o ra s) := by
  unfold fn_X12_takeOut_25b at h
  unfold w_X12_takeOut_25b
  refine fg_ite Iff.rfl (fun d => ?_) (fun d => ?_)
  · have h := fg_if_t d h
    refine ⟨hok.1, ?_⟩
    obtain ⟨s3, e_s3, h⟩ := fg_let_s h
    intro S_s3
    have z_s3 : S_s3 = r_emb s0 o ra s3 := by rw [e_s3]; exact e_so _ _
    clear_value S_s3
    subst z_s3
    exact ⟨g_N, ft_X12_takeOut_380 hok hQ g_N _ _ _ _ h⟩
  · have h := fg_if_e d h
    refine ⟨hok.1, ?_⟩
    refine ⟨ra 47, fr_r47 hok, ?_⟩
    refine ⟨fr_k47 hok, ?_⟩
    obtain ⟨c, h⟩ := fg_g_s h
    refine ⟨fr_vp (fr_n47 hok) c, ?_⟩
    try simp -zeta only [fr_i47 hok]
    refine fg_ite Iff.rfl (fun d => ?_) (fun d => ?_)
    · have h := fg_if_t d h
      exact ft_X12_takeOut_54 hok hQ hK25 h
    · have h := fg_if_e d h
      refine ⟨ra 46, fr_r46 hok, ?_⟩
      refine ⟨fr_k46 hok, ?_⟩
      obtain ⟨c, h⟩ := fg_g_s h
      refine ⟨fr_vp (fr_n46 hok) c, ?_⟩
      try simp -zeta only [fr_i46 hok]
      refine fg_ite Iff.rfl (fun d => ?_) (fun d => ?_)
      · have h := fg_if_t d h
        refine ⟨ra 46, fr_r46 hok, ?_⟩
        refine ⟨fr_k46 hok, ?_⟩
        obtain ⟨c, h⟩ := fg_g_s h
        refine ⟨fr_vp (fr_n46 hok) c, ?_⟩
        try simp -zeta only [fr_i46 hok]
        refine fg_ite Iff.rfl (fun d => ?_) (fun d => ?_)
        · have h := fg_if_t d h
          exact ft_X12_takeOut_128 hok hQ hK25 h
        · have h := fg_if_e d h
          refine ⟨ra 46, fr_r46 hok, ?_⟩
          refine ⟨fr_k46 hok, ?_⟩
          obtain ⟨c, h⟩ := fg_g_s h
          refine ⟨fr_vp (fr_n46 hok) c, ?_⟩
          try simp -zeta only [fr_i46 hok]
          exact ft_X12_takeOut_128 hok hQ hK25 h
      · have h := fg_if_e d h
        exact ft_X12_takeOut_54 hok hQ hK25 h
set_option maxRecDepth 100000 in
set_option maxHeartbeats 4000000 in
theorem ft_X12_takeOut_25 {o : Nat} {ra : Nat → Nat} {s0 : h_S} (hok : r_ok o ra s0) {Q : h_S → Prop} {r : Unit} {t : r_T} (hQ : Q (r_emb s0 o ra t)) : ∀ (n : Nat) (x1 : Int32) (x3 : Int32) (x4 : Int32) (x5 : Int32) (x6 : Int32) (x7 : Int32) (s : r_T), fn_X12_takeOut_25 n x1 x3 x4 x5 x6 x7 s = some (r, t) → w_X12_takeOut_25 Q n o x1 x3 x4 x5 x6 x7 (r_emb s0 o ra s) := by
  intro n
  induction n with
  | zero => intro x1 x3 x4 x5 x6 x7 s h; exact fg_none h
  | succ n ih =>
    intro x1 x3 x4 x5 x6 x7 s h
    exact ft_X12_takeOut_25b hok hQ ih h
set_option maxRecDepth 100000 in
set_option maxHeartbeats 4000000 in
theorem ft_X12_takeOut {o : Nat} {ra : Nat → Nat} {s0 : h_S} (hok : r_ok o ra s0) {Q : h_S → Prop} {r : Unit} {t : r_T} {s : r_T} {x1 : Int32} {x2 : Int32} (h : fn_X12_takeOut x1 x2 s = some (r, t)) (hQ : Q (r_emb s0 o ra t)) : w_X12_takeOut o x1 x2 (r_emb s0 o ra s) Q := by
  unfold fn_X12_takeOut at h
  unfold w_X12_takeOut
  refine ⟨hok.1, ?_⟩
  obtain ⟨s2, e_s2, h⟩ := fg_let_s h
  intro S_s2
  have z_s2 : S_s2 = r_emb s0 o ra s2 := by rw [e_s2]; exact e_so _ _
  clear_value S_s2
  subst z_s2
  try simp -zeta only [e_io]
  exact ⟨g_N, ft_X12_takeOut_25 hok hQ g_N _ _ _ _ _ _ _ h⟩
set_option maxRecDepth 100000 in
set_option maxHeartbeats 4000000 in
theorem ft_X12_shownThen {o : Nat} {ra : Nat → Nat} {s0 : h_S} (hok : r_ok o ra s0) {Q : Int32 → h_S → Prop} {r : Int32} {t : r_T} {s : r_T} {x1 : Int32} (h : fn_X12_shownThen x1 s = some (r, t)) (hQ : Q r (r_emb s0 o ra t)) : w_X12_shownThen o x1 (r_emb s0 o ra s) Q := by
  unfold fn_X12_shownThen at h
  unfold w_X12_shownThen
  refine ⟨hok.1, ?_⟩
  try simp -zeta only [e_io]
  obtain ⟨u_, s2, e_s2, h⟩ := fg_b_s h
  refine ft_X12_lay hok e_s2 ?_
  refine ⟨hok.1, ?_⟩
  try simp -zeta only [e_io]
  obtain ⟨q, q2⟩ := fg_ret h
  subst q
  subst q2
  exact hQ
set_option maxRecDepth 100000 in
set_option maxHeartbeats 4000000 in
theorem ft_X12_noPlaceAhead {o : Nat} {ra : Nat → Nat} {s0 : h_S} (hok : r_ok o ra s0) {Q : Int32 → h_S → Prop} {r : Int32} {t : r_T} {s : r_T} {x1 : Int32} {x2 : Int32} (h : fn_X12_noPlaceAhead x1 x2 s = some (r, t)) (hQ : Q r (r_emb s0 o ra t)) : w_X12_noPlaceAhead o x1 x2 (r_emb s0 o ra s) Q := by
  unfold fn_X12_noPlaceAhead at h
  unfold w_X12_noPlaceAhead
  refine ⟨hok.1, ?_⟩
  try simp -zeta only [e_io]
  obtain ⟨u_, s2, e_s2, h⟩ := fg_b_s h
  refine ft_X12_lay hok e_s2 ?_
  refine ⟨hok.1, ?_⟩
  try simp -zeta only [e_io]
  obtain ⟨p6, s5, e_s5, h⟩ := fg_b_s h
  refine ft_X12_in hok e_s5 ?_
  refine fg_ite Iff.rfl (fun d => ?_) (fun d => ?_)
  · have h := fg_if_t d h
    unfold w_X12_noPlaceAhead_28
    refine ⟨Or.inr rfl, ?_⟩
    obtain ⟨q, q2⟩ := fg_ret h
    subst q
    subst q2
    exact hQ
  · have h := fg_if_e d h
    unfold w_X12_noPlaceAhead_28
    refine ⟨Or.inl rfl, ?_⟩
    obtain ⟨q, q2⟩ := fg_ret h
    subst q
    subst q2
    exact hQ
set_option maxRecDepth 100000 in
set_option maxHeartbeats 4000000 in
theorem ft_X12_noSheet {o : Nat} {ra : Nat → Nat} {s0 : h_S} (hok : r_ok o ra s0) {Q : Int32 → h_S → Prop} {r : Int32} {t : r_T} {s : r_T} {x0 : Int32} (h : fn_X12_noSheet x0 s = some (r, t)) (hQ : Q r (r_emb s0 o ra t)) : w_X12_noSheet x0 (r_emb s0 o ra s) Q := by
  unfold fn_X12_noSheet at h
  unfold w_X12_noSheet
  obtain ⟨p2, s1, e_s1, h⟩ := fg_b_s h
  refine ft_X12_in hok e_s1 ?_
  refine fg_ite Iff.rfl (fun d => ?_) (fun d => ?_)
  · have h := fg_if_t d h
    unfold w_X12_noSheet_17
    refine ⟨Or.inr rfl, ?_⟩
    obtain ⟨q, q2⟩ := fg_ret h
    subst q
    subst q2
    exact hQ
  · have h := fg_if_e d h
    unfold w_X12_noSheet_17
    refine ⟨Or.inl rfl, ?_⟩
    obtain ⟨q, q2⟩ := fg_ret h
    subst q
    subst q2
    exact hQ
set_option maxRecDepth 100000 in
set_option maxHeartbeats 4000000 in
theorem ft_X12_isBeyond {o : Nat} {ra : Nat → Nat} {s0 : h_S} (hok : r_ok o ra s0) {Q : Int32 → h_S → Prop} {r : Int32} {t : r_T} {s : r_T} {x0 : Int32} {l1 : Int64} {x3 : Int32} (h : fn_X12_isBeyond x0 l1 x3 s = some (r, t)) (hQ : Q r (r_emb s0 o ra t)) : w_X12_isBeyond x0 l1 x3 (r_emb s0 o ra s) Q := by
  unfold fn_X12_isBeyond at h
  unfold w_X12_isBeyond
  refine fg_ite Iff.rfl (fun d => ?_) (fun d => ?_)
  · have h := fg_if_t d h
    unfold w_X12_isBeyond_20
    unfold w_X12_isBeyond_25
    refine ⟨Or.inr rfl, ?_⟩
    obtain ⟨q, q2⟩ := fg_ret h
    subst q
    subst q2
    exact hQ
  · have h := fg_if_e d h
    refine fg_ite Iff.rfl (fun d => ?_) (fun d => ?_)
    · have h := fg_if_t d h
      unfold w_X12_isBeyond_20
      unfold w_X12_isBeyond_25
      refine ⟨Or.inr rfl, ?_⟩
      obtain ⟨q, q2⟩ := fg_ret h
      subst q
      subst q2
      exact hQ
    · have h := fg_if_e d h
      refine fg_ite Iff.rfl (fun d => ?_) (fun d => ?_)
      · have h := fg_if_t d h
        unfold w_X12_isBeyond_25
        refine ⟨Or.inl rfl, ?_⟩
        obtain ⟨q, q2⟩ := fg_ret h
        subst q
        subst q2
        exact hQ
      · have h := fg_if_e d h
        unfold w_X12_isBeyond_20
        unfold w_X12_isBeyond_25
        refine ⟨Or.inr rfl, ?_⟩
        obtain ⟨q, q2⟩ := fg_ret h
        subst q
        subst q2
        exact hQ
set_option maxRecDepth 100000 in
set_option maxHeartbeats 4000000 in
theorem ft_X12_barred_44 {o : Nat} {ra : Nat → Nat} {s0 : h_S} (hok : r_ok o ra s0) {Q : Int32 → h_S → Prop} {r : Int32} {t : r_T} (hQ : Q r (r_emb s0 o ra t)) {s : r_T} {x1 : Int32} {x3 : Int32} {x4 : Int32} (h : fn_X12_barred_44 x1 x3 x4 s = some (r, t)) : w_X12_barred_44 Q o x1 x3 x4 (r_emb s0 o ra s) := by
  unfold fn_X12_barred_44 at h
  unfold w_X12_barred_44
  refine ⟨hok.1, ?_⟩
  refine ⟨ra 110, fr_r110 hok, ?_⟩
  refine ⟨fr_k110 hok, ?_⟩
  obtain ⟨c, h⟩ := fg_g_s h
  refine ⟨fr_vp (fr_n110 hok) c, ?_⟩
  try simp -zeta only [fr_i110 hok]
  refine fg_ite Iff.rfl (fun d => ?_) (fun d => ?_)
  · have h := fg_if_t d h
    refine fg_ite Iff.rfl (fun d => ?_) (fun d => ?_)
    · have h := fg_if_t d h
      refine ⟨ra 110, fr_r110 hok, ?_⟩
      refine ⟨fr_k110 hok, ?_⟩
      obtain ⟨c, h⟩ := fg_g_s h
      refine ⟨fr_vp (fr_n110 hok) c, ?_⟩
      try simp -zeta only [fr_i110 hok]
      obtain ⟨p11, s10, e_s10, h⟩ := fg_b_s h
      refine ft_X12_isBeyond hok e_s10 ?_
      refine fg_ite Iff.rfl (fun d => ?_) (fun d => ?_)
      · have h := fg_if_t d h
        unfold w_X12_barred_95
        obtain ⟨q, q2⟩ := fg_ret h
        subst q
        subst q2
        exact hQ
      · have h := fg_if_e d h
        refine ⟨hok.1, ?_⟩
        obtain ⟨p15, s14, e_s14, h⟩ := fg_b_s h
        refine ft_X12_failed hok e_s14 ?_
        unfold w_X12_barred_95
        obtain ⟨q, q2⟩ := fg_ret h
        subst q
        subst q2
        exact hQ
    · have h := fg_if_e d h
      obtain ⟨p17, s16, e_s16, h⟩ := fg_b_s h
      refine ft_X12_failed hok e_s16 ?_
      obtain ⟨q, q2⟩ := fg_ret h
      subst q
      subst q2
      exact hQ
  · have h := fg_if_e d h
    obtain ⟨p19, s18, e_s18, h⟩ := fg_b_s h
    refine ft_X12_failed hok e_s18 ?_
    obtain ⟨q, q2⟩ := fg_ret h
    subst q
    subst q2
    exact hQ
set_option maxRecDepth 100000 in
set_option maxHeartbeats 4000000 in
theorem ft_X12_barred {o : Nat} {ra : Nat → Nat} {s0 : h_S} (hok : r_ok o ra s0) {Q : Int32 → h_S → Prop} {r : Int32} {t : r_T} {s : r_T} {x1 : Int32} {x2 : Int32} {x3 : Int32} {x4 : Int32} (h : fn_X12_barred x1 x2 x3 x4 s = some (r, t)) (hQ : Q r (r_emb s0 o ra t)) : w_X12_barred o x1 x2 x3 x4 (r_emb s0 o ra s) Q := by
  unfold fn_X12_barred at h
  unfold w_X12_barred
  obtain ⟨p2, s1, e_s1, h⟩ := fg_b_s h
  refine ft_X12_in hok e_s1 ?_
  refine fg_ite Iff.rfl (fun d => ?_) (fun d => ?_)
  · have h := fg_if_t d h
    refine ⟨hok.1, ?_⟩
    obtain ⟨p17, s16, e_s16, h⟩ := fg_b_s h
    refine ft_X12_refused hok e_s16 ?_
    obtain ⟨q, q2⟩ := fg_ret h
    subst q
    subst q2
    exact hQ
  · have h := fg_if_e d h
    refine ⟨hok.1, ?_⟩
    refine ⟨ra 110, fr_r110 hok, ?_⟩
    refine ⟨fr_k110 hok, ?_⟩
    obtain ⟨c, h⟩ := fg_g_s h
    refine ⟨fr_vp (fr_n110 hok) c, ?_⟩
    try simp -zeta only [fr_i110 hok]
    refine fg_ite Iff.rfl (fun d => ?_) (fun d => ?_)
    · have h := fg_if_t d h
      exact ft_X12_barred_44 hok hQ h
    · have h := fg_if_e d h
      refine ⟨ra 111, fr_r111 hok, ?_⟩
      refine ⟨fr_k111 hok, ?_⟩
      obtain ⟨c, h⟩ := fg_g_s h
      refine ⟨fr_vp (fr_n111 hok) c, ?_⟩
      try simp -zeta only [fr_i111 hok]
      refine fg_ite Iff.rfl (fun d => ?_) (fun d => ?_)
      · have h := fg_if_t d h
        exact ft_X12_barred_44 hok hQ h
      · have h := fg_if_e d h
        obtain ⟨p14, s13, e_s13, h⟩ := fg_b_s h
        refine ft_X12_failed hok e_s13 ?_
        obtain ⟨q, q2⟩ := fg_ret h
        subst q
        subst q2
        exact hQ
