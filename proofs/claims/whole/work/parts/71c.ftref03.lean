set_option maxRecDepth 100000 in
set_option maxHeartbeats 4000000 in
theorem ft_X12_link_107 {o : Nat} {ra : Nat → Nat} {s0 : h_S} (hok : r_ok o ra s0) {Q : Int32 → h_S → Prop} {r : Int32} {t : r_T} (hQ : Q r (r_emb s0 o ra t)) {s : r_T} {x1 : Int32} {x2 : Int32} {x3 : Int32} {x4 : Int32} {x5 : Int32} (h : fn_X12_link_107 x1 x2 x3 x4 x5 s = some (r, t)) : w_X12_link_107 Q o x1 x2 x3 x4 x5 (r_emb s0 o ra s) := by
  unfold fn_X12_link_107 at h
  unfold w_X12_link_107
  refine fg_ite Iff.rfl (fun d => ?_) (fun d => ?_)
  · have h := fg_if_t d h
    refine ⟨hok.1, ?_⟩
    obtain ⟨p4, s3, e_s3, h⟩ := fg_b_s h
    refine ft_X12_areAlike hok e_s3 ?_
    refine fg_ite Iff.rfl (fun d => ?_) (fun d => ?_)
    · have h := fg_if_t d h
      exact ft_X12_link_132 hok hQ h
    · have h := fg_if_e d h
      refine ⟨hok.1, ?_⟩
      obtain ⟨p8, s7, e_s7, h⟩ := fg_b_s h
      refine ft_X12_refused hok e_s7 ?_
      obtain ⟨q, q2⟩ := fg_ret h
      subst q
      subst q2
      exact hQ
  · have h := fg_if_e d h
    exact ft_X12_link_132 hok hQ h
set_option maxRecDepth 100000 in
set_option maxHeartbeats 4000000 in
theorem ft_X12_link_78 {o : Nat} {ra : Nat → Nat} {s0 : h_S} (hok : r_ok o ra s0) {Q : Int32 → h_S → Prop} {r : Int32} {t : r_T} (hQ : Q r (r_emb s0 o ra t)) {s : r_T} {x1 : Int32} {x2 : Int32} {x3 : Int32} {x4 : Int32} {x5 : Int32} (h : fn_X12_link_78 x1 x2 x3 x4 x5 s = some (r, t)) : w_X12_link_78 Q o x1 x2 x3 x4 x5 (r_emb s0 o ra s) := by
  unfold fn_X12_link_78 at h
  unfold w_X12_link_78
  refine fg_ite Iff.rfl (fun d => ?_) (fun d => ?_)
  · have h := fg_if_t d h
    refine ⟨hok.1, ?_⟩
    refine ⟨ra 81, fr_r81 hok, ?_⟩
    refine ⟨fr_k81 hok, ?_⟩
    obtain ⟨c, h⟩ := fg_g_s h
    refine ⟨fr_vp (fr_n81 hok) c, ?_⟩
    try simp -zeta only [fr_i81 hok]
    obtain ⟨p7, s6, e_s6, h⟩ := fg_b_s h
    refine ft_X12_in hok e_s6 ?_
    refine fg_ite Iff.rfl (fun d => ?_) (fun d => ?_)
    · have h := fg_if_t d h
      refine ⟨hok.1, ?_⟩
      obtain ⟨p11, s10, e_s10, h⟩ := fg_b_s h
      refine ft_X12_failed hok e_s10 ?_
      obtain ⟨q, q2⟩ := fg_ret h
      subst q
      subst q2
      exact hQ
    · have h := fg_if_e d h
      exact ft_X12_link_107 hok hQ h
  · have h := fg_if_e d h
    exact ft_X12_link_107 hok hQ h
set_option maxRecDepth 100000 in
set_option maxHeartbeats 4000000 in
theorem ft_X12_link_35 {o : Nat} {ra : Nat → Nat} {s0 : h_S} (hok : r_ok o ra s0) {Q : Int32 → h_S → Prop} {r : Int32} {t : r_T} (hQ : Q r (r_emb s0 o ra t)) {s : r_T} {x1 : Int32} {x2 : Int32} {x3 : Int32} {x4 : Int32} {x5 : Int32} (h : fn_X12_link_35 x1 x2 x3 x4 x5 s = some (r, t)) : w_X12_link_35 Q o x1 x2 x3 x4 x5 (r_emb s0 o ra s) := by
  unfold fn_X12_link_35 at h
  unfold w_X12_link_35
  refine ⟨hok.1, ?_⟩
  obtain ⟨p3, s2, e_s2, h⟩ := fg_b_s h
  refine ft_X12_areWords hok e_s2 ?_
  refine fg_ite Iff.rfl (fun d => ?_) (fun d => ?_)
  · have h := fg_if_t d h
    exact ft_X12_link_72 hok hQ h
  · have h := fg_if_e d h
    refine fg_ite Iff.rfl (fun d => ?_) (fun d => ?_)
    · have h := fg_if_t d h
      refine ⟨hok.1, ?_⟩
      obtain ⟨p12, s11, e_s11, h⟩ := fg_b_s h
      refine ft_X12_noLink hok e_s11 ?_
      refine fg_ite Iff.rfl (fun d => ?_) (fun d => ?_)
      · have h := fg_if_t d h
        exact ft_X12_link_78 hok hQ h
      · have h := fg_if_e d h
        exact ft_X12_link_72 hok hQ h
    · have h := fg_if_e d h
      refine ⟨hok.1, ?_⟩
      obtain ⟨p8, s7, e_s7, h⟩ := fg_b_s h
      refine ft_X12_areWords hok e_s7 ?_
      refine fg_ite Iff.rfl (fun d => ?_) (fun d => ?_)
      · have h := fg_if_t d h
        exact ft_X12_link_72 hok hQ h
      · have h := fg_if_e d h
        exact ft_X12_link_78 hok hQ h
set_option maxRecDepth 100000 in
set_option maxHeartbeats 4000000 in
theorem ft_X12_link {o : Nat} {ra : Nat → Nat} {s0 : h_S} (hok : r_ok o ra s0) {Q : Int32 → h_S → Prop} {r : Int32} {t : r_T} {s : r_T} {x1 : Int32} {x2 : Int32} {x3 : Int32} {x4 : Int32} {x5 : Int32} (h : fn_X12_link x1 x2 x3 x4 x5 s = some (r, t)) (hQ : Q r (r_emb s0 o ra t)) : w_X12_link o x1 x2 x3 x4 x5 (r_emb s0 o ra s) Q := by
  unfold fn_X12_link at h
  unfold w_X12_link
  obtain ⟨p2, s1, e_s1, h⟩ := fg_b_s h
  refine ft_X12_in hok e_s1 ?_
  refine fg_ite Iff.rfl (fun d => ?_) (fun d => ?_)
  · have h := fg_if_t d h
    exact ft_X12_link_28 hok hQ h
  · have h := fg_if_e d h
    refine fg_ite Iff.rfl (fun d => ?_) (fun d => ?_)
    · have h := fg_if_t d h
      exact ft_X12_link_28 hok hQ h
    · have h := fg_if_e d h
      refine fg_ite Iff.rfl (fun d => ?_) (fun d => ?_)
      · have h := fg_if_t d h
        exact ft_X12_link_35 hok hQ h
      · have h := fg_if_e d h
        refine fg_ite Iff.rfl (fun d => ?_) (fun d => ?_)
        · have h := fg_if_t d h
          exact ft_X12_link_35 hok hQ h
        · have h := fg_if_e d h
          exact ft_X12_link_28 hok hQ h
set_option maxRecDepth 100000 in
set_option maxHeartbeats 4000000 in
theorem ft_X12_ofLink {o : Nat} {ra : Nat → Nat} {s0 : h_S} (hok : r_ok o ra s0) {Q : Int32 → h_S → Prop} {r : Int32} {t : r_T} {s : r_T} {x1 : Int32} {x2 : Int32} (h : fn_X12_ofLink x1 x2 s = some (r, t)) (hQ : Q r (r_emb s0 o ra t)) : w_X12_ofLink o x1 x2 (r_emb s0 o ra s) Q := by
  unfold fn_X12_ofLink at h
  unfold w_X12_ofLink
  refine ⟨hok.1, ?_⟩
  obtain ⟨p3, s2, e_s2, h⟩ := fg_b_s h
  refine ft_X12_noLink hok e_s2 ?_
  refine fg_ite Iff.rfl (fun d => ?_) (fun d => ?_)
  · have h := fg_if_t d h
    refine fg_ite Iff.rfl (fun d => ?_) (fun d => ?_)
    · have h := fg_if_t d h
      refine ⟨hok.1, ?_⟩
      refine ⟨ra 81, fr_r81 hok, ?_⟩
      refine ⟨fr_k81 hok, ?_⟩
      obtain ⟨c, h⟩ := fg_g_s h
      refine ⟨fr_vp (fr_n81 hok) c, ?_⟩
      try simp -zeta only [fr_i81 hok]
      obtain ⟨q, q2⟩ := fg_ret h
      subst q
      subst q2
      exact hQ
    · have h := fg_if_e d h
      refine fg_ite Iff.rfl (fun d => ?_) (fun d => ?_)
      · have h := fg_if_t d h
        refine ⟨hok.1, ?_⟩
        refine ⟨ra 82, fr_r82 hok, ?_⟩
        refine ⟨fr_k82 hok, ?_⟩
        obtain ⟨c, h⟩ := fg_g_s h
        refine ⟨fr_vp (fr_n82 hok) c, ?_⟩
        try simp -zeta only [fr_i82 hok]
        obtain ⟨q, q2⟩ := fg_ret h
        subst q
        subst q2
        exact hQ
      · have h := fg_if_e d h
        refine fg_ite Iff.rfl (fun d => ?_) (fun d => ?_)
        · have h := fg_if_t d h
          refine ⟨hok.1, ?_⟩
          refine ⟨ra 83, fr_r83 hok, ?_⟩
          refine ⟨fr_k83 hok, ?_⟩
          obtain ⟨c, h⟩ := fg_g_s h
          refine ⟨fr_vp (fr_n83 hok) c, ?_⟩
          try simp -zeta only [fr_i83 hok]
          obtain ⟨q, q2⟩ := fg_ret h
          subst q
          subst q2
          exact hQ
        · have h := fg_if_e d h
          refine fg_ite Iff.rfl (fun d => ?_) (fun d => ?_)
          · have h := fg_if_t d h
            refine ⟨hok.1, ?_⟩
            refine ⟨ra 84, fr_r84 hok, ?_⟩
            refine ⟨fr_k84 hok, ?_⟩
            obtain ⟨c, h⟩ := fg_g_s h
            refine ⟨fr_vp (fr_n84 hok) c, ?_⟩
            try simp -zeta only [fr_i84 hok]
            obtain ⟨q, q2⟩ := fg_ret h
            subst q
            subst q2
            exact hQ
          · have h := fg_if_e d h
            refine fg_ite Iff.rfl (fun d => ?_) (fun d => ?_)
            · have h := fg_if_t d h
              refine ⟨hok.1, ?_⟩
              refine ⟨ra 85, fr_r85 hok, ?_⟩
              refine ⟨fr_k85 hok, ?_⟩
              obtain ⟨c, h⟩ := fg_g_s h
              refine ⟨fr_vp (fr_n85 hok) c, ?_⟩
              try simp -zeta only [fr_i85 hok]
              obtain ⟨q, q2⟩ := fg_ret h
              subst q
              subst q2
              exact hQ
            · have h := fg_if_e d h
              refine fg_ite Iff.rfl (fun d => ?_) (fun d => ?_)
              · have h := fg_if_t d h
                refine ⟨hok.1, ?_⟩
                refine ⟨ra 86, fr_r86 hok, ?_⟩
                refine ⟨fr_k86 hok, ?_⟩
                obtain ⟨c, h⟩ := fg_g_s h
                refine ⟨fr_vp (fr_n86 hok) c, ?_⟩
                try simp -zeta only [fr_i86 hok]
                obtain ⟨q, q2⟩ := fg_ret h
                subst q
                subst q2
                exact hQ
              · have h := fg_if_e d h
                obtain ⟨q, q2⟩ := fg_ret h
                subst q
                subst q2
                exact hQ
  · have h := fg_if_e d h
    obtain ⟨q, q2⟩ := fg_ret h
    subst q
    subst q2
    exact hQ
set_option maxRecDepth 100000 in
set_option maxHeartbeats 4000000 in
theorem ft_X12_findPart_149 {o : Nat} {ra : Nat → Nat} {s0 : h_S} (hok : r_ok o ra s0) {Q : Int32 → h_S → Prop} {r : Int32} {t : r_T} (hQ : Q r (r_emb s0 o ra t)) {K53 : Int32 → Int32 → Int32 → Int32 → Int32 → r_T → Option (Int32 × r_T)} {WK53 : Nat → Int32 → Int32 → Int32 → Int32 → Int32 → h_S → Prop} (hK53 : ∀ (n0 : Int32) (n1 : Int32) (n2 : Int32) (n3 : Int32) (n4 : Int32) (u : r_T), K53 n0 n1 n2 n3 n4 u = some (r, t) → WK53 o n0 n1 n2 n3 n4 (r_emb s0 o ra u)) {s : r_T} {x3 : Int32} {x4 : Int32} {x5 : Int32} {x6 : Int32} {x7 : Int32} {x8 : Int32} (h : fn_X12_findPart_149 K53 x3 x4 x5 x6 x7 x8 s = some (r, t)) : w_X12_findPart_149 Q WK53 o x3 x4 x5 x6 x7 x8 (r_emb s0 o ra s) := by
  unfold fn_X12_findPart_149 at h
  unfold w_X12_findPart_149
  refine fg_ite Iff.rfl (fun d => ?_) (fun d => ?_)
  · have h := fg_if_t d h
    refine ⟨hok.1, ?_⟩
    obtain ⟨s3, e_s3, h⟩ := fg_let_s h
    intro S_s3
    have z_s3 : S_s3 = r_emb s0 o ra s3 := by rw [e_s3]; exact e_so _ _
    clear_value S_s3
    subst z_s3
    obtain ⟨s4, e_s4, h⟩ := fg_let_s h
    intro S_s4
    have z_s4 : S_s4 = r_emb s0 o ra s4 := by rw [e_s4]; exact e_so _ _
    clear_value S_s4
    subst z_s4
    unfold w_X12_findPart_170
    unfold w_X12_findPart_179
    exact hK53 _ _ _ _ _ _ h
  · have h := fg_if_e d h
    unfold w_X12_findPart_170
    unfold w_X12_findPart_179
    exact hK53 _ _ _ _ _ _ h
set_option maxRecDepth 100000 in
set_option maxHeartbeats 4000000 in
theorem ft_X12_findPart_101b {o : Nat} {ra : Nat → Nat} {s0 : h_S} (hok : r_ok o ra s0) {Q : Int32 → h_S → Prop} {r : Int32} {t : r_T} (hQ : Q r (r_emb s0 o ra t)) {K53 : Int32 → Int32 → Int32 → Int32 → Int32 → r_T → Option (Int32 × r_T)} {WK53 : Nat → Int32 → Int32 → Int32 → Int32 → Int32 → h_S → Prop} (hK53 : ∀ (n0 : Int32) (n1 : Int32) (n2 : Int32) (n3 : Int32) (n4 : Int32) (u : r_T), K53 n0 n1 n2 n3 n4 u = some (r, t) → WK53 o n0 n1 n2 n3 n4 (r_emb s0 o ra u)) {K101 : Int32 → Int32 → Int32 → Int32 → Int32 → Int32 → r_T → Option (Int32 × r_T)} {WK101 : Nat → Int32 → Int32 → Int32 → Int32 → Int32 → Int32 → h_S → Prop} (hK101 : ∀ (n0 : Int32) (n1 : Int32) (n2 : Int32) (n3 : Int32) (n4 : Int32) (n5 : Int32) (u : r_T), K101 n0 n1 n2 n3 n4 n5 u = some (r, t) → WK101 o n0 n1 n2 n3 n4 n5 (r_emb s0 o ra u)) {s : r_T} {x3 : Int32} {x4 : Int32} {x5 : Int32} {x6 : Int32} {x7 : Int32} {x8 : Int32} (h : fn_X12_findPart_101b K53 K101 x3 x4 x5 x6 x7 x8 s = some (r, t)) : w_X12_findPart_101b Q WK53 WK101 o x3 x4 x5 x6 x7 x8 (r_emb s0 o ra s) := by
  unfold fn_X12_findPart_101b at h
  unfold w_X12_findPart_101b
  refine ⟨hok.1, ?_⟩
  try simp -zeta only [e_io]
  refine fg_ite Iff.rfl (fun d => ?_) (fun d => ?_)
  · have h := fg_if_t d h
    exact ft_X12_findPart_149 hok hQ hK53 h
  · have h := fg_if_e d h
    refine ⟨ra 36, fr_r36 hok, ?_⟩
    refine ⟨fr_k36 hok, ?_⟩
    obtain ⟨c, h⟩ := fg_g_s h
    refine ⟨fr_vp (fr_n36 hok) c, ?_⟩
    refine ⟨ra 36, fr_r36 hok, ?_⟩
    refine ⟨fr_k36 hok, ?_⟩
    obtain ⟨c, h⟩ := fg_g_s h
    refine ⟨fr_vp (fr_n36 hok) c, ?_⟩
    try simp -zeta only [fr_i36 hok]
    refine fg_ite Iff.rfl (fun d => ?_) (fun d => ?_)
    · have h := fg_if_t d h
      refine ⟨ra 36, fr_r36 hok, ?_⟩
      refine ⟨fr_k36 hok, ?_⟩
      obtain ⟨c, h⟩ := fg_g_s h
      refine ⟨fr_vp (fr_n36 hok) c, ?_⟩
      try simp -zeta only [fr_i36 hok]
      refine fg_ite Iff.rfl (fun d => ?_) (fun d => ?_)
      · have h := fg_if_t d h
        exact ft_X12_findPart_149 hok hQ hK53 h
      · have h := fg_if_e d h
        exact hK101 _ _ _ _ _ _ _ h
    · have h := fg_if_e d h
      exact ft_X12_findPart_149 hok hQ hK53 h
set_option maxRecDepth 100000 in
set_option maxHeartbeats 4000000 in
theorem ft_X12_findPart_101 {o : Nat} {ra : Nat → Nat} {s0 : h_S} (hok : r_ok o ra s0) {Q : Int32 → h_S → Prop} {r : Int32} {t : r_T} (hQ : Q r (r_emb s0 o ra t)) {K53 : Int32 → Int32 → Int32 → Int32 → Int32 → r_T → Option (Int32 × r_T)} {WK53 : Nat → Int32 → Int32 → Int32 → Int32 → Int32 → h_S → Prop} (hK53 : ∀ (n0 : Int32) (n1 : Int32) (n2 : Int32) (n3 : Int32) (n4 : Int32) (u : r_T), K53 n0 n1 n2 n3 n4 u = some (r, t) → WK53 o n0 n1 n2 n3 n4 (r_emb s0 o ra u)) : ∀ (n : Nat) (x3 : Int32) (x4 : Int32) (x5 : Int32) (x6 : Int32) (x7 : Int32) (x8 : Int32) (s : r_T), fn_X12_findPart_101 K53 n x3 x4 x5 x6 x7 x8 s = some (r, t) → w_X12_findPart_101 Q WK53 n o x3 x4 x5 x6 x7 x8 (r_emb s0 o ra s) := by
  intro n
  induction n with
  | zero => intro x3 x4 x5 x6 x7 x8 s h; exact fg_none h
  | succ n ih =>
    intro x3 x4 x5 x6 x7 x8 s h
    exact ft_X12_findPart_101b hok hQ hK53 ih h
set_option maxRecDepth 100000 in
set_option maxHeartbeats 4000000 in
theorem ft_X12_findPart_53b {o : Nat} {ra : Nat → Nat} {s0 : h_S} (hok : r_ok o ra s0) {Q : Int32 → h_S → Prop} {r : Int32} {t : r_T} (hQ : Q r (r_emb s0 o ra t)) {K53 : Int32 → Int32 → Int32 → Int32 → Int32 → r_T → Option (Int32 × r_T)} {WK53 : Nat → Int32 → Int32 → Int32 → Int32 → Int32 → h_S → Prop} (hK53 : ∀ (n0 : Int32) (n1 : Int32) (n2 : Int32) (n3 : Int32) (n4 : Int32) (u : r_T), K53 n0 n1 n2 n3 n4 u = some (r, t) → WK53 o n0 n1 n2 n3 n4 (r_emb s0 o ra u)) {s : r_T} {x3 : Int32} {x4 : Int32} {x5 : Int32} {x6 : Int32} {x7 : Int32} (h : fn_X12_findPart_53b K53 x3 x4 x5 x6 x7 s = some (r, t)) : w_X12_findPart_53b Q WK53 o x3 x4 x5 x6 x7 (r_emb s0 o ra s) := by
  unfold fn_X12_findPart_53b at h
  unfold w_X12_findPart_53b
  refine ⟨hok.1, ?_⟩
  try simp -zeta only [e_io]
  refine fg_ite Iff.rfl (fun d => ?_) (fun d => ?_)
  · have h := fg_if_t d h
    obtain ⟨q, q2⟩ := fg_ret h
    subst q
    subst q2
    exact hQ
  · have h := fg_if_e d h
    refine ⟨ra 36, fr_r36 hok, ?_⟩
    refine ⟨fr_k36 hok, ?_⟩
    obtain ⟨c, h⟩ := fg_g_s h
    refine ⟨fr_vp (fr_n36 hok) c, ?_⟩
    try simp -zeta only [fr_i36 hok]
    refine fg_ite Iff.rfl (fun d => ?_) (fun d => ?_)
    · have h := fg_if_t d h
      unfold w_X12_findPart_176
      unfold w_X12_findPart_179
      exact hK53 _ _ _ _ _ _ h
    · have h := fg_if_e d h
      refine ⟨ra 36, fr_r36 hok, ?_⟩
      refine ⟨fr_k36 hok, ?_⟩
      obtain ⟨c, h⟩ := fg_g_s h
      refine ⟨fr_vp (fr_n36 hok) c, ?_⟩
      try simp -zeta only [fr_i36 hok]
      obtain ⟨p11, s10, e_s10, h⟩ := fg_b_s h
      refine ft_X12_in hok e_s10 ?_
      refine fg_ite Iff.rfl (fun d => ?_) (fun d => ?_)
      · have h := fg_if_t d h
        unfold w_X12_findPart_176
        unfold w_X12_findPart_179
        exact hK53 _ _ _ _ _ _ h
      · have h := fg_if_e d h
        exact ⟨g_N, ft_X12_findPart_101 hok hQ hK53 g_N _ _ _ _ _ _ _ h⟩
set_option maxRecDepth 100000 in
set_option maxHeartbeats 4000000 in
theorem ft_X12_findPart_53 {o : Nat} {ra : Nat → Nat} {s0 : h_S} (hok : r_ok o ra s0) {Q : Int32 → h_S → Prop} {r : Int32} {t : r_T} (hQ : Q r (r_emb s0 o ra t)) : ∀ (n : Nat) (x3 : Int32) (x4 : Int32) (x5 : Int32) (x6 : Int32) (x7 : Int32) (s : r_T), fn_X12_findPart_53 n x3 x4 x5 x6 x7 s = some (r, t) → w_X12_findPart_53 Q n o x3 x4 x5 x6 x7 (r_emb s0 o ra s) := by
  intro n
  induction n with
  | zero => intro x3 x4 x5 x6 x7 s h; exact fg_none h
  | succ n ih =>
    intro x3 x4 x5 x6 x7 s h
    exact ft_X12_findPart_53b hok hQ ih h
set_option maxRecDepth 100000 in
set_option maxHeartbeats 4000000 in
theorem ft_X12_findPart_42 {o : Nat} {ra : Nat → Nat} {s0 : h_S} (hok : r_ok o ra s0) {Q : Int32 → h_S → Prop} {r : Int32} {t : r_T} (hQ : Q r (r_emb s0 o ra t)) {s : r_T} {x3 : Int32} {x4 : Int32} {y0 : Int32} {y1 : Int32} (h : fn_X12_findPart_42 x3 x4 y0 y1 s = some (r, t)) : w_X12_findPart_42 Q o x3 x4 y0 y1 (r_emb s0 o ra s) := by
  unfold fn_X12_findPart_42 at h
  unfold w_X12_findPart_42
  exact ⟨g_N, ft_X12_findPart_53 hok hQ g_N _ _ _ _ _ _ h⟩
set_option maxRecDepth 100000 in
set_option maxHeartbeats 4000000 in
theorem ft_X12_findPart_19 {o : Nat} {ra : Nat → Nat} {s0 : h_S} (hok : r_ok o ra s0) {Q : Int32 → h_S → Prop} {r : Int32} {t : r_T} (hQ : Q r (r_emb s0 o ra t)) {s : r_T} {x1 : Int32} {x2 : Int32} {x3 : Int32} {y0 : Int32} (h : fn_X12_findPart_19 x1 x2 x3 y0 s = some (r, t)) : w_X12_findPart_19 Q o x1 x2 x3 y0 (r_emb s0 o ra s) := by
  unfold fn_X12_findPart_19 at h
  unfold w_X12_findPart_19
  refine fg_ite Iff.rfl (fun d => ?_) (fun d => ?_)
  · have h := fg_if_t d h
    refine ⟨hok.1, ?_⟩
    refine ⟨ra 83, fr_r83 hok, ?_⟩
    refine ⟨fr_k83 hok, ?_⟩
    obtain ⟨c, h⟩ := fg_g_s h
    refine ⟨fr_vp (fr_n83 hok) c, ?_⟩
    try simp -zeta only [fr_i83 hok]
    exact ft_X12_findPart_42 hok hQ h
  · have h := fg_if_e d h
    refine ⟨hok.1, ?_⟩
    refine ⟨ra 85, fr_r85 hok, ?_⟩
    refine ⟨fr_k85 hok, ?_⟩
    obtain ⟨c, h⟩ := fg_g_s h
    refine ⟨fr_vp (fr_n85 hok) c, ?_⟩
    try simp -zeta only [fr_i85 hok]
    exact ft_X12_findPart_42 hok hQ h
set_option maxRecDepth 100000 in
set_option maxHeartbeats 4000000 in
theorem ft_X12_findPart {o : Nat} {ra : Nat → Nat} {s0 : h_S} (hok : r_ok o ra s0) {Q : Int32 → h_S → Prop} {r : Int32} {t : r_T} {s : r_T} {x1 : Int32} {x2 : Int32} {x3 : Int32} (h : fn_X12_findPart x1 x2 x3 s = some (r, t)) (hQ : Q r (r_emb s0 o ra t)) : w_X12_findPart o x1 x2 x3 (r_emb s0 o ra s) Q := by
  unfold fn_X12_findPart at h
  unfold w_X12_findPart
  refine fg_ite Iff.rfl (fun d => ?_) (fun d => ?_)
  · have h := fg_if_t d h
    refine ⟨hok.1, ?_⟩
    refine ⟨ra 82, fr_r82 hok, ?_⟩
    refine ⟨fr_k82 hok, ?_⟩
    obtain ⟨c, h⟩ := fg_g_s h
    refine ⟨fr_vp (fr_n82 hok) c, ?_⟩
    try simp -zeta only [fr_i82 hok]
    exact ft_X12_findPart_19 hok hQ h
  · have h := fg_if_e d h
    refine ⟨hok.1, ?_⟩
    refine ⟨ra 84, fr_r84 hok, ?_⟩
    refine ⟨fr_k84 hok, ?_⟩
    obtain ⟨c, h⟩ := fg_g_s h
    refine ⟨fr_vp (fr_n84 hok) c, ?_⟩
    try simp -zeta only [fr_i84 hok]
    exact ft_X12_findPart_19 hok hQ h
set_option maxRecDepth 100000 in
set_option maxHeartbeats 4000000 in
theorem ft_X12_ends {o : Nat} {ra : Nat → Nat} {s0 : h_S} (hok : r_ok o ra s0) {Q : Int32 → h_S → Prop} {r : Int32} {t : r_T} {s : r_T} {x1 : Int32} {x2 : Int32} {x3 : Int32} (h : fn_X12_ends x1 x2 x3 s = some (r, t)) (hQ : Q r (r_emb s0 o ra t)) : w_X12_ends o x1 x2 x3 (r_emb s0 o ra s) Q := by
  unfold fn_X12_ends at h
  unfold w_X12_ends
  refine ⟨hok.1, ?_⟩
  obtain ⟨p3, s2, e_s2, h⟩ := fg_b_s h
  refine ft_X12_noLink hok e_s2 ?_
  refine fg_ite Iff.rfl (fun d => ?_) (fun d => ?_)
  · have h := fg_if_t d h
    refine ⟨hok.1, ?_⟩
    obtain ⟨p7, s6, e_s6, h⟩ := fg_b_s h
    refine ft_X12_noVersion hok e_s6 ?_
    refine fg_ite Iff.rfl (fun d => ?_) (fun d => ?_)
    · have h := fg_if_t d h
      obtain ⟨p10, s9, e_s9, h⟩ := fg_b_s h
      refine ft_X12_in hok e_s9 ?_
      refine fg_ite Iff.rfl (fun d => ?_) (fun d => ?_)
      · have h := fg_if_t d h
        obtain ⟨q, q2⟩ := fg_ret h
        subst q
        subst q2
        exact hQ
      · have h := fg_if_e d h
        refine ⟨hok.1, ?_⟩
        obtain ⟨u_, s13, e_s13, h⟩ := fg_b_s h
        refine ft_X12_layVersion hok e_s13 ?_
        refine ⟨hok.1, ?_⟩
        obtain ⟨p17, s16, e_s16, h⟩ := fg_b_s h
        refine ft_X12_findPart hok e_s16 ?_
        obtain ⟨q, q2⟩ := fg_ret h
        subst q
        subst q2
        exact hQ
    · have h := fg_if_e d h
      unfold w_X12_ends_16
      obtain ⟨q, q2⟩ := fg_ret h
      subst q
      subst q2
      exact hQ
  · have h := fg_if_e d h
    unfold w_X12_ends_16
    obtain ⟨q, q2⟩ := fg_ret h
    subst q
    subst q2
    exact hQ
set_option maxRecDepth 100000 in
set_option maxHeartbeats 4000000 in
theorem ft_X12_part {o : Nat} {ra : Nat → Nat} {s0 : h_S} (hok : r_ok o ra s0) {Q : Int32 → h_S → Prop} {r : Int32} {t : r_T} {s : r_T} {x1 : Int32} {x2 : Int32} {x3 : Int32} {x4 : Int32} {x5 : Int32} (h : fn_X12_part x1 x2 x3 x4 x5 s = some (r, t)) (hQ : Q r (r_emb s0 o ra t)) : w_X12_part o x1 x2 x3 x4 x5 (r_emb s0 o ra s) Q := by
  unfold fn_X12_part at h
  unfold w_X12_part
  refine ⟨hok.1, ?_⟩
  obtain ⟨p3, s2, e_s2, h⟩ := fg_b_s h
  refine ft_X12_noLink hok e_s2 ?_
  refine fg_ite Iff.rfl (fun d => ?_) (fun d => ?_)
  · have h := fg_if_t d h
    refine ⟨hok.1, ?_⟩
    obtain ⟨p7, s6, e_s6, h⟩ := fg_b_s h
    refine ft_X12_noVersion hok e_s6 ?_
    refine fg_ite Iff.rfl (fun d => ?_) (fun d => ?_)
    · have h := fg_if_t d h
      refine fg_ite Iff.rfl (fun d => ?_) (fun d => ?_)
      · have h := fg_if_t d h
        obtain ⟨p11, s10, e_s10, h⟩ := fg_b_s h
        refine ft_X12_in hok e_s10 ?_
        refine fg_ite Iff.rfl (fun d => ?_) (fun d => ?_)
        · have h := fg_if_t d h
          unfold w_X12_part_46
          obtain ⟨q, q2⟩ := fg_ret h
          subst q
          subst q2
          exact hQ
        · have h := fg_if_e d h
          obtain ⟨p14, s13, e_s13, h⟩ := fg_b_s h
          refine ft_X12_in hok e_s13 ?_
          refine fg_ite Iff.rfl (fun d => ?_) (fun d => ?_)
          · have h := fg_if_t d h
            unfold w_X12_part_46
            obtain ⟨q, q2⟩ := fg_ret h
            subst q
            subst q2
            exact hQ
          · have h := fg_if_e d h
            refine ⟨hok.1, ?_⟩
            obtain ⟨u_, s17, e_s17, h⟩ := fg_b_s h
            refine ft_X12_layVersion hok e_s17 ?_
            refine ⟨hok.1, ?_⟩
            obtain ⟨p21, s20, e_s20, h⟩ := fg_b_s h
            refine ft_X12_findPart hok e_s20 ?_
            refine fg_ite Iff.rfl (fun d => ?_) (fun d => ?_)
            · have h := fg_if_t d h
              refine fg_ite Iff.rfl (fun d => ?_) (fun d => ?_)
              · have h := fg_if_t d h
                refine ⟨hok.1, ?_⟩
                unfold w_X12_part_103
                try simp -zeta only [e_io]
                obtain ⟨q, q2⟩ := fg_ret h
                subst q
                subst q2
                exact hQ
              · have h := fg_if_e d h
                refine fg_ite Iff.rfl (fun d => ?_) (fun d => ?_)
                · have h := fg_if_t d h
                  refine ⟨hok.1, ?_⟩
                  refine ⟨ra 36, fr_r36 hok, ?_⟩
                  refine ⟨fr_k36 hok, ?_⟩
                  try simp -zeta only [e_io]
                  obtain ⟨c, h⟩ := fg_g_s h
                  refine ⟨fr_vp (fr_n36 hok) c, ?_⟩
                  unfold w_X12_part_103
                  try simp -zeta only [e_io, fr_i36 hok]
                  obtain ⟨q, q2⟩ := fg_ret h
                  subst q
                  subst q2
                  exact hQ
                · have h := fg_if_e d h
                  refine ⟨hok.1, ?_⟩
                  unfold w_X12_part_103
                  try simp -zeta only [e_io]
                  obtain ⟨q, q2⟩ := fg_ret h
                  subst q
                  subst q2
                  exact hQ
            · have h := fg_if_e d h
              obtain ⟨q, q2⟩ := fg_ret h
              subst q
              subst q2
              exact hQ
      · have h := fg_if_e d h
        unfold w_X12_part_21
        obtain ⟨q, q2⟩ := fg_ret h
        subst q
        subst q2
        exact hQ
    · have h := fg_if_e d h
      unfold w_X12_part_21
      obtain ⟨q, q2⟩ := fg_ret h
      subst q
      subst q2
      exact hQ
  · have h := fg_if_e d h
    unfold w_X12_part_21
    obtain ⟨q, q2⟩ := fg_ret h
    subst q
    subst q2
    exact hQ
set_option maxRecDepth 100000 in
set_option maxHeartbeats 4000000 in
theorem ft_X12_linksOf_4b {o : Nat} {ra : Nat → Nat} {s0 : h_S} (hok : r_ok o ra s0) {Q : Int32 → h_S → Prop} {r : Int32} {t : r_T} (hQ : Q r (r_emb s0 o ra t)) {K4 : Int32 → Int32 → Int32 → r_T → Option (Int32 × r_T)} {WK4 : Nat → Int32 → Int32 → Int32 → h_S → Prop} (hK4 : ∀ (n0 : Int32) (n1 : Int32) (n2 : Int32) (u : r_T), K4 n0 n1 n2 u = some (r, t) → WK4 o n0 n1 n2 (r_emb s0 o ra u)) {s : r_T} {x1 : Int32} {x2 : Int32} {x3 : Int32} (h : fn_X12_linksOf_4b K4 x1 x2 x3 s = some (r, t)) : w_X12_linksOf_4b Q WK4 o x1 x2 x3 (r_emb s0 o ra s) := by
  unfold fn_X12_linksOf_4b at h
  unfold w_X12_linksOf_4b
  refine ⟨hok.1, ?_⟩
  try simp -zeta only [e_io]
  refine fg_ite Iff.rfl (fun d => ?_) (fun d => ?_)
  · have h := fg_if_t d h
    obtain ⟨q, q2⟩ := fg_ret h
    subst q
    subst q2
    exact hQ
  · have h := fg_if_e d h
    refine ⟨ra 82, fr_r82 hok, ?_⟩
    refine ⟨fr_k82 hok, ?_⟩
    obtain ⟨c, h⟩ := fg_g_s h
    refine ⟨fr_vp (fr_n82 hok) c, ?_⟩
    refine ⟨ra 82, fr_r82 hok, ?_⟩
    refine ⟨fr_k82 hok, ?_⟩
    obtain ⟨c, h⟩ := fg_g_s h
    refine ⟨fr_vp (fr_n82 hok) c, ?_⟩
    refine ⟨ra 83, fr_r83 hok, ?_⟩
    refine ⟨fr_k83 hok, ?_⟩
    obtain ⟨c, h⟩ := fg_g_s h
    refine ⟨fr_vp (fr_n83 hok) c, ?_⟩
    try simp -zeta only [fr_i82 hok, fr_i83 hok]
    obtain ⟨p13, s12, e_s12, h⟩ := fg_b_s h
    refine ft_X12_in hok e_s12 ?_
    refine fg_ite Iff.rfl (fun d => ?_) (fun d => ?_)
    · have h := fg_if_t d h
      refine ⟨hok.1, ?_⟩
      refine ⟨ra 84, fr_r84 hok, ?_⟩
      refine ⟨fr_k84 hok, ?_⟩
      obtain ⟨c, h⟩ := fg_g_s h
      refine ⟨fr_vp (fr_n84 hok) c, ?_⟩
      refine ⟨ra 84, fr_r84 hok, ?_⟩
      refine ⟨fr_k84 hok, ?_⟩
      obtain ⟨c, h⟩ := fg_g_s h
      refine ⟨fr_vp (fr_n84 hok) c, ?_⟩
      refine ⟨ra 85, fr_r85 hok, ?_⟩
      refine ⟨fr_k85 hok, ?_⟩
      obtain ⟨c, h⟩ := fg_g_s h
      refine ⟨fr_vp (fr_n85 hok) c, ?_⟩
      try simp -zeta only [fr_i84 hok, fr_i85 hok]
      obtain ⟨p26, s25, e_s25, h⟩ := fg_b_s h
      refine ft_X12_in hok e_s25 ?_
      refine fg_ite Iff.rfl (fun d => ?_) (fun d => ?_)
      · have h := fg_if_t d h
        unfold w_X12_linksOf_80
        exact hK4 _ _ _ _ h
      · have h := fg_if_e d h
        unfold w_X12_linksOf_75
        unfold w_X12_linksOf_80
        exact hK4 _ _ _ _ h
    · have h := fg_if_e d h
      unfold w_X12_linksOf_75
      unfold w_X12_linksOf_80
      exact hK4 _ _ _ _ h
set_option maxRecDepth 100000 in
set_option maxHeartbeats 4000000 in
theorem ft_X12_linksOf_4 {o : Nat} {ra : Nat → Nat} {s0 : h_S} (hok : r_ok o ra s0) {Q : Int32 → h_S → Prop} {r : Int32} {t : r_T} (hQ : Q r (r_emb s0 o ra t)) : ∀ (n : Nat) (x1 : Int32) (x2 : Int32) (x3 : Int32) (s : r_T), fn_X12_linksOf_4 n x1 x2 x3 s = some (r, t) → w_X12_linksOf_4 Q n o x1 x2 x3 (r_emb s0 o ra s) := by
  intro n
  induction n with
  | zero => intro x1 x2 x3 s h; exact fg_none h
  | succ n ih =>
    intro x1 x2 x3 s h
    exact ft_X12_linksOf_4b hok hQ ih h
set_option maxRecDepth 100000 in
set_option maxHeartbeats 4000000 in
theorem ft_X12_linksOf {o : Nat} {ra : Nat → Nat} {s0 : h_S} (hok : r_ok o ra s0) {Q : Int32 → h_S → Prop} {r : Int32} {t : r_T} {s : r_T} {x1 : Int32} (h : fn_X12_linksOf x1 s = some (r, t)) (hQ : Q r (r_emb s0 o ra t)) : w_X12_linksOf o x1 (r_emb s0 o ra s) Q := by
  unfold fn_X12_linksOf at h
  unfold w_X12_linksOf
  exact ⟨g_N, ft_X12_linksOf_4 hok hQ g_N _ _ _ _ h⟩
set_option maxRecDepth 100000 in
set_option maxHeartbeats 4000000 in
theorem ft_X12_noRight {o : Nat} {ra : Nat → Nat} {s0 : h_S} (hok : r_ok o ra s0) {Q : Int32 → h_S → Prop} {r : Int32} {t : r_T} {s : r_T} {x1 : Int32} (h : fn_X12_noRight x1 s = some (r, t)) (hQ : Q r (r_emb s0 o ra t)) : w_X12_noRight o x1 (r_emb s0 o ra s) Q := by
  unfold fn_X12_noRight at h
  unfold w_X12_noRight
  refine ⟨hok.1, ?_⟩
  try simp -zeta only [e_io]
  obtain ⟨p3, s2, e_s2, h⟩ := fg_b_s h
  refine ft_X12_in hok e_s2 ?_
  refine fg_ite Iff.rfl (fun d => ?_) (fun d => ?_)
  · have h := fg_if_t d h
    unfold w_X12_noRight_21
    refine ⟨Or.inr rfl, ?_⟩
    obtain ⟨q, q2⟩ := fg_ret h
    subst q
    subst q2
    exact hQ
  · have h := fg_if_e d h
    unfold w_X12_noRight_21
    refine ⟨Or.inl rfl, ?_⟩
    obtain ⟨q, q2⟩ := fg_ret h
    subst q
    subst q2
    exact hQ
set_option maxRecDepth 100000 in
set_option maxHeartbeats 4000000 in
theorem ft_X12_useOf {o : Nat} {ra : Nat → Nat} {s0 : h_S} (hok : r_ok o ra s0) {Q : Int32 → h_S → Prop} {r : Int32} {t : r_T} {s : r_T} {x0 : Int32} (h : fn_X12_useOf x0 s = some (r, t)) (hQ : Q r (r_emb s0 o ra t)) : w_X12_useOf x0 (r_emb s0 o ra s) Q := by
  unfold fn_X12_useOf at h
  unfold w_X12_useOf
  refine fg_ite Iff.rfl (fun d => ?_) (fun d => ?_)
  · have h := fg_if_t d h
    unfold w_X12_useOf_31
    obtain ⟨q, q2⟩ := fg_ret h
    subst q
    subst q2
    exact hQ
  · have h := fg_if_e d h
    refine fg_ite Iff.rfl (fun d => ?_) (fun d => ?_)
    · have h := fg_if_t d h
      unfold w_X12_useOf_31
      obtain ⟨q, q2⟩ := fg_ret h
      subst q
      subst q2
      exact hQ
    · have h := fg_if_e d h
      refine fg_ite Iff.rfl (fun d => ?_) (fun d => ?_)
      · have h := fg_if_t d h
        unfold w_X12_useOf_31
        obtain ⟨q, q2⟩ := fg_ret h
        subst q
        subst q2
        exact hQ
      · have h := fg_if_e d h
        unfold w_X12_useOf_31
        obtain ⟨q, q2⟩ := fg_ret h
        subst q
        subst q2
        exact hQ
set_option maxRecDepth 100000 in
set_option maxHeartbeats 4000000 in
theorem ft_X12_readText_240 {o : Nat} {ra : Nat → Nat} {s0 : h_S} (hok : r_ok o ra s0) {Q : Int32 → h_S → Prop} {r : Int32} {t : r_T} (hQ : Q r (r_emb s0 o ra t)) {K23 : Int32 → Int32 → Int32 → Int32 → Int32 → r_T → Option (Int32 × r_T)} {WK23 : Nat → Int32 → Int32 → Int32 → Int32 → Int32 → h_S → Prop} (hK23 : ∀ (n0 : Int32) (n1 : Int32) (n2 : Int32) (n3 : Int32) (n4 : Int32) (u : r_T), K23 n0 n1 n2 n3 n4 u = some (r, t) → WK23 o n0 n1 n2 n3 n4 (r_emb s0 o ra u)) {s : r_T} {x1 : Int32} {x2 : Int32} {x3 : Int32} {x4 : Int32} {x5 : Int32} {x6 : Int32} {x7 : Int32} (h : fn_X12_readText_240 K23 x1 x2 x3 x4 x5 x6 x7 s = some (r, t)) : w_X12_readText_240 Q WK23 o x1 x2 x3 x4 x5 x6 x7 (r_emb s0 o ra s) := by
  unfold fn_X12_readText_240 at h
  unfold w_X12_readText_240
  refine fg_ite Iff.rfl (fun d => ?_) (fun d => ?_)
  · have h := fg_if_t d h
    refine fg_ite Iff.rfl (fun d => ?_) (fun d => ?_)
    · have h := fg_if_t d h
      unfold w_X12_readText_279
      obtain ⟨q, q2⟩ := fg_ret h
      subst q
      subst q2
      exact hQ
    · have h := fg_if_e d h
      refine fg_ite Iff.rfl (fun d => ?_) (fun d => ?_)
      · have h := fg_if_t d h
        unfold w_X12_readText_279
        obtain ⟨q, q2⟩ := fg_ret h
        subst q
        subst q2
        exact hQ
      · have h := fg_if_e d h
        refine ⟨hok.1, ?_⟩
        try simp -zeta only [e_io]
        obtain ⟨s5, e_s5, h⟩ := fg_let_s h
        intro S_s5
        have z_s5 : S_s5 = r_emb s0 o ra s5 := by rw [e_s5]; exact e_so _ _
        clear_value S_s5
        subst z_s5
        unfold w_X12_readText_282
        exact hK23 _ _ _ _ _ _ h
  · have h := fg_if_e d h
    unfold w_X12_readText_279
    obtain ⟨q, q2⟩ := fg_ret h
    subst q
    subst q2
    exact hQ
set_option maxRecDepth 100000 in
set_option maxHeartbeats 4000000 in
theorem ft_X12_readText_215 {o : Nat} {ra : Nat → Nat} {s0 : h_S} (hok : r_ok o ra s0) {Q : Int32 → h_S → Prop} {r : Int32} {t : r_T} (hQ : Q r (r_emb s0 o ra t)) {K23 : Int32 → Int32 → Int32 → Int32 → Int32 → r_T → Option (Int32 × r_T)} {WK23 : Nat → Int32 → Int32 → Int32 → Int32 → Int32 → h_S → Prop} (hK23 : ∀ (n0 : Int32) (n1 : Int32) (n2 : Int32) (n3 : Int32) (n4 : Int32) (u : r_T), K23 n0 n1 n2 n3 n4 u = some (r, t) → WK23 o n0 n1 n2 n3 n4 (r_emb s0 o ra u)) {s : r_T} {x1 : Int32} {x2 : Int32} {x3 : Int32} {x4 : Int32} {x5 : Int32} {x6 : Int32} {x7 : Int32} (h : fn_X12_readText_215 K23 x1 x2 x3 x4 x5 x6 x7 s = some (r, t)) : w_X12_readText_215 Q WK23 o x1 x2 x3 x4 x5 x6 x7 (r_emb s0 o ra s) := by
  unfold fn_X12_readText_215 at h
  unfold w_X12_readText_215
  refine fg_ite Iff.rfl (fun d => ?_) (fun d => ?_)
  · have h := fg_if_t d h
    refine fg_ite Iff.rfl (fun d => ?_) (fun d => ?_)
    · have h := fg_if_t d h
      refine fg_ite Iff.rfl (fun d => ?_) (fun d => ?_)
      · have h := fg_if_t d h
        exact ft_X12_readText_240 hok hQ hK23 h
      · have h := fg_if_e d h
        unfold w_X12_readText_282
        exact hK23 _ _ _ _ _ _ h
    · have h := fg_if_e d h
      exact ft_X12_readText_240 hok hQ hK23 h
  · have h := fg_if_e d h
    exact ft_X12_readText_240 hok hQ hK23 h
set_option maxRecDepth 100000 in
set_option maxHeartbeats 4000000 in
theorem ft_X12_readText_176 {o : Nat} {ra : Nat → Nat} {s0 : h_S} (hok : r_ok o ra s0) {Q : Int32 → h_S → Prop} {r : Int32} {t : r_T} (hQ : Q r (r_emb s0 o ra t)) {K23 : Int32 → Int32 → Int32 → Int32 → Int32 → r_T → Option (Int32 × r_T)} {WK23 : Nat → Int32 → Int32 → Int32 → Int32 → Int32 → h_S → Prop} (hK23 : ∀ (n0 : Int32) (n1 : Int32) (n2 : Int32) (n3 : Int32) (n4 : Int32) (u : r_T), K23 n0 n1 n2 n3 n4 u = some (r, t) → WK23 o n0 n1 n2 n3 n4 (r_emb s0 o ra u)) {s : r_T} {x1 : Int32} {x2 : Int32} {x3 : Int32} {x4 : Int32} {x5 : Int32} {x6 : Int32} {x7 : Int32} (h : fn_X12_readText_176 K23 x1 x2 x3 x4 x5 x6 x7 s = some (r, t)) : w_X12_readText_176 Q WK23 o x1 x2 x3 x4 x5 x6 x7 (r_emb s0 o ra s) := by
  unfold fn_X12_readText_176 at h
  unfold w_X12_readText_176
  refine fg_ite Iff.rfl (fun d => ?_) (fun d => ?_)
  · have h := fg_if_t d h
    refine fg_ite Iff.rfl (fun d => ?_) (fun d => ?_)
    · have h := fg_if_t d h
      exact ft_X12_readText_215 hok hQ hK23 h
    · have h := fg_if_e d h
      refine fg_ite Iff.rfl (fun d => ?_) (fun d => ?_)
      · have h := fg_if_t d h
        exact ft_X12_readText_215 hok hQ hK23 h
      · have h := fg_if_e d h
        refine ⟨hok.1, ?_⟩
        try simp -zeta only [e_io]
        obtain ⟨s5, e_s5, h⟩ := fg_let_s h
        intro S_s5
        have z_s5 : S_s5 = r_emb s0 o ra s5 := by rw [e_s5]; exact e_so _ _
        clear_value S_s5
        subst z_s5
        unfold w_X12_readText_282
        exact hK23 _ _ _ _ _ _ h
  · have h := fg_if_e d h
    exact ft_X12_readText_215 hok hQ hK23 h
set_option maxRecDepth 100000 in
set_option maxHeartbeats 4000000 in
theorem ft_X12_readText_149 {o : Nat} {ra : Nat → Nat} {s0 : h_S} (hok : r_ok o ra s0) {Q : Int32 → h_S → Prop} {r : Int32} {t : r_T} (hQ : Q r (r_emb s0 o ra t)) {K23 : Int32 → Int32 → Int32 → Int32 → Int32 → r_T → Option (Int32 × r_T)} {WK23 : Nat → Int32 → Int32 → Int32 → Int32 → Int32 → h_S → Prop} (hK23 : ∀ (n0 : Int32) (n1 : Int32) (n2 : Int32) (n3 : Int32) (n4 : Int32) (u : r_T), K23 n0 n1 n2 n3 n4 u = some (r, t) → WK23 o n0 n1 n2 n3 n4 (r_emb s0 o ra u)) {s : r_T} {x1 : Int32} {x2 : Int32} {x3 : Int32} {x4 : Int32} {x5 : Int32} {x6 : Int32} {x7 : Int32} (h : fn_X12_readText_149 K23 x1 x2 x3 x4 x5 x6 x7 s = some (r, t)) : w_X12_readText_149 Q WK23 o x1 x2 x3 x4 x5 x6 x7 (r_emb s0 o ra s) := by
  unfold fn_X12_readText_149 at h
  unfold w_X12_readText_149
  refine fg_ite Iff.rfl (fun d => ?_) (fun d => ?_)
  · have h := fg_if_t d h
    refine fg_ite Iff.rfl (fun d => ?_) (fun d => ?_)
    · have h := fg_if_t d h
      refine ⟨hok.1, ?_⟩
      try simp -zeta only [e_io]
      refine fg_ite Iff.rfl (fun d => ?_) (fun d => ?_)
      · have h := fg_if_t d h
        exact ft_X12_readText_176 hok hQ hK23 h
      · have h := fg_if_e d h
        unfold w_X12_readText_282
        exact hK23 _ _ _ _ _ _ h
    · have h := fg_if_e d h
      exact ft_X12_readText_176 hok hQ hK23 h
  · have h := fg_if_e d h
    exact ft_X12_readText_176 hok hQ hK23 h
set_option maxRecDepth 100000 in
set_option maxHeartbeats 4000000 in
theorem ft_X12_readText_111 {o : Nat} {ra : Nat → Nat} {s0 : h_S} (hok : r_ok o ra s0) {Q : Int32 → h_S → Prop} {r : Int32} {t : r_T} (hQ : Q r (r_emb s0 o ra t)) {K23 : Int32 → Int32 → Int32 → Int32 → Int32 → r_T → Option (Int32 × r_T)} {WK23 : Nat → Int32 → Int32 → Int32 → Int32 → Int32 → h_S → Prop} (hK23 : ∀ (n0 : Int32) (n1 : Int32) (n2 : Int32) (n3 : Int32) (n4 : Int32) (u : r_T), K23 n0 n1 n2 n3 n4 u = some (r, t) → WK23 o n0 n1 n2 n3 n4 (r_emb s0 o ra u)) {s : r_T} {x1 : Int32} {x2 : Int32} {x3 : Int32} {x4 : Int32} {x5 : Int32} {x6 : Int32} {x7 : Int32} {x8 : Int32} (h : fn_X12_readText_111 K23 x1 x2 x3 x4 x5 x6 x7 x8 s = some (r, t)) : w_X12_readText_111 Q WK23 o x1 x2 x3 x4 x5 x6 x7 x8 (r_emb s0 o ra s) := by
  unfold fn_X12_readText_111 at h
  unfold w_X12_readText_111
  refine fg_ite Iff.rfl (fun d => ?_) (fun d => ?_)
  · have h := fg_if_t d h
    refine fg_ite Iff.rfl (fun d => ?_) (fun d => ?_)
    · have h := fg_if_t d h
      exact ft_X12_readText_149 hok hQ hK23 h
    · have h := fg_if_e d h
      refine ⟨hok.1, ?_⟩
      try simp -zeta only [e_io]
      obtain ⟨p5, s4, e_s4, h⟩ := fg_b_s h
      refine ft_X12_hasBit hok e_s4 ?_
      refine fg_ite Iff.rfl (fun d => ?_) (fun d => ?_)
      · have h := fg_if_t d h
        refine ⟨hok.1, ?_⟩
        try simp -zeta only [e_io]
        obtain ⟨s8, e_s8, h⟩ := fg_let_s h
        intro S_s8
        have z_s8 : S_s8 = r_emb s0 o ra s8 := by rw [e_s8]; exact e_so _ _
        clear_value S_s8
        subst z_s8
        unfold w_X12_readText_282
        exact hK23 _ _ _ _ _ _ h
      · have h := fg_if_e d h
        exact ft_X12_readText_149 hok hQ hK23 h
  · have h := fg_if_e d h
    exact ft_X12_readText_149 hok hQ hK23 h
set_option maxRecDepth 100000 in
set_option maxHeartbeats 4000000 in
theorem ft_X12_readText_94 {o : Nat} {ra : Nat → Nat} {s0 : h_S} (hok : r_ok o ra s0) {Q : Int32 → h_S → Prop} {r : Int32} {t : r_T} (hQ : Q r (r_emb s0 o ra t)) {K23 : Int32 → Int32 → Int32 → Int32 → Int32 → r_T → Option (Int32 × r_T)} {WK23 : Nat → Int32 → Int32 → Int32 → Int32 → Int32 → h_S → Prop} (hK23 : ∀ (n0 : Int32) (n1 : Int32) (n2 : Int32) (n3 : Int32) (n4 : Int32) (u : r_T), K23 n0 n1 n2 n3 n4 u = some (r, t) → WK23 o n0 n1 n2 n3 n4 (r_emb s0 o ra u)) {s : r_T} {x1 : Int32} {x2 : Int32} {x3 : Int32} {x4 : Int32} {x5 : Int32} {x6 : Int32} {x7 : Int32} {x8 : Int32} (h : fn_X12_readText_94 K23 x1 x2 x3 x4 x5 x6 x7 x8 s = some (r, t)) : w_X12_readText_94 Q WK23 o x1 x2 x3 x4 x5 x6 x7 x8 (r_emb s0 o ra s) := by
  unfold fn_X12_readText_94 at h
  unfold w_X12_readText_94
  refine fg_ite Iff.rfl (fun d => ?_) (fun d => ?_)
  · have h := fg_if_t d h
    refine fg_ite Iff.rfl (fun d => ?_) (fun d => ?_)
    · have h := fg_if_t d h
      unfold w_X12_readText_282
      exact hK23 _ _ _ _ _ _ h
    · have h := fg_if_e d h
      exact ft_X12_readText_111 hok hQ hK23 h
  · have h := fg_if_e d h
    exact ft_X12_readText_111 hok hQ hK23 h
set_option maxRecDepth 100000 in
set_option maxHeartbeats 4000000 in
theorem ft_X12_readText_23b {o : Nat} {ra : Nat → Nat} {s0 : h_S} (hok : r_ok o ra s0) {Q : Int32 → h_S → Prop} {r : Int32} {t : r_T} (hQ : Q r (r_emb s0 o ra t)) {K23 : Int32 → Int32 → Int32 → Int32 → Int32 → r_T → Option (Int32 × r_T)} {WK23 : Nat → Int32 → Int32 → Int32 → Int32 → Int32 → h_S → Prop} (hK23 : ∀ (n0 : Int32) (n1 : Int32) (n2 : Int32) (n3 : Int32) (n4 : Int32) (u : r_T), K23 n0 n1 n2 n3 n4 u = some (r, t) → WK23 o n0 n1 n2 n3 n4 (r_emb s0 o ra u)) {s : r_T} {x1 : Int32} {x2 : Int32} {x3 : Int32} {x4 : Int32} {x5 : Int32} (h : fn_X12_readText_23b K23 x1 x2 x3 x4 x5 s = some (r, t)) : w_X12_readText_23b Q WK23 o x1 x2 x3 x4 x5 (r_emb s0 o ra s) := by
  unfold fn_X12_readText_23b at h
  unfold w_X12_readText_23b
  refine fg_ite Iff.rfl (fun d => ?_) (fun d => ?_)
  · have h := fg_if_t d h
    refine fg_ite Iff.rfl (fun d => ?_) (fun d => ?_)
    · have h := fg_if_t d h
      refine fg_ite Iff.rfl (fun d => ?_) (fun d => ?_)
      · have h := fg_if_t d h
        unfold w_X12_readText_302
        unfold w_X12_readText_303
        obtain ⟨q, q2⟩ := fg_ret h
        subst q
        subst q2
        exact hQ
      · have h := fg_if_e d h
        unfold w_X12_readText_303
        obtain ⟨q, q2⟩ := fg_ret h
        subst q
        subst q2
        exact hQ
    · have h := fg_if_e d h
      unfold w_X12_readText_302
      unfold w_X12_readText_303
      obtain ⟨q, q2⟩ := fg_ret h
      subst q
      subst q2
      exact hQ
  · have h := fg_if_e d h
    refine ⟨hok.1, ?_⟩
    refine ⟨ra 112, fr_r112 hok, ?_⟩
    refine ⟨fr_k112 hok, ?_⟩
    obtain ⟨c, h⟩ := fg_g_s h
    refine ⟨fr_vp (fr_n112 hok) c, ?_⟩
    try simp -zeta only [fr_i112 hok]
    obtain ⟨p9, s8, e_s8, h⟩ := fg_b_s h
    refine ft_X12_in hok e_s8 ?_
    try simp -zeta only [fr_i112 hok]
    obtain ⟨p11, s10, e_s10, h⟩ := fg_b_s h
    refine ft_X12_useOf hok e_s10 ?_
    refine fg_ite Iff.rfl (fun d => ?_) (fun d => ?_)
    · have h := fg_if_t d h
      try simp -zeta only [fr_i112 hok]
      obtain ⟨p14, s13, e_s13, h⟩ := fg_b_s h
      refine ft_X12_in hok e_s13 ?_
      refine fg_ite Iff.rfl (fun d => ?_) (fun d => ?_)
      · have h := fg_if_t d h
        try simp -zeta only [fr_i112 hok]
        exact ft_X12_readText_94 hok hQ hK23 h
      · have h := fg_if_e d h
        refine ⟨hok.1, ?_⟩
        try simp -zeta only [fr_i112 hok]
        obtain ⟨s17, e_s17, h⟩ := fg_let_s h
        intro S_s17
        have z_s17 : S_s17 = r_emb s0 o ra s17 := by rw [e_s17]; exact e_so _ _
        clear_value S_s17
        subst z_s17
        unfold w_X12_readText_282
        exact hK23 _ _ _ _ _ _ h
    · have h := fg_if_e d h
      try simp -zeta only [fr_i112 hok]
      exact ft_X12_readText_94 hok hQ hK23 h
set_option maxRecDepth 100000 in
set_option maxHeartbeats 4000000 in
theorem ft_X12_readText_23 {o : Nat} {ra : Nat → Nat} {s0 : h_S} (hok : r_ok o ra s0) {Q : Int32 → h_S → Prop} {r : Int32} {t : r_T} (hQ : Q r (r_emb s0 o ra t)) : ∀ (n : Nat) (x1 : Int32) (x2 : Int32) (x3 : Int32) (x4 : Int32) (x5 : Int32) (s : r_T), fn_X12_readText_23 n x1 x2 x3 x4 x5 s = some (r, t) → w_X12_readText_23 Q n o x1 x2 x3 x4 x5 (r_emb s0 o ra s) := by
  intro n
  induction n with
  | zero => intro x1 x2 x3 x4 x5 s h; exact fg_none h
  | succ n ih =>
    intro x1 x2 x3 x4 x5 s h
    exact ft_X12_readText_23b hok hQ ih h
set_option maxRecDepth 100000 in
set_option maxHeartbeats 4000000 in
theorem ft_X12_readText {o : Nat} {ra : Nat → Nat} {s0 : h_S} (hok : r_ok o ra s0) {Q : Int32 → h_S → Prop} {r : Int32} {t : r_T} {s : r_T} {x1 : Int32} {x2 : Int32} (h : fn_X12_readText x1 x2 s = some (r, t)) (hQ : Q r (r_emb s0 o ra t)) : w_X12_readText o x1 x2 (r_emb s0 o ra s) Q := by
  unfold fn_X12_readText at h
  unfold w_X12_readText
  refine ⟨hok.1, ?_⟩
  obtain ⟨s2, e_s2, h⟩ := fg_let_s h
  intro S_s2
  have z_s2 : S_s2 = r_emb s0 o ra s2 := by rw [e_s2]; exact e_so _ _
  clear_value S_s2
  subst z_s2
  obtain ⟨s3, e_s3, h⟩ := fg_let_s h
  intro S_s3
  have z_s3 : S_s3 = r_emb s0 o ra s3 := by rw [e_s3]; exact e_so _ _
  clear_value S_s3
  subst z_s3
  obtain ⟨s4, e_s4, h⟩ := fg_let_s h
  intro S_s4
  have z_s4 : S_s4 = r_emb s0 o ra s4 := by rw [e_s4]; exact e_so _ _
  clear_value S_s4
  subst z_s4
  exact ⟨g_N, ft_X12_readText_23 hok hQ g_N _ _ _ _ _ _ h⟩
set_option maxRecDepth 100000 in
set_option maxHeartbeats 4000000 in
theorem ft_X12_addRight {o : Nat} {ra : Nat → Nat} {s0 : h_S} (hok : r_ok o ra s0) {Q : h_S → Prop} {r : Unit} {t : r_T} {s : r_T} {x1 : Int32} {x2 : Int32} {x3 : Int32} {x4 : Int32} {x5 : Int32} {x6 : Int32} (h : fn_X12_addRight x1 x2 x3 x4 x5 x6 s = some (r, t)) (hQ : Q (r_emb s0 o ra t)) : w_X12_addRight o x1 x2 x3 x4 x5 x6 (r_emb s0 o ra s) Q := by
  unfold fn_X12_addRight at h
  unfold w_X12_addRight
  refine ⟨hok.1, ?_⟩
  refine ⟨ra 90, fr_r90 hok, ?_⟩
  refine ⟨fr_k90 hok, ?_⟩
  try simp -zeta only [e_io]
  obtain ⟨c, h⟩ := fg_g_s h
  refine ⟨fr_vp (fr_n90 hok) c, ?_⟩
  try simp -zeta only [e_io]
  obtain ⟨s5, e_s5, h⟩ := fg_let_s h
  intro S_s5
  have z_s5 : S_s5 = r_emb s0 o ra s5 := by rw [e_s5]; exact fr_s90 hok _ _
  clear_value S_s5
  subst z_s5
  refine ⟨ra 91, fr_r91 hok, ?_⟩
  refine ⟨fr_k91 hok, ?_⟩
  try simp -zeta only [e_io]
  obtain ⟨c, h⟩ := fg_g_s h
  refine ⟨fr_vp (fr_n91 hok) c, ?_⟩
  try simp -zeta only [e_io]
  obtain ⟨s9, e_s9, h⟩ := fg_let_s h
  intro S_s9
  have z_s9 : S_s9 = r_emb s0 o ra s9 := by rw [e_s9]; exact fr_s91 hok _ _
  clear_value S_s9
  subst z_s9
  refine ⟨ra 92, fr_r92 hok, ?_⟩
  refine ⟨fr_k92 hok, ?_⟩
  try simp -zeta only [e_io]
  obtain ⟨c, h⟩ := fg_g_s h
  refine ⟨fr_vp (fr_n92 hok) c, ?_⟩
  try simp -zeta only [e_io]
  obtain ⟨s13, e_s13, h⟩ := fg_let_s h
  intro S_s13
  have z_s13 : S_s13 = r_emb s0 o ra s13 := by rw [e_s13]; exact fr_s92 hok _ _
  clear_value S_s13
  subst z_s13
  refine ⟨ra 93, fr_r93 hok, ?_⟩
  refine ⟨fr_k93 hok, ?_⟩
  try simp -zeta only [e_io]
  obtain ⟨c, h⟩ := fg_g_s h
  refine ⟨fr_vp (fr_n93 hok) c, ?_⟩
  try simp -zeta only [e_io]
  obtain ⟨s17, e_s17, h⟩ := fg_let_s h
  intro S_s17
  have z_s17 : S_s17 = r_emb s0 o ra s17 := by rw [e_s17]; exact fr_s93 hok _ _
  clear_value S_s17
  subst z_s17
  refine ⟨ra 94, fr_r94 hok, ?_⟩
  refine ⟨fr_k94 hok, ?_⟩
  try simp -zeta only [e_io]
  obtain ⟨c, h⟩ := fg_g_s h
  refine ⟨fr_vp (fr_n94 hok) c, ?_⟩
  try simp -zeta only [e_io]
  obtain ⟨s21, e_s21, h⟩ := fg_let_s h
  intro S_s21
  have z_s21 : S_s21 = r_emb s0 o ra s21 := by rw [e_s21]; exact fr_s94 hok _ _
  clear_value S_s21
  subst z_s21
  refine ⟨ra 95, fr_r95 hok, ?_⟩
  refine ⟨fr_k95 hok, ?_⟩
  try simp -zeta only [e_io]
  obtain ⟨c, h⟩ := fg_g_s h
  refine ⟨fr_vp (fr_n95 hok) c, ?_⟩
  try simp -zeta only [e_io]
  obtain ⟨s25, e_s25, h⟩ := fg_let_s h
  intro S_s25
  have z_s25 : S_s25 = r_emb s0 o ra s25 := by rw [e_s25]; exact fr_s95 hok _ _
  clear_value S_s25
  subst z_s25
  refine ⟨ra 96, fr_r96 hok, ?_⟩
  refine ⟨fr_k96 hok, ?_⟩
  try simp -zeta only [e_io]
  obtain ⟨c, h⟩ := fg_g_s h
  refine ⟨fr_vp (fr_n96 hok) c, ?_⟩
  try simp -zeta only [e_io]
  obtain ⟨s29, e_s29, h⟩ := fg_let_s h
  intro S_s29
  have z_s29 : S_s29 = r_emb s0 o ra s29 := by rw [e_s29]; exact fr_s96 hok _ _
  clear_value S_s29
  subst z_s29
  refine ⟨ra 97, fr_r97 hok, ?_⟩
  refine ⟨fr_k97 hok, ?_⟩
  try simp -zeta only [e_io]
  obtain ⟨c, h⟩ := fg_g_s h
  refine ⟨fr_vp (fr_n97 hok) c, ?_⟩
  try simp -zeta only [e_io]
  obtain ⟨s33, e_s33, h⟩ := fg_let_s h
  intro S_s33
  have z_s33 : S_s33 = r_emb s0 o ra s33 := by rw [e_s33]; exact fr_s97 hok _ _
  clear_value S_s33
  subst z_s33
  try simp -zeta only [e_io]
  obtain ⟨s34, e_s34, h⟩ := fg_let_s h
  intro S_s34
  have z_s34 : S_s34 = r_emb s0 o ra s34 := by rw [e_s34]; exact e_so _ _
  clear_value S_s34
  subst z_s34
  obtain ⟨_, q⟩ := fg_ret h
  subst q
  exact hQ
set_option maxRecDepth 100000 in
set_option maxHeartbeats 4000000 in
theorem ft_X12_right_15 {o : Nat} {ra : Nat → Nat} {s0 : h_S} (hok : r_ok o ra s0) {Q : Int32 → h_S → Prop} {r : Int32} {t : r_T} (hQ : Q r (r_emb s0 o ra t)) {s : r_T} (h : fn_X12_right_15 s = some (r, t)) : w_X12_right_15 Q o (r_emb s0 o ra s) := by
  unfold fn_X12_right_15 at h
  unfold w_X12_right_15
  refine ⟨hok.1, ?_⟩
  obtain ⟨p3, s2, e_s2, h⟩ := fg_b_s h
  refine ft_X12_refused hok e_s2 ?_
  obtain ⟨q, q2⟩ := fg_ret h
  subst q
  subst q2
  exact hQ
set_option maxRecDepth 100000 in
set_option maxHeartbeats 4000000 in
theorem ft_X12_right {o : Nat} {ra : Nat → Nat} {s0 : h_S} (hok : r_ok o ra s0) {Q : Int32 → h_S → Prop} {r : Int32} {t : r_T} {s : r_T} {x1 : Int32} {x2 : Int32} {x3 : Int32} {x4 : Int32} {x5 : Int32} (h : fn_X12_right x1 x2 x3 x4 x5 s = some (r, t)) (hQ : Q r (r_emb s0 o ra t)) : w_X12_right o x1 x2 x3 x4 x5 (r_emb s0 o ra s) Q := by
  unfold fn_X12_right at h
  unfold w_X12_right
  refine ⟨hok.1, ?_⟩
  obtain ⟨p3, s2, e_s2, h⟩ := fg_b_s h
  refine ft_X12_noWriting hok e_s2 ?_
  refine fg_ite Iff.rfl (fun d => ?_) (fun d => ?_)
  · have h := fg_if_t d h
    obtain ⟨p6, s5, e_s5, h⟩ := fg_b_s h
    refine ft_X12_noSheet hok e_s5 ?_
    refine fg_ite Iff.rfl (fun d => ?_) (fun d => ?_)
    · have h := fg_if_t d h
      refine ⟨hok.1, ?_⟩
      obtain ⟨p10, s9, e_s9, h⟩ := fg_b_s h
      refine ft_X12_barred hok e_s9 ?_
      refine fg_ite Iff.rfl (fun d => ?_) (fun d => ?_)
      · have h := fg_if_t d h
        refine ⟨hok.1, ?_⟩
        obtain ⟨p14, s13, e_s13, h⟩ := fg_b_s h
        refine ft_X12_readText hok e_s13 ?_
        refine fg_ite Iff.rfl (fun d => ?_) (fun d => ?_)
        · have h := fg_if_t d h
          refine ⟨hok.1, ?_⟩
          try simp -zeta only [e_io]
          refine fg_ite Iff.rfl (fun d => ?_) (fun d => ?_)
          · have h := fg_if_t d h
            obtain ⟨p27, s26, e_s26, h⟩ := fg_b_s h
            refine ft_X12_refused hok e_s26 ?_
            obtain ⟨q, q2⟩ := fg_ret h
            subst q
            subst q2
            exact hQ
          · have h := fg_if_e d h
            try simp -zeta only [e_io]
            obtain ⟨u_, s18, e_s18, h⟩ := fg_b_s h
            refine ft_X12_addRight hok e_s18 ?_
            refine ⟨hok.1, ?_⟩
            try simp -zeta only [e_io]
            obtain ⟨p22, s21, e_s21, h⟩ := fg_b_s h
            refine ft_X12_acted hok e_s21 ?_
            refine ⟨hok.1, ?_⟩
            obtain ⟨p25, s24, e_s24, h⟩ := fg_b_s h
            refine ft_X12_refused hok e_s24 ?_
            obtain ⟨q, q2⟩ := fg_ret h
            subst q
            subst q2
            exact hQ
        · have h := fg_if_e d h
          refine ⟨hok.1, ?_⟩
          obtain ⟨p30, s29, e_s29, h⟩ := fg_b_s h
          refine ft_X12_refused hok e_s29 ?_
          obtain ⟨q, q2⟩ := fg_ret h
          subst q
          subst q2
          exact hQ
      · have h := fg_if_e d h
        obtain ⟨q, q2⟩ := fg_ret h
        subst q
        subst q2
        exact hQ
    · have h := fg_if_e d h
      exact ft_X12_right_15 hok hQ h
  · have h := fg_if_e d h
    exact ft_X12_right_15 hok hQ h
set_option maxRecDepth 100000 in
set_option maxHeartbeats 4000000 in
theorem ft_X12_lend {o : Nat} {ra : Nat → Nat} {s0 : h_S} (hok : r_ok o ra s0) {Q : Int32 → h_S → Prop} {r : Int32} {t : r_T} {s : r_T} {x1 : Int32} {x2 : Int32} {x3 : Int32} (h : fn_X12_lend x1 x2 x3 s = some (r, t)) (hQ : Q r (r_emb s0 o ra t)) : w_X12_lend o x1 x2 x3 (r_emb s0 o ra s) Q := by
  unfold fn_X12_lend at h
  unfold w_X12_lend
  refine ⟨hok.1, ?_⟩
  obtain ⟨p3, s2, e_s2, h⟩ := fg_b_s h
  refine ft_X12_noRight hok e_s2 ?_
  refine fg_ite Iff.rfl (fun d => ?_) (fun d => ?_)
  · have h := fg_if_t d h
    refine ⟨hok.1, ?_⟩
    obtain ⟨p7, s6, e_s6, h⟩ := fg_b_s h
    refine ft_X12_noHand hok e_s6 ?_
    refine fg_ite Iff.rfl (fun d => ?_) (fun d => ?_)
    · have h := fg_if_t d h
      refine ⟨hok.1, ?_⟩
      obtain ⟨p11, s10, e_s10, h⟩ := fg_b_s h
      refine ft_X12_noHand hok e_s10 ?_
      refine fg_ite Iff.rfl (fun d => ?_) (fun d => ?_)
      · have h := fg_if_t d h
        refine fg_ite Iff.rfl (fun d => ?_) (fun d => ?_)
        · have h := fg_if_t d h
          obtain ⟨q, q2⟩ := fg_ret h
          subst q
          subst q2
          exact hQ
        · have h := fg_if_e d h
          refine ⟨hok.1, ?_⟩
          try simp -zeta only [e_io]
          obtain ⟨p16, s15, e_s15, h⟩ := fg_b_s h
          refine ft_X12_allows hok e_s15 ?_
          refine fg_ite Iff.rfl (fun d => ?_) (fun d => ?_)
          · have h := fg_if_t d h
            obtain ⟨q, q2⟩ := fg_ret h
            subst q
            subst q2
            exact hQ
          · have h := fg_if_e d h
            refine ⟨hok.1, ?_⟩
            try simp -zeta only [e_io]
            refine fg_ite Iff.rfl (fun d => ?_) (fun d => ?_)
            · have h := fg_if_t d h
              obtain ⟨q, q2⟩ := fg_ret h
              subst q
              subst q2
              exact hQ
            · have h := fg_if_e d h
              refine ⟨ra 90, fr_r90 hok, ?_⟩
              refine ⟨fr_k90 hok, ?_⟩
              obtain ⟨c, h⟩ := fg_g_s h
              refine ⟨fr_vp (fr_n90 hok) c, ?_⟩
              refine ⟨ra 92, fr_r92 hok, ?_⟩
              refine ⟨fr_k92 hok, ?_⟩
              obtain ⟨c, h⟩ := fg_g_s h
              refine ⟨fr_vp (fr_n92 hok) c, ?_⟩
              refine ⟨ra 93, fr_r93 hok, ?_⟩
              refine ⟨fr_k93 hok, ?_⟩
              obtain ⟨c, h⟩ := fg_g_s h
              refine ⟨fr_vp (fr_n93 hok) c, ?_⟩
              refine ⟨ra 94, fr_r94 hok, ?_⟩
              refine ⟨fr_k94 hok, ?_⟩
              obtain ⟨c, h⟩ := fg_g_s h
              refine ⟨fr_vp (fr_n94 hok) c, ?_⟩
              try simp -zeta only [fr_i90 hok, fr_i92 hok, fr_i93 hok, fr_i94 hok]
              obtain ⟨u_, s32, e_s32, h⟩ := fg_b_s h
              refine ft_X12_addRight hok e_s32 ?_
              refine ⟨hok.1, ?_⟩
              try simp -zeta only [e_io]
              obtain ⟨p36, s35, e_s35, h⟩ := fg_b_s h
              refine ft_X12_acted hok e_s35 ?_
              obtain ⟨q, q2⟩ := fg_ret h
              subst q
              subst q2
              exact hQ
      · have h := fg_if_e d h
        unfold w_X12_lend_24
        obtain ⟨q, q2⟩ := fg_ret h
        subst q
        subst q2
        exact hQ
    · have h := fg_if_e d h
      unfold w_X12_lend_24
      obtain ⟨q, q2⟩ := fg_ret h
      subst q
      subst q2
      exact hQ
  · have h := fg_if_e d h
    unfold w_X12_lend_24
    obtain ⟨q, q2⟩ := fg_ret h
    subst q
    subst q2
    exact hQ
set_option maxRecDepth 100000 in
set_option maxHeartbeats 4000000 in
theorem ft_X12_take_42b {o : Nat} {ra : Nat → Nat} {s0 : h_S} (hok : r_ok o ra s0) {Q : Int32 → h_S → Prop} {r : Int32} {t : r_T} (hQ : Q r (r_emb s0 o ra t)) {K42 : Int32 → Int32 → r_T → Option (Int32 × r_T)} {WK42 : Nat → Int32 → Int32 → h_S → Prop} (hK42 : ∀ (n0 : Int32) (n1 : Int32) (u : r_T), K42 n0 n1 u = some (r, t) → WK42 o n0 n1 (r_emb s0 o ra u)) {s : r_T} {x2 : Int32} {x3 : Int32} (h : fn_X12_take_42b K42 x2 x3 s = some (r, t)) : w_X12_take_42b Q WK42 o x2 x3 (r_emb s0 o ra s) := by
  unfold fn_X12_take_42b at h
  unfold w_X12_take_42b
  refine ⟨hok.1, ?_⟩
  try simp -zeta only [e_io]
  refine fg_ite Iff.rfl (fun d => ?_) (fun d => ?_)
  · have h := fg_if_t d h
    obtain ⟨p4, s3, e_s3, h⟩ := fg_b_s h
    refine ft_X12_acted hok e_s3 ?_
    obtain ⟨q, q2⟩ := fg_ret h
    subst q
    subst q2
    exact hQ
  · have h := fg_if_e d h
    refine ⟨ra 95, fr_r95 hok, ?_⟩
    refine ⟨fr_k95 hok, ?_⟩
    obtain ⟨c, h⟩ := fg_g_s h
    refine ⟨fr_vp (fr_n95 hok) c, ?_⟩
    try simp -zeta only [fr_i95 hok]
    refine fg_ite Iff.rfl (fun d => ?_) (fun d => ?_)
    · have h := fg_if_t d h
      unfold w_X12_take_105
      exact hK42 _ _ _ h
    · have h := fg_if_e d h
      refine ⟨ra 97, fr_r97 hok, ?_⟩
      refine ⟨fr_k97 hok, ?_⟩
      obtain ⟨c, h⟩ := fg_g_s h
      refine ⟨fr_vp (fr_n97 hok) c, ?_⟩
      try simp -zeta only [fr_i97 hok]
      refine fg_ite Iff.rfl (fun d => ?_) (fun d => ?_)
      · have h := fg_if_t d h
        refine ⟨ra 95, fr_r95 hok, ?_⟩
        refine ⟨fr_k95 hok, ?_⟩
        obtain ⟨c, h⟩ := fg_g_s h
        refine ⟨fr_vp (fr_n95 hok) c, ?_⟩
        refine ⟨ra 97, fr_r97 hok, ?_⟩
        refine ⟨fr_k97 hok, ?_⟩
        try simp -zeta only [fr_i95 hok]
        obtain ⟨c, h⟩ := fg_g_s h
        refine ⟨fr_vp (fr_n97 hok) c, ?_⟩
        try simp -zeta only [e_io, fr_i95 hok, fr_i97 hok]
        refine fg_ite Iff.rfl (fun d => ?_) (fun d => ?_)
        · have h := fg_if_t d h
          refine ⟨ra 97, fr_r97 hok, ?_⟩
          refine ⟨fr_k97 hok, ?_⟩
          obtain ⟨c, h⟩ := fg_g_s h
          refine ⟨fr_vp (fr_n97 hok) c, ?_⟩
          try simp -zeta only [e_io]
          obtain ⟨s23, e_s23, h⟩ := fg_let_s h
          intro S_s23
          have z_s23 : S_s23 = r_emb s0 o ra s23 := by rw [e_s23]; exact fr_s97 hok _ _
          clear_value S_s23
          subst z_s23
          unfold w_X12_take_105
          exact hK42 _ _ _ h
        · have h := fg_if_e d h
          unfold w_X12_take_105
          exact hK42 _ _ _ h
      · have h := fg_if_e d h
        unfold w_X12_take_105
        exact hK42 _ _ _ h
set_option maxRecDepth 100000 in
set_option maxHeartbeats 4000000 in
theorem ft_X12_take_42 {o : Nat} {ra : Nat → Nat} {s0 : h_S} (hok : r_ok o ra s0) {Q : Int32 → h_S → Prop} {r : Int32} {t : r_T} (hQ : Q r (r_emb s0 o ra t)) : ∀ (n : Nat) (x2 : Int32) (x3 : Int32) (s : r_T), fn_X12_take_42 n x2 x3 s = some (r, t) → w_X12_take_42 Q n o x2 x3 (r_emb s0 o ra s) := by
  intro n
  induction n with
  | zero => intro x2 x3 s h; exact fg_none h
  | succ n ih =>
    intro x2 x3 s h
    exact ft_X12_take_42b hok hQ ih h
set_option maxRecDepth 100000 in
set_option maxHeartbeats 4000000 in
theorem ft_X12_take {o : Nat} {ra : Nat → Nat} {s0 : h_S} (hok : r_ok o ra s0) {Q : Int32 → h_S → Prop} {r : Int32} {t : r_T} {s : r_T} {x1 : Int32} (h : fn_X12_take x1 s = some (r, t)) (hQ : Q r (r_emb s0 o ra t)) : w_X12_take o x1 (r_emb s0 o ra s) Q := by
  unfold fn_X12_take at h
  unfold w_X12_take
  refine ⟨hok.1, ?_⟩
  obtain ⟨p3, s2, e_s2, h⟩ := fg_b_s h
  refine ft_X12_noRight hok e_s2 ?_
  refine fg_ite Iff.rfl (fun d => ?_) (fun d => ?_)
  · have h := fg_if_t d h
    refine ⟨hok.1, ?_⟩
    refine ⟨ra 97, fr_r97 hok, ?_⟩
    refine ⟨fr_k97 hok, ?_⟩
    obtain ⟨c, h⟩ := fg_g_s h
    refine ⟨fr_vp (fr_n97 hok) c, ?_⟩
    try simp -zeta only [fr_i97 hok]
    refine fg_ite Iff.rfl (fun d => ?_) (fun d => ?_)
    · have h := fg_if_t d h
      refine ⟨ra 97, fr_r97 hok, ?_⟩
      refine ⟨fr_k97 hok, ?_⟩
      obtain ⟨c, h⟩ := fg_g_s h
      refine ⟨fr_vp (fr_n97 hok) c, ?_⟩
      try simp -zeta only [e_io]
      obtain ⟨s13, e_s13, h⟩ := fg_let_s h
      intro S_s13
      have z_s13 : S_s13 = r_emb s0 o ra s13 := by rw [e_s13]; exact fr_s97 hok _ _
      clear_value S_s13
      subst z_s13
      exact ⟨g_N, ft_X12_take_42 hok hQ g_N _ _ _ h⟩
    · have h := fg_if_e d h
      obtain ⟨q, q2⟩ := fg_ret h
      subst q
      subst q2
      exact hQ
  · have h := fg_if_e d h
    obtain ⟨q, q2⟩ := fg_ret h
    subst q
    subst q2
    exact hQ
set_option maxRecDepth 100000 in
set_option maxHeartbeats 4000000 in
theorem ft_X12_ofRight {o : Nat} {ra : Nat → Nat} {s0 : h_S} (hok : r_ok o ra s0) {Q : Int32 → h_S → Prop} {r : Int32} {t : r_T} {s : r_T} {x1 : Int32} {x2 : Int32} (h : fn_X12_ofRight x1 x2 s = some (r, t)) (hQ : Q r (r_emb s0 o ra t)) : w_X12_ofRight o x1 x2 (r_emb s0 o ra s) Q := by
  unfold fn_X12_ofRight at h
  unfold w_X12_ofRight
  refine ⟨hok.1, ?_⟩
  obtain ⟨p3, s2, e_s2, h⟩ := fg_b_s h
  refine ft_X12_noRight hok e_s2 ?_
  refine fg_ite Iff.rfl (fun d => ?_) (fun d => ?_)
  · have h := fg_if_t d h
    refine fg_ite Iff.rfl (fun d => ?_) (fun d => ?_)
    · have h := fg_if_t d h
      refine ⟨hok.1, ?_⟩
      refine ⟨ra 90, fr_r90 hok, ?_⟩
      refine ⟨fr_k90 hok, ?_⟩
      obtain ⟨c, h⟩ := fg_g_s h
      refine ⟨fr_vp (fr_n90 hok) c, ?_⟩
      try simp -zeta only [fr_i90 hok]
      obtain ⟨q, q2⟩ := fg_ret h
      subst q
      subst q2
      exact hQ
    · have h := fg_if_e d h
      refine fg_ite Iff.rfl (fun d => ?_) (fun d => ?_)
      · have h := fg_if_t d h
        refine ⟨hok.1, ?_⟩
        refine ⟨ra 91, fr_r91 hok, ?_⟩
        refine ⟨fr_k91 hok, ?_⟩
        obtain ⟨c, h⟩ := fg_g_s h
        refine ⟨fr_vp (fr_n91 hok) c, ?_⟩
        try simp -zeta only [fr_i91 hok]
        obtain ⟨q, q2⟩ := fg_ret h
        subst q
        subst q2
        exact hQ
      · have h := fg_if_e d h
        refine fg_ite Iff.rfl (fun d => ?_) (fun d => ?_)
        · have h := fg_if_t d h
          refine ⟨hok.1, ?_⟩
          refine ⟨ra 92, fr_r92 hok, ?_⟩
          refine ⟨fr_k92 hok, ?_⟩
          obtain ⟨c, h⟩ := fg_g_s h
          refine ⟨fr_vp (fr_n92 hok) c, ?_⟩
          try simp -zeta only [fr_i92 hok]
          obtain ⟨q, q2⟩ := fg_ret h
          subst q
          subst q2
          exact hQ
        · have h := fg_if_e d h
          refine fg_ite Iff.rfl (fun d => ?_) (fun d => ?_)
          · have h := fg_if_t d h
            refine ⟨hok.1, ?_⟩
            refine ⟨ra 93, fr_r93 hok, ?_⟩
            refine ⟨fr_k93 hok, ?_⟩
            obtain ⟨c, h⟩ := fg_g_s h
            refine ⟨fr_vp (fr_n93 hok) c, ?_⟩
            try simp -zeta only [fr_i93 hok]
            obtain ⟨q, q2⟩ := fg_ret h
            subst q
            subst q2
            exact hQ
          · have h := fg_if_e d h
            refine fg_ite Iff.rfl (fun d => ?_) (fun d => ?_)
            · have h := fg_if_t d h
              refine ⟨hok.1, ?_⟩
              refine ⟨ra 94, fr_r94 hok, ?_⟩
              refine ⟨fr_k94 hok, ?_⟩
              obtain ⟨c, h⟩ := fg_g_s h
              refine ⟨fr_vp (fr_n94 hok) c, ?_⟩
              try simp -zeta only [fr_i94 hok]
              obtain ⟨q, q2⟩ := fg_ret h
              subst q
              subst q2
              exact hQ
            · have h := fg_if_e d h
              refine fg_ite Iff.rfl (fun d => ?_) (fun d => ?_)
              · have h := fg_if_t d h
                refine ⟨hok.1, ?_⟩
                refine ⟨ra 95, fr_r95 hok, ?_⟩
                refine ⟨fr_k95 hok, ?_⟩
                obtain ⟨c, h⟩ := fg_g_s h
                refine ⟨fr_vp (fr_n95 hok) c, ?_⟩
                try simp -zeta only [fr_i95 hok]
                obtain ⟨q, q2⟩ := fg_ret h
                subst q
                subst q2
                exact hQ
              · have h := fg_if_e d h
                refine fg_ite Iff.rfl (fun d => ?_) (fun d => ?_)
                · have h := fg_if_t d h
                  refine ⟨hok.1, ?_⟩
                  refine ⟨ra 97, fr_r97 hok, ?_⟩
                  refine ⟨fr_k97 hok, ?_⟩
                  obtain ⟨c, h⟩ := fg_g_s h
                  refine ⟨fr_vp (fr_n97 hok) c, ?_⟩
                  try simp -zeta only [fr_i97 hok]
                  refine fg_ite Iff.rfl (fun d => ?_) (fun d => ?_)
                  · have h := fg_if_t d h
                    unfold w_X12_ofRight_110
                    obtain ⟨q, q2⟩ := fg_ret h
                    subst q
                    subst q2
                    exact hQ
                  · have h := fg_if_e d h
                    unfold w_X12_ofRight_110
                    obtain ⟨q, q2⟩ := fg_ret h
                    subst q
                    subst q2
                    exact hQ
                · have h := fg_if_e d h
                  obtain ⟨q, q2⟩ := fg_ret h
                  subst q
                  subst q2
                  exact hQ
  · have h := fg_if_e d h
    obtain ⟨q, q2⟩ := fg_ret h
    subst q
    subst q2
    exact hQ
set_option maxRecDepth 100000 in
set_option maxHeartbeats 4000000 in
theorem ft_X12_why {o : Nat} {ra : Nat → Nat} {s0 : h_S} (hok : r_ok o ra s0) {Q : Int32 → h_S → Prop} {r : Int32} {t : r_T} {s : r_T} {x1 : Int32} {x2 : Int32} {x3 : Int32} {x4 : Int32} (h : fn_X12_why x1 x2 x3 x4 s = some (r, t)) (hQ : Q r (r_emb s0 o ra t)) : w_X12_why o x1 x2 x3 x4 (r_emb s0 o ra s) Q := by
  unfold fn_X12_why at h
  unfold w_X12_why
  refine ⟨hok.1, ?_⟩
  obtain ⟨p3, s2, e_s2, h⟩ := fg_b_s h
  refine ft_X12_noHand hok e_s2 ?_
  refine fg_ite Iff.rfl (fun d => ?_) (fun d => ?_)
  · have h := fg_if_t d h
    refine ⟨hok.1, ?_⟩
    obtain ⟨p7, s6, e_s6, h⟩ := fg_b_s h
    refine ft_X12_noWriting hok e_s6 ?_
    refine fg_ite Iff.rfl (fun d => ?_) (fun d => ?_)
    · have h := fg_if_t d h
      refine ⟨hok.1, ?_⟩
      obtain ⟨p11, s10, e_s10, h⟩ := fg_b_s h
      refine ft_X12_noMoment hok e_s10 ?_
      refine fg_ite Iff.rfl (fun d => ?_) (fun d => ?_)
      · have h := fg_if_t d h
        obtain ⟨p14, s13, e_s13, h⟩ := fg_b_s h
        refine ft_X12_in hok e_s13 ?_
        refine fg_ite Iff.rfl (fun d => ?_) (fun d => ?_)
        · have h := fg_if_t d h
          unfold w_X12_why_53
          obtain ⟨q, q2⟩ := fg_ret h
          subst q
          subst q2
          exact hQ
        · have h := fg_if_e d h
          refine ⟨hok.1, ?_⟩
          obtain ⟨p18, s17, e_s17, h⟩ := fg_b_s h
          refine ft_X12_whyOf hok e_s17 ?_
          unfold w_X12_why_53
          obtain ⟨q, q2⟩ := fg_ret h
          subst q
          subst q2
          exact hQ
      · have h := fg_if_e d h
        unfold w_X12_why_25
        obtain ⟨q, q2⟩ := fg_ret h
        subst q
        subst q2
        exact hQ
    · have h := fg_if_e d h
      unfold w_X12_why_25
      obtain ⟨q, q2⟩ := fg_ret h
      subst q
      subst q2
      exact hQ
  · have h := fg_if_e d h
    unfold w_X12_why_25
    obtain ⟨q, q2⟩ := fg_ret h
    subst q
    subst q2
    exact hQ
set_option maxRecDepth 100000 in
set_option maxHeartbeats 4000000 in
theorem ft_X12_may {o : Nat} {ra : Nat → Nat} {s0 : h_S} (hok : r_ok o ra s0) {Q : Int32 → h_S → Prop} {r : Int32} {t : r_T} {s : r_T} {x1 : Int32} {x2 : Int32} {x3 : Int32} {x4 : Int32} (h : fn_X12_may x1 x2 x3 x4 s = some (r, t)) (hQ : Q r (r_emb s0 o ra t)) : w_X12_may o x1 x2 x3 x4 (r_emb s0 o ra s) Q := by
  unfold fn_X12_may at h
  unfold w_X12_may
  refine ⟨hok.1, ?_⟩
  obtain ⟨p3, s2, e_s2, h⟩ := fg_b_s h
  refine ft_X12_why hok e_s2 ?_
  refine fg_ite Iff.rfl (fun d => ?_) (fun d => ?_)
  · have h := fg_if_t d h
    unfold w_X12_may_33
    obtain ⟨q, q2⟩ := fg_ret h
    subst q
    subst q2
    exact hQ
  · have h := fg_if_e d h
    refine fg_ite Iff.rfl (fun d => ?_) (fun d => ?_)
    · have h := fg_if_t d h
      unfold w_X12_may_33
      obtain ⟨q, q2⟩ := fg_ret h
      subst q
      subst q2
      exact hQ
    · have h := fg_if_e d h
      unfold w_X12_may_33
      obtain ⟨q, q2⟩ := fg_ret h
      subst q
      subst q2
      exact hQ
set_option maxRecDepth 100000 in
set_option maxHeartbeats 4000000 in
theorem ft_X12_isOpen_51 {o : Nat} {ra : Nat → Nat} {s0 : h_S} (hok : r_ok o ra s0) {Q : Int32 → h_S → Prop} {r : Int32} {t : r_T} (hQ : Q r (r_emb s0 o ra t)) {s : r_T} {x1 : Int32} {x3 : Int32} {x4 : Int32} {y0 : Int32} (h : fn_X12_isOpen_51 x1 x3 x4 y0 s = some (r, t)) : w_X12_isOpen_51 Q o x1 x3 x4 y0 (r_emb s0 o ra s) := by
  unfold fn_X12_isOpen_51 at h
  unfold w_X12_isOpen_51
  refine ⟨hok.1, ?_⟩
  refine ⟨ra 9, fr_r9 hok, ?_⟩
  refine ⟨fr_k9 hok, ?_⟩
  obtain ⟨c, h⟩ := fg_g_s h
  refine ⟨fr_vp (fr_n9 hok) c, ?_⟩
  try simp -zeta only [fr_i9 hok]
  refine fg_ite Iff.rfl (fun d => ?_) (fun d => ?_)
  · have h := fg_if_t d h
    unfold w_X12_isOpen_83
    unfold w_X12_isOpen_88
    refine ⟨Or.inr rfl, ?_⟩
    obtain ⟨q, q2⟩ := fg_ret h
    subst q
    subst q2
    exact hQ
  · have h := fg_if_e d h
    refine fg_ite Iff.rfl (fun d => ?_) (fun d => ?_)
    · have h := fg_if_t d h
      unfold w_X12_isOpen_87
      unfold w_X12_isOpen_88
      refine ⟨Or.inl rfl, ?_⟩
      obtain ⟨q, q2⟩ := fg_ret h
      subst q
      subst q2
      exact hQ
    · have h := fg_if_e d h
      obtain ⟨p8, s7, e_s7, h⟩ := fg_b_s h
      refine ft_X12_whyOf hok e_s7 ?_
      refine fg_ite Iff.rfl (fun d => ?_) (fun d => ?_)
      · have h := fg_if_t d h
        unfold w_X12_isOpen_87
        unfold w_X12_isOpen_88
        refine ⟨Or.inl rfl, ?_⟩
        obtain ⟨q, q2⟩ := fg_ret h
        subst q
        subst q2
        exact hQ
      · have h := fg_if_e d h
        unfold w_X12_isOpen_83
        unfold w_X12_isOpen_88
        refine ⟨Or.inr rfl, ?_⟩
        obtain ⟨q, q2⟩ := fg_ret h
        subst q
        subst q2
        exact hQ
set_option maxRecDepth 100000 in
set_option maxHeartbeats 4000000 in
theorem ft_X12_isOpen_46 {o : Nat} {ra : Nat → Nat} {s0 : h_S} (hok : r_ok o ra s0) {Q : Int32 → h_S → Prop} {r : Int32} {t : r_T} (hQ : Q r (r_emb s0 o ra t)) {s : r_T} {x1 : Int32} {x3 : Int32} {x4 : Int32} (h : fn_X12_isOpen_46 x1 x3 x4 s = some (r, t)) : w_X12_isOpen_46 Q o x1 x3 x4 (r_emb s0 o ra s) := by
  unfold fn_X12_isOpen_46 at h
  unfold w_X12_isOpen_46
  exact ft_X12_isOpen_51 hok hQ h
set_option maxRecDepth 100000 in
set_option maxHeartbeats 4000000 in
theorem ft_X12_isOpen_50 {o : Nat} {ra : Nat → Nat} {s0 : h_S} (hok : r_ok o ra s0) {Q : Int32 → h_S → Prop} {r : Int32} {t : r_T} (hQ : Q r (r_emb s0 o ra t)) {s : r_T} {x1 : Int32} {x3 : Int32} {x4 : Int32} (h : fn_X12_isOpen_50 x1 x3 x4 s = some (r, t)) : w_X12_isOpen_50 Q o x1 x3 x4 (r_emb s0 o ra s) := by
  unfold fn_X12_isOpen_50 at h
  unfold w_X12_isOpen_50
  exact ft_X12_isOpen_51 hok hQ h
set_option maxRecDepth 100000 in
set_option maxHeartbeats 4000000 in
theorem ft_X12_isOpen {o : Nat} {ra : Nat → Nat} {s0 : h_S} (hok : r_ok o ra s0) {Q : Int32 → h_S → Prop} {r : Int32} {t : r_T} {s : r_T} {x1 : Int32} {x2 : Int32} {x3 : Int32} (h : fn_X12_isOpen x1 x2 x3 s = some (r, t)) (hQ : Q r (r_emb s0 o ra t)) : w_X12_isOpen o x1 x2 x3 (r_emb s0 o ra s) Q := by
  unfold fn_X12_isOpen at h
  unfold w_X12_isOpen
  refine ⟨hok.1, ?_⟩
  refine ⟨ra 56, fr_r56 hok, ?_⟩
  refine ⟨fr_k56 hok, ?_⟩
  obtain ⟨c, h⟩ := fg_g_s h
  refine ⟨fr_vp (fr_n56 hok) c, ?_⟩
  refine ⟨ra 58, fr_r58 hok, ?_⟩
  refine ⟨fr_k58 hok, ?_⟩
  obtain ⟨c, h⟩ := fg_g_s h
  refine ⟨fr_vp (fr_n58 hok) c, ?_⟩
  try simp -zeta only [fr_i58 hok]
  refine fg_ite Iff.rfl (fun d => ?_) (fun d => ?_)
  · have h := fg_if_t d h
    try simp -zeta only [fr_i56 hok]
    exact ft_X12_isOpen_50 hok hQ h
  · have h := fg_if_e d h
    refine ⟨ra 58, fr_r58 hok, ?_⟩
    refine ⟨fr_k58 hok, ?_⟩
    obtain ⟨c, h⟩ := fg_g_s h
    refine ⟨fr_vp (fr_n58 hok) c, ?_⟩
    try simp -zeta only [fr_i58 hok]
    refine fg_ite Iff.rfl (fun d => ?_) (fun d => ?_)
    · have h := fg_if_t d h
      try simp -zeta only [fr_i56 hok]
      exact ft_X12_isOpen_50 hok hQ h
    · have h := fg_if_e d h
      refine ⟨ra 59, fr_r59 hok, ?_⟩
      refine ⟨fr_k59 hok, ?_⟩
      obtain ⟨c, h⟩ := fg_g_s h
      refine ⟨fr_vp (fr_n59 hok) c, ?_⟩
      try simp -zeta only [fr_i59 hok]
      refine fg_ite Iff.rfl (fun d => ?_) (fun d => ?_)
      · have h := fg_if_t d h
        try simp -zeta only [fr_i56 hok]
        exact ft_X12_isOpen_46 hok hQ h
      · have h := fg_if_e d h
        refine ⟨ra 59, fr_r59 hok, ?_⟩
        refine ⟨fr_k59 hok, ?_⟩
        obtain ⟨c, h⟩ := fg_g_s h
        refine ⟨fr_vp (fr_n59 hok) c, ?_⟩
        try simp -zeta only [fr_i59 hok]
        refine fg_ite Iff.rfl (fun d => ?_) (fun d => ?_)
        · have h := fg_if_t d h
          try simp -zeta only [fr_i56 hok]
          exact ft_X12_isOpen_50 hok hQ h
        · have h := fg_if_e d h
          try simp -zeta only [fr_i56 hok]
          exact ft_X12_isOpen_46 hok hQ h
set_option maxRecDepth 100000 in
set_option maxHeartbeats 4000000 in
theorem ft_X12_isRead {o : Nat} {ra : Nat → Nat} {s0 : h_S} (hok : r_ok o ra s0) {Q : Int32 → h_S → Prop} {r : Int32} {t : r_T} {s : r_T} {x1 : Int32} {x2 : Int32} {x3 : Int32} (h : fn_X12_isRead x1 x2 x3 s = some (r, t)) (hQ : Q r (r_emb s0 o ra t)) : w_X12_isRead o x1 x2 x3 (r_emb s0 o ra s) Q := by
  unfold fn_X12_isRead at h
  unfold w_X12_isRead
  refine fg_ite Iff.rfl (fun d => ?_) (fun d => ?_)
  · have h := fg_if_t d h
    unfold w_X12_isRead_28
    unfold w_X12_isRead_29
    refine ⟨Or.inl rfl, ?_⟩
    obtain ⟨q, q2⟩ := fg_ret h
    subst q
    subst q2
    exact hQ
  · have h := fg_if_e d h
    refine ⟨hok.1, ?_⟩
    refine ⟨ra 25, fr_r25 hok, ?_⟩
    refine ⟨fr_k25 hok, ?_⟩
    obtain ⟨c, h⟩ := fg_g_s h
    refine ⟨fr_vp (fr_n25 hok) c, ?_⟩
    try simp -zeta only [fr_i25 hok]
    obtain ⟨p7, s6, e_s6, h⟩ := fg_b_s h
    refine ft_X12_whyOf hok e_s6 ?_
    refine fg_ite Iff.rfl (fun d => ?_) (fun d => ?_)
    · have h := fg_if_t d h
      unfold w_X12_isRead_28
      unfold w_X12_isRead_29
      refine ⟨Or.inl rfl, ?_⟩
      obtain ⟨q, q2⟩ := fg_ret h
      subst q
      subst q2
      exact hQ
    · have h := fg_if_e d h
      unfold w_X12_isRead_29
      refine ⟨Or.inr rfl, ?_⟩
      obtain ⟨q, q2⟩ := fg_ret h
      subst q
      subst q2
      exact hQ
set_option maxRecDepth 100000 in
set_option maxHeartbeats 4000000 in
theorem ft_X12_view {o : Nat} {ra : Nat → Nat} {s0 : h_S} (hok : r_ok o ra s0) {Q : Int32 → h_S → Prop} {r : Int32} {t : r_T} {s : r_T} {x1 : Int32} {x2 : Int32} {x3 : Int32} {x4 : Int32} (h : fn_X12_view x1 x2 x3 x4 s = some (r, t)) (hQ : Q r (r_emb s0 o ra t)) : w_X12_view o x1 x2 x3 x4 (r_emb s0 o ra s) Q := by
  unfold fn_X12_view at h
  unfold w_X12_view
  refine ⟨hok.1, ?_⟩
  obtain ⟨p3, s2, e_s2, h⟩ := fg_b_s h
  refine ft_X12_noHand hok e_s2 ?_
  refine fg_ite Iff.rfl (fun d => ?_) (fun d => ?_)
  · have h := fg_if_t d h
    refine ⟨hok.1, ?_⟩
    obtain ⟨p7, s6, e_s6, h⟩ := fg_b_s h
    refine ft_X12_noVersion hok e_s6 ?_
    refine fg_ite Iff.rfl (fun d => ?_) (fun d => ?_)
    · have h := fg_if_t d h
      refine ⟨hok.1, ?_⟩
      obtain ⟨p11, s10, e_s10, h⟩ := fg_b_s h
      refine ft_X12_noMoment hok e_s10 ?_
      refine fg_ite Iff.rfl (fun d => ?_) (fun d => ?_)
      · have h := fg_if_t d h
        refine ⟨hok.1, ?_⟩
        obtain ⟨u_, s14, e_s14, h⟩ := fg_b_s h
        refine ft_X12_layVersion hok e_s14 ?_
        refine ⟨hok.1, ?_⟩
        try simp -zeta only [e_io]
        obtain ⟨p18, s17, e_s17, h⟩ := fg_b_s h
        refine ft_X12_in hok e_s17 ?_
        refine fg_ite Iff.rfl (fun d => ?_) (fun d => ?_)
        · have h := fg_if_t d h
          obtain ⟨q, q2⟩ := fg_ret h
          subst q
          subst q2
          exact hQ
        · have h := fg_if_e d h
          refine ⟨hok.1, ?_⟩
          refine ⟨ra 57, fr_r57 hok, ?_⟩
          refine ⟨fr_k57 hok, ?_⟩
          obtain ⟨c, h⟩ := fg_g_s h
          refine ⟨fr_vp (fr_n57 hok) c, ?_⟩
          try simp -zeta only [fr_i57 hok]
          refine fg_ite Iff.rfl (fun d => ?_) (fun d => ?_)
          · have h := fg_if_t d h
            refine ⟨ra 36, fr_r36 hok, ?_⟩
            refine ⟨fr_k36 hok, ?_⟩
            obtain ⟨c, h⟩ := fg_g_s h
            refine ⟨fr_vp (fr_n36 hok) c, ?_⟩
            obtain ⟨p29, s28, e_s28, h⟩ := fg_b_s h
            refine ft_X12_isOpen hok e_s28 ?_
            refine fg_ite Iff.rfl (fun d => ?_) (fun d => ?_)
            · have h := fg_if_t d h
              unfold w_X12_view_100
              unfold w_X12_view_102
              obtain ⟨q, q2⟩ := fg_ret h
              subst q
              subst q2
              exact hQ
            · have h := fg_if_e d h
              refine ⟨hok.1, ?_⟩
              try simp -zeta only [fr_i36 hok]
              obtain ⟨p33, s32, e_s32, h⟩ := fg_b_s h
              refine ft_X12_isRead hok e_s32 ?_
              refine fg_ite Iff.rfl (fun d => ?_) (fun d => ?_)
              · have h := fg_if_t d h
                unfold w_X12_view_100
                unfold w_X12_view_102
                obtain ⟨q, q2⟩ := fg_ret h
                subst q
                subst q2
                exact hQ
              · have h := fg_if_e d h
                unfold w_X12_view_102
                try simp -zeta only [fr_i36 hok]
                obtain ⟨q, q2⟩ := fg_ret h
                subst q
                subst q2
                exact hQ
          · have h := fg_if_e d h
            obtain ⟨q, q2⟩ := fg_ret h
            subst q
            subst q2
            exact hQ
      · have h := fg_if_e d h
        unfold w_X12_view_25
        obtain ⟨q, q2⟩ := fg_ret h
        subst q
        subst q2
        exact hQ
    · have h := fg_if_e d h
      unfold w_X12_view_25
      obtain ⟨q, q2⟩ := fg_ret h
      subst q
      subst q2
      exact hQ
  · have h := fg_if_e d h
    unfold w_X12_view_25
    obtain ⟨q, q2⟩ := fg_ret h
    subst q
    subst q2
    exact hQ
set_option maxRecDepth 100000 in
set_option maxHeartbeats 4000000 in
theorem ft_X12_rule {o : Nat} {ra : Nat → Nat} {s0 : h_S} (hok : r_ok o ra s0) {Q : Int32 → h_S → Prop} {r : Int32} {t : r_T} {s : r_T} {x1 : Int32} {x2 : Int32} (h : fn_X12_rule x1 x2 s = some (r, t)) (hQ : Q r (r_emb s0 o ra t)) : w_X12_rule o x1 x2 (r_emb s0 o ra s) Q := by
  unfold fn_X12_rule at h
  unfold w_X12_rule
  obtain ⟨p2, s1, e_s1, h⟩ := fg_b_s h
  refine ft_X12_in hok e_s1 ?_
  refine fg_ite Iff.rfl (fun d => ?_) (fun d => ?_)
  · have h := fg_if_t d h
    unfold w_X12_rule_24
    obtain ⟨q, q2⟩ := fg_ret h
    subst q
    subst q2
    exact hQ
  · have h := fg_if_e d h
    obtain ⟨p5, s4, e_s4, h⟩ := fg_b_s h
    refine ft_X12_in hok e_s4 ?_
    refine fg_ite Iff.rfl (fun d => ?_) (fun d => ?_)
    · have h := fg_if_t d h
      unfold w_X12_rule_24
      obtain ⟨q, q2⟩ := fg_ret h
      subst q
      subst q2
      exact hQ
    · have h := fg_if_e d h
      refine ⟨hok.1, ?_⟩
      try simp -zeta only [e_io]
      obtain ⟨v8, e_v8, h⟩ := fg_let_s h
      intro S_v8
      have z_v8 : v8 = S_v8 := e_v8
      clear_value S_v8
      subst z_v8
      obtain ⟨s9, e_s9, h⟩ := fg_let_s h
      intro S_s9
      have z_s9 : S_s9 = r_emb s0 o ra s9 := by rw [e_s9]; exact e_so _ _
      clear_value S_s9
      subst z_s9
      obtain ⟨s10, e_s10, h⟩ := fg_let_s h
      intro S_s10
      have z_s10 : S_s10 = r_emb s0 o ra s10 := by rw [e_s10]; exact e_so _ _
      clear_value S_s10
      subst z_s10
      obtain ⟨p12, s11, e_s11, h⟩ := fg_b_s h
      refine ft_X12_acted hok e_s11 ?_
      obtain ⟨q, q2⟩ := fg_ret h
      subst q
      subst q2
      exact hQ
set_option maxRecDepth 100000 in
set_option maxHeartbeats 4000000 in
theorem ft_X12_read_152 {o : Nat} {ra : Nat → Nat} {s0 : h_S} (hok : r_ok o ra s0) {Q : Int32 → h_S → Prop} {r : Int32} {t : r_T} (hQ : Q r (r_emb s0 o ra t)) {K56 : Int32 → Int32 → Int32 → Int32 → Int32 → Int32 → r_T → Option (Int32 × r_T)} {WK56 : Nat → Int32 → Int32 → Int32 → Int32 → Int32 → Int32 → h_S → Prop} (hK56 : ∀ (n0 : Int32) (n1 : Int32) (n2 : Int32) (n3 : Int32) (n4 : Int32) (n5 : Int32) (u : r_T), K56 n0 n1 n2 n3 n4 n5 u = some (r, t) → WK56 o n0 n1 n2 n3 n4 n5 (r_emb s0 o ra u)) {s : r_T} {x1 : Int32} {x3 : Int32} {x4 : Int32} {x5 : Int32} {x6 : Int32} {x7 : Int32} {x9 : Int32} {x10 : Int32} {y0 : Int32} {y1 : Int32} (h : fn_X12_read_152 K56 x1 x3 x4 x5 x6 x7 x9 x10 y0 y1 s = some (r, t)) : w_X12_read_152 Q WK56 o x1 x3 x4 x5 x6 x7 x9 x10 y0 y1 (some (ra 104)) (r_emb s0 o ra s) := by
  unfold fn_X12_read_152 at h
  unfold w_X12_read_152
  refine ⟨ra 104, rfl, ?_⟩
  refine ⟨fr_k104 hok, ?_⟩
  obtain ⟨c, h⟩ := fg_g_s h
  refine ⟨fr_vp (fr_n104 hok) c, ?_⟩
  refine ⟨ra 104, rfl, ?_⟩
  refine ⟨fr_k104 hok, ?_⟩
  obtain ⟨c, h⟩ := fg_g_s h
  refine ⟨fr_vp (fr_n104 hok) c, ?_⟩
  try simp -zeta only [fr_i104 hok]
  obtain ⟨s7, e_s7, h⟩ := fg_let_s h
  intro S_s7
  have z_s7 : S_s7 = r_emb s0 o ra s7 := by rw [e_s7]; exact fr_s104 hok _ _
  clear_value S_s7
  subst z_s7
  refine ⟨hok.1, ?_⟩
  refine ⟨ra 104, fr_r104 hok, ?_⟩
  refine ⟨fr_k104 hok, ?_⟩
  obtain ⟨c, h⟩ := fg_g_s h
  refine ⟨fr_vp (fr_n104 hok) c, ?_⟩
  refine ⟨ra 104, fr_r104 hok, ?_⟩
  refine ⟨fr_k104 hok, ?_⟩
  obtain ⟨c, h⟩ := fg_g_s h
  refine ⟨fr_vp (fr_n104 hok) c, ?_⟩
  try simp -zeta only [e_io, fr_i104 hok]
  obtain ⟨s15, e_s15, h⟩ := fg_let_s h
  intro S_s15
  have z_s15 : S_s15 = r_emb s0 o ra s15 := by rw [e_s15]; exact fr_s104 hok _ _
  clear_value S_s15
  subst z_s15
  unfold w_X12_read_190
  try simp -zeta only [e_io]
  exact hK56 _ _ _ _ _ _ _ h
set_option maxRecDepth 100000 in
set_option maxHeartbeats 4000000 in
theorem ft_X12_read_150 {o : Nat} {ra : Nat → Nat} {s0 : h_S} (hok : r_ok o ra s0) {Q : Int32 → h_S → Prop} {r : Int32} {t : r_T} (hQ : Q r (r_emb s0 o ra t)) {K56 : Int32 → Int32 → Int32 → Int32 → Int32 → Int32 → r_T → Option (Int32 × r_T)} {WK56 : Nat → Int32 → Int32 → Int32 → Int32 → Int32 → Int32 → h_S → Prop} (hK56 : ∀ (n0 : Int32) (n1 : Int32) (n2 : Int32) (n3 : Int32) (n4 : Int32) (n5 : Int32) (u : r_T), K56 n0 n1 n2 n3 n4 n5 u = some (r, t) → WK56 o n0 n1 n2 n3 n4 n5 (r_emb s0 o ra u)) {s : r_T} {x1 : Int32} {x3 : Int32} {x4 : Int32} {x5 : Int32} {x6 : Int32} {x7 : Int32} {x9 : Int32} {x10 : Int32} {y0 : Int32} (h : fn_X12_read_150 K56 x1 x3 x4 x5 x6 x7 x9 x10 y0 s = some (r, t)) : w_X12_read_150 Q WK56 o x1 x3 x4 x5 x6 x7 x9 x10 y0 (some (ra 104)) (r_emb s0 o ra s) := by
  unfold fn_X12_read_150 at h
  unfold w_X12_read_150
  exact ft_X12_read_152 hok hQ hK56 h
set_option maxRecDepth 100000 in
set_option maxHeartbeats 4000000 in
theorem ft_X12_read_196 {o : Nat} {ra : Nat → Nat} {s0 : h_S} (hok : r_ok o ra s0) {Q : Int32 → h_S → Prop} {r : Int32} {t : r_T} (hQ : Q r (r_emb s0 o ra t)) {s : r_T} {x5 : Int32} {x6 : Int32} (h : fn_X12_read_196 x5 x6 s = some (r, t)) : w_X12_read_196 Q o x5 x6 (r_emb s0 o ra s) := by
  unfold fn_X12_read_196 at h
  unfold w_X12_read_196
  refine fg_ite Iff.rfl (fun d => ?_) (fun d => ?_)
  · have h := fg_if_t d h
    unfold w_X12_read_212
    obtain ⟨q, q2⟩ := fg_ret h
    subst q
    subst q2
    exact hQ
  · have h := fg_if_e d h
    refine ⟨hok.1, ?_⟩
    obtain ⟨p4, s3, e_s3, h⟩ := fg_b_s h
    refine ft_X12_acted hok e_s3 ?_
    unfold w_X12_read_212
    obtain ⟨q, q2⟩ := fg_ret h
    subst q
    subst q2
    exact hQ
set_option maxRecDepth 100000 in
set_option maxHeartbeats 4000000 in
theorem ft_X12_read_56b {o : Nat} {ra : Nat → Nat} {s0 : h_S} (hok : r_ok o ra s0) {Q : Int32 → h_S → Prop} {r : Int32} {t : r_T} (hQ : Q r (r_emb s0 o ra t)) {K56 : Int32 → Int32 → Int32 → Int32 → Int32 → Int32 → r_T → Option (Int32 × r_T)} {WK56 : Nat → Int32 → Int32 → Int32 → Int32 → Int32 → Int32 → h_S → Prop} (hK56 : ∀ (n0 : Int32) (n1 : Int32) (n2 : Int32) (n3 : Int32) (n4 : Int32) (n5 : Int32) (u : r_T), K56 n0 n1 n2 n3 n4 n5 u = some (r, t) → WK56 o n0 n1 n2 n3 n4 n5 (r_emb s0 o ra u)) {s : r_T} {x1 : Int32} {x3 : Int32} {x4 : Int32} {x5 : Int32} {x6 : Int32} {x7 : Int32} (h : fn_X12_read_56b K56 x1 x3 x4 x5 x6 x7 s = some (r, t)) : w_X12_read_56b Q WK56 o x1 x3 x4 x5 x6 x7 (r_emb s0 o ra s) := by
  unfold fn_X12_read_56b at h
  unfold w_X12_read_56b
  refine ⟨hok.1, ?_⟩
  try simp -zeta only [e_io]
  refine fg_ite Iff.rfl (fun d => ?_) (fun d => ?_)
  · have h := fg_if_t d h
    exact ft_X12_read_196 hok hQ h
  · have h := fg_if_e d h
    refine fg_ite Iff.rfl (fun d => ?_) (fun d => ?_)
    · have h := fg_if_t d h
      exact ft_X12_read_196 hok hQ h
    · have h := fg_if_e d h
      refine ⟨ra 36, fr_r36 hok, ?_⟩
      refine ⟨fr_k36 hok, ?_⟩
      obtain ⟨c, h⟩ := fg_g_s h
      refine ⟨fr_vp (fr_n36 hok) c, ?_⟩
      try simp -zeta only [e_io, fr_i36 hok]
      obtain ⟨p8, s7, e_s7, h⟩ := fg_b_s h
      refine ft_X12_isRead hok e_s7 ?_
      refine fg_ite Iff.rfl (fun d => ?_) (fun d => ?_)
      · have h := fg_if_t d h
        unfold w_X12_read_190
        exact hK56 _ _ _ _ _ _ _ h
      · have h := fg_if_e d h
        refine ⟨hok.1, ?_⟩
        refine ⟨ra 24, fr_r24 hok, ?_⟩
        refine ⟨fr_k24 hok, ?_⟩
        try simp -zeta only [fr_i36 hok]
        obtain ⟨c, h⟩ := fg_g_s h
        refine ⟨fr_vp (fr_n24 hok) c, ?_⟩
        try simp -zeta only [fr_i24 hok, fr_i36 hok]
        obtain ⟨v14, e_v14, h⟩ := fg_let_s h
        intro S_v14
        have z_v14 : v14 = S_v14 := e_v14
        clear_value S_v14
        subst z_v14
        refine fg_ite Iff.rfl (fun d => ?_) (fun d => ?_)
        · have h := fg_if_t d h
          unfold w_X12_read_190
          exact hK56 _ _ _ _ _ _ _ h
        · have h := fg_if_e d h
          try simp -zeta only [e_io]
          obtain ⟨v17, e_v17, h⟩ := fg_let_s h
          intro S_v17
          have z_v17 : v17 = S_v17 := e_v17
          clear_value S_v17
          subst z_v17
          refine fg_ite Iff.rfl (fun d => ?_) (fun d => ?_)
          · have h := fg_if_t d h
            rw [fr_r104 hok]
            exact ft_X12_read_150 hok hQ hK56 h
          · have h := fg_if_e d h
            refine fg_ite Iff.rfl (fun d => ?_) (fun d => ?_)
            · have h := fg_if_t d h
              rw [fr_r104 hok]
              exact ft_X12_read_150 hok hQ hK56 h
            · have h := fg_if_e d h
              rw [fr_r104 hok]
              exact ft_X12_read_152 hok hQ hK56 h
set_option maxRecDepth 100000 in
set_option maxHeartbeats 4000000 in
theorem ft_X12_read_56 {o : Nat} {ra : Nat → Nat} {s0 : h_S} (hok : r_ok o ra s0) {Q : Int32 → h_S → Prop} {r : Int32} {t : r_T} (hQ : Q r (r_emb s0 o ra t)) : ∀ (n : Nat) (x1 : Int32) (x3 : Int32) (x4 : Int32) (x5 : Int32) (x6 : Int32) (x7 : Int32) (s : r_T), fn_X12_read_56 n x1 x3 x4 x5 x6 x7 s = some (r, t) → w_X12_read_56 Q n o x1 x3 x4 x5 x6 x7 (r_emb s0 o ra s) := by
  intro n
  induction n with
  | zero => intro x1 x3 x4 x5 x6 x7 s h; exact fg_none h
  | succ n ih =>
    intro x1 x3 x4 x5 x6 x7 s h
    exact ft_X12_read_56b hok hQ ih h
set_option maxRecDepth 100000 in
set_option maxHeartbeats 4000000 in
theorem ft_X12_read {o : Nat} {ra : Nat → Nat} {s0 : h_S} (hok : r_ok o ra s0) {Q : Int32 → h_S → Prop} {r : Int32} {t : r_T} {s : r_T} {x1 : Int32} {x2 : Int32} (h : fn_X12_read x1 x2 s = some (r, t)) (hQ : Q r (r_emb s0 o ra t)) : w_X12_read o x1 x2 (r_emb s0 o ra s) Q := by
  unfold fn_X12_read at h
  unfold w_X12_read
  refine ⟨hok.1, ?_⟩
  obtain ⟨p3, s2, e_s2, h⟩ := fg_b_s h
  refine ft_X12_noHand hok e_s2 ?_
  refine fg_ite Iff.rfl (fun d => ?_) (fun d => ?_)
  · have h := fg_if_t d h
    refine ⟨hok.1, ?_⟩
    obtain ⟨p7, s6, e_s6, h⟩ := fg_b_s h
    refine ft_X12_noVersion hok e_s6 ?_
    refine fg_ite Iff.rfl (fun d => ?_) (fun d => ?_)
    · have h := fg_if_t d h
      refine ⟨hok.1, ?_⟩
      obtain ⟨u_, s10, e_s10, h⟩ := fg_b_s h
      refine ft_X12_layVersion hok e_s10 ?_
      refine ⟨hok.1, ?_⟩
      try simp -zeta only [e_io]
      obtain ⟨p14, s13, e_s13, h⟩ := fg_b_s h
      refine ft_X12_isOpen hok e_s13 ?_
      refine ⟨hok.1, ?_⟩
      refine ⟨ra 56, fr_r56 hok, ?_⟩
      refine ⟨fr_k56 hok, ?_⟩
      obtain ⟨c, h⟩ := fg_g_s h
      refine ⟨fr_vp (fr_n56 hok) c, ?_⟩
      refine ⟨ra 9, fr_r9 hok, ?_⟩
      refine ⟨fr_k9 hok, ?_⟩
      try simp -zeta only [fr_i56 hok]
      obtain ⟨c, h⟩ := fg_g_s h
      refine ⟨fr_vp (fr_n9 hok) c, ?_⟩
      try simp -zeta only [fr_i9 hok, fr_i56 hok]
      obtain ⟨v22, e_v22, h⟩ := fg_let_s h
      intro S_v22
      have z_v22 : v22 = S_v22 := e_v22
      clear_value S_v22
      subst z_v22
      exact ⟨g_N, ft_X12_read_56 hok hQ g_N _ _ _ _ _ _ _ h⟩
    · have h := fg_if_e d h
      unfold w_X12_read_16
      obtain ⟨q, q2⟩ := fg_ret h
      subst q
      subst q2
      exact hQ
  · have h := fg_if_e d h
    unfold w_X12_read_16
    obtain ⟨q, q2⟩ := fg_ret h
    subst q
    subst q2
    exact hQ
set_option maxRecDepth 100000 in
set_option maxHeartbeats 4000000 in
theorem ft_X12_owes {o : Nat} {ra : Nat → Nat} {s0 : h_S} (hok : r_ok o ra s0) {Q : Int32 → h_S → Prop} {r : Int32} {t : r_T} {s : r_T} {x1 : Int32} {x2 : Int32} (h : fn_X12_owes x1 x2 s = some (r, t)) (hQ : Q r (r_emb s0 o ra t)) : w_X12_owes o x1 x2 (r_emb s0 o ra s) Q := by
  unfold fn_X12_owes at h
  unfold w_X12_owes
  refine ⟨hok.1, ?_⟩
  obtain ⟨p3, s2, e_s2, h⟩ := fg_b_s h
  refine ft_X12_noHand hok e_s2 ?_
  refine fg_ite Iff.rfl (fun d => ?_) (fun d => ?_)
  · have h := fg_if_t d h
    refine ⟨hok.1, ?_⟩
    obtain ⟨p7, s6, e_s6, h⟩ := fg_b_s h
    refine ft_X12_noHand hok e_s6 ?_
    refine fg_ite Iff.rfl (fun d => ?_) (fun d => ?_)
    · have h := fg_if_t d h
      refine ⟨hok.1, ?_⟩
      refine ⟨ra 104, fr_r104 hok, ?_⟩
      refine ⟨fr_k104 hok, ?_⟩
      obtain ⟨c, h⟩ := fg_g_s h
      refine ⟨fr_vp (fr_n104 hok) c, ?_⟩
      unfold w_X12_owes_31
      try simp -zeta only [fr_i104 hok]
      obtain ⟨q, q2⟩ := fg_ret h
      subst q
      subst q2
      exact hQ
    · have h := fg_if_e d h
      unfold w_X12_owes_16
      unfold w_X12_owes_31
      obtain ⟨q, q2⟩ := fg_ret h
      subst q
      subst q2
      exact hQ
  · have h := fg_if_e d h
    unfold w_X12_owes_16
    unfold w_X12_owes_31
    obtain ⟨q, q2⟩ := fg_ret h
    subst q
    subst q2
    exact hQ
set_option maxRecDepth 100000 in
set_option maxHeartbeats 4000000 in
theorem ft_X12_pay {o : Nat} {ra : Nat → Nat} {s0 : h_S} (hok : r_ok o ra s0) {Q : Int32 → h_S → Prop} {r : Int32} {t : r_T} {s : r_T} {x1 : Int32} {x2 : Int32} {x3 : Int32} (h : fn_X12_pay x1 x2 x3 s = some (r, t)) (hQ : Q r (r_emb s0 o ra t)) : w_X12_pay o x1 x2 x3 (r_emb s0 o ra s) Q := by
  unfold fn_X12_pay at h
  unfold w_X12_pay
  refine ⟨hok.1, ?_⟩
  obtain ⟨p3, s2, e_s2, h⟩ := fg_b_s h
  refine ft_X12_noHand hok e_s2 ?_
  refine fg_ite Iff.rfl (fun d => ?_) (fun d => ?_)
  · have h := fg_if_t d h
    refine ⟨hok.1, ?_⟩
    obtain ⟨p7, s6, e_s6, h⟩ := fg_b_s h
    refine ft_X12_noHand hok e_s6 ?_
    refine fg_ite Iff.rfl (fun d => ?_) (fun d => ?_)
    · have h := fg_if_t d h
      refine fg_ite Iff.rfl (fun d => ?_) (fun d => ?_)
      · have h := fg_if_t d h
        refine ⟨hok.1, ?_⟩
        refine ⟨ra 104, fr_r104 hok, ?_⟩
        refine ⟨fr_k104 hok, ?_⟩
        obtain ⟨c, h⟩ := fg_g_s h
        refine ⟨fr_vp (fr_n104 hok) c, ?_⟩
        try simp -zeta only [fr_i104 hok]
        refine fg_ite Iff.rfl (fun d => ?_) (fun d => ?_)
        · have h := fg_if_t d h
          refine ⟨ra 104, fr_r104 hok, ?_⟩
          refine ⟨fr_k104 hok, ?_⟩
          obtain ⟨c, h⟩ := fg_g_s h
          refine ⟨fr_vp (fr_n104 hok) c, ?_⟩
          refine ⟨ra 104, fr_r104 hok, ?_⟩
          refine ⟨fr_k104 hok, ?_⟩
          obtain ⟨c, h⟩ := fg_g_s h
          refine ⟨fr_vp (fr_n104 hok) c, ?_⟩
          try simp -zeta only [fr_i104 hok]
          obtain ⟨s21, e_s21, h⟩ := fg_let_s h
          intro S_s21
          have z_s21 : S_s21 = r_emb s0 o ra s21 := by rw [e_s21]; exact fr_s104 hok _ _
          clear_value S_s21
          subst z_s21
          refine ⟨ra 104, fr_r104 hok, ?_⟩
          refine ⟨fr_k104 hok, ?_⟩
          obtain ⟨c, h⟩ := fg_g_s h
          refine ⟨fr_vp (fr_n104 hok) c, ?_⟩
          try simp -zeta only [fr_i104 hok]
          obtain ⟨p26, s25, e_s25, h⟩ := fg_b_s h
          refine ft_X12_acted hok e_s25 ?_
          obtain ⟨q, q2⟩ := fg_ret h
          subst q
          subst q2
          exact hQ
        · have h := fg_if_e d h
          obtain ⟨q, q2⟩ := fg_ret h
          subst q
          subst q2
          exact hQ
      · have h := fg_if_e d h
        obtain ⟨q, q2⟩ := fg_ret h
        subst q
        subst q2
        exact hQ
    · have h := fg_if_e d h
      unfold w_X12_pay_16
      obtain ⟨q, q2⟩ := fg_ret h
      subst q
      subst q2
      exact hQ
  · have h := fg_if_e d h
    unfold w_X12_pay_16
    obtain ⟨q, q2⟩ := fg_ret h
    subst q
    subst q2
    exact hQ
set_option maxRecDepth 100000 in
set_option maxHeartbeats 4000000 in
theorem ft_X12_noChain {o : Nat} {ra : Nat → Nat} {s0 : h_S} (hok : r_ok o ra s0) {Q : Int32 → h_S → Prop} {r : Int32} {t : r_T} {s : r_T} {x1 : Int32} {x2 : Int32} (h : fn_X12_noChain x1 x2 s = some (r, t)) (hQ : Q r (r_emb s0 o ra t)) : w_X12_noChain o x1 x2 (r_emb s0 o ra s) Q := by
  unfold fn_X12_noChain at h
  unfold w_X12_noChain
  refine ⟨hok.1, ?_⟩
  obtain ⟨p3, s2, e_s2, h⟩ := fg_b_s h
  refine ft_X12_noVersion hok e_s2 ?_
  refine fg_ite Iff.rfl (fun d => ?_) (fun d => ?_)
  · have h := fg_if_t d h
    refine ⟨hok.1, ?_⟩
    obtain ⟨u_, s6, e_s6, h⟩ := fg_b_s h
    refine ft_X12_layVersion hok e_s6 ?_
    refine ⟨hok.1, ?_⟩
    try simp -zeta only [e_io]
    obtain ⟨p10, s9, e_s9, h⟩ := fg_b_s h
    refine ft_X12_in hok e_s9 ?_
    refine fg_ite Iff.rfl (fun d => ?_) (fun d => ?_)
    · have h := fg_if_t d h
      unfold w_X12_noChain_52
      obtain ⟨q, q2⟩ := fg_ret h
      subst q
      subst q2
      exact hQ
    · have h := fg_if_e d h
      refine ⟨hok.1, ?_⟩
      refine ⟨ra 36, fr_r36 hok, ?_⟩
      refine ⟨fr_k36 hok, ?_⟩
      obtain ⟨c, h⟩ := fg_g_s h
      refine ⟨fr_vp (fr_n36 hok) c, ?_⟩
      try simp -zeta only [fr_i36 hok]
      refine fg_ite Iff.rfl (fun d => ?_) (fun d => ?_)
      · have h := fg_if_t d h
        unfold w_X12_noChain_52
        obtain ⟨q, q2⟩ := fg_ret h
        subst q
        subst q2
        exact hQ
      · have h := fg_if_e d h
        unfold w_X12_noChain_52
        obtain ⟨q, q2⟩ := fg_ret h
        subst q
        subst q2
        exact hQ
  · have h := fg_if_e d h
    obtain ⟨q, q2⟩ := fg_ret h
    subst q
    subst q2
    exact hQ
set_option maxRecDepth 100000 in
set_option maxHeartbeats 4000000 in
theorem ft_X12_chainMany {o : Nat} {ra : Nat → Nat} {s0 : h_S} (hok : r_ok o ra s0) {Q : Int32 → h_S → Prop} {r : Int32} {t : r_T} {s : r_T} {x1 : Int32} (h : fn_X12_chainMany x1 s = some (r, t)) (hQ : Q r (r_emb s0 o ra t)) : w_X12_chainMany o x1 (r_emb s0 o ra s) Q := by
  unfold fn_X12_chainMany at h
  unfold w_X12_chainMany
  refine ⟨hok.1, ?_⟩
  refine ⟨ra 38, fr_r38 hok, ?_⟩
  refine ⟨fr_k38 hok, ?_⟩
  obtain ⟨c, h⟩ := fg_g_s h
  refine ⟨fr_vp (fr_n38 hok) c, ?_⟩
  refine ⟨ra 39, fr_r39 hok, ?_⟩
  refine ⟨fr_k39 hok, ?_⟩
  try simp -zeta only [fr_i38 hok]
  obtain ⟨c, h⟩ := fg_g_s h
  refine ⟨fr_vp (fr_n39 hok) c, ?_⟩
  refine ⟨ra 36, fr_r36 hok, ?_⟩
  refine ⟨fr_k36 hok, ?_⟩
  obtain ⟨c, h⟩ := fg_g_s h
  refine ⟨fr_vp (fr_n36 hok) c, ?_⟩
  refine ⟨ra 25, fr_r25 hok, ?_⟩
  refine ⟨fr_k25 hok, ?_⟩
  try simp -zeta only [fr_i36 hok]
  obtain ⟨c, h⟩ := fg_g_s h
  refine ⟨fr_vp (fr_n25 hok) c, ?_⟩
  try simp -zeta only [fr_i25 hok, fr_i36 hok, fr_i38 hok, fr_i39 hok]
  refine fg_ite Iff.rfl (fun d => ?_) (fun d => ?_)
  · have h := fg_if_t d h
    unfold w_X12_chainMany_40
    try simp -zeta only [fr_i38 hok]
    obtain ⟨q, q2⟩ := fg_ret h
    subst q
    subst q2
    exact hQ
  · have h := fg_if_e d h
    unfold w_X12_chainMany_40
    try simp -zeta only [fr_i38 hok]
    obtain ⟨q, q2⟩ := fg_ret h
    subst q
    subst q2
    exact hQ
set_option maxRecDepth 100000 in
set_option maxHeartbeats 4000000 in
theorem ft_X12_steps {o : Nat} {ra : Nat → Nat} {s0 : h_S} (hok : r_ok o ra s0) {Q : Int32 → h_S → Prop} {r : Int32} {t : r_T} {s : r_T} {x1 : Int32} {x2 : Int32} (h : fn_X12_steps x1 x2 s = some (r, t)) (hQ : Q r (r_emb s0 o ra t)) : w_X12_steps o x1 x2 (r_emb s0 o ra s) Q := by
  unfold fn_X12_steps at h
  unfold w_X12_steps
  refine ⟨hok.1, ?_⟩
  obtain ⟨p3, s2, e_s2, h⟩ := fg_b_s h
  refine ft_X12_noChain hok e_s2 ?_
  refine fg_ite Iff.rfl (fun d => ?_) (fun d => ?_)
  · have h := fg_if_t d h
    refine ⟨hok.1, ?_⟩
    obtain ⟨p7, s6, e_s6, h⟩ := fg_b_s h
    refine ft_X12_chainMany hok e_s6 ?_
    unfold w_X12_steps_20
    obtain ⟨q, q2⟩ := fg_ret h
    subst q
    subst q2
    exact hQ
  · have h := fg_if_e d h
    unfold w_X12_steps_20
    obtain ⟨q, q2⟩ := fg_ret h
    subst q
    subst q2
    exact hQ
set_option maxRecDepth 100000 in
set_option maxHeartbeats 4000000 in
theorem ft_X12_chain {o : Nat} {ra : Nat → Nat} {s0 : h_S} (hok : r_ok o ra s0) {Q : Int32 → h_S → Prop} {r : Int32} {t : r_T} {s : r_T} {x1 : Int32} {x2 : Int32} {x3 : Int32} (h : fn_X12_chain x1 x2 x3 s = some (r, t)) (hQ : Q r (r_emb s0 o ra t)) : w_X12_chain o x1 x2 x3 (r_emb s0 o ra s) Q := by
  unfold fn_X12_chain at h
  unfold w_X12_chain
  refine ⟨hok.1, ?_⟩
  obtain ⟨p3, s2, e_s2, h⟩ := fg_b_s h
  refine ft_X12_noChain hok e_s2 ?_
  refine fg_ite Iff.rfl (fun d => ?_) (fun d => ?_)
  · have h := fg_if_t d h
    refine ⟨hok.1, ?_⟩
    obtain ⟨p7, s6, e_s6, h⟩ := fg_b_s h
    refine ft_X12_chainMany hok e_s6 ?_
    obtain ⟨p9, s8, e_s8, h⟩ := fg_b_s h
    refine ft_X12_in hok e_s8 ?_
    refine fg_ite Iff.rfl (fun d => ?_) (fun d => ?_)
    · have h := fg_if_t d h
      obtain ⟨q, q2⟩ := fg_ret h
      subst q
      subst q2
      exact hQ
    · have h := fg_if_e d h
      refine ⟨hok.1, ?_⟩
      refine ⟨ra 38, fr_r38 hok, ?_⟩
      refine ⟨fr_k38 hok, ?_⟩
      obtain ⟨c, h⟩ := fg_g_s h
      refine ⟨fr_vp (fr_n38 hok) c, ?_⟩
      try simp -zeta only [fr_i38 hok]
      refine fg_ite Iff.rfl (fun d => ?_) (fun d => ?_)
      · have h := fg_if_t d h
        refine ⟨ra 36, fr_r36 hok, ?_⟩
        refine ⟨fr_k36 hok, ?_⟩
        obtain ⟨c, h⟩ := fg_g_s h
        refine ⟨fr_vp (fr_n36 hok) c, ?_⟩
        refine ⟨ra 25, fr_r25 hok, ?_⟩
        refine ⟨fr_k25 hok, ?_⟩
        try simp -zeta only [fr_i36 hok]
        obtain ⟨c, h⟩ := fg_g_s h
        refine ⟨fr_vp (fr_n25 hok) c, ?_⟩
        unfold w_X12_chain_69
        try simp -zeta only [fr_i25 hok, fr_i36 hok]
        obtain ⟨q, q2⟩ := fg_ret h
        subst q
        subst q2
        exact hQ
      · have h := fg_if_e d h
        refine ⟨ra 39, fr_r39 hok, ?_⟩
        refine ⟨fr_k39 hok, ?_⟩
        obtain ⟨c, h⟩ := fg_g_s h
        refine ⟨fr_vp (fr_n39 hok) c, ?_⟩
        unfold w_X12_chain_69
        try simp -zeta only [fr_i39 hok]
        obtain ⟨q, q2⟩ := fg_ret h
        subst q
        subst q2
        exact hQ
  · have h := fg_if_e d h
    obtain ⟨q, q2⟩ := fg_ret h
    subst q
    subst q2
    exact hQ
set_option maxRecDepth 100000 in
set_option maxHeartbeats 4000000 in
theorem ft_X12_quotes {o : Nat} {ra : Nat → Nat} {s0 : h_S} (hok : r_ok o ra s0) {Q : Int32 → h_S → Prop} {r : Int32} {t : r_T} {s : r_T} {x1 : Int32} {x2 : Int32} (h : fn_X12_quotes x1 x2 s = some (r, t)) (hQ : Q r (r_emb s0 o ra t)) : w_X12_quotes o x1 x2 (r_emb s0 o ra s) Q := by
  unfold fn_X12_quotes at h
  unfold w_X12_quotes
  refine ⟨hok.1, ?_⟩
  obtain ⟨p3, s2, e_s2, h⟩ := fg_b_s h
  refine ft_X12_noWriting hok e_s2 ?_
  refine fg_ite Iff.rfl (fun d => ?_) (fun d => ?_)
  · have h := fg_if_t d h
    refine ⟨hok.1, ?_⟩
    obtain ⟨p7, s6, e_s6, h⟩ := fg_b_s h
    refine ft_X12_noWriting hok e_s6 ?_
    refine fg_ite Iff.rfl (fun d => ?_) (fun d => ?_)
    · have h := fg_if_t d h
      refine ⟨hok.1, ?_⟩
      obtain ⟨u_, s10, e_s10, h⟩ := fg_b_s h
      refine ft_X12_laySteps hok e_s10 ?_
      refine ⟨hok.1, ?_⟩
      refine ⟨ra 54, fr_r54 hok, ?_⟩
      refine ⟨fr_k54 hok, ?_⟩
      obtain ⟨c, h⟩ := fg_g_s h
      refine ⟨fr_vp (fr_n54 hok) c, ?_⟩
      try simp -zeta only [fr_i54 hok]
      obtain ⟨q, q2⟩ := fg_ret h
      subst q
      subst q2
      exact hQ
    · have h := fg_if_e d h
      unfold w_X12_quotes_16
      obtain ⟨q, q2⟩ := fg_ret h
      subst q
      subst q2
      exact hQ
  · have h := fg_if_e d h
    unfold w_X12_quotes_16
    obtain ⟨q, q2⟩ := fg_ret h
    subst q
    subst q2
    exact hQ
set_option maxRecDepth 100000 in
set_option maxHeartbeats 4000000 in
theorem ft_X12_keepHit_72b {o : Nat} {ra : Nat → Nat} {s0 : h_S} (hok : r_ok o ra s0) {Q : h_S → Prop} {r : Unit} {t : r_T} (hQ : Q (r_emb s0 o ra t)) {K72 : Int32 → Int32 → Int32 → Int32 → Int32 → r_T → Option (Unit × r_T)} {WK72 : Nat → Int32 → Int32 → Int32 → Int32 → Int32 → h_S → Prop} (hK72 : ∀ (n0 : Int32) (n1 : Int32) (n2 : Int32) (n3 : Int32) (n4 : Int32) (u : r_T), K72 n0 n1 n2 n3 n4 u = some (r, t) → WK72 o n0 n1 n2 n3 n4 (r_emb s0 o ra u)) {s : r_T} {x1 : Int32} {x2 : Int32} {x3 : Int32} {x4 : Int32} {x5 : Int32} (h : fn_X12_keepHit_72b K72 x1 x2 x3 x4 x5 s = some (r, t)) : w_X12_keepHit_72b Q WK72 o x1 x2 x3 x4 x5 (r_emb s0 o ra s) := by
  unfold fn_X12_keepHit_72b at h
  unfold w_X12_keepHit_72b
  refine fg_ite Iff.rfl (fun d => ?_) (fun d => ?_)
  · have h := fg_if_t d h
    refine ⟨hok.1, ?_⟩
    refine ⟨ra 106, fr_r106 hok, ?_⟩
    refine ⟨fr_k106 hok, ?_⟩
    obtain ⟨c, h⟩ := fg_g_s h
    refine ⟨fr_vp (fr_n106 hok) c, ?_⟩
    obtain ⟨s6, e_s6, h⟩ := fg_let_s h
    intro S_s6
    have z_s6 : S_s6 = r_emb s0 o ra s6 := by rw [e_s6]; exact fr_s106 hok _ _
    clear_value S_s6
    subst z_s6
    refine ⟨ra 107, fr_r107 hok, ?_⟩
    refine ⟨fr_k107 hok, ?_⟩
    obtain ⟨c, h⟩ := fg_g_s h
    refine ⟨fr_vp (fr_n107 hok) c, ?_⟩
    obtain ⟨s10, e_s10, h⟩ := fg_let_s h
    intro S_s10
    have z_s10 : S_s10 = r_emb s0 o ra s10 := by rw [e_s10]; exact fr_s107 hok _ _
    clear_value S_s10
    subst z_s10
    refine ⟨ra 108, fr_r108 hok, ?_⟩
    refine ⟨fr_k108 hok, ?_⟩
    obtain ⟨c, h⟩ := fg_g_s h
    refine ⟨fr_vp (fr_n108 hok) c, ?_⟩
    obtain ⟨s14, e_s14, h⟩ := fg_let_s h
    intro S_s14
    have z_s14 : S_s14 = r_emb s0 o ra s14 := by rw [e_s14]; exact fr_s108 hok _ _
    clear_value S_s14
    subst z_s14
    unfold w_X12_keepHit_157
    obtain ⟨_, q⟩ := fg_ret h
    subst q
    exact hQ
  · have h := fg_if_e d h
    refine ⟨hok.1, ?_⟩
    refine ⟨ra 106, fr_r106 hok, ?_⟩
    refine ⟨fr_k106 hok, ?_⟩
    obtain ⟨c, h⟩ := fg_g_s h
    refine ⟨fr_vp (fr_n106 hok) c, ?_⟩
    refine ⟨ra 106, fr_r106 hok, ?_⟩
    refine ⟨fr_k106 hok, ?_⟩
    obtain ⟨c, h⟩ := fg_g_s h
    refine ⟨fr_vp (fr_n106 hok) c, ?_⟩
    try simp -zeta only [fr_i106 hok]
    obtain ⟨s22, e_s22, h⟩ := fg_let_s h
    intro S_s22
    have z_s22 : S_s22 = r_emb s0 o ra s22 := by rw [e_s22]; exact fr_s106 hok _ _
    clear_value S_s22
    subst z_s22
    refine ⟨ra 107, fr_r107 hok, ?_⟩
    refine ⟨fr_k107 hok, ?_⟩
    obtain ⟨c, h⟩ := fg_g_s h
    refine ⟨fr_vp (fr_n107 hok) c, ?_⟩
    refine ⟨ra 107, fr_r107 hok, ?_⟩
    refine ⟨fr_k107 hok, ?_⟩
    obtain ⟨c, h⟩ := fg_g_s h
    refine ⟨fr_vp (fr_n107 hok) c, ?_⟩
    try simp -zeta only [fr_i107 hok]
    obtain ⟨s29, e_s29, h⟩ := fg_let_s h
    intro S_s29
    have z_s29 : S_s29 = r_emb s0 o ra s29 := by rw [e_s29]; exact fr_s107 hok _ _
    clear_value S_s29
    subst z_s29
    refine ⟨ra 108, fr_r108 hok, ?_⟩
    refine ⟨fr_k108 hok, ?_⟩
    obtain ⟨c, h⟩ := fg_g_s h
    refine ⟨fr_vp (fr_n108 hok) c, ?_⟩
    refine ⟨ra 108, fr_r108 hok, ?_⟩
    refine ⟨fr_k108 hok, ?_⟩
    obtain ⟨c, h⟩ := fg_g_s h
    refine ⟨fr_vp (fr_n108 hok) c, ?_⟩
    try simp -zeta only [fr_i108 hok]
    obtain ⟨s36, e_s36, h⟩ := fg_let_s h
    intro S_s36
    have z_s36 : S_s36 = r_emb s0 o ra s36 := by rw [e_s36]; exact fr_s108 hok _ _
    clear_value S_s36
    subst z_s36
    exact hK72 _ _ _ _ _ _ h
set_option maxRecDepth 100000 in
set_option maxHeartbeats 4000000 in
theorem ft_X12_keepHit_72 {o : Nat} {ra : Nat → Nat} {s0 : h_S} (hok : r_ok o ra s0) {Q : h_S → Prop} {r : Unit} {t : r_T} (hQ : Q (r_emb s0 o ra t)) : ∀ (n : Nat) (x1 : Int32) (x2 : Int32) (x3 : Int32) (x4 : Int32) (x5 : Int32) (s : r_T), fn_X12_keepHit_72 n x1 x2 x3 x4 x5 s = some (r, t) → w_X12_keepHit_72 Q n o x1 x2 x3 x4 x5 (r_emb s0 o ra s) := by
  intro n
  induction n with
  | zero => intro x1 x2 x3 x4 x5 s h; exact fg_none h
  | succ n ih =>
    intro x1 x2 x3 x4 x5 s h
    exact ft_X12_keepHit_72b hok hQ ih h
set_option maxRecDepth 100000 in
set_option maxHeartbeats 4000000 in
theorem ft_X12_keepHit_61 {o : Nat} {ra : Nat → Nat} {s0 : h_S} (hok : r_ok o ra s0) {Q : h_S → Prop} {r : Unit} {t : r_T} (hQ : Q (r_emb s0 o ra t)) {s : r_T} {x1 : Int32} {x2 : Int32} {x3 : Int32} {x4 : Int32} {y0 : Int32} (h : fn_X12_keepHit_61 x1 x2 x3 x4 y0 s = some (r, t)) : w_X12_keepHit_61 Q o x1 x2 x3 x4 y0 o (r_emb s0 o ra s) := by
  unfold fn_X12_keepHit_61 at h
  unfold w_X12_keepHit_61
  refine ⟨hok.1, ?_⟩
  obtain ⟨s2, e_s2, h⟩ := fg_let_s h
  intro S_s2
  have z_s2 : S_s2 = r_emb s0 o ra s2 := by rw [e_s2]; exact e_so _ _
  clear_value S_s2
  subst z_s2
  refine ⟨hok.1, ?_⟩
  try simp -zeta only [e_io]
  obtain ⟨v4, e_v4, h⟩ := fg_let_s h
  intro S_v4
  have z_v4 : v4 = S_v4 := e_v4
  clear_value S_v4
  subst z_v4
  exact ⟨g_N, ft_X12_keepHit_72 hok hQ g_N _ _ _ _ _ _ h⟩
set_option maxRecDepth 100000 in
set_option maxHeartbeats 4000000 in
theorem ft_X12_keepHit_30 {o : Nat} {ra : Nat → Nat} {s0 : h_S} (hok : r_ok o ra s0) {Q : h_S → Prop} {r : Unit} {t : r_T} (hQ : Q (r_emb s0 o ra t)) {s : r_T} {x1 : Int32} {x2 : Int32} {x3 : Int32} {x4 : Int32} (h : fn_X12_keepHit_30 x1 x2 x3 x4 s = some (r, t)) : w_X12_keepHit_30 Q o x1 x2 x3 x4 (r_emb s0 o ra s) := by
  unfold fn_X12_keepHit_30 at h
  unfold w_X12_keepHit_30
  refine fg_ite Iff.rfl (fun d => ?_) (fun d => ?_)
  · have h := fg_if_t d h
    unfold w_X12_keepHit_157
    obtain ⟨_, q⟩ := fg_ret h
    subst q
    exact hQ
  · have h := fg_if_e d h
    refine ⟨hok.1, ?_⟩
    try simp -zeta only [e_io]
    refine fg_ite Iff.rfl (fun d => ?_) (fun d => ?_)
    · have h := fg_if_t d h
      exact ft_X12_keepHit_61 hok hQ h
    · have h := fg_if_e d h
      try simp -zeta only [e_io]
      exact ft_X12_keepHit_61 hok hQ h
set_option maxRecDepth 100000 in
set_option maxHeartbeats 4000000 in
theorem ft_X12_keepHit_6b {o : Nat} {ra : Nat → Nat} {s0 : h_S} (hok : r_ok o ra s0) {Q : h_S → Prop} {r : Unit} {t : r_T} (hQ : Q (r_emb s0 o ra t)) {K6 : Int32 → Int32 → Int32 → Int32 → r_T → Option (Unit × r_T)} {WK6 : Nat → Int32 → Int32 → Int32 → Int32 → h_S → Prop} (hK6 : ∀ (n0 : Int32) (n1 : Int32) (n2 : Int32) (n3 : Int32) (u : r_T), K6 n0 n1 n2 n3 u = some (r, t) → WK6 o n0 n1 n2 n3 (r_emb s0 o ra u)) {s : r_T} {x1 : Int32} {x2 : Int32} {x3 : Int32} {x4 : Int32} (h : fn_X12_keepHit_6b K6 x1 x2 x3 x4 s = some (r, t)) : w_X12_keepHit_6b Q WK6 o x1 x2 x3 x4 (r_emb s0 o ra s) := by
  unfold fn_X12_keepHit_6b at h
  unfold w_X12_keepHit_6b
  refine fg_ite Iff.rfl (fun d => ?_) (fun d => ?_)
  · have h := fg_if_t d h
    exact ft_X12_keepHit_30 hok hQ h
  · have h := fg_if_e d h
    refine ⟨hok.1, ?_⟩
    refine ⟨ra 108, fr_r108 hok, ?_⟩
    refine ⟨fr_k108 hok, ?_⟩
    obtain ⟨c, h⟩ := fg_g_s h
    refine ⟨fr_vp (fr_n108 hok) c, ?_⟩
    try simp -zeta only [fr_i108 hok]
    refine fg_ite Iff.rfl (fun d => ?_) (fun d => ?_)
    · have h := fg_if_t d h
      exact ft_X12_keepHit_30 hok hQ h
    · have h := fg_if_e d h
      exact hK6 _ _ _ _ _ h
set_option maxRecDepth 100000 in
set_option maxHeartbeats 4000000 in
theorem ft_X12_keepHit_6 {o : Nat} {ra : Nat → Nat} {s0 : h_S} (hok : r_ok o ra s0) {Q : h_S → Prop} {r : Unit} {t : r_T} (hQ : Q (r_emb s0 o ra t)) : ∀ (n : Nat) (x1 : Int32) (x2 : Int32) (x3 : Int32) (x4 : Int32) (s : r_T), fn_X12_keepHit_6 n x1 x2 x3 x4 s = some (r, t) → w_X12_keepHit_6 Q n o x1 x2 x3 x4 (r_emb s0 o ra s) := by
  intro n
  induction n with
  | zero => intro x1 x2 x3 x4 s h; exact fg_none h
  | succ n ih =>
    intro x1 x2 x3 x4 s h
    exact ft_X12_keepHit_6b hok hQ ih h
set_option maxRecDepth 100000 in
set_option maxHeartbeats 4000000 in
theorem ft_X12_keepHit {o : Nat} {ra : Nat → Nat} {s0 : h_S} (hok : r_ok o ra s0) {Q : h_S → Prop} {r : Unit} {t : r_T} {s : r_T} {x1 : Int32} {x2 : Int32} {x3 : Int32} (h : fn_X12_keepHit x1 x2 x3 s = some (r, t)) (hQ : Q (r_emb s0 o ra t)) : w_X12_keepHit o x1 x2 x3 (r_emb s0 o ra s) Q := by
  unfold fn_X12_keepHit at h
  unfold w_X12_keepHit
  refine ⟨hok.1, ?_⟩
  try simp -zeta only [e_io]
  exact ⟨g_N, ft_X12_keepHit_6 hok hQ g_N _ _ _ _ _ h⟩
set_option maxRecDepth 100000 in
set_option maxHeartbeats 4000000 in
theorem ft_X12_isHit_21b {o : Nat} {ra : Nat → Nat} {s0 : h_S} (hok : r_ok o ra s0) {Q : Int32 → h_S → Prop} {r : Int32} {t : r_T} (hQ : Q r (r_emb s0 o ra t)) {K21 : Int32 → Int32 → Int32 → Int32 → Int32 → Int32 → r_T → Option (Int32 × r_T)} {WK21 : Nat → Int32 → Int32 → Int32 → Int32 → Int32 → Int32 → h_S → Prop} (hK21 : ∀ (n0 : Int32) (n1 : Int32) (n2 : Int32) (n3 : Int32) (n4 : Int32) (n5 : Int32) (u : r_T), K21 n0 n1 n2 n3 n4 n5 u = some (r, t) → WK21 o n0 n1 n2 n3 n4 n5 (r_emb s0 o ra u)) {s : r_T} {x1 : Int32} {x2 : Int32} {x3 : Int32} {x4 : Int32} {x5 : Int32} {x6 : Int32} (h : fn_X12_isHit_21b K21 x1 x2 x3 x4 x5 x6 s = some (r, t)) : w_X12_isHit_21b Q WK21 o x1 x2 x3 x4 x5 x6 (r_emb s0 o ra s) := by
  unfold fn_X12_isHit_21b at h
  unfold w_X12_isHit_21b
  refine fg_ite Iff.rfl (fun d => ?_) (fun d => ?_)
  · have h := fg_if_t d h
    unfold w_X12_isHit_97
    obtain ⟨c, h⟩ := fg_g_s h
    refine ⟨c, ?_⟩
    obtain ⟨q, q2⟩ := fg_ret h
    subst q
    subst q2
    exact hQ
  · have h := fg_if_e d h
    refine fg_ite Iff.rfl (fun d => ?_) (fun d => ?_)
    · have h := fg_if_t d h
      unfold w_X12_isHit_97
      obtain ⟨c, h⟩ := fg_g_s h
      refine ⟨c, ?_⟩
      obtain ⟨q, q2⟩ := fg_ret h
      subst q
      subst q2
      exact hQ
    · have h := fg_if_e d h
      refine ⟨hok.1, ?_⟩
      refine ⟨ra 36, fr_r36 hok, ?_⟩
      refine ⟨fr_k36 hok, ?_⟩
      obtain ⟨c, h⟩ := fg_g_s h
      refine ⟨fr_vp (fr_n36 hok) c, ?_⟩
      try simp -zeta only [fr_i36 hok]
      refine fg_ite Iff.rfl (fun d => ?_) (fun d => ?_)
      · have h := fg_if_t d h
        unfold w_X12_isHit_88
        unfold w_X12_isHit_89
        exact hK21 _ _ _ _ _ _ _ h
      · have h := fg_if_e d h
        refine ⟨ra 23, fr_r23 hok, ?_⟩
        refine ⟨fr_k23 hok, ?_⟩
        try simp -zeta only [fr_i36 hok]
        obtain ⟨c, h⟩ := fg_g_s h
        refine ⟨fr_vp (fr_n23 hok) c, ?_⟩
        refine ⟨ra 112, fr_r112 hok, ?_⟩
        refine ⟨fr_k112 hok, ?_⟩
        obtain ⟨c, h⟩ := fg_g_s h
        refine ⟨fr_vp (fr_n112 hok) c, ?_⟩
        try simp -zeta only [fr_i23 hok, fr_i36 hok, fr_i112 hok]
        refine fg_ite Iff.rfl (fun d => ?_) (fun d => ?_)
        · have h := fg_if_t d h
          try simp -zeta only [e_io, fr_i36 hok]
          obtain ⟨p16, s15, e_s15, h⟩ := fg_b_s h
          refine ft_X12_isRead hok e_s15 ?_
          refine fg_ite Iff.rfl (fun d => ?_) (fun d => ?_)
          · have h := fg_if_t d h
            unfold w_X12_isHit_88
            unfold w_X12_isHit_89
            exact hK21 _ _ _ _ _ _ _ h
          · have h := fg_if_e d h
            unfold w_X12_isHit_89
            exact hK21 _ _ _ _ _ _ _ h
        · have h := fg_if_e d h
          unfold w_X12_isHit_88
          unfold w_X12_isHit_89
          exact hK21 _ _ _ _ _ _ _ h
set_option maxRecDepth 100000 in
set_option maxHeartbeats 4000000 in
theorem ft_X12_isHit_21 {o : Nat} {ra : Nat → Nat} {s0 : h_S} (hok : r_ok o ra s0) {Q : Int32 → h_S → Prop} {r : Int32} {t : r_T} (hQ : Q r (r_emb s0 o ra t)) : ∀ (n : Nat) (x1 : Int32) (x2 : Int32) (x3 : Int32) (x4 : Int32) (x5 : Int32) (x6 : Int32) (s : r_T), fn_X12_isHit_21 n x1 x2 x3 x4 x5 x6 s = some (r, t) → w_X12_isHit_21 Q n o x1 x2 x3 x4 x5 x6 (r_emb s0 o ra s) := by
  intro n
  induction n with
  | zero => intro x1 x2 x3 x4 x5 x6 s h; exact fg_none h
  | succ n ih =>
    intro x1 x2 x3 x4 x5 x6 s h
    exact ft_X12_isHit_21b hok hQ ih h
set_option maxRecDepth 100000 in
set_option maxHeartbeats 4000000 in
theorem ft_X12_isHit_16 {o : Nat} {ra : Nat → Nat} {s0 : h_S} (hok : r_ok o ra s0) {Q : Int32 → h_S → Prop} {r : Int32} {t : r_T} (hQ : Q r (r_emb s0 o ra t)) {s : r_T} {x1 : Int32} {x2 : Int32} {x3 : Int32} {x4 : Int32} {y0 : Int32} (h : fn_X12_isHit_16 x1 x2 x3 x4 y0 s = some (r, t)) : w_X12_isHit_16 Q o x1 x2 x3 x4 y0 (r_emb s0 o ra s) := by
  unfold fn_X12_isHit_16 at h
  unfold w_X12_isHit_16
  exact ⟨g_N, ft_X12_isHit_21 hok hQ g_N _ _ _ _ _ _ _ h⟩
set_option maxRecDepth 100000 in
set_option maxHeartbeats 4000000 in
theorem ft_X12_isHit {o : Nat} {ra : Nat → Nat} {s0 : h_S} (hok : r_ok o ra s0) {Q : Int32 → h_S → Prop} {r : Int32} {t : r_T} {s : r_T} {x1 : Int32} {x2 : Int32} {x3 : Int32} {x4 : Int32} (h : fn_X12_isHit x1 x2 x3 x4 s = some (r, t)) (hQ : Q r (r_emb s0 o ra t)) : w_X12_isHit o x1 x2 x3 x4 (r_emb s0 o ra s) Q := by
  unfold fn_X12_isHit at h
  unfold w_X12_isHit
  refine ⟨hok.1, ?_⟩
  try simp -zeta only [e_io]
  refine fg_ite Iff.rfl (fun d => ?_) (fun d => ?_)
  · have h := fg_if_t d h
    exact ft_X12_isHit_16 hok hQ h
  · have h := fg_if_e d h
    exact ft_X12_isHit_16 hok hQ h
set_option maxRecDepth 100000 in
set_option maxHeartbeats 4000000 in
theorem ft_X12_seek_15 {o : Nat} {ra : Nat → Nat} {s0 : h_S} (hok : r_ok o ra s0) {Q : Int32 → h_S → Prop} {r : Int32} {t : r_T} (hQ : Q r (r_emb s0 o ra t)) {s : r_T} (h : fn_X12_seek_15 s = some (r, t)) : w_X12_seek_15 Q o (r_emb s0 o ra s) := by
  unfold fn_X12_seek_15 at h
  unfold w_X12_seek_15
  refine ⟨hok.1, ?_⟩
  obtain ⟨p3, s2, e_s2, h⟩ := fg_b_s h
  refine ft_X12_refused hok e_s2 ?_
  obtain ⟨q, q2⟩ := fg_ret h
  subst q
  subst q2
  exact hQ
set_option maxRecDepth 100000 in
set_option maxHeartbeats 4000000 in
theorem ft_X12_seek_96b {o : Nat} {ra : Nat → Nat} {s0 : h_S} (hok : r_ok o ra s0) {Q : Int32 → h_S → Prop} {r : Int32} {t : r_T} (hQ : Q r (r_emb s0 o ra t)) {K64 : Int32 → Int32 → Int32 → Int32 → Int32 → Int32 → r_T → Option (Int32 × r_T)} {WK64 : Nat → Int32 → Int32 → Int32 → Int32 → Int32 → Int32 → h_S → Prop} (hK64 : ∀ (n0 : Int32) (n1 : Int32) (n2 : Int32) (n3 : Int32) (n4 : Int32) (n5 : Int32) (u : r_T), K64 n0 n1 n2 n3 n4 n5 u = some (r, t) → WK64 o n0 n1 n2 n3 n4 n5 (r_emb s0 o ra u)) {K96 : Int32 → Int32 → Int32 → Int32 → Int32 → Int32 → Int32 → r_T → Option (Int32 × r_T)} {WK96 : Nat → Int32 → Int32 → Int32 → Int32 → Int32 → Int32 → Int32 → h_S → Prop} (hK96 : ∀ (n0 : Int32) (n1 : Int32) (n2 : Int32) (n3 : Int32) (n4 : Int32) (n5 : Int32) (n6 : Int32) (u : r_T), K96 n0 n1 n2 n3 n4 n5 n6 u = some (r, t) → WK96 o n0 n1 n2 n3 n4 n5 n6 (r_emb s0 o ra u)) {s : r_T} {x1 : Int32} {x2 : Int32} {x4 : Int32} {x5 : Int32} {x7 : Int32} {x8 : Int32} {x9 : Int32} (h : fn_X12_seek_96b K64 K96 x1 x2 x4 x5 x7 x8 x9 s = some (r, t)) : w_X12_seek_96b Q WK64 WK96 o x1 x2 x4 x5 x7 x8 x9 (r_emb s0 o ra s) := by
  unfold fn_X12_seek_96b at h
  unfold w_X12_seek_96b
  refine ⟨hok.1, ?_⟩
  try simp -zeta only [e_io]
  refine fg_ite Iff.rfl (fun d => ?_) (fun d => ?_)
  · have h := fg_if_t d h
    unfold w_X12_seek_152
    exact hK64 _ _ _ _ _ _ _ h
  · have h := fg_if_e d h
    obtain ⟨p4, s3, e_s3, h⟩ := fg_b_s h
    refine ft_X12_isHit hok e_s3 ?_
    refine fg_ite Iff.rfl (fun d => ?_) (fun d => ?_)
    · have h := fg_if_t d h
      unfold w_X12_seek_146
      exact hK96 _ _ _ _ _ _ _ _ h
    · have h := fg_if_e d h
      refine ⟨hok.1, ?_⟩
      refine ⟨ra 36, fr_r36 hok, ?_⟩
      refine ⟨fr_k36 hok, ?_⟩
      obtain ⟨c, h⟩ := fg_g_s h
      refine ⟨fr_vp (fr_n36 hok) c, ?_⟩
      try simp -zeta only [fr_i36 hok]
      obtain ⟨p11, s10, e_s10, h⟩ := fg_b_s h
      refine ft_X12_linksOf hok e_s10 ?_
      refine ⟨hok.1, ?_⟩
      obtain ⟨u_, s13, e_s13, h⟩ := fg_b_s h
      refine ft_X12_keepHit hok e_s13 ?_
      unfold w_X12_seek_146
      exact hK96 _ _ _ _ _ _ _ _ h
set_option maxRecDepth 100000 in
set_option maxHeartbeats 4000000 in
theorem ft_X12_seek_96 {o : Nat} {ra : Nat → Nat} {s0 : h_S} (hok : r_ok o ra s0) {Q : Int32 → h_S → Prop} {r : Int32} {t : r_T} (hQ : Q r (r_emb s0 o ra t)) {K64 : Int32 → Int32 → Int32 → Int32 → Int32 → Int32 → r_T → Option (Int32 × r_T)} {WK64 : Nat → Int32 → Int32 → Int32 → Int32 → Int32 → Int32 → h_S → Prop} (hK64 : ∀ (n0 : Int32) (n1 : Int32) (n2 : Int32) (n3 : Int32) (n4 : Int32) (n5 : Int32) (u : r_T), K64 n0 n1 n2 n3 n4 n5 u = some (r, t) → WK64 o n0 n1 n2 n3 n4 n5 (r_emb s0 o ra u)) : ∀ (n : Nat) (x1 : Int32) (x2 : Int32) (x4 : Int32) (x5 : Int32) (x7 : Int32) (x8 : Int32) (x9 : Int32) (s : r_T), fn_X12_seek_96 K64 n x1 x2 x4 x5 x7 x8 x9 s = some (r, t) → w_X12_seek_96 Q WK64 n o x1 x2 x4 x5 x7 x8 x9 (r_emb s0 o ra s) := by
  intro n
  induction n with
  | zero => intro x1 x2 x4 x5 x7 x8 x9 s h; exact fg_none h
  | succ n ih =>
    intro x1 x2 x4 x5 x7 x8 x9 s h
    exact ft_X12_seek_96b hok hQ hK64 ih h
set_option maxRecDepth 100000 in
set_option maxHeartbeats 4000000 in
theorem ft_X12_seek_64b {o : Nat} {ra : Nat → Nat} {s0 : h_S} (hok : r_ok o ra s0) {Q : Int32 → h_S → Prop} {r : Int32} {t : r_T} (hQ : Q r (r_emb s0 o ra t)) {K64 : Int32 → Int32 → Int32 → Int32 → Int32 → Int32 → r_T → Option (Int32 × r_T)} {WK64 : Nat → Int32 → Int32 → Int32 → Int32 → Int32 → Int32 → h_S → Prop} (hK64 : ∀ (n0 : Int32) (n1 : Int32) (n2 : Int32) (n3 : Int32) (n4 : Int32) (n5 : Int32) (u : r_T), K64 n0 n1 n2 n3 n4 n5 u = some (r, t) → WK64 o n0 n1 n2 n3 n4 n5 (r_emb s0 o ra u)) {s : r_T} {x1 : Int32} {x2 : Int32} {x4 : Int32} {x5 : Int32} {x7 : Int32} {x8 : Int32} (h : fn_X12_seek_64b K64 x1 x2 x4 x5 x7 x8 s = some (r, t)) : w_X12_seek_64b Q WK64 o x1 x2 x4 x5 x7 x8 (r_emb s0 o ra s) := by
  unfold fn_X12_seek_64b at h
  unfold w_X12_seek_64b
  refine ⟨hok.1, ?_⟩
  try simp -zeta only [e_io]
  refine fg_ite Iff.rfl (fun d => ?_) (fun d => ?_)
  · have h := fg_if_t d h
    obtain ⟨p4, s3, e_s3, h⟩ := fg_b_s h
    refine ft_X12_refused hok e_s3 ?_
    obtain ⟨q, q2⟩ := fg_ret h
    subst q
    subst q2
    exact hQ
  · have h := fg_if_e d h
    try simp -zeta only [e_io]
    obtain ⟨p6, s5, e_s5, h⟩ := fg_b_s h
    refine ft_X12_isOpen hok e_s5 ?_
    refine fg_ite Iff.rfl (fun d => ?_) (fun d => ?_)
    · have h := fg_if_t d h
      unfold w_X12_seek_152
      exact hK64 _ _ _ _ _ _ _ h
    · have h := fg_if_e d h
      refine ⟨hok.1, ?_⟩
      obtain ⟨u_, s9, e_s9, h⟩ := fg_b_s h
      refine ft_X12_layVersion hok e_s9 ?_
      exact ⟨g_N, ft_X12_seek_96 hok hQ hK64 g_N _ _ _ _ _ _ _ _ h⟩
set_option maxRecDepth 100000 in
set_option maxHeartbeats 4000000 in
theorem ft_X12_seek_64 {o : Nat} {ra : Nat → Nat} {s0 : h_S} (hok : r_ok o ra s0) {Q : Int32 → h_S → Prop} {r : Int32} {t : r_T} (hQ : Q r (r_emb s0 o ra t)) : ∀ (n : Nat) (x1 : Int32) (x2 : Int32) (x4 : Int32) (x5 : Int32) (x7 : Int32) (x8 : Int32) (s : r_T), fn_X12_seek_64 n x1 x2 x4 x5 x7 x8 s = some (r, t) → w_X12_seek_64 Q n o x1 x2 x4 x5 x7 x8 (r_emb s0 o ra s) := by
  intro n
  induction n with
  | zero => intro x1 x2 x4 x5 x7 x8 s h; exact fg_none h
  | succ n ih =>
    intro x1 x2 x4 x5 x7 x8 s h
    exact ft_X12_seek_64b hok hQ ih h
set_option maxRecDepth 100000 in
set_option maxHeartbeats 4000000 in
theorem ft_X12_seek {o : Nat} {ra : Nat → Nat} {s0 : h_S} (hok : r_ok o ra s0) {Q : Int32 → h_S → Prop} {r : Int32} {t : r_T} {s : r_T} {x1 : Int32} {x2 : Int32} {x3 : Int32} {x4 : Int32} {x5 : Int32} (h : fn_X12_seek x1 x2 x3 x4 x5 s = some (r, t)) (hQ : Q r (r_emb s0 o ra t)) : w_X12_seek o x1 x2 x3 x4 x5 (r_emb s0 o ra s) Q := by
  unfold fn_X12_seek at h
  unfold w_X12_seek
  refine ⟨hok.1, ?_⟩
  obtain ⟨p3, s2, e_s2, h⟩ := fg_b_s h
  refine ft_X12_noHand hok e_s2 ?_
  refine fg_ite Iff.rfl (fun d => ?_) (fun d => ?_)
  · have h := fg_if_t d h
    obtain ⟨p6, s5, e_s5, h⟩ := fg_b_s h
    refine ft_X12_noSheet hok e_s5 ?_
    refine fg_ite Iff.rfl (fun d => ?_) (fun d => ?_)
    · have h := fg_if_t d h
      refine ⟨hok.1, ?_⟩
      obtain ⟨p10, s9, e_s9, h⟩ := fg_b_s h
      refine ft_X12_barred hok e_s9 ?_
      refine fg_ite Iff.rfl (fun d => ?_) (fun d => ?_)
      · have h := fg_if_t d h
        refine fg_ite Iff.rfl (fun d => ?_) (fun d => ?_)
        · have h := fg_if_t d h
          refine ⟨hok.1, ?_⟩
          obtain ⟨p17, s16, e_s16, h⟩ := fg_b_s h
          refine ft_X12_refused hok e_s16 ?_
          obtain ⟨q, q2⟩ := fg_ret h
          subst q
          subst q2
          exact hQ
        · have h := fg_if_e d h
          refine ⟨hok.1, ?_⟩
          obtain ⟨s14, e_s14, h⟩ := fg_let_s h
          intro S_s14
          have z_s14 : S_s14 = r_emb s0 o ra s14 := by rw [e_s14]; exact e_so _ _
          clear_value S_s14
          subst z_s14
          exact ⟨g_N, ft_X12_seek_64 hok hQ g_N _ _ _ _ _ _ _ h⟩
      · have h := fg_if_e d h
        obtain ⟨q, q2⟩ := fg_ret h
        subst q
        subst q2
        exact hQ
    · have h := fg_if_e d h
      exact ft_X12_seek_15 hok hQ h
  · have h := fg_if_e d h
    exact ft_X12_seek_15 hok hQ h
set_option maxRecDepth 100000 in
set_option maxHeartbeats 4000000 in
theorem ft_X12_hit {o : Nat} {ra : Nat → Nat} {s0 : h_S} (hok : r_ok o ra s0) {Q : Int32 → h_S → Prop} {r : Int32} {t : r_T} {s : r_T} {x1 : Int32} {x2 : Int32} (h : fn_X12_hit x1 x2 s = some (r, t)) (hQ : Q r (r_emb s0 o ra t)) : w_X12_hit o x1 x2 (r_emb s0 o ra s) Q := by
  unfold fn_X12_hit at h
  unfold w_X12_hit
  refine ⟨hok.1, ?_⟩
  try simp -zeta only [e_io]
  obtain ⟨p3, s2, e_s2, h⟩ := fg_b_s h
  refine ft_X12_in hok e_s2 ?_
  refine fg_ite Iff.rfl (fun d => ?_) (fun d => ?_)
  · have h := fg_if_t d h
    obtain ⟨q, q2⟩ := fg_ret h
    subst q
    subst q2
    exact hQ
  · have h := fg_if_e d h
    refine fg_ite Iff.rfl (fun d => ?_) (fun d => ?_)
    · have h := fg_if_t d h
      refine ⟨hok.1, ?_⟩
      refine ⟨ra 106, fr_r106 hok, ?_⟩
      refine ⟨fr_k106 hok, ?_⟩
      obtain ⟨c, h⟩ := fg_g_s h
      refine ⟨fr_vp (fr_n106 hok) c, ?_⟩
      try simp -zeta only [fr_i106 hok]
      obtain ⟨q, q2⟩ := fg_ret h
      subst q
      subst q2
      exact hQ
    · have h := fg_if_e d h
      refine fg_ite Iff.rfl (fun d => ?_) (fun d => ?_)
      · have h := fg_if_t d h
        refine ⟨hok.1, ?_⟩
        refine ⟨ra 107, fr_r107 hok, ?_⟩
        refine ⟨fr_k107 hok, ?_⟩
        obtain ⟨c, h⟩ := fg_g_s h
        refine ⟨fr_vp (fr_n107 hok) c, ?_⟩
        try simp -zeta only [fr_i107 hok]
        obtain ⟨q, q2⟩ := fg_ret h
        subst q
        subst q2
        exact hQ
      · have h := fg_if_e d h
        refine fg_ite Iff.rfl (fun d => ?_) (fun d => ?_)
        · have h := fg_if_t d h
          refine ⟨hok.1, ?_⟩
          refine ⟨ra 108, fr_r108 hok, ?_⟩
          refine ⟨fr_k108 hok, ?_⟩
          obtain ⟨c, h⟩ := fg_g_s h
          refine ⟨fr_vp (fr_n108 hok) c, ?_⟩
          try simp -zeta only [fr_i108 hok]
          obtain ⟨q, q2⟩ := fg_ret h
          subst q
          subst q2
          exact hQ
        · have h := fg_if_e d h
          obtain ⟨q, q2⟩ := fg_ret h
          subst q
          subst q2
          exact hQ
set_option maxRecDepth 100000 in
set_option maxHeartbeats 4000000 in
theorem ft_X12_layTree_64 {o : Nat} {ra : Nat → Nat} {s0 : h_S} (hok : r_ok o ra s0) {Q : h_S → Prop} {r : Unit} {t : r_T} (hQ : Q (r_emb s0 o ra t)) {K2 : Int32 → Int32 → r_T → Option (Unit × r_T)} {WK2 : Nat → Int32 → Int32 → h_S → Prop} (hK2 : ∀ (n0 : Int32) (n1 : Int32) (u : r_T), K2 n0 n1 u = some (r, t) → WK2 o n0 n1 (r_emb s0 o ra u)) {s : r_T} {x1 : Int32} {x2 : Int32} {y0 : Int32} {y1 : Int32} (h : fn_X12_layTree_64 K2 x1 x2 y0 y1 s = some (r, t)) : w_X12_layTree_64 Q WK2 o x1 x2 y0 y1 (some (ra 109)) (r_emb s0 o ra s) := by
  unfold fn_X12_layTree_64 at h
  unfold w_X12_layTree_64
  refine ⟨ra 109, rfl, ?_⟩
  refine ⟨fr_k109 hok, ?_⟩
  obtain ⟨c, h⟩ := fg_g_s h
  refine ⟨fr_vp (fr_n109 hok) c, ?_⟩
  obtain ⟨s4, e_s4, h⟩ := fg_let_s h
  intro S_s4
  have z_s4 : S_s4 = r_emb s0 o ra s4 := by rw [e_s4]; exact fr_s109 hok _ _
  clear_value S_s4
  subst z_s4
  exact hK2 _ _ _ h
set_option maxRecDepth 100000 in
set_option maxHeartbeats 4000000 in
theorem ft_X12_layTree_63 {o : Nat} {ra : Nat → Nat} {s0 : h_S} (hok : r_ok o ra s0) {Q : h_S → Prop} {r : Unit} {t : r_T} (hQ : Q (r_emb s0 o ra t)) {K2 : Int32 → Int32 → r_T → Option (Unit × r_T)} {WK2 : Nat → Int32 → Int32 → h_S → Prop} (hK2 : ∀ (n0 : Int32) (n1 : Int32) (u : r_T), K2 n0 n1 u = some (r, t) → WK2 o n0 n1 (r_emb s0 o ra u)) {s : r_T} {x1 : Int32} {x2 : Int32} {y0 : Int32} (h : fn_X12_layTree_63 K2 x1 x2 y0 s = some (r, t)) : w_X12_layTree_63 Q WK2 o x1 x2 y0 (some (ra 109)) (r_emb s0 o ra s) := by
  unfold fn_X12_layTree_63 at h
  unfold w_X12_layTree_63
  exact ft_X12_layTree_64 hok hQ hK2 h
set_option maxRecDepth 100000 in
set_option maxHeartbeats 4000000 in
theorem ft_X12_layTree_75b {o : Nat} {ra : Nat → Nat} {s0 : h_S} (hok : r_ok o ra s0) {Q : h_S → Prop} {r : Unit} {t : r_T} (hQ : Q (r_emb s0 o ra t)) {K75 : Int32 → r_T → Option (Unit × r_T)} {WK75 : Nat → Int32 → h_S → Prop} (hK75 : ∀ (n0 : Int32) (u : r_T), K75 n0 u = some (r, t) → WK75 o n0 (r_emb s0 o ra u)) {s : r_T} {x2 : Int32} (h : fn_X12_layTree_75b K75 x2 s = some (r, t)) : w_X12_layTree_75b Q WK75 o x2 (r_emb s0 o ra s) := by
  unfold fn_X12_layTree_75b at h
  unfold w_X12_layTree_75b
  refine fg_ite Iff.rfl (fun d => ?_) (fun d => ?_)
  · have h := fg_if_t d h
    obtain ⟨_, q⟩ := fg_ret h
    subst q
    exact hQ
  · have h := fg_if_e d h
    refine ⟨hok.1, ?_⟩
    refine ⟨ra 109, fr_r109 hok, ?_⟩
    refine ⟨fr_k109 hok, ?_⟩
    obtain ⟨c, h⟩ := fg_g_s h
    refine ⟨fr_vp (fr_n109 hok) c, ?_⟩
    refine ⟨ra 109, fr_r109 hok, ?_⟩
    refine ⟨fr_k109 hok, ?_⟩
    obtain ⟨c, h⟩ := fg_g_s h
    refine ⟨fr_vp (fr_n109 hok) c, ?_⟩
    try simp -zeta only [fr_i109 hok]
    obtain ⟨p10, s9, e_s9, h⟩ := fg_b_s h
    refine ft_X12_mix hok e_s9 ?_
    refine ⟨ra 109, fr_r109 hok, ?_⟩
    refine ⟨fr_k109 hok, ?_⟩
    obtain ⟨c, h⟩ := fg_g_s h
    refine ⟨fr_vp (fr_n109 hok) c, ?_⟩
    obtain ⟨s14, e_s14, h⟩ := fg_let_s h
    intro S_s14
    have z_s14 : S_s14 = r_emb s0 o ra s14 := by rw [e_s14]; exact fr_s109 hok _ _
    clear_value S_s14
    subst z_s14
    exact hK75 _ _ h
