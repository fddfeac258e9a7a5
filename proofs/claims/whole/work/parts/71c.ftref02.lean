set_option maxRecDepth 100000 in
set_option maxHeartbeats 4000000 in
theorem ft_X12_inCommon_68b {o : Nat} {ra : Nat → Nat} {s0 : h_S} (hok : r_ok o ra s0) {Q : Int32 → h_S → Prop} {r : Int32} {t : r_T} (hQ : Q r (r_emb s0 o ra t)) {K68 : Int32 → Int32 → r_T → Option (Int32 × r_T)} {WK68 : Nat → Int32 → Int32 → h_S → Prop} (hK68 : ∀ (n0 : Int32) (n1 : Int32) (u : r_T), K68 n0 n1 u = some (r, t) → WK68 o n0 n1 (r_emb s0 o ra u)) {s : r_T} {x1 : Int32} {x2 : Int32} (h : fn_X12_inCommon_68b K68 x1 x2 s = some (r, t)) : w_X12_inCommon_68b Q WK68 o x1 x2 (r_emb s0 o ra s) := by
  unfold fn_X12_inCommon_68b at h
  unfold w_X12_inCommon_68b
  refine ⟨hok.1, ?_⟩
  try simp -zeta only [e_io]
  refine fg_ite Iff.rfl (fun d => ?_) (fun d => ?_)
  · have h := fg_if_t d h
    obtain ⟨q, q2⟩ := fg_ret h
    subst q
    subst q2
    exact hQ
  · have h := fg_if_e d h
    refine ⟨ra 63, fr_r63 hok, ?_⟩
    refine ⟨fr_k63 hok, ?_⟩
    obtain ⟨c, h⟩ := fg_g_s h
    refine ⟨fr_vp (fr_n63 hok) c, ?_⟩
    try simp -zeta only [fr_i63 hok]
    refine fg_ite Iff.rfl (fun d => ?_) (fun d => ?_)
    · have h := fg_if_t d h
      unfold w_X12_inCommon_119
      exact hK68 _ _ _ h
    · have h := fg_if_e d h
      refine ⟨ra 63, fr_r63 hok, ?_⟩
      refine ⟨fr_k63 hok, ?_⟩
      obtain ⟨c, h⟩ := fg_g_s h
      refine ⟨fr_vp (fr_n63 hok) c, ?_⟩
      refine ⟨ra 65, fr_r65 hok, ?_⟩
      refine ⟨fr_k65 hok, ?_⟩
      try simp -zeta only [fr_i63 hok]
      obtain ⟨c, h⟩ := fg_g_s h
      refine ⟨fr_vp (fr_n65 hok) c, ?_⟩
      try simp -zeta only [fr_i63 hok, fr_i65 hok]
      refine fg_ite Iff.rfl (fun d => ?_) (fun d => ?_)
      · have h := fg_if_t d h
        unfold w_X12_inCommon_119
        exact hK68 _ _ _ h
      · have h := fg_if_e d h
        refine ⟨ra 63, fr_r63 hok, ?_⟩
        refine ⟨fr_k63 hok, ?_⟩
        obtain ⟨c, h⟩ := fg_g_s h
        refine ⟨fr_vp (fr_n63 hok) c, ?_⟩
        refine ⟨ra 65, fr_r65 hok, ?_⟩
        refine ⟨fr_k65 hok, ?_⟩
        try simp -zeta only [fr_i63 hok]
        obtain ⟨c, h⟩ := fg_g_s h
        refine ⟨fr_vp (fr_n65 hok) c, ?_⟩
        refine ⟨ra 65, fr_r65 hok, ?_⟩
        refine ⟨fr_k65 hok, ?_⟩
        try simp -zeta only [fr_i63 hok]
        obtain ⟨c, h⟩ := fg_g_s h
        refine ⟨fr_vp (fr_n65 hok) c, ?_⟩
        try simp -zeta only [fr_i63 hok, fr_i65 hok]
        obtain ⟨s23, e_s23, h⟩ := fg_let_s h
        intro S_s23
        have z_s23 : S_s23 = r_emb s0 o ra s23 := by rw [e_s23]; exact fr_s65 hok _ _
        clear_value S_s23
        subst z_s23
        unfold w_X12_inCommon_119
        exact hK68 _ _ _ h
set_option maxRecDepth 100000 in
set_option maxHeartbeats 4000000 in
theorem ft_X12_inCommon_68 {o : Nat} {ra : Nat → Nat} {s0 : h_S} (hok : r_ok o ra s0) {Q : Int32 → h_S → Prop} {r : Int32} {t : r_T} (hQ : Q r (r_emb s0 o ra t)) : ∀ (n : Nat) (x1 : Int32) (x2 : Int32) (s : r_T), fn_X12_inCommon_68 n x1 x2 s = some (r, t) → w_X12_inCommon_68 Q n o x1 x2 (r_emb s0 o ra s) := by
  intro n
  induction n with
  | zero => intro x1 x2 s h; exact fg_none h
  | succ n ih =>
    intro x1 x2 s h
    exact ft_X12_inCommon_68b hok hQ ih h
set_option maxRecDepth 100000 in
set_option maxHeartbeats 4000000 in
theorem ft_X12_inCommon_26b {o : Nat} {ra : Nat → Nat} {s0 : h_S} (hok : r_ok o ra s0) {Q : Int32 → h_S → Prop} {r : Int32} {t : r_T} (hQ : Q r (r_emb s0 o ra t)) {K26 : Int32 → Int32 → r_T → Option (Int32 × r_T)} {WK26 : Nat → Int32 → Int32 → h_S → Prop} (hK26 : ∀ (n0 : Int32) (n1 : Int32) (u : r_T), K26 n0 n1 u = some (r, t) → WK26 o n0 n1 (r_emb s0 o ra u)) {s : r_T} {x1 : Int32} {x2 : Int32} (h : fn_X12_inCommon_26b K26 x1 x2 s = some (r, t)) : w_X12_inCommon_26b Q WK26 o x1 x2 (r_emb s0 o ra s) := by
  unfold fn_X12_inCommon_26b at h
  unfold w_X12_inCommon_26b
  refine ⟨hok.1, ?_⟩
  try simp -zeta only [e_io]
  refine fg_ite Iff.rfl (fun d => ?_) (fun d => ?_)
  · have h := fg_if_t d h
    exact ⟨g_N, ft_X12_inCommon_68 hok hQ g_N _ _ _ h⟩
  · have h := fg_if_e d h
    refine ⟨ra 62, fr_r62 hok, ?_⟩
    refine ⟨fr_k62 hok, ?_⟩
    obtain ⟨c, h⟩ := fg_g_s h
    refine ⟨fr_vp (fr_n62 hok) c, ?_⟩
    try simp -zeta only [fr_i62 hok]
    refine fg_ite Iff.rfl (fun d => ?_) (fun d => ?_)
    · have h := fg_if_t d h
      unfold w_X12_inCommon_60
      exact hK26 _ _ _ h
    · have h := fg_if_e d h
      refine ⟨ra 62, fr_r62 hok, ?_⟩
      refine ⟨fr_k62 hok, ?_⟩
      obtain ⟨c, h⟩ := fg_g_s h
      refine ⟨fr_vp (fr_n62 hok) c, ?_⟩
      refine ⟨ra 65, fr_r65 hok, ?_⟩
      refine ⟨fr_k65 hok, ?_⟩
      try simp -zeta only [fr_i62 hok]
      obtain ⟨c, h⟩ := fg_g_s h
      refine ⟨fr_vp (fr_n65 hok) c, ?_⟩
      refine ⟨ra 65, fr_r65 hok, ?_⟩
      refine ⟨fr_k65 hok, ?_⟩
      try simp -zeta only [fr_i62 hok]
      obtain ⟨c, h⟩ := fg_g_s h
      refine ⟨fr_vp (fr_n65 hok) c, ?_⟩
      try simp -zeta only [fr_i62 hok, fr_i65 hok]
      obtain ⟨s16, e_s16, h⟩ := fg_let_s h
      intro S_s16
      have z_s16 : S_s16 = r_emb s0 o ra s16 := by rw [e_s16]; exact fr_s65 hok _ _
      clear_value S_s16
      subst z_s16
      unfold w_X12_inCommon_60
      exact hK26 _ _ _ h
set_option maxRecDepth 100000 in
set_option maxHeartbeats 4000000 in
theorem ft_X12_inCommon_26 {o : Nat} {ra : Nat → Nat} {s0 : h_S} (hok : r_ok o ra s0) {Q : Int32 → h_S → Prop} {r : Int32} {t : r_T} (hQ : Q r (r_emb s0 o ra t)) : ∀ (n : Nat) (x1 : Int32) (x2 : Int32) (s : r_T), fn_X12_inCommon_26 n x1 x2 s = some (r, t) → w_X12_inCommon_26 Q n o x1 x2 (r_emb s0 o ra s) := by
  intro n
  induction n with
  | zero => intro x1 x2 s h; exact fg_none h
  | succ n ih =>
    intro x1 x2 s h
    exact ft_X12_inCommon_26b hok hQ ih h
set_option maxRecDepth 100000 in
set_option maxHeartbeats 4000000 in
theorem ft_X12_inCommon_4b {o : Nat} {ra : Nat → Nat} {s0 : h_S} (hok : r_ok o ra s0) {Q : Int32 → h_S → Prop} {r : Int32} {t : r_T} (hQ : Q r (r_emb s0 o ra t)) {K4 : Int32 → Int32 → r_T → Option (Int32 × r_T)} {WK4 : Nat → Int32 → Int32 → h_S → Prop} (hK4 : ∀ (n0 : Int32) (n1 : Int32) (u : r_T), K4 n0 n1 u = some (r, t) → WK4 o n0 n1 (r_emb s0 o ra u)) {s : r_T} {x1 : Int32} {x2 : Int32} (h : fn_X12_inCommon_4b K4 x1 x2 s = some (r, t)) : w_X12_inCommon_4b Q WK4 o x1 x2 (r_emb s0 o ra s) := by
  unfold fn_X12_inCommon_4b at h
  unfold w_X12_inCommon_4b
  refine fg_ite Iff.rfl (fun d => ?_) (fun d => ?_)
  · have h := fg_if_t d h
    exact ⟨g_N, ft_X12_inCommon_26 hok hQ g_N _ _ _ h⟩
  · have h := fg_if_e d h
    refine ⟨hok.1, ?_⟩
    refine ⟨ra 65, fr_r65 hok, ?_⟩
    refine ⟨fr_k65 hok, ?_⟩
    obtain ⟨c, h⟩ := fg_g_s h
    refine ⟨fr_vp (fr_n65 hok) c, ?_⟩
    obtain ⟨s6, e_s6, h⟩ := fg_let_s h
    intro S_s6
    have z_s6 : S_s6 = r_emb s0 o ra s6 := by rw [e_s6]; exact fr_s65 hok _ _
    clear_value S_s6
    subst z_s6
    exact hK4 _ _ _ h
set_option maxRecDepth 100000 in
set_option maxHeartbeats 4000000 in
theorem ft_X12_inCommon_4 {o : Nat} {ra : Nat → Nat} {s0 : h_S} (hok : r_ok o ra s0) {Q : Int32 → h_S → Prop} {r : Int32} {t : r_T} (hQ : Q r (r_emb s0 o ra t)) : ∀ (n : Nat) (x1 : Int32) (x2 : Int32) (s : r_T), fn_X12_inCommon_4 n x1 x2 s = some (r, t) → w_X12_inCommon_4 Q n o x1 x2 (r_emb s0 o ra s) := by
  intro n
  induction n with
  | zero => intro x1 x2 s h; exact fg_none h
  | succ n ih =>
    intro x1 x2 s h
    exact ft_X12_inCommon_4b hok hQ ih h
set_option maxRecDepth 100000 in
set_option maxHeartbeats 4000000 in
theorem ft_X12_inCommon {o : Nat} {ra : Nat → Nat} {s0 : h_S} (hok : r_ok o ra s0) {Q : Int32 → h_S → Prop} {r : Int32} {t : r_T} {s : r_T} (h : fn_X12_inCommon s = some (r, t)) (hQ : Q r (r_emb s0 o ra t)) : w_X12_inCommon o (r_emb s0 o ra s) Q := by
  unfold fn_X12_inCommon at h
  unfold w_X12_inCommon
  exact ⟨g_N, ft_X12_inCommon_4 hok hQ g_N _ _ _ h⟩
set_option maxRecDepth 100000 in
set_option maxHeartbeats 4000000 in
theorem ft_X12_compare {o : Nat} {ra : Nat → Nat} {s0 : h_S} (hok : r_ok o ra s0) {Q : Int32 → h_S → Prop} {r : Int32} {t : r_T} {s : r_T} {x1 : Int32} {x2 : Int32} {x3 : Int32} (h : fn_X12_compare x1 x2 x3 s = some (r, t)) (hQ : Q r (r_emb s0 o ra t)) : w_X12_compare o x1 x2 x3 (r_emb s0 o ra s) Q := by
  unfold fn_X12_compare at h
  unfold w_X12_compare
  refine ⟨hok.1, ?_⟩
  obtain ⟨p3, s2, e_s2, h⟩ := fg_b_s h
  refine ft_X12_noVersion hok e_s2 ?_
  refine fg_ite Iff.rfl (fun d => ?_) (fun d => ?_)
  · have h := fg_if_t d h
    refine ⟨hok.1, ?_⟩
    obtain ⟨p7, s6, e_s6, h⟩ := fg_b_s h
    refine ft_X12_noVersion hok e_s6 ?_
    refine fg_ite Iff.rfl (fun d => ?_) (fun d => ?_)
    · have h := fg_if_t d h
      obtain ⟨p10, s9, e_s9, h⟩ := fg_b_s h
      refine ft_X12_in hok e_s9 ?_
      refine fg_ite Iff.rfl (fun d => ?_) (fun d => ?_)
      · have h := fg_if_t d h
        obtain ⟨q, q2⟩ := fg_ret h
        subst q
        subst q2
        exact hQ
      · have h := fg_if_e d h
        refine ⟨hok.1, ?_⟩
        obtain ⟨u_, s13, e_s13, h⟩ := fg_b_s h
        refine ft_X12_takeOne hok e_s13 ?_
        refine ⟨hok.1, ?_⟩
        obtain ⟨u_, s16, e_s16, h⟩ := fg_b_s h
        refine ft_X12_takeTwo hok e_s16 ?_
        refine ⟨hok.1, ?_⟩
        obtain ⟨u_, s19, e_s19, h⟩ := fg_b_s h
        refine ft_X12_layShared hok e_s19 ?_
        refine ⟨hok.1, ?_⟩
        refine ⟨ra 64, fr_r64 hok, ?_⟩
        refine ⟨fr_k64 hok, ?_⟩
        obtain ⟨c, h⟩ := fg_g_s h
        refine ⟨fr_vp (fr_n64 hok) c, ?_⟩
        try simp -zeta only [fr_i64 hok]
        obtain ⟨v25, e_v25, h⟩ := fg_let_s h
        intro S_v25
        have z_v25 : v25 = S_v25 := e_v25
        clear_value S_v25
        subst z_v25
        refine fg_ite Iff.rfl (fun d => ?_) (fun d => ?_)
        · have h := fg_if_t d h
          unfold w_X12_compare_103
          obtain ⟨q, q2⟩ := fg_ret h
          subst q
          subst q2
          exact hQ
        · have h := fg_if_e d h
          refine fg_ite Iff.rfl (fun d => ?_) (fun d => ?_)
          · have h := fg_if_t d h
            unfold w_X12_compare_103
            try simp -zeta only [e_io]
            obtain ⟨q, q2⟩ := fg_ret h
            subst q
            subst q2
            exact hQ
          · have h := fg_if_e d h
            refine fg_ite Iff.rfl (fun d => ?_) (fun d => ?_)
            · have h := fg_if_t d h
              unfold w_X12_compare_103
              try simp -zeta only [e_io]
              obtain ⟨q, q2⟩ := fg_ret h
              subst q
              subst q2
              exact hQ
            · have h := fg_if_e d h
              obtain ⟨p30, s29, e_s29, h⟩ := fg_b_s h
              refine ft_X12_inCommon hok e_s29 ?_
              unfold w_X12_compare_103
              obtain ⟨q, q2⟩ := fg_ret h
              subst q
              subst q2
              exact hQ
    · have h := fg_if_e d h
      unfold w_X12_compare_16
      obtain ⟨q, q2⟩ := fg_ret h
      subst q
      subst q2
      exact hQ
  · have h := fg_if_e d h
    unfold w_X12_compare_16
    obtain ⟨q, q2⟩ := fg_ret h
    subst q
    subst q2
    exact hQ
set_option maxRecDepth 100000 in
set_option maxHeartbeats 4000000 in
theorem ft_X12_layWay_161 {o : Nat} {ra : Nat → Nat} {s0 : h_S} (hok : r_ok o ra s0) {Q : h_S → Prop} {r : Unit} {t : r_T} (hQ : Q (r_emb s0 o ra t)) {K59 : Int32 → Int32 → Int32 → r_T → Option (Unit × r_T)} {WK59 : Nat → Int32 → Int32 → Int32 → h_S → Prop} (hK59 : ∀ (n0 : Int32) (n1 : Int32) (n2 : Int32) (u : r_T), K59 n0 n1 n2 u = some (r, t) → WK59 o n0 n1 n2 (r_emb s0 o ra u)) {K85 : Int32 → Int32 → Int32 → Int32 → r_T → Option (Unit × r_T)} {WK85 : Nat → Int32 → Int32 → Int32 → Int32 → h_S → Prop} (hK85 : ∀ (n0 : Int32) (n1 : Int32) (n2 : Int32) (n3 : Int32) (u : r_T), K85 n0 n1 n2 n3 u = some (r, t) → WK85 o n0 n1 n2 n3 (r_emb s0 o ra u)) {s : r_T} {x1 : Int32} {x3 : Int32} {x4 : Int32} {y0 : Int32} (h : fn_X12_layWay_161 K59 K85 x1 x3 x4 y0 s = some (r, t)) : w_X12_layWay_161 Q WK59 WK85 o x1 x3 x4 y0 (r_emb s0 o ra s) := by
  unfold fn_X12_layWay_161 at h
  unfold w_X12_layWay_161
  refine fg_ite Iff.rfl (fun d => ?_) (fun d => ?_)
  · have h := fg_if_t d h
    unfold w_X12_layWay_174
    exact hK85 _ _ _ _ _ h
  · have h := fg_if_e d h
    unfold w_X12_layWay_174
    exact hK85 _ _ _ _ _ h
set_option maxRecDepth 100000 in
set_option maxHeartbeats 4000000 in
theorem ft_X12_layWay_156 {o : Nat} {ra : Nat → Nat} {s0 : h_S} (hok : r_ok o ra s0) {Q : h_S → Prop} {r : Unit} {t : r_T} (hQ : Q (r_emb s0 o ra t)) {K59 : Int32 → Int32 → Int32 → r_T → Option (Unit × r_T)} {WK59 : Nat → Int32 → Int32 → Int32 → h_S → Prop} (hK59 : ∀ (n0 : Int32) (n1 : Int32) (n2 : Int32) (u : r_T), K59 n0 n1 n2 u = some (r, t) → WK59 o n0 n1 n2 (r_emb s0 o ra u)) {K85 : Int32 → Int32 → Int32 → Int32 → r_T → Option (Unit × r_T)} {WK85 : Nat → Int32 → Int32 → Int32 → Int32 → h_S → Prop} (hK85 : ∀ (n0 : Int32) (n1 : Int32) (n2 : Int32) (n3 : Int32) (u : r_T), K85 n0 n1 n2 n3 u = some (r, t) → WK85 o n0 n1 n2 n3 (r_emb s0 o ra u)) {s : r_T} {x1 : Int32} {x3 : Int32} {x4 : Int32} (h : fn_X12_layWay_156 K59 K85 x1 x3 x4 s = some (r, t)) : w_X12_layWay_156 Q WK59 WK85 o x1 x3 x4 (r_emb s0 o ra s) := by
  unfold fn_X12_layWay_156 at h
  unfold w_X12_layWay_156
  exact ft_X12_layWay_161 hok hQ hK59 hK85 h
set_option maxRecDepth 100000 in
set_option maxHeartbeats 4000000 in
theorem ft_X12_layWay_160 {o : Nat} {ra : Nat → Nat} {s0 : h_S} (hok : r_ok o ra s0) {Q : h_S → Prop} {r : Unit} {t : r_T} (hQ : Q (r_emb s0 o ra t)) {K59 : Int32 → Int32 → Int32 → r_T → Option (Unit × r_T)} {WK59 : Nat → Int32 → Int32 → Int32 → h_S → Prop} (hK59 : ∀ (n0 : Int32) (n1 : Int32) (n2 : Int32) (u : r_T), K59 n0 n1 n2 u = some (r, t) → WK59 o n0 n1 n2 (r_emb s0 o ra u)) {K85 : Int32 → Int32 → Int32 → Int32 → r_T → Option (Unit × r_T)} {WK85 : Nat → Int32 → Int32 → Int32 → Int32 → h_S → Prop} (hK85 : ∀ (n0 : Int32) (n1 : Int32) (n2 : Int32) (n3 : Int32) (u : r_T), K85 n0 n1 n2 n3 u = some (r, t) → WK85 o n0 n1 n2 n3 (r_emb s0 o ra u)) {s : r_T} {x1 : Int32} {x3 : Int32} {x4 : Int32} (h : fn_X12_layWay_160 K59 K85 x1 x3 x4 s = some (r, t)) : w_X12_layWay_160 Q WK59 WK85 o x1 x3 x4 (r_emb s0 o ra s) := by
  unfold fn_X12_layWay_160 at h
  unfold w_X12_layWay_160
  exact ft_X12_layWay_161 hok hQ hK59 hK85 h
set_option maxRecDepth 100000 in
set_option maxHeartbeats 4000000 in
theorem ft_X12_layWay_255 {o : Nat} {ra : Nat → Nat} {s0 : h_S} (hok : r_ok o ra s0) {Q : h_S → Prop} {r : Unit} {t : r_T} (hQ : Q (r_emb s0 o ra t)) {K59 : Int32 → Int32 → Int32 → r_T → Option (Unit × r_T)} {WK59 : Nat → Int32 → Int32 → Int32 → h_S → Prop} (hK59 : ∀ (n0 : Int32) (n1 : Int32) (n2 : Int32) (u : r_T), K59 n0 n1 n2 u = some (r, t) → WK59 o n0 n1 n2 (r_emb s0 o ra u)) {s : r_T} {x1 : Int32} {x3 : Int32} {x4 : Int32} {x6 : Int32} {y0 : Int32} {y1 : Int32} (h : fn_X12_layWay_255 K59 x1 x3 x4 x6 y0 y1 s = some (r, t)) : w_X12_layWay_255 Q WK59 o x1 x3 x4 x6 y0 y1 (some (ra 69)) (r_emb s0 o ra s) := by
  unfold fn_X12_layWay_255 at h
  unfold w_X12_layWay_255
  refine ⟨ra 69, rfl, ?_⟩
  refine ⟨fr_k69 hok, ?_⟩
  obtain ⟨c, h⟩ := fg_g_s h
  refine ⟨fr_vp (fr_n69 hok) c, ?_⟩
  obtain ⟨c, h⟩ := fg_g_s h
  refine ⟨c, ?_⟩
  obtain ⟨s5, e_s5, h⟩ := fg_let_s h
  intro S_s5
  have z_s5 : S_s5 = r_emb s0 o ra s5 := by rw [e_s5]; exact fr_s69 hok _ _
  clear_value S_s5
  subst z_s5
  refine fg_ite Iff.rfl (fun d => ?_) (fun d => ?_)
  · have h := fg_if_t d h
    unfold w_X12_layWay_267
    exact hK59 _ _ _ _ h
  · have h := fg_if_e d h
    unfold w_X12_layWay_267
    exact hK59 _ _ _ _ h
set_option maxRecDepth 100000 in
set_option maxHeartbeats 4000000 in
theorem ft_X12_layWay_231 {o : Nat} {ra : Nat → Nat} {s0 : h_S} (hok : r_ok o ra s0) {Q : h_S → Prop} {r : Unit} {t : r_T} (hQ : Q (r_emb s0 o ra t)) {K59 : Int32 → Int32 → Int32 → r_T → Option (Unit × r_T)} {WK59 : Nat → Int32 → Int32 → Int32 → h_S → Prop} (hK59 : ∀ (n0 : Int32) (n1 : Int32) (n2 : Int32) (u : r_T), K59 n0 n1 n2 u = some (r, t) → WK59 o n0 n1 n2 (r_emb s0 o ra u)) {s : r_T} {x1 : Int32} {x3 : Int32} {x4 : Int32} {y0 : Int32} (h : fn_X12_layWay_231 K59 x1 x3 x4 y0 s = some (r, t)) : w_X12_layWay_231 Q WK59 o x1 x3 x4 y0 (r_emb s0 o ra s) := by
  unfold fn_X12_layWay_231 at h
  unfold w_X12_layWay_231
  refine ⟨hok.1, ?_⟩
  refine fg_ite Iff.rfl (fun d => ?_) (fun d => ?_)
  · have h := fg_if_t d h
    rw [fr_r69 hok]
    exact ft_X12_layWay_255 hok hQ hK59 h
  · have h := fg_if_e d h
    rw [fr_r69 hok]
    exact ft_X12_layWay_255 hok hQ hK59 h
set_option maxRecDepth 100000 in
set_option maxHeartbeats 4000000 in
theorem ft_X12_layWay_230 {o : Nat} {ra : Nat → Nat} {s0 : h_S} (hok : r_ok o ra s0) {Q : h_S → Prop} {r : Unit} {t : r_T} (hQ : Q (r_emb s0 o ra t)) {K59 : Int32 → Int32 → Int32 → r_T → Option (Unit × r_T)} {WK59 : Nat → Int32 → Int32 → Int32 → h_S → Prop} (hK59 : ∀ (n0 : Int32) (n1 : Int32) (n2 : Int32) (u : r_T), K59 n0 n1 n2 u = some (r, t) → WK59 o n0 n1 n2 (r_emb s0 o ra u)) {s : r_T} {x1 : Int32} {x3 : Int32} {x4 : Int32} (h : fn_X12_layWay_230 K59 x1 x3 x4 s = some (r, t)) : w_X12_layWay_230 Q WK59 o x1 x3 x4 (r_emb s0 o ra s) := by
  unfold fn_X12_layWay_230 at h
  unfold w_X12_layWay_230
  exact ft_X12_layWay_231 hok hQ hK59 h
set_option maxRecDepth 100000 in
set_option maxHeartbeats 4000000 in
theorem ft_X12_layWay_85b {o : Nat} {ra : Nat → Nat} {s0 : h_S} (hok : r_ok o ra s0) {Q : h_S → Prop} {r : Unit} {t : r_T} (hQ : Q (r_emb s0 o ra t)) {K59 : Int32 → Int32 → Int32 → r_T → Option (Unit × r_T)} {WK59 : Nat → Int32 → Int32 → Int32 → h_S → Prop} (hK59 : ∀ (n0 : Int32) (n1 : Int32) (n2 : Int32) (u : r_T), K59 n0 n1 n2 u = some (r, t) → WK59 o n0 n1 n2 (r_emb s0 o ra u)) {K85 : Int32 → Int32 → Int32 → Int32 → r_T → Option (Unit × r_T)} {WK85 : Nat → Int32 → Int32 → Int32 → Int32 → h_S → Prop} (hK85 : ∀ (n0 : Int32) (n1 : Int32) (n2 : Int32) (n3 : Int32) (u : r_T), K85 n0 n1 n2 n3 u = some (r, t) → WK85 o n0 n1 n2 n3 (r_emb s0 o ra u)) {s : r_T} {x1 : Int32} {x3 : Int32} {x4 : Int32} {x5 : Int32} (h : fn_X12_layWay_85b K59 K85 x1 x3 x4 x5 s = some (r, t)) : w_X12_layWay_85b Q WK59 WK85 o x1 x3 x4 x5 (r_emb s0 o ra s) := by
  unfold fn_X12_layWay_85b at h
  unfold w_X12_layWay_85b
  refine fg_ite Iff.rfl (fun d => ?_) (fun d => ?_)
  · have h := fg_if_t d h
    refine ⟨hok.1, ?_⟩
    refine ⟨ra 70, fr_r70 hok, ?_⟩
    refine ⟨fr_k70 hok, ?_⟩
    obtain ⟨c, h⟩ := fg_g_s h
    refine ⟨fr_vp (fr_n70 hok) c, ?_⟩
    obtain ⟨s6, e_s6, h⟩ := fg_let_s h
    intro S_s6
    have z_s6 : S_s6 = r_emb s0 o ra s6 := by rw [e_s6]; exact fr_s70 hok _ _
    clear_value S_s6
    subst z_s6
    try simp -zeta only [e_io]
    refine fg_ite Iff.rfl (fun d => ?_) (fun d => ?_)
    · have h := fg_if_t d h
      exact ft_X12_layWay_230 hok hQ hK59 h
    · have h := fg_if_e d h
      try simp -zeta only [e_io]
      refine fg_ite Iff.rfl (fun d => ?_) (fun d => ?_)
      · have h := fg_if_t d h
        exact ft_X12_layWay_230 hok hQ hK59 h
      · have h := fg_if_e d h
        refine ⟨ra 62, fr_r62 hok, ?_⟩
        refine ⟨fr_k62 hok, ?_⟩
        obtain ⟨c, h⟩ := fg_g_s h
        refine ⟨fr_vp (fr_n62 hok) c, ?_⟩
        refine ⟨ra 63, fr_r63 hok, ?_⟩
        refine ⟨fr_k63 hok, ?_⟩
        obtain ⟨c, h⟩ := fg_g_s h
        refine ⟨fr_vp (fr_n63 hok) c, ?_⟩
        try simp -zeta only [fr_i62 hok, fr_i63 hok]
        refine fg_ite Iff.rfl (fun d => ?_) (fun d => ?_)
        · have h := fg_if_t d h
          exact ft_X12_layWay_231 hok hQ hK59 h
        · have h := fg_if_e d h
          exact ft_X12_layWay_230 hok hQ hK59 h
  · have h := fg_if_e d h
    refine ⟨hok.1, ?_⟩
    try simp -zeta only [e_io]
    refine fg_ite Iff.rfl (fun d => ?_) (fun d => ?_)
    · have h := fg_if_t d h
      exact ft_X12_layWay_160 hok hQ hK59 hK85 h
    · have h := fg_if_e d h
      try simp -zeta only [e_io]
      refine fg_ite Iff.rfl (fun d => ?_) (fun d => ?_)
      · have h := fg_if_t d h
        exact ft_X12_layWay_156 hok hQ hK59 hK85 h
      · have h := fg_if_e d h
        refine ⟨ra 62, fr_r62 hok, ?_⟩
        refine ⟨fr_k62 hok, ?_⟩
        obtain ⟨c, h⟩ := fg_g_s h
        refine ⟨fr_vp (fr_n62 hok) c, ?_⟩
        refine ⟨ra 63, fr_r63 hok, ?_⟩
        refine ⟨fr_k63 hok, ?_⟩
        obtain ⟨c, h⟩ := fg_g_s h
        refine ⟨fr_vp (fr_n63 hok) c, ?_⟩
        try simp -zeta only [fr_i62 hok, fr_i63 hok]
        refine fg_ite Iff.rfl (fun d => ?_) (fun d => ?_)
        · have h := fg_if_t d h
          exact ft_X12_layWay_160 hok hQ hK59 hK85 h
        · have h := fg_if_e d h
          refine ⟨ra 64, fr_r64 hok, ?_⟩
          refine ⟨fr_k64 hok, ?_⟩
          obtain ⟨c, h⟩ := fg_g_s h
          refine ⟨fr_vp (fr_n64 hok) c, ?_⟩
          refine ⟨ra 64, fr_r64 hok, ?_⟩
          refine ⟨fr_k64 hok, ?_⟩
          obtain ⟨c, h⟩ := fg_g_s h
          refine ⟨fr_vp (fr_n64 hok) c, ?_⟩
          try simp -zeta only [fr_i64 hok]
          refine fg_ite Iff.rfl (fun d => ?_) (fun d => ?_)
          · have h := fg_if_t d h
            exact ft_X12_layWay_160 hok hQ hK59 hK85 h
          · have h := fg_if_e d h
            exact ft_X12_layWay_156 hok hQ hK59 hK85 h
set_option maxRecDepth 100000 in
set_option maxHeartbeats 4000000 in
theorem ft_X12_layWay_85 {o : Nat} {ra : Nat → Nat} {s0 : h_S} (hok : r_ok o ra s0) {Q : h_S → Prop} {r : Unit} {t : r_T} (hQ : Q (r_emb s0 o ra t)) {K59 : Int32 → Int32 → Int32 → r_T → Option (Unit × r_T)} {WK59 : Nat → Int32 → Int32 → Int32 → h_S → Prop} (hK59 : ∀ (n0 : Int32) (n1 : Int32) (n2 : Int32) (u : r_T), K59 n0 n1 n2 u = some (r, t) → WK59 o n0 n1 n2 (r_emb s0 o ra u)) : ∀ (n : Nat) (x1 : Int32) (x3 : Int32) (x4 : Int32) (x5 : Int32) (s : r_T), fn_X12_layWay_85 K59 n x1 x3 x4 x5 s = some (r, t) → w_X12_layWay_85 Q WK59 n o x1 x3 x4 x5 (r_emb s0 o ra s) := by
  intro n
  induction n with
  | zero => intro x1 x3 x4 x5 s h; exact fg_none h
  | succ n ih =>
    intro x1 x3 x4 x5 s h
    exact ft_X12_layWay_85b hok hQ hK59 ih h
set_option maxRecDepth 100000 in
set_option maxHeartbeats 4000000 in
theorem ft_X12_layWay_59b {o : Nat} {ra : Nat → Nat} {s0 : h_S} (hok : r_ok o ra s0) {Q : h_S → Prop} {r : Unit} {t : r_T} (hQ : Q (r_emb s0 o ra t)) {K59 : Int32 → Int32 → Int32 → r_T → Option (Unit × r_T)} {WK59 : Nat → Int32 → Int32 → Int32 → h_S → Prop} (hK59 : ∀ (n0 : Int32) (n1 : Int32) (n2 : Int32) (u : r_T), K59 n0 n1 n2 u = some (r, t) → WK59 o n0 n1 n2 (r_emb s0 o ra u)) {s : r_T} {x1 : Int32} {x3 : Int32} {x4 : Int32} (h : fn_X12_layWay_59b K59 x1 x3 x4 s = some (r, t)) : w_X12_layWay_59b Q WK59 o x1 x3 x4 (r_emb s0 o ra s) := by
  unfold fn_X12_layWay_59b at h
  unfold w_X12_layWay_59b
  refine ⟨hok.1, ?_⟩
  try simp -zeta only [e_io]
  refine fg_ite Iff.rfl (fun d => ?_) (fun d => ?_)
  · have h := fg_if_t d h
    obtain ⟨_, q⟩ := fg_ret h
    subst q
    exact hQ
  · have h := fg_if_e d h
    refine ⟨ra 68, fr_r68 hok, ?_⟩
    refine ⟨fr_k68 hok, ?_⟩
    obtain ⟨c, h⟩ := fg_g_s h
    refine ⟨fr_vp (fr_n68 hok) c, ?_⟩
    obtain ⟨s6, e_s6, h⟩ := fg_let_s h
    intro S_s6
    have z_s6 : S_s6 = r_emb s0 o ra s6 := by rw [e_s6]; exact fr_s68 hok _ _
    clear_value S_s6
    subst z_s6
    exact ⟨g_N, ft_X12_layWay_85 hok hQ hK59 g_N _ _ _ _ _ h⟩
set_option maxRecDepth 100000 in
set_option maxHeartbeats 4000000 in
theorem ft_X12_layWay_59 {o : Nat} {ra : Nat → Nat} {s0 : h_S} (hok : r_ok o ra s0) {Q : h_S → Prop} {r : Unit} {t : r_T} (hQ : Q (r_emb s0 o ra t)) : ∀ (n : Nat) (x1 : Int32) (x3 : Int32) (x4 : Int32) (s : r_T), fn_X12_layWay_59 n x1 x3 x4 s = some (r, t) → w_X12_layWay_59 Q n o x1 x3 x4 (r_emb s0 o ra s) := by
  intro n
  induction n with
  | zero => intro x1 x3 x4 s h; exact fg_none h
  | succ n ih =>
    intro x1 x3 x4 s h
    exact ft_X12_layWay_59b hok hQ ih h
set_option maxRecDepth 100000 in
set_option maxHeartbeats 4000000 in
theorem ft_X12_layWay_22b {o : Nat} {ra : Nat → Nat} {s0 : h_S} (hok : r_ok o ra s0) {Q : h_S → Prop} {r : Unit} {t : r_T} (hQ : Q (r_emb s0 o ra t)) {K22 : Int32 → Int32 → r_T → Option (Unit × r_T)} {WK22 : Nat → Int32 → Int32 → h_S → Prop} (hK22 : ∀ (n0 : Int32) (n1 : Int32) (u : r_T), K22 n0 n1 u = some (r, t) → WK22 o n0 n1 (r_emb s0 o ra u)) {s : r_T} {x1 : Int32} {x3 : Int32} (h : fn_X12_layWay_22b K22 x1 x3 s = some (r, t)) : w_X12_layWay_22b Q WK22 o x1 x3 (r_emb s0 o ra s) := by
  unfold fn_X12_layWay_22b at h
  unfold w_X12_layWay_22b
  refine ⟨hok.1, ?_⟩
  try simp -zeta only [e_io]
  refine fg_ite Iff.rfl (fun d => ?_) (fun d => ?_)
  · have h := fg_if_t d h
    exact ⟨g_N, ft_X12_layWay_59 hok hQ g_N _ _ _ _ h⟩
  · have h := fg_if_e d h
    refine ⟨ra 63, fr_r63 hok, ?_⟩
    refine ⟨fr_k63 hok, ?_⟩
    obtain ⟨c, h⟩ := fg_g_s h
    refine ⟨fr_vp (fr_n63 hok) c, ?_⟩
    refine ⟨ra 66, fr_r66 hok, ?_⟩
    refine ⟨fr_k66 hok, ?_⟩
    obtain ⟨c, h⟩ := fg_g_s h
    refine ⟨fr_vp (fr_n66 hok) c, ?_⟩
    try simp -zeta only [fr_i63 hok]
    obtain ⟨s9, e_s9, h⟩ := fg_let_s h
    intro S_s9
    have z_s9 : S_s9 = r_emb s0 o ra s9 := by rw [e_s9]; exact fr_s66 hok _ _
    clear_value S_s9
    subst z_s9
    exact hK22 _ _ _ h
set_option maxRecDepth 100000 in
set_option maxHeartbeats 4000000 in
theorem ft_X12_layWay_22 {o : Nat} {ra : Nat → Nat} {s0 : h_S} (hok : r_ok o ra s0) {Q : h_S → Prop} {r : Unit} {t : r_T} (hQ : Q (r_emb s0 o ra t)) : ∀ (n : Nat) (x1 : Int32) (x3 : Int32) (s : r_T), fn_X12_layWay_22 n x1 x3 s = some (r, t) → w_X12_layWay_22 Q n o x1 x3 (r_emb s0 o ra s) := by
  intro n
  induction n with
  | zero => intro x1 x3 s h; exact fg_none h
  | succ n ih =>
    intro x1 x3 s h
    exact ft_X12_layWay_22b hok hQ ih h
set_option maxRecDepth 100000 in
set_option maxHeartbeats 4000000 in
theorem ft_X12_layWay {o : Nat} {ra : Nat → Nat} {s0 : h_S} (hok : r_ok o ra s0) {Q : h_S → Prop} {r : Unit} {t : r_T} {s : r_T} {x1 : Int32} {x2 : Int32} (h : fn_X12_layWay x1 x2 s = some (r, t)) (hQ : Q (r_emb s0 o ra t)) : w_X12_layWay o x1 x2 (r_emb s0 o ra s) Q := by
  unfold fn_X12_layWay at h
  unfold w_X12_layWay
  refine ⟨hok.1, ?_⟩
  obtain ⟨u_, s2, e_s2, h⟩ := fg_b_s h
  refine ft_X12_takeTwo hok e_s2 ?_
  refine ⟨hok.1, ?_⟩
  obtain ⟨u_, s5, e_s5, h⟩ := fg_b_s h
  refine ft_X12_layShared hok e_s5 ?_
  refine ⟨hok.1, ?_⟩
  refine ⟨ra 67, fr_r67 hok, ?_⟩
  refine ⟨fr_k67 hok, ?_⟩
  obtain ⟨c, h⟩ := fg_g_s h
  refine ⟨fr_vp (fr_n67 hok) c, ?_⟩
  try simp -zeta only [e_io]
  obtain ⟨s11, e_s11, h⟩ := fg_let_s h
  intro S_s11
  have z_s11 : S_s11 = r_emb s0 o ra s11 := by rw [e_s11]; exact fr_s67 hok _ _
  clear_value S_s11
  subst z_s11
  exact ⟨g_N, ft_X12_layWay_22 hok hQ g_N _ _ _ h⟩
set_option maxRecDepth 100000 in
set_option maxHeartbeats 4000000 in
theorem ft_X12_joinRow_3b {o : Nat} {ra : Nat → Nat} {s0 : h_S} (hok : r_ok o ra s0) {Q : h_S → Prop} {r : Unit} {t : r_T} (hQ : Q (r_emb s0 o ra t)) {K3 : Int32 → Int32 → Int32 → r_T → Option (Unit × r_T)} {WK3 : Nat → Int32 → Int32 → Int32 → h_S → Prop} (hK3 : ∀ (n0 : Int32) (n1 : Int32) (n2 : Int32) (u : r_T), K3 n0 n1 n2 u = some (r, t) → WK3 o n0 n1 n2 (r_emb s0 o ra u)) {s : r_T} {x1 : Int32} {x3 : Int32} {x4 : Int32} (h : fn_X12_joinRow_3b K3 x1 x3 x4 s = some (r, t)) : w_X12_joinRow_3b Q WK3 o x1 x3 x4 (r_emb s0 o ra s) := by
  unfold fn_X12_joinRow_3b at h
  unfold w_X12_joinRow_3b
  refine fg_ite Iff.rfl (fun d => ?_) (fun d => ?_)
  · have h := fg_if_t d h
    obtain ⟨_, q⟩ := fg_ret h
    subst q
    exact hQ
  · have h := fg_if_e d h
    refine ⟨hok.1, ?_⟩
    refine ⟨ra 66, fr_r66 hok, ?_⟩
    refine ⟨fr_k66 hok, ?_⟩
    obtain ⟨c, h⟩ := fg_g_s h
    refine ⟨fr_vp (fr_n66 hok) c, ?_⟩
    refine ⟨ra 72, fr_r72 hok, ?_⟩
    refine ⟨fr_k72 hok, ?_⟩
    try simp -zeta only [e_io]
    obtain ⟨c, h⟩ := fg_g_s h
    refine ⟨fr_vp (fr_n72 hok) c, ?_⟩
    try simp -zeta only [e_io, fr_i66 hok]
    obtain ⟨s9, e_s9, h⟩ := fg_let_s h
    intro S_s9
    have z_s9 : S_s9 = r_emb s0 o ra s9 := by rw [e_s9]; exact fr_s72 hok _ _
    clear_value S_s9
    subst z_s9
    try simp -zeta only [e_io]
    obtain ⟨s10, e_s10, h⟩ := fg_let_s h
    intro S_s10
    have z_s10 : S_s10 = r_emb s0 o ra s10 := by rw [e_s10]; exact e_so _ _
    clear_value S_s10
    subst z_s10
    exact hK3 _ _ _ _ h
set_option maxRecDepth 100000 in
set_option maxHeartbeats 4000000 in
theorem ft_X12_joinRow_3 {o : Nat} {ra : Nat → Nat} {s0 : h_S} (hok : r_ok o ra s0) {Q : h_S → Prop} {r : Unit} {t : r_T} (hQ : Q (r_emb s0 o ra t)) : ∀ (n : Nat) (x1 : Int32) (x3 : Int32) (x4 : Int32) (s : r_T), fn_X12_joinRow_3 n x1 x3 x4 s = some (r, t) → w_X12_joinRow_3 Q n o x1 x3 x4 (r_emb s0 o ra s) := by
  intro n
  induction n with
  | zero => intro x1 x3 x4 s h; exact fg_none h
  | succ n ih =>
    intro x1 x3 x4 s h
    exact ft_X12_joinRow_3b hok hQ ih h
set_option maxRecDepth 100000 in
set_option maxHeartbeats 4000000 in
theorem ft_X12_joinRow {o : Nat} {ra : Nat → Nat} {s0 : h_S} (hok : r_ok o ra s0) {Q : h_S → Prop} {r : Unit} {t : r_T} {s : r_T} {x1 : Int32} {x2 : Int32} {x3 : Int32} (h : fn_X12_joinRow x1 x2 x3 s = some (r, t)) (hQ : Q (r_emb s0 o ra t)) : w_X12_joinRow o x1 x2 x3 (r_emb s0 o ra s) Q := by
  unfold fn_X12_joinRow at h
  unfold w_X12_joinRow
  exact ⟨g_N, ft_X12_joinRow_3 hok hQ g_N _ _ _ _ h⟩
set_option maxRecDepth 100000 in
set_option maxHeartbeats 4000000 in
theorem ft_X12_compareRows_57 {o : Nat} {ra : Nat → Nat} {s0 : h_S} (hok : r_ok o ra s0) {Q : Int32 → h_S → Prop} {r : Int32} {t : r_T} (hQ : Q r (r_emb s0 o ra t)) {s : r_T} {x2 : Int32} {x4 : Int32} {x5 : Int32} {x6 : Int32} (h : fn_X12_compareRows_57 x2 x4 x5 x6 s = some (r, t)) : w_X12_compareRows_57 Q x2 x4 x5 x6 (r_emb s0 o ra s) := by
  unfold fn_X12_compareRows_57 at h
  unfold w_X12_compareRows_57
  refine fg_ite Iff.rfl (fun d => ?_) (fun d => ?_)
  · have h := fg_if_t d h
    refine fg_ite Iff.rfl (fun d => ?_) (fun d => ?_)
    · have h := fg_if_t d h
      unfold w_X12_compareRows_79
      obtain ⟨q, q2⟩ := fg_ret h
      subst q
      subst q2
      exact hQ
    · have h := fg_if_e d h
      unfold w_X12_compareRows_79
      obtain ⟨q, q2⟩ := fg_ret h
      subst q
      subst q2
      exact hQ
  · have h := fg_if_e d h
    unfold w_X12_compareRows_79
    obtain ⟨q, q2⟩ := fg_ret h
    subst q
    subst q2
    exact hQ
set_option maxRecDepth 100000 in
set_option maxHeartbeats 4000000 in
theorem ft_X12_compareRows_6b {o : Nat} {ra : Nat → Nat} {s0 : h_S} (hok : r_ok o ra s0) {Q : Int32 → h_S → Prop} {r : Int32} {t : r_T} (hQ : Q r (r_emb s0 o ra t)) {K6 : Int32 → Int32 → Int32 → Int32 → r_T → Option (Int32 × r_T)} {WK6 : Nat → Int32 → Int32 → Int32 → Int32 → h_S → Prop} (hK6 : ∀ (n0 : Int32) (n1 : Int32) (n2 : Int32) (n3 : Int32) (u : r_T), K6 n0 n1 n2 n3 u = some (r, t) → WK6 o n0 n1 n2 n3 (r_emb s0 o ra u)) {s : r_T} {x2 : Int32} {x4 : Int32} {x5 : Int32} {x6 : Int32} (h : fn_X12_compareRows_6b K6 x2 x4 x5 x6 s = some (r, t)) : w_X12_compareRows_6b Q WK6 o x2 x4 x5 x6 (r_emb s0 o ra s) := by
  unfold fn_X12_compareRows_6b at h
  unfold w_X12_compareRows_6b
  refine fg_ite Iff.rfl (fun d => ?_) (fun d => ?_)
  · have h := fg_if_t d h
    exact ft_X12_compareRows_57 hok hQ h
  · have h := fg_if_e d h
    refine fg_ite Iff.rfl (fun d => ?_) (fun d => ?_)
    · have h := fg_if_t d h
      exact ft_X12_compareRows_57 hok hQ h
    · have h := fg_if_e d h
      refine ⟨hok.1, ?_⟩
      refine ⟨ra 66, fr_r66 hok, ?_⟩
      refine ⟨fr_k66 hok, ?_⟩
      obtain ⟨c, h⟩ := fg_g_s h
      refine ⟨fr_vp (fr_n66 hok) c, ?_⟩
      refine ⟨ra 66, fr_r66 hok, ?_⟩
      refine ⟨fr_k66 hok, ?_⟩
      obtain ⟨c, h⟩ := fg_g_s h
      refine ⟨fr_vp (fr_n66 hok) c, ?_⟩
      try simp -zeta only [fr_i66 hok]
      obtain ⟨v10, e_v10, h⟩ := fg_let_s h
      intro S_v10
      have z_v10 : v10 = S_v10 := e_v10
      clear_value S_v10
      subst z_v10
      refine fg_ite Iff.rfl (fun d => ?_) (fun d => ?_)
      · have h := fg_if_t d h
        exact hK6 _ _ _ _ _ h
      · have h := fg_if_e d h
        obtain ⟨q, q2⟩ := fg_ret h
        subst q
        subst q2
        exact hQ
set_option maxRecDepth 100000 in
set_option maxHeartbeats 4000000 in
theorem ft_X12_compareRows_6 {o : Nat} {ra : Nat → Nat} {s0 : h_S} (hok : r_ok o ra s0) {Q : Int32 → h_S → Prop} {r : Int32} {t : r_T} (hQ : Q r (r_emb s0 o ra t)) : ∀ (n : Nat) (x2 : Int32) (x4 : Int32) (x5 : Int32) (x6 : Int32) (s : r_T), fn_X12_compareRows_6 n x2 x4 x5 x6 s = some (r, t) → w_X12_compareRows_6 Q n o x2 x4 x5 x6 (r_emb s0 o ra s) := by
  intro n
  induction n with
  | zero => intro x2 x4 x5 x6 s h; exact fg_none h
  | succ n ih =>
    intro x2 x4 x5 x6 s h
    exact ft_X12_compareRows_6b hok hQ ih h
set_option maxRecDepth 100000 in
set_option maxHeartbeats 4000000 in
theorem ft_X12_compareRows {o : Nat} {ra : Nat → Nat} {s0 : h_S} (hok : r_ok o ra s0) {Q : Int32 → h_S → Prop} {r : Int32} {t : r_T} {s : r_T} {x1 : Int32} {x2 : Int32} {x3 : Int32} {x4 : Int32} (h : fn_X12_compareRows x1 x2 x3 x4 s = some (r, t)) (hQ : Q r (r_emb s0 o ra t)) : w_X12_compareRows o x1 x2 x3 x4 (r_emb s0 o ra s) Q := by
  unfold fn_X12_compareRows at h
  unfold w_X12_compareRows
  exact ⟨g_N, ft_X12_compareRows_6 hok hQ g_N _ _ _ _ _ h⟩
set_option maxRecDepth 100000 in
set_option maxHeartbeats 4000000 in
theorem ft_X12_keepClash_201 {o : Nat} {ra : Nat → Nat} {s0 : h_S} (hok : r_ok o ra s0) {Q : h_S → Prop} {r : Unit} {t : r_T} (hQ : Q (r_emb s0 o ra t)) {s : r_T} (h : fn_X12_keepClash_201 s = some (r, t)) : w_X12_keepClash_201 Q o (r_emb s0 o ra s) := by
  unfold fn_X12_keepClash_201 at h
  unfold w_X12_keepClash_201
  refine ⟨hok.1, ?_⟩
  try simp -zeta only [e_io]
  obtain ⟨s2, e_s2, h⟩ := fg_let_s h
  intro S_s2
  have z_s2 : S_s2 = r_emb s0 o ra s2 := by rw [e_s2]; exact e_so _ _
  clear_value S_s2
  subst z_s2
  obtain ⟨_, q⟩ := fg_ret h
  subst q
  exact hQ
set_option maxRecDepth 100000 in
set_option maxHeartbeats 4000000 in
theorem ft_X12_keepClash_148b {o : Nat} {ra : Nat → Nat} {s0 : h_S} (hok : r_ok o ra s0) {Q : h_S → Prop} {r : Unit} {t : r_T} (hQ : Q (r_emb s0 o ra t)) {K148 : Int32 → Int32 → Int32 → Int32 → Int32 → r_T → Option (Unit × r_T)} {WK148 : Nat → Int32 → Int32 → Int32 → Int32 → Int32 → h_S → Prop} (hK148 : ∀ (n0 : Int32) (n1 : Int32) (n2 : Int32) (n3 : Int32) (n4 : Int32) (u : r_T), K148 n0 n1 n2 n3 n4 u = some (r, t) → WK148 o n0 n1 n2 n3 n4 (r_emb s0 o ra u)) {s : r_T} {x1 : Int32} {x6 : Int32} {x9 : Int32} {x10 : Int32} {x11 : Int32} (h : fn_X12_keepClash_148b K148 x1 x6 x9 x10 x11 s = some (r, t)) : w_X12_keepClash_148b Q WK148 o x1 x6 x9 x10 x11 (r_emb s0 o ra s) := by
  unfold fn_X12_keepClash_148b at h
  unfold w_X12_keepClash_148b
  refine fg_ite Iff.rfl (fun d => ?_) (fun d => ?_)
  · have h := fg_if_t d h
    exact ft_X12_keepClash_201 hok hQ h
  · have h := fg_if_e d h
    refine ⟨hok.1, ?_⟩
    refine ⟨ra 76, fr_r76 hok, ?_⟩
    refine ⟨fr_k76 hok, ?_⟩
    obtain ⟨c, h⟩ := fg_g_s h
    refine ⟨fr_vp (fr_n76 hok) c, ?_⟩
    refine ⟨ra 66, fr_r66 hok, ?_⟩
    refine ⟨fr_k66 hok, ?_⟩
    obtain ⟨c, h⟩ := fg_g_s h
    refine ⟨fr_vp (fr_n66 hok) c, ?_⟩
    refine ⟨ra 79, fr_r79 hok, ?_⟩
    refine ⟨fr_k79 hok, ?_⟩
    try simp -zeta only [fr_i76 hok]
    obtain ⟨c, h⟩ := fg_g_s h
    refine ⟨fr_vp (fr_n79 hok) c, ?_⟩
    try simp -zeta only [fr_i66 hok, fr_i76 hok]
    obtain ⟨s12, e_s12, h⟩ := fg_let_s h
    intro S_s12
    have z_s12 : S_s12 = r_emb s0 o ra s12 := by rw [e_s12]; exact fr_s79 hok _ _
    clear_value S_s12
    subst z_s12
    exact hK148 _ _ _ _ _ _ h
set_option maxRecDepth 100000 in
set_option maxHeartbeats 4000000 in
theorem ft_X12_keepClash_148 {o : Nat} {ra : Nat → Nat} {s0 : h_S} (hok : r_ok o ra s0) {Q : h_S → Prop} {r : Unit} {t : r_T} (hQ : Q (r_emb s0 o ra t)) : ∀ (n : Nat) (x1 : Int32) (x6 : Int32) (x9 : Int32) (x10 : Int32) (x11 : Int32) (s : r_T), fn_X12_keepClash_148 n x1 x6 x9 x10 x11 s = some (r, t) → w_X12_keepClash_148 Q n o x1 x6 x9 x10 x11 (r_emb s0 o ra s) := by
  intro n
  induction n with
  | zero => intro x1 x6 x9 x10 x11 s h; exact fg_none h
  | succ n ih =>
    intro x1 x6 x9 x10 x11 s h
    exact ft_X12_keepClash_148b hok hQ ih h
set_option maxRecDepth 100000 in
set_option maxHeartbeats 4000000 in
theorem ft_X12_keepClash_130 {o : Nat} {ra : Nat → Nat} {s0 : h_S} (hok : r_ok o ra s0) {Q : h_S → Prop} {r : Unit} {t : r_T} (hQ : Q (r_emb s0 o ra t)) {s : r_T} {x1 : Int32} {x6 : Int32} {x9 : Int32} {y0 : Int32} (h : fn_X12_keepClash_130 x1 x6 x9 y0 s = some (r, t)) : w_X12_keepClash_130 Q o x1 x6 x9 y0 (r_emb s0 o ra s) := by
  unfold fn_X12_keepClash_130 at h
  unfold w_X12_keepClash_130
  refine ⟨hok.1, ?_⟩
  refine ⟨ra 77, fr_r77 hok, ?_⟩
  refine ⟨fr_k77 hok, ?_⟩
  obtain ⟨c, h⟩ := fg_g_s h
  refine ⟨fr_vp (fr_n77 hok) c, ?_⟩
  obtain ⟨s5, e_s5, h⟩ := fg_let_s h
  intro S_s5
  have z_s5 : S_s5 = r_emb s0 o ra s5 := by rw [e_s5]; exact fr_s77 hok _ _
  clear_value S_s5
  subst z_s5
  exact ⟨g_N, ft_X12_keepClash_148 hok hQ g_N _ _ _ _ _ _ h⟩
set_option maxRecDepth 100000 in
set_option maxHeartbeats 4000000 in
theorem ft_X12_keepClash_118 {o : Nat} {ra : Nat → Nat} {s0 : h_S} (hok : r_ok o ra s0) {Q : h_S → Prop} {r : Unit} {t : r_T} (hQ : Q (r_emb s0 o ra t)) {s : r_T} {x1 : Int32} {x3 : Int32} {x5 : Int32} {x6 : Int32} {y0 : Int32} (h : fn_X12_keepClash_118 x1 x3 x5 x6 y0 s = some (r, t)) : w_X12_keepClash_118 Q o x1 x3 x5 x6 y0 (r_emb s0 o ra s) := by
  unfold fn_X12_keepClash_118 at h
  unfold w_X12_keepClash_118
  refine fg_ite Iff.rfl (fun d => ?_) (fun d => ?_)
  · have h := fg_if_t d h
    exact ft_X12_keepClash_130 hok hQ h
  · have h := fg_if_e d h
    exact ft_X12_keepClash_130 hok hQ h
set_option maxRecDepth 100000 in
set_option maxHeartbeats 4000000 in
theorem ft_X12_keepClash_65b {o : Nat} {ra : Nat → Nat} {s0 : h_S} (hok : r_ok o ra s0) {Q : h_S → Prop} {r : Unit} {t : r_T} (hQ : Q (r_emb s0 o ra t)) {K65 : Int32 → Int32 → Int32 → Int32 → Int32 → Int32 → Int32 → Int32 → Int32 → r_T → Option (Unit × r_T)} {WK65 : Nat → Int32 → Int32 → Int32 → Int32 → Int32 → Int32 → Int32 → Int32 → Int32 → h_S → Prop} (hK65 : ∀ (n0 : Int32) (n1 : Int32) (n2 : Int32) (n3 : Int32) (n4 : Int32) (n5 : Int32) (n6 : Int32) (n7 : Int32) (n8 : Int32) (u : r_T), K65 n0 n1 n2 n3 n4 n5 n6 n7 n8 u = some (r, t) → WK65 o n0 n1 n2 n3 n4 n5 n6 n7 n8 (r_emb s0 o ra u)) {s : r_T} {x1 : Int32} {x2 : Int32} {x3 : Int32} {x4 : Int32} {x5 : Int32} {x6 : Int32} {x7 : Int32} {x8 : Int32} {x9 : Int32} (h : fn_X12_keepClash_65b K65 x1 x2 x3 x4 x5 x6 x7 x8 x9 s = some (r, t)) : w_X12_keepClash_65b Q WK65 o x1 x2 x3 x4 x5 x6 x7 x8 x9 (r_emb s0 o ra s) := by
  unfold fn_X12_keepClash_65b at h
  unfold w_X12_keepClash_65b
  refine fg_ite Iff.rfl (fun d => ?_) (fun d => ?_)
  · have h := fg_if_t d h
    refine fg_ite Iff.rfl (fun d => ?_) (fun d => ?_)
    · have h := fg_if_t d h
      exact ft_X12_keepClash_118 hok hQ h
    · have h := fg_if_e d h
      exact ft_X12_keepClash_118 hok hQ h
  · have h := fg_if_e d h
    refine ⟨hok.1, ?_⟩
    refine ⟨ra 66, fr_r66 hok, ?_⟩
    refine ⟨fr_k66 hok, ?_⟩
    obtain ⟨c, h⟩ := fg_g_s h
    refine ⟨fr_vp (fr_n66 hok) c, ?_⟩
    refine ⟨ra 79, fr_r79 hok, ?_⟩
    refine ⟨fr_k79 hok, ?_⟩
    obtain ⟨c, h⟩ := fg_g_s h
    refine ⟨fr_vp (fr_n79 hok) c, ?_⟩
    try simp -zeta only [fr_i66 hok]
    obtain ⟨s10, e_s10, h⟩ := fg_let_s h
    intro S_s10
    have z_s10 : S_s10 = r_emb s0 o ra s10 := by rw [e_s10]; exact fr_s79 hok _ _
    clear_value S_s10
    subst z_s10
    exact hK65 _ _ _ _ _ _ _ _ _ _ h
set_option maxRecDepth 100000 in
set_option maxHeartbeats 4000000 in
theorem ft_X12_keepClash_65 {o : Nat} {ra : Nat → Nat} {s0 : h_S} (hok : r_ok o ra s0) {Q : h_S → Prop} {r : Unit} {t : r_T} (hQ : Q (r_emb s0 o ra t)) : ∀ (n : Nat) (x1 : Int32) (x2 : Int32) (x3 : Int32) (x4 : Int32) (x5 : Int32) (x6 : Int32) (x7 : Int32) (x8 : Int32) (x9 : Int32) (s : r_T), fn_X12_keepClash_65 n x1 x2 x3 x4 x5 x6 x7 x8 x9 s = some (r, t) → w_X12_keepClash_65 Q n o x1 x2 x3 x4 x5 x6 x7 x8 x9 (r_emb s0 o ra s) := by
  intro n
  induction n with
  | zero => intro x1 x2 x3 x4 x5 x6 x7 x8 x9 s h; exact fg_none h
  | succ n ih =>
    intro x1 x2 x3 x4 x5 x6 x7 x8 x9 s h
    exact ft_X12_keepClash_65b hok hQ ih h
set_option maxRecDepth 100000 in
set_option maxHeartbeats 4000000 in
theorem ft_X12_keepClash_47 {o : Nat} {ra : Nat → Nat} {s0 : h_S} (hok : r_ok o ra s0) {Q : h_S → Prop} {r : Unit} {t : r_T} (hQ : Q (r_emb s0 o ra t)) {s : r_T} {x1 : Int32} {x2 : Int32} {x3 : Int32} {x4 : Int32} {x5 : Int32} {x6 : Int32} {x7 : Int32} {y0 : Int32} (h : fn_X12_keepClash_47 x1 x2 x3 x4 x5 x6 x7 y0 s = some (r, t)) : w_X12_keepClash_47 Q o x1 x2 x3 x4 x5 x6 x7 y0 (r_emb s0 o ra s) := by
  unfold fn_X12_keepClash_47 at h
  unfold w_X12_keepClash_47
  refine ⟨hok.1, ?_⟩
  refine ⟨ra 76, fr_r76 hok, ?_⟩
  refine ⟨fr_k76 hok, ?_⟩
  obtain ⟨c, h⟩ := fg_g_s h
  refine ⟨fr_vp (fr_n76 hok) c, ?_⟩
  obtain ⟨s5, e_s5, h⟩ := fg_let_s h
  intro S_s5
  have z_s5 : S_s5 = r_emb s0 o ra s5 := by rw [e_s5]; exact fr_s76 hok _ _
  clear_value S_s5
  subst z_s5
  exact ⟨g_N, ft_X12_keepClash_65 hok hQ g_N _ _ _ _ _ _ _ _ _ _ h⟩
set_option maxRecDepth 100000 in
set_option maxHeartbeats 4000000 in
theorem ft_X12_keepClash_35 {o : Nat} {ra : Nat → Nat} {s0 : h_S} (hok : r_ok o ra s0) {Q : h_S → Prop} {r : Unit} {t : r_T} (hQ : Q (r_emb s0 o ra t)) {s : r_T} {x1 : Int32} {x2 : Int32} {x3 : Int32} {x4 : Int32} {x5 : Int32} {x6 : Int32} {y0 : Int32} (h : fn_X12_keepClash_35 x1 x2 x3 x4 x5 x6 y0 s = some (r, t)) : w_X12_keepClash_35 Q o x1 x2 x3 x4 x5 x6 y0 (r_emb s0 o ra s) := by
  unfold fn_X12_keepClash_35 at h
  unfold w_X12_keepClash_35
  refine fg_ite Iff.rfl (fun d => ?_) (fun d => ?_)
  · have h := fg_if_t d h
    exact ft_X12_keepClash_47 hok hQ h
  · have h := fg_if_e d h
    exact ft_X12_keepClash_47 hok hQ h
set_option maxRecDepth 100000 in
set_option maxHeartbeats 4000000 in
theorem ft_X12_keepClash {o : Nat} {ra : Nat → Nat} {s0 : h_S} (hok : r_ok o ra s0) {Q : h_S → Prop} {r : Unit} {t : r_T} {s : r_T} {x1 : Int32} {x2 : Int32} {x3 : Int32} {x4 : Int32} {x5 : Int32} (h : fn_X12_keepClash x1 x2 x3 x4 x5 s = some (r, t)) (hQ : Q (r_emb s0 o ra t)) : w_X12_keepClash o x1 x2 x3 x4 x5 (r_emb s0 o ra s) Q := by
  unfold fn_X12_keepClash at h
  unfold w_X12_keepClash
  refine ⟨hok.1, ?_⟩
  try simp -zeta only [e_io]
  refine fg_ite Iff.rfl (fun d => ?_) (fun d => ?_)
  · have h := fg_if_t d h
    exact ft_X12_keepClash_201 hok hQ h
  · have h := fg_if_e d h
    try simp -zeta only [e_io]
    obtain ⟨v3, e_v3, h⟩ := fg_let_s h
    intro S_v3
    have z_v3 : v3 = S_v3 := e_v3
    clear_value S_v3
    subst z_v3
    refine fg_ite Iff.rfl (fun d => ?_) (fun d => ?_)
    · have h := fg_if_t d h
      exact ft_X12_keepClash_35 hok hQ h
    · have h := fg_if_e d h
      exact ft_X12_keepClash_35 hok hQ h
set_option maxRecDepth 100000 in
set_option maxHeartbeats 4000000 in
theorem ft_X12_joinAhead_79 {o : Nat} {ra : Nat → Nat} {s0 : h_S} (hok : r_ok o ra s0) {Q : h_S → Prop} {r : Unit} {t : r_T} (hQ : Q (r_emb s0 o ra t)) {s : r_T} {x2 : Int32} {x3 : Int32} (h : fn_X12_joinAhead_79 x2 x3 s = some (r, t)) : w_X12_joinAhead_79 Q o x2 x3 (r_emb s0 o ra s) := by
  unfold fn_X12_joinAhead_79 at h
  unfold w_X12_joinAhead_79
  refine ⟨hok.1, ?_⟩
  obtain ⟨u_, s2, e_s2, h⟩ := fg_b_s h
  refine ft_X12_joinRow hok e_s2 ?_
  unfold w_X12_joinAhead_171
  obtain ⟨_, q⟩ := fg_ret h
  subst q
  exact hQ
set_option maxRecDepth 100000 in
set_option maxHeartbeats 4000000 in
theorem ft_X12_joinAhead_168 {o : Nat} {ra : Nat → Nat} {s0 : h_S} (hok : r_ok o ra s0) {Q : h_S → Prop} {r : Unit} {t : r_T} (hQ : Q (r_emb s0 o ra t)) {s : r_T} {y0 : Int32} {y1 : Int32} {y2 : Int32} (h : fn_X12_joinAhead_168 y0 y1 y2 s = some (r, t)) : w_X12_joinAhead_168 Q y0 y1 y2 o (r_emb s0 o ra s) := by
  unfold fn_X12_joinAhead_168 at h
  unfold w_X12_joinAhead_168
  refine ⟨hok.1, ?_⟩
  obtain ⟨u_, s2, e_s2, h⟩ := fg_b_s h
  refine ft_X12_joinRow hok e_s2 ?_
  unfold w_X12_joinAhead_171
  obtain ⟨_, q⟩ := fg_ret h
  subst q
  exact hQ
set_option maxRecDepth 100000 in
set_option maxHeartbeats 4000000 in
theorem ft_X12_joinAhead_157 {o : Nat} {ra : Nat → Nat} {s0 : h_S} (hok : r_ok o ra s0) {Q : h_S → Prop} {r : Unit} {t : r_T} (hQ : Q (r_emb s0 o ra t)) {s : r_T} {x3 : Int32} {x5 : Int32} {x7 : Int32} {y0 : Int32} {y1 : Int32} (h : fn_X12_joinAhead_157 x3 x5 x7 y0 y1 s = some (r, t)) : w_X12_joinAhead_157 Q x3 x5 x7 y0 y1 o (r_emb s0 o ra s) := by
  unfold fn_X12_joinAhead_157 at h
  unfold w_X12_joinAhead_157
  refine fg_ite Iff.rfl (fun d => ?_) (fun d => ?_)
  · have h := fg_if_t d h
    exact ft_X12_joinAhead_168 hok hQ h
  · have h := fg_if_e d h
    exact ft_X12_joinAhead_168 hok hQ h
set_option maxRecDepth 100000 in
set_option maxHeartbeats 4000000 in
theorem ft_X12_joinAhead_138 {o : Nat} {ra : Nat → Nat} {s0 : h_S} (hok : r_ok o ra s0) {Q : h_S → Prop} {r : Unit} {t : r_T} (hQ : Q (r_emb s0 o ra t)) {s : r_T} {x2 : Int32} {x3 : Int32} {x4 : Int32} {x5 : Int32} {x7 : Int32} {y0 : Int32} {y1 : Int32} {y2 : Int32} (h : fn_X12_joinAhead_138 x2 x3 x4 x5 x7 y0 y1 y2 s = some (r, t)) : w_X12_joinAhead_138 Q o x2 x3 x4 x5 x7 y0 y1 y2 o (r_emb s0 o ra s) := by
  unfold fn_X12_joinAhead_138 at h
  unfold w_X12_joinAhead_138
  refine ⟨hok.1, ?_⟩
  obtain ⟨u_, s2, e_s2, h⟩ := fg_b_s h
  refine ft_X12_joinRow hok e_s2 ?_
  refine fg_ite Iff.rfl (fun d => ?_) (fun d => ?_)
  · have h := fg_if_t d h
    exact ft_X12_joinAhead_157 hok hQ h
  · have h := fg_if_e d h
    exact ft_X12_joinAhead_157 hok hQ h
set_option maxRecDepth 100000 in
set_option maxHeartbeats 4000000 in
theorem ft_X12_joinAhead_127 {o : Nat} {ra : Nat → Nat} {s0 : h_S} (hok : r_ok o ra s0) {Q : h_S → Prop} {r : Unit} {t : r_T} (hQ : Q (r_emb s0 o ra t)) {s : r_T} {x2 : Int32} {x3 : Int32} {x4 : Int32} {x5 : Int32} {x7 : Int32} {y0 : Int32} {y1 : Int32} (h : fn_X12_joinAhead_127 x2 x3 x4 x5 x7 y0 y1 s = some (r, t)) : w_X12_joinAhead_127 Q o x2 x3 x4 x5 x7 y0 y1 o (r_emb s0 o ra s) := by
  unfold fn_X12_joinAhead_127 at h
  unfold w_X12_joinAhead_127
  refine fg_ite Iff.rfl (fun d => ?_) (fun d => ?_)
  · have h := fg_if_t d h
    exact ft_X12_joinAhead_138 hok hQ h
  · have h := fg_if_e d h
    exact ft_X12_joinAhead_138 hok hQ h
set_option maxRecDepth 100000 in
set_option maxHeartbeats 4000000 in
theorem ft_X12_joinAhead_99 {o : Nat} {ra : Nat → Nat} {s0 : h_S} (hok : r_ok o ra s0) {Q : h_S → Prop} {r : Unit} {t : r_T} (hQ : Q (r_emb s0 o ra t)) {s : r_T} {x2 : Int32} {x3 : Int32} {x4 : Int32} {x5 : Int32} {y0 : Int32} (h : fn_X12_joinAhead_99 x2 x3 x4 x5 y0 s = some (r, t)) : w_X12_joinAhead_99 Q o x2 x3 x4 x5 y0 (r_emb s0 o ra s) := by
  unfold fn_X12_joinAhead_99 at h
  unfold w_X12_joinAhead_99
  refine ⟨hok.1, ?_⟩
  obtain ⟨u_, s2, e_s2, h⟩ := fg_b_s h
  refine ft_X12_keepClash hok e_s2 ?_
  refine fg_ite Iff.rfl (fun d => ?_) (fun d => ?_)
  · have h := fg_if_t d h
    exact ft_X12_joinAhead_127 hok hQ h
  · have h := fg_if_e d h
    exact ft_X12_joinAhead_127 hok hQ h
set_option maxRecDepth 100000 in
set_option maxHeartbeats 4000000 in
theorem ft_X12_joinAhead {o : Nat} {ra : Nat → Nat} {s0 : h_S} (hok : r_ok o ra s0) {Q : h_S → Prop} {r : Unit} {t : r_T} {s : r_T} {x1 : Int32} (h : fn_X12_joinAhead x1 s = some (r, t)) (hQ : Q (r_emb s0 o ra t)) : w_X12_joinAhead o x1 (r_emb s0 o ra s) Q := by
  unfold fn_X12_joinAhead at h
  unfold w_X12_joinAhead
  refine ⟨hok.1, ?_⟩
  refine ⟨ra 68, fr_r68 hok, ?_⟩
  refine ⟨fr_k68 hok, ?_⟩
  obtain ⟨c, h⟩ := fg_g_s h
  refine ⟨fr_vp (fr_n68 hok) c, ?_⟩
  refine ⟨ra 70, fr_r70 hok, ?_⟩
  refine ⟨fr_k70 hok, ?_⟩
  obtain ⟨c, h⟩ := fg_g_s h
  refine ⟨fr_vp (fr_n70 hok) c, ?_⟩
  refine ⟨ra 68, fr_r68 hok, ?_⟩
  refine ⟨fr_k68 hok, ?_⟩
  obtain ⟨c, h⟩ := fg_g_s h
  refine ⟨fr_vp (fr_n68 hok) c, ?_⟩
  try simp -zeta only [fr_i68 hok]
  obtain ⟨v11, e_v11, h⟩ := fg_let_s h
  intro S_v11
  have z_v11 : v11 = S_v11 := e_v11
  clear_value S_v11
  subst z_v11
  refine ⟨ra 70, fr_r70 hok, ?_⟩
  refine ⟨fr_k70 hok, ?_⟩
  obtain ⟨c, h⟩ := fg_g_s h
  refine ⟨fr_vp (fr_n70 hok) c, ?_⟩
  try simp -zeta only [fr_i70 hok]
  obtain ⟨v15, e_v15, h⟩ := fg_let_s h
  intro S_v15
  have z_v15 : v15 = S_v15 := e_v15
  clear_value S_v15
  subst z_v15
  try simp -zeta only [fr_i68 hok, fr_i70 hok]
  obtain ⟨p17, s16, e_s16, h⟩ := fg_b_s h
  refine ft_X12_compareRows hok e_s16 ?_
  try simp -zeta only [fr_i68 hok, fr_i70 hok]
  refine fg_ite Iff.rfl (fun d => ?_) (fun d => ?_)
  · have h := fg_if_t d h
    refine ⟨hok.1, ?_⟩
    obtain ⟨u_, s23, e_s23, h⟩ := fg_b_s h
    refine ft_X12_joinRow hok e_s23 ?_
    unfold w_X12_joinAhead_171
    obtain ⟨_, q⟩ := fg_ret h
    subst q
    exact hQ
  · have h := fg_if_e d h
    refine fg_ite Iff.rfl (fun d => ?_) (fun d => ?_)
    · have h := fg_if_t d h
      try simp -zeta only [fr_i68 hok, fr_i70 hok]
      exact ft_X12_joinAhead_79 hok hQ h
    · have h := fg_if_e d h
      refine fg_ite Iff.rfl (fun d => ?_) (fun d => ?_)
      · have h := fg_if_t d h
        try simp -zeta only [fr_i68 hok, fr_i70 hok]
        exact ft_X12_joinAhead_79 hok hQ h
      · have h := fg_if_e d h
        refine fg_ite Iff.rfl (fun d => ?_) (fun d => ?_)
        · have h := fg_if_t d h
          try simp -zeta only [fr_i68 hok, fr_i70 hok]
          exact ft_X12_joinAhead_99 hok hQ h
        · have h := fg_if_e d h
          try simp -zeta only [fr_i68 hok, fr_i70 hok]
          exact ft_X12_joinAhead_99 hok hQ h
set_option maxRecDepth 100000 in
set_option maxHeartbeats 4000000 in
theorem ft_X12_piecesOfJoined_92 {o : Nat} {ra : Nat → Nat} {s0 : h_S} (hok : r_ok o ra s0) {Q : Int32 → h_S → Prop} {r : Int32} {t : r_T} (hQ : Q r (r_emb s0 o ra t)) {K9 : Int32 → Int32 → r_T → Option (Int32 × r_T)} {WK9 : Nat → Int32 → Int32 → h_S → Prop} (hK9 : ∀ (n0 : Int32) (n1 : Int32) (u : r_T), K9 n0 n1 u = some (r, t) → WK9 o n0 n1 (r_emb s0 o ra u)) {s : r_T} {x1 : Int32} {x2 : Int32} (h : fn_X12_piecesOfJoined_92 K9 x1 x2 s = some (r, t)) : w_X12_piecesOfJoined_92 Q WK9 o x1 x2 (r_emb s0 o ra s) := by
  unfold fn_X12_piecesOfJoined_92 at h
  unfold w_X12_piecesOfJoined_92
  refine ⟨hok.1, ?_⟩
  refine ⟨ra 43, fr_r43 hok, ?_⟩
  refine ⟨fr_k43 hok, ?_⟩
  obtain ⟨c, h⟩ := fg_g_s h
  refine ⟨fr_vp (fr_n43 hok) c, ?_⟩
  refine ⟨ra 43, fr_r43 hok, ?_⟩
  refine ⟨fr_k43 hok, ?_⟩
  obtain ⟨c, h⟩ := fg_g_s h
  refine ⟨fr_vp (fr_n43 hok) c, ?_⟩
  try simp -zeta only [fr_i43 hok]
  obtain ⟨s8, e_s8, h⟩ := fg_let_s h
  intro S_s8
  have z_s8 : S_s8 = r_emb s0 o ra s8 := by rw [e_s8]; exact fr_s43 hok _ _
  clear_value S_s8
  subst z_s8
  unfold w_X12_piecesOfJoined_104
  exact hK9 _ _ _ h
set_option maxRecDepth 100000 in
set_option maxHeartbeats 4000000 in
theorem ft_X12_piecesOfJoined_56 {o : Nat} {ra : Nat → Nat} {s0 : h_S} (hok : r_ok o ra s0) {Q : Int32 → h_S → Prop} {r : Int32} {t : r_T} (hQ : Q r (r_emb s0 o ra t)) {K9 : Int32 → Int32 → r_T → Option (Int32 × r_T)} {WK9 : Nat → Int32 → Int32 → h_S → Prop} (hK9 : ∀ (n0 : Int32) (n1 : Int32) (u : r_T), K9 n0 n1 u = some (r, t) → WK9 o n0 n1 (r_emb s0 o ra u)) {s : r_T} {x2 : Int32} {x3 : Int32} {y0 : Int32} {y1 : Int32} (h : fn_X12_piecesOfJoined_56 K9 x2 x3 y0 y1 s = some (r, t)) : w_X12_piecesOfJoined_56 Q WK9 o x2 x3 y0 y1 (r_emb s0 o ra s) := by
  unfold fn_X12_piecesOfJoined_56 at h
  unfold w_X12_piecesOfJoined_56
  refine fg_ite Iff.rfl (fun d => ?_) (fun d => ?_)
  · have h := fg_if_t d h
    unfold w_X12_piecesOfJoined_104
    exact hK9 _ _ _ h
  · have h := fg_if_e d h
    refine fg_ite Iff.rfl (fun d => ?_) (fun d => ?_)
    · have h := fg_if_t d h
      refine ⟨hok.1, ?_⟩
      refine ⟨ra 72, fr_r72 hok, ?_⟩
      refine ⟨fr_k72 hok, ?_⟩
      obtain ⟨c, h⟩ := fg_g_s h
      refine ⟨fr_vp (fr_n72 hok) c, ?_⟩
      try simp -zeta only [fr_i72 hok]
      obtain ⟨u_, s7, e_s7, h⟩ := fg_b_s h
      refine ft_X12_setPiece hok e_s7 ?_
      refine ⟨hok.1, ?_⟩
      obtain ⟨s10, e_s10, h⟩ := fg_let_s h
      intro S_s10
      have z_s10 : S_s10 = r_emb s0 o ra s10 := by rw [e_s10]; exact e_so _ _
      clear_value S_s10
      subst z_s10
      exact ft_X12_piecesOfJoined_92 hok hQ hK9 h
    · have h := fg_if_e d h
      exact ft_X12_piecesOfJoined_92 hok hQ hK9 h
set_option maxRecDepth 100000 in
set_option maxHeartbeats 4000000 in
theorem ft_X12_piecesOfJoined_45 {o : Nat} {ra : Nat → Nat} {s0 : h_S} (hok : r_ok o ra s0) {Q : Int32 → h_S → Prop} {r : Int32} {t : r_T} (hQ : Q r (r_emb s0 o ra t)) {K9 : Int32 → Int32 → r_T → Option (Int32 × r_T)} {WK9 : Nat → Int32 → Int32 → h_S → Prop} (hK9 : ∀ (n0 : Int32) (n1 : Int32) (u : r_T), K9 n0 n1 u = some (r, t) → WK9 o n0 n1 (r_emb s0 o ra u)) {s : r_T} {x1 : Int32} {x2 : Int32} {y0 : Int32} (h : fn_X12_piecesOfJoined_45 K9 x1 x2 y0 s = some (r, t)) : w_X12_piecesOfJoined_45 Q WK9 o x1 x2 y0 (r_emb s0 o ra s) := by
  unfold fn_X12_piecesOfJoined_45 at h
  unfold w_X12_piecesOfJoined_45
  refine fg_ite Iff.rfl (fun d => ?_) (fun d => ?_)
  · have h := fg_if_t d h
    exact ft_X12_piecesOfJoined_56 hok hQ hK9 h
  · have h := fg_if_e d h
    exact ft_X12_piecesOfJoined_56 hok hQ hK9 h
set_option maxRecDepth 100000 in
set_option maxHeartbeats 4000000 in
theorem ft_X12_piecesOfJoined_44 {o : Nat} {ra : Nat → Nat} {s0 : h_S} (hok : r_ok o ra s0) {Q : Int32 → h_S → Prop} {r : Int32} {t : r_T} (hQ : Q r (r_emb s0 o ra t)) {K9 : Int32 → Int32 → r_T → Option (Int32 × r_T)} {WK9 : Nat → Int32 → Int32 → h_S → Prop} (hK9 : ∀ (n0 : Int32) (n1 : Int32) (u : r_T), K9 n0 n1 u = some (r, t) → WK9 o n0 n1 (r_emb s0 o ra u)) {s : r_T} {x1 : Int32} {x2 : Int32} (h : fn_X12_piecesOfJoined_44 K9 x1 x2 s = some (r, t)) : w_X12_piecesOfJoined_44 Q WK9 o x1 x2 (r_emb s0 o ra s) := by
  unfold fn_X12_piecesOfJoined_44 at h
  unfold w_X12_piecesOfJoined_44
  exact ft_X12_piecesOfJoined_45 hok hQ hK9 h
set_option maxRecDepth 100000 in
set_option maxHeartbeats 4000000 in
theorem ft_X12_piecesOfJoined_9b {o : Nat} {ra : Nat → Nat} {s0 : h_S} (hok : r_ok o ra s0) {Q : Int32 → h_S → Prop} {r : Int32} {t : r_T} (hQ : Q r (r_emb s0 o ra t)) {K9 : Int32 → Int32 → r_T → Option (Int32 × r_T)} {WK9 : Nat → Int32 → Int32 → h_S → Prop} (hK9 : ∀ (n0 : Int32) (n1 : Int32) (u : r_T), K9 n0 n1 u = some (r, t) → WK9 o n0 n1 (r_emb s0 o ra u)) {s : r_T} {x1 : Int32} {x2 : Int32} (h : fn_X12_piecesOfJoined_9b K9 x1 x2 s = some (r, t)) : w_X12_piecesOfJoined_9b Q WK9 o x1 x2 (r_emb s0 o ra s) := by
  unfold fn_X12_piecesOfJoined_9b at h
  unfold w_X12_piecesOfJoined_9b
  refine ⟨hok.1, ?_⟩
  try simp -zeta only [e_io]
  refine fg_ite Iff.rfl (fun d => ?_) (fun d => ?_)
  · have h := fg_if_t d h
    obtain ⟨q, q2⟩ := fg_ret h
    subst q
    subst q2
    exact hQ
  · have h := fg_if_e d h
    refine fg_ite Iff.rfl (fun d => ?_) (fun d => ?_)
    · have h := fg_if_t d h
      exact ft_X12_piecesOfJoined_44 hok hQ hK9 h
    · have h := fg_if_e d h
      refine ⟨ra 72, fr_r72 hok, ?_⟩
      refine ⟨fr_k72 hok, ?_⟩
      obtain ⟨c, h⟩ := fg_g_s h
      refine ⟨fr_vp (fr_n72 hok) c, ?_⟩
      refine ⟨ra 72, fr_r72 hok, ?_⟩
      refine ⟨fr_k72 hok, ?_⟩
      obtain ⟨c, h⟩ := fg_g_s h
      refine ⟨fr_vp (fr_n72 hok) c, ?_⟩
      try simp -zeta only [fr_i72 hok]
      refine fg_ite Iff.rfl (fun d => ?_) (fun d => ?_)
      · have h := fg_if_t d h
        exact ft_X12_piecesOfJoined_45 hok hQ hK9 h
      · have h := fg_if_e d h
        exact ft_X12_piecesOfJoined_44 hok hQ hK9 h
set_option maxRecDepth 100000 in
set_option maxHeartbeats 4000000 in
theorem ft_X12_piecesOfJoined_9 {o : Nat} {ra : Nat → Nat} {s0 : h_S} (hok : r_ok o ra s0) {Q : Int32 → h_S → Prop} {r : Int32} {t : r_T} (hQ : Q r (r_emb s0 o ra t)) : ∀ (n : Nat) (x1 : Int32) (x2 : Int32) (s : r_T), fn_X12_piecesOfJoined_9 n x1 x2 s = some (r, t) → w_X12_piecesOfJoined_9 Q n o x1 x2 (r_emb s0 o ra s) := by
  intro n
  induction n with
  | zero => intro x1 x2 s h; exact fg_none h
  | succ n ih =>
    intro x1 x2 s h
    exact ft_X12_piecesOfJoined_9b hok hQ ih h
set_option maxRecDepth 100000 in
set_option maxHeartbeats 4000000 in
theorem ft_X12_piecesOfJoined {o : Nat} {ra : Nat → Nat} {s0 : h_S} (hok : r_ok o ra s0) {Q : Int32 → h_S → Prop} {r : Int32} {t : r_T} {s : r_T} (h : fn_X12_piecesOfJoined s = some (r, t)) (hQ : Q r (r_emb s0 o ra t)) : w_X12_piecesOfJoined o (r_emb s0 o ra s) Q := by
  unfold fn_X12_piecesOfJoined at h
  unfold w_X12_piecesOfJoined
  refine ⟨hok.1, ?_⟩
  obtain ⟨s2, e_s2, h⟩ := fg_let_s h
  intro S_s2
  have z_s2 : S_s2 = r_emb s0 o ra s2 := by rw [e_s2]; exact e_so _ _
  clear_value S_s2
  subst z_s2
  exact ⟨g_N, ft_X12_piecesOfJoined_9 hok hQ g_N _ _ _ h⟩
set_option maxRecDepth 100000 in
set_option maxHeartbeats 4000000 in
theorem ft_X12_join_198b {o : Nat} {ra : Nat → Nat} {s0 : h_S} (hok : r_ok o ra s0) {Q : Int32 → h_S → Prop} {r : Int32} {t : r_T} (hQ : Q r (r_emb s0 o ra t)) {K198 : Int32 → r_T → Option (Int32 × r_T)} {WK198 : Nat → Int32 → h_S → Prop} (hK198 : ∀ (n0 : Int32) (u : r_T), K198 n0 u = some (r, t) → WK198 o n0 (r_emb s0 o ra u)) {s : r_T} {x4 : Int32} (h : fn_X12_join_198b K198 x4 s = some (r, t)) : w_X12_join_198b Q WK198 o x4 (r_emb s0 o ra s) := by
  unfold fn_X12_join_198b at h
  unfold w_X12_join_198b
  refine ⟨hok.1, ?_⟩
  try simp -zeta only [e_io]
  refine fg_ite Iff.rfl (fun d => ?_) (fun d => ?_)
  · have h := fg_if_t d h
    try simp -zeta only [e_io]
    obtain ⟨s3, e_s3, h⟩ := fg_let_s h
    intro S_s3
    have z_s3 : S_s3 = r_emb s0 o ra s3 := by rw [e_s3]; exact e_so _ _
    clear_value S_s3
    subst z_s3
    try simp -zeta only [e_io]
    obtain ⟨p5, s4, e_s4, h⟩ := fg_b_s h
    refine ft_X12_store hok e_s4 ?_
    refine ⟨hok.1, ?_⟩
    try simp -zeta only [e_io]
    obtain ⟨s7, e_s7, h⟩ := fg_let_s h
    intro S_s7
    have z_s7 : S_s7 = r_emb s0 o ra s7 := by rw [e_s7]; exact e_so _ _
    clear_value S_s7
    subst z_s7
    try simp -zeta only [e_io]
    obtain ⟨p9, s8, e_s8, h⟩ := fg_b_s h
    refine ft_X12_acted hok e_s8 ?_
    obtain ⟨q, q2⟩ := fg_ret h
    subst q
    subst q2
    exact hQ
  · have h := fg_if_e d h
    refine ⟨ra 75, fr_r75 hok, ?_⟩
    refine ⟨fr_k75 hok, ?_⟩
    obtain ⟨c, h⟩ := fg_g_s h
    refine ⟨fr_vp (fr_n75 hok) c, ?_⟩
    try simp -zeta only [e_io]
    obtain ⟨s13, e_s13, h⟩ := fg_let_s h
    intro S_s13
    have z_s13 : S_s13 = r_emb s0 o ra s13 := by rw [e_s13]; exact fr_s75 hok _ _
    clear_value S_s13
    subst z_s13
    exact hK198 _ _ h
set_option maxRecDepth 100000 in
set_option maxHeartbeats 4000000 in
theorem ft_X12_join_198 {o : Nat} {ra : Nat → Nat} {s0 : h_S} (hok : r_ok o ra s0) {Q : Int32 → h_S → Prop} {r : Int32} {t : r_T} (hQ : Q r (r_emb s0 o ra t)) : ∀ (n : Nat) (x4 : Int32) (s : r_T), fn_X12_join_198 n x4 s = some (r, t) → w_X12_join_198 Q n o x4 (r_emb s0 o ra s) := by
  intro n
  induction n with
  | zero => intro x4 s h; exact fg_none h
  | succ n ih =>
    intro x4 s h
    exact ft_X12_join_198b hok hQ ih h
set_option maxRecDepth 100000 in
set_option maxHeartbeats 4000000 in
theorem ft_X12_join_57b {o : Nat} {ra : Nat → Nat} {s0 : h_S} (hok : r_ok o ra s0) {Q : Int32 → h_S → Prop} {r : Int32} {t : r_T} (hQ : Q r (r_emb s0 o ra t)) {K57 : Int32 → Int32 → r_T → Option (Int32 × r_T)} {WK57 : Nat → Int32 → Int32 → h_S → Prop} (hK57 : ∀ (n0 : Int32) (n1 : Int32) (u : r_T), K57 n0 n1 u = some (r, t) → WK57 o n0 n1 (r_emb s0 o ra u)) {s : r_T} {x1 : Int32} {x4 : Int32} (h : fn_X12_join_57b K57 x1 x4 s = some (r, t)) : w_X12_join_57b Q WK57 o x1 x4 (r_emb s0 o ra s) := by
  unfold fn_X12_join_57b at h
  unfold w_X12_join_57b
  refine ⟨hok.1, ?_⟩
  try simp -zeta only [e_io]
  refine fg_ite Iff.rfl (fun d => ?_) (fun d => ?_)
  · have h := fg_if_t d h
    try simp -zeta only [e_io]
    refine fg_ite Iff.rfl (fun d => ?_) (fun d => ?_)
    · have h := fg_if_t d h
      unfold w_X12_join_169
      obtain ⟨q, q2⟩ := fg_ret h
      subst q
      subst q2
      exact hQ
    · have h := fg_if_e d h
      obtain ⟨p5, s4, e_s4, h⟩ := fg_b_s h
      refine ft_X12_piecesOfJoined hok e_s4 ?_
      refine fg_ite Iff.rfl (fun d => ?_) (fun d => ?_)
      · have h := fg_if_t d h
        unfold w_X12_join_169
        obtain ⟨q, q2⟩ := fg_ret h
        subst q
        subst q2
        exact hQ
      · have h := fg_if_e d h
        refine ⟨hok.1, ?_⟩
        try simp -zeta only [e_io]
        refine fg_ite Iff.rfl (fun d => ?_) (fun d => ?_)
        · have h := fg_if_t d h
          refine ⟨ra 56, fr_r56 hok, ?_⟩
          refine ⟨fr_k56 hok, ?_⟩
          obtain ⟨c, h⟩ := fg_g_s h
          refine ⟨fr_vp (fr_n56 hok) c, ?_⟩
          refine ⟨ra 9, fr_r9 hok, ?_⟩
          refine ⟨fr_k9 hok, ?_⟩
          try simp -zeta only [fr_i56 hok]
          obtain ⟨c, h⟩ := fg_g_s h
          refine ⟨fr_vp (fr_n9 hok) c, ?_⟩
          refine ⟨ra 9, fr_r9 hok, ?_⟩
          refine ⟨fr_k9 hok, ?_⟩
          try simp -zeta only [e_io]
          obtain ⟨c, h⟩ := fg_g_s h
          refine ⟨fr_vp (fr_n9 hok) c, ?_⟩
          try simp -zeta only [e_io, fr_i9 hok, fr_i56 hok]
          obtain ⟨s18, e_s18, h⟩ := fg_let_s h
          intro S_s18
          have z_s18 : S_s18 = r_emb s0 o ra s18 := by rw [e_s18]; exact fr_s9 hok _ _
          clear_value S_s18
          subst z_s18
          try simp -zeta only [e_io]
          exact ⟨g_N, ft_X12_join_198 hok hQ g_N _ _ h⟩
        · have h := fg_if_e d h
          unfold w_X12_join_169
          obtain ⟨q, q2⟩ := fg_ret h
          subst q
          subst q2
          exact hQ
  · have h := fg_if_e d h
    obtain ⟨u_, s19, e_s19, h⟩ := fg_b_s h
    refine ft_X12_joinAhead hok e_s19 ?_
    refine ⟨hok.1, ?_⟩
    try simp -zeta only [e_io]
    refine fg_ite Iff.rfl (fun d => ?_) (fun d => ?_)
    · have h := fg_if_t d h
      unfold w_X12_join_131
      exact hK57 _ _ _ h
    · have h := fg_if_e d h
      refine ⟨ra 69, fr_r69 hok, ?_⟩
      refine ⟨fr_k69 hok, ?_⟩
      obtain ⟨c, h⟩ := fg_g_s h
      refine ⟨fr_vp (fr_n69 hok) c, ?_⟩
      try simp -zeta only [fr_i69 hok]
      refine fg_ite Iff.rfl (fun d => ?_) (fun d => ?_)
      · have h := fg_if_t d h
        refine ⟨ra 69, fr_r69 hok, ?_⟩
        refine ⟨fr_k69 hok, ?_⟩
        obtain ⟨c, h⟩ := fg_g_s h
        refine ⟨fr_vp (fr_n69 hok) c, ?_⟩
        try simp -zeta only [fr_i69 hok]
        refine fg_ite Iff.rfl (fun d => ?_) (fun d => ?_)
        · have h := fg_if_t d h
          refine ⟨ra 62, fr_r62 hok, ?_⟩
          refine ⟨fr_k62 hok, ?_⟩
          obtain ⟨c, h⟩ := fg_g_s h
          refine ⟨fr_vp (fr_n62 hok) c, ?_⟩
          refine ⟨ra 72, fr_r72 hok, ?_⟩
          refine ⟨fr_k72 hok, ?_⟩
          try simp -zeta only [e_io]
          obtain ⟨c, h⟩ := fg_g_s h
          refine ⟨fr_vp (fr_n72 hok) c, ?_⟩
          try simp -zeta only [e_io, fr_i62 hok]
          obtain ⟨s37, e_s37, h⟩ := fg_let_s h
          intro S_s37
          have z_s37 : S_s37 = r_emb s0 o ra s37 := by rw [e_s37]; exact fr_s72 hok _ _
          clear_value S_s37
          subst z_s37
          try simp -zeta only [e_io]
          obtain ⟨s38, e_s38, h⟩ := fg_let_s h
          intro S_s38
          have z_s38 : S_s38 = r_emb s0 o ra s38 := by rw [e_s38]; exact e_so _ _
          clear_value S_s38
          subst z_s38
          unfold w_X12_join_131
          exact hK57 _ _ _ h
        · have h := fg_if_e d h
          unfold w_X12_join_131
          exact hK57 _ _ _ h
      · have h := fg_if_e d h
        unfold w_X12_join_131
        exact hK57 _ _ _ h
set_option maxRecDepth 100000 in
set_option maxHeartbeats 4000000 in
theorem ft_X12_join_57 {o : Nat} {ra : Nat → Nat} {s0 : h_S} (hok : r_ok o ra s0) {Q : Int32 → h_S → Prop} {r : Int32} {t : r_T} (hQ : Q r (r_emb s0 o ra t)) : ∀ (n : Nat) (x1 : Int32) (x4 : Int32) (s : r_T), fn_X12_join_57 n x1 x4 s = some (r, t) → w_X12_join_57 Q n o x1 x4 (r_emb s0 o ra s) := by
  intro n
  induction n with
  | zero => intro x1 x4 s h; exact fg_none h
  | succ n ih =>
    intro x1 x4 s h
    exact ft_X12_join_57b hok hQ ih h
set_option maxRecDepth 100000 in
set_option maxHeartbeats 4000000 in
theorem ft_X12_join {o : Nat} {ra : Nat → Nat} {s0 : h_S} (hok : r_ok o ra s0) {Q : Int32 → h_S → Prop} {r : Int32} {t : r_T} {s : r_T} {x1 : Int32} {x2 : Int32} {x3 : Int32} (h : fn_X12_join x1 x2 x3 s = some (r, t)) (hQ : Q r (r_emb s0 o ra t)) : w_X12_join o x1 x2 x3 (r_emb s0 o ra s) Q := by
  unfold fn_X12_join at h
  unfold w_X12_join
  refine ⟨hok.1, ?_⟩
  obtain ⟨p3, s2, e_s2, h⟩ := fg_b_s h
  refine ft_X12_noVersion hok e_s2 ?_
  refine fg_ite Iff.rfl (fun d => ?_) (fun d => ?_)
  · have h := fg_if_t d h
    refine ⟨hok.1, ?_⟩
    obtain ⟨p7, s6, e_s6, h⟩ := fg_b_s h
    refine ft_X12_noVersion hok e_s6 ?_
    refine fg_ite Iff.rfl (fun d => ?_) (fun d => ?_)
    · have h := fg_if_t d h
      refine ⟨hok.1, ?_⟩
      obtain ⟨p11, s10, e_s10, h⟩ := fg_b_s h
      refine ft_X12_noVersion hok e_s10 ?_
      refine fg_ite Iff.rfl (fun d => ?_) (fun d => ?_)
      · have h := fg_if_t d h
        refine ⟨hok.1, ?_⟩
        obtain ⟨u_, s14, e_s14, h⟩ := fg_b_s h
        refine ft_X12_takeOne hok e_s14 ?_
        refine ⟨hok.1, ?_⟩
        obtain ⟨u_, s17, e_s17, h⟩ := fg_b_s h
        refine ft_X12_layWay hok e_s17 ?_
        refine ⟨hok.1, ?_⟩
        obtain ⟨u_, s20, e_s20, h⟩ := fg_b_s h
        refine ft_X12_layWay hok e_s20 ?_
        refine ⟨hok.1, ?_⟩
        obtain ⟨s23, e_s23, h⟩ := fg_let_s h
        intro S_s23
        have z_s23 : S_s23 = r_emb s0 o ra s23 := by rw [e_s23]; exact e_so _ _
        clear_value S_s23
        subst z_s23
        obtain ⟨s24, e_s24, h⟩ := fg_let_s h
        intro S_s24
        have z_s24 : S_s24 = r_emb s0 o ra s24 := by rw [e_s24]; exact e_so _ _
        clear_value S_s24
        subst z_s24
        exact ⟨g_N, ft_X12_join_57 hok hQ g_N _ _ _ h⟩
      · have h := fg_if_e d h
        unfold w_X12_join_24
        obtain ⟨q, q2⟩ := fg_ret h
        subst q
        subst q2
        exact hQ
    · have h := fg_if_e d h
      unfold w_X12_join_24
      obtain ⟨q, q2⟩ := fg_ret h
      subst q
      subst q2
      exact hQ
  · have h := fg_if_e d h
    unfold w_X12_join_24
    obtain ⟨q, q2⟩ := fg_ret h
    subst q
    subst q2
    exact hQ
set_option maxRecDepth 100000 in
set_option maxHeartbeats 4000000 in
theorem ft_X12_clash {o : Nat} {ra : Nat → Nat} {s0 : h_S} (hok : r_ok o ra s0) {Q : Int32 → h_S → Prop} {r : Int32} {t : r_T} {s : r_T} {x1 : Int32} {x2 : Int32} (h : fn_X12_clash x1 x2 s = some (r, t)) (hQ : Q r (r_emb s0 o ra t)) : w_X12_clash o x1 x2 (r_emb s0 o ra s) Q := by
  unfold fn_X12_clash at h
  unfold w_X12_clash
  refine ⟨hok.1, ?_⟩
  try simp -zeta only [e_io]
  obtain ⟨p3, s2, e_s2, h⟩ := fg_b_s h
  refine ft_X12_in hok e_s2 ?_
  refine fg_ite Iff.rfl (fun d => ?_) (fun d => ?_)
  · have h := fg_if_t d h
    obtain ⟨q, q2⟩ := fg_ret h
    subst q
    subst q2
    exact hQ
  · have h := fg_if_e d h
    refine fg_ite Iff.rfl (fun d => ?_) (fun d => ?_)
    · have h := fg_if_t d h
      refine ⟨hok.1, ?_⟩
      refine ⟨ra 75, fr_r75 hok, ?_⟩
      refine ⟨fr_k75 hok, ?_⟩
      obtain ⟨c, h⟩ := fg_g_s h
      refine ⟨fr_vp (fr_n75 hok) c, ?_⟩
      try simp -zeta only [fr_i75 hok]
      obtain ⟨q, q2⟩ := fg_ret h
      subst q
      subst q2
      exact hQ
    · have h := fg_if_e d h
      refine fg_ite Iff.rfl (fun d => ?_) (fun d => ?_)
      · have h := fg_if_t d h
        refine ⟨hok.1, ?_⟩
        refine ⟨ra 76, fr_r76 hok, ?_⟩
        refine ⟨fr_k76 hok, ?_⟩
        obtain ⟨c, h⟩ := fg_g_s h
        refine ⟨fr_vp (fr_n76 hok) c, ?_⟩
        try simp -zeta only [fr_i76 hok]
        obtain ⟨q, q2⟩ := fg_ret h
        subst q
        subst q2
        exact hQ
      · have h := fg_if_e d h
        refine fg_ite Iff.rfl (fun d => ?_) (fun d => ?_)
        · have h := fg_if_t d h
          refine ⟨hok.1, ?_⟩
          refine ⟨ra 77, fr_r77 hok, ?_⟩
          refine ⟨fr_k77 hok, ?_⟩
          obtain ⟨c, h⟩ := fg_g_s h
          refine ⟨fr_vp (fr_n77 hok) c, ?_⟩
          try simp -zeta only [fr_i77 hok]
          obtain ⟨q, q2⟩ := fg_ret h
          subst q
          subst q2
          exact hQ
        · have h := fg_if_e d h
          refine fg_ite Iff.rfl (fun d => ?_) (fun d => ?_)
          · have h := fg_if_t d h
            refine ⟨hok.1, ?_⟩
            refine ⟨ra 78, fr_r78 hok, ?_⟩
            refine ⟨fr_k78 hok, ?_⟩
            obtain ⟨c, h⟩ := fg_g_s h
            refine ⟨fr_vp (fr_n78 hok) c, ?_⟩
            try simp -zeta only [fr_i78 hok]
            refine fg_ite Iff.rfl (fun d => ?_) (fun d => ?_)
            · have h := fg_if_t d h
              unfold w_X12_clash_83
              obtain ⟨q, q2⟩ := fg_ret h
              subst q
              subst q2
              exact hQ
            · have h := fg_if_e d h
              unfold w_X12_clash_83
              obtain ⟨q, q2⟩ := fg_ret h
              subst q
              subst q2
              exact hQ
          · have h := fg_if_e d h
            obtain ⟨q, q2⟩ := fg_ret h
            subst q
            subst q2
            exact hQ
set_option maxRecDepth 100000 in
set_option maxHeartbeats 4000000 in
theorem ft_X12_standsAt_34b {o : Nat} {ra : Nat → Nat} {s0 : h_S} (hok : r_ok o ra s0) {Q : Int32 → h_S → Prop} {r : Int32} {t : r_T} (hQ : Q r (r_emb s0 o ra t)) {K34 : Int32 → Int32 → Int32 → Int32 → Int32 → r_T → Option (Int32 × r_T)} {WK34 : Nat → Int32 → Int32 → Int32 → Int32 → Int32 → h_S → Prop} (hK34 : ∀ (n0 : Int32) (n1 : Int32) (n2 : Int32) (n3 : Int32) (n4 : Int32) (u : r_T), K34 n0 n1 n2 n3 n4 u = some (r, t) → WK34 o n0 n1 n2 n3 n4 (r_emb s0 o ra u)) {s : r_T} {x1 : Int32} {x2 : Int32} {x3 : Int32} {x4 : Int32} {x5 : Int32} (h : fn_X12_standsAt_34b K34 x1 x2 x3 x4 x5 s = some (r, t)) : w_X12_standsAt_34b Q WK34 o x1 x2 x3 x4 x5 (r_emb s0 o ra s) := by
  unfold fn_X12_standsAt_34b at h
  unfold w_X12_standsAt_34b
  refine fg_ite Iff.rfl (fun d => ?_) (fun d => ?_)
  · have h := fg_if_t d h
    unfold w_X12_standsAt_83
    obtain ⟨c, h⟩ := fg_g_s h
    refine ⟨c, ?_⟩
    obtain ⟨q, q2⟩ := fg_ret h
    subst q
    subst q2
    exact hQ
  · have h := fg_if_e d h
    refine fg_ite Iff.rfl (fun d => ?_) (fun d => ?_)
    · have h := fg_if_t d h
      unfold w_X12_standsAt_83
      obtain ⟨c, h⟩ := fg_g_s h
      refine ⟨c, ?_⟩
      obtain ⟨q, q2⟩ := fg_ret h
      subst q
      subst q2
      exact hQ
    · have h := fg_if_e d h
      refine ⟨hok.1, ?_⟩
      refine ⟨ra 36, fr_r36 hok, ?_⟩
      refine ⟨fr_k36 hok, ?_⟩
      obtain ⟨c, h⟩ := fg_g_s h
      refine ⟨fr_vp (fr_n36 hok) c, ?_⟩
      refine ⟨ra 79, fr_r79 hok, ?_⟩
      refine ⟨fr_k79 hok, ?_⟩
      obtain ⟨c, h⟩ := fg_g_s h
      refine ⟨fr_vp (fr_n79 hok) c, ?_⟩
      try simp -zeta only [fr_i36 hok, fr_i79 hok]
      refine fg_ite Iff.rfl (fun d => ?_) (fun d => ?_)
      · have h := fg_if_t d h
        unfold w_X12_standsAt_75
        exact hK34 _ _ _ _ _ _ h
      · have h := fg_if_e d h
        unfold w_X12_standsAt_75
        exact hK34 _ _ _ _ _ _ h
set_option maxRecDepth 100000 in
set_option maxHeartbeats 4000000 in
theorem ft_X12_standsAt_34 {o : Nat} {ra : Nat → Nat} {s0 : h_S} (hok : r_ok o ra s0) {Q : Int32 → h_S → Prop} {r : Int32} {t : r_T} (hQ : Q r (r_emb s0 o ra t)) : ∀ (n : Nat) (x1 : Int32) (x2 : Int32) (x3 : Int32) (x4 : Int32) (x5 : Int32) (s : r_T), fn_X12_standsAt_34 n x1 x2 x3 x4 x5 s = some (r, t) → w_X12_standsAt_34 Q n o x1 x2 x3 x4 x5 (r_emb s0 o ra s) := by
  intro n
  induction n with
  | zero => intro x1 x2 x3 x4 x5 s h; exact fg_none h
  | succ n ih =>
    intro x1 x2 x3 x4 x5 s h
    exact ft_X12_standsAt_34b hok hQ ih h
set_option maxRecDepth 100000 in
set_option maxHeartbeats 4000000 in
theorem ft_X12_standsAt_29 {o : Nat} {ra : Nat → Nat} {s0 : h_S} (hok : r_ok o ra s0) {Q : Int32 → h_S → Prop} {r : Int32} {t : r_T} (hQ : Q r (r_emb s0 o ra t)) {s : r_T} {x1 : Int32} {x2 : Int32} {x3 : Int32} {y0 : Int32} (h : fn_X12_standsAt_29 x1 x2 x3 y0 s = some (r, t)) : w_X12_standsAt_29 Q o x1 x2 x3 y0 (r_emb s0 o ra s) := by
  unfold fn_X12_standsAt_29 at h
  unfold w_X12_standsAt_29
  exact ⟨g_N, ft_X12_standsAt_34 hok hQ g_N _ _ _ _ _ _ h⟩
set_option maxRecDepth 100000 in
set_option maxHeartbeats 4000000 in
theorem ft_X12_standsAt {o : Nat} {ra : Nat → Nat} {s0 : h_S} (hok : r_ok o ra s0) {Q : Int32 → h_S → Prop} {r : Int32} {t : r_T} {s : r_T} {x1 : Int32} {x2 : Int32} (h : fn_X12_standsAt x1 x2 s = some (r, t)) (hQ : Q r (r_emb s0 o ra t)) : w_X12_standsAt o x1 x2 (r_emb s0 o ra s) Q := by
  unfold fn_X12_standsAt at h
  unfold w_X12_standsAt
  refine ⟨hok.1, ?_⟩
  refine ⟨ra 76, fr_r76 hok, ?_⟩
  refine ⟨fr_k76 hok, ?_⟩
  obtain ⟨c, h⟩ := fg_g_s h
  refine ⟨fr_vp (fr_n76 hok) c, ?_⟩
  refine ⟨ra 77, fr_r77 hok, ?_⟩
  refine ⟨fr_k77 hok, ?_⟩
  obtain ⟨c, h⟩ := fg_g_s h
  refine ⟨fr_vp (fr_n77 hok) c, ?_⟩
  try simp -zeta only [fr_i76 hok, fr_i77 hok]
  obtain ⟨v8, e_v8, h⟩ := fg_let_s h
  intro S_v8
  have z_v8 : v8 = S_v8 := e_v8
  clear_value S_v8
  subst z_v8
  try simp -zeta only [e_io]
  refine fg_ite Iff.rfl (fun d => ?_) (fun d => ?_)
  · have h := fg_if_t d h
    exact ft_X12_standsAt_29 hok hQ h
  · have h := fg_if_e d h
    exact ft_X12_standsAt_29 hok hQ h
set_option maxRecDepth 100000 in
set_option maxHeartbeats 4000000 in
theorem ft_X12_settle_157 {o : Nat} {ra : Nat → Nat} {s0 : h_S} (hok : r_ok o ra s0) {Q : Int32 → h_S → Prop} {r : Int32} {t : r_T} (hQ : Q r (r_emb s0 o ra t)) {s : r_T} {x1 : Int32} {x3 : Int32} {x5 : Int32} {y0 : Int32} (h : fn_X12_settle_157 x1 x3 x5 y0 s = some (r, t)) : w_X12_settle_157 Q o x1 x3 x5 y0 (r_emb s0 o ra s) := by
  unfold fn_X12_settle_157 at h
  unfold w_X12_settle_157
  refine ⟨hok.1, ?_⟩
  obtain ⟨u_, s2, e_s2, h⟩ := fg_b_s h
  refine ft_X12_takeOut hok e_s2 ?_
  refine ⟨hok.1, ?_⟩
  obtain ⟨p6, s5, e_s5, h⟩ := fg_b_s h
  refine ft_X12_store hok e_s5 ?_
  refine fg_ite Iff.rfl (fun d => ?_) (fun d => ?_)
  · have h := fg_if_t d h
    obtain ⟨q, q2⟩ := fg_ret h
    subst q
    subst q2
    exact hQ
  · have h := fg_if_e d h
    refine ⟨hok.1, ?_⟩
    refine ⟨ra 78, fr_r78 hok, ?_⟩
    refine ⟨fr_k78 hok, ?_⟩
    obtain ⟨c, h⟩ := fg_g_s h
    refine ⟨fr_vp (fr_n78 hok) c, ?_⟩
    obtain ⟨s12, e_s12, h⟩ := fg_let_s h
    intro S_s12
    have z_s12 : S_s12 = r_emb s0 o ra s12 := by rw [e_s12]; exact fr_s78 hok _ _
    clear_value S_s12
    subst z_s12
    obtain ⟨p14, s13, e_s13, h⟩ := fg_b_s h
    refine ft_X12_acted hok e_s13 ?_
    obtain ⟨q, q2⟩ := fg_ret h
    subst q
    subst q2
    exact hQ
set_option maxRecDepth 100000 in
set_option maxHeartbeats 4000000 in
theorem ft_X12_settle_115 {o : Nat} {ra : Nat → Nat} {s0 : h_S} (hok : r_ok o ra s0) {Q : Int32 → h_S → Prop} {r : Int32} {t : r_T} (hQ : Q r (r_emb s0 o ra t)) {s : r_T} {x1 : Int32} {x2 : Int32} {x3 : Int32} {y0 : Int32} (h : fn_X12_settle_115 x1 x2 x3 y0 s = some (r, t)) : w_X12_settle_115 Q o x1 x2 x3 y0 (r_emb s0 o ra s) := by
  unfold fn_X12_settle_115 at h
  unfold w_X12_settle_115
  refine fg_ite Iff.rfl (fun d => ?_) (fun d => ?_)
  · have h := fg_if_t d h
    refine ⟨hok.1, ?_⟩
    refine ⟨ra 77, fr_r77 hok, ?_⟩
    refine ⟨fr_k77 hok, ?_⟩
    obtain ⟨c, h⟩ := fg_g_s h
    refine ⟨fr_vp (fr_n77 hok) c, ?_⟩
    try simp -zeta only [fr_i77 hok]
    exact ft_X12_settle_157 hok hQ h
  · have h := fg_if_e d h
    refine fg_ite Iff.rfl (fun d => ?_) (fun d => ?_)
    · have h := fg_if_t d h
      refine ⟨hok.1, ?_⟩
      refine ⟨ra 76, fr_r76 hok, ?_⟩
      refine ⟨fr_k76 hok, ?_⟩
      obtain ⟨c, h⟩ := fg_g_s h
      refine ⟨fr_vp (fr_n76 hok) c, ?_⟩
      try simp -zeta only [fr_i76 hok]
      exact ft_X12_settle_157 hok hQ h
    · have h := fg_if_e d h
      refine ⟨hok.1, ?_⟩
      refine ⟨ra 76, fr_r76 hok, ?_⟩
      refine ⟨fr_k76 hok, ?_⟩
      obtain ⟨c, h⟩ := fg_g_s h
      refine ⟨fr_vp (fr_n76 hok) c, ?_⟩
      refine ⟨ra 77, fr_r77 hok, ?_⟩
      refine ⟨fr_k77 hok, ?_⟩
      obtain ⟨c, h⟩ := fg_g_s h
      refine ⟨fr_vp (fr_n77 hok) c, ?_⟩
      try simp -zeta only [fr_i76 hok, fr_i77 hok]
      exact ft_X12_settle_157 hok hQ h
set_option maxRecDepth 100000 in
set_option maxHeartbeats 4000000 in
theorem ft_X12_settle_85 {o : Nat} {ra : Nat → Nat} {s0 : h_S} (hok : r_ok o ra s0) {Q : Int32 → h_S → Prop} {r : Int32} {t : r_T} (hQ : Q r (r_emb s0 o ra t)) {s : r_T} {x1 : Int32} {x2 : Int32} {x3 : Int32} {x4 : Int32} (h : fn_X12_settle_85 x1 x2 x3 x4 s = some (r, t)) : w_X12_settle_85 Q o x1 x2 x3 x4 (r_emb s0 o ra s) := by
  unfold fn_X12_settle_85 at h
  unfold w_X12_settle_85
  refine ⟨hok.1, ?_⟩
  try simp -zeta only [e_io]
  refine fg_ite Iff.rfl (fun d => ?_) (fun d => ?_)
  · have h := fg_if_t d h
    obtain ⟨q, q2⟩ := fg_ret h
    subst q
    subst q2
    exact hQ
  · have h := fg_if_e d h
    refine fg_ite Iff.rfl (fun d => ?_) (fun d => ?_)
    · have h := fg_if_t d h
      refine ⟨ra 76, fr_r76 hok, ?_⟩
      refine ⟨fr_k76 hok, ?_⟩
      obtain ⟨c, h⟩ := fg_g_s h
      refine ⟨fr_vp (fr_n76 hok) c, ?_⟩
      try simp -zeta only [fr_i76 hok]
      exact ft_X12_settle_115 hok hQ h
    · have h := fg_if_e d h
      exact ft_X12_settle_115 hok hQ h
set_option maxRecDepth 100000 in
set_option maxHeartbeats 4000000 in
theorem ft_X12_settle_60b {o : Nat} {ra : Nat → Nat} {s0 : h_S} (hok : r_ok o ra s0) {Q : Int32 → h_S → Prop} {r : Int32} {t : r_T} (hQ : Q r (r_emb s0 o ra t)) {K60 : Int32 → Int32 → Int32 → Int32 → r_T → Option (Int32 × r_T)} {WK60 : Nat → Int32 → Int32 → Int32 → Int32 → h_S → Prop} (hK60 : ∀ (n0 : Int32) (n1 : Int32) (n2 : Int32) (n3 : Int32) (u : r_T), K60 n0 n1 n2 n3 u = some (r, t) → WK60 o n0 n1 n2 n3 (r_emb s0 o ra u)) {s : r_T} {x1 : Int32} {x2 : Int32} {x3 : Int32} {x4 : Int32} (h : fn_X12_settle_60b K60 x1 x2 x3 x4 s = some (r, t)) : w_X12_settle_60b Q WK60 o x1 x2 x3 x4 (r_emb s0 o ra s) := by
  unfold fn_X12_settle_60b at h
  unfold w_X12_settle_60b
  refine ⟨hok.1, ?_⟩
  try simp -zeta only [e_io]
  refine fg_ite Iff.rfl (fun d => ?_) (fun d => ?_)
  · have h := fg_if_t d h
    exact ft_X12_settle_85 hok hQ h
  · have h := fg_if_e d h
    obtain ⟨p4, s3, e_s3, h⟩ := fg_b_s h
    refine ft_X12_standsAt hok e_s3 ?_
    refine fg_ite Iff.rfl (fun d => ?_) (fun d => ?_)
    · have h := fg_if_t d h
      exact hK60 _ _ _ _ _ h
    · have h := fg_if_e d h
      exact ft_X12_settle_85 hok hQ h
set_option maxRecDepth 100000 in
set_option maxHeartbeats 4000000 in
theorem ft_X12_settle_60 {o : Nat} {ra : Nat → Nat} {s0 : h_S} (hok : r_ok o ra s0) {Q : Int32 → h_S → Prop} {r : Int32} {t : r_T} (hQ : Q r (r_emb s0 o ra t)) : ∀ (n : Nat) (x1 : Int32) (x2 : Int32) (x3 : Int32) (x4 : Int32) (s : r_T), fn_X12_settle_60 n x1 x2 x3 x4 s = some (r, t) → w_X12_settle_60 Q n o x1 x2 x3 x4 (r_emb s0 o ra s) := by
  intro n
  induction n with
  | zero => intro x1 x2 x3 x4 s h; exact fg_none h
  | succ n ih =>
    intro x1 x2 x3 x4 s h
    exact ft_X12_settle_60b hok hQ ih h
set_option maxRecDepth 100000 in
set_option maxHeartbeats 4000000 in
theorem ft_X12_settle {o : Nat} {ra : Nat → Nat} {s0 : h_S} (hok : r_ok o ra s0) {Q : Int32 → h_S → Prop} {r : Int32} {t : r_T} {s : r_T} {x1 : Int32} {x2 : Int32} (h : fn_X12_settle x1 x2 s = some (r, t)) (hQ : Q r (r_emb s0 o ra t)) : w_X12_settle o x1 x2 (r_emb s0 o ra s) Q := by
  unfold fn_X12_settle at h
  unfold w_X12_settle
  refine ⟨hok.1, ?_⟩
  try simp -zeta only [e_io]
  obtain ⟨p3, s2, e_s2, h⟩ := fg_b_s h
  refine ft_X12_in hok e_s2 ?_
  refine fg_ite Iff.rfl (fun d => ?_) (fun d => ?_)
  · have h := fg_if_t d h
    obtain ⟨q, q2⟩ := fg_ret h
    subst q
    subst q2
    exact hQ
  · have h := fg_if_e d h
    obtain ⟨p6, s5, e_s5, h⟩ := fg_b_s h
    refine ft_X12_in hok e_s5 ?_
    refine fg_ite Iff.rfl (fun d => ?_) (fun d => ?_)
    · have h := fg_if_t d h
      obtain ⟨q, q2⟩ := fg_ret h
      subst q
      subst q2
      exact hQ
    · have h := fg_if_e d h
      refine ⟨hok.1, ?_⟩
      refine ⟨ra 78, fr_r78 hok, ?_⟩
      refine ⟨fr_k78 hok, ?_⟩
      obtain ⟨c, h⟩ := fg_g_s h
      refine ⟨fr_vp (fr_n78 hok) c, ?_⟩
      try simp -zeta only [fr_i78 hok]
      refine fg_ite Iff.rfl (fun d => ?_) (fun d => ?_)
      · have h := fg_if_t d h
        refine ⟨ra 75, fr_r75 hok, ?_⟩
        refine ⟨fr_k75 hok, ?_⟩
        obtain ⟨c, h⟩ := fg_g_s h
        refine ⟨fr_vp (fr_n75 hok) c, ?_⟩
        try simp -zeta only [fr_i75 hok]
        obtain ⟨u_, s16, e_s16, h⟩ := fg_b_s h
        refine ft_X12_open hok e_s16 ?_
        try simp -zeta only [fr_i75 hok]
        exact ⟨g_N, ft_X12_settle_60 hok hQ g_N _ _ _ _ _ h⟩
      · have h := fg_if_e d h
        obtain ⟨q, q2⟩ := fg_ret h
        subst q
        subst q2
        exact hQ
set_option maxRecDepth 100000 in
set_option maxHeartbeats 4000000 in
theorem ft_X12_noLink {o : Nat} {ra : Nat → Nat} {s0 : h_S} (hok : r_ok o ra s0) {Q : Int32 → h_S → Prop} {r : Int32} {t : r_T} {s : r_T} {x1 : Int32} (h : fn_X12_noLink x1 s = some (r, t)) (hQ : Q r (r_emb s0 o ra t)) : w_X12_noLink o x1 (r_emb s0 o ra s) Q := by
  unfold fn_X12_noLink at h
  unfold w_X12_noLink
  refine ⟨hok.1, ?_⟩
  try simp -zeta only [e_io]
  obtain ⟨p3, s2, e_s2, h⟩ := fg_b_s h
  refine ft_X12_in hok e_s2 ?_
  refine fg_ite Iff.rfl (fun d => ?_) (fun d => ?_)
  · have h := fg_if_t d h
    unfold w_X12_noLink_21
    refine ⟨Or.inr rfl, ?_⟩
    obtain ⟨q, q2⟩ := fg_ret h
    subst q
    subst q2
    exact hQ
  · have h := fg_if_e d h
    unfold w_X12_noLink_21
    refine ⟨Or.inl rfl, ?_⟩
    obtain ⟨q, q2⟩ := fg_ret h
    subst q
    subst q2
    exact hQ
set_option maxRecDepth 100000 in
set_option maxHeartbeats 4000000 in
theorem ft_X12_areWords {o : Nat} {ra : Nat → Nat} {s0 : h_S} (hok : r_ok o ra s0) {Q : Int32 → h_S → Prop} {r : Int32} {t : r_T} {s : r_T} {x1 : Int32} {x2 : Int32} (h : fn_X12_areWords x1 x2 s = some (r, t)) (hQ : Q r (r_emb s0 o ra t)) : w_X12_areWords o x1 x2 (r_emb s0 o ra s) Q := by
  unfold fn_X12_areWords at h
  unfold w_X12_areWords
  refine fg_ite Iff.rfl (fun d => ?_) (fun d => ?_)
  · have h := fg_if_t d h
    unfold w_X12_areWords_22
    unfold w_X12_areWords_23
    refine ⟨Or.inl rfl, ?_⟩
    obtain ⟨q, q2⟩ := fg_ret h
    subst q
    subst q2
    exact hQ
  · have h := fg_if_e d h
    refine ⟨hok.1, ?_⟩
    try simp -zeta only [e_io]
    refine fg_ite Iff.rfl (fun d => ?_) (fun d => ?_)
    · have h := fg_if_t d h
      unfold w_X12_areWords_22
      unfold w_X12_areWords_23
      refine ⟨Or.inl rfl, ?_⟩
      obtain ⟨q, q2⟩ := fg_ret h
      subst q
      subst q2
      exact hQ
    · have h := fg_if_e d h
      unfold w_X12_areWords_23
      refine ⟨Or.inr rfl, ?_⟩
      obtain ⟨q, q2⟩ := fg_ret h
      subst q
      subst q2
      exact hQ
set_option maxRecDepth 100000 in
set_option maxHeartbeats 4000000 in
theorem ft_X12_areAlike_16b {o : Nat} {ra : Nat → Nat} {s0 : h_S} (hok : r_ok o ra s0) {Q : Int32 → h_S → Prop} {r : Int32} {t : r_T} (hQ : Q r (r_emb s0 o ra t)) {K16 : Int32 → Int32 → Int32 → Int32 → Int32 → r_T → Option (Int32 × r_T)} {WK16 : Nat → Int32 → Int32 → Int32 → Int32 → Int32 → h_S → Prop} (hK16 : ∀ (n0 : Int32) (n1 : Int32) (n2 : Int32) (n3 : Int32) (n4 : Int32) (u : r_T), K16 n0 n1 n2 n3 n4 u = some (r, t) → WK16 o n0 n1 n2 n3 n4 (r_emb s0 o ra u)) {s : r_T} {x1 : Int32} {x2 : Int32} {x3 : Int32} {x5 : Int32} {x6 : Int32} (h : fn_X12_areAlike_16b K16 x1 x2 x3 x5 x6 s = some (r, t)) : w_X12_areAlike_16b Q WK16 o x1 x2 x3 x5 x6 (r_emb s0 o ra s) := by
  unfold fn_X12_areAlike_16b at h
  unfold w_X12_areAlike_16b
  refine fg_ite Iff.rfl (fun d => ?_) (fun d => ?_)
  · have h := fg_if_t d h
    unfold w_X12_areAlike_61
    obtain ⟨c, h⟩ := fg_g_s h
    refine ⟨c, ?_⟩
    obtain ⟨q, q2⟩ := fg_ret h
    subst q
    subst q2
    exact hQ
  · have h := fg_if_e d h
    refine fg_ite Iff.rfl (fun d => ?_) (fun d => ?_)
    · have h := fg_if_t d h
      unfold w_X12_areAlike_61
      obtain ⟨c, h⟩ := fg_g_s h
      refine ⟨c, ?_⟩
      obtain ⟨q, q2⟩ := fg_ret h
      subst q
      subst q2
      exact hQ
    · have h := fg_if_e d h
      refine ⟨hok.1, ?_⟩
      refine ⟨ra 23, fr_r23 hok, ?_⟩
      refine ⟨fr_k23 hok, ?_⟩
      obtain ⟨c, h⟩ := fg_g_s h
      refine ⟨fr_vp (fr_n23 hok) c, ?_⟩
      refine ⟨ra 23, fr_r23 hok, ?_⟩
      refine ⟨fr_k23 hok, ?_⟩
      obtain ⟨c, h⟩ := fg_g_s h
      refine ⟨fr_vp (fr_n23 hok) c, ?_⟩
      try simp -zeta only [fr_i23 hok]
      refine fg_ite Iff.rfl (fun d => ?_) (fun d => ?_)
      · have h := fg_if_t d h
        unfold w_X12_areAlike_53
        exact hK16 _ _ _ _ _ _ h
      · have h := fg_if_e d h
        unfold w_X12_areAlike_53
        exact hK16 _ _ _ _ _ _ h
set_option maxRecDepth 100000 in
set_option maxHeartbeats 4000000 in
theorem ft_X12_areAlike_16 {o : Nat} {ra : Nat → Nat} {s0 : h_S} (hok : r_ok o ra s0) {Q : Int32 → h_S → Prop} {r : Int32} {t : r_T} (hQ : Q r (r_emb s0 o ra t)) : ∀ (n : Nat) (x1 : Int32) (x2 : Int32) (x3 : Int32) (x5 : Int32) (x6 : Int32) (s : r_T), fn_X12_areAlike_16 n x1 x2 x3 x5 x6 s = some (r, t) → w_X12_areAlike_16 Q n o x1 x2 x3 x5 x6 (r_emb s0 o ra s) := by
  intro n
  induction n with
  | zero => intro x1 x2 x3 x5 x6 s h; exact fg_none h
  | succ n ih =>
    intro x1 x2 x3 x5 x6 s h
    exact ft_X12_areAlike_16b hok hQ ih h
set_option maxRecDepth 100000 in
set_option maxHeartbeats 4000000 in
theorem ft_X12_areAlike_11 {o : Nat} {ra : Nat → Nat} {s0 : h_S} (hok : r_ok o ra s0) {Q : Int32 → h_S → Prop} {r : Int32} {t : r_T} (hQ : Q r (r_emb s0 o ra t)) {s : r_T} {x1 : Int32} {x2 : Int32} {x3 : Int32} {y0 : Int32} (h : fn_X12_areAlike_11 x1 x2 x3 y0 s = some (r, t)) : w_X12_areAlike_11 Q o x1 x2 x3 y0 (r_emb s0 o ra s) := by
  unfold fn_X12_areAlike_11 at h
  unfold w_X12_areAlike_11
  exact ⟨g_N, ft_X12_areAlike_16 hok hQ g_N _ _ _ _ _ _ h⟩
set_option maxRecDepth 100000 in
set_option maxHeartbeats 4000000 in
theorem ft_X12_areAlike {o : Nat} {ra : Nat → Nat} {s0 : h_S} (hok : r_ok o ra s0) {Q : Int32 → h_S → Prop} {r : Int32} {t : r_T} {s : r_T} {x1 : Int32} {x2 : Int32} {x3 : Int32} {x4 : Int32} (h : fn_X12_areAlike x1 x2 x3 x4 s = some (r, t)) (hQ : Q r (r_emb s0 o ra t)) : w_X12_areAlike o x1 x2 x3 x4 (r_emb s0 o ra s) Q := by
  unfold fn_X12_areAlike at h
  unfold w_X12_areAlike
  refine fg_ite Iff.rfl (fun d => ?_) (fun d => ?_)
  · have h := fg_if_t d h
    exact ft_X12_areAlike_11 hok hQ h
  · have h := fg_if_e d h
    exact ft_X12_areAlike_11 hok hQ h
set_option maxRecDepth 100000 in
set_option maxHeartbeats 4000000 in
theorem ft_X12_link_28 {o : Nat} {ra : Nat → Nat} {s0 : h_S} (hok : r_ok o ra s0) {Q : Int32 → h_S → Prop} {r : Int32} {t : r_T} (hQ : Q r (r_emb s0 o ra t)) {s : r_T} (h : fn_X12_link_28 s = some (r, t)) : w_X12_link_28 Q o (r_emb s0 o ra s) := by
  unfold fn_X12_link_28 at h
  unfold w_X12_link_28
  refine ⟨hok.1, ?_⟩
  obtain ⟨p3, s2, e_s2, h⟩ := fg_b_s h
  refine ft_X12_refused hok e_s2 ?_
  obtain ⟨q, q2⟩ := fg_ret h
  subst q
  subst q2
  exact hQ
set_option maxRecDepth 100000 in
set_option maxHeartbeats 4000000 in
theorem ft_X12_link_72 {o : Nat} {ra : Nat → Nat} {s0 : h_S} (hok : r_ok o ra s0) {Q : Int32 → h_S → Prop} {r : Int32} {t : r_T} (hQ : Q r (r_emb s0 o ra t)) {s : r_T} (h : fn_X12_link_72 s = some (r, t)) : w_X12_link_72 Q o (r_emb s0 o ra s) := by
  unfold fn_X12_link_72 at h
  unfold w_X12_link_72
  refine ⟨hok.1, ?_⟩
  obtain ⟨p3, s2, e_s2, h⟩ := fg_b_s h
  refine ft_X12_refused hok e_s2 ?_
  obtain ⟨q, q2⟩ := fg_ret h
  subst q
  subst q2
  exact hQ
set_option maxRecDepth 100000 in
set_option maxHeartbeats 4000000 in
theorem ft_X12_link_250 {o : Nat} {ra : Nat → Nat} {s0 : h_S} (hok : r_ok o ra s0) {Q : Int32 → h_S → Prop} {r : Int32} {t : r_T} (hQ : Q r (r_emb s0 o ra t)) {s : r_T} {y0 : Int32} {y1 : Int32} (h : fn_X12_link_250 y0 y1 s = some (r, t)) : w_X12_link_250 Q o y0 y1 (some (ra 86)) (r_emb s0 o ra s) := by
  unfold fn_X12_link_250 at h
  unfold w_X12_link_250
  refine ⟨ra 86, rfl, ?_⟩
  refine ⟨fr_k86 hok, ?_⟩
  obtain ⟨c, h⟩ := fg_g_s h
  refine ⟨fr_vp (fr_n86 hok) c, ?_⟩
  obtain ⟨s4, e_s4, h⟩ := fg_let_s h
  intro S_s4
  have z_s4 : S_s4 = r_emb s0 o ra s4 := by rw [e_s4]; exact fr_s86 hok _ _
  clear_value S_s4
  subst z_s4
  refine ⟨hok.1, ?_⟩
  try simp -zeta only [e_io]
  obtain ⟨s6, e_s6, h⟩ := fg_let_s h
  intro S_s6
  have z_s6 : S_s6 = r_emb s0 o ra s6 := by rw [e_s6]; exact e_so _ _
  clear_value S_s6
  subst z_s6
  try simp -zeta only [e_io]
  obtain ⟨p8, s7, e_s7, h⟩ := fg_b_s h
  refine ft_X12_acted hok e_s7 ?_
  refine ⟨hok.1, ?_⟩
  obtain ⟨p11, s10, e_s10, h⟩ := fg_b_s h
  refine ft_X12_refused hok e_s10 ?_
  obtain ⟨q, q2⟩ := fg_ret h
  subst q
  subst q2
  exact hQ
set_option maxRecDepth 100000 in
set_option maxHeartbeats 4000000 in
theorem ft_X12_link_229 {o : Nat} {ra : Nat → Nat} {s0 : h_S} (hok : r_ok o ra s0) {Q : Int32 → h_S → Prop} {r : Int32} {t : r_T} (hQ : Q r (r_emb s0 o ra t)) {s : r_T} {x1 : Int32} {x4 : Int32} {y0 : Int32} {y1 : Int32} (h : fn_X12_link_229 x1 x4 y0 y1 s = some (r, t)) : w_X12_link_229 Q o x1 x4 y0 y1 (some (ra 85)) (r_emb s0 o ra s) := by
  unfold fn_X12_link_229 at h
  unfold w_X12_link_229
  refine ⟨ra 85, rfl, ?_⟩
  refine ⟨fr_k85 hok, ?_⟩
  obtain ⟨c, h⟩ := fg_g_s h
  refine ⟨fr_vp (fr_n85 hok) c, ?_⟩
  obtain ⟨s4, e_s4, h⟩ := fg_let_s h
  intro S_s4
  have z_s4 : S_s4 = r_emb s0 o ra s4 := by rw [e_s4]; exact fr_s85 hok _ _
  clear_value S_s4
  subst z_s4
  refine ⟨hok.1, ?_⟩
  refine fg_ite Iff.rfl (fun d => ?_) (fun d => ?_)
  · have h := fg_if_t d h
    try simp -zeta only [e_io]
    rw [fr_r86 hok]
    exact ft_X12_link_250 hok hQ h
  · have h := fg_if_e d h
    try simp -zeta only [e_io]
    rw [fr_r86 hok]
    exact ft_X12_link_250 hok hQ h
set_option maxRecDepth 100000 in
set_option maxHeartbeats 4000000 in
theorem ft_X12_link_203 {o : Nat} {ra : Nat → Nat} {s0 : h_S} (hok : r_ok o ra s0) {Q : Int32 → h_S → Prop} {r : Int32} {t : r_T} (hQ : Q r (r_emb s0 o ra t)) {s : r_T} {x1 : Int32} {x4 : Int32} {x5 : Int32} {y0 : Int32} {y1 : Int32} (h : fn_X12_link_203 x1 x4 x5 y0 y1 s = some (r, t)) : w_X12_link_203 Q o x1 x4 x5 y0 y1 (some (ra 84)) (r_emb s0 o ra s) := by
  unfold fn_X12_link_203 at h
  unfold w_X12_link_203
  refine ⟨ra 84, rfl, ?_⟩
  refine ⟨fr_k84 hok, ?_⟩
  obtain ⟨c, h⟩ := fg_g_s h
  refine ⟨fr_vp (fr_n84 hok) c, ?_⟩
  obtain ⟨s4, e_s4, h⟩ := fg_let_s h
  intro S_s4
  have z_s4 : S_s4 = r_emb s0 o ra s4 := by rw [e_s4]; exact fr_s84 hok _ _
  clear_value S_s4
  subst z_s4
  refine ⟨hok.1, ?_⟩
  refine fg_ite Iff.rfl (fun d => ?_) (fun d => ?_)
  · have h := fg_if_t d h
    refine ⟨ra 83, fr_r83 hok, ?_⟩
    refine ⟨fr_k83 hok, ?_⟩
    obtain ⟨c, h⟩ := fg_g_s h
    refine ⟨fr_vp (fr_n83 hok) c, ?_⟩
    try simp -zeta only [e_io, fr_i83 hok]
    rw [fr_r85 hok]
    exact ft_X12_link_229 hok hQ h
  · have h := fg_if_e d h
    try simp -zeta only [e_io]
    rw [fr_r85 hok]
    exact ft_X12_link_229 hok hQ h
set_option maxRecDepth 100000 in
set_option maxHeartbeats 4000000 in
theorem ft_X12_link_132 {o : Nat} {ra : Nat → Nat} {s0 : h_S} (hok : r_ok o ra s0) {Q : Int32 → h_S → Prop} {r : Int32} {t : r_T} (hQ : Q r (r_emb s0 o ra t)) {s : r_T} {x1 : Int32} {x2 : Int32} {x3 : Int32} {x4 : Int32} {x5 : Int32} (h : fn_X12_link_132 x1 x2 x3 x4 x5 s = some (r, t)) : w_X12_link_132 Q o x1 x2 x3 x4 x5 (r_emb s0 o ra s) := by
  unfold fn_X12_link_132 at h
  unfold w_X12_link_132
  refine ⟨hok.1, ?_⟩
  try simp -zeta only [e_io]
  refine fg_ite Iff.rfl (fun d => ?_) (fun d => ?_)
  · have h := fg_if_t d h
    obtain ⟨p20, s19, e_s19, h⟩ := fg_b_s h
    refine ft_X12_refused hok e_s19 ?_
    obtain ⟨q, q2⟩ := fg_ret h
    subst q
    subst q2
    exact hQ
  · have h := fg_if_e d h
    refine ⟨ra 81, fr_r81 hok, ?_⟩
    refine ⟨fr_k81 hok, ?_⟩
    try simp -zeta only [e_io]
    obtain ⟨c, h⟩ := fg_g_s h
    refine ⟨fr_vp (fr_n81 hok) c, ?_⟩
    try simp -zeta only [e_io]
    obtain ⟨s6, e_s6, h⟩ := fg_let_s h
    intro S_s6
    have z_s6 : S_s6 = r_emb s0 o ra s6 := by rw [e_s6]; exact fr_s81 hok _ _
    clear_value S_s6
    subst z_s6
    refine ⟨ra 82, fr_r82 hok, ?_⟩
    refine ⟨fr_k82 hok, ?_⟩
    try simp -zeta only [e_io]
    obtain ⟨c, h⟩ := fg_g_s h
    refine ⟨fr_vp (fr_n82 hok) c, ?_⟩
    try simp -zeta only [e_io]
    obtain ⟨s10, e_s10, h⟩ := fg_let_s h
    intro S_s10
    have z_s10 : S_s10 = r_emb s0 o ra s10 := by rw [e_s10]; exact fr_s82 hok _ _
    clear_value S_s10
    subst z_s10
    refine ⟨ra 83, fr_r83 hok, ?_⟩
    refine ⟨fr_k83 hok, ?_⟩
    try simp -zeta only [e_io]
    obtain ⟨c, h⟩ := fg_g_s h
    refine ⟨fr_vp (fr_n83 hok) c, ?_⟩
    try simp -zeta only [e_io]
    obtain ⟨s14, e_s14, h⟩ := fg_let_s h
    intro S_s14
    have z_s14 : S_s14 = r_emb s0 o ra s14 := by rw [e_s14]; exact fr_s83 hok _ _
    clear_value S_s14
    subst z_s14
    refine fg_ite Iff.rfl (fun d => ?_) (fun d => ?_)
    · have h := fg_if_t d h
      refine ⟨ra 82, fr_r82 hok, ?_⟩
      refine ⟨fr_k82 hok, ?_⟩
      obtain ⟨c, h⟩ := fg_g_s h
      refine ⟨fr_vp (fr_n82 hok) c, ?_⟩
      try simp -zeta only [e_io, fr_i82 hok]
      rw [fr_r84 hok]
      exact ft_X12_link_203 hok hQ h
    · have h := fg_if_e d h
      try simp -zeta only [e_io]
      rw [fr_r84 hok]
      exact ft_X12_link_203 hok hQ h
