set_option maxRecDepth 100000 in
set_option maxHeartbeats 4000000 in
theorem b_X12_init_752 {X : h_X} (hX : h_ok X cX12_init 2 RX12 1 20) {Q : h_S → Prop} (hE : h_end X none (h_QV (x_Z X) Q)) (hN : (x_me X).name = "<init>") : ∀ (n : Nat) (o0 : Nat) (x1 : Int32) (s : h_S) (bc bs : Nat), w_X12_init_752 Q n o0 x1 s bc bs → h_V X 2 752 [(0, pR (some o0)), (1, pI x1)] [] s bc bs := by
  intro n
  induction n with
  | zero => intro _ _ s bc bs h; exact h.elim
  | succ n hK752 =>
    intro o0 x1 s bc bs h
    have h : w_X12_init_752b Q (w_X12_init_752 Q n) o0 x1 s bc bs := h
    unfold w_X12_init_752b at h
    refine v_iload_n hX dX12_init_752 1 rfl rfl ?_
    refine v_iconst (v := 4) hX dX12_init_753 (by decide) ?_
    refine v_icmp_ge (tgt := 770) hX dX12_init_754 (by decide) (fun c1 => ?_) (fun c1 => ?_)
    · have h := h_T c1 h
      exact v_vret hX hE dX12_init_770 h
    · have h := h_E c1 h
      refine v_aload_n hX dX12_init_757 0 rfl rfl ?_
      obtain ⟨k2, h⟩ := h
      refine v_getR hX dX12_init_758 f_RX12_258 rfl k2 ?_
      refine v_iload_n hX dX12_init_761 1 rfl rfl ?_
      refine v_iconst (v := -1) hX dX12_init_762 (by decide) ?_
      obtain ⟨a3, e_a3, h⟩ := h
      refine v_nn2 e_a3 ?_
      obtain ⟨k4, h⟩ := h
      obtain ⟨i5, h⟩ := h
      refine v_iast hX dX12_init_763 k4 i5 ?_
      refine v_iinc (c := 1) (lv' := [(1, _), (0, _)]) hX dX12_init_764 1 rfl (by decide) (by decide) rfl ?_
      refine v_goto (tgt := 752) hX dX12_init_767 (by decide) ?_
      refine v_pick [1, 0] rfl ?_
      exact hK752 _ _ _ _ _ h
set_option maxRecDepth 100000 in
set_option maxHeartbeats 4000000 in
theorem b_X12_init_731 {X : h_X} (hX : h_ok X cX12_init 2 RX12 1 20) {Q : h_S → Prop} (hE : h_end X none (h_QV (x_Z X) Q)) (hN : (x_me X).name = "<init>") : ∀ (n : Nat) (o0 : Nat) (x1 : Int32) (s : h_S) (bc bs : Nat), w_X12_init_731 Q n o0 x1 s bc bs → h_V X 2 731 [(0, pR (some o0)), (1, pI x1)] [] s bc bs := by
  intro n
  induction n with
  | zero => intro _ _ s bc bs h; exact h.elim
  | succ n hK731 =>
    intro o0 x1 s bc bs h
    have h : w_X12_init_731b Q (w_X12_init_731 Q n) o0 x1 s bc bs := h
    unfold w_X12_init_731b at h
    refine v_iload_n hX dX12_init_731 1 rfl rfl ?_
    refine v_bipush (v := 12) hX dX12_init_732 (by decide) ?_
    refine v_icmp_ge (tgt := 750) hX dX12_init_734 (by decide) (fun c1 => ?_) (fun c1 => ?_)
    · have h := h_T c1 h
      refine v_iconst (v := 0) hX dX12_init_750 (by decide) ?_
      refine v_istore_n (lv' := [(1, _), (0, _)]) hX dX12_init_751 rfl (by decide) rfl ?_
      refine v_pick [1, 0] rfl ?_
      obtain ⟨n, h⟩ := h
      exact b_X12_init_752 hX hE hN n _ _ _ _ _ h
    · have h := h_E c1 h
      refine v_aload_n hX dX12_init_737 0 rfl rfl ?_
      obtain ⟨k2, h⟩ := h
      refine v_getR hX dX12_init_738 f_RX12_25 rfl k2 ?_
      refine v_iload_n hX dX12_init_741 1 rfl rfl ?_
      refine v_iconst (v := -1) hX dX12_init_742 (by decide) ?_
      obtain ⟨a3, e_a3, h⟩ := h
      refine v_nn2 e_a3 ?_
      obtain ⟨k4, h⟩ := h
      obtain ⟨i5, h⟩ := h
      refine v_iast hX dX12_init_743 k4 i5 ?_
      refine v_iinc (c := 1) (lv' := [(1, _), (0, _)]) hX dX12_init_744 1 rfl (by decide) (by decide) rfl ?_
      refine v_goto (tgt := 731) hX dX12_init_747 (by decide) ?_
      refine v_pick [1, 0] rfl ?_
      exact hK731 _ _ _ _ _ h
set_option maxRecDepth 100000 in
set_option maxHeartbeats 4000000 in
theorem m_X12_init {Z : h_Z} {o0 : Nat} {s : h_S} {mc ms : Nat} {Q : h_S → Prop} (h : w_X12_init o0 s mc ms Q) : h_M Z yX12_init cX12_init 2 none 1 20 [pR (some o0)] s mc ms (h_QV Z Q) := by
  refine h_M.of (by decide) (Nat.le_of_ble_eq_true rfl) (fun X hZ hX hE hI => ?_)
  subst hZ
  have hN : (x_me X).name = "<init>" := hI.symm
  unfold w_X12_init at h
  show h_V X 2 0 [(0, pR (some o0))] [] s mc ms
  refine v_aload_n hX dX12_init_0 0 rfl rfl ?_
  refine v_objInit hX dX12_init_1 oi_RX12_1 (Nat.le_of_ble_eq_true rfl) (by decide) ?_
  refine v_aload_n hX dX12_init_4 0 rfl rfl ?_
  refine v_sipush (v := 1201) hX dX12_init_5 (by decide) ?_
  obtain ⟨b3, b4, h⟩ := h
  refine v_newI (N := 1201) hX dX12_init_8 ac_int (by decide) (by decide) (by decide) b3 b4 (fun q1 k2 => ?_)
  have h := h q1 k2
  obtain ⟨k8, h⟩ := h
  refine v_putFR hX dX12_init_10 f_RX12_7 g_RX12_7 rfl (Or.inr ⟨_, rfl⟩) hN k8 ?_
  refine v_aload_n hX dX12_init_13 0 rfl rfl ?_
  refine v_sipush (v := 1200) hX dX12_init_14 (by decide) ?_
  obtain ⟨b12, b13, h⟩ := h
  refine v_newI (N := 1200) hX dX12_init_17 ac_int (by decide) (by decide) (by decide) b12 b13 (fun q10 k11 => ?_)
  have h := h q10 k11
  obtain ⟨k17, h⟩ := h
  refine v_putFR hX dX12_init_19 f_RX12_13 g_RX12_13 rfl (Or.inr ⟨_, rfl⟩) hN k17 ?_
  refine v_aload_n hX dX12_init_22 0 rfl rfl ?_
  refine v_sipush (v := 1200) hX dX12_init_23 (by decide) ?_
  obtain ⟨b21, b22, h⟩ := h
  refine v_newI (N := 1200) hX dX12_init_26 ac_int (by decide) (by decide) (by decide) b21 b22 (fun q19 k20 => ?_)
  have h := h q19 k20
  obtain ⟨k26, h⟩ := h
  refine v_putFR hX dX12_init_28 f_RX12_16 g_RX12_16 rfl (Or.inr ⟨_, rfl⟩) hN k26 ?_
  refine v_aload_n hX dX12_init_31 0 rfl rfl ?_
  refine v_sipush (v := 1200) hX dX12_init_32 (by decide) ?_
  obtain ⟨b30, b31, h⟩ := h
  refine v_newI (N := 1200) hX dX12_init_35 ac_int (by decide) (by decide) (by decide) b30 b31 (fun q28 k29 => ?_)
  have h := h q28 k29
  obtain ⟨k35, h⟩ := h
  refine v_putFR hX dX12_init_37 f_RX12_19 g_RX12_19 rfl (Or.inr ⟨_, rfl⟩) hN k35 ?_
  refine v_aload_n hX dX12_init_40 0 rfl rfl ?_
  refine v_bipush (v := 12) hX dX12_init_41 (by decide) ?_
  obtain ⟨b39, b40, h⟩ := h
  refine v_newI (N := 12) hX dX12_init_43 ac_int (by decide) (by decide) (by decide) b39 b40 (fun q37 k38 => ?_)
  have h := h q37 k38
  obtain ⟨k44, h⟩ := h
  refine v_putFR hX dX12_init_45 f_RX12_22 g_RX12_22 rfl (Or.inr ⟨_, rfl⟩) hN k44 ?_
  refine v_aload_n hX dX12_init_48 0 rfl rfl ?_
  refine v_bipush (v := 12) hX dX12_init_49 (by decide) ?_
  obtain ⟨b48, b49, h⟩ := h
  refine v_newI (N := 12) hX dX12_init_51 ac_int (by decide) (by decide) (by decide) b48 b49 (fun q46 k47 => ?_)
  have h := h q46 k47
  obtain ⟨k53, h⟩ := h
  refine v_putFR hX dX12_init_53 f_RX12_25 g_RX12_25 rfl (Or.inr ⟨_, rfl⟩) hN k53 ?_
  refine v_aload_n hX dX12_init_56 0 rfl rfl ?_
  refine v_sipush (v := 1200) hX dX12_init_57 (by decide) ?_
  obtain ⟨b57, b58, h⟩ := h
  refine v_newI (N := 1200) hX dX12_init_60 ac_int (by decide) (by decide) (by decide) b57 b58 (fun q55 k56 => ?_)
  have h := h q55 k56
  obtain ⟨k62, h⟩ := h
  refine v_putFR hX dX12_init_62 f_RX12_28 g_RX12_28 rfl (Or.inr ⟨_, rfl⟩) hN k62 ?_
  refine v_aload_n hX dX12_init_65 0 rfl rfl ?_
  refine v_sipush (v := 1200) hX dX12_init_66 (by decide) ?_
  obtain ⟨b66, b67, h⟩ := h
  refine v_newI (N := 1200) hX dX12_init_69 ac_int (by decide) (by decide) (by decide) b66 b67 (fun q64 k65 => ?_)
  have h := h q64 k65
  obtain ⟨k71, h⟩ := h
  refine v_putFR hX dX12_init_71 f_RX12_31 g_RX12_31 rfl (Or.inr ⟨_, rfl⟩) hN k71 ?_
  refine v_aload_n hX dX12_init_74 0 rfl rfl ?_
  refine v_sipush (v := 1200) hX dX12_init_75 (by decide) ?_
  obtain ⟨b75, b76, h⟩ := h
  refine v_newI (N := 1200) hX dX12_init_78 ac_int (by decide) (by decide) (by decide) b75 b76 (fun q73 k74 => ?_)
  have h := h q73 k74
  obtain ⟨k80, h⟩ := h
  refine v_putFR hX dX12_init_80 f_RX12_34 g_RX12_34 rfl (Or.inr ⟨_, rfl⟩) hN k80 ?_
  refine v_aload_n hX dX12_init_83 0 rfl rfl ?_
  refine v_sipush (v := 1200) hX dX12_init_84 (by decide) ?_
  obtain ⟨b84, b85, h⟩ := h
  refine v_newI (N := 1200) hX dX12_init_87 ac_int (by decide) (by decide) (by decide) b84 b85 (fun q82 k83 => ?_)
  have h := h q82 k83
  obtain ⟨k89, h⟩ := h
  refine v_putFR hX dX12_init_89 f_RX12_37 g_RX12_37 rfl (Or.inr ⟨_, rfl⟩) hN k89 ?_
  refine v_aload_n hX dX12_init_92 0 rfl rfl ?_
  refine v_sipush (v := 28800) hX dX12_init_93 (by decide) ?_
  obtain ⟨b93, b94, h⟩ := h
  refine v_newI (N := 28800) hX dX12_init_96 ac_int (by decide) (by decide) (by decide) b93 b94 (fun q91 k92 => ?_)
  have h := h q91 k92
  obtain ⟨k98, h⟩ := h
  refine v_putFR hX dX12_init_98 f_RX12_40 g_RX12_40 rfl (Or.inr ⟨_, rfl⟩) hN k98 ?_
  refine v_aload_n hX dX12_init_101 0 rfl rfl ?_
  refine v_sipush (v := 28800) hX dX12_init_102 (by decide) ?_
  obtain ⟨b102, b103, h⟩ := h
  refine v_newI (N := 28800) hX dX12_init_105 ac_int (by decide) (by decide) (by decide) b102 b103 (fun q100 k101 => ?_)
  have h := h q100 k101
  obtain ⟨k107, h⟩ := h
  refine v_putFR hX dX12_init_107 f_RX12_43 g_RX12_43 rfl (Or.inr ⟨_, rfl⟩) hN k107 ?_
  refine v_aload_n hX dX12_init_110 0 rfl rfl ?_
  refine v_sipush (v := 28800) hX dX12_init_111 (by decide) ?_
  obtain ⟨b111, b112, h⟩ := h
  refine v_newI (N := 28800) hX dX12_init_114 ac_int (by decide) (by decide) (by decide) b111 b112 (fun q109 k110 => ?_)
  have h := h q109 k110
  obtain ⟨k116, h⟩ := h
  refine v_putFR hX dX12_init_116 f_RX12_46 g_RX12_46 rfl (Or.inr ⟨_, rfl⟩) hN k116 ?_
  refine v_aload_n hX dX12_init_119 0 rfl rfl ?_
  refine v_sipush (v := 28800) hX dX12_init_120 (by decide) ?_
  obtain ⟨b120, b121, h⟩ := h
  refine v_newI (N := 28800) hX dX12_init_123 ac_int (by decide) (by decide) (by decide) b120 b121 (fun q118 k119 => ?_)
  have h := h q118 k119
  obtain ⟨k125, h⟩ := h
  refine v_putFR hX dX12_init_125 f_RX12_49 g_RX12_49 rfl (Or.inr ⟨_, rfl⟩) hN k125 ?_
  refine v_aload_n hX dX12_init_128 0 rfl rfl ?_
  refine v_sipush (v := 28800) hX dX12_init_129 (by decide) ?_
  obtain ⟨b129, b130, h⟩ := h
  refine v_newI (N := 28800) hX dX12_init_132 ac_int (by decide) (by decide) (by decide) b129 b130 (fun q127 k128 => ?_)
  have h := h q127 k128
  obtain ⟨k134, h⟩ := h
  refine v_putFR hX dX12_init_134 f_RX12_52 g_RX12_52 rfl (Or.inr ⟨_, rfl⟩) hN k134 ?_
  refine v_aload_n hX dX12_init_137 0 rfl rfl ?_
  refine v_sipush (v := 500) hX dX12_init_138 (by decide) ?_
  obtain ⟨b138, b139, h⟩ := h
  refine v_newI (N := 500) hX dX12_init_141 ac_int (by decide) (by decide) (by decide) b138 b139 (fun q136 k137 => ?_)
  have h := h q136 k137
  obtain ⟨k143, h⟩ := h
  refine v_putFR hX dX12_init_143 f_RX12_55 g_RX12_55 rfl (Or.inr ⟨_, rfl⟩) hN k143 ?_
  refine v_aload_n hX dX12_init_146 0 rfl rfl ?_
  refine v_sipush (v := 500) hX dX12_init_147 (by decide) ?_
  obtain ⟨b147, b148, h⟩ := h
  refine v_newI (N := 500) hX dX12_init_150 ac_int (by decide) (by decide) (by decide) b147 b148 (fun q145 k146 => ?_)
  have h := h q145 k146
  obtain ⟨k152, h⟩ := h
  refine v_putFR hX dX12_init_152 f_RX12_58 g_RX12_58 rfl (Or.inr ⟨_, rfl⟩) hN k152 ?_
  refine v_aload_n hX dX12_init_155 0 rfl rfl ?_
  refine v_sipush (v := 500) hX dX12_init_156 (by decide) ?_
  obtain ⟨b156, b157, h⟩ := h
  refine v_newI (N := 500) hX dX12_init_159 ac_int (by decide) (by decide) (by decide) b156 b157 (fun q154 k155 => ?_)
  have h := h q154 k155
  obtain ⟨k161, h⟩ := h
  refine v_putFR hX dX12_init_161 f_RX12_61 g_RX12_61 rfl (Or.inr ⟨_, rfl⟩) hN k161 ?_
  refine v_aload_n hX dX12_init_164 0 rfl rfl ?_
  refine v_sipush (v := 500) hX dX12_init_165 (by decide) ?_
  obtain ⟨b165, b166, h⟩ := h
  refine v_newI (N := 500) hX dX12_init_168 ac_int (by decide) (by decide) (by decide) b165 b166 (fun q163 k164 => ?_)
  have h := h q163 k164
  obtain ⟨k170, h⟩ := h
  refine v_putFR hX dX12_init_170 f_RX12_64 g_RX12_64 rfl (Or.inr ⟨_, rfl⟩) hN k170 ?_
  refine v_aload_n hX dX12_init_173 0 rfl rfl ?_
  refine v_sipush (v := 500) hX dX12_init_174 (by decide) ?_
  obtain ⟨b174, b175, h⟩ := h
  refine v_newI (N := 500) hX dX12_init_177 ac_int (by decide) (by decide) (by decide) b174 b175 (fun q172 k173 => ?_)
  have h := h q172 k173
  obtain ⟨k179, h⟩ := h
  refine v_putFR hX dX12_init_179 f_RX12_67 g_RX12_67 rfl (Or.inr ⟨_, rfl⟩) hN k179 ?_
  refine v_aload_n hX dX12_init_182 0 rfl rfl ?_
  refine v_iconst (v := 5) hX dX12_init_183 (by decide) ?_
  obtain ⟨b183, b184, h⟩ := h
  refine v_newI (N := 5) hX dX12_init_184 ac_int (by decide) (by decide) (by decide) b183 b184 (fun q181 k182 => ?_)
  have h := h q181 k182
  obtain ⟨k188, h⟩ := h
  refine v_putFR hX dX12_init_186 f_RX12_70 g_RX12_70 rfl (Or.inr ⟨_, rfl⟩) hN k188 ?_
  refine v_aload_n hX dX12_init_189 0 rfl rfl ?_
  refine v_iconst (v := 5) hX dX12_init_190 (by decide) ?_
  obtain ⟨b192, b193, h⟩ := h
  refine v_newI (N := 5) hX dX12_init_191 ac_int (by decide) (by decide) (by decide) b192 b193 (fun q190 k191 => ?_)
  have h := h q190 k191
  obtain ⟨k197, h⟩ := h
  refine v_putFR hX dX12_init_193 f_RX12_73 g_RX12_73 rfl (Or.inr ⟨_, rfl⟩) hN k197 ?_
  refine v_aload_n hX dX12_init_196 0 rfl rfl ?_
  refine v_iconst (v := 5) hX dX12_init_197 (by decide) ?_
  obtain ⟨b201, b202, h⟩ := h
  refine v_newI (N := 5) hX dX12_init_198 ac_int (by decide) (by decide) (by decide) b201 b202 (fun q199 k200 => ?_)
  have h := h q199 k200
  obtain ⟨k206, h⟩ := h
  refine v_putFR hX dX12_init_200 f_RX12_76 g_RX12_76 rfl (Or.inr ⟨_, rfl⟩) hN k206 ?_
  refine v_aload_n hX dX12_init_203 0 rfl rfl ?_
  refine v_iconst (v := 5) hX dX12_init_204 (by decide) ?_
  obtain ⟨b210, b211, h⟩ := h
  refine v_newI (N := 5) hX dX12_init_205 ac_int (by decide) (by decide) (by decide) b210 b211 (fun q208 k209 => ?_)
  have h := h q208 k209
  obtain ⟨k215, h⟩ := h
  refine v_putFR hX dX12_init_207 f_RX12_79 g_RX12_79 rfl (Or.inr ⟨_, rfl⟩) hN k215 ?_
  refine v_aload_n hX dX12_init_210 0 rfl rfl ?_
  refine v_iconst (v := 5) hX dX12_init_211 (by decide) ?_
  obtain ⟨b219, b220, h⟩ := h
  refine v_newI (N := 5) hX dX12_init_212 ac_int (by decide) (by decide) (by decide) b219 b220 (fun q217 k218 => ?_)
  have h := h q217 k218
  obtain ⟨k224, h⟩ := h
  refine v_putFR hX dX12_init_214 f_RX12_82 g_RX12_82 rfl (Or.inr ⟨_, rfl⟩) hN k224 ?_
  refine v_aload_n hX dX12_init_217 0 rfl rfl ?_
  refine v_iconst (v := 5) hX dX12_init_218 (by decide) ?_
  obtain ⟨b228, b229, h⟩ := h
  refine v_newI (N := 5) hX dX12_init_219 ac_int (by decide) (by decide) (by decide) b228 b229 (fun q226 k227 => ?_)
  have h := h q226 k227
  obtain ⟨k233, h⟩ := h
  refine v_putFR hX dX12_init_221 f_RX12_85 g_RX12_85 rfl (Or.inr ⟨_, rfl⟩) hN k233 ?_
  refine v_aload_n hX dX12_init_224 0 rfl rfl ?_
  refine v_iconst (v := 5) hX dX12_init_225 (by decide) ?_
  obtain ⟨b237, b238, h⟩ := h
  refine v_newI (N := 5) hX dX12_init_226 ac_int (by decide) (by decide) (by decide) b237 b238 (fun q235 k236 => ?_)
  have h := h q235 k236
  obtain ⟨k242, h⟩ := h
  refine v_putFR hX dX12_init_228 f_RX12_88 g_RX12_88 rfl (Or.inr ⟨_, rfl⟩) hN k242 ?_
  refine v_aload_n hX dX12_init_231 0 rfl rfl ?_
  refine v_sipush (v := 300) hX dX12_init_232 (by decide) ?_
  obtain ⟨b246, b247, h⟩ := h
  refine v_newI (N := 300) hX dX12_init_235 ac_int (by decide) (by decide) (by decide) b246 b247 (fun q244 k245 => ?_)
  have h := h q244 k245
  obtain ⟨k251, h⟩ := h
  refine v_putFR hX dX12_init_237 f_RX12_91 g_RX12_91 rfl (Or.inr ⟨_, rfl⟩) hN k251 ?_
  refine v_aload_n hX dX12_init_240 0 rfl rfl ?_
  refine v_sipush (v := 300) hX dX12_init_241 (by decide) ?_
  obtain ⟨b255, b256, h⟩ := h
  refine v_newI (N := 300) hX dX12_init_244 ac_int (by decide) (by decide) (by decide) b255 b256 (fun q253 k254 => ?_)
  have h := h q253 k254
  obtain ⟨k260, h⟩ := h
  refine v_putFR hX dX12_init_246 f_RX12_94 g_RX12_94 rfl (Or.inr ⟨_, rfl⟩) hN k260 ?_
  refine v_aload_n hX dX12_init_249 0 rfl rfl ?_
  refine v_sipush (v := 300) hX dX12_init_250 (by decide) ?_
  obtain ⟨b264, b265, h⟩ := h
  refine v_newI (N := 300) hX dX12_init_253 ac_int (by decide) (by decide) (by decide) b264 b265 (fun q262 k263 => ?_)
  have h := h q262 k263
  obtain ⟨k269, h⟩ := h
  refine v_putFR hX dX12_init_255 f_RX12_97 g_RX12_97 rfl (Or.inr ⟨_, rfl⟩) hN k269 ?_
  refine v_aload_n hX dX12_init_258 0 rfl rfl ?_
  refine v_sipush (v := 1500) hX dX12_init_259 (by decide) ?_
  obtain ⟨b273, b274, h⟩ := h
  refine v_newI (N := 1500) hX dX12_init_262 ac_int (by decide) (by decide) (by decide) b273 b274 (fun q271 k272 => ?_)
  have h := h q271 k272
  obtain ⟨k278, h⟩ := h
  refine v_putFR hX dX12_init_264 f_RX12_100 g_RX12_100 rfl (Or.inr ⟨_, rfl⟩) hN k278 ?_
  refine v_aload_n hX dX12_init_267 0 rfl rfl ?_
  refine v_bipush (v := 60) hX dX12_init_268 (by decide) ?_
  obtain ⟨b282, b283, h⟩ := h
  refine v_newI (N := 60) hX dX12_init_270 ac_int (by decide) (by decide) (by decide) b282 b283 (fun q280 k281 => ?_)
  have h := h q280 k281
  obtain ⟨k287, h⟩ := h
  refine v_putFR hX dX12_init_272 f_RX12_103 g_RX12_103 rfl (Or.inr ⟨_, rfl⟩) hN k287 ?_
  refine v_aload_n hX dX12_init_275 0 rfl rfl ?_
  refine v_bipush (v := 60) hX dX12_init_276 (by decide) ?_
  obtain ⟨b291, b292, h⟩ := h
  refine v_newI (N := 60) hX dX12_init_278 ac_int (by decide) (by decide) (by decide) b291 b292 (fun q289 k290 => ?_)
  have h := h q289 k290
  obtain ⟨k296, h⟩ := h
  refine v_putFR hX dX12_init_280 f_RX12_106 g_RX12_106 rfl (Or.inr ⟨_, rfl⟩) hN k296 ?_
  refine v_aload_n hX dX12_init_283 0 rfl rfl ?_
  refine v_bipush (v := 60) hX dX12_init_284 (by decide) ?_
  obtain ⟨b300, b301, h⟩ := h
  refine v_newI (N := 60) hX dX12_init_286 ac_int (by decide) (by decide) (by decide) b300 b301 (fun q298 k299 => ?_)
  have h := h q298 k299
  obtain ⟨k305, h⟩ := h
  refine v_putFR hX dX12_init_288 f_RX12_109 g_RX12_109 rfl (Or.inr ⟨_, rfl⟩) hN k305 ?_
  refine v_aload_n hX dX12_init_291 0 rfl rfl ?_
  refine v_bipush (v := 60) hX dX12_init_292 (by decide) ?_
  obtain ⟨b309, b310, h⟩ := h
  refine v_newI (N := 60) hX dX12_init_294 ac_int (by decide) (by decide) (by decide) b309 b310 (fun q307 k308 => ?_)
  have h := h q307 k308
  obtain ⟨k314, h⟩ := h
  refine v_putFR hX dX12_init_296 f_RX12_112 g_RX12_112 rfl (Or.inr ⟨_, rfl⟩) hN k314 ?_
  refine v_aload_n hX dX12_init_299 0 rfl rfl ?_
  refine v_bipush (v := 60) hX dX12_init_300 (by decide) ?_
  obtain ⟨b318, b319, h⟩ := h
  refine v_newI (N := 60) hX dX12_init_302 ac_int (by decide) (by decide) (by decide) b318 b319 (fun q316 k317 => ?_)
  have h := h q316 k317
  obtain ⟨k323, h⟩ := h
  refine v_putFR hX dX12_init_304 f_RX12_115 g_RX12_115 rfl (Or.inr ⟨_, rfl⟩) hN k323 ?_
  refine v_aload_n hX dX12_init_307 0 rfl rfl ?_
  refine v_bipush (v := 60) hX dX12_init_308 (by decide) ?_
  obtain ⟨b327, b328, h⟩ := h
  refine v_newI (N := 60) hX dX12_init_310 ac_int (by decide) (by decide) (by decide) b327 b328 (fun q325 k326 => ?_)
  have h := h q325 k326
  obtain ⟨k332, h⟩ := h
  refine v_putFR hX dX12_init_312 f_RX12_118 g_RX12_118 rfl (Or.inr ⟨_, rfl⟩) hN k332 ?_
  refine v_aload_n hX dX12_init_315 0 rfl rfl ?_
  refine v_bipush (v := 60) hX dX12_init_316 (by decide) ?_
  obtain ⟨b336, b337, h⟩ := h
  refine v_newI (N := 60) hX dX12_init_318 ac_int (by decide) (by decide) (by decide) b336 b337 (fun q334 k335 => ?_)
  have h := h q334 k335
  obtain ⟨k341, h⟩ := h
  refine v_putFR hX dX12_init_320 f_RX12_121 g_RX12_121 rfl (Or.inr ⟨_, rfl⟩) hN k341 ?_
  refine v_aload_n hX dX12_init_323 0 rfl rfl ?_
  refine v_bipush (v := 60) hX dX12_init_324 (by decide) ?_
  obtain ⟨b345, b346, h⟩ := h
  refine v_newI (N := 60) hX dX12_init_326 ac_int (by decide) (by decide) (by decide) b345 b346 (fun q343 k344 => ?_)
  have h := h q343 k344
  obtain ⟨k350, h⟩ := h
  refine v_putFR hX dX12_init_328 f_RX12_124 g_RX12_124 rfl (Or.inr ⟨_, rfl⟩) hN k350 ?_
  refine v_aload_n hX dX12_init_331 0 rfl rfl ?_
  refine v_bipush (v := 60) hX dX12_init_332 (by decide) ?_
  obtain ⟨b354, b355, h⟩ := h
  refine v_newI (N := 60) hX dX12_init_334 ac_int (by decide) (by decide) (by decide) b354 b355 (fun q352 k353 => ?_)
  have h := h q352 k353
  obtain ⟨k359, h⟩ := h
  refine v_putFR hX dX12_init_336 f_RX12_127 g_RX12_127 rfl (Or.inr ⟨_, rfl⟩) hN k359 ?_
  refine v_aload_n hX dX12_init_339 0 rfl rfl ?_
  refine v_bipush (v := 60) hX dX12_init_340 (by decide) ?_
  obtain ⟨b363, b364, h⟩ := h
  refine v_newI (N := 60) hX dX12_init_342 ac_int (by decide) (by decide) (by decide) b363 b364 (fun q361 k362 => ?_)
  have h := h q361 k362
  obtain ⟨k368, h⟩ := h
  refine v_putFR hX dX12_init_344 f_RX12_130 g_RX12_130 rfl (Or.inr ⟨_, rfl⟩) hN k368 ?_
  refine v_aload_n hX dX12_init_347 0 rfl rfl ?_
  refine v_bipush (v := 60) hX dX12_init_348 (by decide) ?_
  obtain ⟨b372, b373, h⟩ := h
  refine v_newI (N := 60) hX dX12_init_350 ac_int (by decide) (by decide) (by decide) b372 b373 (fun q370 k371 => ?_)
  have h := h q370 k371
  obtain ⟨k377, h⟩ := h
  refine v_putFR hX dX12_init_352 f_RX12_133 g_RX12_133 rfl (Or.inr ⟨_, rfl⟩) hN k377 ?_
  refine v_aload_n hX dX12_init_355 0 rfl rfl ?_
  refine v_bipush (v := 60) hX dX12_init_356 (by decide) ?_
  obtain ⟨b381, b382, h⟩ := h
  refine v_newI (N := 60) hX dX12_init_358 ac_int (by decide) (by decide) (by decide) b381 b382 (fun q379 k380 => ?_)
  have h := h q379 k380
  obtain ⟨k386, h⟩ := h
  refine v_putFR hX dX12_init_360 f_RX12_136 g_RX12_136 rfl (Or.inr ⟨_, rfl⟩) hN k386 ?_
  refine v_aload_n hX dX12_init_363 0 rfl rfl ?_
  refine v_bipush (v := 12) hX dX12_init_364 (by decide) ?_
  obtain ⟨b390, b391, h⟩ := h
  refine v_newI (N := 12) hX dX12_init_366 ac_int (by decide) (by decide) (by decide) b390 b391 (fun q388 k389 => ?_)
  have h := h q388 k389
  obtain ⟨k395, h⟩ := h
  refine v_putFR hX dX12_init_368 f_RX12_139 g_RX12_139 rfl (Or.inr ⟨_, rfl⟩) hN k395 ?_
  refine v_aload_n hX dX12_init_371 0 rfl rfl ?_
  refine v_bipush (v := 16) hX dX12_init_372 (by decide) ?_
  obtain ⟨b399, b400, h⟩ := h
  refine v_newI (N := 16) hX dX12_init_374 ac_int (by decide) (by decide) (by decide) b399 b400 (fun q397 k398 => ?_)
  have h := h q397 k398
  obtain ⟨k404, h⟩ := h
  refine v_putFR hX dX12_init_376 f_RX12_142 g_RX12_142 rfl (Or.inr ⟨_, rfl⟩) hN k404 ?_
  refine v_aload_n hX dX12_init_379 0 rfl rfl ?_
  refine v_bipush (v := 16) hX dX12_init_380 (by decide) ?_
  obtain ⟨b408, b409, h⟩ := h
  refine v_newI (N := 16) hX dX12_init_382 ac_int (by decide) (by decide) (by decide) b408 b409 (fun q406 k407 => ?_)
  have h := h q406 k407
  obtain ⟨k413, h⟩ := h
  refine v_putFR hX dX12_init_384 f_RX12_145 g_RX12_145 rfl (Or.inr ⟨_, rfl⟩) hN k413 ?_
  refine v_aload_n hX dX12_init_387 0 rfl rfl ?_
  refine v_bipush (v := 16) hX dX12_init_388 (by decide) ?_
  obtain ⟨b417, b418, h⟩ := h
  refine v_newI (N := 16) hX dX12_init_390 ac_int (by decide) (by decide) (by decide) b417 b418 (fun q415 k416 => ?_)
  have h := h q415 k416
  obtain ⟨k422, h⟩ := h
  refine v_putFR hX dX12_init_392 f_RX12_148 g_RX12_148 rfl (Or.inr ⟨_, rfl⟩) hN k422 ?_
  refine v_aload_n hX dX12_init_395 0 rfl rfl ?_
  refine v_bipush (v := 16) hX dX12_init_396 (by decide) ?_
  obtain ⟨b426, b427, h⟩ := h
  refine v_newI (N := 16) hX dX12_init_398 ac_int (by decide) (by decide) (by decide) b426 b427 (fun q424 k425 => ?_)
  have h := h q424 k425
  obtain ⟨k431, h⟩ := h
  refine v_putFR hX dX12_init_400 f_RX12_151 g_RX12_151 rfl (Or.inr ⟨_, rfl⟩) hN k431 ?_
  refine v_aload_n hX dX12_init_403 0 rfl rfl ?_
  refine v_sipush (v := 300) hX dX12_init_404 (by decide) ?_
  obtain ⟨b435, b436, h⟩ := h
  refine v_newI (N := 300) hX dX12_init_407 ac_int (by decide) (by decide) (by decide) b435 b436 (fun q433 k434 => ?_)
  have h := h q433 k434
  obtain ⟨k440, h⟩ := h
  refine v_putFR hX dX12_init_409 f_RX12_154 g_RX12_154 rfl (Or.inr ⟨_, rfl⟩) hN k440 ?_
  refine v_aload_n hX dX12_init_412 0 rfl rfl ?_
  refine v_sipush (v := 300) hX dX12_init_413 (by decide) ?_
  obtain ⟨b444, b445, h⟩ := h
  refine v_newI (N := 300) hX dX12_init_416 ac_int (by decide) (by decide) (by decide) b444 b445 (fun q442 k443 => ?_)
  have h := h q442 k443
  obtain ⟨k449, h⟩ := h
  refine v_putFR hX dX12_init_418 f_RX12_157 g_RX12_157 rfl (Or.inr ⟨_, rfl⟩) hN k449 ?_
  refine v_aload_n hX dX12_init_421 0 rfl rfl ?_
  refine v_ldc hX dX12_init_422 k_RX12_160 ?_
  obtain ⟨b453, b454, h⟩ := h
  refine v_newI (N := 90601) hX dX12_init_424 ac_int (by decide) (by decide) (by decide) b453 b454 (fun q451 k452 => ?_)
  have h := h q451 k452
  obtain ⟨k458, h⟩ := h
  refine v_putFR hX dX12_init_426 f_RX12_161 g_RX12_161 rfl (Or.inr ⟨_, rfl⟩) hN k458 ?_
  refine v_aload_n hX dX12_init_429 0 rfl rfl ?_
  refine v_sipush (v := 500) hX dX12_init_430 (by decide) ?_
  obtain ⟨b462, b463, h⟩ := h
  refine v_newI (N := 500) hX dX12_init_433 ac_int (by decide) (by decide) (by decide) b462 b463 (fun q460 k461 => ?_)
  have h := h q460 k461
  obtain ⟨k467, h⟩ := h
  refine v_putFR hX dX12_init_435 f_RX12_164 g_RX12_164 rfl (Or.inr ⟨_, rfl⟩) hN k467 ?_
  refine v_aload_n hX dX12_init_438 0 rfl rfl ?_
  refine v_sipush (v := 600) hX dX12_init_439 (by decide) ?_
  obtain ⟨b471, b472, h⟩ := h
  refine v_newI (N := 600) hX dX12_init_442 ac_int (by decide) (by decide) (by decide) b471 b472 (fun q469 k470 => ?_)
  have h := h q469 k470
  obtain ⟨k476, h⟩ := h
  refine v_putFR hX dX12_init_444 f_RX12_167 g_RX12_167 rfl (Or.inr ⟨_, rfl⟩) hN k476 ?_
  refine v_aload_n hX dX12_init_447 0 rfl rfl ?_
  refine v_iconst (v := 2) hX dX12_init_448 (by decide) ?_
  obtain ⟨b480, b481, h⟩ := h
  refine v_newI (N := 2) hX dX12_init_449 ac_int (by decide) (by decide) (by decide) b480 b481 (fun q478 k479 => ?_)
  have h := h q478 k479
  obtain ⟨k485, h⟩ := h
  refine v_putFR hX dX12_init_451 f_RX12_170 g_RX12_170 rfl (Or.inr ⟨_, rfl⟩) hN k485 ?_
  refine v_aload_n hX dX12_init_454 0 rfl rfl ?_
  refine v_sipush (v := 604) hX dX12_init_455 (by decide) ?_
  obtain ⟨b489, b490, h⟩ := h
  refine v_newI (N := 604) hX dX12_init_458 ac_int (by decide) (by decide) (by decide) b489 b490 (fun q487 k488 => ?_)
  have h := h q487 k488
  obtain ⟨k494, h⟩ := h
  refine v_putFR hX dX12_init_460 f_RX12_173 g_RX12_173 rfl (Or.inr ⟨_, rfl⟩) hN k494 ?_
  refine v_aload_n hX dX12_init_463 0 rfl rfl ?_
  refine v_sipush (v := 602) hX dX12_init_464 (by decide) ?_
  obtain ⟨b498, b499, h⟩ := h
  refine v_newZ (N := 602) hX dX12_init_467 ac_boolean (by decide) (by decide) (by decide) b498 b499 (fun q496 k497 => ?_)
  have h := h q496 k497
  obtain ⟨k503, h⟩ := h
  refine v_putFR hX dX12_init_469 f_RX12_176 g_RX12_176 rfl (Or.inr ⟨_, rfl⟩) hN k503 ?_
  refine v_aload_n hX dX12_init_472 0 rfl rfl ?_
  refine v_sipush (v := 604) hX dX12_init_473 (by decide) ?_
  obtain ⟨b507, b508, h⟩ := h
  refine v_newI (N := 604) hX dX12_init_476 ac_int (by decide) (by decide) (by decide) b507 b508 (fun q505 k506 => ?_)
  have h := h q505 k506
  obtain ⟨k512, h⟩ := h
  refine v_putFR hX dX12_init_478 f_RX12_180 g_RX12_180 rfl (Or.inr ⟨_, rfl⟩) hN k512 ?_
  refine v_aload_n hX dX12_init_481 0 rfl rfl ?_
  refine v_sipush (v := 3000) hX dX12_init_482 (by decide) ?_
  obtain ⟨b516, b517, h⟩ := h
  refine v_newI (N := 3000) hX dX12_init_485 ac_int (by decide) (by decide) (by decide) b516 b517 (fun q514 k515 => ?_)
  have h := h q514 k515
  obtain ⟨k521, h⟩ := h
  refine v_putFR hX dX12_init_487 f_RX12_183 g_RX12_183 rfl (Or.inr ⟨_, rfl⟩) hN k521 ?_
  refine v_aload_n hX dX12_init_490 0 rfl rfl ?_
  refine v_bipush (v := 12) hX dX12_init_491 (by decide) ?_
  obtain ⟨b525, b526, h⟩ := h
  refine v_newI (N := 12) hX dX12_init_493 ac_int (by decide) (by decide) (by decide) b525 b526 (fun q523 k524 => ?_)
  have h := h q523 k524
  obtain ⟨k530, h⟩ := h
  refine v_putFR hX dX12_init_495 f_RX12_186 g_RX12_186 rfl (Or.inr ⟨_, rfl⟩) hN k530 ?_
  refine v_aload_n hX dX12_init_498 0 rfl rfl ?_
  refine v_bipush (v := 12) hX dX12_init_499 (by decide) ?_
  obtain ⟨b534, b535, h⟩ := h
  refine v_newI (N := 12) hX dX12_init_501 ac_int (by decide) (by decide) (by decide) b534 b535 (fun q532 k533 => ?_)
  have h := h q532 k533
  obtain ⟨k539, h⟩ := h
  refine v_putFR hX dX12_init_503 f_RX12_189 g_RX12_189 rfl (Or.inr ⟨_, rfl⟩) hN k539 ?_
  refine v_aload_n hX dX12_init_506 0 rfl rfl ?_
  refine v_bipush (v := 12) hX dX12_init_507 (by decide) ?_
  obtain ⟨b543, b544, h⟩ := h
  refine v_newI (N := 12) hX dX12_init_509 ac_int (by decide) (by decide) (by decide) b543 b544 (fun q541 k542 => ?_)
  have h := h q541 k542
  obtain ⟨k548, h⟩ := h
  refine v_putFR hX dX12_init_511 f_RX12_192 g_RX12_192 rfl (Or.inr ⟨_, rfl⟩) hN k548 ?_
  refine v_aload_n hX dX12_init_514 0 rfl rfl ?_
  refine v_bipush (v := 12) hX dX12_init_515 (by decide) ?_
  obtain ⟨b552, b553, h⟩ := h
  refine v_newZ (N := 12) hX dX12_init_517 ac_boolean (by decide) (by decide) (by decide) b552 b553 (fun q550 k551 => ?_)
  have h := h q550 k551
  obtain ⟨k557, h⟩ := h
  refine v_putFR hX dX12_init_519 f_RX12_195 g_RX12_195 rfl (Or.inr ⟨_, rfl⟩) hN k557 ?_
  refine v_aload_n hX dX12_init_522 0 rfl rfl ?_
  refine v_sipush (v := 7200) hX dX12_init_523 (by decide) ?_
  obtain ⟨b561, b562, h⟩ := h
  refine v_newI (N := 7200) hX dX12_init_526 ac_int (by decide) (by decide) (by decide) b561 b562 (fun q559 k560 => ?_)
  have h := h q559 k560
  obtain ⟨k566, h⟩ := h
  refine v_putFR hX dX12_init_528 f_RX12_198 g_RX12_198 rfl (Or.inr ⟨_, rfl⟩) hN k566 ?_
  refine v_aload_n hX dX12_init_531 0 rfl rfl ?_
  refine v_bipush (v := 24) hX dX12_init_532 (by decide) ?_
  obtain ⟨b570, b571, h⟩ := h
  refine v_newI (N := 24) hX dX12_init_534 ac_int (by decide) (by decide) (by decide) b570 b571 (fun q568 k569 => ?_)
  have h := h q568 k569
  obtain ⟨k575, h⟩ := h
  refine v_putFR hX dX12_init_536 f_RX12_201 g_RX12_201 rfl (Or.inr ⟨_, rfl⟩) hN k575 ?_
  refine v_aload_n hX dX12_init_539 0 rfl rfl ?_
  refine v_bipush (v := 24) hX dX12_init_540 (by decide) ?_
  obtain ⟨b579, b580, h⟩ := h
  refine v_newI (N := 24) hX dX12_init_542 ac_int (by decide) (by decide) (by decide) b579 b580 (fun q577 k578 => ?_)
  have h := h q577 k578
  obtain ⟨k584, h⟩ := h
  refine v_putFR hX dX12_init_544 f_RX12_204 g_RX12_204 rfl (Or.inr ⟨_, rfl⟩) hN k584 ?_
  refine v_aload_n hX dX12_init_547 0 rfl rfl ?_
  refine v_bipush (v := 24) hX dX12_init_548 (by decide) ?_
  obtain ⟨b588, b589, h⟩ := h
  refine v_newI (N := 24) hX dX12_init_550 ac_int (by decide) (by decide) (by decide) b588 b589 (fun q586 k587 => ?_)
  have h := h q586 k587
  obtain ⟨k593, h⟩ := h
  refine v_putFR hX dX12_init_552 f_RX12_207 g_RX12_207 rfl (Or.inr ⟨_, rfl⟩) hN k593 ?_
  refine v_aload_n hX dX12_init_555 0 rfl rfl ?_
  refine v_bipush (v := 24) hX dX12_init_556 (by decide) ?_
  obtain ⟨b597, b598, h⟩ := h
  refine v_newI (N := 24) hX dX12_init_558 ac_int (by decide) (by decide) (by decide) b597 b598 (fun q595 k596 => ?_)
  have h := h q595 k596
  obtain ⟨k602, h⟩ := h
  refine v_putFR hX dX12_init_560 f_RX12_210 g_RX12_210 rfl (Or.inr ⟨_, rfl⟩) hN k602 ?_
  refine v_aload_n hX dX12_init_563 0 rfl rfl ?_
  refine v_bipush (v := 24) hX dX12_init_564 (by decide) ?_
  obtain ⟨b606, b607, h⟩ := h
  refine v_newI (N := 24) hX dX12_init_566 ac_int (by decide) (by decide) (by decide) b606 b607 (fun q604 k605 => ?_)
  have h := h q604 k605
  obtain ⟨k611, h⟩ := h
  refine v_putFR hX dX12_init_568 f_RX12_213 g_RX12_213 rfl (Or.inr ⟨_, rfl⟩) hN k611 ?_
  refine v_aload_n hX dX12_init_571 0 rfl rfl ?_
  refine v_bipush (v := 24) hX dX12_init_572 (by decide) ?_
  obtain ⟨b615, b616, h⟩ := h
  refine v_newI (N := 24) hX dX12_init_574 ac_int (by decide) (by decide) (by decide) b615 b616 (fun q613 k614 => ?_)
  have h := h q613 k614
  obtain ⟨k620, h⟩ := h
  refine v_putFR hX dX12_init_576 f_RX12_216 g_RX12_216 rfl (Or.inr ⟨_, rfl⟩) hN k620 ?_
  refine v_aload_n hX dX12_init_579 0 rfl rfl ?_
  refine v_bipush (v := 20) hX dX12_init_580 (by decide) ?_
  obtain ⟨b624, b625, h⟩ := h
  refine v_newI (N := 20) hX dX12_init_582 ac_int (by decide) (by decide) (by decide) b624 b625 (fun q622 k623 => ?_)
  have h := h q622 k623
  obtain ⟨k629, h⟩ := h
  refine v_putFR hX dX12_init_584 f_RX12_219 g_RX12_219 rfl (Or.inr ⟨_, rfl⟩) hN k629 ?_
  refine v_aload_n hX dX12_init_587 0 rfl rfl ?_
  refine v_bipush (v := 20) hX dX12_init_588 (by decide) ?_
  obtain ⟨b633, b634, h⟩ := h
  refine v_newI (N := 20) hX dX12_init_590 ac_int (by decide) (by decide) (by decide) b633 b634 (fun q631 k632 => ?_)
  have h := h q631 k632
  obtain ⟨k638, h⟩ := h
  refine v_putFR hX dX12_init_592 f_RX12_222 g_RX12_222 rfl (Or.inr ⟨_, rfl⟩) hN k638 ?_
  refine v_aload_n hX dX12_init_595 0 rfl rfl ?_
  refine v_bipush (v := 20) hX dX12_init_596 (by decide) ?_
  obtain ⟨b642, b643, h⟩ := h
  refine v_newI (N := 20) hX dX12_init_598 ac_int (by decide) (by decide) (by decide) b642 b643 (fun q640 k641 => ?_)
  have h := h q640 k641
  obtain ⟨k647, h⟩ := h
  refine v_putFR hX dX12_init_600 f_RX12_225 g_RX12_225 rfl (Or.inr ⟨_, rfl⟩) hN k647 ?_
  refine v_aload_n hX dX12_init_603 0 rfl rfl ?_
  refine v_bipush (v := 20) hX dX12_init_604 (by decide) ?_
  obtain ⟨b651, b652, h⟩ := h
  refine v_newI (N := 20) hX dX12_init_606 ac_int (by decide) (by decide) (by decide) b651 b652 (fun q649 k650 => ?_)
  have h := h q649 k650
  obtain ⟨k656, h⟩ := h
  refine v_putFR hX dX12_init_608 f_RX12_228 g_RX12_228 rfl (Or.inr ⟨_, rfl⟩) hN k656 ?_
  refine v_aload_n hX dX12_init_611 0 rfl rfl ?_
  refine v_bipush (v := 20) hX dX12_init_612 (by decide) ?_
  obtain ⟨b660, b661, h⟩ := h
  refine v_newI (N := 20) hX dX12_init_614 ac_int (by decide) (by decide) (by decide) b660 b661 (fun q658 k659 => ?_)
  have h := h q658 k659
  obtain ⟨k665, h⟩ := h
  refine v_putFR hX dX12_init_616 f_RX12_231 g_RX12_231 rfl (Or.inr ⟨_, rfl⟩) hN k665 ?_
  refine v_aload_n hX dX12_init_619 0 rfl rfl ?_
  refine v_bipush (v := 20) hX dX12_init_620 (by decide) ?_
  obtain ⟨b669, b670, h⟩ := h
  refine v_newI (N := 20) hX dX12_init_622 ac_int (by decide) (by decide) (by decide) b669 b670 (fun q667 k668 => ?_)
  have h := h q667 k668
  obtain ⟨k674, h⟩ := h
  refine v_putFR hX dX12_init_624 f_RX12_234 g_RX12_234 rfl (Or.inr ⟨_, rfl⟩) hN k674 ?_
  refine v_aload_n hX dX12_init_627 0 rfl rfl ?_
  refine v_bipush (v := 20) hX dX12_init_628 (by decide) ?_
  obtain ⟨b678, b679, h⟩ := h
  refine v_newI (N := 20) hX dX12_init_630 ac_int (by decide) (by decide) (by decide) b678 b679 (fun q676 k677 => ?_)
  have h := h q676 k677
  obtain ⟨k683, h⟩ := h
  refine v_putFR hX dX12_init_632 f_RX12_237 g_RX12_237 rfl (Or.inr ⟨_, rfl⟩) hN k683 ?_
  refine v_aload_n hX dX12_init_635 0 rfl rfl ?_
  refine v_bipush (v := 20) hX dX12_init_636 (by decide) ?_
  obtain ⟨b687, b688, h⟩ := h
  refine v_newI (N := 20) hX dX12_init_638 ac_int (by decide) (by decide) (by decide) b687 b688 (fun q685 k686 => ?_)
  have h := h q685 k686
  obtain ⟨k692, h⟩ := h
  refine v_putFR hX dX12_init_640 f_RX12_240 g_RX12_240 rfl (Or.inr ⟨_, rfl⟩) hN k692 ?_
  refine v_aload_n hX dX12_init_643 0 rfl rfl ?_
  refine v_bipush (v := 64) hX dX12_init_644 (by decide) ?_
  obtain ⟨b696, b697, h⟩ := h
  refine v_newI (N := 64) hX dX12_init_646 ac_int (by decide) (by decide) (by decide) b696 b697 (fun q694 k695 => ?_)
  have h := h q694 k695
  obtain ⟨k701, h⟩ := h
  refine v_putFR hX dX12_init_648 f_RX12_243 g_RX12_243 rfl (Or.inr ⟨_, rfl⟩) hN k701 ?_
  refine v_aload_n hX dX12_init_651 0 rfl rfl ?_
  refine v_sipush (v := 200) hX dX12_init_652 (by decide) ?_
  obtain ⟨b705, b706, h⟩ := h
  refine v_newI (N := 200) hX dX12_init_655 ac_int (by decide) (by decide) (by decide) b705 b706 (fun q703 k704 => ?_)
  have h := h q703 k704
  obtain ⟨k710, h⟩ := h
  refine v_putFR hX dX12_init_657 f_RX12_246 g_RX12_246 rfl (Or.inr ⟨_, rfl⟩) hN k710 ?_
  refine v_aload_n hX dX12_init_660 0 rfl rfl ?_
  refine v_sipush (v := 200) hX dX12_init_661 (by decide) ?_
  obtain ⟨b714, b715, h⟩ := h
  refine v_newI (N := 200) hX dX12_init_664 ac_int (by decide) (by decide) (by decide) b714 b715 (fun q712 k713 => ?_)
  have h := h q712 k713
  obtain ⟨k719, h⟩ := h
  refine v_putFR hX dX12_init_666 f_RX12_249 g_RX12_249 rfl (Or.inr ⟨_, rfl⟩) hN k719 ?_
  refine v_aload_n hX dX12_init_669 0 rfl rfl ?_
  refine v_sipush (v := 200) hX dX12_init_670 (by decide) ?_
  obtain ⟨b723, b724, h⟩ := h
  refine v_newI (N := 200) hX dX12_init_673 ac_int (by decide) (by decide) (by decide) b723 b724 (fun q721 k722 => ?_)
  have h := h q721 k722
  obtain ⟨k728, h⟩ := h
  refine v_putFR hX dX12_init_675 f_RX12_252 g_RX12_252 rfl (Or.inr ⟨_, rfl⟩) hN k728 ?_
  refine v_aload_n hX dX12_init_678 0 rfl rfl ?_
  refine v_sipush (v := 1024) hX dX12_init_679 (by decide) ?_
  obtain ⟨b732, b733, h⟩ := h
  refine v_newI (N := 1024) hX dX12_init_682 ac_int (by decide) (by decide) (by decide) b732 b733 (fun q730 k731 => ?_)
  have h := h q730 k731
  obtain ⟨k737, h⟩ := h
  refine v_putFR hX dX12_init_684 f_RX12_255 g_RX12_255 rfl (Or.inr ⟨_, rfl⟩) hN k737 ?_
  refine v_aload_n hX dX12_init_687 0 rfl rfl ?_
  refine v_iconst (v := 4) hX dX12_init_688 (by decide) ?_
  obtain ⟨b741, b742, h⟩ := h
  refine v_newI (N := 4) hX dX12_init_689 ac_int (by decide) (by decide) (by decide) b741 b742 (fun q739 k740 => ?_)
  have h := h q739 k740
  obtain ⟨k746, h⟩ := h
  refine v_putFR hX dX12_init_691 f_RX12_258 g_RX12_258 rfl (Or.inr ⟨_, rfl⟩) hN k746 ?_
  refine v_aload_n hX dX12_init_694 0 rfl rfl ?_
  refine v_iconst (v := 4) hX dX12_init_695 (by decide) ?_
  obtain ⟨b750, b751, h⟩ := h
  refine v_newI (N := 4) hX dX12_init_696 ac_int (by decide) (by decide) (by decide) b750 b751 (fun q748 k749 => ?_)
  have h := h q748 k749
  obtain ⟨k755, h⟩ := h
  refine v_putFR hX dX12_init_698 f_RX12_261 g_RX12_261 rfl (Or.inr ⟨_, rfl⟩) hN k755 ?_
  refine v_aload_n hX dX12_init_701 0 rfl rfl ?_
  refine v_sipush (v := 240) hX dX12_init_702 (by decide) ?_
  obtain ⟨b759, b760, h⟩ := h
  refine v_newI (N := 240) hX dX12_init_705 ac_int (by decide) (by decide) (by decide) b759 b760 (fun q757 k758 => ?_)
  have h := h q757 k758
  obtain ⟨k764, h⟩ := h
  refine v_putFR hX dX12_init_707 f_RX12_264 g_RX12_264 rfl (Or.inr ⟨_, rfl⟩) hN k764 ?_
  refine v_aload_n hX dX12_init_710 0 rfl rfl ?_
  refine v_bipush (v := 60) hX dX12_init_711 (by decide) ?_
  obtain ⟨b768, b769, h⟩ := h
  refine v_newI (N := 60) hX dX12_init_713 ac_int (by decide) (by decide) (by decide) b768 b769 (fun q766 k767 => ?_)
  have h := h q766 k767
  obtain ⟨k773, h⟩ := h
  refine v_putFR hX dX12_init_715 f_RX12_267 g_RX12_267 rfl (Or.inr ⟨_, rfl⟩) hN k773 ?_
  refine v_aload_n hX dX12_init_718 0 rfl rfl ?_
  refine v_bipush (v := 10) hX dX12_init_719 (by decide) ?_
  refine v_putI hX dX12_init_721 f_RX12_270 k773 ?_
  refine v_aload_n hX dX12_init_724 0 rfl rfl ?_
  refine v_iconst (v := 3) hX dX12_init_725 (by decide) ?_
  refine v_putI hX dX12_init_726 f_RX12_274 k773 ?_
  refine v_iconst (v := 0) hX dX12_init_729 (by decide) ?_
  refine v_istore_n (lv' := [(1, _), (0, _)]) hX dX12_init_730 rfl (by decide) rfl ?_
  refine v_pick [1, 0] rfl ?_
  obtain ⟨n, h⟩ := h
  exact b_X12_init_731 hX hE hN n _ _ _ _ _ h
set_option maxRecDepth 100000 in
set_option maxHeartbeats 4000000 in
theorem b_X12_in_18 {X : h_X} (hX : h_ok X cX12_in 6 RX12 0 0) {Q : Int32 → h_S → Prop} (hE : h_end X (some .boolean) (h_QI (x_Z X) Q)) {y0 : Int32} (s : h_S) (h : w_X12_in_18 Q y0 s) : h_V X 6 18 [] [pI y0] s 0 0 := by
  unfold w_X12_in_18 at h
  exact v_zret hX hE dX12_in_18 h.1 h.2
set_option maxRecDepth 100000 in
set_option maxHeartbeats 4000000 in
theorem b_X12_in_17 {X : h_X} (hX : h_ok X cX12_in 6 RX12 0 0) {Q : Int32 → h_S → Prop} (hE : h_end X (some .boolean) (h_QI (x_Z X) Q)) (s : h_S) (h : w_X12_in_17 Q s) : h_V X 6 17 [] [] s 0 0 := by
  unfold w_X12_in_17 at h
  refine v_iconst (v := 0) hX dX12_in_17 (by decide) ?_
  refine v_pick [] rfl ?_
  exact b_X12_in_18 hX hE _ h
set_option maxRecDepth 100000 in
set_option maxHeartbeats 4000000 in
theorem m_X12_in {Z : h_Z} {l0 : Int64} {l2 : Int64} {l4 : Int64} {s : h_S} {Q : Int32 → h_S → Prop} (h : w_X12_in l0 l2 l4 s Q) : h_M Z yX12_in cX12_in 6 (some .boolean) 0 0 [pL l0, pL l2, pL l4] s 0 0 (h_QI Z Q) := by
  refine h_M.of (by decide) (Nat.le_of_ble_eq_true rfl) (fun X hZ hX hE hI => ?_)
  subst hZ
  unfold w_X12_in at h
  show h_V X 6 0 [(0, pL l0), (2, pL l2), (4, pL l4)] [] s 0 0
  refine v_lload_n hX dX12_in_0 0 rfl rfl ?_
  refine v_lload_n hX dX12_in_1 1 rfl rfl ?_
  refine v_lcmp hX dX12_in_2 ?_
  refine v_if_lt (tgt := 17) hX dX12_in_3 (by decide) (fun c1 => ?_) (fun c1 => ?_)
  · have h := h_T c1 h
    refine v_pick [] rfl ?_
    exact b_X12_in_17 hX hE _ h
  · have h := h_E c1 h
    refine v_lload_n hX dX12_in_6 0 rfl rfl ?_
    refine v_lload hX dX12_in_7 2 rfl ?_
    refine v_lcmp hX dX12_in_9 ?_
    refine v_if_gt (tgt := 17) hX dX12_in_10 (by decide) (fun c2 => ?_) (fun c2 => ?_)
    · have h := h_T c2 h
      refine v_pick [] rfl ?_
      exact b_X12_in_17 hX hE _ h
    · have h := h_E c2 h
      refine v_iconst (v := 1) hX dX12_in_13 (by decide) ?_
      refine v_goto (tgt := 18) hX dX12_in_14 (by decide) ?_
      refine v_pick [] rfl ?_
      exact b_X12_in_18 hX hE _ h
set_option maxRecDepth 100000 in
set_option maxHeartbeats 4000000 in
theorem m_X12_lost {Z : h_Z} {s : h_S} {Q : Int64 → h_S → Prop} (h : w_X12_lost s Q) : h_M Z yX12_lost cX12_lost 0 (some .long) 0 0 [] s 0 0 (h_QL Z Q) := by
  refine h_M.of (by decide) (Nat.le_of_ble_eq_true rfl) (fun X hZ hX hE hI => ?_)
  subst hZ
  unfold w_X12_lost at h
  show h_V X 0 0 [] [] s 0 0
  refine v_ldc2 hX dX12_lost_0 k_RX12_277 ?_
  exact v_lret hX hE dX12_lost_3 h
set_option maxRecDepth 100000 in
set_option maxHeartbeats 4000000 in
theorem b_X12_hasBit_14 {X : h_X} (hX : h_ok X cX12_hasBit 2 RX12 0 0) {Q : Int32 → h_S → Prop} (hE : h_end X (some .boolean) (h_QI (x_Z X) Q)) {y0 : Int32} (s : h_S) (h : w_X12_hasBit_14 Q y0 s) : h_V X 2 14 [] [pI y0] s 0 0 := by
  unfold w_X12_hasBit_14 at h
  exact v_zret hX hE dX12_hasBit_14 h.1 h.2
set_option maxRecDepth 100000 in
set_option maxHeartbeats 4000000 in
theorem m_X12_hasBit {Z : h_Z} {x0 : Int32} {x1 : Int32} {s : h_S} {Q : Int32 → h_S → Prop} (h : w_X12_hasBit x0 x1 s Q) : h_M Z yX12_hasBit cX12_hasBit 2 (some .boolean) 0 0 [pI x0, pI x1] s 0 0 (h_QI Z Q) := by
  refine h_M.of (by decide) (Nat.le_of_ble_eq_true rfl) (fun X hZ hX hE hI => ?_)
  subst hZ
  unfold w_X12_hasBit at h
  show h_V X 2 0 [(0, pI x0), (1, pI x1)] [] s 0 0
  refine v_iload_n hX dX12_hasBit_0 0 rfl rfl ?_
  refine v_iload_n hX dX12_hasBit_1 1 rfl rfl ?_
  refine v_ishr hX dX12_hasBit_2 ?_
  refine v_iconst (v := 1) hX dX12_hasBit_3 (by decide) ?_
  refine v_iand hX dX12_hasBit_4 ?_
  refine v_iconst (v := 1) hX dX12_hasBit_5 (by decide) ?_
  refine v_icmp_ne (tgt := 13) hX dX12_hasBit_6 (by decide) (fun c1 => ?_) (fun c1 => ?_)
  · have h := h_E c1 h
    refine v_iconst (v := 0) hX dX12_hasBit_13 (by decide) ?_
    refine v_pick [] rfl ?_
    exact b_X12_hasBit_14 hX hE _ h
  · have h := h_T c1 h
    refine v_iconst (v := 1) hX dX12_hasBit_9 (by decide) ?_
    refine v_goto (tgt := 14) hX dX12_hasBit_10 (by decide) ?_
    refine v_pick [] rfl ?_
    exact b_X12_hasBit_14 hX hE _ h
set_option maxRecDepth 100000 in
set_option maxHeartbeats 4000000 in
theorem m_X12_mix {Z : h_Z} {x0 : Int32} {x1 : Int32} {s : h_S} {Q : Int32 → h_S → Prop} (h : w_X12_mix x0 x1 s Q) : h_M Z yX12_mix cX12_mix 3 (some .int) 0 0 [pI x0, pI x1] s 0 0 (h_QI Z Q) := by
  refine h_M.of (by decide) (Nat.le_of_ble_eq_true rfl) (fun X hZ hX hE hI => ?_)
  subst hZ
  unfold w_X12_mix at h
  show h_V X 3 0 [(0, pI x0), (1, pI x1)] [] s 0 0
  refine v_iload_n hX dX12_mix_0 0 rfl rfl ?_
  refine v_ldcw hX dX12_mix_1 k_RX12_279 ?_
  refine v_imul hX dX12_mix_4 ?_
  refine v_iload_n hX dX12_mix_5 1 rfl rfl ?_
  refine v_iadd hX dX12_mix_6 ?_
  refine v_istore_n (lv' := [(2, _), (0, _), (1, _)]) hX dX12_mix_7 rfl (by decide) rfl ?_
  refine v_iload_n hX dX12_mix_8 0 rfl rfl ?_
  refine v_iload_n hX dX12_mix_9 0 rfl rfl ?_
  refine v_bipush (v := 15) hX dX12_mix_10 (by decide) ?_
  refine v_iushr hX dX12_mix_12 ?_
  refine v_ixor hX dX12_mix_13 ?_
  refine v_ldcw hX dX12_mix_14 k_RX12_280 ?_
  refine v_imul hX dX12_mix_17 ?_
  refine v_istore_n (lv' := [(2, _), (0, _), (1, _)]) hX dX12_mix_18 rfl (by decide) rfl ?_
  refine v_iload_n hX dX12_mix_19 0 rfl rfl ?_
  refine v_iload_n hX dX12_mix_20 0 rfl rfl ?_
  refine v_bipush (v := 13) hX dX12_mix_21 (by decide) ?_
  refine v_iushr hX dX12_mix_23 ?_
  refine v_ixor hX dX12_mix_24 ?_
  exact v_iret hX hE dX12_mix_25 h
set_option maxRecDepth 100000 in
set_option maxHeartbeats 4000000 in
theorem m_X12_refused {Z : h_Z} {o0 : Nat} {x1 : Int32} {s : h_S} {Q : Int32 → h_S → Prop} (h : w_X12_refused o0 x1 s Q) : h_M Z yX12_refused cX12_refused 2 (some .int) 0 0 [pR (some o0), pI x1] s 0 0 (h_QI Z Q) := by
  refine h_M.of (by decide) (Nat.le_of_ble_eq_true rfl) (fun X hZ hX hE hI => ?_)
  subst hZ
  unfold w_X12_refused at h
  show h_V X 2 0 [(0, pR (some o0)), (1, pI x1)] [] s 0 0
  refine v_aload_n hX dX12_refused_0 0 rfl rfl ?_
  refine v_iconst (v := 0) hX dX12_refused_1 (by decide) ?_
  obtain ⟨k1, h⟩ := h
  refine v_putI hX dX12_refused_2 f_RX12_281 k1 ?_
  refine v_iload_n hX dX12_refused_5 1 rfl rfl ?_
  exact v_iret hX hE dX12_refused_6 h
set_option maxRecDepth 100000 in
set_option maxHeartbeats 4000000 in
theorem m_X12_failed {Z : h_Z} {o0 : Nat} {x1 : Int32} {s : h_S} {Q : Int32 → h_S → Prop} (h : w_X12_failed o0 x1 s Q) : h_M Z yX12_failed cX12_failed 2 (some .int) 0 0 [pR (some o0), pI x1] s 0 0 (h_QI Z Q) := by
  refine h_M.of (by decide) (Nat.le_of_ble_eq_true rfl) (fun X hZ hX hE hI => ?_)
  subst hZ
  unfold w_X12_failed at h
  show h_V X 2 0 [(0, pR (some o0)), (1, pI x1)] [] s 0 0
  refine v_aload_n hX dX12_failed_0 0 rfl rfl ?_
  refine v_iload_n hX dX12_failed_1 1 rfl rfl ?_
  obtain ⟨k1, h⟩ := h
  refine v_putI hX dX12_failed_2 f_RX12_281 k1 ?_
  refine v_bipush (v := -10) hX dX12_failed_5 (by decide) ?_
  refine v_iload_n hX dX12_failed_7 1 rfl rfl ?_
  refine v_isub hX dX12_failed_8 ?_
  exact v_iret hX hE dX12_failed_9 h
set_option maxRecDepth 100000 in
set_option maxHeartbeats 4000000 in
theorem m_X12_failedLong {Z : h_Z} {o0 : Nat} {x1 : Int32} {s : h_S} {Q : Int64 → h_S → Prop} (h : w_X12_failedLong o0 x1 s Q) : h_M Z yX12_failedLong cX12_failedLong 2 (some .long) 1 19 [pR (some o0), pI x1] s 0 0 (h_QL Z Q) := by
  refine h_M.of (by decide) (Nat.le_of_ble_eq_true rfl) (fun X hZ hX hE hI => ?_)
  subst hZ
  unfold w_X12_failedLong at h
  show h_V X 2 0 [(0, pR (some o0)), (1, pI x1)] [] s 0 0
  refine v_aload_n hX dX12_failedLong_0 0 rfl rfl ?_
  refine v_iload_n hX dX12_failedLong_1 1 rfl rfl ?_
  obtain ⟨k1, h⟩ := h
  refine v_putI hX dX12_failedLong_2 f_RX12_281 k1 ?_
  refine v_callSl0 hX dX12_failedLong_5 c_RX12_284 cS_X12_lost [] rfl rfl (Nat.le_of_ble_eq_true rfl) (by decide) (by decide)  (m_X12_lost h) (fun p4 s3 h => ?_)
  exact v_lret hX hE dX12_failedLong_8 h
set_option maxRecDepth 100000 in
set_option maxHeartbeats 4000000 in
theorem m_X12_acted {Z : h_Z} {o0 : Nat} {x1 : Int32} {s : h_S} {Q : Int32 → h_S → Prop} (h : w_X12_acted o0 x1 s Q) : h_M Z yX12_acted cX12_acted 2 (some .int) 1 22 [pR (some o0), pI x1] s 0 0 (h_QI Z Q) := by
  refine h_M.of (by decide) (Nat.le_of_ble_eq_true rfl) (fun X hZ hX hE hI => ?_)
  subst hZ
  unfold w_X12_acted at h
  show h_V X 2 0 [(0, pR (some o0)), (1, pI x1)] [] s 0 0
  refine v_aload_n hX dX12_acted_0 0 rfl rfl ?_
  refine v_dup hX dX12_acted_1 rfl ?_
  obtain ⟨k1, h⟩ := h
  refine v_getI hX dX12_acted_2 f_RX12_288 rfl k1 ?_
  refine v_iconst (v := 1) hX dX12_acted_5 (by decide) ?_
  refine v_iadd hX dX12_acted_6 ?_
  refine v_putI hX dX12_acted_7 f_RX12_288 k1 ?_
  refine v_aload_n hX dX12_acted_10 0 rfl rfl ?_
  refine v_getR hX dX12_acted_11 f_RX12_7 rfl k1 ?_
  refine v_aload_n hX dX12_acted_14 0 rfl rfl ?_
  refine v_getI hX dX12_acted_15 f_RX12_288 rfl k1 ?_
  refine v_aload_n hX dX12_acted_18 0 rfl rfl ?_
  refine v_getR hX dX12_acted_19 f_RX12_7 rfl k1 ?_
  refine v_aload_n hX dX12_acted_22 0 rfl rfl ?_
  refine v_getI hX dX12_acted_23 f_RX12_288 rfl k1 ?_
  refine v_iconst (v := 1) hX dX12_acted_26 (by decide) ?_
  refine v_isub hX dX12_acted_27 ?_
  obtain ⟨a3, e_a3, h⟩ := h
  refine v_nn1 e_a3 ?_
  obtain ⟨k4, h⟩ := h
  obtain ⟨i5, h⟩ := h
  refine v_iald hX dX12_acted_28 k4 i5 ?_
  refine v_iload_n hX dX12_acted_29 1 rfl rfl ?_
  refine v_callSi0 hX dX12_acted_30 c_RX12_291 cS_X12_mix [pI _, pI _] rfl rfl (Nat.le_of_ble_eq_true rfl) (by decide) (by decide)  (m_X12_mix h) (fun p7 s6 h => ?_)
  obtain ⟨a8, e_a8, h⟩ := h
  refine v_nn2 e_a8 ?_
  obtain ⟨k9, h⟩ := h
  obtain ⟨i10, h⟩ := h
  refine v_iast hX dX12_acted_33 k9 i10 ?_
  refine v_iload_n hX dX12_acted_34 1 rfl rfl ?_
  exact v_iret hX hE dX12_acted_35 h
set_option maxRecDepth 100000 in
set_option maxHeartbeats 4000000 in
theorem b_X12_noHand_21 {X : h_X} (hX : h_ok X cX12_noHand 2 RX12 1 25) {Q : Int32 → h_S → Prop} (hE : h_end X (some .boolean) (h_QI (x_Z X) Q)) {y0 : Int32} (s : h_S) (h : w_X12_noHand_21 Q y0 s) : h_V X 2 21 [] [pI y0] s 0 0 := by
  unfold w_X12_noHand_21 at h
  exact v_zret hX hE dX12_noHand_21 h.1 h.2
set_option maxRecDepth 100000 in
set_option maxHeartbeats 4000000 in
theorem m_X12_noHand {Z : h_Z} {o0 : Nat} {x1 : Int32} {s : h_S} {Q : Int32 → h_S → Prop} (h : w_X12_noHand o0 x1 s Q) : h_M Z yX12_noHand cX12_noHand 2 (some .boolean) 1 25 [pR (some o0), pI x1] s 0 0 (h_QI Z Q) := by
  refine h_M.of (by decide) (Nat.le_of_ble_eq_true rfl) (fun X hZ hX hE hI => ?_)
  subst hZ
  unfold w_X12_noHand at h
  show h_V X 2 0 [(0, pR (some o0)), (1, pI x1)] [] s 0 0
  refine v_iload_n hX dX12_noHand_0 1 rfl rfl ?_
  refine v_i2l hX dX12_noHand_1 ?_
  refine v_lconst (v := 0) hX dX12_noHand_2 (by decide) ?_
  refine v_aload_n hX dX12_noHand_3 0 rfl rfl ?_
  obtain ⟨k1, h⟩ := h
  refine v_getI hX dX12_noHand_4 f_RX12_295 rfl k1 ?_
  refine v_i2l hX dX12_noHand_7 ?_
  refine v_lconst (v := 1) hX dX12_noHand_8 (by decide) ?_
  refine v_lsub hX dX12_noHand_9 ?_
  refine v_callSi0 hX dX12_noHand_10 c_RX12_298 cS_X12_in [pL _, pL _, pL _] rfl rfl (Nat.le_of_ble_eq_true rfl) (by decide) (by decide)  (m_X12_in h) (fun p3 s2 h => ?_)
  refine v_if_ne (tgt := 20) hX dX12_noHand_13 (by decide) (fun c4 => ?_) (fun c4 => ?_)
  · have h := h_E c4 h
    refine v_iconst (v := 0) hX dX12_noHand_20 (by decide) ?_
    refine v_pick [] rfl ?_
    exact b_X12_noHand_21 hX hE _ h
  · have h := h_T c4 h
    refine v_iconst (v := 1) hX dX12_noHand_16 (by decide) ?_
    refine v_goto (tgt := 21) hX dX12_noHand_17 (by decide) ?_
    refine v_pick [] rfl ?_
    exact b_X12_noHand_21 hX hE _ h
set_option maxRecDepth 100000 in
set_option maxHeartbeats 4000000 in
theorem b_X12_noMoment_19 {X : h_X} (hX : h_ok X cX12_noMoment 2 RX12 1 25) {Q : Int32 → h_S → Prop} (hE : h_end X (some .boolean) (h_QI (x_Z X) Q)) {y0 : Int32} (s : h_S) (h : w_X12_noMoment_19 Q y0 s) : h_V X 2 19 [] [pI y0] s 0 0 := by
  unfold w_X12_noMoment_19 at h
  exact v_zret hX hE dX12_noMoment_19 h.1 h.2
set_option maxRecDepth 100000 in
set_option maxHeartbeats 4000000 in
theorem m_X12_noMoment {Z : h_Z} {o0 : Nat} {x1 : Int32} {s : h_S} {Q : Int32 → h_S → Prop} (h : w_X12_noMoment o0 x1 s Q) : h_M Z yX12_noMoment cX12_noMoment 2 (some .boolean) 1 25 [pR (some o0), pI x1] s 0 0 (h_QI Z Q) := by
  refine h_M.of (by decide) (Nat.le_of_ble_eq_true rfl) (fun X hZ hX hE hI => ?_)
  subst hZ
  unfold w_X12_noMoment at h
  show h_V X 2 0 [(0, pR (some o0)), (1, pI x1)] [] s 0 0
  refine v_iload_n hX dX12_noMoment_0 1 rfl rfl ?_
  refine v_i2l hX dX12_noMoment_1 ?_
  refine v_lconst (v := 0) hX dX12_noMoment_2 (by decide) ?_
  refine v_aload_n hX dX12_noMoment_3 0 rfl rfl ?_
  obtain ⟨k1, h⟩ := h
  refine v_getI hX dX12_noMoment_4 f_RX12_288 rfl k1 ?_
  refine v_i2l hX dX12_noMoment_7 ?_
  refine v_callSi0 hX dX12_noMoment_8 c_RX12_298 cS_X12_in [pL _, pL _, pL _] rfl rfl (Nat.le_of_ble_eq_true rfl) (by decide) (by decide)  (m_X12_in h) (fun p3 s2 h => ?_)
  refine v_if_ne (tgt := 18) hX dX12_noMoment_11 (by decide) (fun c4 => ?_) (fun c4 => ?_)
  · have h := h_E c4 h
    refine v_iconst (v := 0) hX dX12_noMoment_18 (by decide) ?_
    refine v_pick [] rfl ?_
    exact b_X12_noMoment_19 hX hE _ h
  · have h := h_T c4 h
    refine v_iconst (v := 1) hX dX12_noMoment_14 (by decide) ?_
    refine v_goto (tgt := 19) hX dX12_noMoment_15 (by decide) ?_
    refine v_pick [] rfl ?_
    exact b_X12_noMoment_19 hX hE _ h
set_option maxRecDepth 100000 in
set_option maxHeartbeats 4000000 in
theorem m_X12_hand {Z : h_Z} {o0 : Nat} {s : h_S} {Q : Int32 → h_S → Prop} (h : w_X12_hand o0 s Q) : h_M Z yX12_hand cX12_hand 1 (some .int) 2 43 [pR (some o0)] s 0 0 (h_QI Z Q) := by
  refine h_M.of (by decide) (Nat.le_of_ble_eq_true rfl) (fun X hZ hX hE hI => ?_)
  subst hZ
  unfold w_X12_hand at h
  show h_V X 1 0 [(0, pR (some o0))] [] s 0 0
  refine v_aload_n hX dX12_hand_0 0 rfl rfl ?_
  obtain ⟨k1, h⟩ := h
  refine v_getI hX dX12_hand_1 f_RX12_295 rfl k1 ?_
  refine v_bipush (v := 8) hX dX12_hand_4 (by decide) ?_
  refine v_icmp_ne (tgt := 12) hX dX12_hand_6 (by decide) (fun c2 => ?_) (fun c2 => ?_)
  · have h := h_E c2 h
    refine v_aload_n hX dX12_hand_12 0 rfl rfl ?_
    refine v_dup hX dX12_hand_13 rfl ?_
    refine v_getI hX dX12_hand_14 f_RX12_295 rfl k1 ?_
    refine v_iconst (v := 1) hX dX12_hand_17 (by decide) ?_
    refine v_iadd hX dX12_hand_18 ?_
    refine v_putI hX dX12_hand_19 f_RX12_295 k1 ?_
    refine v_aload_n hX dX12_hand_22 0 rfl rfl ?_
    refine v_aload_n hX dX12_hand_23 0 rfl rfl ?_
    refine v_getI hX dX12_hand_24 f_RX12_295 rfl k1 ?_
    refine v_iconst (v := 1) hX dX12_hand_27 (by decide) ?_
    refine v_isub hX dX12_hand_28 ?_
    refine v_callVi0 hX dX12_hand_29 c_RX12_302 cV_X12_acted (ci := 13) (T := TX12) (N := 115) rfl (by exact k1) [pI _] rfl rfl (Nat.le_of_ble_eq_true rfl) (by decide) (by decide)  (m_X12_acted h) (fun p5 s4 h => ?_)
    exact v_iret hX hE dX12_hand_32 h
  · have h := h_T c2 h
    refine v_bipush (v := -4) hX dX12_hand_9 (by decide) ?_
    exact v_iret hX hE dX12_hand_11 h
set_option maxRecDepth 100000 in
set_option maxHeartbeats 4000000 in
theorem b_X12_groupAt_38 {X : h_X} (hX : h_ok X cX12_groupAt 4 RX12 0 0) {Q : Int32 → h_S → Prop} (hE : h_end X (some .int) (h_QI (x_Z X) Q)) {K7 : Nat → Int32 → Int32 → Int32 → h_S → Prop} (hK7 : ∀ (o0 : Nat) (x1 : Int32) (x2 : Int32) (x3 : Int32) (s : h_S), K7 o0 x1 x2 x3 s → h_V X 4 7 [(0, pR (some o0)), (1, pI x1), (2, pI x2), (3, pI x3)] [] s 0 0) {o0 : Nat} {x1 : Int32} {x2 : Int32} {x3 : Int32} (s : h_S) (h : w_X12_groupAt_38 Q K7 o0 x1 x2 x3 s) : h_V X 4 38 [(0, pR (some o0)), (1, pI x1), (2, pI x2), (3, pI x3)] [] s 0 0 := by
  unfold w_X12_groupAt_38 at h
  refine v_iinc (c := -1) (lv' := [(3, _), (0, _), (1, _), (2, _)]) hX dX12_groupAt_38 3 rfl (by decide) (by decide) rfl ?_
  refine v_goto (tgt := 7) hX dX12_groupAt_41 (by decide) ?_
  refine v_pick [1, 2, 3, 0] rfl ?_
  exact hK7 _ _ _ _ _ h
set_option maxRecDepth 100000 in
set_option maxHeartbeats 4000000 in
theorem b_X12_groupAt_7 {X : h_X} (hX : h_ok X cX12_groupAt 4 RX12 0 0) {Q : Int32 → h_S → Prop} (hE : h_end X (some .int) (h_QI (x_Z X) Q)) : ∀ (n : Nat) (o0 : Nat) (x1 : Int32) (x2 : Int32) (x3 : Int32) (s : h_S), w_X12_groupAt_7 Q n o0 x1 x2 x3 s → h_V X 4 7 [(0, pR (some o0)), (1, pI x1), (2, pI x2), (3, pI x3)] [] s 0 0 := by
  intro n
  induction n with
  | zero => intro _ _ _ _ s h; exact h.elim
  | succ n hK7 =>
    intro o0 x1 x2 x3 s h
    have h : w_X12_groupAt_7b Q (w_X12_groupAt_7 Q n) o0 x1 x2 x3 s := h
    unfold w_X12_groupAt_7b at h
    refine v_iload_n hX dX12_groupAt_7 3 rfl rfl ?_
    refine v_if_lt (tgt := 44) hX dX12_groupAt_8 (by decide) (fun c1 => ?_) (fun c1 => ?_)
    · have h := h_T c1 h
      refine v_iconst (v := 0) hX dX12_groupAt_44 (by decide) ?_
      exact v_iret hX hE dX12_groupAt_45 h
    · have h := h_E c1 h
      refine v_aload_n hX dX12_groupAt_11 0 rfl rfl ?_
      obtain ⟨k2, h⟩ := h
      refine v_getR hX dX12_groupAt_12 f_RX12_13 rfl k2 ?_
      refine v_iload_n hX dX12_groupAt_15 3 rfl rfl ?_
      obtain ⟨a3, e_a3, h⟩ := h
      refine v_nn1 e_a3 ?_
      obtain ⟨k4, h⟩ := h
      obtain ⟨i5, h⟩ := h
      refine v_iald hX dX12_groupAt_16 k4 i5 ?_
      refine v_iload_n hX dX12_groupAt_17 1 rfl rfl ?_
      refine v_icmp_ne (tgt := 38) hX dX12_groupAt_18 (by decide) (fun c6 => ?_) (fun c6 => ?_)
      · have h := h_E c6 h
        refine v_pick [0, 1, 2, 3] rfl ?_
        exact b_X12_groupAt_38 hX hE hK7 _ h
      · have h := h_T c6 h
        refine v_aload_n hX dX12_groupAt_21 0 rfl rfl ?_
        refine v_getR hX dX12_groupAt_22 f_RX12_19 rfl k2 ?_
        refine v_iload_n hX dX12_groupAt_25 3 rfl rfl ?_
        obtain ⟨a7, e_a7, h⟩ := h
        refine v_nn1 e_a7 ?_
        obtain ⟨k8, h⟩ := h
        obtain ⟨i9, h⟩ := h
        refine v_iald hX dX12_groupAt_26 k8 i9 ?_
        refine v_iload_n hX dX12_groupAt_27 2 rfl rfl ?_
        refine v_icmp_gt (tgt := 38) hX dX12_groupAt_28 (by decide) (fun c10 => ?_) (fun c10 => ?_)
        · have h := h_T c10 h
          refine v_pick [0, 1, 2, 3] rfl ?_
          exact b_X12_groupAt_38 hX hE hK7 _ h
        · have h := h_E c10 h
          refine v_aload_n hX dX12_groupAt_31 0 rfl rfl ?_
          refine v_getR hX dX12_groupAt_32 f_RX12_16 rfl k2 ?_
          refine v_iload_n hX dX12_groupAt_35 3 rfl rfl ?_
          obtain ⟨a11, e_a11, h⟩ := h
          refine v_nn1 e_a11 ?_
          obtain ⟨k12, h⟩ := h
          obtain ⟨i13, h⟩ := h
          refine v_iald hX dX12_groupAt_36 k12 i13 ?_
          exact v_iret hX hE dX12_groupAt_37 h
set_option maxRecDepth 100000 in
set_option maxHeartbeats 4000000 in
theorem m_X12_groupAt {Z : h_Z} {o0 : Nat} {x1 : Int32} {x2 : Int32} {s : h_S} {Q : Int32 → h_S → Prop} (h : w_X12_groupAt o0 x1 x2 s Q) : h_M Z yX12_groupAt cX12_groupAt 4 (some .int) 0 0 [pR (some o0), pI x1, pI x2] s 0 0 (h_QI Z Q) := by
  refine h_M.of (by decide) (Nat.le_of_ble_eq_true rfl) (fun X hZ hX hE hI => ?_)
  subst hZ
  unfold w_X12_groupAt at h
  show h_V X 4 0 [(0, pR (some o0)), (1, pI x1), (2, pI x2)] [] s 0 0
  refine v_aload_n hX dX12_groupAt_0 0 rfl rfl ?_
  obtain ⟨k1, h⟩ := h
  refine v_getI hX dX12_groupAt_1 f_RX12_306 rfl k1 ?_
  refine v_iconst (v := 1) hX dX12_groupAt_4 (by decide) ?_
  refine v_isub hX dX12_groupAt_5 ?_
  refine v_istore_n (lv' := [(3, _), (0, _), (1, _), (2, _)]) hX dX12_groupAt_6 rfl (by decide) rfl ?_
  refine v_pick [1, 2, 3, 0] rfl ?_
  obtain ⟨n, h⟩ := h
  exact b_X12_groupAt_7 hX hE n _ _ _ _ _ h
set_option maxRecDepth 100000 in
set_option maxHeartbeats 4000000 in
theorem m_X12_group {Z : h_Z} {o0 : Nat} {x1 : Int32} {x2 : Int32} {s : h_S} {Q : Int32 → h_S → Prop} (h : w_X12_group o0 x1 x2 s Q) : h_M Z yX12_group cX12_group 4 (some .int) 2 43 [pR (some o0), pI x1, pI x2] s 0 0 (h_QI Z Q) := by
  refine h_M.of (by decide) (Nat.le_of_ble_eq_true rfl) (fun X hZ hX hE hI => ?_)
  subst hZ
  unfold w_X12_group at h
  show h_V X 4 0 [(0, pR (some o0)), (1, pI x1), (2, pI x2)] [] s 0 0
  refine v_iload_n hX dX12_group_0 1 rfl rfl ?_
  refine v_i2l hX dX12_group_1 ?_
  refine v_lconst (v := 0) hX dX12_group_2 (by decide) ?_
  refine v_ldc2 hX dX12_group_3 k_RX12_309 ?_
  refine v_callSi0 hX dX12_group_6 c_RX12_298 cS_X12_in [pL _, pL _, pL _] rfl rfl (Nat.le_of_ble_eq_true rfl) (by decide) (by decide)  (m_X12_in h) (fun p2 s1 h => ?_)
  refine v_if_ne (tgt := 14) hX dX12_group_9 (by decide) (fun c3 => ?_) (fun c3 => ?_)
  · have h := h_E c3 h
    refine v_iload_n hX dX12_group_14 2 rfl rfl ?_
    refine v_i2l hX dX12_group_15 ?_
    refine v_lconst (v := 0) hX dX12_group_16 (by decide) ?_
    refine v_lconst (v := 1) hX dX12_group_17 (by decide) ?_
    refine v_aload_n hX dX12_group_18 0 rfl rfl ?_
    obtain ⟨k4, h⟩ := h
    refine v_getI hX dX12_group_19 f_RX12_295 rfl k4 ?_
    refine v_lshl hX dX12_group_22 ?_
    refine v_lconst (v := 1) hX dX12_group_23 (by decide) ?_
    refine v_lsub hX dX12_group_24 ?_
    refine v_callSi0 hX dX12_group_25 c_RX12_298 cS_X12_in [pL _, pL _, pL _] rfl rfl (Nat.le_of_ble_eq_true rfl) (by decide) (by decide)  (m_X12_in h) (fun p6 s5 h => ?_)
    refine v_if_ne (tgt := 34) hX dX12_group_28 (by decide) (fun c7 => ?_) (fun c7 => ?_)
    · have h := h_E c7 h
      refine v_aload_n hX dX12_group_34 0 rfl rfl ?_
      refine v_iload_n hX dX12_group_35 1 rfl rfl ?_
      refine v_aload_n hX dX12_group_36 0 rfl rfl ?_
      obtain ⟨k8, h⟩ := h
      refine v_getI hX dX12_group_37 f_RX12_288 rfl k8 ?_
      refine v_callVi0 hX dX12_group_40 c_RX12_311 cV_X12_groupAt (ci := 13) (T := TX12) (N := 115) rfl (by exact k8) [pI _, pI _] rfl rfl (Nat.le_of_ble_eq_true rfl) (by decide) (by decide)  (m_X12_groupAt h) (fun p10 s9 h => ?_)
      refine v_istore_n (lv' := [(3, _), (0, _), (1, _), (2, _)]) hX dX12_group_43 rfl (by decide) rfl ?_
      refine v_aload_n hX dX12_group_44 1 rfl rfl ?_
      obtain ⟨k11, h⟩ := h
      refine v_getR hX dX12_group_45 f_RX12_13 rfl k11 ?_
      refine v_aload_n hX dX12_group_48 1 rfl rfl ?_
      refine v_getI hX dX12_group_49 f_RX12_306 rfl k11 ?_
      refine v_iload_n hX dX12_group_52 2 rfl rfl ?_
      obtain ⟨a12, e_a12, h⟩ := h
      refine v_nn2 e_a12 ?_
      obtain ⟨k13, h⟩ := h
      obtain ⟨i14, h⟩ := h
      refine v_iast hX dX12_group_53 k13 i14 ?_
      refine v_aload_n hX dX12_group_54 1 rfl rfl ?_
      refine v_getR hX dX12_group_55 f_RX12_16 rfl k11 ?_
      refine v_aload_n hX dX12_group_58 1 rfl rfl ?_
      refine v_getI hX dX12_group_59 f_RX12_306 rfl k11 ?_
      refine v_iload_n hX dX12_group_62 3 rfl rfl ?_
      obtain ⟨a16, e_a16, h⟩ := h
      refine v_nn2 e_a16 ?_
      obtain ⟨k17, h⟩ := h
      obtain ⟨i18, h⟩ := h
      refine v_iast hX dX12_group_63 k17 i18 ?_
      refine v_aload_n hX dX12_group_64 1 rfl rfl ?_
      refine v_getR hX dX12_group_65 f_RX12_19 rfl k11 ?_
      refine v_aload_n hX dX12_group_68 1 rfl rfl ?_
      refine v_getI hX dX12_group_69 f_RX12_306 rfl k11 ?_
      refine v_aload_n hX dX12_group_72 1 rfl rfl ?_
      refine v_getI hX dX12_group_73 f_RX12_288 rfl k11 ?_
      refine v_iconst (v := 1) hX dX12_group_76 (by decide) ?_
      refine v_iadd hX dX12_group_77 ?_
      obtain ⟨a20, e_a20, h⟩ := h
      refine v_nn2 e_a20 ?_
      obtain ⟨k21, h⟩ := h
      obtain ⟨i22, h⟩ := h
      refine v_iast hX dX12_group_78 k21 i22 ?_
      refine v_aload_n hX dX12_group_79 1 rfl rfl ?_
      refine v_dup hX dX12_group_80 rfl ?_
      refine v_getI hX dX12_group_81 f_RX12_306 rfl k11 ?_
      refine v_iconst (v := 1) hX dX12_group_84 (by decide) ?_
      refine v_iadd hX dX12_group_85 ?_
      refine v_putI hX dX12_group_86 f_RX12_306 k11 ?_
      refine v_aload_n hX dX12_group_89 1 rfl rfl ?_
      refine v_iload_n hX dX12_group_90 0 rfl rfl ?_
      refine v_callVi0 hX dX12_group_91 c_RX12_302 cV_X12_acted (ci := 13) (T := TX12) (N := 115) rfl (by exact k11) [pI _] rfl rfl (Nat.le_of_ble_eq_true rfl) (by decide) (by decide)  (m_X12_acted h) (fun p26 s25 h => ?_)
      exact v_iret hX hE dX12_group_94 h
    · have h := h_T c7 h
      refine v_bipush (v := -2) hX dX12_group_31 (by decide) ?_
      exact v_iret hX hE dX12_group_33 h
  · have h := h_T c3 h
    refine v_iconst (v := -1) hX dX12_group_12 (by decide) ?_
    exact v_iret hX hE dX12_group_13 h
set_option maxRecDepth 100000 in
set_option maxHeartbeats 4000000 in
theorem b_X12_noWriting_21 {X : h_X} (hX : h_ok X cX12_noWriting 2 RX12 1 25) {Q : Int32 → h_S → Prop} (hE : h_end X (some .boolean) (h_QI (x_Z X) Q)) {y0 : Int32} (s : h_S) (h : w_X12_noWriting_21 Q y0 s) : h_V X 2 21 [] [pI y0] s 0 0 := by
  unfold w_X12_noWriting_21 at h
  exact v_zret hX hE dX12_noWriting_21 h.1 h.2
set_option maxRecDepth 100000 in
set_option maxHeartbeats 4000000 in
theorem m_X12_noWriting {Z : h_Z} {o0 : Nat} {x1 : Int32} {s : h_S} {Q : Int32 → h_S → Prop} (h : w_X12_noWriting o0 x1 s Q) : h_M Z yX12_noWriting cX12_noWriting 2 (some .boolean) 1 25 [pR (some o0), pI x1] s 0 0 (h_QI Z Q) := by
  refine h_M.of (by decide) (Nat.le_of_ble_eq_true rfl) (fun X hZ hX hE hI => ?_)
  subst hZ
  unfold w_X12_noWriting at h
  show h_V X 2 0 [(0, pR (some o0)), (1, pI x1)] [] s 0 0
  refine v_iload_n hX dX12_noWriting_0 1 rfl rfl ?_
  refine v_i2l hX dX12_noWriting_1 ?_
  refine v_lconst (v := 0) hX dX12_noWriting_2 (by decide) ?_
  refine v_aload_n hX dX12_noWriting_3 0 rfl rfl ?_
  obtain ⟨k1, h⟩ := h
  refine v_getI hX dX12_noWriting_4 f_RX12_314 rfl k1 ?_
  refine v_i2l hX dX12_noWriting_7 ?_
  refine v_lconst (v := 1) hX dX12_noWriting_8 (by decide) ?_
  refine v_lsub hX dX12_noWriting_9 ?_
  refine v_callSi0 hX dX12_noWriting_10 c_RX12_298 cS_X12_in [pL _, pL _, pL _] rfl rfl (Nat.le_of_ble_eq_true rfl) (by decide) (by decide)  (m_X12_in h) (fun p3 s2 h => ?_)
  refine v_if_ne (tgt := 20) hX dX12_noWriting_13 (by decide) (fun c4 => ?_) (fun c4 => ?_)
  · have h := h_E c4 h
    refine v_iconst (v := 0) hX dX12_noWriting_20 (by decide) ?_
    refine v_pick [] rfl ?_
    exact b_X12_noWriting_21 hX hE _ h
  · have h := h_T c4 h
    refine v_iconst (v := 1) hX dX12_noWriting_16 (by decide) ?_
    refine v_goto (tgt := 21) hX dX12_noWriting_17 (by decide) ?_
    refine v_pick [] rfl ?_
    exact b_X12_noWriting_21 hX hE _ h
set_option maxRecDepth 100000 in
set_option maxHeartbeats 4000000 in
theorem b_X12_logOf_31 {X : h_X} (hX : h_ok X cX12_logOf 4 RX12 0 0) {Q : Int32 → h_S → Prop} (hE : h_end X (some .int) (h_QI (x_Z X) Q)) {x3 : Int32} (s : h_S) (h : w_X12_logOf_31 Q x3 s) : h_V X 4 31 [(3, pI x3)] [] s 0 0 := by
  unfold w_X12_logOf_31 at h
  refine v_iload_n hX dX12_logOf_31 0 rfl rfl ?_
  exact v_iret hX hE dX12_logOf_32 h
set_option maxRecDepth 100000 in
set_option maxHeartbeats 4000000 in
theorem b_X12_logOf_7 {X : h_X} (hX : h_ok X cX12_logOf 4 RX12 0 0) {Q : Int32 → h_S → Prop} (hE : h_end X (some .int) (h_QI (x_Z X) Q)) : ∀ (n : Nat) (o0 : Nat) (x2 : Int32) (x3 : Int32) (s : h_S), w_X12_logOf_7 Q n o0 x2 x3 s → h_V X 4 7 [(0, pR (some o0)), (2, pI x2), (3, pI x3)] [] s 0 0 := by
  intro n
  induction n with
  | zero => intro _ _ _ s h; exact h.elim
  | succ n hK7 =>
    intro o0 x2 x3 s h
    have h : w_X12_logOf_7b Q (w_X12_logOf_7 Q n) o0 x2 x3 s := h
    unfold w_X12_logOf_7b at h
    refine v_iload_n hX dX12_logOf_7 2 rfl rfl ?_
    refine v_if_lt (tgt := 31) hX dX12_logOf_8 (by decide) (fun c1 => ?_) (fun c1 => ?_)
    · have h := h_T c1 h
      refine v_pick [2] rfl ?_
      exact b_X12_logOf_31 hX hE _ h
    · have h := h_E c1 h
      refine v_aload_n hX dX12_logOf_11 0 rfl rfl ?_
      obtain ⟨k2, h⟩ := h
      refine v_getR hX dX12_logOf_12 f_RX12_31 rfl k2 ?_
      refine v_iload_n hX dX12_logOf_15 2 rfl rfl ?_
      obtain ⟨a3, e_a3, h⟩ := h
      refine v_nn1 e_a3 ?_
      obtain ⟨k4, h⟩ := h
      obtain ⟨i5, h⟩ := h
      refine v_iald hX dX12_logOf_16 k4 i5 ?_
      refine v_iload_n hX dX12_logOf_17 1 rfl rfl ?_
      refine v_icmp_le (tgt := 31) hX dX12_logOf_18 (by decide) (fun c6 => ?_) (fun c6 => ?_)
      · have h := h_T c6 h
        refine v_pick [2] rfl ?_
        exact b_X12_logOf_31 hX hE _ h
      · have h := h_E c6 h
        refine v_aload_n hX dX12_logOf_21 0 rfl rfl ?_
        refine v_getR hX dX12_logOf_22 f_RX12_28 rfl k2 ?_
        refine v_iload_n hX dX12_logOf_25 2 rfl rfl ?_
        obtain ⟨a7, e_a7, h⟩ := h
        refine v_nn1 e_a7 ?_
        obtain ⟨k8, h⟩ := h
        obtain ⟨i9, h⟩ := h
        refine v_iald hX dX12_logOf_26 k8 i9 ?_
        refine v_istore_n (lv' := [(3, _), (0, _), (2, _)]) hX dX12_logOf_27 rfl (by decide) rfl ?_
        refine v_goto (tgt := 7) hX dX12_logOf_28 (by decide) ?_
        refine v_pick [1, 2, 0] rfl ?_
        exact hK7 _ _ _ _ h
set_option maxRecDepth 100000 in
set_option maxHeartbeats 4000000 in
theorem m_X12_logOf {Z : h_Z} {o0 : Nat} {x1 : Int32} {x2 : Int32} {s : h_S} {Q : Int32 → h_S → Prop} (h : w_X12_logOf o0 x1 x2 s Q) : h_M Z yX12_logOf cX12_logOf 4 (some .int) 0 0 [pR (some o0), pI x1, pI x2] s 0 0 (h_QI Z Q) := by
  refine h_M.of (by decide) (Nat.le_of_ble_eq_true rfl) (fun X hZ hX hE hI => ?_)
  subst hZ
  unfold w_X12_logOf at h
  show h_V X 4 0 [(0, pR (some o0)), (1, pI x1), (2, pI x2)] [] s 0 0
  refine v_aload_n hX dX12_logOf_0 0 rfl rfl ?_
  obtain ⟨k1, h⟩ := h
  refine v_getR hX dX12_logOf_1 f_RX12_25 rfl k1 ?_
  refine v_iload_n hX dX12_logOf_4 1 rfl rfl ?_
  obtain ⟨a2, e_a2, h⟩ := h
  refine v_nn1 e_a2 ?_
  obtain ⟨k3, h⟩ := h
  obtain ⟨i4, h⟩ := h
  refine v_iald hX dX12_logOf_5 k3 i4 ?_
  refine v_istore_n (lv' := [(3, _), (0, _), (1, _), (2, _)]) hX dX12_logOf_6 rfl (by decide) rfl ?_
  refine v_pick [1, 3, 0] rfl ?_
  obtain ⟨n, h⟩ := h
  exact b_X12_logOf_7 hX hE n _ _ _ _ h
set_option maxRecDepth 100000 in
set_option maxHeartbeats 4000000 in
theorem m_X12_writing {Z : h_Z} {o0 : Nat} {x1 : Int32} {s : h_S} {Q : Int32 → h_S → Prop} (h : w_X12_writing o0 x1 s Q) : h_M Z yX12_writing cX12_writing 2 (some .int) 2 46 [pR (some o0), pI x1] s 0 0 (h_QI Z Q) := by
  refine h_M.of (by decide) (Nat.le_of_ble_eq_true rfl) (fun X hZ hX hE hI => ?_)
  subst hZ
  unfold w_X12_writing at h
  show h_V X 2 0 [(0, pR (some o0)), (1, pI x1)] [] s 0 0
  refine v_aload_n hX dX12_writing_0 0 rfl rfl ?_
  refine v_iload_n hX dX12_writing_1 1 rfl rfl ?_
  obtain ⟨k1, h⟩ := h
  refine v_callVi0 hX dX12_writing_2 c_RX12_317 cV_X12_noHand (ci := 13) (T := TX12) (N := 115) rfl (by exact k1) [pI _] rfl rfl (Nat.le_of_ble_eq_true rfl) (by decide) (by decide)  (m_X12_noHand h) (fun p3 s2 h => ?_)
  refine v_if_eq (tgt := 10) hX dX12_writing_5 (by decide) (fun c4 => ?_) (fun c4 => ?_)
  · have h := h_T c4 h
    refine v_aload_n hX dX12_writing_10 0 rfl rfl ?_
    obtain ⟨k5, h⟩ := h
    refine v_getI hX dX12_writing_11 f_RX12_314 rfl k5 ?_
    refine v_bipush (v := 12) hX dX12_writing_14 (by decide) ?_
    refine v_icmp_ne (tgt := 22) hX dX12_writing_16 (by decide) (fun c6 => ?_) (fun c6 => ?_)
    · have h := h_E c6 h
      refine v_aload_n hX dX12_writing_22 0 rfl rfl ?_
      refine v_getR hX dX12_writing_23 f_RX12_22 rfl k5 ?_
      refine v_aload_n hX dX12_writing_26 0 rfl rfl ?_
      refine v_getI hX dX12_writing_27 f_RX12_314 rfl k5 ?_
      refine v_iload_n hX dX12_writing_30 1 rfl rfl ?_
      obtain ⟨a7, e_a7, h⟩ := h
      refine v_nn2 e_a7 ?_
      obtain ⟨k8, h⟩ := h
      obtain ⟨i9, h⟩ := h
      refine v_iast hX dX12_writing_31 k8 i9 ?_
      refine v_aload_n hX dX12_writing_32 0 rfl rfl ?_
      refine v_dup hX dX12_writing_33 rfl ?_
      refine v_getI hX dX12_writing_34 f_RX12_314 rfl k5 ?_
      refine v_iconst (v := 1) hX dX12_writing_37 (by decide) ?_
      refine v_iadd hX dX12_writing_38 ?_
      refine v_putI hX dX12_writing_39 f_RX12_314 k5 ?_
      refine v_aload_n hX dX12_writing_42 0 rfl rfl ?_
      refine v_aload_n hX dX12_writing_43 0 rfl rfl ?_
      refine v_getI hX dX12_writing_44 f_RX12_314 rfl k5 ?_
      refine v_iconst (v := 1) hX dX12_writing_47 (by decide) ?_
      refine v_isub hX dX12_writing_48 ?_
      refine v_callVi0 hX dX12_writing_49 c_RX12_302 cV_X12_acted (ci := 13) (T := TX12) (N := 115) rfl (by exact k5) [pI _] rfl rfl (Nat.le_of_ble_eq_true rfl) (by decide) (by decide)  (m_X12_acted h) (fun p13 s12 h => ?_)
      exact v_iret hX hE dX12_writing_52 h
    · have h := h_T c6 h
      refine v_bipush (v := -4) hX dX12_writing_19 (by decide) ?_
      exact v_iret hX hE dX12_writing_21 h
  · have h := h_E c4 h
    refine v_iconst (v := -1) hX dX12_writing_8 (by decide) ?_
    exact v_iret hX hE dX12_writing_9 h
set_option maxRecDepth 100000 in
set_option maxHeartbeats 4000000 in
theorem b_X12_noWord_21 {X : h_X} (hX : h_ok X cX12_noWord 2 RX12 1 25) {Q : Int32 → h_S → Prop} (hE : h_end X (some .boolean) (h_QI (x_Z X) Q)) {y0 : Int32} (s : h_S) (h : w_X12_noWord_21 Q y0 s) : h_V X 2 21 [] [pI y0] s 0 0 := by
  unfold w_X12_noWord_21 at h
  exact v_zret hX hE dX12_noWord_21 h.1 h.2
set_option maxRecDepth 100000 in
set_option maxHeartbeats 4000000 in
theorem m_X12_noWord {Z : h_Z} {o0 : Nat} {x1 : Int32} {s : h_S} {Q : Int32 → h_S → Prop} (h : w_X12_noWord o0 x1 s Q) : h_M Z yX12_noWord cX12_noWord 2 (some .boolean) 1 25 [pR (some o0), pI x1] s 0 0 (h_QI Z Q) := by
  refine h_M.of (by decide) (Nat.le_of_ble_eq_true rfl) (fun X hZ hX hE hI => ?_)
  subst hZ
  unfold w_X12_noWord at h
  show h_V X 2 0 [(0, pR (some o0)), (1, pI x1)] [] s 0 0
  refine v_iload_n hX dX12_noWord_0 1 rfl rfl ?_
  refine v_i2l hX dX12_noWord_1 ?_
  refine v_lconst (v := 0) hX dX12_noWord_2 (by decide) ?_
  refine v_aload_n hX dX12_noWord_3 0 rfl rfl ?_
  obtain ⟨k1, h⟩ := h
  refine v_getI hX dX12_noWord_4 f_RX12_321 rfl k1 ?_
  refine v_i2l hX dX12_noWord_7 ?_
  refine v_lconst (v := 1) hX dX12_noWord_8 (by decide) ?_
  refine v_lsub hX dX12_noWord_9 ?_
  refine v_callSi0 hX dX12_noWord_10 c_RX12_298 cS_X12_in [pL _, pL _, pL _] rfl rfl (Nat.le_of_ble_eq_true rfl) (by decide) (by decide)  (m_X12_in h) (fun p3 s2 h => ?_)
  refine v_if_ne (tgt := 20) hX dX12_noWord_13 (by decide) (fun c4 => ?_) (fun c4 => ?_)
  · have h := h_E c4 h
    refine v_iconst (v := 0) hX dX12_noWord_20 (by decide) ?_
    refine v_pick [] rfl ?_
    exact b_X12_noWord_21 hX hE _ h
  · have h := h_T c4 h
    refine v_iconst (v := 1) hX dX12_noWord_16 (by decide) ?_
    refine v_goto (tgt := 21) hX dX12_noWord_17 (by decide) ?_
    refine v_pick [] rfl ?_
    exact b_X12_noWord_21 hX hE _ h
set_option maxRecDepth 100000 in
set_option maxHeartbeats 4000000 in
theorem b_X12_enter_68 {X : h_X} (hX : h_ok X cX12_enter 6 RX12 1 23) {Q : h_S → Prop} (hE : h_end X none (h_QV (x_Z X) Q)) {o0 : Nat} {x1 : Int32} {y0 : Int32} {y1 : Int32} {t2 : Option Nat} (s : h_S) (h : w_X12_enter_68 Q o0 x1 y0 y1 t2 s) : h_V X 6 68 [(0, pR (some o0)), (1, pI x1)] [pI y0, pI y1, pR t2] s 0 0 := by
  unfold w_X12_enter_68 at h
  obtain ⟨a1, e_a1, h⟩ := h
  refine v_nn2 e_a1 ?_
  obtain ⟨k2, h⟩ := h
  obtain ⟨i3, h⟩ := h
  refine v_iast hX dX12_enter_68 k2 i3 ?_
  refine v_aload_n hX dX12_enter_69 0 rfl rfl ?_
  obtain ⟨k5, h⟩ := h
  refine v_getR hX dX12_enter_70 f_RX12_88 rfl k5 ?_
  refine v_iload_n hX dX12_enter_73 1 rfl rfl ?_
  refine v_iconst (v := 0) hX dX12_enter_74 (by decide) ?_
  obtain ⟨a6, e_a6, h⟩ := h
  refine v_nn2 e_a6 ?_
  obtain ⟨k7, h⟩ := h
  obtain ⟨i8, h⟩ := h
  refine v_iast hX dX12_enter_75 k7 i8 ?_
  exact v_vret hX hE dX12_enter_76 h
set_option maxRecDepth 100000 in
set_option maxHeartbeats 4000000 in
theorem m_X12_enter {Z : h_Z} {o0 : Nat} {x1 : Int32} {x2 : Int32} {x3 : Int32} {x4 : Int32} {x5 : Int32} {s : h_S} {Q : h_S → Prop} (h : w_X12_enter o0 x1 x2 x3 x4 x5 s Q) : h_M Z yX12_enter cX12_enter 6 none 1 23 [pR (some o0), pI x1, pI x2, pI x3, pI x4, pI x5] s 0 0 (h_QV Z Q) := by
  refine h_M.of (by decide) (Nat.le_of_ble_eq_true rfl) (fun X hZ hX hE hI => ?_)
  subst hZ
  unfold w_X12_enter at h
  show h_V X 6 0 [(0, pR (some o0)), (1, pI x1), (2, pI x2), (3, pI x3), (4, pI x4), (5, pI x5)] [] s 0 0
  refine v_aload_n hX dX12_enter_0 0 rfl rfl ?_
  obtain ⟨k1, h⟩ := h
  refine v_getR hX dX12_enter_1 f_RX12_79 rfl k1 ?_
  refine v_iload_n hX dX12_enter_4 1 rfl rfl ?_
  refine v_iload_n hX dX12_enter_5 2 rfl rfl ?_
  obtain ⟨a2, e_a2, h⟩ := h
  refine v_nn2 e_a2 ?_
  obtain ⟨k3, h⟩ := h
  obtain ⟨i4, h⟩ := h
  refine v_iast hX dX12_enter_6 k3 i4 ?_
  refine v_aload_n hX dX12_enter_7 0 rfl rfl ?_
  refine v_getR hX dX12_enter_8 f_RX12_76 rfl k1 ?_
  refine v_iload_n hX dX12_enter_11 1 rfl rfl ?_
  refine v_iload_n hX dX12_enter_12 3 rfl rfl ?_
  obtain ⟨a6, e_a6, h⟩ := h
  refine v_nn2 e_a6 ?_
  obtain ⟨k7, h⟩ := h
  obtain ⟨i8, h⟩ := h
  refine v_iast hX dX12_enter_13 k7 i8 ?_
  refine v_aload_n hX dX12_enter_14 0 rfl rfl ?_
  refine v_getR hX dX12_enter_15 f_RX12_70 rfl k1 ?_
  refine v_iload_n hX dX12_enter_18 1 rfl rfl ?_
  refine v_aload_n hX dX12_enter_19 0 rfl rfl ?_
  refine v_iload_n hX dX12_enter_20 2 rfl rfl ?_
  refine v_iload_n hX dX12_enter_21 3 rfl rfl ?_
  refine v_callVi0 hX dX12_enter_22 c_RX12_324 cV_X12_logOf (ci := 13) (T := TX12) (N := 115) rfl (by exact k1) [pI _, pI _] rfl rfl (Nat.le_of_ble_eq_true rfl) (by decide) (by decide)  (m_X12_logOf h) (fun p11 s10 h => ?_)
  obtain ⟨a12, e_a12, h⟩ := h
  refine v_nn2 e_a12 ?_
  obtain ⟨k13, h⟩ := h
  obtain ⟨i14, h⟩ := h
  refine v_iast hX dX12_enter_25 k13 i14 ?_
  refine v_aload_n hX dX12_enter_26 0 rfl rfl ?_
  obtain ⟨k16, h⟩ := h
  refine v_getR hX dX12_enter_27 f_RX12_73 rfl k16 ?_
  refine v_iload_n hX dX12_enter_30 1 rfl rfl ?_
  refine v_iconst (v := 0) hX dX12_enter_31 (by decide) ?_
  obtain ⟨a17, e_a17, h⟩ := h
  refine v_nn2 e_a17 ?_
  obtain ⟨k18, h⟩ := h
  obtain ⟨i19, h⟩ := h
  refine v_iast hX dX12_enter_32 k18 i19 ?_
  refine v_aload_n hX dX12_enter_33 0 rfl rfl ?_
  refine v_getR hX dX12_enter_34 f_RX12_82 rfl k16 ?_
  refine v_iload_n hX dX12_enter_37 1 rfl rfl ?_
  refine v_iload hX dX12_enter_38 4 rfl ?_
  obtain ⟨a21, e_a21, h⟩ := h
  refine v_nn2 e_a21 ?_
  obtain ⟨k22, h⟩ := h
  obtain ⟨i23, h⟩ := h
  refine v_iast hX dX12_enter_40 k22 i23 ?_
  refine v_aload_n hX dX12_enter_41 0 rfl rfl ?_
  refine v_getR hX dX12_enter_42 f_RX12_85 rfl k16 ?_
  refine v_iload_n hX dX12_enter_45 1 rfl rfl ?_
  refine v_iload hX dX12_enter_46 4 rfl ?_
  refine v_iload hX dX12_enter_48 5 rfl ?_
  refine v_iadd hX dX12_enter_50 ?_
  refine v_sipush (v := 300) hX dX12_enter_51 (by decide) ?_
  refine v_icmp_ge (tgt := 65) hX dX12_enter_54 (by decide) (fun c25 => ?_) (fun c25 => ?_)
  · have h := h_T c25 h
    refine v_sipush (v := 300) hX dX12_enter_65 (by decide) ?_
    refine v_pick [0, 1] rfl ?_
    exact b_X12_enter_68 hX hE _ h
  · have h := h_E c25 h
    refine v_iload hX dX12_enter_57 4 rfl ?_
    refine v_iload hX dX12_enter_59 5 rfl ?_
    refine v_iadd hX dX12_enter_61 ?_
    refine v_goto (tgt := 68) hX dX12_enter_62 (by decide) ?_
    refine v_pick [0, 1] rfl ?_
    exact b_X12_enter_68 hX hE _ h
set_option maxRecDepth 100000 in
set_option maxHeartbeats 4000000 in
theorem b_X12_isDone_33 {X : h_X} (hX : h_ok X cX12_isDone 4 RX12 0 0) {Q : Int32 → h_S → Prop} (hE : h_end X (some .boolean) (h_QI (x_Z X) Q)) {K4 : Nat → Int32 → Int32 → Int32 → h_S → Prop} (hK4 : ∀ (o0 : Nat) (x1 : Int32) (x2 : Int32) (x3 : Int32) (s : h_S), K4 o0 x1 x2 x3 s → h_V X 4 4 [(0, pR (some o0)), (1, pI x1), (2, pI x2), (3, pI x3)] [] s 0 0) {o0 : Nat} {x1 : Int32} {x3 : Int32} {y0 : Int32} (s : h_S) (h : w_X12_isDone_33 Q K4 o0 x1 x3 y0 s) : h_V X 4 33 [(0, pR (some o0)), (1, pI x1), (3, pI x3)] [pI y0] s 0 0 := by
  unfold w_X12_isDone_33 at h
  refine v_istore_n (lv' := [(2, _), (0, _), (1, _), (3, _)]) hX dX12_isDone_33 rfl (by decide) rfl ?_
  refine v_iinc (c := 1) (lv' := [(3, _), (2, _), (0, _), (1, _)]) hX dX12_isDone_34 3 rfl (by decide) (by decide) rfl ?_
  refine v_goto (tgt := 4) hX dX12_isDone_37 (by decide) ?_
  refine v_pick [2, 3, 1, 0] rfl ?_
  exact hK4 _ _ _ _ _ h
set_option maxRecDepth 100000 in
set_option maxHeartbeats 4000000 in
theorem b_X12_isDone_28 {X : h_X} (hX : h_ok X cX12_isDone 4 RX12 0 0) {Q : Int32 → h_S → Prop} (hE : h_end X (some .boolean) (h_QI (x_Z X) Q)) {K4 : Nat → Int32 → Int32 → Int32 → h_S → Prop} (hK4 : ∀ (o0 : Nat) (x1 : Int32) (x2 : Int32) (x3 : Int32) (s : h_S), K4 o0 x1 x2 x3 s → h_V X 4 4 [(0, pR (some o0)), (1, pI x1), (2, pI x2), (3, pI x3)] [] s 0 0) {o0 : Nat} {x1 : Int32} {x3 : Int32} (s : h_S) (h : w_X12_isDone_28 Q K4 o0 x1 x3 s) : h_V X 4 28 [(0, pR (some o0)), (1, pI x1), (3, pI x3)] [] s 0 0 := by
  unfold w_X12_isDone_28 at h
  refine v_iconst (v := 1) hX dX12_isDone_28 (by decide) ?_
  refine v_goto (tgt := 33) hX dX12_isDone_29 (by decide) ?_
  refine v_pick [0, 1, 2] rfl ?_
  exact b_X12_isDone_33 hX hE hK4 _ h
set_option maxRecDepth 100000 in
set_option maxHeartbeats 4000000 in
theorem b_X12_isDone_4 {X : h_X} (hX : h_ok X cX12_isDone 4 RX12 0 0) {Q : Int32 → h_S → Prop} (hE : h_end X (some .boolean) (h_QI (x_Z X) Q)) : ∀ (n : Nat) (o0 : Nat) (x1 : Int32) (x2 : Int32) (x3 : Int32) (s : h_S), w_X12_isDone_4 Q n o0 x1 x2 x3 s → h_V X 4 4 [(0, pR (some o0)), (1, pI x1), (2, pI x2), (3, pI x3)] [] s 0 0 := by
  intro n
  induction n with
  | zero => intro _ _ _ _ s h; exact h.elim
  | succ n hK4 =>
    intro o0 x1 x2 x3 s h
    have h : w_X12_isDone_4b Q (w_X12_isDone_4 Q n) o0 x1 x2 x3 s := h
    unfold w_X12_isDone_4b at h
    refine v_iload_n hX dX12_isDone_4 3 rfl rfl ?_
    refine v_iload_n hX dX12_isDone_5 1 rfl rfl ?_
    refine v_icmp_gt (tgt := 40) hX dX12_isDone_6 (by decide) (fun c1 => ?_) (fun c1 => ?_)
    · have h := h_T c1 h
      refine v_iload_n hX dX12_isDone_40 2 rfl rfl ?_
      exact v_zret hX hE dX12_isDone_41 h.1 h.2
    · have h := h_E c1 h
      refine v_iload_n hX dX12_isDone_9 2 rfl rfl ?_
      refine v_if_ne (tgt := 28) hX dX12_isDone_10 (by decide) (fun c2 => ?_) (fun c2 => ?_)
      · have h := h_E c2 h
        refine v_pick [0, 1, 3] rfl ?_
        exact b_X12_isDone_28 hX hE hK4 _ h
      · have h := h_T c2 h
        refine v_aload_n hX dX12_isDone_13 0 rfl rfl ?_
        obtain ⟨k3, h⟩ := h
        refine v_getR hX dX12_isDone_14 f_RX12_88 rfl k3 ?_
        refine v_iload_n hX dX12_isDone_17 3 rfl rfl ?_
        obtain ⟨a4, e_a4, h⟩ := h
        refine v_nn1 e_a4 ?_
        obtain ⟨k5, h⟩ := h
        obtain ⟨i6, h⟩ := h
        refine v_iald hX dX12_isDone_18 k5 i6 ?_
        refine v_aload_n hX dX12_isDone_19 0 rfl rfl ?_
        refine v_getR hX dX12_isDone_20 f_RX12_85 rfl k3 ?_
        refine v_iload_n hX dX12_isDone_23 3 rfl rfl ?_
        obtain ⟨a7, e_a7, h⟩ := h
        refine v_nn1 e_a7 ?_
        obtain ⟨k8, h⟩ := h
        obtain ⟨i9, h⟩ := h
        refine v_iald hX dX12_isDone_24 k8 i9 ?_
        refine v_icmp_lt (tgt := 32) hX dX12_isDone_25 (by decide) (fun c10 => ?_) (fun c10 => ?_)
        · have h := h_T c10 h
          refine v_iconst (v := 0) hX dX12_isDone_32 (by decide) ?_
          refine v_pick [0, 1, 3] rfl ?_
          exact b_X12_isDone_33 hX hE hK4 _ h
        · have h := h_E c10 h
          refine v_pick [0, 1, 3] rfl ?_
          exact b_X12_isDone_28 hX hE hK4 _ h
set_option maxRecDepth 100000 in
set_option maxHeartbeats 4000000 in
theorem m_X12_isDone {Z : h_Z} {o0 : Nat} {x1 : Int32} {s : h_S} {Q : Int32 → h_S → Prop} (h : w_X12_isDone o0 x1 s Q) : h_M Z yX12_isDone cX12_isDone 4 (some .boolean) 0 0 [pR (some o0), pI x1] s 0 0 (h_QI Z Q) := by
  refine h_M.of (by decide) (Nat.le_of_ble_eq_true rfl) (fun X hZ hX hE hI => ?_)
  subst hZ
  unfold w_X12_isDone at h
  show h_V X 4 0 [(0, pR (some o0)), (1, pI x1)] [] s 0 0
  refine v_iconst (v := 0) hX dX12_isDone_0 (by decide) ?_
  refine v_istore_n (lv' := [(2, _), (0, _), (1, _)]) hX dX12_isDone_1 rfl (by decide) rfl ?_
  refine v_iconst (v := 0) hX dX12_isDone_2 (by decide) ?_
  refine v_istore_n (lv' := [(3, _), (2, _), (0, _), (1, _)]) hX dX12_isDone_3 rfl (by decide) rfl ?_
  refine v_pick [2, 3, 1, 0] rfl ?_
  obtain ⟨n, h⟩ := h
  exact b_X12_isDone_4 hX hE n _ _ _ _ _ h
set_option maxRecDepth 100000 in
set_option maxHeartbeats 4000000 in
theorem b_X12_show_155 {X : h_X} (hX : h_ok X cX12_show 7 RX12 0 0) {Q : h_S → Prop} (hE : h_end X none (h_QV (x_Z X) Q)) {K5 : Nat → Int32 → Int32 → Int32 → Int32 → h_S → Prop} (hK5 : ∀ (o0 : Nat) (x1 : Int32) (x2 : Int32) (x3 : Int32) (x4 : Int32) (s : h_S), K5 o0 x1 x2 x3 x4 s → h_V X 7 5 [(0, pR (some o0)), (1, pI x1), (2, pI x2), (3, pI x3), (4, pI x4)] [] s 0 0) {o0 : Nat} {x1 : Int32} {x2 : Int32} {x3 : Int32} {y0 : Int32} (s : h_S) (h : w_X12_show_155 Q K5 o0 x1 x2 x3 y0 s) : h_V X 7 155 [(0, pR (some o0)), (1, pI x1), (2, pI x2), (3, pI x3)] [pI y0] s 0 0 := by
  unfold w_X12_show_155 at h
  refine v_istore (lv' := [(4, _), (0, _), (1, _), (2, _), (3, _)]) hX dX12_show_155 (by decide) rfl ?_
  refine v_iinc (c := -1) (lv' := [(3, _), (4, _), (0, _), (1, _), (2, _)]) hX dX12_show_157 4 rfl (by decide) (by decide) rfl ?_
  refine v_goto (tgt := 5) hX dX12_show_160 (by decide) ?_
  refine v_pick [2, 3, 4, 0, 1] rfl ?_
  exact hK5 _ _ _ _ _ _ h
set_option maxRecDepth 100000 in
set_option maxHeartbeats 4000000 in
theorem b_X12_show_154 {X : h_X} (hX : h_ok X cX12_show 7 RX12 0 0) {Q : h_S → Prop} (hE : h_end X none (h_QV (x_Z X) Q)) {K5 : Nat → Int32 → Int32 → Int32 → Int32 → h_S → Prop} (hK5 : ∀ (o0 : Nat) (x1 : Int32) (x2 : Int32) (x3 : Int32) (x4 : Int32) (s : h_S), K5 o0 x1 x2 x3 x4 s → h_V X 7 5 [(0, pR (some o0)), (1, pI x1), (2, pI x2), (3, pI x3), (4, pI x4)] [] s 0 0) {o0 : Nat} {x1 : Int32} {x2 : Int32} {x3 : Int32} (s : h_S) (h : w_X12_show_154 Q K5 o0 x1 x2 x3 s) : h_V X 7 154 [(0, pR (some o0)), (1, pI x1), (2, pI x2), (3, pI x3)] [] s 0 0 := by
  unfold w_X12_show_154 at h
  refine v_iconst (v := 0) hX dX12_show_154 (by decide) ?_
  refine v_pick [0, 1, 2, 3] rfl ?_
  exact b_X12_show_155 hX hE hK5 _ h
set_option maxRecDepth 100000 in
set_option maxHeartbeats 4000000 in
theorem b_X12_show_134 {X : h_X} (hX : h_ok X cX12_show 7 RX12 0 0) {Q : h_S → Prop} (hE : h_end X none (h_QV (x_Z X) Q)) {K5 : Nat → Int32 → Int32 → Int32 → Int32 → h_S → Prop} (hK5 : ∀ (o0 : Nat) (x1 : Int32) (x2 : Int32) (x3 : Int32) (x4 : Int32) (s : h_S), K5 o0 x1 x2 x3 x4 s → h_V X 7 5 [(0, pR (some o0)), (1, pI x1), (2, pI x2), (3, pI x3), (4, pI x4)] [] s 0 0) {o0 : Nat} {x1 : Int32} {x2 : Int32} {x3 : Int32} {x4 : Int32} {x5 : Int32} (s : h_S) (h : w_X12_show_134 Q K5 o0 x1 x2 x3 x4 x5 s) : h_V X 7 134 [(0, pR (some o0)), (1, pI x1), (2, pI x2), (3, pI x3), (4, pI x4), (5, pI x5)] [] s 0 0 := by
  unfold w_X12_show_134 at h
  refine v_iload hX dX12_show_134 4 rfl ?_
  refine v_if_eq (tgt := 154) hX dX12_show_136 (by decide) (fun c1 => ?_) (fun c1 => ?_)
  · have h := h_T c1 h
    refine v_pick [0, 1, 2, 3] rfl ?_
    exact b_X12_show_154 hX hE hK5 _ h
  · have h := h_E c1 h
    refine v_iload hX dX12_show_139 5 rfl ?_
    refine v_aload_n hX dX12_show_141 0 rfl rfl ?_
    obtain ⟨k2, h⟩ := h
    refine v_getR hX dX12_show_142 f_RX12_82 rfl k2 ?_
    refine v_iload_n hX dX12_show_145 3 rfl rfl ?_
    obtain ⟨a3, e_a3, h⟩ := h
    refine v_nn1 e_a3 ?_
    obtain ⟨k4, h⟩ := h
    obtain ⟨i5, h⟩ := h
    refine v_iald hX dX12_show_146 k4 i5 ?_
    refine v_icmp_lt (tgt := 154) hX dX12_show_147 (by decide) (fun c6 => ?_) (fun c6 => ?_)
    · have h := h_T c6 h
      refine v_pick [0, 1, 2, 3] rfl ?_
      exact b_X12_show_154 hX hE hK5 _ h
    · have h := h_E c6 h
      refine v_iconst (v := 1) hX dX12_show_150 (by decide) ?_
      refine v_goto (tgt := 155) hX dX12_show_151 (by decide) ?_
      refine v_pick [0, 1, 2, 3] rfl ?_
      exact b_X12_show_155 hX hE hK5 _ h
set_option maxRecDepth 100000 in
set_option maxHeartbeats 4000000 in
theorem b_X12_show_131 {X : h_X} (hX : h_ok X cX12_show 7 RX12 0 0) {Q : h_S → Prop} (hE : h_end X none (h_QV (x_Z X) Q)) {K5 : Nat → Int32 → Int32 → Int32 → Int32 → h_S → Prop} (hK5 : ∀ (o0 : Nat) (x1 : Int32) (x2 : Int32) (x3 : Int32) (x4 : Int32) (s : h_S), K5 o0 x1 x2 x3 x4 s → h_V X 7 5 [(0, pR (some o0)), (1, pI x1), (2, pI x2), (3, pI x3), (4, pI x4)] [] s 0 0) {o0 : Nat} {x1 : Int32} {x2 : Int32} {x3 : Int32} {x5 : Int32} (s : h_S) (h : w_X12_show_131 Q K5 o0 x1 x2 x3 x5 s) : h_V X 7 131 [(0, pR (some o0)), (1, pI x1), (2, pI x2), (3, pI x3), (5, pI x5)] [] s 0 0 := by
  unfold w_X12_show_131 at h
  refine v_iconst (v := 0) hX dX12_show_131 (by decide) ?_
  refine v_istore (lv' := [(4, _), (0, _), (1, _), (2, _), (3, _), (5, _)]) hX dX12_show_132 (by decide) rfl ?_
  refine v_pick [1, 2, 3, 4, 0, 5] rfl ?_
  exact b_X12_show_134 hX hE hK5 _ h
set_option maxRecDepth 100000 in
set_option maxHeartbeats 4000000 in
theorem b_X12_show_100 {X : h_X} (hX : h_ok X cX12_show 7 RX12 0 0) {Q : h_S → Prop} (hE : h_end X none (h_QV (x_Z X) Q)) {K5 : Nat → Int32 → Int32 → Int32 → Int32 → h_S → Prop} (hK5 : ∀ (o0 : Nat) (x1 : Int32) (x2 : Int32) (x3 : Int32) (x4 : Int32) (s : h_S), K5 o0 x1 x2 x3 x4 s → h_V X 7 5 [(0, pR (some o0)), (1, pI x1), (2, pI x2), (3, pI x3), (4, pI x4)] [] s 0 0) : ∀ (n : Nat) (o0 : Nat) (x1 : Int32) (x2 : Int32) (x3 : Int32) (x5 : Int32) (x6 : Int32) (s : h_S), w_X12_show_100 Q K5 n o0 x1 x2 x3 x5 x6 s → h_V X 7 100 [(0, pR (some o0)), (1, pI x1), (2, pI x2), (3, pI x3), (5, pI x5), (6, pI x6)] [] s 0 0 := by
  intro n
  induction n with
  | zero => intro _ _ _ _ _ _ s h; exact h.elim
  | succ n hK100 =>
    intro o0 x1 x2 x3 x5 x6 s h
    have h : w_X12_show_100b Q K5 (w_X12_show_100 Q K5 n) o0 x1 x2 x3 x5 x6 s := h
    unfold w_X12_show_100b at h
    refine v_iload hX dX12_show_100 5 rfl ?_
    refine v_iload_n hX dX12_show_102 2 rfl rfl ?_
    refine v_icmp_gt (tgt := 131) hX dX12_show_103 (by decide) (fun c1 => ?_) (fun c1 => ?_)
    · have h := h_T c1 h
      refine v_pick [0, 1, 2, 3, 4] rfl ?_
      exact b_X12_show_131 hX hE hK5 _ h
    · have h := h_E c1 h
      refine v_aload_n hX dX12_show_106 0 rfl rfl ?_
      obtain ⟨k2, h⟩ := h
      refine v_getR hX dX12_show_107 f_RX12_100 rfl k2 ?_
      refine v_iconst (v := 5) hX dX12_show_110 (by decide) ?_
      refine v_iload hX dX12_show_111 4 rfl ?_
      refine v_imul hX dX12_show_113 ?_
      refine v_iload hX dX12_show_114 5 rfl ?_
      refine v_iadd hX dX12_show_116 ?_
      refine v_aload_n hX dX12_show_117 0 rfl rfl ?_
      refine v_getR hX dX12_show_118 f_RX12_79 rfl k2 ?_
      refine v_iload hX dX12_show_121 5 rfl ?_
      obtain ⟨a3, e_a3, h⟩ := h
      refine v_nn1 e_a3 ?_
      obtain ⟨k4, h⟩ := h
      obtain ⟨i5, h⟩ := h
      refine v_iald hX dX12_show_123 k4 i5 ?_
      obtain ⟨a6, e_a6, h⟩ := h
      refine v_nn2 e_a6 ?_
      obtain ⟨k7, h⟩ := h
      obtain ⟨i8, h⟩ := h
      refine v_iast hX dX12_show_124 k7 i8 ?_
      refine v_iinc (c := 1) (lv' := [(6, _), (0, _), (1, _), (2, _), (3, _), (5, _)]) hX dX12_show_125 5 rfl (by decide) (by decide) rfl ?_
      refine v_goto (tgt := 100) hX dX12_show_128 (by decide) ?_
      refine v_pick [1, 2, 3, 4, 5, 0] rfl ?_
      exact hK100 _ _ _ _ _ _ _ h
set_option maxRecDepth 100000 in
set_option maxHeartbeats 4000000 in
theorem b_X12_show_53 {X : h_X} (hX : h_ok X cX12_show 7 RX12 0 0) {Q : h_S → Prop} (hE : h_end X none (h_QV (x_Z X) Q)) {K5 : Nat → Int32 → Int32 → Int32 → Int32 → h_S → Prop} (hK5 : ∀ (o0 : Nat) (x1 : Int32) (x2 : Int32) (x3 : Int32) (x4 : Int32) (s : h_S), K5 o0 x1 x2 x3 x4 s → h_V X 7 5 [(0, pR (some o0)), (1, pI x1), (2, pI x2), (3, pI x3), (4, pI x4)] [] s 0 0) {o0 : Nat} {x1 : Int32} {x2 : Int32} {x3 : Int32} {x4 : Int32} {x5 : Int32} {y0 : Int32} {y1 : Int32} {y2 : Int32} {t3 : Option Nat} (s : h_S) (h : w_X12_show_53 Q K5 o0 x1 x2 x3 x4 x5 y0 y1 y2 t3 s) : h_V X 7 53 [(0, pR (some o0)), (1, pI x1), (2, pI x2), (3, pI x3), (4, pI x4), (5, pI x5)] [pI y0, pI y1, pI y2, pR t3] s 0 0 := by
  unfold w_X12_show_53 at h
  refine v_iadd hX dX12_show_53 ?_
  obtain ⟨a1, e_a1, h⟩ := h
  refine v_nn2 e_a1 ?_
  obtain ⟨k2, h⟩ := h
  obtain ⟨i3, h⟩ := h
  refine v_iast hX dX12_show_54 k2 i3 ?_
  refine v_iload_n hX dX12_show_55 3 rfl rfl ?_
  refine v_if_ne (tgt := 134) hX dX12_show_56 (by decide) (fun c5 => ?_) (fun c5 => ?_)
  · have h := h_E c5 h
    refine v_pick [0, 1, 2, 3, 4, 5] rfl ?_
    exact b_X12_show_134 hX hE hK5 _ h
  · have h := h_T c5 h
    refine v_iload hX dX12_show_59 4 rfl ?_
    refine v_if_eq (tgt := 131) hX dX12_show_61 (by decide) (fun c6 => ?_) (fun c6 => ?_)
    · have h := h_T c6 h
      refine v_pick [0, 1, 2, 3, 5] rfl ?_
      exact b_X12_show_131 hX hE hK5 _ h
    · have h := h_E c6 h
      refine v_aload_n hX dX12_show_64 0 rfl rfl ?_
      obtain ⟨k7, h⟩ := h
      refine v_getR hX dX12_show_65 f_RX12_91 rfl k7 ?_
      refine v_iload hX dX12_show_68 5 rfl ?_
      refine v_iload_n hX dX12_show_70 1 rfl rfl ?_
      obtain ⟨a8, e_a8, h⟩ := h
      refine v_nn2 e_a8 ?_
      obtain ⟨k9, h⟩ := h
      obtain ⟨i10, h⟩ := h
      refine v_iast hX dX12_show_71 k9 i10 ?_
      refine v_aload_n hX dX12_show_72 0 rfl rfl ?_
      refine v_getR hX dX12_show_73 f_RX12_94 rfl k7 ?_
      refine v_iload hX dX12_show_76 5 rfl ?_
      refine v_aload_n hX dX12_show_78 0 rfl rfl ?_
      refine v_getR hX dX12_show_79 f_RX12_73 rfl k7 ?_
      refine v_iconst (v := 0) hX dX12_show_82 (by decide) ?_
      obtain ⟨a12, e_a12, h⟩ := h
      refine v_nn1 e_a12 ?_
      obtain ⟨k13, h⟩ := h
      obtain ⟨i14, h⟩ := h
      refine v_iald hX dX12_show_83 k13 i14 ?_
      refine v_iconst (v := 1) hX dX12_show_84 (by decide) ?_
      refine v_isub hX dX12_show_85 ?_
      obtain ⟨a15, e_a15, h⟩ := h
      refine v_nn2 e_a15 ?_
      obtain ⟨k16, h⟩ := h
      obtain ⟨i17, h⟩ := h
      refine v_iast hX dX12_show_86 k16 i17 ?_
      refine v_aload_n hX dX12_show_87 0 rfl rfl ?_
      refine v_getR hX dX12_show_88 f_RX12_97 rfl k7 ?_
      refine v_iload hX dX12_show_91 5 rfl ?_
      refine v_iload_n hX dX12_show_93 2 rfl rfl ?_
      refine v_iconst (v := 1) hX dX12_show_94 (by decide) ?_
      refine v_iadd hX dX12_show_95 ?_
      obtain ⟨a19, e_a19, h⟩ := h
      refine v_nn2 e_a19 ?_
      obtain ⟨k20, h⟩ := h
      obtain ⟨i21, h⟩ := h
      refine v_iast hX dX12_show_96 k20 i21 ?_
      refine v_iconst (v := 0) hX dX12_show_97 (by decide) ?_
      refine v_istore (lv' := [(6, _), (0, _), (1, _), (2, _), (3, _), (4, _), (5, _)]) hX dX12_show_98 (by decide) rfl ?_
      refine v_pick [1, 2, 3, 4, 6, 0] rfl ?_
      obtain ⟨n, h⟩ := h
      exact b_X12_show_100 hX hE hK5 n _ _ _ _ _ _ _ h
set_option maxRecDepth 100000 in
set_option maxHeartbeats 4000000 in
theorem b_X12_show_34 {X : h_X} (hX : h_ok X cX12_show 7 RX12 0 0) {Q : h_S → Prop} (hE : h_end X none (h_QV (x_Z X) Q)) {K5 : Nat → Int32 → Int32 → Int32 → Int32 → h_S → Prop} (hK5 : ∀ (o0 : Nat) (x1 : Int32) (x2 : Int32) (x3 : Int32) (x4 : Int32) (s : h_S), K5 o0 x1 x2 x3 x4 s → h_V X 7 5 [(0, pR (some o0)), (1, pI x1), (2, pI x2), (3, pI x3), (4, pI x4)] [] s 0 0) {o0 : Nat} {x1 : Int32} {x2 : Int32} {x3 : Int32} {x5 : Int32} {y0 : Int32} (s : h_S) (h : w_X12_show_34 Q K5 o0 x1 x2 x3 x5 y0 s) : h_V X 7 34 [(0, pR (some o0)), (1, pI x1), (2, pI x2), (3, pI x3), (5, pI x5)] [pI y0] s 0 0 := by
  unfold w_X12_show_34 at h
  refine v_istore (lv' := [(4, _), (0, _), (1, _), (2, _), (3, _), (5, _)]) hX dX12_show_34 (by decide) rfl ?_
  refine v_aload_n hX dX12_show_36 1 rfl rfl ?_
  obtain ⟨k1, h⟩ := h
  refine v_getR hX dX12_show_37 f_RX12_88 rfl k1 ?_
  refine v_iload_n hX dX12_show_40 4 rfl rfl ?_
  refine v_dup2 hX dX12_show_41 rfl rfl ?_
  obtain ⟨a2, e_a2, h⟩ := h
  refine v_nn1 e_a2 ?_
  obtain ⟨k3, h⟩ := h
  obtain ⟨i4, h⟩ := h
  refine v_iald hX dX12_show_42 k3 i4 ?_
  refine v_iload hX dX12_show_43 0 rfl ?_
  refine v_if_eq (tgt := 52) hX dX12_show_45 (by decide) (fun c5 => ?_) (fun c5 => ?_)
  · have h := h_T c5 h
    refine v_iconst (v := 0) hX dX12_show_52 (by decide) ?_
    refine v_pick [1, 2, 3, 4, 0, 5] rfl ?_
    exact b_X12_show_53 hX hE hK5 _ h
  · have h := h_E c5 h
    refine v_iconst (v := 1) hX dX12_show_48 (by decide) ?_
    refine v_goto (tgt := 53) hX dX12_show_49 (by decide) ?_
    refine v_pick [1, 2, 3, 4, 0, 5] rfl ?_
    exact b_X12_show_53 hX hE hK5 _ h
set_option maxRecDepth 100000 in
set_option maxHeartbeats 4000000 in
theorem b_X12_show_5 {X : h_X} (hX : h_ok X cX12_show 7 RX12 0 0) {Q : h_S → Prop} (hE : h_end X none (h_QV (x_Z X) Q)) : ∀ (n : Nat) (o0 : Nat) (x1 : Int32) (x2 : Int32) (x3 : Int32) (x4 : Int32) (s : h_S), w_X12_show_5 Q n o0 x1 x2 x3 x4 s → h_V X 7 5 [(0, pR (some o0)), (1, pI x1), (2, pI x2), (3, pI x3), (4, pI x4)] [] s 0 0 := by
  intro n
  induction n with
  | zero => intro _ _ _ _ _ s h; exact h.elim
  | succ n hK5 =>
    intro o0 x1 x2 x3 x4 s h
    have h : w_X12_show_5b Q (w_X12_show_5 Q n) o0 x1 x2 x3 x4 s := h
    unfold w_X12_show_5b at h
    refine v_iload hX dX12_show_5 4 rfl ?_
    refine v_if_eq (tgt := 163) hX dX12_show_7 (by decide) (fun c1 => ?_) (fun c1 => ?_)
    · have h := h_T c1 h
      exact v_vret hX hE dX12_show_163 h
    · have h := h_E c1 h
      refine v_aload_n hX dX12_show_10 0 rfl rfl ?_
      obtain ⟨k2, h⟩ := h
      refine v_getR hX dX12_show_11 f_RX12_88 rfl k2 ?_
      refine v_iload_n hX dX12_show_14 3 rfl rfl ?_
      obtain ⟨a3, e_a3, h⟩ := h
      refine v_nn1 e_a3 ?_
      obtain ⟨k4, h⟩ := h
      obtain ⟨i5, h⟩ := h
      refine v_iald hX dX12_show_15 k4 i5 ?_
      refine v_istore (lv' := [(5, _), (0, _), (1, _), (2, _), (3, _), (4, _)]) hX dX12_show_16 (by decide) rfl ?_
      refine v_iload hX dX12_show_18 0 rfl ?_
      refine v_aload_n hX dX12_show_20 1 rfl rfl ?_
      refine v_getR hX dX12_show_21 f_RX12_85 rfl k2 ?_
      refine v_iload_n hX dX12_show_24 4 rfl rfl ?_
      obtain ⟨a6, e_a6, h⟩ := h
      refine v_nn1 e_a6 ?_
      obtain ⟨k7, h⟩ := h
      obtain ⟨i8, h⟩ := h
      refine v_iald hX dX12_show_25 k7 i8 ?_
      refine v_icmp_ge (tgt := 33) hX dX12_show_26 (by decide) (fun c9 => ?_) (fun c9 => ?_)
      · have h := h_T c9 h
        refine v_iconst (v := 0) hX dX12_show_33 (by decide) ?_
        refine v_pick [1, 2, 3, 4, 0] rfl ?_
        exact b_X12_show_34 hX hE hK5 _ h
      · have h := h_E c9 h
        refine v_iconst (v := 1) hX dX12_show_29 (by decide) ?_
        refine v_goto (tgt := 34) hX dX12_show_30 (by decide) ?_
        refine v_pick [1, 2, 3, 4, 0] rfl ?_
        exact b_X12_show_34 hX hE hK5 _ h
set_option maxRecDepth 100000 in
set_option maxHeartbeats 4000000 in
theorem m_X12_show {Z : h_Z} {o0 : Nat} {x1 : Int32} {x2 : Int32} {s : h_S} {Q : h_S → Prop} (h : w_X12_show o0 x1 x2 s Q) : h_M Z yX12_show cX12_show 7 none 0 0 [pR (some o0), pI x1, pI x2] s 0 0 (h_QV Z Q) := by
  refine h_M.of (by decide) (Nat.le_of_ble_eq_true rfl) (fun X hZ hX hE hI => ?_)
  subst hZ
  unfold w_X12_show at h
  show h_V X 7 0 [(0, pR (some o0)), (1, pI x1), (2, pI x2)] [] s 0 0
  refine v_iload_n hX dX12_show_0 2 rfl rfl ?_
  refine v_istore_n (lv' := [(3, _), (0, _), (1, _), (2, _)]) hX dX12_show_1 rfl (by decide) rfl ?_
  refine v_iconst (v := 1) hX dX12_show_2 (by decide) ?_
  refine v_istore (lv' := [(4, _), (3, _), (0, _), (1, _), (2, _)]) hX dX12_show_3 (by decide) rfl ?_
  refine v_pick [2, 3, 4, 1, 0] rfl ?_
  obtain ⟨n, h⟩ := h
  exact b_X12_show_5 hX hE n _ _ _ _ _ _ h
set_option maxRecDepth 100000 in
set_option maxHeartbeats 4000000 in
theorem b_X12_layLog_237 {X : h_X} (hX : h_ok X cX12_layLog 8 RX12 2 48) {Q : h_S → Prop} (hE : h_end X none (h_QV (x_Z X) Q)) {K21 : Nat → Int32 → h_S → Prop} (hK21 : ∀ (o0 : Nat) (x4 : Int32) (s : h_S), K21 o0 x4 s → h_V X 8 21 [(0, pR (some o0)), (4, pI x4)] [] s 0 0) {o0 : Nat} {x4 : Int32} (s : h_S) (h : w_X12_layLog_237 Q K21 o0 x4 s) : h_V X 8 237 [(0, pR (some o0)), (4, pI x4)] [] s 0 0 := by
  unfold w_X12_layLog_237 at h
  refine v_goto (tgt := 21) hX dX12_layLog_237 (by decide) ?_
  refine v_pick [0, 1] rfl ?_
  exact hK21 _ _ _ h
set_option maxRecDepth 100000 in
set_option maxHeartbeats 4000000 in
theorem b_X12_layLog_66 {X : h_X} (hX : h_ok X cX12_layLog 8 RX12 2 48) {Q : h_S → Prop} (hE : h_end X none (h_QV (x_Z X) Q)) {K21 : Nat → Int32 → h_S → Prop} (hK21 : ∀ (o0 : Nat) (x4 : Int32) (s : h_S), K21 o0 x4 s → h_V X 8 21 [(0, pR (some o0)), (4, pI x4)] [] s 0 0) {o0 : Nat} {x4 : Int32} (s : h_S) (h : w_X12_layLog_66 Q K21 o0 x4 s) : h_V X 8 66 [(0, pR (some o0)), (4, pI x4)] [] s 0 0 := by
  unfold w_X12_layLog_66 at h
  refine v_iinc (c := -1) (lv' := [(4, _), (0, _)]) hX dX12_layLog_66 1 rfl (by decide) (by decide) rfl ?_
  refine v_goto (tgt := 237) hX dX12_layLog_69 (by decide) ?_
  refine v_pick [1, 0] rfl ?_
  exact b_X12_layLog_237 hX hE hK21 _ h
set_option maxRecDepth 100000 in
set_option maxHeartbeats 4000000 in
theorem b_X12_layLog_157 {X : h_X} (hX : h_ok X cX12_layLog 8 RX12 2 48) {Q : h_S → Prop} (hE : h_end X none (h_QV (x_Z X) Q)) {K21 : Nat → Int32 → h_S → Prop} (hK21 : ∀ (o0 : Nat) (x4 : Int32) (s : h_S), K21 o0 x4 s → h_V X 8 21 [(0, pR (some o0)), (4, pI x4)] [] s 0 0) {o0 : Nat} {x4 : Int32} (s : h_S) (h : w_X12_layLog_157 Q K21 o0 x4 s) : h_V X 8 157 [(0, pR (some o0)), (4, pI x4)] [] s 0 0 := by
  unfold w_X12_layLog_157 at h
  refine v_goto (tgt := 237) hX dX12_layLog_157 (by decide) ?_
  refine v_pick [0, 1] rfl ?_
  exact b_X12_layLog_237 hX hE hK21 _ h
set_option maxRecDepth 100000 in
set_option maxHeartbeats 4000000 in
theorem b_X12_layLog_114 {X : h_X} (hX : h_ok X cX12_layLog 8 RX12 2 48) {Q : h_S → Prop} (hE : h_end X none (h_QV (x_Z X) Q)) {K21 : Nat → Int32 → h_S → Prop} (hK21 : ∀ (o0 : Nat) (x4 : Int32) (s : h_S), K21 o0 x4 s → h_V X 8 21 [(0, pR (some o0)), (4, pI x4)] [] s 0 0) : ∀ (n : Nat) (o0 : Nat) (x4 : Int32) (x6 : Int32) (x7 : Int32) (s : h_S), w_X12_layLog_114 Q K21 n o0 x4 x6 x7 s → h_V X 8 114 [(0, pR (some o0)), (4, pI x4), (6, pI x6), (7, pI x7)] [] s 0 0 := by
  intro n
  induction n with
  | zero => intro _ _ _ _ s h; exact h.elim
  | succ n hK114 =>
    intro o0 x4 x6 x7 s h
    have h : w_X12_layLog_114b Q K21 (w_X12_layLog_114 Q K21 n) o0 x4 x6 x7 s := h
    unfold w_X12_layLog_114b at h
    refine v_iload hX dX12_layLog_114 3 rfl ?_
    refine v_aload_n hX dX12_layLog_116 0 rfl rfl ?_
    obtain ⟨k1, h⟩ := h
    refine v_getR hX dX12_layLog_117 f_RX12_46 rfl k1 ?_
    refine v_iload hX dX12_layLog_120 2 rfl ?_
    obtain ⟨a2, e_a2, h⟩ := h
    refine v_nn1 e_a2 ?_
    obtain ⟨k3, h⟩ := h
    obtain ⟨i4, h⟩ := h
    refine v_iald hX dX12_layLog_122 k3 i4 ?_
    refine v_icmp_ge (tgt := 157) hX dX12_layLog_123 (by decide) (fun c5 => ?_) (fun c5 => ?_)
    · have h := h_T c5 h
      refine v_pick [0, 1] rfl ?_
      exact b_X12_layLog_157 hX hE hK21 _ h
    · have h := h_E c5 h
      refine v_aload_n hX dX12_layLog_126 0 rfl rfl ?_
      refine v_iload hX dX12_layLog_127 1 rfl ?_
      refine v_callVi0 hX dX12_layLog_129 c_RX12_335 cV_X12_isDone (ci := 13) (T := TX12) (N := 115) rfl (by exact k1) [pI _] rfl rfl (Nat.le_of_ble_eq_true rfl) (by decide) (by decide)  (m_X12_isDone h) (fun p7 s6 h => ?_)
      refine v_if_ne (tgt := 157) hX dX12_layLog_132 (by decide) (fun c8 => ?_) (fun c8 => ?_)
      · have h := h_E c8 h
        refine v_pick [0, 1] rfl ?_
        exact b_X12_layLog_157 hX hE hK21 _ h
      · have h := h_T c8 h
        refine v_aload_n hX dX12_layLog_135 0 rfl rfl ?_
        refine v_aload_n hX dX12_layLog_136 0 rfl rfl ?_
        obtain ⟨k9, h⟩ := h
        refine v_getR hX dX12_layLog_137 f_RX12_43 rfl k9 ?_
        refine v_iload hX dX12_layLog_140 2 rfl ?_
        obtain ⟨a10, e_a10, h⟩ := h
        refine v_nn1 e_a10 ?_
        obtain ⟨k11, h⟩ := h
        obtain ⟨i12, h⟩ := h
        refine v_iald hX dX12_layLog_142 k11 i12 ?_
        refine v_iload hX dX12_layLog_143 3 rfl ?_
        refine v_iadd hX dX12_layLog_145 ?_
        refine v_iload hX dX12_layLog_146 1 rfl ?_
        refine v_callVv0 hX dX12_layLog_148 c_RX12_338 cV_X12_show (ci := 13) (T := TX12) (N := 115) rfl (by exact k9) [pI _, pI _] rfl rfl (Nat.le_of_ble_eq_true rfl) (by decide) (by decide)  (m_X12_show h) (fun s13 h => ?_)
        refine v_iinc (c := 1) (lv' := [(7, _), (0, _), (4, _), (6, _)]) hX dX12_layLog_151 3 rfl (by decide) (by decide) rfl ?_
        refine v_goto (tgt := 114) hX dX12_layLog_154 (by decide) ?_
        refine v_pick [1, 2, 3, 0] rfl ?_
        exact hK114 _ _ _ _ _ h
set_option maxRecDepth 100000 in
set_option maxHeartbeats 4000000 in
theorem b_X12_layLog_217 {X : h_X} (hX : h_ok X cX12_layLog 8 RX12 2 48) {Q : h_S → Prop} (hE : h_end X none (h_QV (x_Z X) Q)) {K21 : Nat → Int32 → h_S → Prop} (hK21 : ∀ (o0 : Nat) (x4 : Int32) (s : h_S), K21 o0 x4 s → h_V X 8 21 [(0, pR (some o0)), (4, pI x4)] [] s 0 0) {o0 : Nat} {x4 : Int32} {x6 : Int32} {y0 : Int32} {y1 : Int32} {y2 : Int32} {u3 : Nat} (s : h_S) (h : w_X12_layLog_217 Q K21 o0 x4 x6 y0 y1 y2 u3 s) : h_V X 8 217 [(0, pR (some o0)), (4, pI x4), (6, pI x6)] [pI y0, pI y1, pI y2, pR (some u3)] s 0 0 := by
  unfold w_X12_layLog_217 at h
  refine v_aload_n hX dX12_layLog_217 0 rfl rfl ?_
  obtain ⟨k1, h⟩ := h
  refine v_getR hX dX12_layLog_218 f_RX12_43 rfl k1 ?_
  refine v_iload hX dX12_layLog_221 2 rfl ?_
  obtain ⟨a2, e_a2, h⟩ := h
  refine v_nn1 e_a2 ?_
  obtain ⟨k3, h⟩ := h
  obtain ⟨i4, h⟩ := h
  refine v_iald hX dX12_layLog_223 k3 i4 ?_
  refine v_aload_n hX dX12_layLog_224 0 rfl rfl ?_
  refine v_getR hX dX12_layLog_225 f_RX12_46 rfl k1 ?_
  refine v_iload hX dX12_layLog_228 2 rfl ?_
  obtain ⟨a5, e_a5, h⟩ := h
  refine v_nn1 e_a5 ?_
  obtain ⟨k6, h⟩ := h
  obtain ⟨i7, h⟩ := h
  refine v_iald hX dX12_layLog_230 k6 i7 ?_
  obtain ⟨k8, h⟩ := h
  refine v_callVv0 hX dX12_layLog_231 c_RX12_331 cV_X12_enter (ci := 13) (T := TX12) (N := 115) rfl (by exact k8) [pI _, pI _, pI _, pI _, pI _] rfl rfl (Nat.le_of_ble_eq_true rfl) (by decide) (by decide)  (m_X12_enter h) (fun s9 h => ?_)
  refine v_iinc (c := 1) (lv' := [(4, _), (0, _), (6, _)]) hX dX12_layLog_234 1 rfl (by decide) (by decide) rfl ?_
  refine v_pick [1, 0] rfl ?_
  exact b_X12_layLog_237 hX hE hK21 _ h
set_option maxRecDepth 100000 in
set_option maxHeartbeats 4000000 in
theorem b_X12_layLog_21 {X : h_X} (hX : h_ok X cX12_layLog 8 RX12 2 48) {Q : h_S → Prop} (hE : h_end X none (h_QV (x_Z X) Q)) : ∀ (n : Nat) (o0 : Nat) (x4 : Int32) (s : h_S), w_X12_layLog_21 Q n o0 x4 s → h_V X 8 21 [(0, pR (some o0)), (4, pI x4)] [] s 0 0 := by
  intro n
  induction n with
  | zero => intro _ _ s h; exact h.elim
  | succ n hK21 =>
    intro o0 x4 s h
    have h : w_X12_layLog_21b Q (w_X12_layLog_21 Q n) o0 x4 s := h
    unfold w_X12_layLog_21b at h
    refine v_iload hX dX12_layLog_21 1 rfl ?_
    refine v_if_lt (tgt := 240) hX dX12_layLog_23 (by decide) (fun c1 => ?_) (fun c1 => ?_)
    · have h := h_T c1 h
      refine v_aload_n hX dX12_layLog_240 0 rfl rfl ?_
      refine v_aload_n hX dX12_layLog_241 0 rfl rfl ?_
      obtain ⟨k2, h⟩ := h
      refine v_getR hX dX12_layLog_242 f_RX12_88 rfl k2 ?_
      refine v_iconst (v := 0) hX dX12_layLog_245 (by decide) ?_
      obtain ⟨a3, e_a3, h⟩ := h
      refine v_nn1 e_a3 ?_
      obtain ⟨k4, h⟩ := h
      obtain ⟨i5, h⟩ := h
      refine v_iald hX dX12_layLog_246 k4 i5 ?_
      refine v_putI hX dX12_layLog_247 f_RX12_342 k2 ?_
      exact v_vret hX hE dX12_layLog_250 h
    · have h := h_E c1 h
      refine v_aload_n hX dX12_layLog_26 0 rfl rfl ?_
      obtain ⟨k7, h⟩ := h
      refine v_getR hX dX12_layLog_27 f_RX12_70 rfl k7 ?_
      refine v_iload hX dX12_layLog_30 1 rfl ?_
      obtain ⟨a8, e_a8, h⟩ := h
      refine v_nn1 e_a8 ?_
      obtain ⟨k9, h⟩ := h
      obtain ⟨i10, h⟩ := h
      refine v_iald hX dX12_layLog_32 k9 i10 ?_
      refine v_istore (lv' := [(5, _), (0, _), (4, _)]) hX dX12_layLog_33 (by decide) rfl ?_
      refine v_iload hX dX12_layLog_35 0 rfl ?_
      refine v_if_lt (tgt := 66) hX dX12_layLog_37 (by decide) (fun c11 => ?_) (fun c11 => ?_)
      · have h := h_T c11 h
        refine v_pick [1, 2] rfl ?_
        exact b_X12_layLog_66 hX hE hK21 _ h
      · have h := h_E c11 h
        refine v_aload_n hX dX12_layLog_40 1 rfl rfl ?_
        refine v_getR hX dX12_layLog_41 f_RX12_73 rfl k7 ?_
        refine v_iload hX dX12_layLog_44 2 rfl ?_
        obtain ⟨a12, e_a12, h⟩ := h
        refine v_nn1 e_a12 ?_
        obtain ⟨k13, h⟩ := h
        obtain ⟨i14, h⟩ := h
        refine v_iald hX dX12_layLog_46 k13 i14 ?_
        refine v_aload_n hX dX12_layLog_47 1 rfl rfl ?_
        refine v_getR hX dX12_layLog_48 f_RX12_37 rfl k7 ?_
        refine v_iload hX dX12_layLog_51 0 rfl ?_
        obtain ⟨a15, e_a15, h⟩ := h
        refine v_nn1 e_a15 ?_
        obtain ⟨k16, h⟩ := h
        obtain ⟨i17, h⟩ := h
        refine v_iald hX dX12_layLog_53 k16 i17 ?_
        refine v_icmp_ge (tgt := 66) hX dX12_layLog_54 (by decide) (fun c18 => ?_) (fun c18 => ?_)
        · have h := h_T c18 h
          refine v_pick [1, 2] rfl ?_
          exact b_X12_layLog_66 hX hE hK21 _ h
        · have h := h_E c18 h
          refine v_aload_n hX dX12_layLog_57 1 rfl rfl ?_
          refine v_iload hX dX12_layLog_58 2 rfl ?_
          refine v_callVi0 hX dX12_layLog_60 c_RX12_335 cV_X12_isDone (ci := 13) (T := TX12) (N := 115) rfl (by exact k7) [pI _] rfl rfl (Nat.le_of_ble_eq_true rfl) (by decide) (by decide)  (m_X12_isDone h) (fun p20 s19 h => ?_)
          refine v_if_eq (tgt := 72) hX dX12_layLog_63 (by decide) (fun c21 => ?_) (fun c21 => ?_)
          · have h := h_T c21 h
            refine v_aload_n hX dX12_layLog_72 1 rfl rfl ?_
            obtain ⟨k22, h⟩ := h
            refine v_getR hX dX12_layLog_73 f_RX12_34 rfl k22 ?_
            refine v_iload hX dX12_layLog_76 0 rfl ?_
            obtain ⟨a23, e_a23, h⟩ := h
            refine v_nn1 e_a23 ?_
            obtain ⟨k24, h⟩ := h
            obtain ⟨i25, h⟩ := h
            refine v_iald hX dX12_layLog_78 k24 i25 ?_
            refine v_aload_n hX dX12_layLog_79 1 rfl rfl ?_
            refine v_getR hX dX12_layLog_80 f_RX12_73 rfl k22 ?_
            refine v_iload hX dX12_layLog_83 2 rfl ?_
            obtain ⟨a26, e_a26, h⟩ := h
            refine v_nn1 e_a26 ?_
            obtain ⟨k27, h⟩ := h
            obtain ⟨i28, h⟩ := h
            refine v_iald hX dX12_layLog_85 k27 i28 ?_
            refine v_iadd hX dX12_layLog_86 ?_
            refine v_istore (lv' := [(6, _), (5, _), (0, _), (4, _)]) hX dX12_layLog_87 (by decide) rfl ?_
            refine v_aload_n hX dX12_layLog_89 2 rfl rfl ?_
            refine v_getR hX dX12_layLog_90 f_RX12_73 rfl k22 ?_
            refine v_iload hX dX12_layLog_93 3 rfl ?_
            refine v_dup2 hX dX12_layLog_95 rfl rfl ?_
            obtain ⟨a30, e_a30, h⟩ := h
            refine v_nn1 e_a30 ?_
            obtain ⟨k31, h⟩ := h
            obtain ⟨i32, h⟩ := h
            refine v_iald hX dX12_layLog_96 k31 i32 ?_
            refine v_iconst (v := 1) hX dX12_layLog_97 (by decide) ?_
            refine v_iadd hX dX12_layLog_98 ?_
            obtain ⟨a33, e_a33, h⟩ := h
            refine v_nn2 e_a33 ?_
            obtain ⟨k34, h⟩ := h
            obtain ⟨i35, h⟩ := h
            refine v_iast hX dX12_layLog_99 k34 i35 ?_
            refine v_aload_n hX dX12_layLog_100 2 rfl rfl ?_
            refine v_getR hX dX12_layLog_101 f_RX12_40 rfl k22 ?_
            refine v_iload hX dX12_layLog_104 0 rfl ?_
            obtain ⟨a37, e_a37, h⟩ := h
            refine v_nn1 e_a37 ?_
            obtain ⟨k38, h⟩ := h
            obtain ⟨i39, h⟩ := h
            refine v_iald hX dX12_layLog_106 k38 i39 ?_
            refine v_iconst (v := 2) hX dX12_layLog_107 (by decide) ?_
            refine v_icmp_ge (tgt := 160) hX dX12_layLog_108 (by decide) (fun c40 => ?_) (fun c40 => ?_)
            · have h := h_T c40 h
              refine v_iload hX dX12_layLog_160 3 rfl ?_
              refine v_iconst (v := 4) hX dX12_layLog_162 (by decide) ?_
              refine v_icmp_ne (tgt := 177) hX dX12_layLog_163 (by decide) (fun c41 => ?_) (fun c41 => ?_)
              · have h := h_E c41 h
                refine v_aload_n hX dX12_layLog_177 2 rfl rfl ?_
                refine v_iload hX dX12_layLog_178 3 rfl ?_
                refine v_iconst (v := 1) hX dX12_layLog_180 (by decide) ?_
                refine v_iadd hX dX12_layLog_181 ?_
                refine v_aload_n hX dX12_layLog_182 2 rfl rfl ?_
                refine v_getR hX dX12_layLog_183 f_RX12_49 rfl k22 ?_
                refine v_iload hX dX12_layLog_186 0 rfl ?_
                obtain ⟨a42, e_a42, h⟩ := h
                refine v_nn1 e_a42 ?_
                obtain ⟨k43, h⟩ := h
                obtain ⟨i44, h⟩ := h
                refine v_iald hX dX12_layLog_188 k43 i44 ?_
                refine v_aload_n hX dX12_layLog_189 2 rfl rfl ?_
                refine v_getR hX dX12_layLog_190 f_RX12_40 rfl k22 ?_
                refine v_iload hX dX12_layLog_193 0 rfl ?_
                obtain ⟨a45, e_a45, h⟩ := h
                refine v_nn1 e_a45 ?_
                obtain ⟨k46, h⟩ := h
                obtain ⟨i47, h⟩ := h
                refine v_iald hX dX12_layLog_195 k46 i47 ?_
                refine v_iconst (v := 2) hX dX12_layLog_196 (by decide) ?_
                refine v_icmp_ne (tgt := 210) hX dX12_layLog_197 (by decide) (fun c48 => ?_) (fun c48 => ?_)
                · have h := h_E c48 h
                  refine v_aload_n hX dX12_layLog_210 2 rfl rfl ?_
                  refine v_getR hX dX12_layLog_211 f_RX12_76 rfl k22 ?_
                  refine v_iload hX dX12_layLog_214 3 rfl ?_
                  obtain ⟨a49, e_a49, h⟩ := h
                  refine v_nn1 e_a49 ?_
                  obtain ⟨k50, h⟩ := h
                  obtain ⟨i51, h⟩ := h
                  refine v_iald hX dX12_layLog_216 k50 i51 ?_
                  refine v_pick [2, 3, 0] rfl ?_
                  exact b_X12_layLog_217 hX hE hK21 _ h
                · have h := h_T c48 h
                  refine v_aload_n hX dX12_layLog_200 2 rfl rfl ?_
                  refine v_getR hX dX12_layLog_201 f_RX12_52 rfl k22 ?_
                  refine v_iload hX dX12_layLog_204 0 rfl ?_
                  obtain ⟨a52, e_a52, h⟩ := h
                  refine v_nn1 e_a52 ?_
                  obtain ⟨k53, h⟩ := h
                  obtain ⟨i54, h⟩ := h
                  refine v_iald hX dX12_layLog_206 k53 i54 ?_
                  refine v_goto (tgt := 217) hX dX12_layLog_207 (by decide) ?_
                  refine v_pick [2, 3, 0] rfl ?_
                  exact b_X12_layLog_217 hX hE hK21 _ h
              · have h := h_T c41 h
                refine v_aload_n hX dX12_layLog_166 2 rfl rfl ?_
                refine v_bipush (v := -7) hX dX12_layLog_167 (by decide) ?_
                refine v_iload hX dX12_layLog_169 3 rfl ?_
                refine v_callVv0 hX dX12_layLog_171 c_RX12_338 cV_X12_show (ci := 13) (T := TX12) (N := 115) rfl (by exact k22) [pI _, pI _] rfl rfl (Nat.le_of_ble_eq_true rfl) (by decide) (by decide)  (m_X12_show h) (fun s55 h => ?_)
                refine v_goto (tgt := 237) hX dX12_layLog_174 (by decide) ?_
                refine v_pick [2, 3] rfl ?_
                exact b_X12_layLog_237 hX hE hK21 _ h
            · have h := h_E c40 h
              refine v_iconst (v := 0) hX dX12_layLog_111 (by decide) ?_
              refine v_istore (lv' := [(7, _), (6, _), (5, _), (0, _), (4, _)]) hX dX12_layLog_112 (by decide) rfl ?_
              refine v_pick [3, 4, 1, 0] rfl ?_
              obtain ⟨n, h⟩ := h
              exact b_X12_layLog_114 hX hE hK21 n _ _ _ _ _ h
          · have h := h_E c21 h
            refine v_pick [1, 2] rfl ?_
            exact b_X12_layLog_66 hX hE hK21 _ h
set_option maxRecDepth 100000 in
set_option maxHeartbeats 4000000 in
theorem m_X12_layLog {Z : h_Z} {o0 : Nat} {x1 : Int32} {x2 : Int32} {x3 : Int32} {s : h_S} {Q : h_S → Prop} (h : w_X12_layLog o0 x1 x2 x3 s Q) : h_M Z yX12_layLog cX12_layLog 8 none 2 48 [pR (some o0), pI x1, pI x2, pI x3] s 0 0 (h_QV Z Q) := by
  refine h_M.of (by decide) (Nat.le_of_ble_eq_true rfl) (fun X hZ hX hE hI => ?_)
  subst hZ
  unfold w_X12_layLog at h
  show h_V X 8 0 [(0, pR (some o0)), (1, pI x1), (2, pI x2), (3, pI x3)] [] s 0 0
  refine v_iconst (v := 0) hX dX12_layLog_0 (by decide) ?_
  refine v_istore (lv' := [(4, _), (0, _), (1, _), (2, _), (3, _)]) hX dX12_layLog_1 (by decide) rfl ?_
  refine v_aload_n hX dX12_layLog_3 1 rfl rfl ?_
  refine v_iconst (v := 0) hX dX12_layLog_4 (by decide) ?_
  refine v_iload_n hX dX12_layLog_5 3 rfl rfl ?_
  refine v_iload_n hX dX12_layLog_6 4 rfl rfl ?_
  refine v_iconst (v := 0) hX dX12_layLog_7 (by decide) ?_
  refine v_sipush (v := 300) hX dX12_layLog_8 (by decide) ?_
  obtain ⟨k1, h⟩ := h
  refine v_callVv0 hX dX12_layLog_11 c_RX12_331 cV_X12_enter (ci := 13) (T := TX12) (N := 115) rfl (by exact k1) [pI _, pI _, pI _, pI _, pI _] rfl rfl (Nat.le_of_ble_eq_true rfl) (by decide) (by decide)  (m_X12_enter h) (fun s2 h => ?_)
  refine v_aload_n hX dX12_layLog_14 1 rfl rfl ?_
  obtain ⟨k4, h⟩ := h
  refine v_getR hX dX12_layLog_15 f_RX12_70 rfl k4 ?_
  refine v_iconst (v := 0) hX dX12_layLog_18 (by decide) ?_
  refine v_iload_n hX dX12_layLog_19 2 rfl rfl ?_
  obtain ⟨a5, e_a5, h⟩ := h
  refine v_nn2 e_a5 ?_
  obtain ⟨k6, h⟩ := h
  obtain ⟨i7, h⟩ := h
  refine v_iast hX dX12_layLog_20 k6 i7 ?_
  refine v_pick [1, 0] rfl ?_
  obtain ⟨n, h⟩ := h
  exact b_X12_layLog_21 hX hE n _ _ _ h
set_option maxRecDepth 100000 in
set_option maxHeartbeats 4000000 in
theorem m_X12_lay {Z : h_Z} {o0 : Nat} {x1 : Int32} {x2 : Int32} {s : h_S} {Q : h_S → Prop} (h : w_X12_lay o0 x1 x2 s Q) : h_M Z yX12_lay cX12_lay 3 none 3 75 [pR (some o0), pI x1, pI x2] s 0 0 (h_QV Z Q) := by
  refine h_M.of (by decide) (Nat.le_of_ble_eq_true rfl) (fun X hZ hX hE hI => ?_)
  subst hZ
  unfold w_X12_lay at h
  show h_V X 3 0 [(0, pR (some o0)), (1, pI x1), (2, pI x2)] [] s 0 0
  refine v_aload_n hX dX12_lay_0 0 rfl rfl ?_
  refine v_aload_n hX dX12_lay_1 0 rfl rfl ?_
  refine v_iload_n hX dX12_lay_2 1 rfl rfl ?_
  refine v_iload_n hX dX12_lay_3 2 rfl rfl ?_
  obtain ⟨k1, h⟩ := h
  refine v_callVi0 hX dX12_lay_4 c_RX12_324 cV_X12_logOf (ci := 13) (T := TX12) (N := 115) rfl (by exact k1) [pI _, pI _] rfl rfl (Nat.le_of_ble_eq_true rfl) (by decide) (by decide)  (m_X12_logOf h) (fun p3 s2 h => ?_)
  refine v_iload_n hX dX12_lay_7 1 rfl rfl ?_
  refine v_iload_n hX dX12_lay_8 2 rfl rfl ?_
  obtain ⟨k4, h⟩ := h
  refine v_callVv0 hX dX12_lay_9 c_RX12_327 cV_X12_layLog (ci := 13) (T := TX12) (N := 115) rfl (by exact k4) [pI _, pI _, pI _] rfl rfl (Nat.le_of_ble_eq_true rfl) (by decide) (by decide)  (m_X12_layLog h) (fun s5 h => ?_)
  exact v_vret hX hE dX12_lay_12 h
set_option maxRecDepth 100000 in
set_option maxHeartbeats 4000000 in
theorem m_X12_setPiece {Z : h_Z} {o0 : Nat} {x1 : Int32} {x2 : Int32} {x3 : Int32} {x4 : Int32} {x5 : Int32} {x6 : Int32} {s : h_S} {Q : h_S → Prop} (h : w_X12_setPiece o0 x1 x2 x3 x4 x5 x6 s Q) : h_M Z yX12_setPiece cX12_setPiece 7 none 0 0 [pR (some o0), pI x1, pI x2, pI x3, pI x4, pI x5, pI x6] s 0 0 (h_QV Z Q) := by
  refine h_M.of (by decide) (Nat.le_of_ble_eq_true rfl) (fun X hZ hX hE hI => ?_)
  subst hZ
  unfold w_X12_setPiece at h
  show h_V X 7 0 [(0, pR (some o0)), (1, pI x1), (2, pI x2), (3, pI x3), (4, pI x4), (5, pI x5), (6, pI x6)] [] s 0 0
  refine v_aload_n hX dX12_setPiece_0 0 rfl rfl ?_
  obtain ⟨k1, h⟩ := h
  refine v_getR hX dX12_setPiece_1 f_RX12_103 rfl k1 ?_
  refine v_iload_n hX dX12_setPiece_4 1 rfl rfl ?_
  refine v_iload_n hX dX12_setPiece_5 2 rfl rfl ?_
  obtain ⟨a2, e_a2, h⟩ := h
  refine v_nn2 e_a2 ?_
  obtain ⟨k3, h⟩ := h
  obtain ⟨i4, h⟩ := h
  refine v_iast hX dX12_setPiece_6 k3 i4 ?_
  refine v_aload_n hX dX12_setPiece_7 0 rfl rfl ?_
  refine v_getR hX dX12_setPiece_8 f_RX12_106 rfl k1 ?_
  refine v_iload_n hX dX12_setPiece_11 1 rfl rfl ?_
  refine v_iload_n hX dX12_setPiece_12 3 rfl rfl ?_
  obtain ⟨a6, e_a6, h⟩ := h
  refine v_nn2 e_a6 ?_
  obtain ⟨k7, h⟩ := h
  obtain ⟨i8, h⟩ := h
  refine v_iast hX dX12_setPiece_13 k7 i8 ?_
  refine v_aload_n hX dX12_setPiece_14 0 rfl rfl ?_
  refine v_getR hX dX12_setPiece_15 f_RX12_109 rfl k1 ?_
  refine v_iload_n hX dX12_setPiece_18 1 rfl rfl ?_
  refine v_iload hX dX12_setPiece_19 4 rfl ?_
  obtain ⟨a10, e_a10, h⟩ := h
  refine v_nn2 e_a10 ?_
  obtain ⟨k11, h⟩ := h
  obtain ⟨i12, h⟩ := h
  refine v_iast hX dX12_setPiece_21 k11 i12 ?_
  refine v_aload_n hX dX12_setPiece_22 0 rfl rfl ?_
  refine v_getR hX dX12_setPiece_23 f_RX12_112 rfl k1 ?_
  refine v_iload_n hX dX12_setPiece_26 1 rfl rfl ?_
  refine v_iload hX dX12_setPiece_27 5 rfl ?_
  obtain ⟨a14, e_a14, h⟩ := h
  refine v_nn2 e_a14 ?_
  obtain ⟨k15, h⟩ := h
  obtain ⟨i16, h⟩ := h
  refine v_iast hX dX12_setPiece_29 k15 i16 ?_
  refine v_aload_n hX dX12_setPiece_30 0 rfl rfl ?_
  refine v_getR hX dX12_setPiece_31 f_RX12_115 rfl k1 ?_
  refine v_iload_n hX dX12_setPiece_34 1 rfl rfl ?_
  refine v_iload hX dX12_setPiece_35 6 rfl ?_
  obtain ⟨a18, e_a18, h⟩ := h
  refine v_nn2 e_a18 ?_
  obtain ⟨k19, h⟩ := h
  obtain ⟨i20, h⟩ := h
  refine v_iast hX dX12_setPiece_37 k19 i20 ?_
  exact v_vret hX hE dX12_setPiece_38 h
set_option maxRecDepth 100000 in
set_option maxHeartbeats 4000000 in
theorem b_X12_load_28 {X : h_X} (hX : h_ok X cX12_load 6 RX12 1 26) {Q : h_S → Prop} (hE : h_end X none (h_QV (x_Z X) Q)) : ∀ (n : Nat) (o0 : Nat) (x3 : Int32) (x4 : Int32) (s : h_S), w_X12_load_28 Q n o0 x3 x4 s → h_V X 6 28 [(0, pR (some o0)), (3, pI x3), (4, pI x4)] [] s 0 0 := by
  intro n
  induction n with
  | zero => intro _ _ _ s h; exact h.elim
  | succ n hK28 =>
    intro o0 x3 x4 s h
    have h : w_X12_load_28b Q (w_X12_load_28 Q n) o0 x3 x4 s := h
    unfold w_X12_load_28b at h
    refine v_iload hX dX12_load_28 2 rfl ?_
    refine v_aload_n hX dX12_load_30 0 rfl rfl ?_
    obtain ⟨k1, h⟩ := h
    refine v_getI hX dX12_load_31 f_RX12_345 rfl k1 ?_
    refine v_icmp_ge (tgt := 95) hX dX12_load_34 (by decide) (fun c2 => ?_) (fun c2 => ?_)
    · have h := h_T c2 h
      exact v_vret hX hE dX12_load_95 h
    · have h := h_E c2 h
      refine v_aload_n hX dX12_load_37 0 rfl rfl ?_
      refine v_getR hX dX12_load_38 f_RX12_34 rfl k1 ?_
      refine v_iload_n hX dX12_load_41 1 rfl rfl ?_
      obtain ⟨a3, e_a3, h⟩ := h
      refine v_nn1 e_a3 ?_
      obtain ⟨k4, h⟩ := h
      obtain ⟨i5, h⟩ := h
      refine v_iald hX dX12_load_42 k4 i5 ?_
      refine v_iload hX dX12_load_43 2 rfl ?_
      refine v_iadd hX dX12_load_45 ?_
      refine v_istore (lv' := [(5, _), (0, _), (3, _), (4, _)]) hX dX12_load_46 (by decide) rfl ?_
      refine v_aload_n hX dX12_load_48 1 rfl rfl ?_
      refine v_iload hX dX12_load_49 3 rfl ?_
      refine v_aload_n hX dX12_load_51 1 rfl rfl ?_
      refine v_getR hX dX12_load_52 f_RX12_40 rfl k1 ?_
      refine v_iload hX dX12_load_55 0 rfl ?_
      obtain ⟨a6, e_a6, h⟩ := h
      refine v_nn1 e_a6 ?_
      obtain ⟨k7, h⟩ := h
      obtain ⟨i8, h⟩ := h
      refine v_iald hX dX12_load_57 k7 i8 ?_
      refine v_aload_n hX dX12_load_58 1 rfl rfl ?_
      refine v_getR hX dX12_load_59 f_RX12_43 rfl k1 ?_
      refine v_iload hX dX12_load_62 0 rfl ?_
      obtain ⟨a9, e_a9, h⟩ := h
      refine v_nn1 e_a9 ?_
      obtain ⟨k10, h⟩ := h
      obtain ⟨i11, h⟩ := h
      refine v_iald hX dX12_load_64 k10 i11 ?_
      refine v_aload_n hX dX12_load_65 1 rfl rfl ?_
      refine v_getR hX dX12_load_66 f_RX12_46 rfl k1 ?_
      refine v_iload hX dX12_load_69 0 rfl ?_
      obtain ⟨a12, e_a12, h⟩ := h
      refine v_nn1 e_a12 ?_
      obtain ⟨k13, h⟩ := h
      obtain ⟨i14, h⟩ := h
      refine v_iald hX dX12_load_71 k13 i14 ?_
      refine v_aload_n hX dX12_load_72 1 rfl rfl ?_
      refine v_getR hX dX12_load_73 f_RX12_49 rfl k1 ?_
      refine v_iload hX dX12_load_76 0 rfl ?_
      obtain ⟨a15, e_a15, h⟩ := h
      refine v_nn1 e_a15 ?_
      obtain ⟨k16, h⟩ := h
      obtain ⟨i17, h⟩ := h
      refine v_iald hX dX12_load_78 k16 i17 ?_
      refine v_aload_n hX dX12_load_79 1 rfl rfl ?_
      refine v_getR hX dX12_load_80 f_RX12_52 rfl k1 ?_
      refine v_iload hX dX12_load_83 0 rfl ?_
      obtain ⟨a18, e_a18, h⟩ := h
      refine v_nn1 e_a18 ?_
      obtain ⟨k19, h⟩ := h
      obtain ⟨i20, h⟩ := h
      refine v_iald hX dX12_load_85 k19 i20 ?_
      refine v_callVv0 hX dX12_load_86 c_RX12_348 cV_X12_setPiece (ci := 13) (T := TX12) (N := 115) rfl (by exact k1) [pI _, pI _, pI _, pI _, pI _, pI _] rfl rfl (Nat.le_of_ble_eq_true rfl) (by decide) (by decide)  (m_X12_setPiece h) (fun s21 h => ?_)
      refine v_iinc (c := 1) (lv' := [(4, _), (5, _), (0, _), (3, _)]) hX dX12_load_89 3 rfl (by decide) (by decide) rfl ?_
      refine v_goto (tgt := 28) hX dX12_load_92 (by decide) ?_
      refine v_pick [2, 3, 0] rfl ?_
      exact hK28 _ _ _ _ h
set_option maxRecDepth 100000 in
set_option maxHeartbeats 4000000 in
theorem b_X12_load_22 {X : h_X} (hX : h_ok X cX12_load 6 RX12 1 26) {Q : h_S → Prop} (hE : h_end X none (h_QV (x_Z X) Q)) {o0 : Nat} {x3 : Int32} {y0 : Int32} {u1 : Nat} (s : h_S) (h : w_X12_load_22 Q o0 x3 y0 u1 s) : h_V X 6 22 [(0, pR (some o0)), (3, pI x3)] [pI y0, pR (some u1)] s 0 0 := by
  unfold w_X12_load_22 at h
  obtain ⟨k1, h⟩ := h
  refine v_putI hX dX12_load_22 f_RX12_345 k1 ?_
  refine v_iconst (v := 0) hX dX12_load_25 (by decide) ?_
  refine v_istore (lv' := [(4, _), (0, _), (3, _)]) hX dX12_load_26 (by decide) rfl ?_
  refine v_pick [1, 2, 0] rfl ?_
  obtain ⟨n, h⟩ := h
  exact b_X12_load_28 hX hE n _ _ _ _ h
set_option maxRecDepth 100000 in
set_option maxHeartbeats 4000000 in
theorem m_X12_load {Z : h_Z} {o0 : Nat} {x1 : Int32} {x2 : Int32} {s : h_S} {Q : h_S → Prop} (h : w_X12_load o0 x1 x2 s Q) : h_M Z yX12_load cX12_load 6 none 1 26 [pR (some o0), pI x1, pI x2] s 0 0 (h_QV Z Q) := by
  refine h_M.of (by decide) (Nat.le_of_ble_eq_true rfl) (fun X hZ hX hE hI => ?_)
  subst hZ
  unfold w_X12_load at h
  show h_V X 6 0 [(0, pR (some o0)), (1, pI x1), (2, pI x2)] [] s 0 0
  refine v_aload_n hX dX12_load_0 0 rfl rfl ?_
  refine v_iload_n hX dX12_load_1 1 rfl rfl ?_
  refine v_iload_n hX dX12_load_2 2 rfl rfl ?_
  obtain ⟨k1, h⟩ := h
  refine v_callVi0 hX dX12_load_3 c_RX12_324 cV_X12_logOf (ci := 13) (T := TX12) (N := 115) rfl (by exact k1) [pI _, pI _] rfl rfl (Nat.le_of_ble_eq_true rfl) (by decide) (by decide)  (m_X12_logOf h) (fun p3 s2 h => ?_)
  refine v_istore_n (lv' := [(3, _), (0, _), (1, _), (2, _)]) hX dX12_load_6 rfl (by decide) rfl ?_
  refine v_aload_n hX dX12_load_7 1 rfl rfl ?_
  refine v_iload_n hX dX12_load_8 0 rfl rfl ?_
  refine v_if_ge (tgt := 16) hX dX12_load_9 (by decide) (fun c4 => ?_) (fun c4 => ?_)
  · have h := h_T c4 h
    refine v_aload_n hX dX12_load_16 1 rfl rfl ?_
    obtain ⟨k5, h⟩ := h
    refine v_getR hX dX12_load_17 f_RX12_37 rfl k5 ?_
    refine v_iload_n hX dX12_load_20 0 rfl rfl ?_
    obtain ⟨a6, e_a6, h⟩ := h
    refine v_nn1 e_a6 ?_
    obtain ⟨k7, h⟩ := h
    obtain ⟨i8, h⟩ := h
    refine v_iald hX dX12_load_21 k7 i8 ?_
    refine v_pick [1, 0] rfl ?_
    exact b_X12_load_22 hX hE _ h
  · have h := h_E c4 h
    refine v_iconst (v := 0) hX dX12_load_12 (by decide) ?_
    refine v_goto (tgt := 22) hX dX12_load_13 (by decide) ?_
    refine v_pick [1, 0] rfl ?_
    exact b_X12_load_22 hX hE _ h
set_option maxRecDepth 100000 in
set_option maxHeartbeats 4000000 in
theorem b_X12_bound_43 {X : h_X} (hX : h_ok X cX12_bound 3 RX12 0 0) {Q : h_S → Prop} (hE : h_end X none (h_QV (x_Z X) Q)) {K4 : Nat → Int32 → Int32 → h_S → Prop} (hK4 : ∀ (o0 : Nat) (x1 : Int32) (x2 : Int32) (s : h_S), K4 o0 x1 x2 s → h_V X 3 4 [(0, pR (some o0)), (1, pI x1), (2, pI x2)] [] s 0 0) {o0 : Nat} {x1 : Int32} {x2 : Int32} (s : h_S) (h : w_X12_bound_43 Q K4 o0 x1 x2 s) : h_V X 3 43 [(0, pR (some o0)), (1, pI x1), (2, pI x2)] [] s 0 0 := by
  unfold w_X12_bound_43 at h
  refine v_aload_n hX dX12_bound_43 0 rfl rfl ?_
  obtain ⟨k1, h⟩ := h
  refine v_getR hX dX12_bound_44 f_RX12_121 rfl k1 ?_
  refine v_iload_n hX dX12_bound_47 2 rfl rfl ?_
  refine v_iload_n hX dX12_bound_48 1 rfl rfl ?_
  obtain ⟨a2, e_a2, h⟩ := h
  refine v_nn2 e_a2 ?_
  obtain ⟨k3, h⟩ := h
  obtain ⟨i4, h⟩ := h
  refine v_iast hX dX12_bound_49 k3 i4 ?_
  refine v_iinc (c := 1) (lv' := [(2, _), (0, _), (1, _)]) hX dX12_bound_50 2 rfl (by decide) (by decide) rfl ?_
  refine v_goto (tgt := 4) hX dX12_bound_53 (by decide) ?_
  refine v_pick [1, 2, 0] rfl ?_
  exact hK4 _ _ _ _ h
set_option maxRecDepth 100000 in
set_option maxHeartbeats 4000000 in
theorem b_X12_bound_19 {X : h_X} (hX : h_ok X cX12_bound 3 RX12 0 0) {Q : h_S → Prop} (hE : h_end X none (h_QV (x_Z X) Q)) {K4 : Nat → Int32 → Int32 → h_S → Prop} (hK4 : ∀ (o0 : Nat) (x1 : Int32) (x2 : Int32) (s : h_S), K4 o0 x1 x2 s → h_V X 3 4 [(0, pR (some o0)), (1, pI x1), (2, pI x2)] [] s 0 0) : ∀ (n : Nat) (o0 : Nat) (x1 : Int32) (x2 : Int32) (s : h_S), w_X12_bound_19 Q K4 n o0 x1 x2 s → h_V X 3 19 [(0, pR (some o0)), (1, pI x1), (2, pI x2)] [] s 0 0 := by
  intro n
  induction n with
  | zero => intro _ _ _ s h; exact h.elim
  | succ n hK19 =>
    intro o0 x1 x2 s h
    have h : w_X12_bound_19b Q K4 (w_X12_bound_19 Q K4 n) o0 x1 x2 s := h
    unfold w_X12_bound_19b at h
    refine v_iload_n hX dX12_bound_19 1 rfl rfl ?_
    refine v_aload_n hX dX12_bound_20 0 rfl rfl ?_
    obtain ⟨k1, h⟩ := h
    refine v_getI hX dX12_bound_21 f_RX12_342 rfl k1 ?_
    refine v_icmp_ge (tgt := 43) hX dX12_bound_24 (by decide) (fun c2 => ?_) (fun c2 => ?_)
    · have h := h_T c2 h
      refine v_pick [0, 1, 2] rfl ?_
      exact b_X12_bound_43 hX hE hK4 _ h
    · have h := h_E c2 h
      refine v_aload_n hX dX12_bound_27 0 rfl rfl ?_
      refine v_getR hX dX12_bound_28 f_RX12_94 rfl k1 ?_
      refine v_iload_n hX dX12_bound_31 1 rfl rfl ?_
      obtain ⟨a3, e_a3, h⟩ := h
      refine v_nn1 e_a3 ?_
      obtain ⟨k4, h⟩ := h
      obtain ⟨i5, h⟩ := h
      refine v_iald hX dX12_bound_32 k4 i5 ?_
      refine v_iload_n hX dX12_bound_33 2 rfl rfl ?_
      refine v_icmp_ne (tgt := 43) hX dX12_bound_34 (by decide) (fun c6 => ?_) (fun c6 => ?_)
      · have h := h_E c6 h
        refine v_pick [0, 1, 2] rfl ?_
        exact b_X12_bound_43 hX hE hK4 _ h
      · have h := h_T c6 h
        refine v_iinc (c := 1) (lv' := [(1, _), (0, _), (2, _)]) hX dX12_bound_37 1 rfl (by decide) (by decide) rfl ?_
        refine v_goto (tgt := 19) hX dX12_bound_40 (by decide) ?_
        refine v_pick [1, 0, 2] rfl ?_
        exact hK19 _ _ _ _ h
