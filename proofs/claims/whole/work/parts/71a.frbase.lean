/-! the reference: its arrays, one by one (fgen.py) -/
theorem fr_vp {x : Int32} {n m : Nat} (e : m = n) (h : vp_in x n) : vp_in x m := by rw [e]; exact h
section FR
variable {o : Nat} {ra : Nat → Nat} {s0 : h_S}
theorem fr_l2 : r_len 2 ≠ 0 := by decide
theorem fr_r2 {t : r_T} (hok : r_ok o ra s0) : h_r (r_emb s0 o ra t) o 2 = some (ra 2) := e_rr hok fr_l2
theorem fr_k2 {t : r_T} (hok : r_ok o ra s0) : h_k (r_emb s0 o ra t) (ra 2) = 1 := e_kk hok fr_l2
theorem fr_n2 {t : r_T} (hok : r_ok o ra s0) : h_n (r_emb s0 o ra t) (ra 2) = 1201 := e_nn hok fr_l2
theorem fr_i2 (hok : r_ok o ra s0) (t : r_T) (j : Nat) : h_i (r_emb s0 o ra t) (ra 2) j = t.2 2 j := e_ia hok fr_l2 j
theorem fr_s2 {t : r_T} (hok : r_ok o ra s0) (j : Nat) (v : Int32) : h_si (r_emb s0 o ra t) (ra 2) j v = r_emb s0 o ra (rt_A t 2 j v) := e_sa hok fr_l2 j v
theorem fr_l5 : r_len 5 ≠ 0 := by decide
theorem fr_r5 {t : r_T} (hok : r_ok o ra s0) : h_r (r_emb s0 o ra t) o 5 = some (ra 5) := e_rr hok fr_l5
theorem fr_k5 {t : r_T} (hok : r_ok o ra s0) : h_k (r_emb s0 o ra t) (ra 5) = 1 := e_kk hok fr_l5
theorem fr_n5 {t : r_T} (hok : r_ok o ra s0) : h_n (r_emb s0 o ra t) (ra 5) = 1200 := e_nn hok fr_l5
theorem fr_i5 (hok : r_ok o ra s0) (t : r_T) (j : Nat) : h_i (r_emb s0 o ra t) (ra 5) j = t.2 5 j := e_ia hok fr_l5 j
theorem fr_s5 {t : r_T} (hok : r_ok o ra s0) (j : Nat) (v : Int32) : h_si (r_emb s0 o ra t) (ra 5) j v = r_emb s0 o ra (rt_A t 5 j v) := e_sa hok fr_l5 j v
theorem fr_l6 : r_len 6 ≠ 0 := by decide
theorem fr_r6 {t : r_T} (hok : r_ok o ra s0) : h_r (r_emb s0 o ra t) o 6 = some (ra 6) := e_rr hok fr_l6
theorem fr_k6 {t : r_T} (hok : r_ok o ra s0) : h_k (r_emb s0 o ra t) (ra 6) = 1 := e_kk hok fr_l6
theorem fr_n6 {t : r_T} (hok : r_ok o ra s0) : h_n (r_emb s0 o ra t) (ra 6) = 1200 := e_nn hok fr_l6
theorem fr_i6 (hok : r_ok o ra s0) (t : r_T) (j : Nat) : h_i (r_emb s0 o ra t) (ra 6) j = t.2 6 j := e_ia hok fr_l6 j
theorem fr_s6 {t : r_T} (hok : r_ok o ra s0) (j : Nat) (v : Int32) : h_si (r_emb s0 o ra t) (ra 6) j v = r_emb s0 o ra (rt_A t 6 j v) := e_sa hok fr_l6 j v
theorem fr_l7 : r_len 7 ≠ 0 := by decide
theorem fr_r7 {t : r_T} (hok : r_ok o ra s0) : h_r (r_emb s0 o ra t) o 7 = some (ra 7) := e_rr hok fr_l7
theorem fr_k7 {t : r_T} (hok : r_ok o ra s0) : h_k (r_emb s0 o ra t) (ra 7) = 1 := e_kk hok fr_l7
theorem fr_n7 {t : r_T} (hok : r_ok o ra s0) : h_n (r_emb s0 o ra t) (ra 7) = 1200 := e_nn hok fr_l7
theorem fr_i7 (hok : r_ok o ra s0) (t : r_T) (j : Nat) : h_i (r_emb s0 o ra t) (ra 7) j = t.2 7 j := e_ia hok fr_l7 j
theorem fr_s7 {t : r_T} (hok : r_ok o ra s0) (j : Nat) (v : Int32) : h_si (r_emb s0 o ra t) (ra 7) j v = r_emb s0 o ra (rt_A t 7 j v) := e_sa hok fr_l7 j v
theorem fr_l9 : r_len 9 ≠ 0 := by decide
theorem fr_r9 {t : r_T} (hok : r_ok o ra s0) : h_r (r_emb s0 o ra t) o 9 = some (ra 9) := e_rr hok fr_l9
theorem fr_k9 {t : r_T} (hok : r_ok o ra s0) : h_k (r_emb s0 o ra t) (ra 9) = 1 := e_kk hok fr_l9
theorem fr_n9 {t : r_T} (hok : r_ok o ra s0) : h_n (r_emb s0 o ra t) (ra 9) = 12 := e_nn hok fr_l9
theorem fr_i9 (hok : r_ok o ra s0) (t : r_T) (j : Nat) : h_i (r_emb s0 o ra t) (ra 9) j = t.2 9 j := e_ia hok fr_l9 j
theorem fr_s9 {t : r_T} (hok : r_ok o ra s0) (j : Nat) (v : Int32) : h_si (r_emb s0 o ra t) (ra 9) j v = r_emb s0 o ra (rt_A t 9 j v) := e_sa hok fr_l9 j v
theorem fr_l11 : r_len 11 ≠ 0 := by decide
theorem fr_r11 {t : r_T} (hok : r_ok o ra s0) : h_r (r_emb s0 o ra t) o 11 = some (ra 11) := e_rr hok fr_l11
theorem fr_k11 {t : r_T} (hok : r_ok o ra s0) : h_k (r_emb s0 o ra t) (ra 11) = 1 := e_kk hok fr_l11
theorem fr_n11 {t : r_T} (hok : r_ok o ra s0) : h_n (r_emb s0 o ra t) (ra 11) = 12 := e_nn hok fr_l11
theorem fr_i11 (hok : r_ok o ra s0) (t : r_T) (j : Nat) : h_i (r_emb s0 o ra t) (ra 11) j = t.2 11 j := e_ia hok fr_l11 j
theorem fr_s11 {t : r_T} (hok : r_ok o ra s0) (j : Nat) (v : Int32) : h_si (r_emb s0 o ra t) (ra 11) j v = r_emb s0 o ra (rt_A t 11 j v) := e_sa hok fr_l11 j v
theorem fr_l12 : r_len 12 ≠ 0 := by decide
theorem fr_r12 {t : r_T} (hok : r_ok o ra s0) : h_r (r_emb s0 o ra t) o 12 = some (ra 12) := e_rr hok fr_l12
theorem fr_k12 {t : r_T} (hok : r_ok o ra s0) : h_k (r_emb s0 o ra t) (ra 12) = 1 := e_kk hok fr_l12
theorem fr_n12 {t : r_T} (hok : r_ok o ra s0) : h_n (r_emb s0 o ra t) (ra 12) = 1200 := e_nn hok fr_l12
theorem fr_i12 (hok : r_ok o ra s0) (t : r_T) (j : Nat) : h_i (r_emb s0 o ra t) (ra 12) j = t.2 12 j := e_ia hok fr_l12 j
theorem fr_s12 {t : r_T} (hok : r_ok o ra s0) (j : Nat) (v : Int32) : h_si (r_emb s0 o ra t) (ra 12) j v = r_emb s0 o ra (rt_A t 12 j v) := e_sa hok fr_l12 j v
theorem fr_l13 : r_len 13 ≠ 0 := by decide
theorem fr_r13 {t : r_T} (hok : r_ok o ra s0) : h_r (r_emb s0 o ra t) o 13 = some (ra 13) := e_rr hok fr_l13
theorem fr_k13 {t : r_T} (hok : r_ok o ra s0) : h_k (r_emb s0 o ra t) (ra 13) = 1 := e_kk hok fr_l13
theorem fr_n13 {t : r_T} (hok : r_ok o ra s0) : h_n (r_emb s0 o ra t) (ra 13) = 1200 := e_nn hok fr_l13
theorem fr_i13 (hok : r_ok o ra s0) (t : r_T) (j : Nat) : h_i (r_emb s0 o ra t) (ra 13) j = t.2 13 j := e_ia hok fr_l13 j
theorem fr_s13 {t : r_T} (hok : r_ok o ra s0) (j : Nat) (v : Int32) : h_si (r_emb s0 o ra t) (ra 13) j v = r_emb s0 o ra (rt_A t 13 j v) := e_sa hok fr_l13 j v
theorem fr_l14 : r_len 14 ≠ 0 := by decide
theorem fr_r14 {t : r_T} (hok : r_ok o ra s0) : h_r (r_emb s0 o ra t) o 14 = some (ra 14) := e_rr hok fr_l14
theorem fr_k14 {t : r_T} (hok : r_ok o ra s0) : h_k (r_emb s0 o ra t) (ra 14) = 1 := e_kk hok fr_l14
theorem fr_n14 {t : r_T} (hok : r_ok o ra s0) : h_n (r_emb s0 o ra t) (ra 14) = 1200 := e_nn hok fr_l14
theorem fr_i14 (hok : r_ok o ra s0) (t : r_T) (j : Nat) : h_i (r_emb s0 o ra t) (ra 14) j = t.2 14 j := e_ia hok fr_l14 j
theorem fr_s14 {t : r_T} (hok : r_ok o ra s0) (j : Nat) (v : Int32) : h_si (r_emb s0 o ra t) (ra 14) j v = r_emb s0 o ra (rt_A t 14 j v) := e_sa hok fr_l14 j v
theorem fr_l15 : r_len 15 ≠ 0 := by decide
theorem fr_r15 {t : r_T} (hok : r_ok o ra s0) : h_r (r_emb s0 o ra t) o 15 = some (ra 15) := e_rr hok fr_l15
theorem fr_k15 {t : r_T} (hok : r_ok o ra s0) : h_k (r_emb s0 o ra t) (ra 15) = 1 := e_kk hok fr_l15
theorem fr_n15 {t : r_T} (hok : r_ok o ra s0) : h_n (r_emb s0 o ra t) (ra 15) = 1200 := e_nn hok fr_l15
theorem fr_i15 (hok : r_ok o ra s0) (t : r_T) (j : Nat) : h_i (r_emb s0 o ra t) (ra 15) j = t.2 15 j := e_ia hok fr_l15 j
theorem fr_s15 {t : r_T} (hok : r_ok o ra s0) (j : Nat) (v : Int32) : h_si (r_emb s0 o ra t) (ra 15) j v = r_emb s0 o ra (rt_A t 15 j v) := e_sa hok fr_l15 j v
theorem fr_l17 : r_len 17 ≠ 0 := by decide
theorem fr_r17 {t : r_T} (hok : r_ok o ra s0) : h_r (r_emb s0 o ra t) o 17 = some (ra 17) := e_rr hok fr_l17
theorem fr_k17 {t : r_T} (hok : r_ok o ra s0) : h_k (r_emb s0 o ra t) (ra 17) = 1 := e_kk hok fr_l17
theorem fr_n17 {t : r_T} (hok : r_ok o ra s0) : h_n (r_emb s0 o ra t) (ra 17) = 28800 := e_nn hok fr_l17
theorem fr_i17 (hok : r_ok o ra s0) (t : r_T) (j : Nat) : h_i (r_emb s0 o ra t) (ra 17) j = t.2 17 j := e_ia hok fr_l17 j
theorem fr_s17 {t : r_T} (hok : r_ok o ra s0) (j : Nat) (v : Int32) : h_si (r_emb s0 o ra t) (ra 17) j v = r_emb s0 o ra (rt_A t 17 j v) := e_sa hok fr_l17 j v
theorem fr_l18 : r_len 18 ≠ 0 := by decide
theorem fr_r18 {t : r_T} (hok : r_ok o ra s0) : h_r (r_emb s0 o ra t) o 18 = some (ra 18) := e_rr hok fr_l18
theorem fr_k18 {t : r_T} (hok : r_ok o ra s0) : h_k (r_emb s0 o ra t) (ra 18) = 1 := e_kk hok fr_l18
theorem fr_n18 {t : r_T} (hok : r_ok o ra s0) : h_n (r_emb s0 o ra t) (ra 18) = 28800 := e_nn hok fr_l18
theorem fr_i18 (hok : r_ok o ra s0) (t : r_T) (j : Nat) : h_i (r_emb s0 o ra t) (ra 18) j = t.2 18 j := e_ia hok fr_l18 j
theorem fr_s18 {t : r_T} (hok : r_ok o ra s0) (j : Nat) (v : Int32) : h_si (r_emb s0 o ra t) (ra 18) j v = r_emb s0 o ra (rt_A t 18 j v) := e_sa hok fr_l18 j v
theorem fr_l19 : r_len 19 ≠ 0 := by decide
theorem fr_r19 {t : r_T} (hok : r_ok o ra s0) : h_r (r_emb s0 o ra t) o 19 = some (ra 19) := e_rr hok fr_l19
theorem fr_k19 {t : r_T} (hok : r_ok o ra s0) : h_k (r_emb s0 o ra t) (ra 19) = 1 := e_kk hok fr_l19
theorem fr_n19 {t : r_T} (hok : r_ok o ra s0) : h_n (r_emb s0 o ra t) (ra 19) = 28800 := e_nn hok fr_l19
theorem fr_i19 (hok : r_ok o ra s0) (t : r_T) (j : Nat) : h_i (r_emb s0 o ra t) (ra 19) j = t.2 19 j := e_ia hok fr_l19 j
theorem fr_s19 {t : r_T} (hok : r_ok o ra s0) (j : Nat) (v : Int32) : h_si (r_emb s0 o ra t) (ra 19) j v = r_emb s0 o ra (rt_A t 19 j v) := e_sa hok fr_l19 j v
theorem fr_l20 : r_len 20 ≠ 0 := by decide
theorem fr_r20 {t : r_T} (hok : r_ok o ra s0) : h_r (r_emb s0 o ra t) o 20 = some (ra 20) := e_rr hok fr_l20
theorem fr_k20 {t : r_T} (hok : r_ok o ra s0) : h_k (r_emb s0 o ra t) (ra 20) = 1 := e_kk hok fr_l20
theorem fr_n20 {t : r_T} (hok : r_ok o ra s0) : h_n (r_emb s0 o ra t) (ra 20) = 28800 := e_nn hok fr_l20
theorem fr_i20 (hok : r_ok o ra s0) (t : r_T) (j : Nat) : h_i (r_emb s0 o ra t) (ra 20) j = t.2 20 j := e_ia hok fr_l20 j
theorem fr_s20 {t : r_T} (hok : r_ok o ra s0) (j : Nat) (v : Int32) : h_si (r_emb s0 o ra t) (ra 20) j v = r_emb s0 o ra (rt_A t 20 j v) := e_sa hok fr_l20 j v
theorem fr_l21 : r_len 21 ≠ 0 := by decide
theorem fr_r21 {t : r_T} (hok : r_ok o ra s0) : h_r (r_emb s0 o ra t) o 21 = some (ra 21) := e_rr hok fr_l21
theorem fr_k21 {t : r_T} (hok : r_ok o ra s0) : h_k (r_emb s0 o ra t) (ra 21) = 1 := e_kk hok fr_l21
theorem fr_n21 {t : r_T} (hok : r_ok o ra s0) : h_n (r_emb s0 o ra t) (ra 21) = 28800 := e_nn hok fr_l21
theorem fr_i21 (hok : r_ok o ra s0) (t : r_T) (j : Nat) : h_i (r_emb s0 o ra t) (ra 21) j = t.2 21 j := e_ia hok fr_l21 j
theorem fr_s21 {t : r_T} (hok : r_ok o ra s0) (j : Nat) (v : Int32) : h_si (r_emb s0 o ra t) (ra 21) j v = r_emb s0 o ra (rt_A t 21 j v) := e_sa hok fr_l21 j v
theorem fr_l23 : r_len 23 ≠ 0 := by decide
theorem fr_r23 {t : r_T} (hok : r_ok o ra s0) : h_r (r_emb s0 o ra t) o 23 = some (ra 23) := e_rr hok fr_l23
theorem fr_k23 {t : r_T} (hok : r_ok o ra s0) : h_k (r_emb s0 o ra t) (ra 23) = 1 := e_kk hok fr_l23
theorem fr_n23 {t : r_T} (hok : r_ok o ra s0) : h_n (r_emb s0 o ra t) (ra 23) = 500 := e_nn hok fr_l23
theorem fr_i23 (hok : r_ok o ra s0) (t : r_T) (j : Nat) : h_i (r_emb s0 o ra t) (ra 23) j = t.2 23 j := e_ia hok fr_l23 j
theorem fr_s23 {t : r_T} (hok : r_ok o ra s0) (j : Nat) (v : Int32) : h_si (r_emb s0 o ra t) (ra 23) j v = r_emb s0 o ra (rt_A t 23 j v) := e_sa hok fr_l23 j v
theorem fr_l24 : r_len 24 ≠ 0 := by decide
theorem fr_r24 {t : r_T} (hok : r_ok o ra s0) : h_r (r_emb s0 o ra t) o 24 = some (ra 24) := e_rr hok fr_l24
theorem fr_k24 {t : r_T} (hok : r_ok o ra s0) : h_k (r_emb s0 o ra t) (ra 24) = 1 := e_kk hok fr_l24
theorem fr_n24 {t : r_T} (hok : r_ok o ra s0) : h_n (r_emb s0 o ra t) (ra 24) = 500 := e_nn hok fr_l24
theorem fr_i24 (hok : r_ok o ra s0) (t : r_T) (j : Nat) : h_i (r_emb s0 o ra t) (ra 24) j = t.2 24 j := e_ia hok fr_l24 j
theorem fr_s24 {t : r_T} (hok : r_ok o ra s0) (j : Nat) (v : Int32) : h_si (r_emb s0 o ra t) (ra 24) j v = r_emb s0 o ra (rt_A t 24 j v) := e_sa hok fr_l24 j v
theorem fr_l25 : r_len 25 ≠ 0 := by decide
theorem fr_r25 {t : r_T} (hok : r_ok o ra s0) : h_r (r_emb s0 o ra t) o 25 = some (ra 25) := e_rr hok fr_l25
theorem fr_k25 {t : r_T} (hok : r_ok o ra s0) : h_k (r_emb s0 o ra t) (ra 25) = 1 := e_kk hok fr_l25
theorem fr_n25 {t : r_T} (hok : r_ok o ra s0) : h_n (r_emb s0 o ra t) (ra 25) = 500 := e_nn hok fr_l25
theorem fr_i25 (hok : r_ok o ra s0) (t : r_T) (j : Nat) : h_i (r_emb s0 o ra t) (ra 25) j = t.2 25 j := e_ia hok fr_l25 j
theorem fr_s25 {t : r_T} (hok : r_ok o ra s0) (j : Nat) (v : Int32) : h_si (r_emb s0 o ra t) (ra 25) j v = r_emb s0 o ra (rt_A t 25 j v) := e_sa hok fr_l25 j v
theorem fr_l26 : r_len 26 ≠ 0 := by decide
theorem fr_r26 {t : r_T} (hok : r_ok o ra s0) : h_r (r_emb s0 o ra t) o 26 = some (ra 26) := e_rr hok fr_l26
theorem fr_k26 {t : r_T} (hok : r_ok o ra s0) : h_k (r_emb s0 o ra t) (ra 26) = 1 := e_kk hok fr_l26
theorem fr_n26 {t : r_T} (hok : r_ok o ra s0) : h_n (r_emb s0 o ra t) (ra 26) = 500 := e_nn hok fr_l26
theorem fr_i26 (hok : r_ok o ra s0) (t : r_T) (j : Nat) : h_i (r_emb s0 o ra t) (ra 26) j = t.2 26 j := e_ia hok fr_l26 j
theorem fr_s26 {t : r_T} (hok : r_ok o ra s0) (j : Nat) (v : Int32) : h_si (r_emb s0 o ra t) (ra 26) j v = r_emb s0 o ra (rt_A t 26 j v) := e_sa hok fr_l26 j v
theorem fr_l27 : r_len 27 ≠ 0 := by decide
theorem fr_r27 {t : r_T} (hok : r_ok o ra s0) : h_r (r_emb s0 o ra t) o 27 = some (ra 27) := e_rr hok fr_l27
theorem fr_k27 {t : r_T} (hok : r_ok o ra s0) : h_k (r_emb s0 o ra t) (ra 27) = 1 := e_kk hok fr_l27
theorem fr_n27 {t : r_T} (hok : r_ok o ra s0) : h_n (r_emb s0 o ra t) (ra 27) = 500 := e_nn hok fr_l27
theorem fr_i27 (hok : r_ok o ra s0) (t : r_T) (j : Nat) : h_i (r_emb s0 o ra t) (ra 27) j = t.2 27 j := e_ia hok fr_l27 j
theorem fr_s27 {t : r_T} (hok : r_ok o ra s0) (j : Nat) (v : Int32) : h_si (r_emb s0 o ra t) (ra 27) j v = r_emb s0 o ra (rt_A t 27 j v) := e_sa hok fr_l27 j v
theorem fr_l28 : r_len 28 ≠ 0 := by decide
theorem fr_r28 {t : r_T} (hok : r_ok o ra s0) : h_r (r_emb s0 o ra t) o 28 = some (ra 28) := e_rr hok fr_l28
theorem fr_k28 {t : r_T} (hok : r_ok o ra s0) : h_k (r_emb s0 o ra t) (ra 28) = 1 := e_kk hok fr_l28
theorem fr_n28 {t : r_T} (hok : r_ok o ra s0) : h_n (r_emb s0 o ra t) (ra 28) = 5 := e_nn hok fr_l28
theorem fr_i28 (hok : r_ok o ra s0) (t : r_T) (j : Nat) : h_i (r_emb s0 o ra t) (ra 28) j = t.2 28 j := e_ia hok fr_l28 j
theorem fr_s28 {t : r_T} (hok : r_ok o ra s0) (j : Nat) (v : Int32) : h_si (r_emb s0 o ra t) (ra 28) j v = r_emb s0 o ra (rt_A t 28 j v) := e_sa hok fr_l28 j v
theorem fr_l29 : r_len 29 ≠ 0 := by decide
theorem fr_r29 {t : r_T} (hok : r_ok o ra s0) : h_r (r_emb s0 o ra t) o 29 = some (ra 29) := e_rr hok fr_l29
theorem fr_k29 {t : r_T} (hok : r_ok o ra s0) : h_k (r_emb s0 o ra t) (ra 29) = 1 := e_kk hok fr_l29
theorem fr_n29 {t : r_T} (hok : r_ok o ra s0) : h_n (r_emb s0 o ra t) (ra 29) = 5 := e_nn hok fr_l29
theorem fr_i29 (hok : r_ok o ra s0) (t : r_T) (j : Nat) : h_i (r_emb s0 o ra t) (ra 29) j = t.2 29 j := e_ia hok fr_l29 j
theorem fr_s29 {t : r_T} (hok : r_ok o ra s0) (j : Nat) (v : Int32) : h_si (r_emb s0 o ra t) (ra 29) j v = r_emb s0 o ra (rt_A t 29 j v) := e_sa hok fr_l29 j v
theorem fr_l30 : r_len 30 ≠ 0 := by decide
theorem fr_r30 {t : r_T} (hok : r_ok o ra s0) : h_r (r_emb s0 o ra t) o 30 = some (ra 30) := e_rr hok fr_l30
theorem fr_k30 {t : r_T} (hok : r_ok o ra s0) : h_k (r_emb s0 o ra t) (ra 30) = 1 := e_kk hok fr_l30
theorem fr_n30 {t : r_T} (hok : r_ok o ra s0) : h_n (r_emb s0 o ra t) (ra 30) = 5 := e_nn hok fr_l30
theorem fr_i30 (hok : r_ok o ra s0) (t : r_T) (j : Nat) : h_i (r_emb s0 o ra t) (ra 30) j = t.2 30 j := e_ia hok fr_l30 j
theorem fr_s30 {t : r_T} (hok : r_ok o ra s0) (j : Nat) (v : Int32) : h_si (r_emb s0 o ra t) (ra 30) j v = r_emb s0 o ra (rt_A t 30 j v) := e_sa hok fr_l30 j v
theorem fr_l31 : r_len 31 ≠ 0 := by decide
theorem fr_r31 {t : r_T} (hok : r_ok o ra s0) : h_r (r_emb s0 o ra t) o 31 = some (ra 31) := e_rr hok fr_l31
theorem fr_k31 {t : r_T} (hok : r_ok o ra s0) : h_k (r_emb s0 o ra t) (ra 31) = 1 := e_kk hok fr_l31
theorem fr_n31 {t : r_T} (hok : r_ok o ra s0) : h_n (r_emb s0 o ra t) (ra 31) = 5 := e_nn hok fr_l31
theorem fr_i31 (hok : r_ok o ra s0) (t : r_T) (j : Nat) : h_i (r_emb s0 o ra t) (ra 31) j = t.2 31 j := e_ia hok fr_l31 j
theorem fr_s31 {t : r_T} (hok : r_ok o ra s0) (j : Nat) (v : Int32) : h_si (r_emb s0 o ra t) (ra 31) j v = r_emb s0 o ra (rt_A t 31 j v) := e_sa hok fr_l31 j v
theorem fr_l32 : r_len 32 ≠ 0 := by decide
theorem fr_r32 {t : r_T} (hok : r_ok o ra s0) : h_r (r_emb s0 o ra t) o 32 = some (ra 32) := e_rr hok fr_l32
theorem fr_k32 {t : r_T} (hok : r_ok o ra s0) : h_k (r_emb s0 o ra t) (ra 32) = 1 := e_kk hok fr_l32
theorem fr_n32 {t : r_T} (hok : r_ok o ra s0) : h_n (r_emb s0 o ra t) (ra 32) = 5 := e_nn hok fr_l32
theorem fr_i32 (hok : r_ok o ra s0) (t : r_T) (j : Nat) : h_i (r_emb s0 o ra t) (ra 32) j = t.2 32 j := e_ia hok fr_l32 j
theorem fr_s32 {t : r_T} (hok : r_ok o ra s0) (j : Nat) (v : Int32) : h_si (r_emb s0 o ra t) (ra 32) j v = r_emb s0 o ra (rt_A t 32 j v) := e_sa hok fr_l32 j v
theorem fr_l33 : r_len 33 ≠ 0 := by decide
theorem fr_r33 {t : r_T} (hok : r_ok o ra s0) : h_r (r_emb s0 o ra t) o 33 = some (ra 33) := e_rr hok fr_l33
theorem fr_k33 {t : r_T} (hok : r_ok o ra s0) : h_k (r_emb s0 o ra t) (ra 33) = 1 := e_kk hok fr_l33
theorem fr_n33 {t : r_T} (hok : r_ok o ra s0) : h_n (r_emb s0 o ra t) (ra 33) = 5 := e_nn hok fr_l33
theorem fr_i33 (hok : r_ok o ra s0) (t : r_T) (j : Nat) : h_i (r_emb s0 o ra t) (ra 33) j = t.2 33 j := e_ia hok fr_l33 j
theorem fr_s33 {t : r_T} (hok : r_ok o ra s0) (j : Nat) (v : Int32) : h_si (r_emb s0 o ra t) (ra 33) j v = r_emb s0 o ra (rt_A t 33 j v) := e_sa hok fr_l33 j v
theorem fr_l34 : r_len 34 ≠ 0 := by decide
theorem fr_r34 {t : r_T} (hok : r_ok o ra s0) : h_r (r_emb s0 o ra t) o 34 = some (ra 34) := e_rr hok fr_l34
theorem fr_k34 {t : r_T} (hok : r_ok o ra s0) : h_k (r_emb s0 o ra t) (ra 34) = 1 := e_kk hok fr_l34
theorem fr_n34 {t : r_T} (hok : r_ok o ra s0) : h_n (r_emb s0 o ra t) (ra 34) = 5 := e_nn hok fr_l34
theorem fr_i34 (hok : r_ok o ra s0) (t : r_T) (j : Nat) : h_i (r_emb s0 o ra t) (ra 34) j = t.2 34 j := e_ia hok fr_l34 j
theorem fr_s34 {t : r_T} (hok : r_ok o ra s0) (j : Nat) (v : Int32) : h_si (r_emb s0 o ra t) (ra 34) j v = r_emb s0 o ra (rt_A t 34 j v) := e_sa hok fr_l34 j v
theorem fr_l36 : r_len 36 ≠ 0 := by decide
theorem fr_r36 {t : r_T} (hok : r_ok o ra s0) : h_r (r_emb s0 o ra t) o 36 = some (ra 36) := e_rr hok fr_l36
theorem fr_k36 {t : r_T} (hok : r_ok o ra s0) : h_k (r_emb s0 o ra t) (ra 36) = 1 := e_kk hok fr_l36
theorem fr_n36 {t : r_T} (hok : r_ok o ra s0) : h_n (r_emb s0 o ra t) (ra 36) = 300 := e_nn hok fr_l36
theorem fr_i36 (hok : r_ok o ra s0) (t : r_T) (j : Nat) : h_i (r_emb s0 o ra t) (ra 36) j = t.2 36 j := e_ia hok fr_l36 j
theorem fr_s36 {t : r_T} (hok : r_ok o ra s0) (j : Nat) (v : Int32) : h_si (r_emb s0 o ra t) (ra 36) j v = r_emb s0 o ra (rt_A t 36 j v) := e_sa hok fr_l36 j v
theorem fr_l37 : r_len 37 ≠ 0 := by decide
theorem fr_r37 {t : r_T} (hok : r_ok o ra s0) : h_r (r_emb s0 o ra t) o 37 = some (ra 37) := e_rr hok fr_l37
theorem fr_k37 {t : r_T} (hok : r_ok o ra s0) : h_k (r_emb s0 o ra t) (ra 37) = 1 := e_kk hok fr_l37
theorem fr_n37 {t : r_T} (hok : r_ok o ra s0) : h_n (r_emb s0 o ra t) (ra 37) = 300 := e_nn hok fr_l37
theorem fr_i37 (hok : r_ok o ra s0) (t : r_T) (j : Nat) : h_i (r_emb s0 o ra t) (ra 37) j = t.2 37 j := e_ia hok fr_l37 j
theorem fr_s37 {t : r_T} (hok : r_ok o ra s0) (j : Nat) (v : Int32) : h_si (r_emb s0 o ra t) (ra 37) j v = r_emb s0 o ra (rt_A t 37 j v) := e_sa hok fr_l37 j v
theorem fr_l38 : r_len 38 ≠ 0 := by decide
theorem fr_r38 {t : r_T} (hok : r_ok o ra s0) : h_r (r_emb s0 o ra t) o 38 = some (ra 38) := e_rr hok fr_l38
theorem fr_k38 {t : r_T} (hok : r_ok o ra s0) : h_k (r_emb s0 o ra t) (ra 38) = 1 := e_kk hok fr_l38
theorem fr_n38 {t : r_T} (hok : r_ok o ra s0) : h_n (r_emb s0 o ra t) (ra 38) = 300 := e_nn hok fr_l38
theorem fr_i38 (hok : r_ok o ra s0) (t : r_T) (j : Nat) : h_i (r_emb s0 o ra t) (ra 38) j = t.2 38 j := e_ia hok fr_l38 j
theorem fr_s38 {t : r_T} (hok : r_ok o ra s0) (j : Nat) (v : Int32) : h_si (r_emb s0 o ra t) (ra 38) j v = r_emb s0 o ra (rt_A t 38 j v) := e_sa hok fr_l38 j v
theorem fr_l39 : r_len 39 ≠ 0 := by decide
theorem fr_r39 {t : r_T} (hok : r_ok o ra s0) : h_r (r_emb s0 o ra t) o 39 = some (ra 39) := e_rr hok fr_l39
theorem fr_k39 {t : r_T} (hok : r_ok o ra s0) : h_k (r_emb s0 o ra t) (ra 39) = 1 := e_kk hok fr_l39
theorem fr_n39 {t : r_T} (hok : r_ok o ra s0) : h_n (r_emb s0 o ra t) (ra 39) = 1500 := e_nn hok fr_l39
theorem fr_i39 (hok : r_ok o ra s0) (t : r_T) (j : Nat) : h_i (r_emb s0 o ra t) (ra 39) j = t.2 39 j := e_ia hok fr_l39 j
theorem fr_s39 {t : r_T} (hok : r_ok o ra s0) (j : Nat) (v : Int32) : h_si (r_emb s0 o ra t) (ra 39) j v = r_emb s0 o ra (rt_A t 39 j v) := e_sa hok fr_l39 j v
theorem fr_l41 : r_len 41 ≠ 0 := by decide
theorem fr_r41 {t : r_T} (hok : r_ok o ra s0) : h_r (r_emb s0 o ra t) o 41 = some (ra 41) := e_rr hok fr_l41
theorem fr_k41 {t : r_T} (hok : r_ok o ra s0) : h_k (r_emb s0 o ra t) (ra 41) = 1 := e_kk hok fr_l41
theorem fr_n41 {t : r_T} (hok : r_ok o ra s0) : h_n (r_emb s0 o ra t) (ra 41) = 60 := e_nn hok fr_l41
theorem fr_i41 (hok : r_ok o ra s0) (t : r_T) (j : Nat) : h_i (r_emb s0 o ra t) (ra 41) j = t.2 41 j := e_ia hok fr_l41 j
theorem fr_s41 {t : r_T} (hok : r_ok o ra s0) (j : Nat) (v : Int32) : h_si (r_emb s0 o ra t) (ra 41) j v = r_emb s0 o ra (rt_A t 41 j v) := e_sa hok fr_l41 j v
theorem fr_l42 : r_len 42 ≠ 0 := by decide
theorem fr_r42 {t : r_T} (hok : r_ok o ra s0) : h_r (r_emb s0 o ra t) o 42 = some (ra 42) := e_rr hok fr_l42
theorem fr_k42 {t : r_T} (hok : r_ok o ra s0) : h_k (r_emb s0 o ra t) (ra 42) = 1 := e_kk hok fr_l42
theorem fr_n42 {t : r_T} (hok : r_ok o ra s0) : h_n (r_emb s0 o ra t) (ra 42) = 60 := e_nn hok fr_l42
theorem fr_i42 (hok : r_ok o ra s0) (t : r_T) (j : Nat) : h_i (r_emb s0 o ra t) (ra 42) j = t.2 42 j := e_ia hok fr_l42 j
theorem fr_s42 {t : r_T} (hok : r_ok o ra s0) (j : Nat) (v : Int32) : h_si (r_emb s0 o ra t) (ra 42) j v = r_emb s0 o ra (rt_A t 42 j v) := e_sa hok fr_l42 j v
theorem fr_l43 : r_len 43 ≠ 0 := by decide
theorem fr_r43 {t : r_T} (hok : r_ok o ra s0) : h_r (r_emb s0 o ra t) o 43 = some (ra 43) := e_rr hok fr_l43
theorem fr_k43 {t : r_T} (hok : r_ok o ra s0) : h_k (r_emb s0 o ra t) (ra 43) = 1 := e_kk hok fr_l43
theorem fr_n43 {t : r_T} (hok : r_ok o ra s0) : h_n (r_emb s0 o ra t) (ra 43) = 60 := e_nn hok fr_l43
theorem fr_i43 (hok : r_ok o ra s0) (t : r_T) (j : Nat) : h_i (r_emb s0 o ra t) (ra 43) j = t.2 43 j := e_ia hok fr_l43 j
theorem fr_s43 {t : r_T} (hok : r_ok o ra s0) (j : Nat) (v : Int32) : h_si (r_emb s0 o ra t) (ra 43) j v = r_emb s0 o ra (rt_A t 43 j v) := e_sa hok fr_l43 j v
theorem fr_l44 : r_len 44 ≠ 0 := by decide
theorem fr_r44 {t : r_T} (hok : r_ok o ra s0) : h_r (r_emb s0 o ra t) o 44 = some (ra 44) := e_rr hok fr_l44
theorem fr_k44 {t : r_T} (hok : r_ok o ra s0) : h_k (r_emb s0 o ra t) (ra 44) = 1 := e_kk hok fr_l44
theorem fr_n44 {t : r_T} (hok : r_ok o ra s0) : h_n (r_emb s0 o ra t) (ra 44) = 60 := e_nn hok fr_l44
theorem fr_i44 (hok : r_ok o ra s0) (t : r_T) (j : Nat) : h_i (r_emb s0 o ra t) (ra 44) j = t.2 44 j := e_ia hok fr_l44 j
theorem fr_s44 {t : r_T} (hok : r_ok o ra s0) (j : Nat) (v : Int32) : h_si (r_emb s0 o ra t) (ra 44) j v = r_emb s0 o ra (rt_A t 44 j v) := e_sa hok fr_l44 j v
theorem fr_l45 : r_len 45 ≠ 0 := by decide
theorem fr_r45 {t : r_T} (hok : r_ok o ra s0) : h_r (r_emb s0 o ra t) o 45 = some (ra 45) := e_rr hok fr_l45
theorem fr_k45 {t : r_T} (hok : r_ok o ra s0) : h_k (r_emb s0 o ra t) (ra 45) = 1 := e_kk hok fr_l45
theorem fr_n45 {t : r_T} (hok : r_ok o ra s0) : h_n (r_emb s0 o ra t) (ra 45) = 60 := e_nn hok fr_l45
theorem fr_i45 (hok : r_ok o ra s0) (t : r_T) (j : Nat) : h_i (r_emb s0 o ra t) (ra 45) j = t.2 45 j := e_ia hok fr_l45 j
theorem fr_s45 {t : r_T} (hok : r_ok o ra s0) (j : Nat) (v : Int32) : h_si (r_emb s0 o ra t) (ra 45) j v = r_emb s0 o ra (rt_A t 45 j v) := e_sa hok fr_l45 j v
theorem fr_l46 : r_len 46 ≠ 0 := by decide
theorem fr_r46 {t : r_T} (hok : r_ok o ra s0) : h_r (r_emb s0 o ra t) o 46 = some (ra 46) := e_rr hok fr_l46
theorem fr_k46 {t : r_T} (hok : r_ok o ra s0) : h_k (r_emb s0 o ra t) (ra 46) = 1 := e_kk hok fr_l46
theorem fr_n46 {t : r_T} (hok : r_ok o ra s0) : h_n (r_emb s0 o ra t) (ra 46) = 60 := e_nn hok fr_l46
theorem fr_i46 (hok : r_ok o ra s0) (t : r_T) (j : Nat) : h_i (r_emb s0 o ra t) (ra 46) j = t.2 46 j := e_ia hok fr_l46 j
theorem fr_s46 {t : r_T} (hok : r_ok o ra s0) (j : Nat) (v : Int32) : h_si (r_emb s0 o ra t) (ra 46) j v = r_emb s0 o ra (rt_A t 46 j v) := e_sa hok fr_l46 j v
theorem fr_l47 : r_len 47 ≠ 0 := by decide
theorem fr_r47 {t : r_T} (hok : r_ok o ra s0) : h_r (r_emb s0 o ra t) o 47 = some (ra 47) := e_rr hok fr_l47
theorem fr_k47 {t : r_T} (hok : r_ok o ra s0) : h_k (r_emb s0 o ra t) (ra 47) = 1 := e_kk hok fr_l47
theorem fr_n47 {t : r_T} (hok : r_ok o ra s0) : h_n (r_emb s0 o ra t) (ra 47) = 60 := e_nn hok fr_l47
theorem fr_i47 (hok : r_ok o ra s0) (t : r_T) (j : Nat) : h_i (r_emb s0 o ra t) (ra 47) j = t.2 47 j := e_ia hok fr_l47 j
theorem fr_s47 {t : r_T} (hok : r_ok o ra s0) (j : Nat) (v : Int32) : h_si (r_emb s0 o ra t) (ra 47) j v = r_emb s0 o ra (rt_A t 47 j v) := e_sa hok fr_l47 j v
theorem fr_l49 : r_len 49 ≠ 0 := by decide
theorem fr_r49 {t : r_T} (hok : r_ok o ra s0) : h_r (r_emb s0 o ra t) o 49 = some (ra 49) := e_rr hok fr_l49
theorem fr_k49 {t : r_T} (hok : r_ok o ra s0) : h_k (r_emb s0 o ra t) (ra 49) = 1 := e_kk hok fr_l49
theorem fr_n49 {t : r_T} (hok : r_ok o ra s0) : h_n (r_emb s0 o ra t) (ra 49) = 60 := e_nn hok fr_l49
theorem fr_i49 (hok : r_ok o ra s0) (t : r_T) (j : Nat) : h_i (r_emb s0 o ra t) (ra 49) j = t.2 49 j := e_ia hok fr_l49 j
theorem fr_s49 {t : r_T} (hok : r_ok o ra s0) (j : Nat) (v : Int32) : h_si (r_emb s0 o ra t) (ra 49) j v = r_emb s0 o ra (rt_A t 49 j v) := e_sa hok fr_l49 j v
theorem fr_l50 : r_len 50 ≠ 0 := by decide
theorem fr_r50 {t : r_T} (hok : r_ok o ra s0) : h_r (r_emb s0 o ra t) o 50 = some (ra 50) := e_rr hok fr_l50
theorem fr_k50 {t : r_T} (hok : r_ok o ra s0) : h_k (r_emb s0 o ra t) (ra 50) = 1 := e_kk hok fr_l50
theorem fr_n50 {t : r_T} (hok : r_ok o ra s0) : h_n (r_emb s0 o ra t) (ra 50) = 60 := e_nn hok fr_l50
theorem fr_i50 (hok : r_ok o ra s0) (t : r_T) (j : Nat) : h_i (r_emb s0 o ra t) (ra 50) j = t.2 50 j := e_ia hok fr_l50 j
theorem fr_s50 {t : r_T} (hok : r_ok o ra s0) (j : Nat) (v : Int32) : h_si (r_emb s0 o ra t) (ra 50) j v = r_emb s0 o ra (rt_A t 50 j v) := e_sa hok fr_l50 j v
theorem fr_l51 : r_len 51 ≠ 0 := by decide
theorem fr_r51 {t : r_T} (hok : r_ok o ra s0) : h_r (r_emb s0 o ra t) o 51 = some (ra 51) := e_rr hok fr_l51
theorem fr_k51 {t : r_T} (hok : r_ok o ra s0) : h_k (r_emb s0 o ra t) (ra 51) = 1 := e_kk hok fr_l51
theorem fr_n51 {t : r_T} (hok : r_ok o ra s0) : h_n (r_emb s0 o ra t) (ra 51) = 60 := e_nn hok fr_l51
theorem fr_i51 (hok : r_ok o ra s0) (t : r_T) (j : Nat) : h_i (r_emb s0 o ra t) (ra 51) j = t.2 51 j := e_ia hok fr_l51 j
theorem fr_s51 {t : r_T} (hok : r_ok o ra s0) (j : Nat) (v : Int32) : h_si (r_emb s0 o ra t) (ra 51) j v = r_emb s0 o ra (rt_A t 51 j v) := e_sa hok fr_l51 j v
theorem fr_l52 : r_len 52 ≠ 0 := by decide
theorem fr_r52 {t : r_T} (hok : r_ok o ra s0) : h_r (r_emb s0 o ra t) o 52 = some (ra 52) := e_rr hok fr_l52
theorem fr_k52 {t : r_T} (hok : r_ok o ra s0) : h_k (r_emb s0 o ra t) (ra 52) = 1 := e_kk hok fr_l52
theorem fr_n52 {t : r_T} (hok : r_ok o ra s0) : h_n (r_emb s0 o ra t) (ra 52) = 60 := e_nn hok fr_l52
theorem fr_i52 (hok : r_ok o ra s0) (t : r_T) (j : Nat) : h_i (r_emb s0 o ra t) (ra 52) j = t.2 52 j := e_ia hok fr_l52 j
theorem fr_s52 {t : r_T} (hok : r_ok o ra s0) (j : Nat) (v : Int32) : h_si (r_emb s0 o ra t) (ra 52) j v = r_emb s0 o ra (rt_A t 52 j v) := e_sa hok fr_l52 j v
theorem fr_l53 : r_len 53 ≠ 0 := by decide
theorem fr_r53 {t : r_T} (hok : r_ok o ra s0) : h_r (r_emb s0 o ra t) o 53 = some (ra 53) := e_rr hok fr_l53
theorem fr_k53 {t : r_T} (hok : r_ok o ra s0) : h_k (r_emb s0 o ra t) (ra 53) = 1 := e_kk hok fr_l53
theorem fr_n53 {t : r_T} (hok : r_ok o ra s0) : h_n (r_emb s0 o ra t) (ra 53) = 60 := e_nn hok fr_l53
theorem fr_i53 (hok : r_ok o ra s0) (t : r_T) (j : Nat) : h_i (r_emb s0 o ra t) (ra 53) j = t.2 53 j := e_ia hok fr_l53 j
theorem fr_s53 {t : r_T} (hok : r_ok o ra s0) (j : Nat) (v : Int32) : h_si (r_emb s0 o ra t) (ra 53) j v = r_emb s0 o ra (rt_A t 53 j v) := e_sa hok fr_l53 j v
theorem fr_l54 : r_len 54 ≠ 0 := by decide
theorem fr_r54 {t : r_T} (hok : r_ok o ra s0) : h_r (r_emb s0 o ra t) o 54 = some (ra 54) := e_rr hok fr_l54
theorem fr_k54 {t : r_T} (hok : r_ok o ra s0) : h_k (r_emb s0 o ra t) (ra 54) = 1 := e_kk hok fr_l54
theorem fr_n54 {t : r_T} (hok : r_ok o ra s0) : h_n (r_emb s0 o ra t) (ra 54) = 12 := e_nn hok fr_l54
theorem fr_i54 (hok : r_ok o ra s0) (t : r_T) (j : Nat) : h_i (r_emb s0 o ra t) (ra 54) j = t.2 54 j := e_ia hok fr_l54 j
theorem fr_s54 {t : r_T} (hok : r_ok o ra s0) (j : Nat) (v : Int32) : h_si (r_emb s0 o ra t) (ra 54) j v = r_emb s0 o ra (rt_A t 54 j v) := e_sa hok fr_l54 j v
theorem fr_l56 : r_len 56 ≠ 0 := by decide
theorem fr_r56 {t : r_T} (hok : r_ok o ra s0) : h_r (r_emb s0 o ra t) o 56 = some (ra 56) := e_rr hok fr_l56
theorem fr_k56 {t : r_T} (hok : r_ok o ra s0) : h_k (r_emb s0 o ra t) (ra 56) = 1 := e_kk hok fr_l56
theorem fr_n56 {t : r_T} (hok : r_ok o ra s0) : h_n (r_emb s0 o ra t) (ra 56) = 16 := e_nn hok fr_l56
theorem fr_i56 (hok : r_ok o ra s0) (t : r_T) (j : Nat) : h_i (r_emb s0 o ra t) (ra 56) j = t.2 56 j := e_ia hok fr_l56 j
theorem fr_s56 {t : r_T} (hok : r_ok o ra s0) (j : Nat) (v : Int32) : h_si (r_emb s0 o ra t) (ra 56) j v = r_emb s0 o ra (rt_A t 56 j v) := e_sa hok fr_l56 j v
theorem fr_l57 : r_len 57 ≠ 0 := by decide
theorem fr_r57 {t : r_T} (hok : r_ok o ra s0) : h_r (r_emb s0 o ra t) o 57 = some (ra 57) := e_rr hok fr_l57
theorem fr_k57 {t : r_T} (hok : r_ok o ra s0) : h_k (r_emb s0 o ra t) (ra 57) = 1 := e_kk hok fr_l57
theorem fr_n57 {t : r_T} (hok : r_ok o ra s0) : h_n (r_emb s0 o ra t) (ra 57) = 16 := e_nn hok fr_l57
theorem fr_i57 (hok : r_ok o ra s0) (t : r_T) (j : Nat) : h_i (r_emb s0 o ra t) (ra 57) j = t.2 57 j := e_ia hok fr_l57 j
theorem fr_s57 {t : r_T} (hok : r_ok o ra s0) (j : Nat) (v : Int32) : h_si (r_emb s0 o ra t) (ra 57) j v = r_emb s0 o ra (rt_A t 57 j v) := e_sa hok fr_l57 j v
theorem fr_l58 : r_len 58 ≠ 0 := by decide
theorem fr_r58 {t : r_T} (hok : r_ok o ra s0) : h_r (r_emb s0 o ra t) o 58 = some (ra 58) := e_rr hok fr_l58
theorem fr_k58 {t : r_T} (hok : r_ok o ra s0) : h_k (r_emb s0 o ra t) (ra 58) = 1 := e_kk hok fr_l58
theorem fr_n58 {t : r_T} (hok : r_ok o ra s0) : h_n (r_emb s0 o ra t) (ra 58) = 16 := e_nn hok fr_l58
theorem fr_i58 (hok : r_ok o ra s0) (t : r_T) (j : Nat) : h_i (r_emb s0 o ra t) (ra 58) j = t.2 58 j := e_ia hok fr_l58 j
theorem fr_s58 {t : r_T} (hok : r_ok o ra s0) (j : Nat) (v : Int32) : h_si (r_emb s0 o ra t) (ra 58) j v = r_emb s0 o ra (rt_A t 58 j v) := e_sa hok fr_l58 j v
theorem fr_l59 : r_len 59 ≠ 0 := by decide
theorem fr_r59 {t : r_T} (hok : r_ok o ra s0) : h_r (r_emb s0 o ra t) o 59 = some (ra 59) := e_rr hok fr_l59
theorem fr_k59 {t : r_T} (hok : r_ok o ra s0) : h_k (r_emb s0 o ra t) (ra 59) = 1 := e_kk hok fr_l59
theorem fr_n59 {t : r_T} (hok : r_ok o ra s0) : h_n (r_emb s0 o ra t) (ra 59) = 16 := e_nn hok fr_l59
theorem fr_i59 (hok : r_ok o ra s0) (t : r_T) (j : Nat) : h_i (r_emb s0 o ra t) (ra 59) j = t.2 59 j := e_ia hok fr_l59 j
theorem fr_s59 {t : r_T} (hok : r_ok o ra s0) (j : Nat) (v : Int32) : h_si (r_emb s0 o ra t) (ra 59) j v = r_emb s0 o ra (rt_A t 59 j v) := e_sa hok fr_l59 j v
theorem fr_l62 : r_len 62 ≠ 0 := by decide
theorem fr_r62 {t : r_T} (hok : r_ok o ra s0) : h_r (r_emb s0 o ra t) o 62 = some (ra 62) := e_rr hok fr_l62
theorem fr_k62 {t : r_T} (hok : r_ok o ra s0) : h_k (r_emb s0 o ra t) (ra 62) = 1 := e_kk hok fr_l62
theorem fr_n62 {t : r_T} (hok : r_ok o ra s0) : h_n (r_emb s0 o ra t) (ra 62) = 300 := e_nn hok fr_l62
theorem fr_i62 (hok : r_ok o ra s0) (t : r_T) (j : Nat) : h_i (r_emb s0 o ra t) (ra 62) j = t.2 62 j := e_ia hok fr_l62 j
theorem fr_s62 {t : r_T} (hok : r_ok o ra s0) (j : Nat) (v : Int32) : h_si (r_emb s0 o ra t) (ra 62) j v = r_emb s0 o ra (rt_A t 62 j v) := e_sa hok fr_l62 j v
theorem fr_l63 : r_len 63 ≠ 0 := by decide
theorem fr_r63 {t : r_T} (hok : r_ok o ra s0) : h_r (r_emb s0 o ra t) o 63 = some (ra 63) := e_rr hok fr_l63
theorem fr_k63 {t : r_T} (hok : r_ok o ra s0) : h_k (r_emb s0 o ra t) (ra 63) = 1 := e_kk hok fr_l63
theorem fr_n63 {t : r_T} (hok : r_ok o ra s0) : h_n (r_emb s0 o ra t) (ra 63) = 300 := e_nn hok fr_l63
theorem fr_i63 (hok : r_ok o ra s0) (t : r_T) (j : Nat) : h_i (r_emb s0 o ra t) (ra 63) j = t.2 63 j := e_ia hok fr_l63 j
theorem fr_s63 {t : r_T} (hok : r_ok o ra s0) (j : Nat) (v : Int32) : h_si (r_emb s0 o ra t) (ra 63) j v = r_emb s0 o ra (rt_A t 63 j v) := e_sa hok fr_l63 j v
theorem fr_l64 : r_len 64 ≠ 0 := by decide
theorem fr_r64 {t : r_T} (hok : r_ok o ra s0) : h_r (r_emb s0 o ra t) o 64 = some (ra 64) := e_rr hok fr_l64
theorem fr_k64 {t : r_T} (hok : r_ok o ra s0) : h_k (r_emb s0 o ra t) (ra 64) = 1 := e_kk hok fr_l64
theorem fr_n64 {t : r_T} (hok : r_ok o ra s0) : h_n (r_emb s0 o ra t) (ra 64) = 90601 := e_nn hok fr_l64
theorem fr_i64 (hok : r_ok o ra s0) (t : r_T) (j : Nat) : h_i (r_emb s0 o ra t) (ra 64) j = t.2 64 j := e_ia hok fr_l64 j
theorem fr_s64 {t : r_T} (hok : r_ok o ra s0) (j : Nat) (v : Int32) : h_si (r_emb s0 o ra t) (ra 64) j v = r_emb s0 o ra (rt_A t 64 j v) := e_sa hok fr_l64 j v
theorem fr_l65 : r_len 65 ≠ 0 := by decide
theorem fr_r65 {t : r_T} (hok : r_ok o ra s0) : h_r (r_emb s0 o ra t) o 65 = some (ra 65) := e_rr hok fr_l65
theorem fr_k65 {t : r_T} (hok : r_ok o ra s0) : h_k (r_emb s0 o ra t) (ra 65) = 1 := e_kk hok fr_l65
theorem fr_n65 {t : r_T} (hok : r_ok o ra s0) : h_n (r_emb s0 o ra t) (ra 65) = 500 := e_nn hok fr_l65
theorem fr_i65 (hok : r_ok o ra s0) (t : r_T) (j : Nat) : h_i (r_emb s0 o ra t) (ra 65) j = t.2 65 j := e_ia hok fr_l65 j
theorem fr_s65 {t : r_T} (hok : r_ok o ra s0) (j : Nat) (v : Int32) : h_si (r_emb s0 o ra t) (ra 65) j v = r_emb s0 o ra (rt_A t 65 j v) := e_sa hok fr_l65 j v
theorem fr_l66 : r_len 66 ≠ 0 := by decide
theorem fr_r66 {t : r_T} (hok : r_ok o ra s0) : h_r (r_emb s0 o ra t) o 66 = some (ra 66) := e_rr hok fr_l66
theorem fr_k66 {t : r_T} (hok : r_ok o ra s0) : h_k (r_emb s0 o ra t) (ra 66) = 1 := e_kk hok fr_l66
theorem fr_n66 {t : r_T} (hok : r_ok o ra s0) : h_n (r_emb s0 o ra t) (ra 66) = 600 := e_nn hok fr_l66
theorem fr_i66 (hok : r_ok o ra s0) (t : r_T) (j : Nat) : h_i (r_emb s0 o ra t) (ra 66) j = t.2 66 j := e_ia hok fr_l66 j
theorem fr_s66 {t : r_T} (hok : r_ok o ra s0) (j : Nat) (v : Int32) : h_si (r_emb s0 o ra t) (ra 66) j v = r_emb s0 o ra (rt_A t 66 j v) := e_sa hok fr_l66 j v
theorem fr_l67 : r_len 67 ≠ 0 := by decide
theorem fr_r67 {t : r_T} (hok : r_ok o ra s0) : h_r (r_emb s0 o ra t) o 67 = some (ra 67) := e_rr hok fr_l67
theorem fr_k67 {t : r_T} (hok : r_ok o ra s0) : h_k (r_emb s0 o ra t) (ra 67) = 1 := e_kk hok fr_l67
theorem fr_n67 {t : r_T} (hok : r_ok o ra s0) : h_n (r_emb s0 o ra t) (ra 67) = 2 := e_nn hok fr_l67
theorem fr_i67 (hok : r_ok o ra s0) (t : r_T) (j : Nat) : h_i (r_emb s0 o ra t) (ra 67) j = t.2 67 j := e_ia hok fr_l67 j
theorem fr_s67 {t : r_T} (hok : r_ok o ra s0) (j : Nat) (v : Int32) : h_si (r_emb s0 o ra t) (ra 67) j v = r_emb s0 o ra (rt_A t 67 j v) := e_sa hok fr_l67 j v
theorem fr_l68 : r_len 68 ≠ 0 := by decide
theorem fr_r68 {t : r_T} (hok : r_ok o ra s0) : h_r (r_emb s0 o ra t) o 68 = some (ra 68) := e_rr hok fr_l68
theorem fr_k68 {t : r_T} (hok : r_ok o ra s0) : h_k (r_emb s0 o ra t) (ra 68) = 1 := e_kk hok fr_l68
theorem fr_n68 {t : r_T} (hok : r_ok o ra s0) : h_n (r_emb s0 o ra t) (ra 68) = 604 := e_nn hok fr_l68
theorem fr_i68 (hok : r_ok o ra s0) (t : r_T) (j : Nat) : h_i (r_emb s0 o ra t) (ra 68) j = t.2 68 j := e_ia hok fr_l68 j
theorem fr_s68 {t : r_T} (hok : r_ok o ra s0) (j : Nat) (v : Int32) : h_si (r_emb s0 o ra t) (ra 68) j v = r_emb s0 o ra (rt_A t 68 j v) := e_sa hok fr_l68 j v
theorem fr_l69 : r_len 69 ≠ 0 := by decide
theorem fr_r69 {t : r_T} (hok : r_ok o ra s0) : h_r (r_emb s0 o ra t) o 69 = some (ra 69) := e_rr hok fr_l69
theorem fr_k69 {t : r_T} (hok : r_ok o ra s0) : h_k (r_emb s0 o ra t) (ra 69) = 2 := e_kk hok fr_l69
theorem fr_n69 {t : r_T} (hok : r_ok o ra s0) : h_n (r_emb s0 o ra t) (ra 69) = 602 := e_nn hok fr_l69
theorem fr_i69 (hok : r_ok o ra s0) (t : r_T) (j : Nat) : h_i (r_emb s0 o ra t) (ra 69) j = t.2 69 j := e_ia hok fr_l69 j
theorem fr_s69 {t : r_T} (hok : r_ok o ra s0) (j : Nat) (v : Int32) : h_si (r_emb s0 o ra t) (ra 69) j v = r_emb s0 o ra (rt_A t 69 j v) := e_sa hok fr_l69 j v
theorem fr_l70 : r_len 70 ≠ 0 := by decide
theorem fr_r70 {t : r_T} (hok : r_ok o ra s0) : h_r (r_emb s0 o ra t) o 70 = some (ra 70) := e_rr hok fr_l70
theorem fr_k70 {t : r_T} (hok : r_ok o ra s0) : h_k (r_emb s0 o ra t) (ra 70) = 1 := e_kk hok fr_l70
theorem fr_n70 {t : r_T} (hok : r_ok o ra s0) : h_n (r_emb s0 o ra t) (ra 70) = 604 := e_nn hok fr_l70
theorem fr_i70 (hok : r_ok o ra s0) (t : r_T) (j : Nat) : h_i (r_emb s0 o ra t) (ra 70) j = t.2 70 j := e_ia hok fr_l70 j
theorem fr_s70 {t : r_T} (hok : r_ok o ra s0) (j : Nat) (v : Int32) : h_si (r_emb s0 o ra t) (ra 70) j v = r_emb s0 o ra (rt_A t 70 j v) := e_sa hok fr_l70 j v
theorem fr_l72 : r_len 72 ≠ 0 := by decide
theorem fr_r72 {t : r_T} (hok : r_ok o ra s0) : h_r (r_emb s0 o ra t) o 72 = some (ra 72) := e_rr hok fr_l72
theorem fr_k72 {t : r_T} (hok : r_ok o ra s0) : h_k (r_emb s0 o ra t) (ra 72) = 1 := e_kk hok fr_l72
theorem fr_n72 {t : r_T} (hok : r_ok o ra s0) : h_n (r_emb s0 o ra t) (ra 72) = 3000 := e_nn hok fr_l72
theorem fr_i72 (hok : r_ok o ra s0) (t : r_T) (j : Nat) : h_i (r_emb s0 o ra t) (ra 72) j = t.2 72 j := e_ia hok fr_l72 j
theorem fr_s72 {t : r_T} (hok : r_ok o ra s0) (j : Nat) (v : Int32) : h_si (r_emb s0 o ra t) (ra 72) j v = r_emb s0 o ra (rt_A t 72 j v) := e_sa hok fr_l72 j v
theorem fr_l75 : r_len 75 ≠ 0 := by decide
theorem fr_r75 {t : r_T} (hok : r_ok o ra s0) : h_r (r_emb s0 o ra t) o 75 = some (ra 75) := e_rr hok fr_l75
theorem fr_k75 {t : r_T} (hok : r_ok o ra s0) : h_k (r_emb s0 o ra t) (ra 75) = 1 := e_kk hok fr_l75
theorem fr_n75 {t : r_T} (hok : r_ok o ra s0) : h_n (r_emb s0 o ra t) (ra 75) = 12 := e_nn hok fr_l75
theorem fr_i75 (hok : r_ok o ra s0) (t : r_T) (j : Nat) : h_i (r_emb s0 o ra t) (ra 75) j = t.2 75 j := e_ia hok fr_l75 j
theorem fr_s75 {t : r_T} (hok : r_ok o ra s0) (j : Nat) (v : Int32) : h_si (r_emb s0 o ra t) (ra 75) j v = r_emb s0 o ra (rt_A t 75 j v) := e_sa hok fr_l75 j v
theorem fr_l76 : r_len 76 ≠ 0 := by decide
theorem fr_r76 {t : r_T} (hok : r_ok o ra s0) : h_r (r_emb s0 o ra t) o 76 = some (ra 76) := e_rr hok fr_l76
theorem fr_k76 {t : r_T} (hok : r_ok o ra s0) : h_k (r_emb s0 o ra t) (ra 76) = 1 := e_kk hok fr_l76
theorem fr_n76 {t : r_T} (hok : r_ok o ra s0) : h_n (r_emb s0 o ra t) (ra 76) = 12 := e_nn hok fr_l76
theorem fr_i76 (hok : r_ok o ra s0) (t : r_T) (j : Nat) : h_i (r_emb s0 o ra t) (ra 76) j = t.2 76 j := e_ia hok fr_l76 j
theorem fr_s76 {t : r_T} (hok : r_ok o ra s0) (j : Nat) (v : Int32) : h_si (r_emb s0 o ra t) (ra 76) j v = r_emb s0 o ra (rt_A t 76 j v) := e_sa hok fr_l76 j v
theorem fr_l77 : r_len 77 ≠ 0 := by decide
theorem fr_r77 {t : r_T} (hok : r_ok o ra s0) : h_r (r_emb s0 o ra t) o 77 = some (ra 77) := e_rr hok fr_l77
theorem fr_k77 {t : r_T} (hok : r_ok o ra s0) : h_k (r_emb s0 o ra t) (ra 77) = 1 := e_kk hok fr_l77
theorem fr_n77 {t : r_T} (hok : r_ok o ra s0) : h_n (r_emb s0 o ra t) (ra 77) = 12 := e_nn hok fr_l77
theorem fr_i77 (hok : r_ok o ra s0) (t : r_T) (j : Nat) : h_i (r_emb s0 o ra t) (ra 77) j = t.2 77 j := e_ia hok fr_l77 j
theorem fr_s77 {t : r_T} (hok : r_ok o ra s0) (j : Nat) (v : Int32) : h_si (r_emb s0 o ra t) (ra 77) j v = r_emb s0 o ra (rt_A t 77 j v) := e_sa hok fr_l77 j v
theorem fr_l78 : r_len 78 ≠ 0 := by decide
theorem fr_r78 {t : r_T} (hok : r_ok o ra s0) : h_r (r_emb s0 o ra t) o 78 = some (ra 78) := e_rr hok fr_l78
theorem fr_k78 {t : r_T} (hok : r_ok o ra s0) : h_k (r_emb s0 o ra t) (ra 78) = 2 := e_kk hok fr_l78
theorem fr_n78 {t : r_T} (hok : r_ok o ra s0) : h_n (r_emb s0 o ra t) (ra 78) = 12 := e_nn hok fr_l78
theorem fr_i78 (hok : r_ok o ra s0) (t : r_T) (j : Nat) : h_i (r_emb s0 o ra t) (ra 78) j = t.2 78 j := e_ia hok fr_l78 j
theorem fr_s78 {t : r_T} (hok : r_ok o ra s0) (j : Nat) (v : Int32) : h_si (r_emb s0 o ra t) (ra 78) j v = r_emb s0 o ra (rt_A t 78 j v) := e_sa hok fr_l78 j v
theorem fr_l79 : r_len 79 ≠ 0 := by decide
theorem fr_r79 {t : r_T} (hok : r_ok o ra s0) : h_r (r_emb s0 o ra t) o 79 = some (ra 79) := e_rr hok fr_l79
theorem fr_k79 {t : r_T} (hok : r_ok o ra s0) : h_k (r_emb s0 o ra t) (ra 79) = 1 := e_kk hok fr_l79
theorem fr_n79 {t : r_T} (hok : r_ok o ra s0) : h_n (r_emb s0 o ra t) (ra 79) = 7200 := e_nn hok fr_l79
theorem fr_i79 (hok : r_ok o ra s0) (t : r_T) (j : Nat) : h_i (r_emb s0 o ra t) (ra 79) j = t.2 79 j := e_ia hok fr_l79 j
theorem fr_s79 {t : r_T} (hok : r_ok o ra s0) (j : Nat) (v : Int32) : h_si (r_emb s0 o ra t) (ra 79) j v = r_emb s0 o ra (rt_A t 79 j v) := e_sa hok fr_l79 j v
theorem fr_l81 : r_len 81 ≠ 0 := by decide
theorem fr_r81 {t : r_T} (hok : r_ok o ra s0) : h_r (r_emb s0 o ra t) o 81 = some (ra 81) := e_rr hok fr_l81
theorem fr_k81 {t : r_T} (hok : r_ok o ra s0) : h_k (r_emb s0 o ra t) (ra 81) = 1 := e_kk hok fr_l81
theorem fr_n81 {t : r_T} (hok : r_ok o ra s0) : h_n (r_emb s0 o ra t) (ra 81) = 24 := e_nn hok fr_l81
theorem fr_i81 (hok : r_ok o ra s0) (t : r_T) (j : Nat) : h_i (r_emb s0 o ra t) (ra 81) j = t.2 81 j := e_ia hok fr_l81 j
theorem fr_s81 {t : r_T} (hok : r_ok o ra s0) (j : Nat) (v : Int32) : h_si (r_emb s0 o ra t) (ra 81) j v = r_emb s0 o ra (rt_A t 81 j v) := e_sa hok fr_l81 j v
theorem fr_l82 : r_len 82 ≠ 0 := by decide
theorem fr_r82 {t : r_T} (hok : r_ok o ra s0) : h_r (r_emb s0 o ra t) o 82 = some (ra 82) := e_rr hok fr_l82
theorem fr_k82 {t : r_T} (hok : r_ok o ra s0) : h_k (r_emb s0 o ra t) (ra 82) = 1 := e_kk hok fr_l82
theorem fr_n82 {t : r_T} (hok : r_ok o ra s0) : h_n (r_emb s0 o ra t) (ra 82) = 24 := e_nn hok fr_l82
theorem fr_i82 (hok : r_ok o ra s0) (t : r_T) (j : Nat) : h_i (r_emb s0 o ra t) (ra 82) j = t.2 82 j := e_ia hok fr_l82 j
theorem fr_s82 {t : r_T} (hok : r_ok o ra s0) (j : Nat) (v : Int32) : h_si (r_emb s0 o ra t) (ra 82) j v = r_emb s0 o ra (rt_A t 82 j v) := e_sa hok fr_l82 j v
theorem fr_l83 : r_len 83 ≠ 0 := by decide
theorem fr_r83 {t : r_T} (hok : r_ok o ra s0) : h_r (r_emb s0 o ra t) o 83 = some (ra 83) := e_rr hok fr_l83
theorem fr_k83 {t : r_T} (hok : r_ok o ra s0) : h_k (r_emb s0 o ra t) (ra 83) = 1 := e_kk hok fr_l83
theorem fr_n83 {t : r_T} (hok : r_ok o ra s0) : h_n (r_emb s0 o ra t) (ra 83) = 24 := e_nn hok fr_l83
theorem fr_i83 (hok : r_ok o ra s0) (t : r_T) (j : Nat) : h_i (r_emb s0 o ra t) (ra 83) j = t.2 83 j := e_ia hok fr_l83 j
theorem fr_s83 {t : r_T} (hok : r_ok o ra s0) (j : Nat) (v : Int32) : h_si (r_emb s0 o ra t) (ra 83) j v = r_emb s0 o ra (rt_A t 83 j v) := e_sa hok fr_l83 j v
theorem fr_l84 : r_len 84 ≠ 0 := by decide
theorem fr_r84 {t : r_T} (hok : r_ok o ra s0) : h_r (r_emb s0 o ra t) o 84 = some (ra 84) := e_rr hok fr_l84
theorem fr_k84 {t : r_T} (hok : r_ok o ra s0) : h_k (r_emb s0 o ra t) (ra 84) = 1 := e_kk hok fr_l84
theorem fr_n84 {t : r_T} (hok : r_ok o ra s0) : h_n (r_emb s0 o ra t) (ra 84) = 24 := e_nn hok fr_l84
theorem fr_i84 (hok : r_ok o ra s0) (t : r_T) (j : Nat) : h_i (r_emb s0 o ra t) (ra 84) j = t.2 84 j := e_ia hok fr_l84 j
theorem fr_s84 {t : r_T} (hok : r_ok o ra s0) (j : Nat) (v : Int32) : h_si (r_emb s0 o ra t) (ra 84) j v = r_emb s0 o ra (rt_A t 84 j v) := e_sa hok fr_l84 j v
theorem fr_l85 : r_len 85 ≠ 0 := by decide
theorem fr_r85 {t : r_T} (hok : r_ok o ra s0) : h_r (r_emb s0 o ra t) o 85 = some (ra 85) := e_rr hok fr_l85
theorem fr_k85 {t : r_T} (hok : r_ok o ra s0) : h_k (r_emb s0 o ra t) (ra 85) = 1 := e_kk hok fr_l85
theorem fr_n85 {t : r_T} (hok : r_ok o ra s0) : h_n (r_emb s0 o ra t) (ra 85) = 24 := e_nn hok fr_l85
theorem fr_i85 (hok : r_ok o ra s0) (t : r_T) (j : Nat) : h_i (r_emb s0 o ra t) (ra 85) j = t.2 85 j := e_ia hok fr_l85 j
theorem fr_s85 {t : r_T} (hok : r_ok o ra s0) (j : Nat) (v : Int32) : h_si (r_emb s0 o ra t) (ra 85) j v = r_emb s0 o ra (rt_A t 85 j v) := e_sa hok fr_l85 j v
theorem fr_l86 : r_len 86 ≠ 0 := by decide
theorem fr_r86 {t : r_T} (hok : r_ok o ra s0) : h_r (r_emb s0 o ra t) o 86 = some (ra 86) := e_rr hok fr_l86
theorem fr_k86 {t : r_T} (hok : r_ok o ra s0) : h_k (r_emb s0 o ra t) (ra 86) = 1 := e_kk hok fr_l86
theorem fr_n86 {t : r_T} (hok : r_ok o ra s0) : h_n (r_emb s0 o ra t) (ra 86) = 24 := e_nn hok fr_l86
theorem fr_i86 (hok : r_ok o ra s0) (t : r_T) (j : Nat) : h_i (r_emb s0 o ra t) (ra 86) j = t.2 86 j := e_ia hok fr_l86 j
theorem fr_s86 {t : r_T} (hok : r_ok o ra s0) (j : Nat) (v : Int32) : h_si (r_emb s0 o ra t) (ra 86) j v = r_emb s0 o ra (rt_A t 86 j v) := e_sa hok fr_l86 j v
theorem fr_l90 : r_len 90 ≠ 0 := by decide
theorem fr_r90 {t : r_T} (hok : r_ok o ra s0) : h_r (r_emb s0 o ra t) o 90 = some (ra 90) := e_rr hok fr_l90
theorem fr_k90 {t : r_T} (hok : r_ok o ra s0) : h_k (r_emb s0 o ra t) (ra 90) = 1 := e_kk hok fr_l90
theorem fr_n90 {t : r_T} (hok : r_ok o ra s0) : h_n (r_emb s0 o ra t) (ra 90) = 20 := e_nn hok fr_l90
theorem fr_i90 (hok : r_ok o ra s0) (t : r_T) (j : Nat) : h_i (r_emb s0 o ra t) (ra 90) j = t.2 90 j := e_ia hok fr_l90 j
theorem fr_s90 {t : r_T} (hok : r_ok o ra s0) (j : Nat) (v : Int32) : h_si (r_emb s0 o ra t) (ra 90) j v = r_emb s0 o ra (rt_A t 90 j v) := e_sa hok fr_l90 j v
theorem fr_l91 : r_len 91 ≠ 0 := by decide
theorem fr_r91 {t : r_T} (hok : r_ok o ra s0) : h_r (r_emb s0 o ra t) o 91 = some (ra 91) := e_rr hok fr_l91
theorem fr_k91 {t : r_T} (hok : r_ok o ra s0) : h_k (r_emb s0 o ra t) (ra 91) = 1 := e_kk hok fr_l91
theorem fr_n91 {t : r_T} (hok : r_ok o ra s0) : h_n (r_emb s0 o ra t) (ra 91) = 20 := e_nn hok fr_l91
theorem fr_i91 (hok : r_ok o ra s0) (t : r_T) (j : Nat) : h_i (r_emb s0 o ra t) (ra 91) j = t.2 91 j := e_ia hok fr_l91 j
theorem fr_s91 {t : r_T} (hok : r_ok o ra s0) (j : Nat) (v : Int32) : h_si (r_emb s0 o ra t) (ra 91) j v = r_emb s0 o ra (rt_A t 91 j v) := e_sa hok fr_l91 j v
theorem fr_l92 : r_len 92 ≠ 0 := by decide
theorem fr_r92 {t : r_T} (hok : r_ok o ra s0) : h_r (r_emb s0 o ra t) o 92 = some (ra 92) := e_rr hok fr_l92
theorem fr_k92 {t : r_T} (hok : r_ok o ra s0) : h_k (r_emb s0 o ra t) (ra 92) = 1 := e_kk hok fr_l92
theorem fr_n92 {t : r_T} (hok : r_ok o ra s0) : h_n (r_emb s0 o ra t) (ra 92) = 20 := e_nn hok fr_l92
theorem fr_i92 (hok : r_ok o ra s0) (t : r_T) (j : Nat) : h_i (r_emb s0 o ra t) (ra 92) j = t.2 92 j := e_ia hok fr_l92 j
theorem fr_s92 {t : r_T} (hok : r_ok o ra s0) (j : Nat) (v : Int32) : h_si (r_emb s0 o ra t) (ra 92) j v = r_emb s0 o ra (rt_A t 92 j v) := e_sa hok fr_l92 j v
theorem fr_l93 : r_len 93 ≠ 0 := by decide
theorem fr_r93 {t : r_T} (hok : r_ok o ra s0) : h_r (r_emb s0 o ra t) o 93 = some (ra 93) := e_rr hok fr_l93
theorem fr_k93 {t : r_T} (hok : r_ok o ra s0) : h_k (r_emb s0 o ra t) (ra 93) = 1 := e_kk hok fr_l93
theorem fr_n93 {t : r_T} (hok : r_ok o ra s0) : h_n (r_emb s0 o ra t) (ra 93) = 20 := e_nn hok fr_l93
theorem fr_i93 (hok : r_ok o ra s0) (t : r_T) (j : Nat) : h_i (r_emb s0 o ra t) (ra 93) j = t.2 93 j := e_ia hok fr_l93 j
theorem fr_s93 {t : r_T} (hok : r_ok o ra s0) (j : Nat) (v : Int32) : h_si (r_emb s0 o ra t) (ra 93) j v = r_emb s0 o ra (rt_A t 93 j v) := e_sa hok fr_l93 j v
theorem fr_l94 : r_len 94 ≠ 0 := by decide
theorem fr_r94 {t : r_T} (hok : r_ok o ra s0) : h_r (r_emb s0 o ra t) o 94 = some (ra 94) := e_rr hok fr_l94
theorem fr_k94 {t : r_T} (hok : r_ok o ra s0) : h_k (r_emb s0 o ra t) (ra 94) = 1 := e_kk hok fr_l94
theorem fr_n94 {t : r_T} (hok : r_ok o ra s0) : h_n (r_emb s0 o ra t) (ra 94) = 20 := e_nn hok fr_l94
theorem fr_i94 (hok : r_ok o ra s0) (t : r_T) (j : Nat) : h_i (r_emb s0 o ra t) (ra 94) j = t.2 94 j := e_ia hok fr_l94 j
theorem fr_s94 {t : r_T} (hok : r_ok o ra s0) (j : Nat) (v : Int32) : h_si (r_emb s0 o ra t) (ra 94) j v = r_emb s0 o ra (rt_A t 94 j v) := e_sa hok fr_l94 j v
theorem fr_l95 : r_len 95 ≠ 0 := by decide
theorem fr_r95 {t : r_T} (hok : r_ok o ra s0) : h_r (r_emb s0 o ra t) o 95 = some (ra 95) := e_rr hok fr_l95
theorem fr_k95 {t : r_T} (hok : r_ok o ra s0) : h_k (r_emb s0 o ra t) (ra 95) = 1 := e_kk hok fr_l95
theorem fr_n95 {t : r_T} (hok : r_ok o ra s0) : h_n (r_emb s0 o ra t) (ra 95) = 20 := e_nn hok fr_l95
theorem fr_i95 (hok : r_ok o ra s0) (t : r_T) (j : Nat) : h_i (r_emb s0 o ra t) (ra 95) j = t.2 95 j := e_ia hok fr_l95 j
theorem fr_s95 {t : r_T} (hok : r_ok o ra s0) (j : Nat) (v : Int32) : h_si (r_emb s0 o ra t) (ra 95) j v = r_emb s0 o ra (rt_A t 95 j v) := e_sa hok fr_l95 j v
theorem fr_l96 : r_len 96 ≠ 0 := by decide
theorem fr_r96 {t : r_T} (hok : r_ok o ra s0) : h_r (r_emb s0 o ra t) o 96 = some (ra 96) := e_rr hok fr_l96
theorem fr_k96 {t : r_T} (hok : r_ok o ra s0) : h_k (r_emb s0 o ra t) (ra 96) = 1 := e_kk hok fr_l96
theorem fr_n96 {t : r_T} (hok : r_ok o ra s0) : h_n (r_emb s0 o ra t) (ra 96) = 20 := e_nn hok fr_l96
theorem fr_i96 (hok : r_ok o ra s0) (t : r_T) (j : Nat) : h_i (r_emb s0 o ra t) (ra 96) j = t.2 96 j := e_ia hok fr_l96 j
theorem fr_s96 {t : r_T} (hok : r_ok o ra s0) (j : Nat) (v : Int32) : h_si (r_emb s0 o ra t) (ra 96) j v = r_emb s0 o ra (rt_A t 96 j v) := e_sa hok fr_l96 j v
theorem fr_l97 : r_len 97 ≠ 0 := by decide
theorem fr_r97 {t : r_T} (hok : r_ok o ra s0) : h_r (r_emb s0 o ra t) o 97 = some (ra 97) := e_rr hok fr_l97
theorem fr_k97 {t : r_T} (hok : r_ok o ra s0) : h_k (r_emb s0 o ra t) (ra 97) = 1 := e_kk hok fr_l97
theorem fr_n97 {t : r_T} (hok : r_ok o ra s0) : h_n (r_emb s0 o ra t) (ra 97) = 20 := e_nn hok fr_l97
theorem fr_i97 (hok : r_ok o ra s0) (t : r_T) (j : Nat) : h_i (r_emb s0 o ra t) (ra 97) j = t.2 97 j := e_ia hok fr_l97 j
theorem fr_s97 {t : r_T} (hok : r_ok o ra s0) (j : Nat) (v : Int32) : h_si (r_emb s0 o ra t) (ra 97) j v = r_emb s0 o ra (rt_A t 97 j v) := e_sa hok fr_l97 j v
theorem fr_l104 : r_len 104 ≠ 0 := by decide
theorem fr_r104 {t : r_T} (hok : r_ok o ra s0) : h_r (r_emb s0 o ra t) o 104 = some (ra 104) := e_rr hok fr_l104
theorem fr_k104 {t : r_T} (hok : r_ok o ra s0) : h_k (r_emb s0 o ra t) (ra 104) = 1 := e_kk hok fr_l104
theorem fr_n104 {t : r_T} (hok : r_ok o ra s0) : h_n (r_emb s0 o ra t) (ra 104) = 64 := e_nn hok fr_l104
theorem fr_i104 (hok : r_ok o ra s0) (t : r_T) (j : Nat) : h_i (r_emb s0 o ra t) (ra 104) j = t.2 104 j := e_ia hok fr_l104 j
theorem fr_s104 {t : r_T} (hok : r_ok o ra s0) (j : Nat) (v : Int32) : h_si (r_emb s0 o ra t) (ra 104) j v = r_emb s0 o ra (rt_A t 104 j v) := e_sa hok fr_l104 j v
theorem fr_l106 : r_len 106 ≠ 0 := by decide
theorem fr_r106 {t : r_T} (hok : r_ok o ra s0) : h_r (r_emb s0 o ra t) o 106 = some (ra 106) := e_rr hok fr_l106
theorem fr_k106 {t : r_T} (hok : r_ok o ra s0) : h_k (r_emb s0 o ra t) (ra 106) = 1 := e_kk hok fr_l106
theorem fr_n106 {t : r_T} (hok : r_ok o ra s0) : h_n (r_emb s0 o ra t) (ra 106) = 200 := e_nn hok fr_l106
theorem fr_i106 (hok : r_ok o ra s0) (t : r_T) (j : Nat) : h_i (r_emb s0 o ra t) (ra 106) j = t.2 106 j := e_ia hok fr_l106 j
theorem fr_s106 {t : r_T} (hok : r_ok o ra s0) (j : Nat) (v : Int32) : h_si (r_emb s0 o ra t) (ra 106) j v = r_emb s0 o ra (rt_A t 106 j v) := e_sa hok fr_l106 j v
theorem fr_l107 : r_len 107 ≠ 0 := by decide
theorem fr_r107 {t : r_T} (hok : r_ok o ra s0) : h_r (r_emb s0 o ra t) o 107 = some (ra 107) := e_rr hok fr_l107
theorem fr_k107 {t : r_T} (hok : r_ok o ra s0) : h_k (r_emb s0 o ra t) (ra 107) = 1 := e_kk hok fr_l107
theorem fr_n107 {t : r_T} (hok : r_ok o ra s0) : h_n (r_emb s0 o ra t) (ra 107) = 200 := e_nn hok fr_l107
theorem fr_i107 (hok : r_ok o ra s0) (t : r_T) (j : Nat) : h_i (r_emb s0 o ra t) (ra 107) j = t.2 107 j := e_ia hok fr_l107 j
theorem fr_s107 {t : r_T} (hok : r_ok o ra s0) (j : Nat) (v : Int32) : h_si (r_emb s0 o ra t) (ra 107) j v = r_emb s0 o ra (rt_A t 107 j v) := e_sa hok fr_l107 j v
theorem fr_l108 : r_len 108 ≠ 0 := by decide
theorem fr_r108 {t : r_T} (hok : r_ok o ra s0) : h_r (r_emb s0 o ra t) o 108 = some (ra 108) := e_rr hok fr_l108
theorem fr_k108 {t : r_T} (hok : r_ok o ra s0) : h_k (r_emb s0 o ra t) (ra 108) = 1 := e_kk hok fr_l108
theorem fr_n108 {t : r_T} (hok : r_ok o ra s0) : h_n (r_emb s0 o ra t) (ra 108) = 200 := e_nn hok fr_l108
theorem fr_i108 (hok : r_ok o ra s0) (t : r_T) (j : Nat) : h_i (r_emb s0 o ra t) (ra 108) j = t.2 108 j := e_ia hok fr_l108 j
theorem fr_s108 {t : r_T} (hok : r_ok o ra s0) (j : Nat) (v : Int32) : h_si (r_emb s0 o ra t) (ra 108) j v = r_emb s0 o ra (rt_A t 108 j v) := e_sa hok fr_l108 j v
theorem fr_l109 : r_len 109 ≠ 0 := by decide
theorem fr_r109 {t : r_T} (hok : r_ok o ra s0) : h_r (r_emb s0 o ra t) o 109 = some (ra 109) := e_rr hok fr_l109
theorem fr_k109 {t : r_T} (hok : r_ok o ra s0) : h_k (r_emb s0 o ra t) (ra 109) = 1 := e_kk hok fr_l109
theorem fr_n109 {t : r_T} (hok : r_ok o ra s0) : h_n (r_emb s0 o ra t) (ra 109) = 1024 := e_nn hok fr_l109
theorem fr_i109 (hok : r_ok o ra s0) (t : r_T) (j : Nat) : h_i (r_emb s0 o ra t) (ra 109) j = t.2 109 j := e_ia hok fr_l109 j
theorem fr_s109 {t : r_T} (hok : r_ok o ra s0) (j : Nat) (v : Int32) : h_si (r_emb s0 o ra t) (ra 109) j v = r_emb s0 o ra (rt_A t 109 j v) := e_sa hok fr_l109 j v
theorem fr_l110 : r_len 110 ≠ 0 := by decide
theorem fr_r110 {t : r_T} (hok : r_ok o ra s0) : h_r (r_emb s0 o ra t) o 110 = some (ra 110) := e_rr hok fr_l110
theorem fr_k110 {t : r_T} (hok : r_ok o ra s0) : h_k (r_emb s0 o ra t) (ra 110) = 1 := e_kk hok fr_l110
theorem fr_n110 {t : r_T} (hok : r_ok o ra s0) : h_n (r_emb s0 o ra t) (ra 110) = 4 := e_nn hok fr_l110
theorem fr_i110 (hok : r_ok o ra s0) (t : r_T) (j : Nat) : h_i (r_emb s0 o ra t) (ra 110) j = t.2 110 j := e_ia hok fr_l110 j
theorem fr_s110 {t : r_T} (hok : r_ok o ra s0) (j : Nat) (v : Int32) : h_si (r_emb s0 o ra t) (ra 110) j v = r_emb s0 o ra (rt_A t 110 j v) := e_sa hok fr_l110 j v
theorem fr_l111 : r_len 111 ≠ 0 := by decide
theorem fr_r111 {t : r_T} (hok : r_ok o ra s0) : h_r (r_emb s0 o ra t) o 111 = some (ra 111) := e_rr hok fr_l111
theorem fr_k111 {t : r_T} (hok : r_ok o ra s0) : h_k (r_emb s0 o ra t) (ra 111) = 1 := e_kk hok fr_l111
theorem fr_n111 {t : r_T} (hok : r_ok o ra s0) : h_n (r_emb s0 o ra t) (ra 111) = 4 := e_nn hok fr_l111
theorem fr_i111 (hok : r_ok o ra s0) (t : r_T) (j : Nat) : h_i (r_emb s0 o ra t) (ra 111) j = t.2 111 j := e_ia hok fr_l111 j
theorem fr_s111 {t : r_T} (hok : r_ok o ra s0) (j : Nat) (v : Int32) : h_si (r_emb s0 o ra t) (ra 111) j v = r_emb s0 o ra (rt_A t 111 j v) := e_sa hok fr_l111 j v
theorem fr_l112 : r_len 112 ≠ 0 := by decide
theorem fr_r112 {t : r_T} (hok : r_ok o ra s0) : h_r (r_emb s0 o ra t) o 112 = some (ra 112) := e_rr hok fr_l112
theorem fr_k112 {t : r_T} (hok : r_ok o ra s0) : h_k (r_emb s0 o ra t) (ra 112) = 1 := e_kk hok fr_l112
theorem fr_n112 {t : r_T} (hok : r_ok o ra s0) : h_n (r_emb s0 o ra t) (ra 112) = 240 := e_nn hok fr_l112
theorem fr_i112 (hok : r_ok o ra s0) (t : r_T) (j : Nat) : h_i (r_emb s0 o ra t) (ra 112) j = t.2 112 j := e_ia hok fr_l112 j
theorem fr_s112 {t : r_T} (hok : r_ok o ra s0) (j : Nat) (v : Int32) : h_si (r_emb s0 o ra t) (ra 112) j v = r_emb s0 o ra (rt_A t 112 j v) := e_sa hok fr_l112 j v
theorem fr_l113 : r_len 113 ≠ 0 := by decide
theorem fr_r113 {t : r_T} (hok : r_ok o ra s0) : h_r (r_emb s0 o ra t) o 113 = some (ra 113) := e_rr hok fr_l113
theorem fr_k113 {t : r_T} (hok : r_ok o ra s0) : h_k (r_emb s0 o ra t) (ra 113) = 1 := e_kk hok fr_l113
theorem fr_n113 {t : r_T} (hok : r_ok o ra s0) : h_n (r_emb s0 o ra t) (ra 113) = 60 := e_nn hok fr_l113
theorem fr_i113 (hok : r_ok o ra s0) (t : r_T) (j : Nat) : h_i (r_emb s0 o ra t) (ra 113) j = t.2 113 j := e_ia hok fr_l113 j
theorem fr_s113 {t : r_T} (hok : r_ok o ra s0) (j : Nat) (v : Int32) : h_si (r_emb s0 o ra t) (ra 113) j v = r_emb s0 o ra (rt_A t 113 j v) := e_sa hok fr_l113 j v
end FR
