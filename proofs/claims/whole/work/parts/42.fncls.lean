set_option maxRecDepth 100000 in
noncomputable def fn_X0_init (o0 : Nat) (x1 : Int32) (r2 : Option Nat) (x3 : Int32) (s : h_S) : Option ((Unit) × h_S) :=
  fg_g (h_k s o0 = 21) (
    fg_let (h_si s o0 0 x1) (fun s2 =>
      fg_let (h_sr s2 o0 1 r2) (fun s3 =>
        fg_let (h_si s3 o0 2 x3) (fun s4 =>
          some ((), s4)))))
noncomputable def fn_X0_placeIn_50 (K2 : Nat → Option Nat → Int32 → h_S → Option ((Int32) × h_S)) (o0 : Nat) (r1 : Option Nat) (x2 : Int32) (x3 : Int32) (s : h_S) : Option ((Int32) × h_S) :=
  fg_g (h_k s o0 = 21) (
    fg_o (h_r s o0 1) (fun a2 =>
      fg_g (h_k s a2 = 1) (
        fg_if (x3 = (Int32.ofNat (h_n s a2)))
          (some (x2, s))
          (K2 o0 r1 (x2 + (1 : Int32)) s))))
noncomputable def fn_X0_placeIn_18b (K2 : Nat → Option Nat → Int32 → h_S → Option ((Int32) × h_S)) (K18 : Nat → Option Nat → Int32 → Int32 → h_S → Option ((Int32) × h_S)) (o0 : Nat) (r1 : Option Nat) (x2 : Int32) (x3 : Int32) (s : h_S) : Option ((Int32) × h_S) :=
  fg_g (h_k s o0 = 21) (
    fg_o (h_r s o0 1) (fun a2 =>
      fg_g (h_k s a2 = 1) (
        fg_if ((Int32.ofNat (h_n s a2)) ≤ x3)
          (fn_X0_placeIn_50 K2 o0 r1 x2 x3 s)
          (fg_o r1 (fun a5 =>
            fg_g (h_k s a5 = 27) (
              fg_o (h_r s a5 2) (fun a7 =>
                fg_g (h_k s a7 = 1) (
                  fg_g (vp_in (x2 + x3) (h_n s a7)) (
                    fg_o (h_r s o0 1) (fun a10 =>
                      fg_g (h_k s a10 = 1) (
                        fg_g (vp_in x3 (h_n s a10)) (
                          fg_if ((h_i s a7 (h_ix (x2 + x3))) = (h_i s a10 (h_ix x3)))
                            (K18 o0 r1 x2 (x3 + (1 : Int32)) s)
                            (fn_X0_placeIn_50 K2 o0 r1 x2 x3 s)))))))))))))
noncomputable def fn_X0_placeIn_18 (K2 : Nat → Option Nat → Int32 → h_S → Option ((Int32) × h_S)) : Nat → Nat → Option Nat → Int32 → Int32 → h_S → Option ((Int32) × h_S)
  | 0, _, _, _, _, _ => none
  | n + 1, o0, r1, x2, x3, s => fn_X0_placeIn_18b K2 (fn_X0_placeIn_18 K2 n) o0 r1 x2 x3 s
noncomputable def fn_X0_placeIn_2b (K2 : Nat → Option Nat → Int32 → h_S → Option ((Int32) × h_S)) (o0 : Nat) (r1 : Option Nat) (x2 : Int32) (s : h_S) : Option ((Int32) × h_S) :=
  fg_o r1 (fun a1 =>
    fg_g (h_k s a1 = 27) (
      fg_g (h_k s o0 = 21) (
        fg_o (h_r s o0 1) (fun a4 =>
          fg_g (h_k s a4 = 1) (
            fg_if (((h_i s a1 1) - (Int32.ofNat (h_n s a4))) < x2)
              (some ((-9 : Int32), s))
              (fn_X0_placeIn_18 K2 g_N o0 r1 x2 (0 : Int32) s))))))
noncomputable def fn_X0_placeIn_2 : Nat → Nat → Option Nat → Int32 → h_S → Option ((Int32) × h_S)
  | 0, _, _, _, _ => none
  | n + 1, o0, r1, x2, s => fn_X0_placeIn_2b (fn_X0_placeIn_2 n) o0 r1 x2 s
noncomputable def fn_X0_placeIn (o0 : Nat) (r1 : Option Nat) (s : h_S) : Option ((Int32) × h_S) :=
  fn_X0_placeIn_2 g_N o0 r1 (0 : Int32) s
set_option maxRecDepth 100000 in
noncomputable def fn_X1_init (o0 : Nat) (x1 : Int32) (x2 : Int32) (x3 : Int32) (x4 : Int32) (x5 : Int32) (x6 : Int32) (s : h_S) : fg_R (Unit) h_S :=
  fg_let (c_ad 13 s) (fun q1 => fg_c 1 2 (
    fg_let (h_nw s q1 1 2) (fun s5 =>
      fg_g (h_k s5 o0 = 22) (
        fg_let (h_sr s5 o0 1 (some q1)) (fun s9 =>
          fg_let (c_ad 13 s9) (fun q10 => fg_c 1 2 (
            fg_let (h_nw s9 q10 1 2) (fun s14 =>
              fg_let (h_sr s14 o0 2 (some q10)) (fun s18 =>
                fg_let (h_si s18 o0 0 x1) (fun s19 =>
                  fg_o (h_r s19 o0 1) (fun a20 =>
                    fg_g (h_k s19 a20 = 1) (
                      fg_g (vp_in (0 : Int32) (h_n s19 a20)) (
                        fg_let (h_si s19 a20 (h_ix (0 : Int32)) x2) (fun s23 =>
                          fg_o (h_r s23 o0 2) (fun a24 =>
                            fg_g (h_k s23 a24 = 1) (
                              fg_g (vp_in (0 : Int32) (h_n s23 a24)) (
                                fg_let (h_si s23 a24 (h_ix (0 : Int32)) x3) (fun s27 =>
                                  fg_o (h_r s27 o0 1) (fun a28 =>
                                    fg_g (h_k s27 a28 = 1) (
                                      fg_g (vp_in (1 : Int32) (h_n s27 a28)) (
                                        fg_let (h_si s27 a28 (h_ix (1 : Int32)) x4) (fun s31 =>
                                          fg_o (h_r s31 o0 2) (fun a32 =>
                                            fg_g (h_k s31 a32 = 1) (
                                              fg_g (vp_in (1 : Int32) (h_n s31 a32)) (
                                                fg_let (h_si s31 a32 (h_ix (1 : Int32)) x5) (fun s35 =>
                                                  fg_let (h_si s35 o0 3 x6) (fun s36 =>
                                                    some ((), s36, 0, 0))))))))))))))))))))))))))))
noncomputable def fn_X11_within (x0 : Int32) (x1 : Int32) (s : h_S) : Option ((Int32) × h_S) :=
  fg_if (x0 < 0)
    (some ((0 : Int32), s))
    (fg_if (x1 ≤ x0)
      (some ((0 : Int32), s))
      (some ((1 : Int32), s)))
noncomputable def fn_X1_isA_7b (K7 : Int32 → Int32 → Int32 → h_S → Option ((Int32) × h_S)) (x1 : Int32) (x2 : Int32) (x3 : Int32) (s : h_S) : Option ((Int32) × h_S) :=
  fg_if ((5 : Int32) ≤ x3)
    (some (0, s))
    (fg_b (fn_X11_within x2 (5 : Int32) s) (fun p3 s2 =>
      fg_if (p3 = 0)
        (some (0, s2))
        (fg_if (x2 = x1)
          (some (1, s2))
          (fg_g (vp_in x2 5) (
            K7 x1 (h_abv (h_ix x2)) (x3 + (1 : Int32)) s2)))))
noncomputable def fn_X1_isA_7 : Nat → Int32 → Int32 → Int32 → h_S → Option ((Int32) × h_S)
  | 0, _, _, _, _ => none
  | n + 1, x1, x2, x3, s => fn_X1_isA_7b (fn_X1_isA_7 n) x1 x2 x3 s
noncomputable def fn_X1_isA (o0 : Nat) (x1 : Int32) (s : h_S) : Option ((Int32) × h_S) :=
  fg_g (h_k s o0 = 22) (
    fn_X1_isA_7 g_N x1 (h_i s o0 0) (0 : Int32) s)
noncomputable def fn_X1_endHolds (o0 : Nat) (x1 : Int32) (x2 : Int32) (s : h_S) : Option ((Int32) × h_S) :=
  fg_g (h_k s o0 = 22) (
    fg_o (h_r s o0 1) (fun a2 =>
      fg_g (h_k s a2 = 1) (
        fg_g (vp_in x1 (h_n s a2)) (
          fg_if (x2 < (h_i s a2 (h_ix x1)))
            (some ((0 : Int32), s))
            (fg_o (h_r s o0 1) (fun a6 =>
              fg_g (h_k s a6 = 1) (
                fg_g (vp_in x1 (h_n s a6)) (
                  fg_o (h_r s o0 2) (fun a9 =>
                    fg_g (h_k s a9 = 1) (
                      fg_g (vp_in x1 (h_n s a9)) (
                        fg_if ((h_i s a9 (h_ix x1)) ≤ (x2 - (h_i s a6 (h_ix x1))))
                          (some ((0 : Int32), s))
                          (some ((1 : Int32), s)))))))))))))
noncomputable def fn_X1_holds (o0 : Nat) (x1 : Int32) (s : h_S) : Option ((Int32) × h_S) :=
  fg_g (h_k s o0 = 22) (
    fg_b (fn_X1_endHolds o0 (0 : Int32) x1 s) (fun p3 s2 =>
      fg_if (p3 = 0)
        (fg_b (fn_X1_endHolds o0 (1 : Int32) x1 s2) (fun p7 s6 =>
          fg_if (p7 = 0)
            (some ((0 : Int32), s6))
            (some ((1 : Int32), s6))))
        (some ((1 : Int32), s2))))
noncomputable def fn_X1_partFrom_7b (K7 : Nat → Int32 → Option Nat → Int32 → h_S → Option ((Int32) × h_S)) (o0 : Nat) (x1 : Int32) (r2 : Option Nat) (x4 : Int32) (s : h_S) : Option ((Int32) × h_S) :=
  fg_o r2 (fun a1 =>
    fg_g (h_k s a1 = 1) (
      fg_if ((Int32.ofNat (h_n s a1)) ≤ x4)
        (some ((-9 : Int32), s))
        (fg_o r2 (fun a4 =>
          fg_g (h_k s a4 = 1) (
            fg_g (vp_in x4 (h_n s a4)) (
              fg_g (h_k s o0 = 22) (
                fg_b (fn_X1_endHolds o0 x1 (h_i s a4 (h_ix x4)) s) (fun p9 s8 =>
                  fg_if (p9 = 0)
                    (K7 o0 x1 r2 (x4 + (1 : Int32)) s8)
                    (some (x4, s8))))))))))
noncomputable def fn_X1_partFrom_7 : Nat → Nat → Int32 → Option Nat → Int32 → h_S → Option ((Int32) × h_S)
  | 0, _, _, _, _, _ => none
  | n + 1, o0, x1, r2, x4, s => fn_X1_partFrom_7b (fn_X1_partFrom_7 n) o0 x1 r2 x4 s
noncomputable def fn_X1_partFrom (o0 : Nat) (x1 : Int32) (r2 : Option Nat) (x3 : Int32) (s : h_S) : Option ((Int32) × h_S) :=
  fn_X1_partFrom_7 g_N o0 x1 r2 (h_max (0 : Int32) x3) s
noncomputable def fn_X1_partSize_5b (K5 : Nat → Int32 → Option Nat → Int32 → Int32 → h_S → Option ((Int32) × h_S)) (o0 : Nat) (x1 : Int32) (r2 : Option Nat) (x3 : Int32) (x4 : Int32) (s : h_S) : Option ((Int32) × h_S) :=
  fg_if (x4 ≤ 0)
    (some ((x4 - x3), s))
    (fg_o r2 (fun a2 =>
      fg_g (h_k s a2 = 1) (
        fg_if ((Int32.ofNat (h_n s a2)) ≤ x4)
          (some ((x4 - x3), s))
          (fg_o r2 (fun a5 =>
            fg_g (h_k s a5 = 1) (
              fg_g (vp_in x4 (h_n s a5)) (
                fg_g (h_k s o0 = 22) (
                  fg_b (fn_X1_endHolds o0 x1 (h_i s a5 (h_ix x4)) s) (fun p10 s9 =>
                    fg_if (p10 = 0)
                      (some ((x4 - x3), s9))
                      (fg_o r2 (fun a12 =>
                        fg_g (h_k s9 a12 = 1) (
                          fg_g (vp_in x4 (h_n s9 a12)) (
                            fg_o r2 (fun a15 =>
                              fg_g (h_k s9 a15 = 1) (
                                fg_g (vp_in (x4 - (1 : Int32)) (h_n s9 a15)) (
                                  fg_if ((h_i s9 a12 (h_ix x4)) = ((h_i s9 a15 (h_ix (x4 - (1 : Int32)))) + (1 : Int32)))
                                    (K5 o0 x1 r2 x3 (x4 + (1 : Int32)) s9)
                                    (some ((x4 - x3), s9))))))))))))))))))
noncomputable def fn_X1_partSize_5 : Nat → Nat → Int32 → Option Nat → Int32 → Int32 → h_S → Option ((Int32) × h_S)
  | 0, _, _, _, _, _, _ => none
  | n + 1, o0, x1, r2, x3, x4, s => fn_X1_partSize_5b (fn_X1_partSize_5 n) o0 x1 r2 x3 x4 s
noncomputable def fn_X1_partSize (o0 : Nat) (x1 : Int32) (r2 : Option Nat) (x3 : Int32) (s : h_S) : Option ((Int32) × h_S) :=
  fn_X1_partSize_5 g_N o0 x1 r2 x3 (x3 + (1 : Int32)) s
noncomputable def fn_X1_partBehind (o0 : Nat) (x1 : Int32) (r2 : Option Nat) (x3 : Int32) (s : h_S) : Option ((Int32) × h_S) :=
  fg_g (h_k s o0 = 22) (
    fg_b (fn_X1_partSize o0 x1 r2 x3 s) (fun p3 s2 =>
      fg_b (fn_X1_partFrom o0 x1 r2 (x3 + p3) s2) (fun p6 s5 =>
        some (p6, s5))))
set_option maxRecDepth 100000 in
noncomputable def fn_X2_init (o0 : Nat) (x1 : Int32) (x2 : Int32) (x3 : Int32) (x4 : Int32) (x5 : Int32) (s : h_S) : Option ((Unit) × h_S) :=
  fg_g (h_k s o0 = 23) (
    fg_let (h_si s o0 0 x1) (fun s2 =>
      fg_let (h_si s2 o0 1 x2) (fun s3 =>
        fg_let (h_si s3 o0 2 x3) (fun s4 =>
          fg_let (h_si s4 o0 3 x4) (fun s5 =>
            fg_let (h_si s5 o0 4 x5) (fun s6 =>
              some ((), s6)))))))
noncomputable def fn_X2_hasWords (o0 : Nat) (s : h_S) : Option ((Int32) × h_S) :=
  fg_g (h_k s o0 = 23) (
    fg_if ((h_i s o0 0) = 0)
      (some ((1 : Int32), s))
      (fg_if ((h_i s o0 0) = (1 : Int32))
        (some ((1 : Int32), s))
        (some ((0 : Int32), s))))
noncomputable def fn_X2_head (o0 : Nat) (x1 : Int32) (s : h_S) : fg_R (Option Nat) h_S :=
  fg_let (c_ad 1 s) (fun q1 => fg_c 1 5 (
    fg_let (h_nw s q1 23 5) (fun s5 =>
      fg_g (h_k s5 o0 = 23) (
        fg_b (fn_X2_init q1 (h_i s5 o0 0) (h_i s5 o0 1) x1 (h_i s5 o0 3) (h_i s5 o0 4) s5) (fun u_ s9 =>
          some ((some q1), s9, 0, 0))))))
noncomputable def fn_X2_tail (o0 : Nat) (x1 : Int32) (s : h_S) : fg_R (Option Nat) h_S :=
  fg_let (c_ad 1 s) (fun q1 => fg_c 1 5 (
    fg_let (h_nw s q1 23 5) (fun s5 =>
      fg_g (h_k s5 o0 = 23) (
        fg_b (fn_X2_init q1 (h_i s5 o0 0) ((h_i s5 o0 1) + x1) ((h_i s5 o0 2) - x1) (h_i s5 o0 3) (h_i s5 o0 4) s5) (fun u_ s9 =>
          some ((some q1), s9, 0, 0))))))
noncomputable def fn_X2_momentWithin (o0 : Nat) (x1 : Int32) (s : h_S) : Option ((Int32) × h_S) :=
  fg_g (h_k s o0 = 23) (
    fg_if ((h_i s o0 0) = (2 : Int32))
      (some ((h_i s o0 4), s))
      (some (x1, s)))
set_option maxRecDepth 100000 in
noncomputable def fn_X3_init (o0 : Nat) (x1 : Int32) (x2 : Int32) (s : h_S) : Option ((Unit) × h_S) :=
  fg_g (h_k s o0 = 24) (
    fg_let (h_si s o0 2 (2147483647 : Int32)) (fun s2 =>
      fg_let (h_si s2 o0 7 (-9 : Int32)) (fun s3 =>
        fg_let (h_si s3 o0 8 (0 : Int32)) (fun s4 =>
          fg_let (h_si s4 o0 0 x1) (fun s5 =>
            fg_let (h_si s5 o0 1 x2) (fun s6 =>
              some ((), s6)))))))
noncomputable def fn_X3_hangOn (o0 : Nat) (r1 : Option Nat) (x2 : Int32) (x3 : Int32) (s : h_S) : Option ((Unit) × h_S) :=
  fg_g (h_k s o0 = 24) (
    fg_let (h_si s o0 3 ((8 : Int32) + x3)) (fun s2 =>
      fg_o r1 (fun a3 =>
        fg_g (h_k s2 a3 = 24) (
          fg_let (h_si s2 o0 4 ((h_i s2 a3 4) &&& (-5 : Int32))) (fun s5 =>
            fg_o r1 (fun a6 =>
              fg_g (h_k s5 a6 = 24) (
                fg_let (h_si s5 o0 5 (h_i s5 a6 5)) (fun s8 =>
                  fg_o r1 (fun a9 =>
                    fg_g (h_k s8 a9 = 24) (
                      fg_let (h_si s8 o0 6 (h_i s8 a9 6)) (fun s11 =>
                        fg_let (h_si s11 o0 7 x2) (fun s12 =>
                          some ((), s12)))))))))))))
noncomputable def fn_X3_isLent (o0 : Nat) (s : h_S) : Option ((Int32) × h_S) :=
  fg_g (h_k s o0 = 24) (
    fg_if ((h_i s o0 7) = (-9 : Int32))
      (some ((0 : Int32), s))
      (some ((1 : Int32), s)))
noncomputable def fn_X3_isThere (o0 : Nat) (s : h_S) : Option ((Int32) × h_S) :=
  fg_g (h_k s o0 = 24) (
    fg_if ((h_i s o0 2) = (2147483647 : Int32))
      (some ((1 : Int32), s))
      (some ((0 : Int32), s)))
noncomputable def fn_X3_holdsAt (o0 : Nat) (x1 : Int32) (s : h_S) : Option ((Int32) × h_S) :=
  fg_g (h_k s o0 = 24) (
    fg_if (x1 < (h_i s o0 1))
      (some ((0 : Int32), s))
      (fg_if ((h_i s o0 2) ≤ x1)
        (some ((0 : Int32), s))
        (fg_if (x1 < (h_i s o0 5))
          (some ((0 : Int32), s))
          (fg_if ((h_i s o0 6) < x1)
            (some ((0 : Int32), s))
            (some ((1 : Int32), s))))))
noncomputable def fn_X5_cellAt (o0 : Nat) (x1 : Int32) (s : h_S) : Option ((Int32) × h_S) :=
  fg_b (fn_X11_within x1 (60 : Int32) s) (fun p2 s1 =>
    fg_if (p2 = 0)
      (some ((0 : Int32), s1))
      (fg_g (h_k s1 o0 = 26) (
        fg_o (h_r s1 o0 2) (fun a5 =>
          fg_g (h_k s1 a5 = 1) (
            fg_g (vp_in x1 (h_n s1 a5)) (
              some ((h_i s1 a5 (h_ix x1)), s1)))))))
noncomputable def fn_X3_goesOnUses_51 (o0 : Nat) (y0 : Int32) (s : h_S) : Option ((Int32) × h_S) :=
  fg_if (y0 = 0)
    (some (0, s))
    (fg_g (h_k s o0 = 24) (
      fg_if (((h_i s o0 4) &&& y0) = 0)
        (fg_let (h_si s o0 4 ((h_i s o0 4) ||| y0)) (fun s4 =>
          some (1, s4)))
        (some (0, s))))
noncomputable def fn_X3_goesOnUses_20 (o0 : Nat) (x1 : Int32) (s : h_S) : Option ((Int32) × h_S) :=
  fg_if (x1 = (114 : Int32))
    (fn_X3_goesOnUses_51 o0 (1 : Int32) s)
    (fg_if (x1 = (113 : Int32))
      (fn_X3_goesOnUses_51 o0 (2 : Int32) s)
      (fg_if (x1 = (108 : Int32))
        (fn_X3_goesOnUses_51 o0 (4 : Int32) s)
        (fn_X3_goesOnUses_51 o0 (0 : Int32) s)))
noncomputable def fn_X3_goesOnUses (o0 : Nat) (x1 : Int32) (s : h_S) : Option ((Int32) × h_S) :=
  fg_if (x1 = (64 : Int32))
    (fg_g (h_k s o0 = 24) (
      fg_if ((h_i s o0 4) = 0)
        (fn_X3_goesOnUses_20 o0 x1 s)
        (fg_let (h_si s o0 8 (3 : Int32)) (fun s4 =>
          some (1, s4)))))
    (fn_X3_goesOnUses_20 o0 x1 s)
noncomputable def fn_X3_goesOnNumber_33 (o0 : Nat) (x1 : Int32) (s : h_S) : Option ((Int32) × h_S) :=
  fg_b (fn_X11_within (x1 - (48 : Int32)) (10 : Int32) s) (fun p2 s1 =>
    fg_if (p2 = 0)
      (some (0, s1))
      (fg_g (h_k s1 o0 = 24) (
        fg_if ((h_i s1 o0 9) < (4 : Int32))
          (fg_let (h_si s1 o0 9 ((h_i s1 o0 9) + (1 : Int32))) (fun s6 =>
            fg_if ((h_i s6 o0 8) = (3 : Int32))
              (fg_let (h_si s6 o0 5 ((((10 : Int32) * (h_i s6 o0 5)) + x1) - (48 : Int32))) (fun s9 =>
                some (1, s9)))
              (fg_let (h_si s6 o0 6 ((((10 : Int32) * (h_i s6 o0 6)) + x1) - (48 : Int32))) (fun s8 =>
                some (1, s8)))))
          (some (0, s1)))))
noncomputable def fn_X3_goesOnNumber (o0 : Nat) (x1 : Int32) (s : h_S) : Option ((Int32) × h_S) :=
  fg_if (x1 = (45 : Int32))
    (fg_g (h_k s o0 = 24) (
      fg_if ((h_i s o0 8) = (3 : Int32))
        (fg_if ((h_i s o0 9) ≤ 0)
          (fn_X3_goesOnNumber_33 o0 x1 s)
          (fg_let (h_si s o0 8 (4 : Int32)) (fun s5 =>
            fg_let (h_si s5 o0 9 (0 : Int32)) (fun s6 =>
              some (1, s6)))))
        (fn_X3_goesOnNumber_33 o0 x1 s)))
    (fn_X3_goesOnNumber_33 o0 x1 s)
noncomputable def fn_X3_goesOn (o0 : Nat) (x1 : Int32) (s : h_S) : Option ((Int32) × h_S) :=
  fg_g (h_k s o0 = 24) (
    fg_if ((h_i s o0 8) = (0 : Int32))
      (fg_let (h_si s o0 3 (x1 - (48 : Int32))) (fun s3 =>
        fg_let (h_si s3 o0 8 (1 : Int32)) (fun s4 =>
          fg_b (fn_X11_within (h_i s4 o0 3) (4 : Int32) s4) (fun p6 s5 =>
            fg_g (h_bt p6) (
              some (p6, s5))))))
      (fg_if ((h_i s o0 8) = (1 : Int32))
        (fg_let (h_si s o0 8 (2 : Int32)) (fun s8 =>
          fg_if (x1 = (58 : Int32))
            (some ((1 : Int32), s8))
            (some ((0 : Int32), s8))))
        (fg_if ((h_i s o0 8) = (2 : Int32))
          (fg_b (fn_X3_goesOnUses o0 x1 s) (fun p12 s11 =>
            fg_g (h_bt p12) (
              some (p12, s11))))
          (fg_b (fn_X3_goesOnNumber o0 x1 s) (fun p14 s13 =>
            fg_g (h_bt p14) (
              some (p14, s13)))))))
noncomputable def fn_X3_readText_3b (K3 : Nat → Option Nat → Int32 → Int32 → Int32 → h_S → Option ((Int32) × h_S)) (o0 : Nat) (r1 : Option Nat) (x2 : Int32) (x3 : Int32) (x4 : Int32) (s : h_S) : Option ((Int32) × h_S) :=
  fg_if (x3 ≤ x4)
    (fg_g (h_k s o0 = 24) (
      fg_if ((h_i s o0 8) = (4 : Int32))
        (fg_if ((h_i s o0 9) ≤ 0)
          (some (x3, s))
          (some ((-9 : Int32), s)))
        (some (x3, s))))
    (fg_o r1 (fun a5 =>
      fg_g (h_k s a5 = 26) (
        fg_b (fn_X5_cellAt a5 (x2 + x4) s) (fun p8 s7 =>
          fg_g (h_k s7 o0 = 24) (
            fg_b (fn_X3_goesOn o0 p8 s7) (fun p11 s10 =>
              fg_if (p11 = 0)
                (some (x4, s10))
                (K3 o0 r1 x2 x3 (x4 + (1 : Int32)) s10)))))))
noncomputable def fn_X3_readText_3 : Nat → Nat → Option Nat → Int32 → Int32 → Int32 → h_S → Option ((Int32) × h_S)
  | 0, _, _, _, _, _, _ => none
  | n + 1, o0, r1, x2, x3, x4, s => fn_X3_readText_3b (fn_X3_readText_3 n) o0 r1 x2 x3 x4 s
noncomputable def fn_X3_readText (o0 : Nat) (r1 : Option Nat) (x2 : Int32) (x3 : Int32) (s : h_S) : Option ((Int32) × h_S) :=
  fn_X3_readText_3 g_N o0 r1 x2 x3 (0 : Int32) s
set_option maxRecDepth 100000 in
noncomputable def fn_X4_init (o0 : Nat) (x1 : Int32) (r2 : Option Nat) (r3 : Option Nat) (s : h_S) : Option ((Unit) × h_S) :=
  fg_g (h_k s o0 = 25) (
    fg_let (h_si s o0 0 x1) (fun s2 =>
      fg_let (h_sr s2 o0 1 r2) (fun s3 =>
        fg_let (h_sr s3 o0 2 r3) (fun s4 =>
          some ((), s4)))))
set_option maxRecDepth 100000 in
noncomputable def fn_X5_init (o0 : Nat) (s : h_S) : fg_R (Unit) h_S :=
  fg_g (h_k s o0 = 26) (
    fg_let (h_si s o0 1 (-1 : Int32)) (fun s2 =>
      fg_let (o0 + 4) (fun q3 => fg_g (h_k s2 q3 = 0) (fg_c 1 60 (
        fg_let (h_nw s2 q3 1 60) (fun s7 =>
          fg_let (h_sr s7 o0 2 (some q3)) (fun s11 =>
            some ((), s11, 0, 0))))))))
noncomputable def fn_X5_isNothing (o0 : Nat) (s : h_S) : Option ((Int32) × h_S) :=
  fg_g (h_k s o0 = 26) (
    fg_if ((h_i s o0 1) = (-1 : Int32))
      (some ((1 : Int32), s))
      (some ((0 : Int32), s)))
noncomputable def fn_J7_fill_53178_5b (K5 : Option Nat → Int32 → Int32 → Int32 → h_S → Option ((Unit) × h_S)) (r0 : Option Nat) (x1 : Int32) (x2 : Int32) (x3 : Int32) (s : h_S) : Option ((Unit) × h_S) :=
  fg_if (x3 ≤ x2)
    (some ((), s))
    (fg_o r0 (fun a2 =>
      fg_g (h_k s a2 = 1) (
        fg_g (vp_in x2 (h_n s a2)) (
          fg_let (h_si s a2 (h_ix x2) x1) (fun s5 =>
            K5 r0 x1 (x2 + (1 : Int32)) x3 s5)))))
noncomputable def fn_J7_fill_53178_5 : Nat → Option Nat → Int32 → Int32 → Int32 → h_S → Option ((Unit) × h_S)
  | 0, _, _, _, _, _ => none
  | n + 1, r0, x1, x2, x3, s => fn_J7_fill_53178_5b (fn_J7_fill_53178_5 n) r0 x1 x2 x3 s
noncomputable def fn_J7_fill_53178 (r0 : Option Nat) (x1 : Int32) (s : h_S) : Option ((Unit) × h_S) :=
  fg_o r0 (fun a1 =>
    fg_g (h_k s a1 = 1) (
      fn_J7_fill_53178_5 g_N r0 x1 (0 : Int32) (Int32.ofNat (h_n s a1)) s))
noncomputable def fn_X5_renew (o0 : Nat) (x1 : Int32) (x2 : Int32) (s : h_S) : Option ((Unit) × h_S) :=
  fg_g (h_k s o0 = 26) (
    fg_let (h_si s o0 0 x1) (fun s2 =>
      fg_let (h_si s2 o0 1 x2) (fun s3 =>
        fg_b (fn_J7_fill_53178 (h_r s3 o0 2) (0 : Int32) s3) (fun u_ s4 =>
          some ((), s4)))))
noncomputable def fn_X5_hasCells (o0 : Nat) (x1 : Int32) (x2 : Int32) (s : h_S) : Option ((Int32) × h_S) :=
  fg_if (x2 < 0)
    (some ((0 : Int32), s))
    (fg_if (x1 < 0)
      (some ((0 : Int32), s))
      (fg_g (h_k s o0 = 26) (
        fg_if ((h_i s o0 1) < x1)
          (some ((0 : Int32), s))
          (fg_if (((h_i s o0 1) - x1) < x2)
            (some ((0 : Int32), s))
            (some ((1 : Int32), s))))))
noncomputable def fn_X5_faultOf (o0 : Nat) (x1 : Int32) (x2 : Int32) (x3 : Int32) (s : h_S) : Option ((Int32) × h_S) :=
  fg_g (h_k s o0 = 26) (
    fg_b (fn_X5_isNothing o0 s) (fun p3 s2 =>
      fg_if (p3 = 0)
        (fg_if (x1 = (h_i s2 o0 0))
          (fg_if (0 ≤ x3)
            (fg_b (fn_X5_hasCells o0 x2 x3 s2) (fun p9 s8 =>
              fg_if (p9 = 0)
                (some ((3 : Int32), s8))
                (some ((0 : Int32), s8))))
            (some ((4 : Int32), s2)))
          (some ((2 : Int32), s2)))
        (some ((1 : Int32), s2))))
noncomputable def fn_X5_write_40 (y0 : Int32) (y1 : Int32) (t2 : Option Nat) (s : h_S) : Option ((Unit) × h_S) :=
  fg_o t2 (fun a1 =>
    fg_g (h_k s a1 = 1) (
      fg_g (vp_in y1 (h_n s a1)) (
        fg_let (h_si s a1 (h_ix y1) y0) (fun s4 =>
          some ((), s4)))))
noncomputable def fn_X5_write (o0 : Nat) (x1 : Int32) (x2 : Int32) (s : h_S) : Option ((Unit) × h_S) :=
  fg_b (fn_X11_within x1 (60 : Int32) s) (fun p2 s1 =>
    fg_if (p2 = 0)
      (some ((), s1))
      (fg_g (h_k s1 o0 = 26) (
        fg_if ((h_i s1 o0 0) = 0)
          (fn_X5_write_40 (x2.toInt8.toInt32) x1 (h_r s1 o0 2) s1)
          (fg_if ((h_i s1 o0 0) = (1 : Int32))
            (fn_X5_write_40 (x2.toInt16.toInt32) x1 (h_r s1 o0 2) s1)
            (fn_X5_write_40 x2 x1 (h_r s1 o0 2) s1)))))
noncomputable def fn_X5_areCodes_2b (K2 : Nat → Int32 → Int32 → Int32 → h_S → Option ((Int32) × h_S)) (o0 : Nat) (x1 : Int32) (x2 : Int32) (x3 : Int32) (s : h_S) : Option ((Int32) × h_S) :=
  fg_if (x2 ≤ x3)
    (some (1, s))
    (fg_g (h_k s o0 = 26) (
      fg_b (fn_X5_cellAt o0 (x1 + x3) s) (fun p4 s3 =>
        fg_if (p4 < (1 : Int32))
          (some (0, s3))
          (fg_if (p4 ≤ (99 : Int32))
            (K2 o0 x1 x2 (x3 + (1 : Int32)) s3)
            (some (0, s3))))))
noncomputable def fn_X5_areCodes_2 : Nat → Nat → Int32 → Int32 → Int32 → h_S → Option ((Int32) × h_S)
  | 0, _, _, _, _, _ => none
  | n + 1, o0, x1, x2, x3, s => fn_X5_areCodes_2b (fn_X5_areCodes_2 n) o0 x1 x2 x3 s
noncomputable def fn_X5_areCodes (o0 : Nat) (x1 : Int32) (x2 : Int32) (s : h_S) : Option ((Int32) × h_S) :=
  fn_X5_areCodes_2 g_N o0 x1 x2 (0 : Int32) s
set_option maxRecDepth 100000 in
noncomputable def fn_X6_init (o0 : Nat) (s : h_S) : fg_R (Unit) h_S :=
  fg_g (h_k s o0 = 27) (
    fg_let (h_si s o0 0 (-9 : Int32)) (fun s2 =>
      fg_let (c_ad 3 s2) (fun q3 => fg_c 1 0 (
        fg_let (h_nw s2 q3 1 0) (fun s7 =>
          fg_let (h_sr s7 o0 2 (some q3)) (fun s11 =>
            some ((), s11, 0, 0)))))))
noncomputable def fn_X6_keep_32 (o0 : Nat) (x1 : Int32) (r2 : Option Nat) (x3 : Int32) (s : h_S) : fg_R (Unit) h_S :=
  fg_g (h_k s o0 = 27) (
    fg_o (h_r s o0 2) (fun a2 =>
      fg_g (h_k s a2 = 1) (
        fg_o r2 (fun a4 =>
          fg_g (h_k s a4 = 1) (
            fg_g (¬ (0 : Int32) < 0) (
              fg_g (¬ (0 : Int32) < 0) (
                fg_g (¬ x3 < 0) (
                  fg_g (h_ix (0 : Int32) + h_ix x3 ≤ (h_n s a4)) (
                    fg_g (h_ix (0 : Int32) + h_ix x3 ≤ (h_n s a2)) (
                      fg_let (h_cp s a4 (h_ix (0 : Int32)) a2 (h_ix (0 : Int32)) (h_ix x3)) (fun s11 =>
                        fg_let (h_si s11 o0 1 x3) (fun s12 =>
                          fg_let (h_si s12 o0 0 x1) (fun s13 =>
                            some ((), s13, 0, 0))))))))))))))
noncomputable def fn_X6_keep (o0 : Nat) (x1 : Int32) (r2 : Option Nat) (x3 : Int32) (s : h_S) : fg_R (Unit) h_S :=
  fg_g (h_k s o0 = 27) (
    fg_o (h_r s o0 2) (fun a2 =>
      fg_g (h_k s a2 = 1) (
        fg_if (x3 ≤ (Int32.ofNat (h_n s a2)))
          (fn_X6_keep_32 o0 x1 r2 x3 s)
          (fg_o (h_r s o0 2) (fun a5 =>
            fg_g (h_k s a5 = 1) (
              fg_g (¬ (h_min (300 : Int32) (h_max x3 ((2 : Int32) * (Int32.ofNat (h_n s a5))))) < 0) (
                fg_g (h_ix (h_min (300 : Int32) (h_max x3 ((2 : Int32) * (Int32.ofNat (h_n s a5))))) * 4 ≤ 536870912) (
                  fg_let (c_ad 3 s) (fun q7 => fg_c 1 (h_ix (h_min (300 : Int32) (h_max x3 ((2 : Int32) * (Int32.ofNat (h_n s a5)))))) (
                    fg_let (h_nw s q7 1 (h_ix (h_min (300 : Int32) (h_max x3 ((2 : Int32) * (Int32.ofNat (h_n s a5))))))) (fun s13 =>
                      fg_let (h_sr s13 o0 2 (some q7)) (fun s17 =>
                        fn_X6_keep_32 o0 x1 r2 x3 s17))))))))))))
set_option maxRecDepth 100000 in
noncomputable def fn_Jxa1e45_init_da8c8 (o0 : Nat) (s : h_S) : Option ((Unit) × h_S) :=
  some ((), s)
set_option maxRecDepth 100000 in
noncomputable def fn_Jxc12de_init_da8c8 (o0 : Nat) (s : h_S) : Option ((Unit) × h_S) :=
  fg_b (fn_Jxa1e45_init_da8c8 o0 s) (fun u_ s1 =>
    fg_g (h_k s1 o0 = 20) (
      fg_let (h_si s1 o0 0 (0 : Int32)) (fun s4 =>
        some ((), s4))))
set_option maxRecDepth 100000 in
noncomputable def fn_Jx4a65c_init_da8c8 (o0 : Nat) (s : h_S) : Option ((Unit) × h_S) :=
  fg_b (fn_Jxc12de_init_da8c8 o0 s) (fun u_ s1 =>
    fg_g (h_k s1 o0 = 20) (
      fg_let (h_sr s1 o0 1 (some 7)) (fun s4 =>
        some ((), s4))))
set_option maxRecDepth 100000 in
noncomputable def fn_X7_init (o0 : Nat) (s : h_S) : fg_R (Unit) h_S :=
  fg_let 15 (fun q1 => fg_g (h_k s q1 = 0) (fg_c 1 12 (
    fg_let (h_nw s q1 1 12) (fun s5 =>
      fg_g (h_k s5 o0 = 28) (
        fg_let (h_sr s5 o0 1 (some q1)) (fun s9 =>
          fg_let 16 (fun q10 => fg_g (h_k s9 q10 = 0) (fg_c 1 12 (
            fg_let (h_nw s9 q10 4 12) (fun s14 =>
              fg_let (h_sr s14 o0 2 (some q10)) (fun s18 =>
                fg_let 17 (fun q19 => fg_g (h_k s18 q19 = 0) (fg_c 1 0 (
                  fg_let (h_nw s18 q19 3 0) (fun s23 =>
                    fg_let (h_sr s23 o0 3 (some q19)) (fun s27 =>
                      fg_let 18 (fun q28 => fg_g (h_k s27 q28 = 0) (fg_c 1 3 (
                        fg_let (h_nw s27 q28 20 3) (fun s32 =>
                          fg_b (fn_Jx4a65c_init_da8c8 q28 s32) (fun u_ s35 =>
                            fg_let (h_sr s35 o0 4 (some q28)) (fun s38 =>
                              fg_let 19 (fun q39 => fg_g (h_k s38 q39 = 0) (fg_c 1 8 (
                                fg_let (h_nw s38 q39 1 8) (fun s43 =>
                                  fg_let (h_sr s43 o0 5 (some q39)) (fun s47 =>
                                    fg_let 20 (fun q48 => fg_g (h_k s47 q48 = 0) (fg_c 1 1024 (
                                      fg_let (h_nw s47 q48 6 1024) (fun s52 =>
                                        fg_let (h_sr s52 o0 6 (some q48)) (fun s56 =>
                                          fg_let 21 (fun q57 => fg_g (h_k s56 q57 = 0) (fg_g (∀ i, i < 5 → h_k s56 ((fun i => 22 + i) i) = 0) (fg_c 6 1505 (
                                            fg_let (h_mn s56 q57 (fun i => 22 + i) 300 5 5) (fun s64 =>
                                              fg_let (h_sr s64 o0 7 (some q57)) (fun s68 =>
                                                fg_let 27 (fun q69 => fg_g (h_k s68 q69 = 0) (fg_c 1 32 (
                                                  fg_let (h_nw s68 q69 3 32) (fun s73 =>
                                                    fg_let (h_sr s73 o0 8 (some q69)) (fun s77 =>
                                                      fg_let 28 (fun q78 => fg_g (h_k s77 q78 = 0) (fg_c 1 32 (
                                                        fg_let (h_nw s77 q78 3 32) (fun s82 =>
                                                          fg_let (h_sr s82 o0 10 (some q78)) (fun s86 =>
                                                            fg_let 29 (fun q87 => fg_g (h_k s86 q87 = 0) (fg_c 1 6 (
                                                              fg_let (h_nw s86 q87 1 6) (fun s91 =>
                                                                fg_let (h_sr s91 o0 12 (some q87)) (fun s95 =>
                                                                  some ((), s95, 0, 0))))))))))))))))))))))))))))))))))))))))))))))))))))))
noncomputable def fn_X7_isFull (s : h_S) : Option ((Int32) × h_S) :=
  fg_if ((h_i s 3 0) < (12 : Int32))
    (some ((0 : Int32), s))
    (some ((1 : Int32), s))
noncomputable def fn_X7_begin (x1 : Int32) (x2 : Int32) (s : h_S) : fg_R (Int32) h_S :=
  fg_b (fn_X7_isFull s) (fun p3 s2 =>
    fg_if (p3 = 0)
      (fg_g (vp_in (h_i s2 3 0) 12) (
        fg_let (h_si s2 15 (h_ix (h_i s2 3 0)) x1) (fun s9 =>
          fg_let (c_ad 4 s9) (fun q10 => fg_c 1 3 (
            fg_let (h_nw s9 q10 25 3) (fun s14 =>
              fg_b (fn_X4_init q10 x2 (h_r s14 3 3) (none : Option Nat) s14) (fun u_ s18 =>
                fg_g (vp_in (h_i s9 3 0) 12) (
                  fg_g (h_k s18 q10 = 25) (
                    fg_let (h_sr s18 16 (h_ix (h_i s9 3 0)) (some q10)) (fun s24 =>
                      fg_let (h_si s24 3 0 ((h_i s24 3 0) + (1 : Int32))) (fun s26 =>
                        some (((h_i s26 3 0) - (1 : Int32)), s26, 0, 0))))))))))))
      (some ((-4 : Int32), s2, 0, 0)))
noncomputable def fn_X7_ownerOf (x1 : Int32) (s : h_S) : Option ((Int32) × h_S) :=
  fg_b (fn_X11_within x1 (h_i s 3 0) s) (fun p3 s2 =>
    fg_if (p3 = 0)
      (some ((-9 : Int32), s2))
      (fg_g (vp_in x1 12) (
        some ((h_i s2 15 (h_ix x1)), s2))))
noncomputable def fn_Jx4a65c_size_8abf5 (o0 : Nat) (s : h_S) : Option ((Int32) × h_S) :=
  fg_g (h_k s o0 = 20) (
    some ((h_i s o0 2), s))
noncomputable def fn_X7_wordCount (s : h_S) : Option ((Int32) × h_S) :=
  fg_b (fn_Jx4a65c_size_8abf5 18 s) (fun p5 s4 =>
    some (p5, s4))
noncomputable def fn_J3_checkIndex_8e157_9 (x0 : Int32) (x1 : Int32) (r2 : Option Nat) (s : h_S) : Option ((Int32) × h_S) :=
  none
noncomputable def fn_J3_checkIndex_8e157 (x0 : Int32) (x1 : Int32) (r2 : Option Nat) (s : h_S) : Option ((Int32) × h_S) :=
  fg_if (x0 < 0)
    (fn_J3_checkIndex_8e157_9 x0 x1 r2 s)
    (fg_if (x0 < x1)
      (some (x0, s))
      (fn_J3_checkIndex_8e157_9 x0 x1 r2 s))
noncomputable def fn_J15_checkIndex_7cf53 (x0 : Int32) (x1 : Int32) (s : h_S) : Option ((Int32) × h_S) :=
  fg_b (fn_J3_checkIndex_8e157 x0 x1 (none : Option Nat) s) (fun p2 s1 =>
    some (p2, s1))
noncomputable def fn_Jx4a65c_elementData_915e3 (o0 : Nat) (x1 : Int32) (s : h_S) : Option ((Option Nat) × h_S) :=
  fg_g (h_k s o0 = 20) (
    fg_o (h_r s o0 1) (fun a2 =>
      fg_g (h_k s a2 = 7) (
        fg_g (vp_in x1 (h_n s a2)) (
          some ((h_r s a2 (h_ix x1)), s)))))
noncomputable def fn_Jx4a65c_get_915e3 (o0 : Nat) (x1 : Int32) (s : h_S) : Option ((Option Nat) × h_S) :=
  fg_g (h_k s o0 = 20) (
    fg_b (fn_J15_checkIndex_7cf53 x1 (h_i s o0 2) s) (fun p3 s2 =>
      fg_b (fn_Jx4a65c_elementData_915e3 o0 x1 s2) (fun p6 s5 =>
        some (p6, s5))))
noncomputable def fn_X7_wordAt (x1 : Int32) (s : h_S) : Option ((Option Nat) × h_S) :=
  fg_b (fn_Jx4a65c_size_8abf5 18 s) (fun p5 s4 =>
    fg_b (fn_X11_within x1 p5 s4) (fun p7 s6 =>
      fg_if (p7 = 0)
        (some ((none : Option Nat), s6))
        (fg_b (fn_Jx4a65c_get_915e3 18 x1 s6) (fun p13 s12 =>
          fg_g (∀ x , p13 = some x → (h_k s12 x) = 31) (
            some (p13, s12))))))
set_option maxRecDepth 100000 in
noncomputable def fn_X10_init (o0 : Nat) (x1 : Int32) (x2 : Int32) (x3 : Int32) (x4 : Int32) (x5 : Int32) (s : h_S) : Option ((Unit) × h_S) :=
  fg_g (h_k s o0 = 31) (
    fg_let (h_si s o0 0 x1) (fun s2 =>
      fg_let (h_si s2 o0 1 x2) (fun s3 =>
        fg_let (h_si s3 o0 2 x3) (fun s4 =>
          fg_let (h_si s4 o0 3 x4) (fun s5 =>
            fg_let (h_si s5 o0 4 x5) (fun s6 =>
              some ((), s6)))))))
noncomputable def fn_J8_hugeLength_7cf53 (x0 : Int32) (x1 : Int32) (s : h_S) : fg_R (Int32) h_S :=
  fg_if (0 ≤ (x0 + x1))
    (fg_if ((2147483639 : Int32) < (x0 + x1))
      (some ((x0 + x1), s, 0, 0))
      (some ((2147483639 : Int32), s, 0, 0)))
    (none)
noncomputable def fn_J8_newLength_cabcc_21 (x0 : Int32) (x1 : Int32) (s : h_S) : fg_R (Int32) h_S :=
  fg_bc (fn_J8_hugeLength_7cf53 x0 x1 s) (fun p2 s1 =>
    some (p2, s1, 0, 0))
noncomputable def fn_J8_newLength_cabcc (x0 : Int32) (x1 : Int32) (x2 : Int32) (s : h_S) : fg_R (Int32) h_S :=
  fg_if ((x0 + (h_max x1 x2)) ≤ (0 : Int32))
    (fn_J8_newLength_cabcc_21 x0 x1 s)
    (fg_if ((2147483639 : Int32) < (x0 + (h_max x1 x2)))
      (fn_J8_newLength_cabcc_21 x0 x1 s)
      (some ((x0 + (h_max x1 x2)), s, 0, 0)))
noncomputable def fn_J7_copyOf_6403c (r0 : Option Nat) (x1 : Int32) (s : h_S) : fg_R (Option Nat) h_S :=
  fg_g (¬ x1 < 0) (
    fg_g (h_ix x1 * 4 ≤ 536870912) (
      fg_let (c_ad 7 s) (fun q2 => fg_c 1 (h_ix x1) (
        fg_let (h_nw s q2 7 (h_ix x1)) (fun s8 =>
          fg_g (r0 = some 7 ∨ ∃ a, r0 = some a ∧ h_k s8 a = 7) (
            fg_g (h_k s8 q2 = 7) (
              fg_o r0 (fun a13 =>
                fg_g (h_k s8 a13 = 7) (
                  fg_g (¬ (0 : Int32) < 0) (
                    fg_g (¬ (0 : Int32) < 0) (
                      fg_g (¬ (h_min (h_ln7 (7 , 0 , 0) s8 r0) x1) < 0) (
                        fg_g (h_ix (0 : Int32) + h_ix (h_min (h_ln7 (7 , 0 , 0) s8 r0) x1) ≤ (h_n s8 a13)) (
                          fg_g (h_ix (0 : Int32) + h_ix (h_min (h_ln7 (7 , 0 , 0) s8 r0) x1) ≤ (h_n s8 q2)) (
                            fg_g (∀ i , i < h_ix (h_min (h_ln7 (7 , 0 , 0) s8 r0) x1) → ∀ y , (h_r s8 a13 (h_ix (0 : Int32) + i)) = some y → 20 ≤ (h_k s8 y) ∧ (h_k s8 y) < 34) (
                              fg_let (h_cpR s8 a13 (h_ix (0 : Int32)) q2 (h_ix (0 : Int32)) (h_ix (h_min (h_ln7 (7 , 0 , 0) s8 r0) x1))) (fun s21 =>
                                some ((some q2), s21, 0, 0)))))))))))))))))
noncomputable def fn_J7_copyOf_1904c (r0 : Option Nat) (x1 : Int32) (s : h_S) : fg_R (Option Nat) h_S :=
  fg_o r0 (fun a1 =>
    fg_g (h_k s a1 = 7) (
      fg_bc (fn_J7_copyOf_6403c r0 x1 s) (fun p4 s3 =>
        some (p4, s3, 0, 0))))
noncomputable def fn_Jx4a65c_grow_92f84_20 (o0 : Nat) (x1 : Int32) (x2 : Int32) (s : h_S) : fg_R (Option Nat) h_S :=
  fg_bc (fn_J8_newLength_cabcc x2 (x1 - x2) (x2 >>> ((1 : Int32) &&& 31)) s) (fun p2 s1 =>
    fg_g (h_k s1 o0 = 20) (
      fg_bc (fn_J7_copyOf_1904c (h_r s1 o0 1) p2 s1) (fun p9 s8 =>
        fg_let (h_sr s8 o0 1 p9) (fun s15 =>
          some (p9, s15, 0, 0)))))
noncomputable def fn_Jx4a65c_grow_92f84 (o0 : Nat) (x1 : Int32) (s : h_S) : fg_R (Option Nat) h_S :=
  fg_g (h_k s o0 = 20) (
    fg_g (h_r s o0 1 = some 7 ∨ ∃ a, h_r s o0 1 = some a ∧ h_k s a = 7) (
      fg_if (0 < (h_ln7 (7 , 0 , 0) s (h_r s o0 1)))
        (fn_Jx4a65c_grow_92f84_20 o0 x1 (h_ln7 (7 , 0 , 0) s (h_r s o0 1)) s)
        (fg_if ((h_r s o0 1) = (some 7))
          (fg_g (¬ (h_max (10 : Int32) x1) < 0) (
            fg_g (h_ix (h_max (10 : Int32) x1) * 4 ≤ 536870912) (
              fg_let (c_ad 7 s) (fun q5 => fg_c 1 (h_ix (h_max (10 : Int32) x1)) (
                fg_let (h_nw s q5 7 (h_ix (h_max (10 : Int32) x1))) (fun s11 =>
                  fg_let (h_sr s11 o0 1 (some q5)) (fun s15 =>
                    some ((some q5), s15, 0, 0))))))))
          (fn_Jx4a65c_grow_92f84_20 o0 x1 (h_ln7 (7 , 0 , 0) s (h_r s o0 1)) s))))
noncomputable def fn_Jx4a65c_grow_d5877 (o0 : Nat) (s : h_S) : fg_R (Option Nat) h_S :=
  fg_g (h_k s o0 = 20) (
    fg_bc (fn_Jx4a65c_grow_92f84 o0 ((h_i s o0 2) + (1 : Int32)) s) (fun p3 s2 =>
      some (p3, s2, 0, 0)))
noncomputable def fn_Jx4a65c_add_72be8_11 (o0 : Nat) (r1 : Option Nat) (r2 : Option Nat) (x3 : Int32) (s : h_S) : fg_R (Unit) h_S :=
  fg_o r2 (fun a1 =>
    fg_g (h_k s a1 = 7) (
      fg_g (vp_in x3 (h_n s a1)) (
        fg_o r1 (fun a4 =>
          fg_g (20 ≤ (h_k s a4) ∧ (h_k s a4) < 34) (
            fg_let (h_sr s a1 (h_ix x3) (some a4)) (fun s6 =>
              fg_g (h_k s6 o0 = 20) (
                fg_let (h_si s6 o0 2 (x3 + (1 : Int32))) (fun s8 =>
                  some ((), s8, 0, 0)))))))))
noncomputable def fn_Jx4a65c_add_72be8 (o0 : Nat) (r1 : Option Nat) (r2 : Option Nat) (x3 : Int32) (s : h_S) : fg_R (Unit) h_S :=
  fg_g (r2 = some 7 ∨ ∃ a, r2 = some a ∧ h_k s a = 7) (
    fg_if (x3 = (h_ln7 (7 , 0 , 0) s r2))
      (fg_g (h_k s o0 = 20) (
        fg_bc (fn_Jx4a65c_grow_d5877 o0 s) (fun p5 s4 =>
          fn_Jx4a65c_add_72be8_11 o0 r1 p5 x3 s4)))
      (fn_Jx4a65c_add_72be8_11 o0 r1 r2 x3 s))
noncomputable def fn_Jx4a65c_add_9ea2d (o0 : Nat) (r1 : Option Nat) (s : h_S) : fg_R (Int32) h_S :=
  fg_g (h_k s o0 = 20) (
    fg_let (h_si s o0 0 ((h_i s o0 0) + (1 : Int32))) (fun s2 =>
      fg_bc (fn_Jx4a65c_add_72be8 o0 r1 (h_r s2 o0 1) (h_i s2 o0 2) s2) (fun u_ s3 =>
        some (1, s3, 0, 0))))
noncomputable def fn_X7_addWord (x1 : Int32) (x2 : Int32) (x3 : Int32) (s : h_S) : fg_R (Unit) h_S :=
  fg_b (fn_X7_ownerOf x2 s) (fun p3 s2 =>
    fg_b (fn_X11_within p3 (8 : Int32) s2) (fun p5 s4 =>
      fg_if (p5 = 0)
        (some ((), s4, 0, 0))
        (fg_let (c_ad 6 s4) (fun q8 => fg_c 1 5 (
          fg_let (h_nw s4 q8 31 5) (fun s12 =>
            fg_g (vp_in p3 8) (
              fg_b (fn_X10_init q8 x1 p3 x2 x3 (h_i s12 19 (h_ix p3)) s12) (fun u_ s19 =>
                fg_bc (fn_Jx4a65c_add_9ea2d 18 (some q8) s19) (fun p24 s23 =>
                  fg_g (vp_in p3 8) (
                    fg_g (vp_in p3 8) (
                      fg_let (h_si s23 19 (h_ix p3) ((h_i s23 19 (h_ix p3)) + (1 : Int32))) (fun s36 =>
                        some ((), s36, 0, 0)))))))))))))
noncomputable def fn_X7_areWords (x1 : Int32) (x2 : Int32) (s : h_S) : Option ((Int32) × h_S) :=
  fg_if (x1 < 0)
    (some ((0 : Int32), s))
    (fg_if (x2 < (1 : Int32))
      (some ((0 : Int32), s))
      (fg_b (fn_Jx4a65c_size_8abf5 18 s) (fun p7 s6 =>
        fg_if (p7 ≤ x1)
          (some ((0 : Int32), s6))
          (fg_b (fn_Jx4a65c_size_8abf5 18 s6) (fun p13 s12 =>
            fg_if ((p13 - x1) < x2)
              (some ((0 : Int32), s12))
              (some ((1 : Int32), s12)))))))
noncomputable def fn_X7_codeOf (x1 : Int32) (s : h_S) : Option ((Int32) × h_S) :=
  fg_b (fn_X7_wordAt x1 s) (fun p3 s2 =>
    fg_if (p3 = none)
      (some ((-9 : Int32), s2))
      (fg_o p3 (fun a5 =>
        fg_g (h_k s2 a5 = 31) (
          some ((h_i s2 a5 0), s2)))))
noncomputable def fn_X7_handOf (x1 : Int32) (s : h_S) : Option ((Int32) × h_S) :=
  fg_b (fn_X7_wordAt x1 s) (fun p3 s2 =>
    fg_if (p3 = none)
      (some ((-9 : Int32), s2))
      (fg_o p3 (fun a5 =>
        fg_g (h_k s2 a5 = 31) (
          some ((h_i s2 a5 1), s2)))))
noncomputable def fn_X7_isIn (x1 : Int32) (x2 : Int32) (s : h_S) : Option ((Int32) × h_S) :=
  fg_b (fn_X7_wordAt x1 s) (fun p3 s2 =>
    fg_if (p3 = none)
      (some ((0 : Int32), s2))
      (fg_o p3 (fun a5 =>
        fg_g (h_k s2 a5 = 31) (
          fg_if (((x2 >>> ((h_i s2 a5 2) &&& 31)) &&& (1 : Int32)) = (1 : Int32))
            (some ((1 : Int32), s2))
            (some ((0 : Int32), s2))))))
noncomputable def fn_X7_homesOf_5b (K5 : Int32 → Int32 → Int32 → Int32 → h_S → Option ((Int32) × h_S)) (x1 : Int32) (x2 : Int32) (x3 : Int32) (x4 : Int32) (s : h_S) : Option ((Int32) × h_S) :=
  fg_if (x2 ≤ x4)
    (some (x3, s))
    (fg_b (fn_X7_wordAt (x1 + x4) s) (fun p4 s3 =>
      fg_if (p4 = none)
        (K5 x1 x2 x3 (x4 + (1 : Int32)) s3)
        (fg_o p4 (fun a6 =>
          fg_g (h_k s3 a6 = 31) (
            fg_let (x3 ||| ((1 : Int32) <<< ((h_i s3 a6 2) &&& 31))) (fun v8 =>
              K5 x1 x2 v8 (x4 + (1 : Int32)) s3))))))
noncomputable def fn_X7_homesOf_5 : Nat → Int32 → Int32 → Int32 → Int32 → h_S → Option ((Int32) × h_S)
  | 0, _, _, _, _, _ => none
  | n + 1, x1, x2, x3, x4, s => fn_X7_homesOf_5b (fn_X7_homesOf_5 n) x1 x2 x3 x4 s
noncomputable def fn_X7_homesOf (x1 : Int32) (x2 : Int32) (s : h_S) : Option ((Int32) × h_S) :=
  fn_X7_homesOf_5 g_N x1 x2 (0 : Int32) (0 : Int32) s
noncomputable def fn_X7_codesAlike_3b (K3 : Int32 → Int32 → Int32 → Int32 → h_S → Option ((Int32) × h_S)) (x1 : Int32) (x2 : Int32) (x3 : Int32) (x4 : Int32) (s : h_S) : Option ((Int32) × h_S) :=
  fg_if (x3 ≤ x4)
    (some (1, s))
    (fg_b (fn_X7_codeOf (x1 + x4) s) (fun p4 s3 =>
      fg_b (fn_X7_codeOf (x2 + x4) s3) (fun p7 s6 =>
        fg_if (p4 = p7)
          (K3 x1 x2 x3 (x4 + (1 : Int32)) s6)
          (some (0, s6)))))
noncomputable def fn_X7_codesAlike_3 : Nat → Int32 → Int32 → Int32 → Int32 → h_S → Option ((Int32) × h_S)
  | 0, _, _, _, _, _ => none
  | n + 1, x1, x2, x3, x4, s => fn_X7_codesAlike_3b (fn_X7_codesAlike_3 n) x1 x2 x3 x4 s
noncomputable def fn_X7_codesAlike (x1 : Int32) (x2 : Int32) (x3 : Int32) (s : h_S) : Option ((Int32) × h_S) :=
  fn_X7_codesAlike_3 g_N x1 x2 x3 (0 : Int32) s
noncomputable def fn_X7_piecesAsOf_43 (s : h_S) : Option ((Option Nat) × h_S) :=
  some ((h_r s 3 3), s)
noncomputable def fn_X7_piecesAsOf_18b (K18 : Int32 → Option Nat → h_S → Option ((Option Nat) × h_S)) (x2 : Int32) (r3 : Option Nat) (s : h_S) : Option ((Option Nat) × h_S) :=
  fg_if (r3 = none)
    (fn_X7_piecesAsOf_43 s)
    (fg_o r3 (fun a2 =>
      fg_g (h_k s a2 = 25) (
        fg_if (x2 < (h_i s a2 0))
          (fg_o r3 (fun a5 =>
            fg_g (h_k s a5 = 25) (
              K18 x2 (h_r s a5 2) s)))
          (fg_o r3 (fun a7 =>
            fg_g (h_k s a7 = 25) (
              some ((h_r s a7 1), s)))))))
noncomputable def fn_X7_piecesAsOf_18 : Nat → Int32 → Option Nat → h_S → Option ((Option Nat) × h_S)
  | 0, _, _, _ => none
  | n + 1, x2, r3, s => fn_X7_piecesAsOf_18b (fn_X7_piecesAsOf_18 n) x2 r3 s
noncomputable def fn_X7_piecesAsOf (x1 : Int32) (x2 : Int32) (s : h_S) : Option ((Option Nat) × h_S) :=
  fg_b (fn_X11_within x1 (h_i s 3 0) s) (fun p3 s2 =>
    fg_if (p3 = 0)
      (fn_X7_piecesAsOf_43 s2)
      (fg_g (vp_in x1 12) (
        fn_X7_piecesAsOf_18 g_N x2 (h_r s2 16 (h_ix x1)) s2)))
noncomputable def fn_X7_pieceCount (x1 : Int32) (s : h_S) : Option ((Int32) × h_S) :=
  fg_b (fn_X11_within x1 (h_i s 3 0) s) (fun p3 s2 =>
    fg_if (p3 = 0)
      (some ((0 : Int32), s2))
      (fg_g (vp_in x1 12) (
        fg_if ((h_r s2 16 (h_ix x1)) = none)
          (some ((0 : Int32), s2))
          (fg_g (vp_in x1 12) (
            fg_o (h_r s2 16 (h_ix x1)) (fun a13 =>
              fg_g (h_k s2 a13 = 25) (
                fg_o (h_r s2 a13 1) (fun a15 =>
                  fg_g (h_k s2 a15 = 3) (
                    some ((Int32.ofNat (h_n s2 a15)), s2))))))))))
noncomputable def fn_X7_pieceAt (x1 : Int32) (x2 : Int32) (s : h_S) : Option ((Option Nat) × h_S) :=
  fg_b (fn_X7_pieceCount x1 s) (fun p3 s2 =>
    fg_b (fn_X11_within x2 p3 s2) (fun p5 s4 =>
      fg_if (p5 = 0)
        (some ((none : Option Nat), s4))
        (fg_g (vp_in x1 12) (
          fg_o (h_r s4 16 (h_ix x1)) (fun a11 =>
            fg_g (h_k s4 a11 = 25) (
              fg_o (h_r s4 a11 1) (fun a13 =>
                fg_g (h_k s4 a13 = 3) (
                  fg_g (vp_in x2 (h_n s4 a13)) (
                    some ((h_r s4 a13 (h_ix x2)), s4))))))))))
noncomputable def fn_X7_stretch_18 (r0 : Option Nat) (y0 : Int32) (s : h_S) : Option ((Int32) × h_S) :=
  fg_o r0 (fun a1 =>
    fg_g (h_k s a1 = 23) (
      fg_if ((h_i s a1 2) ≤ y0)
        (fg_o r0 (fun a4 =>
          fg_g (h_k s a4 = 23) (
            some ((h_i s a4 2), s))))
        (some (y0, s))))
noncomputable def fn_X7_stretch (r0 : Option Nat) (x1 : Int32) (s : h_S) : Option ((Int32) × h_S) :=
  fg_o r0 (fun a1 =>
    fg_g (h_k s a1 = 23) (
      fg_if (x1 ≤ (h_i s a1 1))
        (fn_X7_stretch_18 r0 (0 : Int32) s)
        (fg_o r0 (fun a4 =>
          fg_g (h_k s a4 = 23) (
            fn_X7_stretch_18 r0 (x1 - (h_i s a4 1)) s)))))
noncomputable def fn_X7_lay_37b (C : Int32 → Int32 → Int32 → h_S → fg_R (Option Nat) h_S) (K37 : Option Nat → Int32 → Option Nat → Int32 → Int32 → h_S → fg_R (Int32) h_S) (r1 : Option Nat) (x4 : Int32) (r5 : Option Nat) (x7 : Int32) (x8 : Int32) (s : h_S) : fg_R (Int32) h_S :=
  fg_if (x7 ≤ x8)
    (some ((x4 + x7), s, 0, 0))
    (fg_o r1 (fun a2 =>
      fg_g (h_k s a2 = 23) (
        fg_o r5 (fun a4 =>
          fg_g (h_k s a4 = 1) (
            fg_g (vp_in (x4 + x8) (h_n s a4)) (
              fg_let (h_si s a4 (h_ix (x4 + x8)) ((h_i s a2 1) + x8)) (fun s7 =>
                K37 r1 x4 r5 x7 (x8 + (1 : Int32)) s7)))))))
noncomputable def fn_X7_lay_37 (C : Int32 → Int32 → Int32 → h_S → fg_R (Option Nat) h_S) : Nat → Option Nat → Int32 → Option Nat → Int32 → Int32 → h_S → fg_R (Int32) h_S
  | 0, _, _, _, _, _, _ => none
  | n + 1, r1, x4, r5, x7, x8, s => fn_X7_lay_37b C (fn_X7_lay_37 C n) r1 x4 r5 x7 x8 s
noncomputable def fnx_X7_lay (C : Int32 → Int32 → Int32 → h_S → fg_R (Option Nat) h_S) (r1 : Option Nat) (x2 : Int32) (x3 : Int32) (x4 : Int32) (s : h_S) : fg_R (Int32) h_S :=
  fg_g (vp_in x3 5) (
    fg_o r1 (fun a5 =>
      fg_g (h_k s a5 = 23) (
        fg_b (fn_X2_hasWords a5 s) (fun p8 s7 =>
          fg_if (p8 = 0)
            (fg_if (x3 < (4 : Int32))
              (fg_o r1 (fun a11 =>
                fg_g (h_k s7 a11 = 23) (
                  fg_o r1 (fun a13 =>
                    fg_g (h_k s7 a13 = 23) (
                      fg_b (fn_X2_momentWithin a13 x2 s7) (fun p16 s15 =>
                        fg_bc (C (h_i s7 a11 3) p16 (x3 + (1 : Int32)) s15) (fun p19 s18 =>
                          fg_o p19 (fun a24 =>
                            fg_g (h_k s18 a24 = 27) (
                              fg_b (fn_X7_stretch r1 (h_i s18 a24 1) s18) (fun p27 s26 =>
                                fg_let (h_min ((300 : Int32) - x4) p27) (fun v28 =>
                                  fg_if (v28 ≤ 0)
                                    (some ((x4 + v28), s26, 0, 0))
                                    (fg_o p19 (fun a30 =>
                                      fg_g (h_k s26 a30 = 27) (
                                        fg_o r1 (fun a32 =>
                                          fg_g (h_k s26 a32 = 23) (
                                            fg_o (h_r s 21 (h_ix x3)) (fun a34 =>
                                              fg_g (h_k s26 a34 = 1) (
                                                fg_o (h_r s26 a30 2) (fun a36 =>
                                                  fg_g (h_k s26 a36 = 1) (
                                                    fg_g (¬ (h_i s26 a32 1) < 0) (
                                                      fg_g (¬ x4 < 0) (
                                                        fg_g (¬ v28 < 0) (
                                                          fg_g (h_ix (h_i s26 a32 1) + h_ix v28 ≤ (h_n s26 a36)) (
                                                            fg_g (h_ix x4 + h_ix v28 ≤ (h_n s26 a34)) (
                                                              fg_let (h_cp s26 a36 (h_ix (h_i s26 a32 1)) a34 (h_ix x4) (h_ix v28)) (fun s43 =>
                                                                some ((x4 + v28), s43, 0, 0)))))))))))))))))))))))))))
              (fg_o (h_r s 21 (h_ix x3)) (fun a44 =>
                fg_g (h_k s7 a44 = 1) (
                  fg_g (vp_in x4 (h_n s7 a44)) (
                    fg_let (h_si s7 a44 (h_ix x4) (-7 : Int32)) (fun s47 =>
                      some ((x4 + (1 : Int32)), s47, 0, 0)))))))
            (fg_o r1 (fun a48 =>
              fg_g (h_k s7 a48 = 23) (
                fg_let (h_min ((300 : Int32) - x4) (h_i s7 a48 2)) (fun v50 =>
                  fn_X7_lay_37 C g_N r1 x4 (h_r s 21 (h_ix x3)) v50 (0 : Int32) s7))))))))
noncomputable def fn_X7_shownOf_128 (C : Int32 → Int32 → Int32 → h_S → fg_R (Option Nat) h_S) (x4 : Int32) (r6 : Option Nat) (x7 : Int32) (x9 : Int32) (s : h_S) : fg_R (Option Nat) h_S :=
  fg_g (vp_in x7 5) (
    fg_o r6 (fun a5 =>
      fg_g (h_k s a5 = 27) (
        fg_bc (fn_X6_keep a5 x4 (h_r s 21 (h_ix x7)) x9 s) (fun u_ s7 =>
          some (r6, s7, 0, 0)))))
noncomputable def fn_X7_shownOf_90b (C : Int32 → Int32 → Int32 → h_S → fg_R (Option Nat) h_S) (K90 : Int32 → Int32 → Option Nat → Int32 → Option Nat → Int32 → Int32 → h_S → fg_R (Option Nat) h_S) (x2 : Int32) (x4 : Int32) (r6 : Option Nat) (x7 : Int32) (r8 : Option Nat) (x9 : Int32) (x10 : Int32) (s : h_S) : fg_R (Option Nat) h_S :=
  fg_o r8 (fun a1 =>
    fg_g (h_k s a1 = 3) (
      fg_if ((Int32.ofNat (h_n s a1)) ≤ x10)
        (fn_X7_shownOf_128 C x4 r6 x7 x9 s)
        (fg_if ((300 : Int32) ≤ x9)
          (fn_X7_shownOf_128 C x4 r6 x7 x9 s)
          (fg_o r8 (fun a5 =>
            fg_g (h_k s a5 = 3) (
              fg_g (vp_in x10 (h_n s a5)) (
                fg_bc (fnx_X7_lay C (h_r s a5 (h_ix x10)) x2 x7 x9 s) (fun p10 s9 =>
                  K90 x2 x4 r6 x7 r8 p10 (x10 + (1 : Int32)) s9))))))))
noncomputable def fn_X7_shownOf_90 (C : Int32 → Int32 → Int32 → h_S → fg_R (Option Nat) h_S) : Nat → Int32 → Int32 → Option Nat → Int32 → Option Nat → Int32 → Int32 → h_S → fg_R (Option Nat) h_S
  | 0, _, _, _, _, _, _, _, _ => none
  | n + 1, x2, x4, r6, x7, r8, x9, x10, s => fn_X7_shownOf_90b C (fn_X7_shownOf_90 C n) x2 x4 r6 x7 r8 x9 x10 s
noncomputable def fn_X7_shownOf_46 (C : Int32 → Int32 → Int32 → h_S → fg_R (Option Nat) h_S) (x1 : Int32) (x2 : Int32) (x3 : Int32) (x4 : Int32) (x5 : Int32) (s : h_S) : fg_R (Option Nat) h_S :=
  fg_g (vp_in x5 1024) (
    fg_o (h_r s 20 (h_ix x5)) (fun a5 =>
      fg_g (h_k s a5 = 27) (
        fg_if ((h_i s a5 0) = x4)
          (some ((h_r s 20 (h_ix x5)), s, 0, 0))
          (fg_let (h_max (0 : Int32) (h_min x3 (4 : Int32))) (fun v8 =>
            fg_b (fn_X7_piecesAsOf x1 x2 s) (fun p10 s9 =>
              fn_X7_shownOf_90 C g_N x2 x4 (h_r s 20 (h_ix x5)) v8 p10 (0 : Int32) (0 : Int32) s9))))))
noncomputable def fnx_X7_shownOf (C : Int32 → Int32 → Int32 → h_S → fg_R (Option Nat) h_S) (x1 : Int32) (x2 : Int32) (x3 : Int32) (s : h_S) : fg_R (Option Nat) h_S :=
  fg_let ((((x2 * (12 : Int32)) + x1) * (5 : Int32)) + x3) (fun v1 =>
    fg_let (h_ushr (v1 * (-1640531535 : Int32)) (22 : Int32)) (fun v2 =>
      fg_g (vp_in v2 1024) (
        fg_if ((h_r s 20 (h_ix v2)) = none)
          (fg_let (c_ad 2 s) (fun q8 => fg_c 1 3 (
            fg_let (h_nw s q8 27 3) (fun s12 =>
              fg_bc (fn_X6_init q8 s12) (fun u_ s15 =>
                fg_g (vp_in v2 1024) (
                  fg_g (h_k s15 q8 = 27) (
                    fg_let (h_sr s15 20 (h_ix v2) (some q8)) (fun s25 =>
                      fn_X7_shownOf_46 C x1 x2 x3 v1 v2 s25))))))))
          (fn_X7_shownOf_46 C x1 x2 x3 v1 v2 s))))
noncomputable def fn_X7_shownOf : Nat → Int32 → Int32 → Int32 → h_S → fg_R (Option Nat) h_S
  | 0, _, _, _, _ => none
  | d + 1, x1, x2, x3, s => fnx_X7_shownOf (fn_X7_shownOf d) x1 x2 x3 s
noncomputable def fn_X7_sizeAsOf (x1 : Int32) (x2 : Int32) (s : h_S) : fg_R (Int32) h_S :=
  fg_bc (fn_X7_shownOf 6 x1 x2 (0 : Int32) s) (fun p3 s2 =>
    fg_o p3 (fun a8 =>
      fg_g (h_k s2 a8 = 27) (
        some ((h_i s2 a8 1), s2, 0, 0))))
noncomputable def fn_X7_sizeOf (r1 : Option Nat) (x2 : Int32) (x3 : Int32) (s : h_S) : fg_R (Int32) h_S :=
  fg_o r1 (fun a1 =>
    fg_g (h_k s a1 = 23) (
      fg_b (fn_X2_hasWords a1 s) (fun p4 s3 =>
        fg_if (p4 = 0)
          (fg_if (x3 < (4 : Int32))
            (fg_o r1 (fun a7 =>
              fg_g (h_k s3 a7 = 23) (
                fg_o r1 (fun a9 =>
                  fg_g (h_k s3 a9 = 23) (
                    fg_b (fn_X2_momentWithin a9 x2 s3) (fun p12 s11 =>
                      fg_bc (fn_X7_shownOf 6 (h_i s3 a7 3) p12 (x3 + (1 : Int32)) s11) (fun p15 s14 =>
                        fg_o p15 (fun a20 =>
                          fg_g (h_k s14 a20 = 27) (
                            fg_b (fn_X7_stretch r1 (h_i s14 a20 1) s14) (fun p23 s22 =>
                              some (p23, s22, 0, 0)))))))))))
            (some ((1 : Int32), s3, 0, 0)))
          (fg_o r1 (fun a24 =>
            fg_g (h_k s3 a24 = 23) (
              some ((h_i s3 a24 2), s3, 0, 0)))))))
noncomputable def fn_X7_layOut_7b (K7 : Int32 → Int32 → h_S → Option ((Unit) × h_S)) (x1 : Int32) (x2 : Int32) (s : h_S) : Option ((Unit) × h_S) :=
  fg_b (fn_X7_pieceCount x1 s) (fun p3 s2 =>
    fg_if (p3 ≤ x2)
      (some ((), s2))
      (fg_if ((24 : Int32) ≤ x2)
        (some ((), s2))
        (fg_g (vp_in x1 12) (
          fg_o (h_r s2 16 (h_ix x1)) (fun a10 =>
            fg_g (h_k s2 a10 = 25) (
              fg_o (h_r s2 a10 1) (fun a12 =>
                fg_g (h_k s2 a12 = 3) (
                  fg_g (vp_in x2 (h_n s2 a12)) (
                    fg_g (vp_in x2 32) (
                      fg_g (∀ x , (h_r s2 a12 (h_ix x2)) = some x → (h_k s2 x) = 23) (
                        fg_let (h_sr s2 27 (h_ix x2) (h_r s2 a12 (h_ix x2))) (fun s19 =>
                          fg_let (h_si s19 3 9 ((h_i s19 3 9) + (1 : Int32))) (fun s20 =>
                            K7 x1 (x2 + (1 : Int32)) s20)))))))))))))
noncomputable def fn_X7_layOut_7 : Nat → Int32 → Int32 → h_S → Option ((Unit) × h_S)
  | 0, _, _, _ => none
  | n + 1, x1, x2, s => fn_X7_layOut_7b (fn_X7_layOut_7 n) x1 x2 s
noncomputable def fn_X7_layOut (x1 : Int32) (s : h_S) : Option ((Unit) × h_S) :=
  fg_let (h_si s 3 9 (0 : Int32)) (fun s2 =>
    fn_X7_layOut_7 g_N x1 (0 : Int32) s2)
noncomputable def fn_X7_insert_27b (K27 : Int32 → Option Nat → Int32 → h_S → Option ((Unit) × h_S)) (x1 : Int32) (r2 : Option Nat) (x3 : Int32) (s : h_S) : Option ((Unit) × h_S) :=
  fg_if (x3 ≤ x1)
    (fg_g (vp_in x1 32) (
      fg_g (∀ x , r2 = some x → (h_k s x) = 23) (
        fg_let (h_sr s 27 (h_ix x1) r2) (fun s7 =>
          fg_let (h_si s7 3 9 ((h_i s7 3 9) + (1 : Int32))) (fun s8 =>
            some ((), s8))))))
    (fg_g (vp_in (x3 - (1 : Int32)) 32) (
      fg_g (vp_in x3 32) (
        fg_g (∀ x , (h_r s 27 (h_ix (x3 - (1 : Int32)))) = some x → (h_k s x) = 23) (
          fg_let (h_sr s 27 (h_ix x3) (h_r s 27 (h_ix (x3 - (1 : Int32))))) (fun s17 =>
            K27 x1 r2 (x3 + (-1 : Int32)) s17)))))
noncomputable def fn_X7_insert_27 : Nat → Int32 → Option Nat → Int32 → h_S → Option ((Unit) × h_S)
  | 0, _, _, _, _ => none
  | n + 1, x1, r2, x3, s => fn_X7_insert_27b (fn_X7_insert_27 n) x1 r2 x3 s
noncomputable def fn_X7_insert (x1 : Int32) (r2 : Option Nat) (s : h_S) : Option ((Unit) × h_S) :=
  fg_if ((32 : Int32) ≤ (h_i s 3 9))
    (some ((), s))
    (fg_if (x1 < 0)
      (some ((), s))
      (fg_if (x1 ≤ (h_i s 3 9))
        (fn_X7_insert_27 g_N x1 r2 (h_i s 3 9) s)
        (some ((), s))))
noncomputable def fn_X7_layRuns_44 (K10 : Option Nat → Int32 → Int32 → Int32 → h_S → fg_R (Unit) h_S) (r1 : Option Nat) (x2 : Int32) (x3 : Int32) (x4 : Int32) (s : h_S) : fg_R (Unit) h_S :=
  fg_let (c_ad 1 s) (fun q2 => fg_c 1 5 (
    fg_let (h_nw s q2 23 5) (fun s6 =>
      fg_o r1 (fun a9 =>
        fg_g (h_k s6 a9 = 1) (
          fg_g (vp_in x3 (h_n s6 a9)) (
            fg_b (fn_X2_init q2 (1 : Int32) (h_i s6 a9 (h_ix x3)) (x4 - x3) (-9 : Int32) (-9 : Int32) s6) (fun u_ s12 =>
              fg_b (fn_X7_insert (h_i s 3 9) (some q2) s12) (fun u_ s15 =>
                K10 r1 x2 x4 (x4 + (1 : Int32)) s15))))))))
noncomputable def fn_X7_layRuns_10b (K10 : Option Nat → Int32 → Int32 → Int32 → h_S → fg_R (Unit) h_S) (r1 : Option Nat) (x2 : Int32) (x3 : Int32) (x4 : Int32) (s : h_S) : fg_R (Unit) h_S :=
  fg_if (x2 < x4)
    (some ((), s, 0, 0))
    (fg_o r1 (fun a2 =>
      fg_g (h_k s a2 = 1) (
        fg_if ((Int32.ofNat (h_n s a2)) < x4)
          (some ((), s, 0, 0))
          (fg_if (x4 = x2)
            (fn_X7_layRuns_44 K10 r1 x2 x3 x4 s)
            (fg_o r1 (fun a6 =>
              fg_g (h_k s a6 = 1) (
                fg_g (vp_in x4 (h_n s a6)) (
                  fg_o r1 (fun a9 =>
                    fg_g (h_k s a9 = 1) (
                      fg_g (vp_in (x4 - (1 : Int32)) (h_n s a9)) (
                        fg_if ((h_i s a6 (h_ix x4)) = ((h_i s a9 (h_ix (x4 - (1 : Int32)))) + (1 : Int32)))
                          (K10 r1 x2 x3 (x4 + (1 : Int32)) s)
                          (fn_X7_layRuns_44 K10 r1 x2 x3 x4 s))))))))))))
noncomputable def fn_X7_layRuns_10 : Nat → Option Nat → Int32 → Int32 → Int32 → h_S → fg_R (Unit) h_S
  | 0, _, _, _, _, _ => none
  | n + 1, r1, x2, x3, x4, s => fn_X7_layRuns_10b (fn_X7_layRuns_10 n) r1 x2 x3 x4 s
noncomputable def fn_X7_layRuns (r1 : Option Nat) (x2 : Int32) (s : h_S) : fg_R (Unit) h_S :=
  fg_let (h_si s 3 9 (0 : Int32)) (fun s2 =>
    fn_X7_layRuns_10 g_N r1 x2 (0 : Int32) (1 : Int32) s2)
noncomputable def fn_X7_partAt (x1 : Int32) (x2 : Int32) (s : h_S) : fg_R (Int32) h_S :=
  fg_g (vp_in x1 32) (
    fg_o (h_r s 27 (h_ix x1)) (fun a5 =>
      fg_g (h_k s a5 = 23) (
        fg_bc (fn_X2_head a5 x2 s) (fun p8 s7 =>
          fg_g (vp_in x1 32) (
            fg_g (∀ x , p8 = some x → (h_k s7 x) = 23) (
              fg_let (h_sr s7 27 (h_ix x1) p8) (fun s17 =>
                fg_o (h_r s 27 (h_ix x1)) (fun a18 =>
                  fg_g (h_k s17 a18 = 23) (
                    fg_bc (fn_X2_tail a18 x2 s17) (fun p21 s20 =>
                      fg_b (fn_X7_insert (x1 + (1 : Int32)) p21 s20) (fun u_ s27 =>
                        some ((x1 + (1 : Int32)), s27, 0, 0))))))))))))
noncomputable def fn_X7_openAhead_5b (K5 : Int32 → Int32 → Int32 → Int32 → h_S → fg_R (Int32) h_S) (x1 : Int32) (x2 : Int32) (x3 : Int32) (x4 : Int32) (s : h_S) : fg_R (Int32) h_S :=
  fg_if ((h_i s 3 9) ≤ x4)
    (some ((h_i s 3 9), s, 0, 0))
    (fg_g (vp_in x4 32) (
      fg_bc (fn_X7_sizeOf (h_r s 27 (h_ix x4)) x2 (0 : Int32) s) (fun p7 s6 =>
        fg_let (h_min (300 : Int32) (x3 + p7)) (fun v12 =>
          fg_if (v12 ≤ x1)
            (K5 x1 x2 v12 (x4 + (1 : Int32)) s6)
            (fg_if (x1 ≤ x3)
              (some (x4, s6, 0, 0))
              (fg_bc (fn_X7_partAt x4 (x1 - x3) s6) (fun p17 s16 =>
                some (p17, s16, 0, 0))))))))
noncomputable def fn_X7_openAhead_5 : Nat → Int32 → Int32 → Int32 → Int32 → h_S → fg_R (Int32) h_S
  | 0, _, _, _, _, _ => none
  | n + 1, x1, x2, x3, x4, s => fn_X7_openAhead_5b (fn_X7_openAhead_5 n) x1 x2 x3 x4 s
noncomputable def fn_X7_openAhead (x1 : Int32) (x2 : Int32) (s : h_S) : fg_R (Int32) h_S :=
  fn_X7_openAhead_5 g_N x1 x2 (0 : Int32) (0 : Int32) s
noncomputable def fn_X7_openBehind_5b (K5 : Int32 → Int32 → Int32 → Int32 → h_S → fg_R (Int32) h_S) (x1 : Int32) (x2 : Int32) (x3 : Int32) (x4 : Int32) (s : h_S) : fg_R (Int32) h_S :=
  fg_if ((h_i s 3 9) ≤ x4)
    (some ((h_i s 3 9), s, 0, 0))
    (fg_g (vp_in x4 32) (
      fg_bc (fn_X7_sizeOf (h_r s 27 (h_ix x4)) x2 (0 : Int32) s) (fun p7 s6 =>
        fg_let (h_min (300 : Int32) (x3 + p7)) (fun v12 =>
          fg_if (v12 < x1)
            (K5 x1 x2 v12 (x4 + (1 : Int32)) s6)
            (fg_if (v12 ≤ x1)
              (some ((x4 + (1 : Int32)), s6, 0, 0))
              (fg_bc (fn_X7_partAt x4 (x1 - x3) s6) (fun p17 s16 =>
                some (p17, s16, 0, 0))))))))
noncomputable def fn_X7_openBehind_5 : Nat → Int32 → Int32 → Int32 → Int32 → h_S → fg_R (Int32) h_S
  | 0, _, _, _, _, _ => none
  | n + 1, x1, x2, x3, x4, s => fn_X7_openBehind_5b (fn_X7_openBehind_5 n) x1 x2 x3 x4 s
noncomputable def fn_X7_openBehind (x1 : Int32) (x2 : Int32) (s : h_S) : fg_R (Int32) h_S :=
  fn_X7_openBehind_5 g_N x1 x2 (0 : Int32) (0 : Int32) s
noncomputable def fn_X7_keepLaid_33b (K33 : Int32 → Int32 → Nat → Int32 → h_S → fg_R (Int32) h_S) (x1 : Int32) (x2 : Int32) (o3 : Nat) (x4 : Int32) (s : h_S) : fg_R (Int32) h_S :=
  fg_if ((h_i s 3 9) ≤ x4)
    (fg_let (c_ad 4 s) (fun q3 => fg_c 1 3 (
      fg_let (h_nw s q3 25 3) (fun s7 =>
        fg_g (vp_in x1 12) (
          fg_b (fn_X4_init q3 x2 (some o3) (h_r s7 16 (h_ix x1)) s7) (fun u_ s14 =>
            fg_g (vp_in x1 12) (
              fg_g (h_k s14 q3 = 25) (
                fg_let (h_sr s14 16 (h_ix x1) (some q3)) (fun s20 =>
                  some (1, s20, 0, 0))))))))))
    (fg_g (vp_in x4 32) (
      fg_g (h_k s o3 = 3) (
        fg_g (vp_in x4 (h_n s o3)) (
          fg_g (∀ x , (h_r s 27 (h_ix x4)) = some x → (h_k s x) = 23) (
            fg_let (h_sr s o3 (h_ix x4) (h_r s 27 (h_ix x4))) (fun s27 =>
              K33 x1 x2 o3 (x4 + (1 : Int32)) s27))))))
noncomputable def fn_X7_keepLaid_33 : Nat → Int32 → Int32 → Nat → Int32 → h_S → fg_R (Int32) h_S
  | 0, _, _, _, _, _ => none
  | n + 1, x1, x2, o3, x4, s => fn_X7_keepLaid_33b (fn_X7_keepLaid_33 n) x1 x2 o3 x4 s
noncomputable def fn_X7_keepLaid (x1 : Int32) (x2 : Int32) (s : h_S) : fg_R (Int32) h_S :=
  fg_if ((24 : Int32) < (h_i s 3 9))
    (some (0, s, 0, 0))
    (fg_b (fn_X11_within x1 (h_i s 3 0) s) (fun p4 s3 =>
      fg_if (p4 = 0)
        (some (0, s3, 0, 0))
        (fg_g (¬ (h_i s3 3 9) < 0) (
          fg_g (h_ix (h_i s3 3 9) * 4 ≤ 536870912) (
            fg_let (c_ad 5 s3) (fun q7 => fg_c 1 (h_ix (h_i s3 3 9)) (
              fg_let (h_nw s3 q7 3 (h_ix (h_i s3 3 9))) (fun s13 =>
                fn_X7_keepLaid_33 g_N x1 x2 q7 (0 : Int32) s13))))))))
noncomputable def fn_X7_bring (x1 : Int32) (x2 : Int32) (r3 : Option Nat) (x4 : Int32) (s : h_S) : fg_R (Int32) h_S :=
  fg_b (fn_X7_layOut x1 s) (fun u_ s2 =>
    fg_bc (fn_X7_openAhead x2 x4 s2) (fun p6 s5 =>
      fg_b (fn_X7_insert p6 r3 s5) (fun u_ s12 =>
        fg_bc (fn_X7_keepLaid x1 (x4 + (1 : Int32)) s12) (fun p16 s15 =>
          fg_g (h_bt p16) (
            some (p16, s15, 0, 0))))))
noncomputable def fn_X7_lift_118 (s : h_S) : fg_R (Unit) h_S :=
  fg_let (h_si s 3 9 ((h_i s 3 9) - (h_i s 3 11))) (fun s2 =>
    some ((), s2, 0, 0))
noncomputable def fn_X7_lift_77b (K77 : Int32 → h_S → fg_R (Unit) h_S) (x7 : Int32) (s : h_S) : fg_R (Unit) h_S :=
  fg_if ((h_i s 3 9) ≤ x7)
    (fn_X7_lift_118 s)
    (fg_if ((h_i s 3 11) ≤ 0)
      (fn_X7_lift_118 s)
      (fg_g (vp_in x7 32) (
        fg_g (vp_in (x7 - (h_i s 3 11)) 32) (
          fg_g (∀ x , (h_r s 27 (h_ix x7)) = some x → (h_k s x) = 23) (
            fg_let (h_sr s 27 (h_ix (x7 - (h_i s 3 11))) (h_r s 27 (h_ix x7))) (fun s11 =>
              K77 (x7 + (1 : Int32)) s11))))))
noncomputable def fn_X7_lift_77 : Nat → Int32 → h_S → fg_R (Unit) h_S
  | 0, _, _ => none
  | n + 1, x7, s => fn_X7_lift_77b (fn_X7_lift_77 n) x7 s
noncomputable def fn_X7_lift_41b (K41 : Int32 → Int32 → Int32 → h_S → fg_R (Unit) h_S) (x5 : Int32) (x6 : Int32) (x7 : Int32) (s : h_S) : fg_R (Unit) h_S :=
  fg_if ((h_i s 3 11) ≤ x7)
    (fn_X7_lift_77 g_N x6 s)
    (fg_g (vp_in (x5 + x7) 32) (
      fg_g (vp_in x7 32) (
        fg_g (∀ x , (h_r s 27 (h_ix (x5 + x7))) = some x → (h_k s x) = 23) (
          fg_let (h_sr s 28 (h_ix x7) (h_r s 27 (h_ix (x5 + x7)))) (fun s10 =>
            K41 x5 x6 (x7 + (1 : Int32)) s10)))))
noncomputable def fn_X7_lift_41 : Nat → Int32 → Int32 → Int32 → h_S → fg_R (Unit) h_S
  | 0, _, _, _, _ => none
  | n + 1, x5, x6, x7, s => fn_X7_lift_41b (fn_X7_lift_41 n) x5 x6 x7 s
noncomputable def fn_X7_lift (x1 : Int32) (x2 : Int32) (x3 : Int32) (x4 : Int32) (s : h_S) : fg_R (Unit) h_S :=
  fg_b (fn_X7_layOut x1 s) (fun u_ s2 =>
    fg_bc (fn_X7_openAhead x2 x4 s2) (fun p6 s5 =>
      fg_bc (fn_X7_openBehind (x2 + x3) x4 s5) (fun p13 s12 =>
        fg_let (h_si s12 3 11 (h_max (0 : Int32) (p13 - p6))) (fun s19 =>
          fn_X7_lift_41 g_N p6 p13 (0 : Int32) s19))))
noncomputable def fn_X7_bringLifted_10b (K10 : Int32 → Int32 → h_S → fg_R (Unit) h_S) (x3 : Int32) (x4 : Int32) (s : h_S) : fg_R (Unit) h_S :=
  fg_if ((h_i s 3 11) ≤ x4)
    (some ((), s, 0, 0))
    (fg_g (vp_in x4 32) (
      fg_b (fn_X7_insert (x3 + x4) (h_r s 28 (h_ix x4)) s) (fun u_ s6 =>
        K10 x3 (x4 + (1 : Int32)) s6)))
noncomputable def fn_X7_bringLifted_10 : Nat → Int32 → Int32 → h_S → fg_R (Unit) h_S
  | 0, _, _, _ => none
  | n + 1, x3, x4, s => fn_X7_bringLifted_10b (fn_X7_bringLifted_10 n) x3 x4 s
noncomputable def fn_X7_bringLifted (x1 : Int32) (x2 : Int32) (s : h_S) : fg_R (Unit) h_S :=
  fg_bc (fn_X7_openAhead x1 x2 s) (fun p3 s2 =>
    fn_X7_bringLifted_10 g_N p3 (0 : Int32) s2)
noncomputable def fn_X7_returnTo (x1 : Int32) (x2 : Int32) (x3 : Int32) (s : h_S) : fg_R (Unit) h_S :=
  fg_b (fn_X11_within x1 (h_i s 3 0) s) (fun p3 s2 =>
    fg_if (p3 = 0)
      (some ((), s2, 0, 0))
      (fg_let (c_ad 4 s2) (fun q6 => fg_c 1 3 (
        fg_let (h_nw s2 q6 25 3) (fun s10 =>
          fg_b (fn_X7_piecesAsOf x1 x2 s10) (fun p15 s14 =>
            fg_g (vp_in x1 12) (
              fg_b (fn_X4_init q6 x3 p15 (h_r s14 16 (h_ix x1)) s14) (fun u_ s20 =>
                fg_g (vp_in x1 12) (
                  fg_g (h_k s20 q6 = 25) (
                    fg_let (h_sr s20 16 (h_ix x1) (some q6)) (fun s26 =>
                      some ((), s26, 0, 0))))))))))))
noncomputable def fn_X7_endAtHome (x1 : Int32) (x2 : Int32) (x3 : Int32) (s : h_S) : Option ((Int32) × h_S) :=
  fg_b (fn_X7_wordAt x3 s) (fun p3 s2 =>
    fg_if (p3 = none)
      (some (x1, s2))
      (fg_o p3 (fun a5 =>
        fg_g (h_k s2 a5 = 31) (
          fg_if ((h_i s2 a5 2) = x2)
            (some (x1, s2))
            (fg_if (x1 < (Int32.ofNat (h_n s2 29)))
              (fg_o p3 (fun a12 =>
                fg_g (h_k s2 a12 = 31) (
                  fg_g (vp_in x1 6) (
                    fg_let (h_si s2 29 (h_ix x1) (h_i s2 a12 2)) (fun s17 =>
                      some ((x1 + (1 : Int32)), s17))))))
              (some (x1, s2)))))))
noncomputable def fn_X7_follow_101 (K12 : Int32 → Int32 → Int32 → Int32 → h_S → fg_R (Int32) h_S) (x4 : Int32) (x5 : Int32) (x6 : Int32) (x7 : Int32) (r9 : Option Nat) (s : h_S) : fg_R (Int32) h_S :=
  fg_if (r9 = none)
    (some ((0 : Int32), s, 0, 0))
    (fg_o r9 (fun a2 =>
      fg_g (h_k s a2 = 23) (
        fg_b (fn_X2_hasWords a2 s) (fun p5 s4 =>
          fg_if (p5 = 0)
            (fg_o r9 (fun a7 =>
              fg_g (h_k s4 a7 = 23) (
                fg_o r9 (fun a9 =>
                  fg_g (h_k s4 a9 = 23) (
                    fg_b (fn_X2_momentWithin a9 x5 s4) (fun p12 s11 =>
                      fg_o r9 (fun a13 =>
                        fg_g (h_k s11 a13 = 23) (
                          K12 (h_i s4 a7 3) p12 (x6 + (h_i s11 a13 1)) (x7 + (1 : Int32)) s11))))))))
            (fg_o r9 (fun a15 =>
              fg_g (h_k s4 a15 = 23) (
                fg_b (fn_X7_endAtHome (x7 + (1 : Int32)) x4 ((h_i s4 a15 1) + x6) s4) (fun p19 s18 =>
                  some (p19, s18, 0, 0)))))))))
noncomputable def fn_X7_follow_43b (K12 : Int32 → Int32 → Int32 → Int32 → h_S → fg_R (Int32) h_S) (K43 : Int32 → Int32 → Int32 → Int32 → Option Nat → Option Nat → Int32 → h_S → fg_R (Int32) h_S) (x4 : Int32) (x5 : Int32) (x6 : Int32) (x7 : Int32) (r8 : Option Nat) (r9 : Option Nat) (x10 : Int32) (s : h_S) : fg_R (Int32) h_S :=
  fg_o r8 (fun a1 =>
    fg_g (h_k s a1 = 3) (
      fg_if ((Int32.ofNat (h_n s a1)) ≤ x10)
        (fn_X7_follow_101 K12 x4 x5 x6 x7 r9 s)
        (fg_if (r9 = none)
          (fg_o r8 (fun a5 =>
            fg_g (h_k s a5 = 3) (
              fg_g (vp_in x10 (h_n s a5)) (
                fg_bc (fn_X7_sizeOf (h_r s a5 (h_ix x10)) x5 x7 s) (fun p10 s9 =>
                  fg_if (p10 ≤ x6)
                    (K43 x4 x5 (x6 - p10) x7 r8 r9 (x10 + (1 : Int32)) s9)
                    (fg_o r8 (fun a16 =>
                      fg_g (h_k s9 a16 = 3) (
                        fg_g (vp_in x10 (h_n s9 a16)) (
                          K43 x4 x5 x6 x7 r8 (h_r s9 a16 (h_ix x10)) (x10 + (1 : Int32)) s9)))))))))
          (fn_X7_follow_101 K12 x4 x5 x6 x7 r9 s))))
noncomputable def fn_X7_follow_43 (K12 : Int32 → Int32 → Int32 → Int32 → h_S → fg_R (Int32) h_S) : Nat → Int32 → Int32 → Int32 → Int32 → Option Nat → Option Nat → Int32 → h_S → fg_R (Int32) h_S
  | 0, _, _, _, _, _, _, _, _ => none
  | n + 1, x4, x5, x6, x7, r8, r9, x10, s => fn_X7_follow_43b K12 (fn_X7_follow_43 K12 n) x4 x5 x6 x7 r8 r9 x10 s
noncomputable def fn_X7_follow_12b (K12 : Int32 → Int32 → Int32 → Int32 → h_S → fg_R (Int32) h_S) (x4 : Int32) (x5 : Int32) (x6 : Int32) (x7 : Int32) (s : h_S) : fg_R (Int32) h_S :=
  fg_if ((4 : Int32) < x7)
    (some ((0 : Int32), s, 0, 0))
    (fg_g (vp_in x7 6) (
      fg_let (h_si s 29 (h_ix x7) x4) (fun s6 =>
        fg_b (fn_X7_piecesAsOf x4 x5 s6) (fun p8 s7 =>
          fn_X7_follow_43 K12 g_N x4 x5 x6 x7 p8 (none : Option Nat) (0 : Int32) s7))))
noncomputable def fn_X7_follow_12 : Nat → Int32 → Int32 → Int32 → Int32 → h_S → fg_R (Int32) h_S
  | 0, _, _, _, _, _ => none
  | n + 1, x4, x5, x6, x7, s => fn_X7_follow_12b (fn_X7_follow_12 n) x4 x5 x6 x7 s
noncomputable def fn_X7_follow (x1 : Int32) (x2 : Int32) (x3 : Int32) (s : h_S) : fg_R (Int32) h_S :=
  fn_X7_follow_12 g_N x1 x2 x3 (0 : Int32) s
noncomputable def fn_X7_livesOf_4b (K4 : Int32 → Int32 → Int32 → h_S → Option ((Int32) × h_S)) (x1 : Int32) (x2 : Int32) (x3 : Int32) (s : h_S) : Option ((Int32) × h_S) :=
  fg_b (fn_X7_pieceCount x1 s) (fun p3 s2 =>
    fg_if (p3 ≤ x3)
      (some (x2, s2))
      (fg_g (vp_in x1 12) (
        fg_o (h_r s2 16 (h_ix x1)) (fun a9 =>
          fg_g (h_k s2 a9 = 25) (
            fg_o (h_r s2 a9 1) (fun a11 =>
              fg_g (h_k s2 a11 = 3) (
                fg_g (vp_in x3 (h_n s2 a11)) (
                  fg_o (h_r s2 a11 (h_ix x3)) (fun a14 =>
                    fg_g (h_k s2 a14 = 23) (
                      fg_if ((h_i s2 a14 0) = (3 : Int32))
                        (fg_o (h_r s2 a11 (h_ix x3)) (fun a17 =>
                          fg_g (h_k s2 a17 = 23) (
                            fg_let (x2 ||| ((1 : Int32) <<< ((h_i s2 a17 3) &&& 31))) (fun v19 =>
                              K4 x1 v19 (x3 + (1 : Int32)) s2))))
                        (K4 x1 x2 (x3 + (1 : Int32)) s2)))))))))))
noncomputable def fn_X7_livesOf_4 : Nat → Int32 → Int32 → Int32 → h_S → Option ((Int32) × h_S)
  | 0, _, _, _, _ => none
  | n + 1, x1, x2, x3, s => fn_X7_livesOf_4b (fn_X7_livesOf_4 n) x1 x2 x3 s
noncomputable def fn_X7_livesOf (x1 : Int32) (s : h_S) : Option ((Int32) × h_S) :=
  fn_X7_livesOf_4 g_N x1 (0 : Int32) (0 : Int32) s
noncomputable def fn_X7_quotedBy_4b (K4 : Int32 → Int32 → Int32 → h_S → Option ((Int32) × h_S)) (x1 : Int32) (x2 : Int32) (x3 : Int32) (s : h_S) : Option ((Int32) × h_S) :=
  fg_b (fn_X7_pieceCount x1 s) (fun p3 s2 =>
    fg_if (p3 ≤ x3)
      (some (x2, s2))
      (fg_g (vp_in x1 12) (
        fg_o (h_r s2 16 (h_ix x1)) (fun a9 =>
          fg_g (h_k s2 a9 = 25) (
            fg_o (h_r s2 a9 1) (fun a11 =>
              fg_g (h_k s2 a11 = 3) (
                fg_g (vp_in x3 (h_n s2 a11)) (
                  fg_o (h_r s2 a11 (h_ix x3)) (fun a14 =>
                    fg_g (h_k s2 a14 = 23) (
                      fg_if ((h_i s2 a14 0) = (1 : Int32))
                        (fg_o (h_r s2 a11 (h_ix x3)) (fun a25 =>
                          fg_g (h_k s2 a25 = 23) (
                            fg_o (h_r s2 a11 (h_ix x3)) (fun a27 =>
                              fg_g (h_k s2 a27 = 23) (
                                fg_b (fn_X7_homesOf (h_i s2 a25 1) (h_i s2 a27 2) s2) (fun p30 s29 =>
                                  K4 x1 (x2 ||| p30) (x3 + (1 : Int32)) s29))))))
                        (fg_o (h_r s2 a11 (h_ix x3)) (fun a17 =>
                          fg_g (h_k s2 a17 = 23) (
                            fg_b (fn_X2_hasWords a17 s2) (fun p20 s19 =>
                              fg_if (p20 = 0)
                                (fg_o (h_r s2 a11 (h_ix x3)) (fun a22 =>
                                  fg_g (h_k s19 a22 = 23) (
                                    fg_let (x2 ||| ((1 : Int32) <<< ((h_i s19 a22 3) &&& 31))) (fun v24 =>
                                      K4 x1 v24 (x3 + (1 : Int32)) s19))))
                                (K4 x1 x2 (x3 + (1 : Int32)) s19)))))))))))))))
noncomputable def fn_X7_quotedBy_4 : Nat → Int32 → Int32 → Int32 → h_S → Option ((Int32) × h_S)
  | 0, _, _, _, _ => none
  | n + 1, x1, x2, x3, s => fn_X7_quotedBy_4b (fn_X7_quotedBy_4 n) x1 x2 x3 s
noncomputable def fn_X7_quotedBy (x1 : Int32) (s : h_S) : Option ((Int32) × h_S) :=
  fn_X7_quotedBy_4 g_N x1 (0 : Int32) (0 : Int32) s
noncomputable def fn_X7_stepsBetween_38b (K12 : Int32 → Int32 → Int32 → Int32 → Int32 → h_S → Option ((Int32) × h_S)) (K38 : Int32 → Int32 → Int32 → Int32 → Int32 → Int32 → Int32 → h_S → Option ((Int32) × h_S)) (x2 : Int32) (x3 : Int32) (x4 : Int32) (x5 : Int32) (x6 : Int32) (x7 : Int32) (x8 : Int32) (s : h_S) : Option ((Int32) × h_S) :=
  fg_if ((h_i s 3 0) ≤ x8)
    (fg_let (x7 &&& (x4 ^^^ (-1 : Int32))) (fun v3 =>
      K12 x2 x3 (x4 ||| v3) v3 (x6 + (1 : Int32)) s))
    (fg_if (((x5 >>> (x8 &&& 31)) &&& (1 : Int32)) = (1 : Int32))
      (fg_if (x3 = 0)
        (fg_b (fn_X7_quotedBy x8 s) (fun p7 s6 =>
          K38 x2 x3 x4 x5 x6 (x7 ||| p7) (x8 + (1 : Int32)) s6))
        (fg_b (fn_X7_livesOf x8 s) (fun p9 s8 =>
          K38 x2 x3 x4 x5 x6 (x7 ||| p9) (x8 + (1 : Int32)) s8)))
      (K38 x2 x3 x4 x5 x6 x7 (x8 + (1 : Int32)) s))
noncomputable def fn_X7_stepsBetween_38 (K12 : Int32 → Int32 → Int32 → Int32 → Int32 → h_S → Option ((Int32) × h_S)) : Nat → Int32 → Int32 → Int32 → Int32 → Int32 → Int32 → Int32 → h_S → Option ((Int32) × h_S)
  | 0, _, _, _, _, _, _, _, _ => none
  | n + 1, x2, x3, x4, x5, x6, x7, x8, s => fn_X7_stepsBetween_38b K12 (fn_X7_stepsBetween_38 K12 n) x2 x3 x4 x5 x6 x7 x8 s
noncomputable def fn_X7_stepsBetween_12b (K12 : Int32 → Int32 → Int32 → Int32 → Int32 → h_S → Option ((Int32) × h_S)) (x2 : Int32) (x3 : Int32) (x4 : Int32) (x5 : Int32) (x6 : Int32) (s : h_S) : Option ((Int32) × h_S) :=
  fg_if ((12 : Int32) ≤ x6)
    (some ((-9 : Int32), s))
    (fg_if (((x5 >>> (x2 &&& 31)) &&& (1 : Int32)) = (1 : Int32))
      (some (x6, s))
      (fn_X7_stepsBetween_38 K12 g_N x2 x3 x4 x5 x6 (0 : Int32) (0 : Int32) s))
noncomputable def fn_X7_stepsBetween_12 : Nat → Int32 → Int32 → Int32 → Int32 → Int32 → h_S → Option ((Int32) × h_S)
  | 0, _, _, _, _, _, _ => none
  | n + 1, x2, x3, x4, x5, x6, s => fn_X7_stepsBetween_12b (fn_X7_stepsBetween_12 n) x2 x3 x4 x5 x6 s
noncomputable def fn_X7_stepsBetween (x1 : Int32) (x2 : Int32) (x3 : Int32) (s : h_S) : Option ((Int32) × h_S) :=
  fg_let ((1 : Int32) <<< (x1 &&& 31)) (fun v1 =>
    fn_X7_stepsBetween_12 g_N x2 x3 v1 v1 (0 : Int32) s)
set_option maxRecDepth 100000 in
noncomputable def fn_X8_init (o0 : Nat) (x1 : Int32) (x2 : Int32) (r3 : Option Nat) (s : h_S) : Option ((Unit) × h_S) :=
  fg_g (h_k s o0 = 29) (
    fg_let (h_si s o0 3 (2147483647 : Int32)) (fun s2 =>
      fg_let (h_si s2 o0 4 (2147483647 : Int32)) (fun s3 =>
        fg_let (h_si s3 o0 0 x1) (fun s4 =>
          fg_let (h_si s4 o0 1 x2) (fun s5 =>
            fg_let (h_sr s5 o0 2 r3) (fun s6 =>
              some ((), s6)))))))
noncomputable def fn_X8_kind (o0 : Nat) (s : h_S) : Option ((Int32) × h_S) :=
  fg_g (h_k s o0 = 29) (
    fg_if ((h_i s o0 3) = (2147483647 : Int32))
      (some ((0 : Int32), s))
      (fg_if ((h_i s o0 4) = (2147483647 : Int32))
        (some ((1 : Int32), s))
        (some ((2 : Int32), s))))
noncomputable def fn_X8_isGivenAt (o0 : Nat) (x1 : Int32) (s : h_S) : Option ((Int32) × h_S) :=
  fg_g (h_k s o0 = 29) (
    fg_if (x1 < (h_i s o0 3))
      (some ((0 : Int32), s))
      (fg_if ((h_i s o0 4) ≤ x1)
        (some ((0 : Int32), s))
        (some ((1 : Int32), s))))
noncomputable def fn_X8_placeAt (o0 : Nat) (x1 : Int32) (s : h_S) : Option ((Int32) × h_S) :=
  fg_g (h_k s o0 = 29) (
    fg_o (h_r s o0 2) (fun a2 =>
      fg_g (h_k s a2 = 1) (
        fg_b (fn_X11_within x1 (Int32.ofNat (h_n s a2)) s) (fun p5 s4 =>
          fg_if (p5 = 0)
            (some ((-7 : Int32), s4))
            (fg_o (h_r s4 o0 2) (fun a8 =>
              fg_g (h_k s4 a8 = 1) (
                fg_g (vp_in x1 (h_n s4 a8)) (
                  some ((h_i s4 a8 (h_ix x1)), s4)))))))))
noncomputable def fn_X8_gaps_13b (K13 : Int32 → Option Nat → Int32 → Int32 → h_S → Option ((Int32) × h_S)) (x1 : Int32) (r2 : Option Nat) (x3 : Int32) (x4 : Int32) (s : h_S) : Option ((Int32) × h_S) :=
  fg_if (x3 ≤ x4)
    (some (x1, s))
    (fg_o r2 (fun a2 =>
      fg_g (h_k s a2 = 1) (
        fg_g (vp_in x4 (h_n s a2)) (
          fg_if ((h_i s a2 (h_ix x4)) = (-7 : Int32))
            (K13 (x1 + (1 : Int32)) r2 x3 (x4 + (1 : Int32)) s)
            (K13 x1 r2 x3 (x4 + (1 : Int32)) s)))))
noncomputable def fn_X8_gaps_13 : Nat → Int32 → Option Nat → Int32 → Int32 → h_S → Option ((Int32) × h_S)
  | 0, _, _, _, _, _ => none
  | n + 1, x1, r2, x3, x4, s => fn_X8_gaps_13b (fn_X8_gaps_13 n) x1 r2 x3 x4 s
noncomputable def fn_X8_gaps (o0 : Nat) (s : h_S) : Option ((Int32) × h_S) :=
  fg_g (h_k s o0 = 29) (
    fg_o (h_r s o0 2) (fun a2 =>
      fg_g (h_k s a2 = 1) (
        fn_X8_gaps_13 g_N (0 : Int32) (h_r s o0 2) (Int32.ofNat (h_n s a2)) (0 : Int32) s)))
set_option maxRecDepth 100000 in
noncomputable def fn_X9_init (o0 : Nat) (s : h_S) : fg_R (Unit) h_S :=
  fg_let 30 (fun q1 => fg_g (h_k s q1 = 0) (fg_g (∀ i, i < 2 → h_k s ((fun i => 31 + i) i) = 0) (fg_c 3 604 (
    fg_let (h_mn s q1 (fun i => 31 + i) 301 2 2) (fun s8 =>
      fg_g (h_k s8 o0 = 30) (
        fg_let (h_sr s8 o0 0 (some q1)) (fun s12 =>
          fg_let 33 (fun q13 => fg_g (h_k s12 q13 = 0) (fg_c 1 3000 (
            fg_let (h_nw s12 q13 1 3000) (fun s17 =>
              fg_let (h_sr s17 o0 1 (some q13)) (fun s21 =>
                fg_let 34 (fun q22 => fg_g (h_k s21 q22 = 0) (fg_c 1 500 (
                  fg_let (h_nw s21 q22 1 500) (fun s26 =>
                    fg_let (h_sr s26 o0 2 (some q22)) (fun s30 =>
                      fg_let 35 (fun q31 => fg_g (h_k s30 q31 = 0) (fg_c 1 300 (
                        fg_let (h_nw s30 q31 1 300) (fun s35 =>
                          fg_let (h_sr s35 o0 3 (some q31)) (fun s39 =>
                            fg_let 36 (fun q40 => fg_g (h_k s39 q40 = 0) (fg_g (∀ i, i < 2 → h_k s39 ((fun i => 37 + i) i) = 0) (fg_c 3 602 (
                              fg_let (h_mn s39 q40 (fun i => 37 + i) 300 2 2) (fun s47 =>
                                fg_let (h_sr s47 o0 5 (some q40)) (fun s51 =>
                                  fg_let 39 (fun q52 => fg_g (h_k s51 q52 = 0) (fg_c 1 2 (
                                    fg_let (h_nw s51 q52 1 2) (fun s56 =>
                                      fg_let (h_sr s56 o0 6 (some q52)) (fun s60 =>
                                        fg_let 40 (fun q61 => fg_g (h_k s60 q61 = 0) (fg_g (∀ i, i < 2 → h_k s60 ((fun i => 41 + i) i) = 0) (fg_c 3 604 (
                                          fg_let (h_mn s60 q61 (fun i => 41 + i) 301 2 2) (fun s68 =>
                                            fg_let (h_sr s68 o0 7 (some q61)) (fun s72 =>
                                              fg_let 43 (fun q73 => fg_g (h_k s72 q73 = 0) (fg_g (∀ i, i < 2 → h_k s72 ((fun i => 44 + i) i) = 0) (fg_c 3 604 (
                                                fg_let (h_mn s72 q73 (fun i => 44 + i) 301 2 2) (fun s80 =>
                                                  fg_let (h_sr s80 o0 8 (some q73)) (fun s84 =>
                                                    fg_let 46 (fun q85 => fg_g (h_k s84 q85 = 0) (fg_c 1 300 (
                                                      fg_let (h_nw s84 q85 2 300) (fun s89 =>
                                                        fg_let (h_sr s89 o0 9 (some q85)) (fun s93 =>
                                                          fg_let 47 (fun q94 => fg_g (h_k s93 q94 = 0) (fg_c 1 600 (
                                                            fg_let (h_nw s93 q94 1 600) (fun s98 =>
                                                              fg_let (h_sr s98 o0 10 (some q94)) (fun s102 =>
                                                                fg_let 48 (fun q103 => fg_g (h_k s102 q103 = 0) (fg_c 1 12 (
                                                                  fg_let (h_nw s102 q103 1 12) (fun s107 =>
                                                                    fg_let (h_sr s107 o0 12 (some q103)) (fun s111 =>
                                                                      fg_let 49 (fun q112 => fg_g (h_k s111 q112 = 0) (fg_c 1 12 (
                                                                        fg_let (h_nw s111 q112 1 12) (fun s116 =>
                                                                          fg_let (h_sr s116 o0 13 (some q112)) (fun s120 =>
                                                                            fg_let 50 (fun q121 => fg_g (h_k s120 q121 = 0) (fg_c 1 12 (
                                                                              fg_let (h_nw s120 q121 1 12) (fun s125 =>
                                                                                fg_let (h_sr s125 o0 14 (some q121)) (fun s129 =>
                                                                                  some ((), s129, 0, 0)))))))))))))))))))))))))))))))))))))))))))))))))))))))))))))))))))))))
noncomputable def fn_X9_alike (x0 : Int32) (x1 : Int32) (s : h_S) : Option ((Int32) × h_S) :=
  fg_if (x0 = x1)
    (fg_if (x0 = (-7 : Int32))
      (some ((0 : Int32), s))
      (some ((1 : Int32), s)))
    (some ((0 : Int32), s))
noncomputable def fn_X9_sharedOf_153 (K17 : Option Nat → Option Nat → Int32 → Int32 → h_S → Option ((Int32) × h_S)) (K61 : Option Nat → Option Nat → Int32 → Int32 → Option Nat → Option Nat → Int32 → Int32 → h_S → Option ((Int32) × h_S)) (r1 : Option Nat) (r3 : Option Nat) (x4 : Int32) (x5 : Int32) (r6 : Option Nat) (r7 : Option Nat) (x9 : Int32) (y0 : Int32) (y1 : Int32) (s : h_S) : Option ((Int32) × h_S) :=
  fg_if ((x9 &&& (31 : Int32)) = 0)
    (fg_g (vp_in ((x5 * (10 : Int32)) + (x9 >>> ((5 : Int32) &&& 31))) 3000) (
      fg_let (h_si s 33 (h_ix ((x5 * (10 : Int32)) + (x9 >>> ((5 : Int32) &&& 31)))) (y1 ||| y0)) (fun s6 =>
        K61 r1 r3 x4 x5 r6 r7 (0 : Int32) (x9 + (-1 : Int32)) s6)))
    (K61 r1 r3 x4 x5 r6 r7 (y1 ||| y0) (x9 + (-1 : Int32)) s)
noncomputable def fn_X9_sharedOf_138 (K17 : Option Nat → Option Nat → Int32 → Int32 → h_S → Option ((Int32) × h_S)) (K61 : Option Nat → Option Nat → Int32 → Int32 → Option Nat → Option Nat → Int32 → Int32 → h_S → Option ((Int32) × h_S)) (r1 : Option Nat) (r3 : Option Nat) (x4 : Int32) (x5 : Int32) (r6 : Option Nat) (r7 : Option Nat) (x8 : Int32) (x9 : Int32) (x10 : Int32) (y0 : Int32) (y1 : Int32) (t2 : Option Nat) (s : h_S) : Option ((Int32) × h_S) :=
  fg_o t2 (fun a1 =>
    fg_g (h_k s a1 = 1) (
      fg_g (vp_in y1 (h_n s a1)) (
        fg_let (h_si s a1 (h_ix y1) y0) (fun s4 =>
          fg_if (x10 = 0)
            (fn_X9_sharedOf_153 K17 K61 r1 r3 x4 x5 r6 r7 x9 (0 : Int32) (x8 <<< ((1 : Int32) &&& 31)) s4)
            (fn_X9_sharedOf_153 K17 K61 r1 r3 x4 x5 r6 r7 x9 (1 : Int32) (x8 <<< ((1 : Int32) &&& 31)) s4)))))
noncomputable def fn_X9_sharedOf_86 (K17 : Option Nat → Option Nat → Int32 → Int32 → h_S → Option ((Int32) × h_S)) (K61 : Option Nat → Option Nat → Int32 → Int32 → Option Nat → Option Nat → Int32 → Int32 → h_S → Option ((Int32) × h_S)) (r1 : Option Nat) (r3 : Option Nat) (x4 : Int32) (x5 : Int32) (r6 : Option Nat) (r7 : Option Nat) (x8 : Int32) (x9 : Int32) (y0 : Int32) (s : h_S) : Option ((Int32) × h_S) :=
  fg_o r1 (fun a1 =>
    fg_g (h_k s a1 = 1) (
      fg_g (vp_in x5 (h_n s a1)) (
        fg_o r3 (fun a4 =>
          fg_g (h_k s a4 = 1) (
            fg_g (vp_in x9 (h_n s a4)) (
              fg_b (fn_X9_alike (h_i s a1 (h_ix x5)) (h_i s a4 (h_ix x9)) s) (fun p8 s7 =>
                fg_if (p8 = 0)
                  (fg_if (y0 = 0)
                    (fg_o r7 (fun a11 =>
                      fg_g (h_k s7 a11 = 1) (
                        fg_g (vp_in (x9 + (1 : Int32)) (h_n s7 a11)) (
                          fn_X9_sharedOf_138 K17 K61 r1 r3 x4 x5 r6 r7 x8 x9 y0 (h_i s7 a11 (h_ix (x9 + (1 : Int32)))) x9 r7 s7))))
                    (fg_o r6 (fun a14 =>
                      fg_g (h_k s7 a14 = 1) (
                        fg_g (vp_in x9 (h_n s7 a14)) (
                          fn_X9_sharedOf_138 K17 K61 r1 r3 x4 x5 r6 r7 x8 x9 y0 (h_i s7 a14 (h_ix x9)) x9 r7 s7)))))
                  (fg_o r6 (fun a17 =>
                    fg_g (h_k s7 a17 = 1) (
                      fg_g (vp_in (x9 + (1 : Int32)) (h_n s7 a17)) (
                        fn_X9_sharedOf_138 K17 K61 r1 r3 x4 x5 r6 r7 x8 x9 y0 ((h_i s7 a17 (h_ix (x9 + (1 : Int32)))) + (1 : Int32)) x9 r7 s7)))))))))))
noncomputable def fn_X9_sharedOf_61b (K17 : Option Nat → Option Nat → Int32 → Int32 → h_S → Option ((Int32) × h_S)) (K61 : Option Nat → Option Nat → Int32 → Int32 → Option Nat → Option Nat → Int32 → Int32 → h_S → Option ((Int32) × h_S)) (r1 : Option Nat) (r3 : Option Nat) (x4 : Int32) (x5 : Int32) (r6 : Option Nat) (r7 : Option Nat) (x8 : Int32) (x9 : Int32) (s : h_S) : Option ((Int32) × h_S) :=
  fg_if (x9 < 0)
    (K17 r1 r3 x4 (x5 + (-1 : Int32)) s)
    (fg_o r6 (fun a2 =>
      fg_g (h_k s a2 = 1) (
        fg_g (vp_in x9 (h_n s a2)) (
          fg_o r7 (fun a5 =>
            fg_g (h_k s a5 = 1) (
              fg_g (vp_in (x9 + (1 : Int32)) (h_n s a5)) (
                fg_if ((h_i s a2 (h_ix x9)) < (h_i s a5 (h_ix (x9 + (1 : Int32)))))
                  (fn_X9_sharedOf_86 K17 K61 r1 r3 x4 x5 r6 r7 x8 x9 (0 : Int32) s)
                  (fn_X9_sharedOf_86 K17 K61 r1 r3 x4 x5 r6 r7 x8 x9 (1 : Int32) s))))))))
noncomputable def fn_X9_sharedOf_61 (K17 : Option Nat → Option Nat → Int32 → Int32 → h_S → Option ((Int32) × h_S)) : Nat → Option Nat → Option Nat → Int32 → Int32 → Option Nat → Option Nat → Int32 → Int32 → h_S → Option ((Int32) × h_S)
  | 0, _, _, _, _, _, _, _, _, _ => none
  | n + 1, r1, r3, x4, x5, r6, r7, x8, x9, s => fn_X9_sharedOf_61b K17 (fn_X9_sharedOf_61 K17 n) r1 r3 x4 x5 r6 r7 x8 x9 s
noncomputable def fn_X9_sharedOf_17b (K17 : Option Nat → Option Nat → Int32 → Int32 → h_S → Option ((Int32) × h_S)) (r1 : Option Nat) (r3 : Option Nat) (x4 : Int32) (x5 : Int32) (s : h_S) : Option ((Int32) × h_S) :=
  fg_if (x5 < 0)
    (fg_g (vp_in (0 : Int32) 2) (
      fg_o (h_r s 30 (h_ix (0 : Int32))) (fun a6 =>
        fg_g (h_k s a6 = 1) (
          fg_g (vp_in (0 : Int32) (h_n s a6)) (
            some ((h_i s a6 (h_ix (0 : Int32))), s))))))
    (fg_g (vp_in ((x5 + (1 : Int32)) &&& (1 : Int32)) 2) (
      fg_let (h_r s 30 (h_ix ((x5 + (1 : Int32)) &&& (1 : Int32)))) (fun v13 =>
        fg_g (vp_in (x5 &&& (1 : Int32)) 2) (
          fg_let (h_r s 30 (h_ix (x5 &&& (1 : Int32)))) (fun v17 =>
            fg_o v17 (fun a18 =>
              fg_g (h_k s a18 = 1) (
                fg_g (vp_in x4 (h_n s a18)) (
                  fg_let (h_si s a18 (h_ix x4) (0 : Int32)) (fun s21 =>
                    fn_X9_sharedOf_61 K17 g_N r1 r3 x4 x5 v13 v17 (0 : Int32) (x4 - (1 : Int32)) s21)))))))))
noncomputable def fn_X9_sharedOf_17 : Nat → Option Nat → Option Nat → Int32 → Int32 → h_S → Option ((Int32) × h_S)
  | 0, _, _, _, _, _ => none
  | n + 1, r1, r3, x4, x5, s => fn_X9_sharedOf_17b (fn_X9_sharedOf_17 n) r1 r3 x4 x5 s
noncomputable def fn_X9_sharedOf (r1 : Option Nat) (x2 : Int32) (r3 : Option Nat) (x4 : Int32) (s : h_S) : Option ((Int32) × h_S) :=
  fg_g (vp_in (x2 &&& (1 : Int32)) 2) (
    fg_b (fn_J7_fill_53178 (h_r s 30 (h_ix (x2 &&& (1 : Int32)))) (0 : Int32) s) (fun u_ s5 =>
      fn_X9_sharedOf_17 g_N r1 r3 x4 (x2 - (1 : Int32)) s5))
noncomputable def fn_X9_sharedBy (r1 : Option Nat) (r2 : Option Nat) (s : h_S) : Option ((Int32) × h_S) :=
  fg_o r1 (fun a1 =>
    fg_g (h_k s a1 = 1) (
      fg_o r2 (fun a3 =>
        fg_g (h_k s a3 = 1) (
          fg_b (fn_X9_sharedOf r1 (h_min (Int32.ofNat (h_n s a1)) (300 : Int32)) r2 (h_min (Int32.ofNat (h_n s a3)) (300 : Int32)) s) (fun p7 s6 =>
            some (p7, s6))))))
noncomputable def fn_X9_isCut (x1 : Int32) (x2 : Int32) (s : h_S) : Option ((Int32) × h_S) :=
  fg_g (vp_in ((x1 * (10 : Int32)) + (x2 >>> ((5 : Int32) &&& 31))) 3000) (
    fg_if ((((h_i s 33 (h_ix ((x1 * (10 : Int32)) + (x2 >>> ((5 : Int32) &&& 31))))) >>> ((x2 &&& (31 : Int32)) &&& 31)) &&& (1 : Int32)) = (1 : Int32))
      (some ((1 : Int32), s))
      (some ((0 : Int32), s)))
noncomputable def fn_X9_commonTo_71b (K71 : Int32 → Option Nat → Int32 → Int32 → h_S → Option ((Int32) × h_S)) (x3 : Int32) (r4 : Option Nat) (x5 : Int32) (x6 : Int32) (s : h_S) : Option ((Int32) × h_S) :=
  fg_if (x5 ≤ x6)
    (some (x3, s))
    (fg_o r4 (fun a2 =>
      fg_g (h_k s a2 = 1) (
        fg_g (vp_in x6 (h_n s a2)) (
          fg_b (fn_X11_within (h_i s a2 (h_ix x6)) (500 : Int32) s) (fun p6 s5 =>
            fg_if (p6 = 0)
              (K71 x3 r4 x5 (x6 + (1 : Int32)) s5)
              (fg_g (vp_in (h_i s a2 (h_ix x6)) 500) (
                fg_if ((h_i s5 34 (h_ix (h_i s a2 (h_ix x6)))) ≤ 0)
                  (K71 x3 r4 x5 (x6 + (1 : Int32)) s5)
                  (fg_g (vp_in (h_i s a2 (h_ix x6)) 500) (
                    fg_g (vp_in (h_i s a2 (h_ix x6)) 500) (
                      fg_let (h_si s5 34 (h_ix (h_i s a2 (h_ix x6))) ((h_i s5 34 (h_ix (h_i s a2 (h_ix x6)))) - (1 : Int32))) (fun s19 =>
                        K71 (x3 + (1 : Int32)) r4 x5 (x6 + (1 : Int32)) s19)))))))))))
noncomputable def fn_X9_commonTo_71 : Nat → Int32 → Option Nat → Int32 → Int32 → h_S → Option ((Int32) × h_S)
  | 0, _, _, _, _, _ => none
  | n + 1, x3, r4, x5, x6, s => fn_X9_commonTo_71b (fn_X9_commonTo_71 n) x3 r4 x5 x6 s
noncomputable def fn_X9_commonTo_17b (K17 : Option Nat → Option Nat → Int32 → Int32 → h_S → Option ((Int32) × h_S)) (r2 : Option Nat) (r3 : Option Nat) (x4 : Int32) (x5 : Int32) (s : h_S) : Option ((Int32) × h_S) :=
  fg_if (x4 ≤ x5)
    (fg_o r2 (fun a2 =>
      fg_g (h_k s a2 = 1) (
        fn_X9_commonTo_71 g_N (0 : Int32) r2 (Int32.ofNat (h_n s a2)) (0 : Int32) s)))
    (fg_o r3 (fun a4 =>
      fg_g (h_k s a4 = 1) (
        fg_g (vp_in x5 (h_n s a4)) (
          fg_b (fn_X11_within (h_i s a4 (h_ix x5)) (500 : Int32) s) (fun p8 s7 =>
            fg_if (p8 = 0)
              (K17 r2 r3 x4 (x5 + (1 : Int32)) s7)
              (fg_g (vp_in (h_i s a4 (h_ix x5)) 500) (
                fg_g (vp_in (h_i s a4 (h_ix x5)) 500) (
                  fg_let (h_si s7 34 (h_ix (h_i s a4 (h_ix x5))) ((h_i s7 34 (h_ix (h_i s a4 (h_ix x5)))) + (1 : Int32))) (fun s17 =>
                    K17 r2 r3 x4 (x5 + (1 : Int32)) s17)))))))))
noncomputable def fn_X9_commonTo_17 : Nat → Option Nat → Option Nat → Int32 → Int32 → h_S → Option ((Int32) × h_S)
  | 0, _, _, _, _, _ => none
  | n + 1, r2, r3, x4, x5, s => fn_X9_commonTo_17b (fn_X9_commonTo_17 n) r2 r3 x4 x5 s
noncomputable def fn_X9_commonTo (r1 : Option Nat) (r2 : Option Nat) (s : h_S) : Option ((Int32) × h_S) :=
  fg_b (fn_J7_fill_53178 (h_r s 10 2) (0 : Int32) s) (fun u_ s2 =>
    fg_o r1 (fun a4 =>
      fg_g (h_k s2 a4 = 1) (
        fn_X9_commonTo_17 g_N r2 r1 (Int32.ofNat (h_n s2 a4)) (0 : Int32) s2)))
noncomputable def fn_X9_withoutGaps_11b (K11 : Option Nat → Int32 → Option Nat → Int32 → Int32 → h_S → Option ((Int32) × h_S)) (r1 : Option Nat) (x2 : Int32) (r3 : Option Nat) (x4 : Int32) (x5 : Int32) (s : h_S) : Option ((Int32) × h_S) :=
  fg_if (x4 ≤ x5)
    (some (x2, s))
    (fg_o r3 (fun a2 =>
      fg_g (h_k s a2 = 1) (
        fg_g (vp_in x5 (h_n s a2)) (
          fg_if ((h_i s a2 (h_ix x5)) = (-7 : Int32))
            (K11 r1 x2 r3 x4 (x5 + (1 : Int32)) s)
            (fg_o r1 (fun a6 =>
              fg_g (h_k s a6 = 1) (
                fg_if ((Int32.ofNat (h_n s a6)) ≤ x2)
                  (K11 r1 x2 r3 x4 (x5 + (1 : Int32)) s)
                  (fg_o r1 (fun a9 =>
                    fg_g (h_k s a9 = 1) (
                      fg_g (vp_in x2 (h_n s a9)) (
                        fg_let (h_si s a9 (h_ix x2) (h_i s a2 (h_ix x5))) (fun s12 =>
                          K11 r1 (x2 + (1 : Int32)) r3 x4 (x5 + (1 : Int32)) s12))))))))))))
noncomputable def fn_X9_withoutGaps_11 : Nat → Option Nat → Int32 → Option Nat → Int32 → Int32 → h_S → Option ((Int32) × h_S)
  | 0, _, _, _, _, _, _ => none
  | n + 1, r1, x2, r3, x4, x5, s => fn_X9_withoutGaps_11b (fn_X9_withoutGaps_11 n) r1 x2 r3 x4 x5 s
noncomputable def fn_X9_withoutGaps (r0 : Option Nat) (r1 : Option Nat) (s : h_S) : Option ((Int32) × h_S) :=
  fg_o r0 (fun a1 =>
    fg_g (h_k s a1 = 1) (
      fn_X9_withoutGaps_11 g_N r1 (0 : Int32) r0 (Int32.ofNat (h_n s a1)) (0 : Int32) s))
noncomputable def fn_X9_findWay_129 (K35 : Int32 → Option Nat → Int32 → Int32 → Int32 → h_S → Option ((Unit) × h_S)) (x1 : Int32) (r2 : Option Nat) (x3 : Int32) (x4 : Int32) (x5 : Int32) (s : h_S) : Option ((Unit) × h_S) :=
  fg_g (vp_in x5 300) (
    fg_let (h_si s 46 (h_ix x5) (1 : Int32)) (fun s5 =>
      K35 x1 r2 x3 x4 (x5 + (1 : Int32)) s5))
noncomputable def fn_X9_findWay_92 (K35 : Int32 → Option Nat → Int32 → Int32 → Int32 → h_S → Option ((Unit) × h_S)) (x1 : Int32) (r2 : Option Nat) (x3 : Int32) (x4 : Int32) (x5 : Int32) (s : h_S) : Option ((Unit) × h_S) :=
  fg_g (vp_in x1 2) (
    fg_o (h_r s 43 (h_ix x1)) (fun a5 =>
      fg_g (h_k s a5 = 1) (
        fg_g (vp_in x5 (h_n s a5)) (
          fg_let (h_si s a5 (h_ix x5) x4) (fun s8 =>
            fg_if (x3 ≤ x4)
              (fn_X9_findWay_129 K35 x1 r2 x3 x4 x5 s8)
              (fg_o r2 (fun a10 =>
                fg_g (h_k s8 a10 = 1) (
                  fg_g (vp_in x4 (h_n s8 a10)) (
                    fg_g (vp_in x5 300) (
                      fg_if ((h_i s8 a10 (h_ix x4)) = (h_i s8 35 (h_ix x5)))
                        (K35 x1 r2 x3 (x4 + (1 : Int32)) (x5 + (1 : Int32)) s8)
                        (fn_X9_findWay_129 K35 x1 r2 x3 x4 x5 s8)))))))))))
noncomputable def fn_X9_findWay_55b (K35 : Int32 → Option Nat → Int32 → Int32 → Int32 → h_S → Option ((Unit) × h_S)) (K55 : Int32 → Option Nat → Int32 → Int32 → Int32 → h_S → Option ((Unit) × h_S)) (x1 : Int32) (r2 : Option Nat) (x3 : Int32) (x4 : Int32) (x5 : Int32) (s : h_S) : Option ((Unit) × h_S) :=
  fg_if (x3 ≤ x4)
    (fn_X9_findWay_92 K35 x1 r2 x3 x4 x5 s)
    (fg_o r2 (fun a2 =>
      fg_g (h_k s a2 = 1) (
        fg_g (vp_in x4 (h_n s a2)) (
          fg_g (vp_in x5 300) (
            fg_if ((h_i s a2 (h_ix x4)) = (h_i s 35 (h_ix x5)))
              (fn_X9_findWay_92 K35 x1 r2 x3 x4 x5 s)
              (fg_b (fn_X9_isCut x5 x4 s) (fun p11 s10 =>
                fg_if (p11 = 0)
                  (K55 x1 r2 x3 (x4 + (1 : Int32)) x5 s10)
                  (fn_X9_findWay_92 K35 x1 r2 x3 x4 x5 s10))))))))
noncomputable def fn_X9_findWay_55 (K35 : Int32 → Option Nat → Int32 → Int32 → Int32 → h_S → Option ((Unit) × h_S)) : Nat → Int32 → Option Nat → Int32 → Int32 → Int32 → h_S → Option ((Unit) × h_S)
  | 0, _, _, _, _, _, _ => none
  | n + 1, x1, r2, x3, x4, x5, s => fn_X9_findWay_55b K35 (fn_X9_findWay_55 K35 n) x1 r2 x3 x4 x5 s
noncomputable def fn_X9_findWay_35b (K35 : Int32 → Option Nat → Int32 → Int32 → Int32 → h_S → Option ((Unit) × h_S)) (x1 : Int32) (r2 : Option Nat) (x3 : Int32) (x4 : Int32) (x5 : Int32) (s : h_S) : Option ((Unit) × h_S) :=
  fg_if ((h_i s 10 4) ≤ x5)
    (fg_g (vp_in x1 2) (
      fg_o (h_r s 40 (h_ix x1)) (fun a6 =>
        fg_g (h_k s a6 = 1) (
          fg_g (vp_in (h_i s 10 4) (h_n s a6)) (
            fg_let (h_si s a6 (h_ix (h_i s 10 4)) x4) (fun s9 =>
              fg_g (vp_in x1 2) (
                fg_o (h_r s9 43 (h_ix x1)) (fun a13 =>
                  fg_g (h_k s9 a13 = 1) (
                    fg_g (vp_in (h_i s9 10 4) (h_n s9 a13)) (
                      fg_let (h_si s9 a13 (h_ix (h_i s9 10 4)) x3) (fun s16 =>
                        some ((), s16))))))))))))
    (fg_g (vp_in x1 2) (
      fg_o (h_r s 40 (h_ix x1)) (fun a20 =>
        fg_g (h_k s a20 = 1) (
          fg_g (vp_in x5 (h_n s a20)) (
            fg_let (h_si s a20 (h_ix x5) x4) (fun s23 =>
              fn_X9_findWay_55 K35 g_N x1 r2 x3 x4 x5 s23))))))
noncomputable def fn_X9_findWay_35 : Nat → Int32 → Option Nat → Int32 → Int32 → Int32 → h_S → Option ((Unit) × h_S)
  | 0, _, _, _, _, _, _ => none
  | n + 1, x1, r2, x3, x4, x5, s => fn_X9_findWay_35b (fn_X9_findWay_35 n) x1 r2 x3 x4 x5 s
noncomputable def fn_X9_findWay (x1 : Int32) (s : h_S) : Option ((Unit) × h_S) :=
  fg_g (vp_in x1 2) (
    fg_g (vp_in x1 2) (
      fg_b (fn_X9_sharedOf (h_r s 10 3) (h_i s 10 4) (h_r s 36 (h_ix x1)) (h_i s 39 (h_ix x1)) s) (fun p9 s8 =>
        fn_X9_findWay_35 g_N x1 (h_r s 36 (h_ix x1)) (h_i s 39 (h_ix x1)) (0 : Int32) (0 : Int32) s8)))
noncomputable def fn_J6_compare_7cf53 (x0 : Int32) (x1 : Int32) (s : h_S) : Option ((Int32) × h_S) :=
  fg_if (x1 ≤ x0)
    (fg_if (x0 = x1)
      (some ((0 : Int32), s))
      (some ((1 : Int32), s)))
    (some ((-1 : Int32), s))
noncomputable def fn_X9_orderOfPuts_112 (x2 : Int32) (x3 : Int32) (s : h_S) : Option ((Int32) × h_S) :=
  fg_b (fn_J6_compare_7cf53 x2 x3 s) (fun p2 s1 =>
    some (p2, s1))
noncomputable def fn_X9_orderOfPuts_39b (K39 : Int32 → Int32 → Int32 → Int32 → h_S → Option ((Int32) × h_S)) (x1 : Int32) (x2 : Int32) (x3 : Int32) (x4 : Int32) (s : h_S) : Option ((Int32) × h_S) :=
  fg_if (x2 ≤ x4)
    (fn_X9_orderOfPuts_112 x2 x3 s)
    (fg_if (x3 ≤ x4)
      (fn_X9_orderOfPuts_112 x2 x3 s)
      (fg_g (vp_in (0 : Int32) 2) (
        fg_g (vp_in (0 : Int32) 2) (
          fg_o (h_r s 40 (h_ix (0 : Int32))) (fun a10 =>
            fg_g (h_k s a10 = 1) (
              fg_g (vp_in x1 (h_n s a10)) (
                fg_o (h_r s 36 (h_ix (0 : Int32))) (fun a13 =>
                  fg_g (h_k s a13 = 1) (
                    fg_g (vp_in ((h_i s a10 (h_ix x1)) + x4) (h_n s a13)) (
                      fg_let (h_i s a13 (h_ix ((h_i s a10 (h_ix x1)) + x4))) (fun v16 =>
                        fg_g (vp_in (1 : Int32) 2) (
                          fg_g (vp_in (1 : Int32) 2) (
                            fg_o (h_r s 40 (h_ix (1 : Int32))) (fun a23 =>
                              fg_g (h_k s a23 = 1) (
                                fg_g (vp_in x1 (h_n s a23)) (
                                  fg_o (h_r s 36 (h_ix (1 : Int32))) (fun a26 =>
                                    fg_g (h_k s a26 = 1) (
                                      fg_g (vp_in ((h_i s a23 (h_ix x1)) + x4) (h_n s a26)) (
                                        fg_let (h_i s a26 (h_ix ((h_i s a23 (h_ix x1)) + x4))) (fun v29 =>
                                          fg_if (v16 = v29)
                                            (K39 x1 x2 x3 (x4 + (1 : Int32)) s)
                                            (fg_b (fn_J6_compare_7cf53 v16 v29 s) (fun p32 s31 =>
                                              some (p32, s31)))))))))))))))))))))))
noncomputable def fn_X9_orderOfPuts_39 : Nat → Int32 → Int32 → Int32 → Int32 → h_S → Option ((Int32) × h_S)
  | 0, _, _, _, _, _ => none
  | n + 1, x1, x2, x3, x4, s => fn_X9_orderOfPuts_39b (fn_X9_orderOfPuts_39 n) x1 x2 x3 x4 s
noncomputable def fn_X9_orderOfPuts (x1 : Int32) (s : h_S) : Option ((Int32) × h_S) :=
  fg_g (vp_in (0 : Int32) 2) (
    fg_o (h_r s 43 (h_ix (0 : Int32))) (fun a5 =>
      fg_g (h_k s a5 = 1) (
        fg_g (vp_in x1 (h_n s a5)) (
          fg_g (vp_in (0 : Int32) 2) (
            fg_o (h_r s 40 (h_ix (0 : Int32))) (fun a11 =>
              fg_g (h_k s a11 = 1) (
                fg_g (vp_in x1 (h_n s a11)) (
                  fg_let ((h_i s a5 (h_ix x1)) - (h_i s a11 (h_ix x1))) (fun v14 =>
                    fg_g (vp_in (1 : Int32) 2) (
                      fg_o (h_r s 43 (h_ix (1 : Int32))) (fun a18 =>
                        fg_g (h_k s a18 = 1) (
                          fg_g (vp_in x1 (h_n s a18)) (
                            fg_g (vp_in (1 : Int32) 2) (
                              fg_o (h_r s 40 (h_ix (1 : Int32))) (fun a24 =>
                                fg_g (h_k s a24 = 1) (
                                  fg_g (vp_in x1 (h_n s a24)) (
                                    fg_let ((h_i s a18 (h_ix x1)) - (h_i s a24 (h_ix x1))) (fun v27 =>
                                      fn_X9_orderOfPuts_39 g_N x1 v14 v27 (0 : Int32) s))))))))))))))))))
noncomputable def fn_X9_append_3b (K3 : Option Nat → Int32 → Int32 → h_S → Option ((Unit) × h_S)) (r1 : Option Nat) (x3 : Int32) (x4 : Int32) (s : h_S) : Option ((Unit) × h_S) :=
  fg_if (x3 ≤ x4)
    (some ((), s))
    (fg_if ((Int32.ofNat (h_n s 47)) ≤ (h_i s 10 11))
      (some ((), s))
      (fg_o r1 (fun a6 =>
        fg_g (h_k s a6 = 1) (
          fg_g (vp_in x4 (h_n s a6)) (
            fg_g (vp_in (h_i s 10 11) 600) (
              fg_let (h_si s 47 (h_ix (h_i s 10 11)) (h_i s a6 (h_ix x4))) (fun s12 =>
                fg_let (h_si s12 10 11 ((h_i s12 10 11) + (1 : Int32))) (fun s13 =>
                  K3 r1 x3 (x4 + (1 : Int32)) s13))))))))
noncomputable def fn_X9_append_3 : Nat → Option Nat → Int32 → Int32 → h_S → Option ((Unit) × h_S)
  | 0, _, _, _, _ => none
  | n + 1, r1, x3, x4, s => fn_X9_append_3b (fn_X9_append_3 n) r1 x3 x4 s
noncomputable def fn_X9_append (r1 : Option Nat) (x2 : Int32) (x3 : Int32) (s : h_S) : Option ((Unit) × h_S) :=
  fn_X9_append_3 g_N r1 x3 x2 s
noncomputable def fn_X9_noteClash_42 (s : h_S) : Option ((Unit) × h_S) :=
  fg_let (h_si s 10 15 ((h_i s 10 15) + (1 : Int32))) (fun s2 =>
    some ((), s2))
noncomputable def fn_X9_noteClash (x1 : Int32) (x2 : Int32) (s : h_S) : Option ((Unit) × h_S) :=
  fg_if ((12 : Int32) ≤ (h_i s 10 15))
    (fn_X9_noteClash_42 s)
    (fg_g (vp_in (h_i s 10 15) 12) (
      fg_let (h_si s 48 (h_ix (h_i s 10 15)) x1) (fun s6 =>
        fg_g (vp_in (h_i s6 10 15) 12) (
          fg_let (h_si s6 49 (h_ix (h_i s6 10 15)) x2) (fun s10 =>
            fg_g (vp_in (h_i s10 10 15) 12) (
              fg_let (h_si s10 50 (h_ix (h_i s10 10 15)) (h_i s10 10 11)) (fun s14 =>
                fn_X9_noteClash_42 s14)))))))
noncomputable def fn_X9_joinPuts_52 (x1 : Int32) (s : h_S) : Option ((Unit) × h_S) :=
  fg_g (vp_in (0 : Int32) 2) (
    fg_g (vp_in (0 : Int32) 2) (
      fg_o (h_r s 40 (h_ix (0 : Int32))) (fun a8 =>
        fg_g (h_k s a8 = 1) (
          fg_g (vp_in x1 (h_n s a8)) (
            fg_g (vp_in (0 : Int32) 2) (
              fg_o (h_r s 43 (h_ix (0 : Int32))) (fun a14 =>
                fg_g (h_k s a14 = 1) (
                  fg_g (vp_in x1 (h_n s a14)) (
                    fg_b (fn_X9_append (h_r s 36 (h_ix (0 : Int32))) (h_i s a8 (h_ix x1)) (h_i s a14 (h_ix x1)) s) (fun u_ s17 =>
                      some ((), s17)))))))))))
noncomputable def fn_X9_joinPuts_124 (x1 : Int32) (y0 : Int32) (s : h_S) : Option ((Unit) × h_S) :=
  fg_g (vp_in y0 2) (
    fg_g (vp_in y0 2) (
      fg_o (h_r s 40 (h_ix y0)) (fun a8 =>
        fg_g (h_k s a8 = 1) (
          fg_g (vp_in x1 (h_n s a8)) (
            fg_g (vp_in y0 2) (
              fg_o (h_r s 43 (h_ix y0)) (fun a14 =>
                fg_g (h_k s a14 = 1) (
                  fg_g (vp_in x1 (h_n s a14)) (
                    fg_b (fn_X9_append (h_r s 36 (h_ix y0)) (h_i s a8 (h_ix x1)) (h_i s a14 (h_ix x1)) s) (fun u_ s17 =>
                      fg_g (vp_in ((1 : Int32) - y0) 2) (
                        fg_g (vp_in ((1 : Int32) - y0) 2) (
                          fg_o (h_r s17 40 (h_ix ((1 : Int32) - y0))) (fun a26 =>
                            fg_g (h_k s17 a26 = 1) (
                              fg_g (vp_in x1 (h_n s17 a26)) (
                                fg_g (vp_in ((1 : Int32) - y0) 2) (
                                  fg_o (h_r s17 43 (h_ix ((1 : Int32) - y0))) (fun a32 =>
                                    fg_g (h_k s17 a32 = 1) (
                                      fg_g (vp_in x1 (h_n s17 a32)) (
                                        fg_b (fn_X9_append (h_r s17 36 (h_ix ((1 : Int32) - y0))) (h_i s17 a26 (h_ix x1)) (h_i s17 a32 (h_ix x1)) s17) (fun u_ s35 =>
                                          fg_b (fn_X9_noteClash (h_i s 10 11) (h_i s17 10 11) s35) (fun u_ s38 =>
                                            some ((), s38))))))))))))))))))))))
noncomputable def fn_X9_joinPuts (x1 : Int32) (s : h_S) : Option ((Unit) × h_S) :=
  fg_g (vp_in (0 : Int32) 2) (
    fg_o (h_r s 43 (h_ix (0 : Int32))) (fun a5 =>
      fg_g (h_k s a5 = 1) (
        fg_g (vp_in x1 (h_n s a5)) (
          fg_g (vp_in (0 : Int32) 2) (
            fg_o (h_r s 40 (h_ix (0 : Int32))) (fun a11 =>
              fg_g (h_k s a11 = 1) (
                fg_g (vp_in x1 (h_n s a11)) (
                  fg_let ((h_i s a5 (h_ix x1)) - (h_i s a11 (h_ix x1))) (fun v14 =>
                    fg_g (vp_in (1 : Int32) 2) (
                      fg_o (h_r s 43 (h_ix (1 : Int32))) (fun a18 =>
                        fg_g (h_k s a18 = 1) (
                          fg_g (vp_in x1 (h_n s a18)) (
                            fg_g (vp_in (1 : Int32) 2) (
                              fg_o (h_r s 40 (h_ix (1 : Int32))) (fun a24 =>
                                fg_g (h_k s a24 = 1) (
                                  fg_g (vp_in x1 (h_n s a24)) (
                                    fg_let ((h_i s a18 (h_ix x1)) - (h_i s a24 (h_ix x1))) (fun v27 =>
                                      fg_b (fn_X9_orderOfPuts x1 s) (fun p29 s28 =>
                                        fg_if (v27 = 0)
                                          (fn_X9_joinPuts_52 x1 s28)
                                          (fg_if (p29 = 0)
                                            (fn_X9_joinPuts_52 x1 s28)
                                            (fg_if (v14 = 0)
                                              (fg_g (vp_in (1 : Int32) 2) (
                                                fg_g (vp_in (1 : Int32) 2) (
                                                  fg_o (h_r s28 40 (h_ix (1 : Int32))) (fun a41 =>
                                                    fg_g (h_k s28 a41 = 1) (
                                                      fg_g (vp_in x1 (h_n s28 a41)) (
                                                        fg_g (vp_in (1 : Int32) 2) (
                                                          fg_o (h_r s28 43 (h_ix (1 : Int32))) (fun a47 =>
                                                            fg_g (h_k s28 a47 = 1) (
                                                              fg_g (vp_in x1 (h_n s28 a47)) (
                                                                fg_b (fn_X9_append (h_r s28 36 (h_ix (1 : Int32))) (h_i s28 a41 (h_ix x1)) (h_i s28 a47 (h_ix x1)) s28) (fun u_ s50 =>
                                                                  some ((), s50))))))))))))
                                              (fg_if (0 ≤ p29)
                                                (fn_X9_joinPuts_124 x1 (1 : Int32) s28)
                                                (fn_X9_joinPuts_124 x1 (0 : Int32) s28)))))))))))))))))))))))
noncomputable def fn_X9_weaveBy_92b (K92 : Int32 → h_S → Option ((Unit) × h_S)) (x4 : Int32) (s : h_S) : Option ((Unit) × h_S) :=
  fg_if ((h_i s 10 4) < x4)
    (some ((), s))
    (fg_b (fn_X9_joinPuts x4 s) (fun u_ s3 =>
      fg_if ((h_i s3 10 4) ≤ x4)
        (K92 (x4 + (1 : Int32)) s3)
        (fg_g (vp_in x4 300) (
          fg_if ((h_i s3 46 (h_ix x4)) = 0)
            (fg_b (fn_X9_append (h_r s3 10 3) x4 (x4 + (1 : Int32)) s3) (fun u_ s11 =>
              K92 (x4 + (1 : Int32)) s11))
            (K92 (x4 + (1 : Int32)) s3)))))
noncomputable def fn_X9_weaveBy_92 : Nat → Int32 → h_S → Option ((Unit) × h_S)
  | 0, _, _ => none
  | n + 1, x4, s => fn_X9_weaveBy_92b (fn_X9_weaveBy_92 n) x4 s
noncomputable def fn_X9_weaveBy_47b (K47 : Int32 → h_S → Option ((Unit) × h_S)) (x4 : Int32) (s : h_S) : Option ((Unit) × h_S) :=
  fg_if ((300 : Int32) ≤ x4)
    (fg_b (fn_X9_findWay (0 : Int32) s) (fun u_ s3 =>
      fg_b (fn_X9_findWay (1 : Int32) s3) (fun u_ s6 =>
        fg_let (h_si s6 10 11 (0 : Int32)) (fun s9 =>
          fg_let (h_si s9 10 15 (0 : Int32)) (fun s10 =>
            fn_X9_weaveBy_92 g_N (0 : Int32) s10)))))
    (fg_g (vp_in x4 300) (
      fg_let (h_si s 46 (h_ix x4) (0 : Int32)) (fun s15 =>
        K47 (x4 + (1 : Int32)) s15)))
noncomputable def fn_X9_weaveBy_47 : Nat → Int32 → h_S → Option ((Unit) × h_S)
  | 0, _, _ => none
  | n + 1, x4, s => fn_X9_weaveBy_47b (fn_X9_weaveBy_47 n) x4 s
noncomputable def fn_X9_weaveBy (r1 : Option Nat) (r2 : Option Nat) (r3 : Option Nat) (s : h_S) : Option ((Unit) × h_S) :=
  fg_b (fn_X9_withoutGaps r3 (h_r s 10 3) s) (fun p3 s2 =>
    fg_let (h_si s2 10 4 p3) (fun s5 =>
      fg_g (vp_in (0 : Int32) 2) (
        fg_b (fn_X9_withoutGaps r1 (h_r s5 36 (h_ix (0 : Int32))) s5) (fun p10 s9 =>
          fg_g (vp_in (0 : Int32) 2) (
            fg_let (h_si s9 39 (h_ix (0 : Int32)) p10) (fun s14 =>
              fg_g (vp_in (1 : Int32) 2) (
                fg_b (fn_X9_withoutGaps r2 (h_r s14 36 (h_ix (1 : Int32))) s14) (fun p20 s19 =>
                  fg_g (vp_in (1 : Int32) 2) (
                    fg_let (h_si s19 39 (h_ix (1 : Int32)) p20) (fun s24 =>
                      fn_X9_weaveBy_47 g_N (0 : Int32) s24))))))))))
noncomputable def fn_J7_checkLength_df160 (x0 : Int32) (x1 : Int32) (s : h_S) : fg_R (Unit) h_S :=
  fg_if (x0 ≤ x1)
    (some ((), s, 0, 0))
    (none)
noncomputable def fn_J7_copyOfRangeInt_feecc (r0 : Option Nat) (x1 : Int32) (x2 : Int32) (s : h_S) : fg_R (Option Nat) h_S :=
  fg_bc (fn_J7_checkLength_df160 x1 x2 s) (fun u_ s1 =>
    fg_g (¬ (x2 - x1) < 0) (
      fg_g (h_ix (x2 - x1) * 4 ≤ 536870912) (
        fg_let (c_ad 11 s1) (fun q7 => fg_c 1 (h_ix (x2 - x1)) (
          fg_let (h_nw s1 q7 1 (h_ix (x2 - x1))) (fun s13 =>
            fg_o r0 (fun a16 =>
              fg_g (h_k s13 a16 = 1) (
                fg_g (h_k s13 q7 = 1) (
                  fg_o r0 (fun a19 =>
                    fg_g (h_k s13 a19 = 1) (
                      fg_g (¬ x1 < 0) (
                        fg_g (¬ (0 : Int32) < 0) (
                          fg_g (¬ (h_min ((Int32.ofNat (h_n s13 a16)) - x1) (x2 - x1)) < 0) (
                            fg_g (h_ix x1 + h_ix (h_min ((Int32.ofNat (h_n s13 a16)) - x1) (x2 - x1)) ≤ (h_n s13 a19)) (
                              fg_g (h_ix (0 : Int32) + h_ix (h_min ((Int32.ofNat (h_n s13 a16)) - x1) (x2 - x1)) ≤ (h_n s13 q7)) (
                                fg_let (h_cp s13 a19 (h_ix x1) q7 (h_ix (0 : Int32)) (h_ix (h_min ((Int32.ofNat (h_n s13 a16)) - x1) (x2 - x1)))) (fun s26 =>
                                  some ((some q7), s26, 0, 0))))))))))))))))))
noncomputable def fn_J7_copyOfRange_feecc_10 (r0 : Option Nat) (x1 : Int32) (x2 : Int32) (s : h_S) : fg_R (Option Nat) h_S :=
  fg_bc (fn_J7_copyOfRangeInt_feecc r0 x1 x2 s) (fun p2 s1 =>
    some (p2, s1, 0, 0))
noncomputable def fn_J7_copyOfRange_feecc (r0 : Option Nat) (x1 : Int32) (x2 : Int32) (s : h_S) : fg_R (Option Nat) h_S :=
  fg_if (x1 = 0)
    (fg_o r0 (fun a2 =>
      fg_g (h_k s a2 = 1) (
        fg_if (x2 = (Int32.ofNat (h_n s a2)))
          (fg_o r0 (fun a5 =>
            fg_g (h_k s a5 = 1) (
              fg_let (c_ad 11 s) (fun q7 => fg_c 1 (h_n s a5) (
                fg_let (h_cl s q7 a5) (fun s11 =>
                  fg_g (h_k s11 q7 = 1) (
                    some ((some q7), s11, 0, 0))))))))
          (fn_J7_copyOfRange_feecc_10 r0 x1 x2 s))))
    (fn_J7_copyOfRange_feecc_10 r0 x1 x2 s)
noncomputable def fn_X9_clashAt (x1 : Int32) (x2 : Int32) (s : h_S) : fg_R (Option Nat) h_S :=
  fg_b (fn_X11_within x1 (12 : Int32) s) (fun p2 s1 =>
    fg_if (p2 = 0)
      (fg_let (c_ad 10 s1) (fun q33 => fg_c 1 4 (
        fg_let (h_nw s1 q33 21 4) (fun s37 =>
          fg_let (c_ad 11 s37) (fun q40 => fg_c 1 0 (
            fg_let (h_nw s37 q40 1 0) (fun s44 =>
              fg_b (fn_X0_init q33 x2 (some q40) (0 : Int32) s44) (fun u_ s47 =>
                some ((some q33), s47, 0, 0)))))))))
      (fg_g (vp_in x1 12) (
        fg_g (vp_in x1 12) (
          fg_bc (fn_J7_copyOfRange_feecc (h_r s1 10 10) (h_i s1 48 (h_ix x1)) (h_i s1 50 (h_ix x1)) s1) (fun p12 s11 =>
            fg_let (c_ad 10 s11) (fun q17 => fg_c 1 4 (
              fg_let (h_nw s11 q17 21 4) (fun s21 =>
                fg_g (vp_in x1 12) (
                  fg_g (vp_in x1 12) (
                    fg_b (fn_X0_init q17 x2 p12 ((h_i s21 49 (h_ix x1)) - (h_i s21 48 (h_ix x1))) s21) (fun u_ s31 =>
                      some ((some q17), s31, 0, 0))))))))))))
noncomputable def fn_X9_runs_15b (K15 : Int32 → Int32 → h_S → Option ((Int32) × h_S)) (x1 : Int32) (x2 : Int32) (s : h_S) : Option ((Int32) × h_S) :=
  fg_if ((h_i s 10 11) ≤ x2)
    (some (x1, s))
    (fg_g (vp_in x2 600) (
      fg_g (vp_in (x2 - (1 : Int32)) 600) (
        fg_if ((h_i s 47 (h_ix x2)) = ((h_i s 47 (h_ix (x2 - (1 : Int32)))) + (1 : Int32)))
          (K15 x1 (x2 + (1 : Int32)) s)
          (K15 (x1 + (1 : Int32)) (x2 + (1 : Int32)) s))))
noncomputable def fn_X9_runs_15 : Nat → Int32 → Int32 → h_S → Option ((Int32) × h_S)
  | 0, _, _, _ => none
  | n + 1, x1, x2, s => fn_X9_runs_15b (fn_X9_runs_15 n) x1 x2 s
noncomputable def fn_X9_runs_12 (y0 : Int32) (s : h_S) : Option ((Int32) × h_S) :=
  fn_X9_runs_15 g_N y0 (1 : Int32) s
noncomputable def fn_X9_runs (s : h_S) : Option ((Int32) × h_S) :=
  fg_if ((h_i s 10 11) ≤ 0)
    (fn_X9_runs_12 (0 : Int32) s)
    (fn_X9_runs_12 (1 : Int32) s)
set_option maxRecDepth 100000 in
noncomputable def fn_X11_init_140b (K140 : Nat → Int32 → h_S → fg_R (Unit) h_S) (o0 : Nat) (x1 : Int32) (s : h_S) : fg_R (Unit) h_S :=
  fg_if ((4 : Int32) ≤ x1)
    (some ((), s, 0, 0))
    (fg_g (h_k s o0 = 32) (
      fg_let (52 + h_ix x1) (fun q3 => fg_g (h_k s q3 = 0) (fg_c 1 3 (
        fg_let (h_nw s q3 26 3) (fun s7 =>
          fg_bc (fn_X5_init q3 s7) (fun u_ s10 =>
            fg_o (h_r s o0 9) (fun a16 =>
              fg_g (h_k s10 a16 = 5) (
                fg_g (vp_in x1 (h_n s10 a16)) (
                  fg_g (h_k s10 q3 = 26) (
                    fg_let (h_sr s10 a16 (h_ix x1) (some q3)) (fun s20 =>
                      K140 o0 (x1 + (1 : Int32)) s20))))))))))))
set_option maxRecDepth 100000 in
noncomputable def fn_X11_init_140 : Nat → Nat → Int32 → h_S → fg_R (Unit) h_S
  | 0, _, _, _ => none
  | n + 1, o0, x1, s => fn_X11_init_140b (fn_X11_init_140 n) o0 x1 s
set_option maxRecDepth 100000 in
noncomputable def fn_X11_init (o0 : Nat) (s : h_S) : fg_R (Unit) h_S :=
  fg_let 1 (fun q1 => fg_g (h_k s q1 = 0) (fg_c 1 600 (
    fg_let (h_nw s q1 1 600) (fun s5 =>
      fg_g (h_k s5 o0 = 32) (
        fg_let (h_sr s5 o0 2 (some q1)) (fun s9 =>
          fg_let 2 (fun q10 => fg_g (h_k s9 q10 = 0) (fg_c 1 600 (
            fg_let (h_nw s9 q10 1 600) (fun s14 =>
              fg_let (h_sr s14 o0 3 (some q10)) (fun s18 =>
                fg_let 3 (fun q19 => fg_g (h_k s18 q19 = 0) (fg_c 1 13 (
                  fg_let (h_nw s18 q19 28 13) (fun s23 =>
                    fg_bc (fn_X7_init q19 s23) (fun u_ s26 =>
                      fg_let (h_sr s26 o0 4 (some q19)) (fun s33 =>
                        fg_let 4 (fun q34 => fg_g (h_k s33 q34 = 0) (fg_c 1 3 (
                          fg_let (h_nw s33 q34 20 3) (fun s38 =>
                            fg_b (fn_Jx4a65c_init_da8c8 q34 s38) (fun u_ s41 =>
                              fg_let (h_sr s41 o0 5 (some q34)) (fun s44 =>
                                fg_let 5 (fun q45 => fg_g (h_k s44 q45 = 0) (fg_c 1 3 (
                                  fg_let (h_nw s44 q45 20 3) (fun s49 =>
                                    fg_b (fn_Jx4a65c_init_da8c8 q45 s49) (fun u_ s52 =>
                                      fg_let (h_sr s52 o0 6 (some q45)) (fun s55 =>
                                        fg_let 6 (fun q56 => fg_g (h_k s55 q56 = 0) (fg_c 1 3 (
                                          fg_let (h_nw s55 q56 20 3) (fun s60 =>
                                            fg_b (fn_Jx4a65c_init_da8c8 q56 s60) (fun u_ s63 =>
                                              fg_let (h_sr s63 o0 7 (some q56)) (fun s66 =>
                                                fg_let 8 (fun q67 => fg_g (h_k s66 q67 = 0) (fg_c 1 3 (
                                                  fg_let (h_nw s66 q67 20 3) (fun s71 =>
                                                    fg_b (fn_Jx4a65c_init_da8c8 q67 s71) (fun u_ s74 =>
                                                      fg_let (h_sr s74 o0 8 (some q67)) (fun s77 =>
                                                        fg_let 9 (fun q78 => fg_g (h_k s77 q78 = 0) (fg_c 1 4 (
                                                          fg_let (h_nw s77 q78 5 4) (fun s82 =>
                                                            fg_let (h_sr s82 o0 9 (some q78)) (fun s86 =>
                                                              fg_let 10 (fun q87 => fg_g (h_k s86 q87 = 0) (fg_c 1 16 (
                                                                fg_let (h_nw s86 q87 30 16) (fun s91 =>
                                                                  fg_bc (fn_X9_init q87 s91) (fun u_ s94 =>
                                                                    fg_let (h_sr s94 o0 10 (some q87)) (fun s101 =>
                                                                      fg_let 11 (fun q102 => fg_g (h_k s101 q102 = 0) (fg_c 1 64 (
                                                                        fg_let (h_nw s101 q102 1 64) (fun s106 =>
                                                                          fg_let (h_sr s106 o0 11 (some q102)) (fun s110 =>
                                                                            fg_let (h_si s110 o0 12 (1003 : Int32)) (fun s111 =>
                                                                              fg_let 12 (fun q112 => fg_g (h_k s111 q112 = 0) (fg_c 1 4800 (
                                                                                fg_let (h_nw s111 q112 1 4800) (fun s116 =>
                                                                                  fg_let (h_sr s116 o0 13 (some q112)) (fun s120 =>
                                                                                    fg_let 13 (fun q121 => fg_g (h_k s120 q121 = 0) (fg_c 1 200 (
                                                                                      fg_let (h_nw s120 q121 1 200) (fun s125 =>
                                                                                        fg_let (h_sr s125 o0 14 (some q121)) (fun s129 =>
                                                                                          fg_let 14 (fun q130 => fg_g (h_k s129 q130 = 0) (fg_c 1 1024 (
                                                                                            fg_let (h_nw s129 q130 1 1024) (fun s134 =>
                                                                                              fg_let (h_sr s134 o0 16 (some q130)) (fun s138 =>
                                                                                                fn_X11_init_140 g_N o0 (0 : Int32) s138)))))))))))))))))))))))))))))))))))))))))))))))))))))))))))))))))))))))))
noncomputable def fn_X11_mix (x0 : Int32) (x1 : Int32) (s : h_S) : Option ((Int32) × h_S) :=
  fg_let ((x0 * (-1640531535 : Int32)) + x1) (fun v1 =>
    fg_let ((v1 ^^^ (h_ushr v1 (15 : Int32))) * (-2048144789 : Int32)) (fun v2 =>
      some ((v2 ^^^ (h_ushr v2 (13 : Int32))), s)))
noncomputable def fn_X11_acted (x1 : Int32) (s : h_S) : Option ((Int32) × h_S) :=
  fg_if ((600 : Int32) ≤ ((h_i s 0 0) + (1 : Int32)))
    (some (x1, s))
    (fg_g (vp_in (h_i s 0 0) 600) (
      fg_b (fn_X11_mix (h_i s 1 (h_ix (h_i s 0 0))) x1 s) (fun p7 s6 =>
        fg_g (vp_in ((h_i s 0 0) + (1 : Int32)) 600) (
          fg_let (h_si s6 1 (h_ix ((h_i s 0 0) + (1 : Int32))) p7) (fun s11 =>
            fg_g (vp_in (h_i s11 0 0) 600) (
              fg_g (vp_in ((h_i s11 0 0) + (1 : Int32)) 600) (
                fg_let (h_si s11 2 (h_ix ((h_i s11 0 0) + (1 : Int32))) (h_i s11 2 (h_ix (h_i s11 0 0)))) (fun s19 =>
                  fg_let (h_si s19 0 0 ((h_i s19 0 0) + (1 : Int32))) (fun s20 =>
                    some (x1, s20))))))))))
noncomputable def fn_X11_hand (s : h_S) : Option ((Int32) × h_S) :=
  fg_if ((h_i s 0 1) < (8 : Int32))
    (fg_let (h_si s 0 1 ((h_i s 0 1) + (1 : Int32))) (fun s3 =>
      fg_b (fn_X11_acted ((h_i s3 0 1) - (1 : Int32)) s3) (fun p5 s4 =>
        some (p5, s4))))
    (some ((-4 : Int32), s))
noncomputable def fn_X11_groupAsOf (x1 : Int32) (x2 : Int32) (s : h_S) : Option ((Int32) × h_S) :=
  fg_b (fn_X11_within x2 (600 : Int32) s) (fun p2 s1 =>
    fg_if (p2 = 0)
      (some ((0 : Int32), s1))
      (fg_g (vp_in x2 600) (
        some (((h_ushr (h_i s1 2 (h_ix x2)) ((8 : Int32) * x1)) &&& (255 : Int32)), s1))))
noncomputable def fn_X11_group (x1 : Int32) (x2 : Int32) (s : h_S) : Option ((Int32) × h_S) :=
  fg_b (fn_X11_within x1 (4 : Int32) s) (fun p2 s1 =>
    fg_if (p2 = 0)
      (some ((-1 : Int32), s1))
      (fg_if ((h_ushr x2 (h_i s1 0 1)) = 0)
        (fg_b (fn_X11_groupAsOf x1 (h_i s1 0 0) s1) (fun p7 s6 =>
          fg_g (vp_in (h_i s6 0 0) 600) (
            fg_let ((h_i s6 2 (h_ix (h_i s6 0 0))) &&& (((255 : Int32) <<< (((8 : Int32) * x1) &&& 31)) ^^^ (-1 : Int32))) (fun v12 =>
              fg_b (fn_X11_acted p7 s6) (fun p14 s13 =>
                fg_g (vp_in (h_i s13 0 0) 600) (
                  fg_let (h_si s13 2 (h_ix (h_i s13 0 0)) (v12 ||| (x2 <<< (((8 : Int32) * x1) &&& 31)))) (fun s19 =>
                    some (p7, s19))))))))
        (some ((-2 : Int32), s1))))
noncomputable def fn_X11_isHand (x1 : Int32) (s : h_S) : Option ((Int32) × h_S) :=
  fg_b (fn_X11_within x1 (h_i s 0 1) s) (fun p3 s2 =>
    fg_g (h_bt p3) (
      some (p3, s2)))
noncomputable def fn_X11_writing (x1 : Int32) (s : h_S) : fg_R (Int32) h_S :=
  fg_b (fn_X11_isHand x1 s) (fun p3 s2 =>
    fg_if (p3 = 0)
      (some ((-1 : Int32), s2, 0, 0))
      (fg_b (fn_X7_isFull s2) (fun p9 s8 =>
        fg_if (p9 = 0)
          (fg_bc (fn_X7_begin x1 ((h_i s8 0 0) + (1 : Int32)) s8) (fun p15 s14 =>
            fg_b (fn_X11_acted p15 s14) (fun p22 s21 =>
              some (p22, s21, 0, 0))))
          (some ((-4 : Int32), s8, 0, 0)))))
noncomputable def fn_X11_isWriting (x1 : Int32) (s : h_S) : Option ((Int32) × h_S) :=
  fg_b (fn_X11_within x1 (h_i s 3 0) s) (fun p5 s4 =>
    fg_g (h_bt p5) (
      some (p5, s4)))
noncomputable def fn_X11_takesAhead (x1 : Int32) (x2 : Int32) (s : h_S) : fg_R (Int32) h_S :=
  fg_b (fn_X11_isWriting x1 s) (fun p3 s2 =>
    fg_if (p3 = 0)
      (some ((0 : Int32), s2, 0, 0))
      (fg_if (x2 < 0)
        (some ((0 : Int32), s2, 0, 0))
        (fg_bc (fn_X7_sizeAsOf x1 (h_i s2 0 0) s2) (fun p10 s9 =>
          fg_if (p10 < x2)
            (some ((0 : Int32), s9, 0, 0))
            (some ((1 : Int32), s9, 0, 0))))))
noncomputable def fn_X11_failed (x1 : Int32) (s : h_S) : Option ((Int32) × h_S) :=
  fg_let (h_si s 0 18 x1) (fun s2 =>
    some (((-10 : Int32) - x1), s2))
noncomputable def fn_X11_refusedCells (x1 : Int32) (x2 : Int32) (x3 : Int32) (x4 : Int32) (s : h_S) : Option ((Int32) × h_S) :=
  fg_b (fn_X11_within x2 (3 : Int32) s) (fun p2 s1 =>
    fg_if (p2 = 0)
      (some ((-2 : Int32), s1))
      (fg_g (vp_in x1 4) (
        fg_o (h_r s1 9 (h_ix x1)) (fun a8 =>
          fg_g (h_k s1 a8 = 26) (
            fg_b (fn_X5_faultOf a8 x2 x3 x4 s1) (fun p11 s10 =>
              fg_if (p11 = 0)
                (some ((0 : Int32), s10))
                (fg_b (fn_X11_failed p11 s10) (fun p15 s14 =>
                  some (p15, s14)))))))))
noncomputable def fn_X11_put_127b (K127 : Int32 → Int32 → Int32 → Int32 → Int32 → Int32 → h_S → fg_R (Int32) h_S) (x1 : Int32) (x3 : Int32) (x5 : Int32) (x6 : Int32) (x8 : Int32) (x9 : Int32) (s : h_S) : fg_R (Int32) h_S :=
  fg_if (x6 ≤ x9)
    (fg_b (fn_X11_acted x8 s) (fun p4 s3 =>
      some (p4, s3, 0, 0)))
    (fg_g (vp_in x3 4) (
      fg_o (h_r s 9 (h_ix x3)) (fun a9 =>
        fg_g (h_k s a9 = 26) (
          fg_b (fn_X5_cellAt a9 (x5 + x9) s) (fun p12 s11 =>
            fg_bc (fn_X7_addWord p12 x1 ((h_i s11 0 0) + (1 : Int32)) s11) (fun u_ s16 =>
              K127 x1 x3 x5 x6 x8 (x9 + (1 : Int32)) s16))))))
noncomputable def fn_X11_put_127 : Nat → Int32 → Int32 → Int32 → Int32 → Int32 → Int32 → h_S → fg_R (Int32) h_S
  | 0, _, _, _, _, _, _, _ => none
  | n + 1, x1, x3, x5, x6, x8, x9, s => fn_X11_put_127b (fn_X11_put_127 n) x1 x3 x5 x6 x8 x9 s
noncomputable def fn_X11_put (x1 : Int32) (x2 : Int32) (x3 : Int32) (x4 : Int32) (x5 : Int32) (x6 : Int32) (s : h_S) : fg_R (Int32) h_S :=
  fg_let (h_si s 0 18 (0 : Int32)) (fun s2 =>
    fg_bc (fn_X11_takesAhead x1 x2 s2) (fun p4 s3 =>
      fg_if (p4 = 0)
        (some ((-1 : Int32), s3, 0, 0))
        (fg_b (fn_X11_within x3 (4 : Int32) s3) (fun p11 s10 =>
          fg_if (p11 = 0)
            (some ((-1 : Int32), s10, 0, 0))
            (fg_b (fn_X11_refusedCells x3 x4 x5 x6 s10) (fun p15 s14 =>
              fg_if (p15 = 0)
                (fg_if (x6 = 0)
                  (some ((-2 : Int32), s14, 0, 0))
                  (fg_g (vp_in x3 4) (
                    fg_o (h_r s14 9 (h_ix x3)) (fun a22 =>
                      fg_g (h_k s14 a22 = 26) (
                        fg_b (fn_X5_areCodes a22 x5 x6 s14) (fun p25 s24 =>
                          fg_if (p25 = 0)
                            (some ((-2 : Int32), s24, 0, 0))
                            (fg_b (fn_X7_wordCount s24) (fun p31 s30 =>
                              fg_if (((500 : Int32) - p31) < x6)
                                (some ((-4 : Int32), s30, 0, 0))
                                (fg_let (c_ad 1 s30) (fun q34 => fg_c 1 5 (
                                  fg_let (h_nw s30 q34 23 5) (fun s38 =>
                                    fg_b (fn_X2_init q34 (0 : Int32) p31 x6 (-9 : Int32) (-9 : Int32) s38) (fun u_ s41 =>
                                      fg_bc (fn_X7_bring x1 x2 (some q34) (h_i s41 0 0) s41) (fun p47 s46 =>
                                        fg_if (p47 = 0)
                                          (some ((-4 : Int32), s46, 0, 0))
                                          (fn_X11_put_127 g_N x1 x3 x5 x6 p31 (0 : Int32) s46)))))))))))))))
                (some (p15, s14, 0, 0))))))))
noncomputable def fn_X11_allows (r1 : Option Nat) (x2 : Int32) (x3 : Int32) (x4 : Int32) (s : h_S) : Option ((Int32) × h_S) :=
  fg_o r1 (fun a1 =>
    fg_g (h_k s a1 = 24) (
      fg_b (fn_X3_holdsAt a1 x4 s) (fun p4 s3 =>
        fg_if (p4 = 0)
          (some (0, s3))
          (fg_o r1 (fun a6 =>
            fg_g (h_k s3 a6 = 24) (
              fg_if (((h_i s3 a6 4) &&& ((1 : Int32) <<< (x3 &&& 31))) = 0)
                (some (0, s3))
                (fg_o r1 (fun a9 =>
                  fg_g (h_k s3 a9 = 24) (
                    fg_b (fn_X3_isLent a9 s3) (fun p12 s11 =>
                      fg_if (p12 = 0)
                        (fg_o r1 (fun a14 =>
                          fg_g (h_k s11 a14 = 24) (
                            fg_b (fn_X11_groupAsOf (h_i s11 a14 3) x4 s11) (fun p18 s17 =>
                              fg_if (((p18 >>> (x2 &&& 31)) &&& (1 : Int32)) = (1 : Int32))
                                (some ((1 : Int32), s17))
                                (some ((0 : Int32), s17))))))
                        (fg_o r1 (fun a20 =>
                          fg_g (h_k s11 a20 = 24) (
                            fg_if ((h_i s11 a20 3) = ((8 : Int32) + x2))
                              (some ((1 : Int32), s11))
                              (some ((0 : Int32), s11)))))))))))))))
noncomputable def fn_X11_reason_18b (K18 : Int32 → Int32 → Int32 → Int32 → Int32 → h_S → Option ((Int32) × h_S)) (x1 : Int32) (x2 : Int32) (x3 : Int32) (x4 : Int32) (x5 : Int32) (s : h_S) : Option ((Int32) × h_S) :=
  fg_b (fn_Jx4a65c_size_8abf5 8 s) (fun p5 s4 =>
    fg_if (p5 ≤ x5)
      (some ((-9 : Int32), s4))
      (fg_b (fn_Jx4a65c_get_915e3 8 x5 s4) (fun p11 s10 =>
        fg_g (∀ x , p11 = some x → (h_k s10 x) = 24) (
          fg_o p11 (fun a13 =>
            fg_g (h_k s10 a13 = 24) (
              fg_if ((h_i s10 a13 0) = x2)
                (fg_b (fn_X11_allows p11 x1 x3 x4 s10) (fun p18 s17 =>
                  fg_if (p18 = 0)
                    (K18 x1 x2 x3 x4 (x5 + (1 : Int32)) s17)
                    (some (x5, s17))))
                (K18 x1 x2 x3 x4 (x5 + (1 : Int32)) s10)))))))
noncomputable def fn_X11_reason_18 : Nat → Int32 → Int32 → Int32 → Int32 → Int32 → h_S → Option ((Int32) × h_S)
  | 0, _, _, _, _, _, _ => none
  | n + 1, x1, x2, x3, x4, x5, s => fn_X11_reason_18b (fn_X11_reason_18 n) x1 x2 x3 x4 x5 s
noncomputable def fn_X11_reason (x1 : Int32) (x2 : Int32) (x3 : Int32) (x4 : Int32) (s : h_S) : Option ((Int32) × h_S) :=
  fg_b (fn_X7_ownerOf x2 s) (fun p5 s4 =>
    fg_if (p5 = x1)
      (some ((99 : Int32), s4))
      (fn_X11_reason_18 g_N x1 x2 x3 x4 (0 : Int32) s4))
noncomputable def fn_X11_mayUse (x1 : Int32) (x2 : Int32) (x3 : Int32) (x4 : Int32) (s : h_S) : Option ((Int32) × h_S) :=
  fg_b (fn_X11_reason x1 x2 x3 x4 s) (fun p3 s2 =>
    fg_if (p3 = (-9 : Int32))
      (some ((0 : Int32), s2))
      (some ((1 : Int32), s2)))
noncomputable def fn_X11_usable_6b (K6 : Int32 → Int32 → Int32 → Int32 → Int32 → h_S → Option ((Int32) × h_S)) (x1 : Int32) (x2 : Int32) (x3 : Int32) (x4 : Int32) (x5 : Int32) (s : h_S) : Option ((Int32) × h_S) :=
  fg_if ((h_i s 3 0) ≤ x5)
    (some (x4, s))
    (fg_b (fn_X11_mayUse x1 x5 x2 x3 s) (fun p6 s5 =>
      fg_if (p6 = 0)
        (K6 x1 x2 x3 x4 (x5 + (1 : Int32)) s5)
        (fg_let (x4 ||| ((1 : Int32) <<< (x5 &&& 31))) (fun v8 =>
          K6 x1 x2 x3 v8 (x5 + (1 : Int32)) s5))))
noncomputable def fn_X11_usable_6 : Nat → Int32 → Int32 → Int32 → Int32 → Int32 → h_S → Option ((Int32) × h_S)
  | 0, _, _, _, _, _, _ => none
  | n + 1, x1, x2, x3, x4, x5, s => fn_X11_usable_6b (fn_X11_usable_6 n) x1 x2 x3 x4 x5 s
noncomputable def fn_X11_usable (x1 : Int32) (x2 : Int32) (x3 : Int32) (s : h_S) : Option ((Int32) × h_S) :=
  fn_X11_usable_6 g_N x1 x2 x3 (0 : Int32) (0 : Int32) s
noncomputable def fn_X11_showsWith (x1 : Int32) (x2 : Int32) (r3 : Option Nat) (s : h_S) : fg_R (Int32) h_S :=
  fg_bc (fn_X7_bring x1 x2 r3 (h_i s 0 0) s) (fun p5 s4 =>
    fg_if (p5 = 0)
      (some ((-4 : Int32), s4, 0, 0))
      (fg_bc (fn_X7_sizeAsOf x1 ((h_i s4 0 0) + (1 : Int32)) s4) (fun p15 s14 =>
        fg_b (fn_X11_acted p15 s14) (fun p22 s21 =>
          some (p22, s21, 0, 0)))))
noncomputable def fn_X11_seen (x1 : Int32) (x2 : Int32) (x3 : Int32) (x4 : Int32) (s : h_S) : fg_R (Int32) h_S :=
  fg_bc (fn_X11_takesAhead x1 x2 s) (fun p3 s2 =>
    fg_if (p3 = 0)
      (some ((-1 : Int32), s2, 0, 0))
      (fg_if ((1 : Int32) ≤ x4)
        (fg_b (fn_X7_areWords x3 x4 s2) (fun p14 s13 =>
          fg_if (p14 = 0)
            (some ((-1 : Int32), s13, 0, 0))
            (fg_b (fn_X7_homesOf x3 x4 s13) (fun p20 s19 =>
              fg_b (fn_X7_ownerOf x1 s19) (fun p25 s24 =>
                fg_b (fn_X11_usable p25 (1 : Int32) (h_i s24 0 0) s24) (fun p28 s27 =>
                  fg_if ((p20 &&& (p28 ^^^ (-1 : Int32))) = 0)
                    (fg_let (c_ad 1 s27) (fun q30 => fg_c 1 5 (
                      fg_let (h_nw s27 q30 23 5) (fun s34 =>
                        fg_b (fn_X2_init q30 (1 : Int32) x3 x4 (-9 : Int32) (-9 : Int32) s34) (fun u_ s37 =>
                          fg_bc (fn_X11_showsWith x1 x2 (some q30) s37) (fun p41 s40 =>
                            some (p41, s40, 0, 0)))))))
                    (some ((-3 : Int32), s27, 0, 0))))))))
        (some ((-2 : Int32), s2, 0, 0))))
noncomputable def fn_X11_isMoment (x1 : Int32) (s : h_S) : Option ((Int32) × h_S) :=
  fg_if (x1 < 0)
    (some ((0 : Int32), s))
    (fg_if ((h_i s 0 0) < x1)
      (some ((0 : Int32), s))
      (some ((1 : Int32), s)))
noncomputable def fn_X11_isStretch (x0 : Int32) (x1 : Int32) (s : h_S) : Option ((Int32) × h_S) :=
  fg_b (fn_X11_within x0 (500 : Int32) s) (fun p2 s1 =>
    fg_if (p2 = 0)
      (some ((0 : Int32), s1))
      (fg_if (x1 < (1 : Int32))
        (some ((0 : Int32), s1))
        (fg_if ((500 : Int32) < x1)
          (some ((0 : Int32), s1))
          (some ((1 : Int32), s1)))))
noncomputable def fn_X11_span (x1 : Int32) (x2 : Int32) (x3 : Int32) (x4 : Int32) (x5 : Int32) (x6 : Int32) (s : h_S) : fg_R (Int32) h_S :=
  fg_bc (fn_X11_takesAhead x1 x2 s) (fun p3 s2 =>
    fg_if (p3 = 0)
      (some ((-1 : Int32), s2, 0, 0))
      (fg_b (fn_X11_isWriting x3 s2) (fun p11 s10 =>
        fg_if (p11 = 0)
          (some ((-1 : Int32), s10, 0, 0))
          (fg_b (fn_X11_isMoment x4 s10) (fun p15 s14 =>
            fg_if (p15 = 0)
              (some ((-1 : Int32), s14, 0, 0))
              (fg_b (fn_X11_isStretch x5 x6 s14) (fun p18 s17 =>
                fg_if (p18 = 0)
                  (some ((-2 : Int32), s17, 0, 0))
                  (fg_b (fn_X7_ownerOf x1 s17) (fun p24 s23 =>
                    fg_b (fn_X11_mayUse p24 x3 (1 : Int32) (h_i s23 0 0) s23) (fun p27 s26 =>
                      fg_if (p27 = 0)
                        (some ((-3 : Int32), s26, 0, 0))
                        (fg_let (c_ad 1 s26) (fun q29 => fg_c 1 5 (
                          fg_let (h_nw s26 q29 23 5) (fun s33 =>
                            fg_b (fn_X2_init q29 (2 : Int32) x5 x6 x3 x4 s33) (fun u_ s36 =>
                              fg_bc (fn_X11_showsWith x1 x2 (some q29) s36) (fun p40 s39 =>
                                some (p40, s39, 0, 0)))))))))))))))))
noncomputable def fn_X11_live (x1 : Int32) (x2 : Int32) (x3 : Int32) (x4 : Int32) (x5 : Int32) (s : h_S) : fg_R (Int32) h_S :=
  fg_bc (fn_X11_takesAhead x1 x2 s) (fun p3 s2 =>
    fg_if (p3 = 0)
      (some ((-1 : Int32), s2, 0, 0))
      (fg_b (fn_X11_isWriting x3 s2) (fun p11 s10 =>
        fg_if (p11 = 0)
          (some ((-1 : Int32), s10, 0, 0))
          (fg_b (fn_X11_isStretch x4 x5 s10) (fun p14 s13 =>
            fg_if (p14 = 0)
              (some ((-2 : Int32), s13, 0, 0))
              (fg_b (fn_X7_ownerOf x1 s13) (fun p20 s19 =>
                fg_b (fn_X11_mayUse p20 x3 (1 : Int32) (h_i s19 0 0) s19) (fun p23 s22 =>
                  fg_if (p23 = 0)
                    (some ((-3 : Int32), s22, 0, 0))
                    (fg_b (fn_X7_stepsBetween x3 x1 (1 : Int32) s22) (fun p29 s28 =>
                      fg_if (p29 = (-9 : Int32))
                        (fg_let (c_ad 1 s28) (fun q31 => fg_c 1 5 (
                          fg_let (h_nw s28 q31 23 5) (fun s35 =>
                            fg_b (fn_X2_init q31 (3 : Int32) x4 x5 x3 (-9 : Int32) s35) (fun u_ s38 =>
                              fg_bc (fn_X11_showsWith x1 x2 (some q31) s38) (fun p42 s41 =>
                                some (p42, s41, 0, 0)))))))
                        (some (((-100 : Int32) - p29), s28, 0, 0))))))))))))
noncomputable def fn_X11_isPlaceOf (x1 : Int32) (x2 : Int32) (s : h_S) : fg_R (Int32) h_S :=
  fg_b (fn_X11_isWriting x1 s) (fun p3 s2 =>
    fg_if (p3 = 0)
      (some ((0 : Int32), s2, 0, 0))
      (fg_bc (fn_X7_sizeAsOf x1 (h_i s2 0 0) s2) (fun p9 s8 =>
        fg_b (fn_X11_within x2 p9 s8) (fun p15 s14 =>
          fg_if (p15 = 0)
            (some ((0 : Int32), s14, 0, 0))
            (some ((1 : Int32), s14, 0, 0))))))
noncomputable def fn_X11_takeOut (x1 : Int32) (x2 : Int32) (x3 : Int32) (s : h_S) : fg_R (Int32) h_S :=
  fg_bc (fn_X7_lift x1 x2 x3 (h_i s 0 0) s) (fun u_ s4 =>
    fg_bc (fn_X7_keepLaid x1 ((h_i s4 0 0) + (1 : Int32)) s4) (fun p14 s13 =>
      fg_g (h_bt p14) (
        some (p14, s13, 0, 0))))
noncomputable def fn_X11_cut (x1 : Int32) (x2 : Int32) (x3 : Int32) (s : h_S) : fg_R (Int32) h_S :=
  fg_bc (fn_X11_isPlaceOf x1 x2 s) (fun p3 s2 =>
    fg_if (p3 = 0)
      (some ((-1 : Int32), s2, 0, 0))
      (fg_if (x3 < (1 : Int32))
        (some ((-2 : Int32), s2, 0, 0))
        (fg_bc (fn_X7_sizeAsOf x1 (h_i s2 0 0) s2) (fun p14 s13 =>
          fg_if (x3 ≤ (p14 - x2))
            (fg_bc (fn_X11_takeOut x1 x2 x3 s13) (fun p22 s21 =>
              fg_if (p22 = 0)
                (some ((-4 : Int32), s21, 0, 0))
                (fg_bc (fn_X7_sizeAsOf x1 ((h_i s21 0 0) + (1 : Int32)) s21) (fun p32 s31 =>
                  fg_b (fn_X11_acted p32 s31) (fun p39 s38 =>
                    some (p39, s38, 0, 0))))))
            (some ((-2 : Int32), s13, 0, 0))))))
noncomputable def fn_X11_move_97 (x1 : Int32) (y0 : Int32) (t1 : Option Nat) (s : h_S) : fg_R (Int32) h_S :=
  fg_g (t1 = some 3) (
    fg_bc (fn_X7_bringLifted y0 (h_i s 0 0) s) (fun u_ s4 =>
      fg_bc (fn_X7_keepLaid x1 ((h_i s4 0 0) + (1 : Int32)) s4) (fun p14 s13 =>
        fg_if (p14 = 0)
          (some ((-4 : Int32), s13, 0, 0))
          (fg_b (fn_X7_pieceCount x1 s13) (fun p24 s23 =>
            fg_b (fn_X11_acted p24 s23) (fun p27 s26 =>
              some (p27, s26, 0, 0)))))))
noncomputable def fn_X11_move_64 (x1 : Int32) (x2 : Int32) (x3 : Int32) (x4 : Int32) (s : h_S) : fg_R (Int32) h_S :=
  fg_bc (fn_X7_lift x1 x2 x3 (h_i s 0 0) s) (fun u_ s4 =>
    fg_if (x4 ≤ x2)
      (fn_X11_move_97 x1 x4 (h_r s4 0 4) s4)
      (fn_X11_move_97 x1 (x4 - x3) (h_r s4 0 4) s4))
noncomputable def fn_X11_move (x1 : Int32) (x2 : Int32) (x3 : Int32) (x4 : Int32) (s : h_S) : fg_R (Int32) h_S :=
  fg_bc (fn_X11_isPlaceOf x1 x2 s) (fun p3 s2 =>
    fg_if (p3 = 0)
      (some ((-1 : Int32), s2, 0, 0))
      (fg_bc (fn_X11_takesAhead x1 x4 s2) (fun p11 s10 =>
        fg_if (p11 = 0)
          (some ((-1 : Int32), s10, 0, 0))
          (fg_if (x3 < (1 : Int32))
            (some ((-2 : Int32), s10, 0, 0))
            (fg_bc (fn_X7_sizeAsOf x1 (h_i s10 0 0) s10) (fun p22 s21 =>
              fg_if (x3 ≤ (p22 - x2))
                (fg_if (x4 ≤ x2)
                  (fn_X11_move_64 x1 x2 x3 x4 s21)
                  (fg_if ((x2 + x3) ≤ x4)
                    (fn_X11_move_64 x1 x2 x3 x4 s21)
                    (some ((-3 : Int32), s21, 0, 0))))
                (some ((-2 : Int32), s21, 0, 0))))))))
noncomputable def fn_X11_again (x1 : Int32) (x2 : Int32) (s : h_S) : fg_R (Int32) h_S :=
  fg_b (fn_X11_isWriting x1 s) (fun p3 s2 =>
    fg_if (p3 = 0)
      (some ((-1 : Int32), s2, 0, 0))
      (fg_b (fn_X11_isMoment x2 s2) (fun p7 s6 =>
        fg_if (p7 = 0)
          (some ((-1 : Int32), s6, 0, 0))
          (fg_bc (fn_X7_returnTo x1 x2 ((h_i s6 0 0) + (1 : Int32)) s6) (fun u_ s12 =>
            fg_b (fn_X7_pieceCount x1 s12) (fun p22 s21 =>
              fg_b (fn_X11_acted p22 s21) (fun p25 s24 =>
                some (p25, s24, 0, 0))))))))
noncomputable def fn_X11_length (x1 : Int32) (x2 : Int32) (s : h_S) : fg_R (Int32) h_S :=
  fg_b (fn_X11_isWriting x1 s) (fun p3 s2 =>
    fg_if (p3 = 0)
      (some ((-1 : Int32), s2, 0, 0))
      (fg_b (fn_X11_isMoment x2 s2) (fun p7 s6 =>
        fg_if (p7 = 0)
          (some ((-1 : Int32), s6, 0, 0))
          (fg_bc (fn_X7_sizeAsOf x1 x2 s6) (fun p13 s12 =>
            some (p13, s12, 0, 0))))))
noncomputable def fn_X11_shown (x1 : Int32) (x2 : Int32) (x3 : Int32) (s : h_S) : fg_R (Int32) h_S :=
  fg_b (fn_X11_isWriting x1 s) (fun p3 s2 =>
    fg_if (p3 = 0)
      (some ((-1 : Int32), s2, 0, 0))
      (fg_b (fn_X11_isMoment x2 s2) (fun p7 s6 =>
        fg_if (p7 = 0)
          (some ((-1 : Int32), s6, 0, 0))
          (fg_bc (fn_X7_shownOf 6 x1 x2 (0 : Int32) s6) (fun p13 s12 =>
            fg_o p13 (fun a18 =>
              fg_g (h_k s12 a18 = 27) (
                fg_b (fn_X11_within x3 (h_i s12 a18 1) s12) (fun p21 s20 =>
                  fg_if (p21 = 0)
                    (some ((-1 : Int32), s20, 0, 0))
                    (fg_o p13 (fun a23 =>
                      fg_g (h_k s20 a23 = 27) (
                        fg_o (h_r s20 a23 2) (fun a25 =>
                          fg_g (h_k s20 a25 = 1) (
                            fg_g (vp_in x3 (h_n s20 a25)) (
                              some ((h_i s20 a25 (h_ix x3)), s20, 0, 0)))))))))))))))
noncomputable def fn_X11_pieces (x1 : Int32) (s : h_S) : Option ((Int32) × h_S) :=
  fg_b (fn_X11_isWriting x1 s) (fun p3 s2 =>
    fg_if (p3 = 0)
      (some ((-1 : Int32), s2))
      (fg_b (fn_X7_pieceCount x1 s2) (fun p9 s8 =>
        some (p9, s8))))
noncomputable def fn_X11_piece (x1 : Int32) (x2 : Int32) (x3 : Int32) (s : h_S) : Option ((Int32) × h_S) :=
  fg_b (fn_X11_isWriting x1 s) (fun p3 s2 =>
    fg_if (p3 = 0)
      (some ((-1 : Int32), s2))
      (fg_b (fn_X7_pieceAt x1 x2 s2) (fun p9 s8 =>
        fg_if (p9 = none)
          (some ((-1 : Int32), s8))
          (fg_if (x3 = (0 : Int32))
            (fg_o p9 (fun a12 =>
              fg_g (h_k s8 a12 = 23) (
                some ((h_i s8 a12 0), s8))))
            (fg_if (x3 = (1 : Int32))
              (fg_o p9 (fun a15 =>
                fg_g (h_k s8 a15 = 23) (
                  some ((h_i s8 a15 1), s8))))
              (fg_if (x3 = (2 : Int32))
                (fg_o p9 (fun a18 =>
                  fg_g (h_k s8 a18 = 23) (
                    some ((h_i s8 a18 2), s8))))
                (fg_if (x3 = (3 : Int32))
                  (fg_o p9 (fun a21 =>
                    fg_g (h_k s8 a21 = 23) (
                      some ((h_i s8 a21 3), s8))))
                  (fg_if (x3 = (4 : Int32))
                    (fg_o p9 (fun a24 =>
                      fg_g (h_k s8 a24 = 23) (
                        some ((h_i s8 a24 4), s8))))
                    (some ((-2 : Int32), s8))))))))))
noncomputable def fn_X11_word (x1 : Int32) (x2 : Int32) (s : h_S) : Option ((Int32) × h_S) :=
  fg_b (fn_X7_wordAt x1 s) (fun p5 s4 =>
    fg_if (p5 = none)
      (some ((-1 : Int32), s4))
      (fg_if (x2 = (0 : Int32))
        (fg_o p5 (fun a8 =>
          fg_g (h_k s4 a8 = 31) (
            some ((h_i s4 a8 0), s4))))
        (fg_if (x2 = (1 : Int32))
          (fg_o p5 (fun a11 =>
            fg_g (h_k s4 a11 = 31) (
              some ((h_i s4 a11 1), s4))))
          (fg_if (x2 = (2 : Int32))
            (fg_o p5 (fun a14 =>
              fg_g (h_k s4 a14 = 31) (
                some ((h_i s4 a14 2), s4))))
            (fg_if (x2 = (3 : Int32))
              (fg_o p5 (fun a17 =>
                fg_g (h_k s4 a17 = 31) (
                  some ((h_i s4 a17 3), s4))))
              (fg_if (x2 = (4 : Int32))
                (fg_o p5 (fun a20 =>
                  fg_g (h_k s4 a20 = 31) (
                    some ((h_i s4 a20 4), s4))))
                (some ((-2 : Int32), s4))))))))
noncomputable def fn_J7_copyOf_59c91 (r0 : Option Nat) (x1 : Int32) (s : h_S) : fg_R (Option Nat) h_S :=
  fg_o r0 (fun a1 =>
    fg_g (h_k s a1 = 1) (
      fg_if (x1 = (Int32.ofNat (h_n s a1)))
        (fg_o r0 (fun a24 =>
          fg_g (h_k s a24 = 1) (
            fg_let (c_ad 9 s) (fun q26 => fg_c 1 (h_n s a24) (
              fg_let (h_cl s q26 a24) (fun s30 =>
                fg_g (h_k s30 q26 = 1) (
                  some ((some q26), s30, 0, 0))))))))
        (fg_g (¬ x1 < 0) (
          fg_g (h_ix x1 * 4 ≤ 536870912) (
            fg_let (c_ad 9 s) (fun q4 => fg_c 1 (h_ix x1) (
              fg_let (h_nw s q4 1 (h_ix x1)) (fun s10 =>
                fg_o r0 (fun a13 =>
                  fg_g (h_k s10 a13 = 1) (
                    fg_g (h_k s10 q4 = 1) (
                      fg_o r0 (fun a16 =>
                        fg_g (h_k s10 a16 = 1) (
                          fg_g (¬ (0 : Int32) < 0) (
                            fg_g (¬ (0 : Int32) < 0) (
                              fg_g (¬ (h_min (Int32.ofNat (h_n s10 a13)) x1) < 0) (
                                fg_g (h_ix (0 : Int32) + h_ix (h_min (Int32.ofNat (h_n s10 a13)) x1) ≤ (h_n s10 a16)) (
                                  fg_g (h_ix (0 : Int32) + h_ix (h_min (Int32.ofNat (h_n s10 a13)) x1) ≤ (h_n s10 q4)) (
                                    fg_let (h_cp s10 a16 (h_ix (0 : Int32)) q4 (h_ix (0 : Int32)) (h_ix (h_min (Int32.ofNat (h_n s10 a13)) x1))) (fun s23 =>
                                      some ((some q4), s23, 0, 0))))))))))))))))))))
noncomputable def fn_X11_version (x1 : Int32) (s : h_S) : fg_R (Int32) h_S :=
  fg_b (fn_X11_isWriting x1 s) (fun p3 s2 =>
    fg_if (p3 = 0)
      (some ((-1 : Int32), s2, 0, 0))
      (fg_b (fn_Jx4a65c_size_8abf5 4 s2) (fun p9 s8 =>
        fg_if (p9 < (16 : Int32))
          (fg_bc (fn_X7_shownOf 6 x1 ((h_i s8 0 0) + (1 : Int32)) (0 : Int32) s8) (fun p15 s14 =>
            fg_let (c_ad 8 s14) (fun q21 => fg_c 1 5 (
              fg_let (h_nw s14 q21 29 5) (fun s25 =>
                fg_o p15 (fun a29 =>
                  fg_g (h_k s25 a29 = 27) (
                    fg_o p15 (fun a31 =>
                      fg_g (h_k s25 a31 = 27) (
                        fg_bc (fn_J7_copyOf_59c91 (h_r s25 a29 2) (h_i s25 a31 1) s25) (fun p34 s33 =>
                          fg_b (fn_X8_init q21 x1 ((h_i s25 0 0) + (1 : Int32)) p34 s33) (fun u_ s39 =>
                            fg_bc (fn_Jx4a65c_add_9ea2d 4 (some q21) s39) (fun p44 s43 =>
                              fg_b (fn_Jx4a65c_size_8abf5 4 s43) (fun p53 s52 =>
                                fg_b (fn_X11_acted (p53 - (1 : Int32)) s52) (fun p56 s55 =>
                                  some (p56, s55, 0, 0)))))))))))))))
          (some ((-4 : Int32), s8, 0, 0)))))
noncomputable def fn_X11_versionAt (x1 : Int32) (s : h_S) : Option ((Option Nat) × h_S) :=
  fg_b (fn_Jx4a65c_size_8abf5 4 s) (fun p5 s4 =>
    fg_b (fn_X11_within x1 p5 s4) (fun p7 s6 =>
      fg_if (p7 = 0)
        (some ((none : Option Nat), s6))
        (fg_b (fn_Jx4a65c_get_915e3 4 x1 s6) (fun p13 s12 =>
          fg_g (∀ x , p13 = some x → (h_k s12 x) = 29) (
            some (p13, s12))))))
noncomputable def fn_X11_give (x1 : Int32) (s : h_S) : Option ((Int32) × h_S) :=
  fg_b (fn_X11_versionAt x1 s) (fun p3 s2 =>
    fg_if (p3 = none)
      (some ((-1 : Int32), s2))
      (fg_o p3 (fun a5 =>
        fg_g (h_k s2 a5 = 29) (
          fg_b (fn_X8_kind a5 s2) (fun p8 s7 =>
            fg_if (p8 = 0)
              (fg_o p3 (fun a11 =>
                fg_g (h_k s7 a11 = 29) (
                  fg_let (h_si s7 a11 3 ((h_i s7 0 0) + (1 : Int32))) (fun s13 =>
                    fg_o p3 (fun a14 =>
                      fg_g (h_k s13 a14 = 29) (
                        fg_o (h_r s13 a14 2) (fun a16 =>
                          fg_g (h_k s13 a16 = 1) (
                            fg_b (fn_X11_acted (Int32.ofNat (h_n s13 a16)) s13) (fun p19 s18 =>
                              some (p19, s18))))))))))
              (some ((-3 : Int32), s7)))))))
noncomputable def fn_X11_back (x1 : Int32) (s : h_S) : Option ((Int32) × h_S) :=
  fg_b (fn_X11_versionAt x1 s) (fun p3 s2 =>
    fg_if (p3 = none)
      (some ((-1 : Int32), s2))
      (fg_o p3 (fun a5 =>
        fg_g (h_k s2 a5 = 29) (
          fg_b (fn_X8_kind a5 s2) (fun p8 s7 =>
            fg_if (p8 = (1 : Int32))
              (fg_o p3 (fun a11 =>
                fg_g (h_k s7 a11 = 29) (
                  fg_let (h_si s7 a11 4 ((h_i s7 0 0) + (1 : Int32))) (fun s13 =>
                    fg_o p3 (fun a14 =>
                      fg_g (h_k s13 a14 = 29) (
                        fg_o (h_r s13 a14 2) (fun a16 =>
                          fg_g (h_k s13 a16 = 1) (
                            fg_b (fn_X11_acted (Int32.ofNat (h_n s13 a16)) s13) (fun p19 s18 =>
                              some (p19, s18))))))))))
              (some ((-3 : Int32), s7)))))))
noncomputable def fn_X11_about (x1 : Int32) (x2 : Int32) (s : h_S) : Option ((Int32) × h_S) :=
  fg_b (fn_X11_versionAt x1 s) (fun p3 s2 =>
    fg_if (p3 = none)
      (some ((-1 : Int32), s2))
      (fg_if (x2 = (0 : Int32))
        (fg_o p3 (fun a6 =>
          fg_g (h_k s2 a6 = 29) (
            fg_b (fn_X8_kind a6 s2) (fun p9 s8 =>
              some (p9, s8)))))
        (fg_if (x2 = (1 : Int32))
          (fg_o p3 (fun a11 =>
            fg_g (h_k s2 a11 = 29) (
              some ((h_i s2 a11 0), s2))))
          (fg_if (x2 = (2 : Int32))
            (fg_o p3 (fun a14 =>
              fg_g (h_k s2 a14 = 29) (
                some ((h_i s2 a14 1), s2))))
            (fg_if (x2 = (3 : Int32))
              (fg_o p3 (fun a17 =>
                fg_g (h_k s2 a17 = 29) (
                  fg_o (h_r s2 a17 2) (fun a19 =>
                    fg_g (h_k s2 a19 = 1) (
                      some ((Int32.ofNat (h_n s2 a19)), s2))))))
              (fg_if (x2 = (4 : Int32))
                (fg_o p3 (fun a22 =>
                  fg_g (h_k s2 a22 = 29) (
                    fg_b (fn_X8_gaps a22 s2) (fun p25 s24 =>
                      some (p25, s24)))))
                (some ((-2 : Int32), s2))))))))
noncomputable def fn_X11_at (x1 : Int32) (x2 : Int32) (s : h_S) : Option ((Int32) × h_S) :=
  fg_b (fn_X11_versionAt x1 s) (fun p3 s2 =>
    fg_if (p3 = none)
      (some ((-1 : Int32), s2))
      (fg_o p3 (fun a5 =>
        fg_g (h_k s2 a5 = 29) (
          fg_o (h_r s2 a5 2) (fun a7 =>
            fg_g (h_k s2 a7 = 1) (
              fg_b (fn_X11_within x2 (Int32.ofNat (h_n s2 a7)) s2) (fun p10 s9 =>
                fg_if (p10 = 0)
                  (some ((-1 : Int32), s9))
                  (fg_o p3 (fun a12 =>
                    fg_g (h_k s9 a12 = 29) (
                      fg_o (h_r s9 a12 2) (fun a14 =>
                        fg_g (h_k s9 a14 = 1) (
                          fg_g (vp_in x2 (h_n s9 a14)) (
                            some ((h_i s9 a14 (h_ix x2)), s9))))))))))))))
noncomputable def fn_X11_compare (x1 : Int32) (x2 : Int32) (x3 : Int32) (s : h_S) : Option ((Int32) × h_S) :=
  fg_b (fn_X11_versionAt x1 s) (fun p3 s2 =>
    fg_b (fn_X11_versionAt x2 s2) (fun p6 s5 =>
      fg_if (p3 = none)
        (some ((-1 : Int32), s5))
        (fg_if (p6 = none)
          (some ((-1 : Int32), s5))
          (fg_b (fn_X11_within x3 (4 : Int32) s5) (fun p10 s9 =>
            fg_if (p10 = 0)
              (some ((-2 : Int32), s9))
              (fg_o p3 (fun a13 =>
                fg_g (h_k s9 a13 = 29) (
                  fg_o p6 (fun a15 =>
                    fg_g (h_k s9 a15 = 29) (
                      fg_b (fn_X9_sharedBy (h_r s9 a13 2) (h_r s9 a15 2) s9) (fun p20 s19 =>
                        fg_if (x3 = (1 : Int32))
                          (fg_o p3 (fun a22 =>
                            fg_g (h_k s19 a22 = 29) (
                              fg_o (h_r s19 a22 2) (fun a24 =>
                                fg_g (h_k s19 a24 = 1) (
                                  some (((Int32.ofNat (h_n s19 a24)) - p20), s19))))))
                          (fg_if (x3 = (2 : Int32))
                            (fg_o p6 (fun a27 =>
                              fg_g (h_k s19 a27 = 29) (
                                fg_o (h_r s19 a27 2) (fun a29 =>
                                  fg_g (h_k s19 a29 = 1) (
                                    some (((Int32.ofNat (h_n s19 a29)) - p20), s19))))))
                            (fg_if (x3 = (3 : Int32))
                              (fg_o p3 (fun a33 =>
                                fg_g (h_k s19 a33 = 29) (
                                  fg_o p6 (fun a35 =>
                                    fg_g (h_k s19 a35 = 29) (
                                      fg_b (fn_X9_commonTo (h_r s19 a33 2) (h_r s19 a35 2) s19) (fun p40 s39 =>
                                        some ((p40 - p20), s39)))))))
                              (some (p20, s19)))))))))))))))
noncomputable def fn_X11_join_175b (K175 : Int32 → Int32 → h_S → fg_R (Int32) h_S) (x7 : Int32) (x8 : Int32) (s : h_S) : fg_R (Int32) h_S :=
  fg_if ((h_i s 10 15) ≤ x8)
    (fg_b (fn_X11_acted x7 s) (fun p6 s5 =>
      some (p6, s5, 0, 0)))
    (fg_bc (fn_X9_clashAt x8 x7 s) (fun p10 s9 =>
      fg_bc (fn_Jx4a65c_add_9ea2d 5 p10 s9) (fun p18 s17 =>
        K175 x7 (x8 + (1 : Int32)) s17)))
noncomputable def fn_X11_join_175 : Nat → Int32 → Int32 → h_S → fg_R (Int32) h_S
  | 0, _, _, _ => none
  | n + 1, x7, x8, s => fn_X11_join_175b (fn_X11_join_175 n) x7 x8 s
noncomputable def fn_X11_join (x1 : Int32) (x2 : Int32) (x3 : Int32) (s : h_S) : fg_R (Int32) h_S :=
  fg_b (fn_X11_versionAt x1 s) (fun p3 s2 =>
    fg_b (fn_X11_versionAt x2 s2) (fun p6 s5 =>
      fg_b (fn_X11_versionAt x3 s5) (fun p9 s8 =>
        fg_if (p3 = none)
          (some ((-1 : Int32), s8, 0, 0))
          (fg_if (p6 = none)
            (some ((-1 : Int32), s8, 0, 0))
            (fg_if (p9 = none)
              (some ((-1 : Int32), s8, 0, 0))
              (fg_b (fn_X7_isFull s8) (fun p17 s16 =>
                fg_if (p17 = 0)
                  (fg_o p3 (fun a20 =>
                    fg_g (h_k s16 a20 = 29) (
                      fg_o p6 (fun a22 =>
                        fg_g (h_k s16 a22 = 29) (
                          fg_o p9 (fun a24 =>
                            fg_g (h_k s16 a24 = 29) (
                              fg_b (fn_X9_weaveBy (h_r s16 a20 2) (h_r s16 a22 2) (h_r s16 a24 2) s16) (fun u_ s28 =>
                                fg_b (fn_X9_runs s28) (fun p34 s33 =>
                                  fg_if ((24 : Int32) < p34)
                                    (some ((-4 : Int32), s33, 0, 0))
                                    (fg_b (fn_Jx4a65c_size_8abf5 5 s33) (fun p42 s41 =>
                                      fg_if ((h_i s33 10 15) ≤ ((12 : Int32) - p42))
                                        (fg_o p3 (fun a45 =>
                                          fg_g (h_k s41 a45 = 29) (
                                            fg_b (fn_X7_ownerOf (h_i s41 a45 0) s41) (fun p50 s49 =>
                                              fg_bc (fn_X7_begin p50 ((h_i s49 0 0) + (1 : Int32)) s49) (fun p55 s54 =>
                                                fg_bc (fn_X7_layRuns (h_r s54 10 10) (h_i s54 10 11) s54) (fun u_ s67 =>
                                                  fg_bc (fn_X7_keepLaid p55 ((h_i s67 0 0) + (1 : Int32)) s67) (fun p77 s76 =>
                                                    fn_X11_join_175 g_N p55 (0 : Int32) s76)))))))
                                        (some ((-4 : Int32), s41, 0, 0)))))))))))))
                  (some ((-4 : Int32), s16, 0, 0)))))))))
noncomputable def fn_X11_clash (x1 : Int32) (x2 : Int32) (s : h_S) : Option ((Int32) × h_S) :=
  fg_b (fn_Jx4a65c_size_8abf5 5 s) (fun p5 s4 =>
    fg_b (fn_X11_within x1 p5 s4) (fun p7 s6 =>
      fg_if (p7 = 0)
        (some ((-1 : Int32), s6))
        (fg_b (fn_Jx4a65c_get_915e3 5 x1 s6) (fun p13 s12 =>
          fg_g (∀ x , p13 = some x → (h_k s12 x) = 21) (
            fg_if (x2 = (0 : Int32))
              (fg_o p13 (fun a16 =>
                fg_g (h_k s12 a16 = 21) (
                  some ((h_i s12 a16 0), s12))))
              (fg_if (x2 = (1 : Int32))
                (fg_o p13 (fun a19 =>
                  fg_g (h_k s12 a19 = 21) (
                    some ((h_i s12 a19 2), s12))))
                (fg_if (x2 = (2 : Int32))
                  (fg_o p13 (fun a22 =>
                    fg_g (h_k s12 a22 = 21) (
                      fg_o (h_r s12 a22 1) (fun a24 =>
                        fg_g (h_k s12 a24 = 1) (
                          fg_o p13 (fun a26 =>
                            fg_g (h_k s12 a26 = 21) (
                              some (((Int32.ofNat (h_n s12 a24)) - (h_i s12 a26 2)), s12))))))))
                  (fg_if (x2 = (3 : Int32))
                    (fg_o p13 (fun a29 =>
                      fg_g (h_k s12 a29 = 21) (
                        fg_if ((h_i s12 a29 3) = 0)
                          (some ((0 : Int32), s12))
                          (some ((1 : Int32), s12)))))
                    (some ((-2 : Int32), s12))))))))))
noncomputable def fn_X11_settle_118 (r3 : Option Nat) (x4 : Int32) (x6 : Int32) (y0 : Int32) (s : h_S) : fg_R (Int32) h_S :=
  fg_o r3 (fun a1 =>
    fg_g (h_k s a1 = 21) (
      fg_bc (fn_X11_takeOut (h_i s a1 0) (x4 + x6) (y0 - x6) s) (fun p5 s4 =>
        fg_if (p5 = 0)
          (some ((-4 : Int32), s4, 0, 0))
          (fg_o r3 (fun a11 =>
            fg_g (h_k s4 a11 = 21) (
              fg_let (h_si s4 a11 3 (1 : Int32)) (fun s13 =>
                fg_b (fn_X11_acted (y0 - x6) s13) (fun p16 s15 =>
                  some (p16, s15, 0, 0)))))))))
noncomputable def fn_X11_settle_102 (x2 : Int32) (r3 : Option Nat) (x4 : Int32) (x5 : Int32) (y0 : Int32) (s : h_S) : fg_R (Int32) h_S :=
  fg_if (x2 = (1 : Int32))
    (fg_o r3 (fun a2 =>
      fg_g (h_k s a2 = 21) (
        fn_X11_settle_118 r3 x4 y0 (h_i s a2 2) s)))
    (fn_X11_settle_118 r3 x4 y0 x5 s)
noncomputable def fn_X11_settle_71 (x2 : Int32) (r3 : Option Nat) (y0 : Int32) (s : h_S) : fg_R (Int32) h_S :=
  fg_if (y0 = (-9 : Int32))
    (some ((-3 : Int32), s, 0, 0))
    (fg_o r3 (fun a2 =>
      fg_g (h_k s a2 = 21) (
        fg_o (h_r s a2 1) (fun a4 =>
          fg_g (h_k s a4 = 1) (
            fg_if (x2 = 0)
              (fg_o r3 (fun a7 =>
                fg_g (h_k s a7 = 21) (
                  fn_X11_settle_102 x2 r3 y0 (Int32.ofNat (h_n s a4)) (h_i s a7 2) s)))
              (fn_X11_settle_102 x2 r3 y0 (Int32.ofNat (h_n s a4)) (0 : Int32) s))))))
noncomputable def fn_X11_settle (x1 : Int32) (x2 : Int32) (s : h_S) : fg_R (Int32) h_S :=
  fg_b (fn_Jx4a65c_size_8abf5 5 s) (fun p5 s4 =>
    fg_b (fn_X11_within x1 p5 s4) (fun p7 s6 =>
      fg_if (p7 = 0)
        (some ((-1 : Int32), s6, 0, 0))
        (fg_b (fn_X11_within x2 (3 : Int32) s6) (fun p10 s9 =>
          fg_if (p10 = 0)
            (some ((-2 : Int32), s9, 0, 0))
            (fg_b (fn_Jx4a65c_get_915e3 5 x1 s9) (fun p16 s15 =>
              fg_g (∀ x , p16 = some x → (h_k s15 x) = 21) (
                fg_o p16 (fun a18 =>
                  fg_g (h_k s15 a18 = 21) (
                    fg_if ((h_i s15 a18 3) = 0)
                      (fg_o p16 (fun a22 =>
                        fg_g (h_k s15 a22 = 21) (
                          fg_bc (fn_X7_shownOf 6 (h_i s15 a22 0) (h_i s15 0 0) (0 : Int32) s15) (fun p27 s26 =>
                            fg_o p16 (fun a32 =>
                              fg_g (h_k s26 a32 = 21) (
                                fg_b (fn_X0_placeIn a32 p27 s26) (fun p35 s34 =>
                                  fn_X11_settle_71 x2 p16 p35 s34)))))))
                      (fn_X11_settle_71 x2 p16 (-9 : Int32) s15))))))))))
noncomputable def fn_X11_linkAt (x1 : Int32) (s : h_S) : Option ((Option Nat) × h_S) :=
  fg_b (fn_Jx4a65c_size_8abf5 6 s) (fun p5 s4 =>
    fg_b (fn_X11_within x1 p5 s4) (fun p7 s6 =>
      fg_if (p7 = 0)
        (some ((none : Option Nat), s6))
        (fg_b (fn_Jx4a65c_get_915e3 6 x1 s6) (fun p13 s12 =>
          fg_g (∀ x , p13 = some x → (h_k s12 x) = 22) (
            some (p13, s12))))))
noncomputable def fn_X11_keepLink (r1 : Option Nat) (s : h_S) : fg_R (Int32) h_S :=
  fg_b (fn_Jx4a65c_size_8abf5 6 s) (fun p5 s4 =>
    fg_if (p5 < (24 : Int32))
      (fg_bc (fn_Jx4a65c_add_9ea2d 6 r1 s4) (fun p11 s10 =>
        fg_b (fn_Jx4a65c_size_8abf5 6 s10) (fun p20 s19 =>
          fg_b (fn_X11_acted (p20 - (1 : Int32)) s19) (fun p23 s22 =>
            some (p23, s22, 0, 0)))))
      (some ((-4 : Int32), s4, 0, 0)))
noncomputable def fn_X11_reply (x1 : Int32) (x2 : Int32) (x3 : Int32) (s : h_S) : fg_R (Int32) h_S :=
  fg_b (fn_X11_linkAt x3 s) (fun p3 s2 =>
    fg_if (p3 = none)
      (some ((-1 : Int32), s2, 0, 0))
      (fg_o p3 (fun a5 =>
        fg_g (h_k s2 a5 = 22) (
          fg_b (fn_X1_isA a5 (1 : Int32) s2) (fun p8 s7 =>
            fg_if (p8 = 0)
              (fg_b (fn_X11_failed (2 : Int32) s7) (fun p42 s41 =>
                some (p42, s41, 0, 0)))
              (fg_let (c_ad 12 s7) (fun q10 => fg_c 1 4 (
                fg_let (h_nw s7 q10 22 4) (fun s14 =>
                  fg_o p3 (fun a17 =>
                    fg_g (h_k s14 a17 = 22) (
                      fg_o (h_r s14 a17 1) (fun a19 =>
                        fg_g (h_k s14 a19 = 1) (
                          fg_g (vp_in (0 : Int32) (h_n s14 a19)) (
                            fg_o p3 (fun a22 =>
                              fg_g (h_k s14 a22 = 22) (
                                fg_o (h_r s14 a22 2) (fun a24 =>
                                  fg_g (h_k s14 a24 = 1) (
                                    fg_g (vp_in (0 : Int32) (h_n s14 a24)) (
                                      fg_bc (fn_X1_init q10 (2 : Int32) x1 x2 (h_i s14 a19 (h_ix (0 : Int32))) (h_i s14 a24 (h_ix (0 : Int32))) x3 s14) (fun u_ s27 =>
                                        fg_bc (fn_X11_keepLink (some q10) s27) (fun p35 s34 =>
                                          some (p35, s34, 0, 0))))))))))))))))))))))
noncomputable def fn_X11_linkOfWords_44 (x1 : Int32) (x2 : Int32) (x3 : Int32) (x4 : Int32) (x5 : Int32) (s : h_S) : fg_R (Int32) h_S :=
  fg_let (c_ad 12 s) (fun q1 => fg_c 1 4 (
    fg_let (h_nw s q1 22 4) (fun s5 =>
      fg_bc (fn_X1_init q1 x1 x2 x3 x4 x5 (-9 : Int32) s5) (fun u_ s8 =>
        fg_bc (fn_X11_keepLink (some q1) s8) (fun p16 s15 =>
          some (p16, s15, 0, 0))))))
noncomputable def fn_X11_linkOfWords (x1 : Int32) (x2 : Int32) (x3 : Int32) (x4 : Int32) (x5 : Int32) (s : h_S) : fg_R (Int32) h_S :=
  fg_b (fn_X7_areWords x4 x5 s) (fun p5 s4 =>
    fg_if (p5 = 0)
      (some ((-1 : Int32), s4, 0, 0))
      (fg_if (x1 = (4 : Int32))
        (fg_if (x3 = x5)
          (fg_b (fn_X7_codesAlike x2 x4 x3 s4) (fun p13 s12 =>
            fg_if (p13 = 0)
              (fn_X11_linkOfWords_44 x1 x2 x3 x4 x5 s12)
              (some ((-3 : Int32), s12, 0, 0))))
          (fn_X11_linkOfWords_44 x1 x2 x3 x4 x5 s4))
        (fn_X11_linkOfWords_44 x1 x2 x3 x4 x5 s4)))
noncomputable def fn_X11_link_32 (x1 : Int32) (x2 : Int32) (x3 : Int32) (x4 : Int32) (x5 : Int32) (s : h_S) : fg_R (Int32) h_S :=
  fg_b (fn_X7_areWords x2 x3 s) (fun p5 s4 =>
    fg_if (p5 = 0)
      (some ((-1 : Int32), s4, 0, 0))
      (fg_if (x1 = (2 : Int32))
        (fg_bc (fn_X11_reply x2 x3 x4 s4) (fun p17 s16 =>
          some (p17, s16, 0, 0)))
        (fg_bc (fn_X11_linkOfWords x1 x2 x3 x4 x5 s4) (fun p10 s9 =>
          some (p10, s9, 0, 0)))))
noncomputable def fn_X11_link (x1 : Int32) (x2 : Int32) (x3 : Int32) (x4 : Int32) (x5 : Int32) (s : h_S) : fg_R (Int32) h_S :=
  fg_let (h_si s 0 18 (0 : Int32)) (fun s2 =>
    fg_b (fn_X11_within x1 (5 : Int32) s2) (fun p4 s3 =>
      fg_if (p4 = 0)
        (some ((-2 : Int32), s3, 0, 0))
        (fg_if (x3 < (1 : Int32))
          (some ((-2 : Int32), s3, 0, 0))
          (fg_if (x1 = (2 : Int32))
            (fn_X11_link_32 x1 x2 x3 x4 x5 s3)
            (fg_if ((1 : Int32) ≤ x5)
              (fn_X11_link_32 x1 x2 x3 x4 x5 s3)
              (some ((-2 : Int32), s3, 0, 0)))))))
noncomputable def fn_X11_ofLink (x1 : Int32) (x2 : Int32) (s : h_S) : Option ((Int32) × h_S) :=
  fg_b (fn_X11_linkAt x1 s) (fun p3 s2 =>
    fg_if (p3 = none)
      (some ((-1 : Int32), s2))
      (fg_if (x2 = (0 : Int32))
        (fg_o p3 (fun a6 =>
          fg_g (h_k s2 a6 = 22) (
            some ((h_i s2 a6 0), s2))))
        (fg_if (x2 = (1 : Int32))
          (fg_o p3 (fun a9 =>
            fg_g (h_k s2 a9 = 22) (
              fg_o (h_r s2 a9 1) (fun a11 =>
                fg_g (h_k s2 a11 = 1) (
                  fg_g (vp_in (0 : Int32) (h_n s2 a11)) (
                    some ((h_i s2 a11 (h_ix (0 : Int32))), s2)))))))
          (fg_if (x2 = (2 : Int32))
            (fg_o p3 (fun a15 =>
              fg_g (h_k s2 a15 = 22) (
                fg_o (h_r s2 a15 2) (fun a17 =>
                  fg_g (h_k s2 a17 = 1) (
                    fg_g (vp_in (0 : Int32) (h_n s2 a17)) (
                      some ((h_i s2 a17 (h_ix (0 : Int32))), s2)))))))
            (fg_if (x2 = (3 : Int32))
              (fg_o p3 (fun a21 =>
                fg_g (h_k s2 a21 = 22) (
                  fg_o (h_r s2 a21 1) (fun a23 =>
                    fg_g (h_k s2 a23 = 1) (
                      fg_g (vp_in (1 : Int32) (h_n s2 a23)) (
                        some ((h_i s2 a23 (h_ix (1 : Int32))), s2)))))))
              (fg_if (x2 = (4 : Int32))
                (fg_o p3 (fun a27 =>
                  fg_g (h_k s2 a27 = 22) (
                    fg_o (h_r s2 a27 2) (fun a29 =>
                      fg_g (h_k s2 a29 = 1) (
                        fg_g (vp_in (1 : Int32) (h_n s2 a29)) (
                          some ((h_i s2 a29 (h_ix (1 : Int32))), s2)))))))
                (fg_if (x2 = (5 : Int32))
                  (fg_o p3 (fun a33 =>
                    fg_g (h_k s2 a33 = 22) (
                      some ((h_i s2 a33 3), s2))))
                  (some ((-2 : Int32), s2)))))))))
noncomputable def fn_X11_ends_57b (K57 : Int32 → Option Nat → Option Nat → Int32 → Int32 → Int32 → h_S → Option ((Int32) × h_S)) (x2 : Int32) (r4 : Option Nat) (r5 : Option Nat) (x6 : Int32) (x7 : Int32) (x8 : Int32) (s : h_S) : Option ((Int32) × h_S) :=
  fg_if ((300 : Int32) ≤ x8)
    (some (x6, s))
    (fg_if (x7 = (-9 : Int32))
      (some (x6, s))
      (fg_o r5 (fun a3 =>
        fg_g (h_k s a3 = 29) (
          fg_o r4 (fun a5 =>
            fg_g (h_k s a5 = 22) (
              fg_b (fn_X1_partBehind a5 x2 (h_r s a3 2) x7 s) (fun p8 s7 =>
                K57 x2 r4 r5 (x6 + (1 : Int32)) p8 (x8 + (1 : Int32)) s7)))))))
noncomputable def fn_X11_ends_57 : Nat → Int32 → Option Nat → Option Nat → Int32 → Int32 → Int32 → h_S → Option ((Int32) × h_S)
  | 0, _, _, _, _, _, _, _ => none
  | n + 1, x2, r4, r5, x6, x7, x8, s => fn_X11_ends_57b (fn_X11_ends_57 n) x2 r4 r5 x6 x7 x8 s
noncomputable def fn_X11_ends (x1 : Int32) (x2 : Int32) (x3 : Int32) (s : h_S) : Option ((Int32) × h_S) :=
  fg_b (fn_X11_linkAt x1 s) (fun p3 s2 =>
    fg_b (fn_X11_versionAt x3 s2) (fun p6 s5 =>
      fg_if (p3 = none)
        (some ((-1 : Int32), s5))
        (fg_if (p6 = none)
          (some ((-1 : Int32), s5))
          (fg_b (fn_X11_within x2 (2 : Int32) s5) (fun p10 s9 =>
            fg_if (p10 = 0)
              (some ((-2 : Int32), s9))
              (fg_o p6 (fun a12 =>
                fg_g (h_k s9 a12 = 29) (
                  fg_o p3 (fun a14 =>
                    fg_g (h_k s9 a14 = 22) (
                      fg_b (fn_X1_partFrom a14 x2 (h_r s9 a12 2) (0 : Int32) s9) (fun p17 s16 =>
                        fn_X11_ends_57 g_N x2 p3 p6 (0 : Int32) p17 (0 : Int32) s16)))))))))))
noncomputable def fn_X11_part_111 (x2 : Int32) (x4 : Int32) (x5 : Int32) (r6 : Option Nat) (r7 : Option Nat) (x8 : Int32) (s : h_S) : Option ((Int32) × h_S) :=
  fg_if (x8 = (-9 : Int32))
    (some ((-1 : Int32), s))
    (fg_if (x4 < (300 : Int32))
      (fg_if (x5 = (0 : Int32))
        (some (x8, s))
        (fg_if (x5 = (1 : Int32))
          (fg_o r7 (fun a5 =>
            fg_g (h_k s a5 = 29) (
              fg_o (h_r s a5 2) (fun a7 =>
                fg_g (h_k s a7 = 1) (
                  fg_g (vp_in x8 (h_n s a7)) (
                    some ((h_i s a7 (h_ix x8)), s)))))))
          (fg_o r7 (fun a10 =>
            fg_g (h_k s a10 = 29) (
              fg_o r6 (fun a12 =>
                fg_g (h_k s a12 = 22) (
                  fg_b (fn_X1_partSize a12 x2 (h_r s a10 2) x8 s) (fun p15 s14 =>
                    some (p15, s14)))))))))
      (some ((-1 : Int32), s)))
noncomputable def fn_X11_part_68b (K68 : Int32 → Int32 → Int32 → Option Nat → Option Nat → Int32 → Int32 → h_S → Option ((Int32) × h_S)) (x2 : Int32) (x4 : Int32) (x5 : Int32) (r6 : Option Nat) (r7 : Option Nat) (x8 : Int32) (x9 : Int32) (s : h_S) : Option ((Int32) × h_S) :=
  fg_if ((300 : Int32) ≤ x9)
    (fn_X11_part_111 x2 x4 x5 r6 r7 x8 s)
    (fg_if (x4 ≤ x9)
      (fn_X11_part_111 x2 x4 x5 r6 r7 x8 s)
      (fg_if (x8 = (-9 : Int32))
        (fn_X11_part_111 x2 x4 x5 r6 r7 x8 s)
        (fg_o r7 (fun a4 =>
          fg_g (h_k s a4 = 29) (
            fg_o r6 (fun a6 =>
              fg_g (h_k s a6 = 22) (
                fg_b (fn_X1_partBehind a6 x2 (h_r s a4 2) x8 s) (fun p9 s8 =>
                  K68 x2 x4 x5 r6 r7 p9 (x9 + (1 : Int32)) s8))))))))
noncomputable def fn_X11_part_68 : Nat → Int32 → Int32 → Int32 → Option Nat → Option Nat → Int32 → Int32 → h_S → Option ((Int32) × h_S)
  | 0, _, _, _, _, _, _, _, _ => none
  | n + 1, x2, x4, x5, r6, r7, x8, x9, s => fn_X11_part_68b (fn_X11_part_68 n) x2 x4 x5 r6 r7 x8 x9 s
noncomputable def fn_X11_part (x1 : Int32) (x2 : Int32) (x3 : Int32) (x4 : Int32) (x5 : Int32) (s : h_S) : Option ((Int32) × h_S) :=
  fg_b (fn_X11_linkAt x1 s) (fun p3 s2 =>
    fg_b (fn_X11_versionAt x3 s2) (fun p6 s5 =>
      fg_if (p3 = none)
        (some ((-1 : Int32), s5))
        (fg_if (p6 = none)
          (some ((-1 : Int32), s5))
          (fg_if (0 ≤ x4)
            (fg_b (fn_X11_within x2 (2 : Int32) s5) (fun p11 s10 =>
              fg_if (p11 = 0)
                (some ((-2 : Int32), s10))
                (fg_b (fn_X11_within x5 (3 : Int32) s10) (fun p14 s13 =>
                  fg_if (p14 = 0)
                    (some ((-2 : Int32), s13))
                    (fg_o p6 (fun a16 =>
                      fg_g (h_k s13 a16 = 29) (
                        fg_o p3 (fun a18 =>
                          fg_g (h_k s13 a18 = 22) (
                            fg_b (fn_X1_partFrom a18 x2 (h_r s13 a16 2) (0 : Int32) s13) (fun p21 s20 =>
                              fn_X11_part_68 g_N x2 x4 x5 p3 p6 p21 (0 : Int32) s20))))))))))
            (some ((-1 : Int32), s5))))))
noncomputable def fn_X11_keepRight (r1 : Option Nat) (s : h_S) : fg_R (Int32) h_S :=
  fg_b (fn_Jx4a65c_size_8abf5 8 s) (fun p5 s4 =>
    fg_if (p5 < (20 : Int32))
      (fg_bc (fn_Jx4a65c_add_9ea2d 8 r1 s4) (fun p11 s10 =>
        fg_b (fn_Jx4a65c_size_8abf5 8 s10) (fun p20 s19 =>
          fg_b (fn_X11_acted (p20 - (1 : Int32)) s19) (fun p23 s22 =>
            some (p23, s22, 0, 0)))))
      (some ((-4 : Int32), s4, 0, 0)))
noncomputable def fn_X11_right (x1 : Int32) (x2 : Int32) (x3 : Int32) (x4 : Int32) (x5 : Int32) (s : h_S) : fg_R (Int32) h_S :=
  fg_let (h_si s 0 18 (0 : Int32)) (fun s2 =>
    fg_b (fn_X11_isWriting x1 s2) (fun p4 s3 =>
      fg_if (p4 = 0)
        (some ((-1 : Int32), s3, 0, 0))
        (fg_b (fn_X11_within x2 (4 : Int32) s3) (fun p7 s6 =>
          fg_if (p7 = 0)
            (some ((-1 : Int32), s6, 0, 0))
            (fg_b (fn_X11_refusedCells x2 x3 x4 x5 s6) (fun p11 s10 =>
              fg_if (p11 = 0)
                (fg_let (c_ad 14 s10) (fun q13 => fg_c 1 10 (
                  fg_let (h_nw s10 q13 24 10) (fun s17 =>
                    fg_b (fn_X3_init q13 x1 ((h_i s17 0 0) + (1 : Int32)) s17) (fun u_ s21 =>
                      fg_g (vp_in x2 4) (
                        fg_g (h_k s21 q13 = 24) (
                          fg_b (fn_X3_readText q13 (h_r s21 9 (h_ix x2)) x4 x5 s21) (fun p29 s28 =>
                            fg_if (p29 = (-9 : Int32))
                              (fg_bc (fn_X11_keepRight (some q13) s28) (fun p33 s32 =>
                                some (p33, s32, 0, 0)))
                              (some (((-100 : Int32) - p29), s28, 0, 0))))))))))
                (some (p11, s10, 0, 0))))))))
noncomputable def fn_X11_lend (x1 : Int32) (x2 : Int32) (x3 : Int32) (s : h_S) : fg_R (Int32) h_S :=
  fg_b (fn_Jx4a65c_size_8abf5 8 s) (fun p5 s4 =>
    fg_b (fn_X11_within x1 p5 s4) (fun p7 s6 =>
      fg_if (p7 = 0)
        (some ((-1 : Int32), s6, 0, 0))
        (fg_b (fn_X11_isHand x2 s6) (fun p11 s10 =>
          fg_if (p11 = 0)
            (some ((-1 : Int32), s10, 0, 0))
            (fg_b (fn_X11_isHand x3 s10) (fun p15 s14 =>
              fg_if (p15 = 0)
                (some ((-1 : Int32), s14, 0, 0))
                (fg_if (x2 = x3)
                  (some ((-2 : Int32), s14, 0, 0))
                  (fg_b (fn_Jx4a65c_get_915e3 8 x1 s14) (fun p22 s21 =>
                    fg_g (∀ x , p22 = some x → (h_k s21 x) = 24) (
                      fg_b (fn_X11_allows p22 x2 (2 : Int32) (h_i s21 0 0) s21) (fun p26 s25 =>
                        fg_if (p26 = 0)
                          (some ((-3 : Int32), s25, 0, 0))
                          (fg_let (c_ad 14 s25) (fun q28 => fg_c 1 10 (
                            fg_let (h_nw s25 q28 24 10) (fun s32 =>
                              fg_o p22 (fun a35 =>
                                fg_g (h_k s32 a35 = 24) (
                                  fg_b (fn_X3_init q28 (h_i s32 a35 0) ((h_i s32 0 0) + (1 : Int32)) s32) (fun u_ s38 =>
                                    fg_g (h_k s38 q28 = 24) (
                                      fg_b (fn_X3_hangOn q28 p22 x1 x3 s38) (fun u_ s41 =>
                                        fg_bc (fn_X11_keepRight (some q28) s41) (fun p45 s44 =>
                                          some (p45, s44, 0, 0))))))))))))))))))))))
noncomputable def fn_X11_take_78 (K40 : Int32 → Int32 → Int32 → h_S → Option ((Int32) × h_S)) (x1 : Int32) (x2 : Int32) (x3 : Int32) (r4 : Option Nat) (s : h_S) : Option ((Int32) × h_S) :=
  fg_o r4 (fun a1 =>
    fg_g (h_k s a1 = 24) (
      fg_b (fn_X3_isThere a1 s) (fun p4 s3 =>
        fg_if (p4 = 0)
          (K40 x1 x2 (x3 + (1 : Int32)) s3)
          (fg_o r4 (fun a7 =>
            fg_g (h_k s3 a7 = 24) (
              fg_let (h_si s3 a7 2 ((h_i s3 0 0) + (1 : Int32))) (fun s9 =>
                K40 x1 (x2 + (1 : Int32)) (x3 + (1 : Int32)) s9)))))))
noncomputable def fn_X11_take_40b (K40 : Int32 → Int32 → Int32 → h_S → Option ((Int32) × h_S)) (x1 : Int32) (x2 : Int32) (x3 : Int32) (s : h_S) : Option ((Int32) × h_S) :=
  fg_b (fn_Jx4a65c_size_8abf5 8 s) (fun p5 s4 =>
    fg_if (p5 ≤ x3)
      (fg_b (fn_X11_acted x2 s4) (fun p9 s8 =>
        some (p9, s8)))
      (fg_b (fn_Jx4a65c_get_915e3 8 x3 s4) (fun p14 s13 =>
        fg_g (∀ x , p14 = some x → (h_k s13 x) = 24) (
          fg_if (x3 = x1)
            (fn_X11_take_78 K40 x1 x2 x3 p14 s13)
            (fg_o p14 (fun a17 =>
              fg_g (h_k s13 a17 = 24) (
                fg_if ((h_i s13 a17 7) = x1)
                  (fn_X11_take_78 K40 x1 x2 x3 p14 s13)
                  (K40 x1 x2 (x3 + (1 : Int32)) s13))))))))
noncomputable def fn_X11_take_40 : Nat → Int32 → Int32 → Int32 → h_S → Option ((Int32) × h_S)
  | 0, _, _, _, _ => none
  | n + 1, x1, x2, x3, s => fn_X11_take_40b (fn_X11_take_40 n) x1 x2 x3 s
noncomputable def fn_X11_take (x1 : Int32) (s : h_S) : Option ((Int32) × h_S) :=
  fg_b (fn_Jx4a65c_size_8abf5 8 s) (fun p5 s4 =>
    fg_b (fn_X11_within x1 p5 s4) (fun p7 s6 =>
      fg_if (p7 = 0)
        (some ((-1 : Int32), s6))
        (fg_b (fn_Jx4a65c_get_915e3 8 x1 s6) (fun p13 s12 =>
          fg_g (∀ x , p13 = some x → (h_k s12 x) = 24) (
            fg_o p13 (fun a15 =>
              fg_g (h_k s12 a15 = 24) (
                fg_b (fn_X3_isThere a15 s12) (fun p18 s17 =>
                  fg_if (p18 = 0)
                    (some ((-3 : Int32), s17))
                    (fn_X11_take_40 g_N x1 (0 : Int32) (0 : Int32) s17)))))))))
noncomputable def fn_X11_ofRight (x1 : Int32) (x2 : Int32) (s : h_S) : Option ((Int32) × h_S) :=
  fg_b (fn_Jx4a65c_size_8abf5 8 s) (fun p5 s4 =>
    fg_b (fn_X11_within x1 p5 s4) (fun p7 s6 =>
      fg_if (p7 = 0)
        (some ((-1 : Int32), s6))
        (fg_b (fn_Jx4a65c_get_915e3 8 x1 s6) (fun p13 s12 =>
          fg_g (∀ x , p13 = some x → (h_k s12 x) = 24) (
            fg_if (x2 = (0 : Int32))
              (fg_o p13 (fun a16 =>
                fg_g (h_k s12 a16 = 24) (
                  some ((h_i s12 a16 0), s12))))
              (fg_if (x2 = (1 : Int32))
                (fg_o p13 (fun a19 =>
                  fg_g (h_k s12 a19 = 24) (
                    some ((h_i s12 a19 3), s12))))
                (fg_if (x2 = (2 : Int32))
                  (fg_o p13 (fun a22 =>
                    fg_g (h_k s12 a22 = 24) (
                      some ((h_i s12 a22 4), s12))))
                  (fg_if (x2 = (3 : Int32))
                    (fg_o p13 (fun a25 =>
                      fg_g (h_k s12 a25 = 24) (
                        some ((h_i s12 a25 5), s12))))
                    (fg_if (x2 = (4 : Int32))
                      (fg_o p13 (fun a28 =>
                        fg_g (h_k s12 a28 = 24) (
                          some ((h_i s12 a28 6), s12))))
                      (fg_if (x2 = (5 : Int32))
                        (fg_o p13 (fun a31 =>
                          fg_g (h_k s12 a31 = 24) (
                            some ((h_i s12 a31 7), s12))))
                        (fg_if (x2 = (6 : Int32))
                          (fg_o p13 (fun a34 =>
                            fg_g (h_k s12 a34 = 24) (
                              fg_b (fn_X3_isThere a34 s12) (fun p37 s36 =>
                                fg_if (p37 = 0)
                                  (some ((0 : Int32), s36))
                                  (some ((1 : Int32), s36))))))
                          (some ((-2 : Int32), s12)))))))))))))
noncomputable def fn_X11_may (x1 : Int32) (x2 : Int32) (x3 : Int32) (x4 : Int32) (s : h_S) : Option ((Int32) × h_S) :=
  fg_b (fn_X11_isHand x1 s) (fun p3 s2 =>
    fg_if (p3 = 0)
      (some ((-1 : Int32), s2))
      (fg_b (fn_X11_isWriting x2 s2) (fun p7 s6 =>
        fg_if (p7 = 0)
          (some ((-1 : Int32), s6))
          (fg_b (fn_X11_isMoment x4 s6) (fun p11 s10 =>
            fg_if (p11 = 0)
              (some ((-1 : Int32), s10))
              (fg_b (fn_X11_within x3 (3 : Int32) s10) (fun p14 s13 =>
                fg_if (p14 = 0)
                  (some ((-2 : Int32), s13))
                  (fg_b (fn_X11_mayUse x1 x2 x3 x4 s13) (fun p18 s17 =>
                    fg_if (p18 = 0)
                      (some ((0 : Int32), s17))
                      (some ((1 : Int32), s17)))))))))))
noncomputable def fn_X11_why (x1 : Int32) (x2 : Int32) (x3 : Int32) (x4 : Int32) (s : h_S) : Option ((Int32) × h_S) :=
  fg_b (fn_X11_isHand x1 s) (fun p3 s2 =>
    fg_if (p3 = 0)
      (some ((-1 : Int32), s2))
      (fg_b (fn_X11_isWriting x2 s2) (fun p7 s6 =>
        fg_if (p7 = 0)
          (some ((-1 : Int32), s6))
          (fg_b (fn_X11_isMoment x4 s6) (fun p11 s10 =>
            fg_if (p11 = 0)
              (some ((-1 : Int32), s10))
              (fg_b (fn_X11_within x3 (3 : Int32) s10) (fun p14 s13 =>
                fg_if (p14 = 0)
                  (some ((-2 : Int32), s13))
                  (fg_b (fn_X11_reason x1 x2 x3 x4 s13) (fun p18 s17 =>
                    some (p18, s17))))))))))
noncomputable def fn_X11_openHomes_49 (x1 : Int32) (x3 : Int32) (s : h_S) : Option ((Int32) × h_S) :=
  fg_b (fn_X11_usable x1 (0 : Int32) x3 s) (fun p3 s2 =>
    some (p3, s2))
noncomputable def fn_X11_openHomes_20 (x1 : Int32) (r2 : Option Nat) (x3 : Int32) (y0 : Int32) (s : h_S) : Option ((Int32) × h_S) :=
  fg_if (y0 = 0)
    (fg_o r2 (fun a2 =>
      fg_g (h_k s a2 = 29) (
        fg_b (fn_X8_isGivenAt a2 x3 s) (fun p5 s4 =>
          fg_if (p5 = 0)
            (some ((0 : Int32), s4))
            (fg_o r2 (fun a7 =>
              fg_g (h_k s4 a7 = 29) (
                fg_b (fn_X11_mayUse x1 (h_i s4 a7 0) (0 : Int32) x3 s4) (fun p11 s10 =>
                  fg_if (p11 = 0)
                    (some ((0 : Int32), s10))
                    (fn_X11_openHomes_49 x1 x3 s10)))))))))
    (fn_X11_openHomes_49 x1 x3 s)
noncomputable def fn_X11_openHomes (x1 : Int32) (r2 : Option Nat) (x3 : Int32) (s : h_S) : Option ((Int32) × h_S) :=
  fg_o r2 (fun a2 =>
    fg_g (h_k s a2 = 29) (
      fg_b (fn_X7_ownerOf (h_i s a2 0) s) (fun p7 s6 =>
        fg_if (p7 = x1)
          (fn_X11_openHomes_20 x1 r2 x3 (1 : Int32) s6)
          (fn_X11_openHomes_20 x1 r2 x3 (0 : Int32) s6))))
noncomputable def fn_X11_view (x1 : Int32) (x2 : Int32) (x3 : Int32) (x4 : Int32) (s : h_S) : Option ((Int32) × h_S) :=
  fg_b (fn_X11_versionAt x2 s) (fun p3 s2 =>
    fg_b (fn_X11_isHand x1 s2) (fun p6 s5 =>
      fg_if (p6 = 0)
        (some ((-1 : Int32), s5))
        (fg_if (p3 = none)
          (some ((-1 : Int32), s5))
          (fg_o p3 (fun a9 =>
            fg_g (h_k s5 a9 = 29) (
              fg_o (h_r s5 a9 2) (fun a11 =>
                fg_g (h_k s5 a11 = 1) (
                  fg_b (fn_X11_within x3 (Int32.ofNat (h_n s5 a11)) s5) (fun p14 s13 =>
                    fg_if (p14 = 0)
                      (some ((-1 : Int32), s13))
                      (fg_b (fn_X11_isMoment x4 s13) (fun p18 s17 =>
                        fg_if (p18 = 0)
                          (some ((-1 : Int32), s17))
                          (fg_o p3 (fun a20 =>
                            fg_g (h_k s17 a20 = 29) (
                              fg_if ((h_i s17 a20 1) ≤ x4)
                                (fg_b (fn_X11_openHomes x1 p3 x4 s17) (fun p25 s24 =>
                                  fg_o p3 (fun a26 =>
                                    fg_g (h_k s24 a26 = 29) (
                                      fg_o (h_r s24 a26 2) (fun a28 =>
                                        fg_g (h_k s24 a28 = 1) (
                                          fg_g (vp_in x3 (h_n s24 a28)) (
                                            fg_b (fn_X7_isIn (h_i s24 a28 (h_ix x3)) p25 s24) (fun p35 s34 =>
                                              fg_if (p35 = 0)
                                                (some ((-7 : Int32), s34))
                                                (some ((h_i s24 a28 (h_ix x3)), s34))))))))))
                                (some ((-3 : Int32), s17))))))))))))))))
noncomputable def fn_X11_rule (x1 : Int32) (x2 : Int32) (s : h_S) : Option ((Int32) × h_S) :=
  fg_b (fn_X11_within x1 (100 : Int32) s) (fun p2 s1 =>
    fg_if (p2 = 0)
      (some ((-2 : Int32), s1))
      (fg_b (fn_X11_within x2 (11 : Int32) s1) (fun p5 s4 =>
        fg_if (p5 = 0)
          (some ((-2 : Int32), s4))
          (fg_let (h_si s4 0 12 (((100 : Int32) * x1) + x2)) (fun s8 =>
            fg_b (fn_X11_acted (h_i s4 0 12) s8) (fun p10 s9 =>
              some (p10, s9)))))))
noncomputable def fn_X11_owe_59 (x1 : Int32) (x2 : Int32) (x3 : Int32) (x4 : Int32) (y0 : Int32) (s : h_S) : Option ((Int32) × h_S) :=
  fg_g (vp_in ((x1 * (8 : Int32)) + x2) 64) (
    fg_g (vp_in ((x1 * (8 : Int32)) + x2) 64) (
      fg_let (h_si s 11 (h_ix ((x1 * (8 : Int32)) + x2)) ((h_i s 11 (h_ix ((x1 * (8 : Int32)) + x2))) + y0)) (fun s8 =>
        fg_g (vp_in ((x1 * (8 : Int32)) + x3) 64) (
          fg_g (vp_in ((x1 * (8 : Int32)) + x3) 64) (
            fg_let (h_si s8 11 (h_ix ((x1 * (8 : Int32)) + x3)) ((h_i s8 11 (h_ix ((x1 * (8 : Int32)) + x3))) + (x4 - y0))) (fun s15 =>
              some (x4, s15)))))))
noncomputable def fn_X11_owe_42 (x1 : Int32) (x2 : Int32) (x3 : Int32) (x4 : Int32) (s : h_S) : Option ((Int32) × h_S) :=
  fn_X11_owe_59 x1 x2 x3 x4 (0 : Int32) s
noncomputable def fn_X11_owe (x1 : Int32) (x2 : Int32) (x3 : Int32) (s : h_S) : Option ((Int32) × h_S) :=
  fg_if (x3 = x1)
    (some ((0 : Int32), s))
    (fg_b (fn_X11_isHand x3 s) (fun p4 s3 =>
      fg_if (p4 = 0)
        (some ((0 : Int32), s3))
        (fg_b (fn_X11_isHand x2 s3) (fun p8 s7 =>
          fg_if (p8 = 0)
            (some ((0 : Int32), s7))
            (fg_let ((h_i s7 0 12) / (100 : Int32)) (fun v12 =>
              fg_if (x2 = x3)
                (fn_X11_owe_42 x1 x2 x3 v12 s7)
                (fg_if (x2 = x1)
                  (fn_X11_owe_42 x1 x2 x3 v12 s7)
                  (fn_X11_owe_59 x1 x2 x3 v12 ((v12 * ((h_i s7 0 12) - (h_i s7 0 12) / (100 : Int32) * (100 : Int32))) / (10 : Int32)) s7))))))))
noncomputable def fn_X11_read_52b (K52 : Int32 → Option Nat → Int32 → Int32 → Int32 → Option Nat → Int32 → Int32 → h_S → Option ((Int32) × h_S)) (x1 : Int32) (r3 : Option Nat) (x4 : Int32) (x5 : Int32) (x6 : Int32) (r7 : Option Nat) (x8 : Int32) (x9 : Int32) (s : h_S) : Option ((Int32) × h_S) :=
  fg_if (x8 ≤ x9)
    (fg_if (x5 = 0)
      (some ((-3 : Int32), s))
      (fg_b (fn_X11_acted x6 s) (fun p5 s4 =>
        some (p5, s4))))
    (fg_o r7 (fun a6 =>
      fg_g (h_k s a6 = 1) (
        fg_g (vp_in x9 (h_n s a6)) (
          fg_b (fn_X7_isIn (h_i s a6 (h_ix x9)) x4 s) (fun p13 s12 =>
            fg_if (p13 = 0)
              (K52 x1 r3 x4 x5 x6 r7 x8 (x9 + (1 : Int32)) s12)
              (fg_o r3 (fun a16 =>
                fg_g (h_k s12 a16 = 29) (
                  fg_b (fn_X7_ownerOf (h_i s12 a16 0) s12) (fun p21 s20 =>
                    fg_b (fn_X7_handOf (h_i s a6 (h_ix x9)) s20) (fun p26 s25 =>
                      fg_b (fn_X11_owe x1 p21 p26 s25) (fun p29 s28 =>
                        K52 x1 r3 x4 (1 : Int32) (x6 + p29) r7 x8 (x9 + (1 : Int32)) s28)))))))))))
noncomputable def fn_X11_read_52 : Nat → Int32 → Option Nat → Int32 → Int32 → Int32 → Option Nat → Int32 → Int32 → h_S → Option ((Int32) × h_S)
  | 0, _, _, _, _, _, _, _, _, _ => none
  | n + 1, x1, r3, x4, x5, x6, r7, x8, x9, s => fn_X11_read_52b (fn_X11_read_52 n) x1 r3 x4 x5 x6 r7 x8 x9 s
noncomputable def fn_X11_read (x1 : Int32) (x2 : Int32) (s : h_S) : Option ((Int32) × h_S) :=
  fg_b (fn_X11_versionAt x2 s) (fun p3 s2 =>
    fg_b (fn_X11_isHand x1 s2) (fun p6 s5 =>
      fg_if (p6 = 0)
        (some ((-1 : Int32), s5))
        (fg_if (p3 = none)
          (some ((-1 : Int32), s5))
          (fg_b (fn_X11_openHomes x1 p3 (h_i s5 0 0) s5) (fun p11 s10 =>
            fg_o p3 (fun a12 =>
              fg_g (h_k s10 a12 = 29) (
                fg_o (h_r s10 a12 2) (fun a14 =>
                  fg_g (h_k s10 a14 = 1) (
                    fn_X11_read_52 g_N x1 p3 p11 (0 : Int32) (0 : Int32) (h_r s10 a12 2) (Int32.ofNat (h_n s10 a14)) (0 : Int32) s10)))))))))
noncomputable def fn_X11_owes (x1 : Int32) (x2 : Int32) (s : h_S) : Option ((Int32) × h_S) :=
  fg_b (fn_X11_isHand x1 s) (fun p3 s2 =>
    fg_if (p3 = 0)
      (some ((-1 : Int32), s2))
      (fg_b (fn_X11_isHand x2 s2) (fun p7 s6 =>
        fg_if (p7 = 0)
          (some ((-1 : Int32), s6))
          (fg_g (vp_in ((x1 * (8 : Int32)) + x2) 64) (
            some ((h_i s6 11 (h_ix ((x1 * (8 : Int32)) + x2))), s6))))))
noncomputable def fn_X11_pay (x1 : Int32) (x2 : Int32) (x3 : Int32) (s : h_S) : Option ((Int32) × h_S) :=
  fg_b (fn_X11_isHand x1 s) (fun p3 s2 =>
    fg_if (p3 = 0)
      (some ((-1 : Int32), s2))
      (fg_b (fn_X11_isHand x2 s2) (fun p7 s6 =>
        fg_if (p7 = 0)
          (some ((-1 : Int32), s6))
          (fg_if ((1 : Int32) ≤ x3)
            (fg_g (vp_in ((x1 * (8 : Int32)) + x2) 64) (
              fg_if (x3 ≤ (h_i s6 11 (h_ix ((x1 * (8 : Int32)) + x2))))
                (fg_g (vp_in ((x1 * (8 : Int32)) + x2) 64) (
                  fg_g (vp_in ((x1 * (8 : Int32)) + x2) 64) (
                    fg_let (h_si s6 11 (h_ix ((x1 * (8 : Int32)) + x2)) ((h_i s6 11 (h_ix ((x1 * (8 : Int32)) + x2))) - x3)) (fun s21 =>
                      fg_g (vp_in ((x1 * (8 : Int32)) + x2) 64) (
                        fg_b (fn_X11_acted (h_i s21 11 (h_ix ((x1 * (8 : Int32)) + x2))) s21) (fun p26 s25 =>
                          some (p26, s25)))))))
                (some ((-3 : Int32), s6))))
            (some ((-2 : Int32), s6))))))
noncomputable def fn_X11_steps (x1 : Int32) (x2 : Int32) (s : h_S) : fg_R (Int32) h_S :=
  fg_b (fn_X11_versionAt x1 s) (fun p3 s2 =>
    fg_if (p3 = none)
      (some ((-1 : Int32), s2, 0, 0))
      (fg_o p3 (fun a5 =>
        fg_g (h_k s2 a5 = 29) (
          fg_o (h_r s2 a5 2) (fun a7 =>
            fg_g (h_k s2 a7 = 1) (
              fg_b (fn_X11_within x2 (Int32.ofNat (h_n s2 a7)) s2) (fun p10 s9 =>
                fg_if (p10 = 0)
                  (some ((-1 : Int32), s9, 0, 0))
                  (fg_o p3 (fun a12 =>
                    fg_g (h_k s9 a12 = 29) (
                      fg_o (h_r s9 a12 2) (fun a14 =>
                        fg_g (h_k s9 a14 = 1) (
                          fg_g (vp_in x2 (h_n s9 a14)) (
                            fg_if ((h_i s9 a14 (h_ix x2)) = (-7 : Int32))
                              (some ((-3 : Int32), s9, 0, 0))
                              (fg_o p3 (fun a19 =>
                                fg_g (h_k s9 a19 = 29) (
                                  fg_o p3 (fun a21 =>
                                    fg_g (h_k s9 a21 = 29) (
                                      fg_bc (fn_X7_follow (h_i s9 a19 0) (h_i s9 a21 1) x2 s9) (fun p26 s25 =>
                                        some (p26, s25, 0, 0))))))))))))))))))))
noncomputable def fn_X11_chain (x1 : Int32) (x2 : Int32) (x3 : Int32) (s : h_S) : fg_R (Int32) h_S :=
  fg_bc (fn_X11_steps x1 x2 s) (fun p3 s2 =>
    fg_if (0 ≤ p3)
      (fg_b (fn_X11_within x3 p3 s2) (fun p10 s9 =>
        fg_if (p10 = 0)
          (some ((-1 : Int32), s9, 0, 0))
          (fg_g (vp_in x3 6) (
            some ((h_i s9 29 (h_ix x3)), s9, 0, 0)))))
      (some (p3, s2, 0, 0)))
noncomputable def fn_X11_quotes (x1 : Int32) (x2 : Int32) (s : h_S) : Option ((Int32) × h_S) :=
  fg_b (fn_X11_isWriting x1 s) (fun p3 s2 =>
    fg_if (p3 = 0)
      (some ((-1 : Int32), s2))
      (fg_b (fn_X11_isWriting x2 s2) (fun p7 s6 =>
        fg_if (p7 = 0)
          (some ((-1 : Int32), s6))
          (fg_b (fn_X7_stepsBetween x1 x2 (0 : Int32) s6) (fun p13 s12 =>
            some (p13, s12))))))
noncomputable def fn_X11_standsAt_3b (K3 : Option Nat → Int32 → Int32 → Option Nat → Int32 → Int32 → Int32 → h_S → Option ((Int32) × h_S)) (r1 : Option Nat) (x2 : Int32) (x3 : Int32) (r4 : Option Nat) (x5 : Int32) (x6 : Int32) (x7 : Int32) (s : h_S) : Option ((Int32) × h_S) :=
  fg_if (x6 ≤ x7)
    (some (1, s))
    (fg_o r1 (fun a2 =>
      fg_g (h_k s a2 = 29) (
        fg_b (fn_X8_placeAt a2 (x2 + x7) s) (fun p5 s4 =>
          fg_b (fn_X7_isIn p5 x3 s4) (fun p10 s9 =>
            fg_if (p10 = 0)
              (some (0, s9))
              (fg_b (fn_X7_codeOf p5 s9) (fun p16 s15 =>
                fg_o r4 (fun a17 =>
                  fg_g (h_k s15 a17 = 26) (
                    fg_b (fn_X5_cellAt a17 (x5 + x7) s15) (fun p20 s19 =>
                      fg_if (p16 = p20)
                        (K3 r1 x2 x3 r4 x5 x6 (x7 + (1 : Int32)) s19)
                        (some (0, s19))))))))))))
noncomputable def fn_X11_standsAt_3 : Nat → Option Nat → Int32 → Int32 → Option Nat → Int32 → Int32 → Int32 → h_S → Option ((Int32) × h_S)
  | 0, _, _, _, _, _, _, _, _ => none
  | n + 1, r1, x2, x3, r4, x5, x6, x7, s => fn_X11_standsAt_3b (fn_X11_standsAt_3 n) r1 x2 x3 r4 x5 x6 x7 s
noncomputable def fn_X11_standsAt (r1 : Option Nat) (x2 : Int32) (x3 : Int32) (r4 : Option Nat) (x5 : Int32) (x6 : Int32) (s : h_S) : Option ((Int32) × h_S) :=
  fn_X11_standsAt_3 g_N r1 x2 x3 r4 x5 x6 (0 : Int32) s
noncomputable def fn_X11_linksWith_4b (K4 : Int32 → Int32 → Int32 → h_S → Option ((Int32) × h_S)) (x1 : Int32) (x2 : Int32) (x3 : Int32) (s : h_S) : Option ((Int32) × h_S) :=
  fg_b (fn_Jx4a65c_size_8abf5 6 s) (fun p5 s4 =>
    fg_if (p5 ≤ x3)
      (some (x2, s4))
      (fg_b (fn_Jx4a65c_get_915e3 6 x3 s4) (fun p11 s10 =>
        fg_g (∀ x , p11 = some x → (h_k s10 x) = 22) (
          fg_o p11 (fun a13 =>
            fg_g (h_k s10 a13 = 22) (
              fg_b (fn_X1_holds a13 x1 s10) (fun p16 s15 =>
                fg_if (p16 = 0)
                  (K4 x1 x2 (x3 + (1 : Int32)) s15)
                  (K4 x1 (x2 + (1 : Int32)) (x3 + (1 : Int32)) s15))))))))
noncomputable def fn_X11_linksWith_4 : Nat → Int32 → Int32 → Int32 → h_S → Option ((Int32) × h_S)
  | 0, _, _, _, _ => none
  | n + 1, x1, x2, x3, s => fn_X11_linksWith_4b (fn_X11_linksWith_4 n) x1 x2 x3 s
noncomputable def fn_X11_linksWith (x1 : Int32) (s : h_S) : Option ((Int32) × h_S) :=
  fn_X11_linksWith_4 g_N x1 (0 : Int32) (0 : Int32) s
noncomputable def fn_X11_linksOfHit (x0 : Int32) (s : h_S) : Option ((Int32) × h_S) :=
  some ((h_min (x0 / (4800 : Int32)) (24 : Int32)), s)
noncomputable def fn_X11_keepHits_113 (K69 : Int32 → Nat → Int32 → h_S → fg_R (Unit) h_S) (x1 : Int32) (o2 : Nat) (x4 : Int32) (x5 : Int32) (s : h_S) : fg_R (Unit) h_S :=
  fg_g (h_k s o2 = 1) (
    fg_g (vp_in x5 (h_n s o2)) (
      fg_g (vp_in x5 (h_n s o2)) (
        fg_let (h_si s o2 (h_ix x5) ((h_i s o2 (h_ix x5)) + (1 : Int32))) (fun s4 =>
          K69 x1 o2 (x4 + (1 : Int32)) s4))))
noncomputable def fn_X11_keepHits_69b (K69 : Int32 → Nat → Int32 → h_S → fg_R (Unit) h_S) (x1 : Int32) (o2 : Nat) (x4 : Int32) (s : h_S) : fg_R (Unit) h_S :=
  fg_if (x1 ≤ x4)
    (fg_let (h_si s 0 15 (h_min x1 (200 : Int32))) (fun s3 =>
      some ((), s3, 0, 0)))
    (fg_g (vp_in x4 4800) (
      fg_b (fn_X11_linksOfHit (h_i s 12 (h_ix x4)) s) (fun p9 s8 =>
        fg_g (h_k s8 o2 = 1) (
          fg_g (vp_in p9 (h_n s8 o2)) (
            fg_if ((200 : Int32) ≤ (h_i s8 o2 (h_ix p9)))
              (fn_X11_keepHits_113 K69 x1 o2 x4 p9 s8)
              (fg_g (vp_in p9 (h_n s8 o2)) (
                fg_g (vp_in x4 4800) (
                  fg_g (vp_in (h_i s8 o2 (h_ix p9)) 200) (
                    fg_let (h_si s8 13 (h_ix (h_i s8 o2 (h_ix p9))) (h_i s8 12 (h_ix x4))) (fun s21 =>
                      fn_X11_keepHits_113 K69 x1 o2 x4 p9 s21))))))))))
noncomputable def fn_X11_keepHits_69 : Nat → Int32 → Nat → Int32 → h_S → fg_R (Unit) h_S
  | 0, _, _, _, _ => none
  | n + 1, x1, o2, x4, s => fn_X11_keepHits_69b (fn_X11_keepHits_69 n) x1 o2 x4 s
noncomputable def fn_X11_keepHits_39b (K39 : Int32 → Nat → Int32 → Int32 → h_S → fg_R (Unit) h_S) (x1 : Int32) (o2 : Nat) (x3 : Int32) (x4 : Int32) (s : h_S) : fg_R (Unit) h_S :=
  fg_if (x4 < 0)
    (fn_X11_keepHits_69 g_N x1 o2 (0 : Int32) s)
    (fg_g (h_k s o2 = 1) (
      fg_g (vp_in x4 (h_n s o2)) (
        fg_g (vp_in x4 (h_n s o2)) (
          fg_let (h_si s o2 (h_ix x4) x3) (fun s5 =>
            K39 x1 o2 (x3 + (h_i s o2 (h_ix x4))) (x4 + (-1 : Int32)) s5)))))
noncomputable def fn_X11_keepHits_39 : Nat → Int32 → Nat → Int32 → Int32 → h_S → fg_R (Unit) h_S
  | 0, _, _, _, _, _ => none
  | n + 1, x1, o2, x3, x4, s => fn_X11_keepHits_39b (fn_X11_keepHits_39 n) x1 o2 x3 x4 s
noncomputable def fn_X11_keepHits_7b (K7 : Int32 → Nat → Int32 → h_S → fg_R (Unit) h_S) (x1 : Int32) (o2 : Nat) (x3 : Int32) (s : h_S) : fg_R (Unit) h_S :=
  fg_if (x1 ≤ x3)
    (fn_X11_keepHits_39 g_N x1 o2 (0 : Int32) (24 : Int32) s)
    (fg_g (vp_in x3 4800) (
      fg_b (fn_X11_linksOfHit (h_i s 12 (h_ix x3)) s) (fun p7 s6 =>
        fg_g (h_k s6 o2 = 1) (
          fg_g (vp_in p7 (h_n s6 o2)) (
            fg_g (vp_in p7 (h_n s6 o2)) (
              fg_let (h_si s6 o2 (h_ix p7) ((h_i s6 o2 (h_ix p7)) + (1 : Int32))) (fun s11 =>
                K7 x1 o2 (x3 + (1 : Int32)) s11)))))))
noncomputable def fn_X11_keepHits_7 : Nat → Int32 → Nat → Int32 → h_S → fg_R (Unit) h_S
  | 0, _, _, _, _ => none
  | n + 1, x1, o2, x3, s => fn_X11_keepHits_7b (fn_X11_keepHits_7 n) x1 o2 x3 s
noncomputable def fn_X11_keepHits (x1 : Int32) (s : h_S) : fg_R (Unit) h_S :=
  fg_let (c_ad 15 s) (fun q1 => fg_c 1 26 (
    fg_let (h_nw s q1 1 26) (fun s5 =>
      fn_X11_keepHits_7 g_N x1 q1 (0 : Int32) s5)))
noncomputable def fn_X11_seek_99b (K57 : Int32 → Int32 → Int32 → Int32 → Int32 → Int32 → h_S → fg_R (Int32) h_S) (K99 : Int32 → Int32 → Int32 → Int32 → Int32 → Int32 → Option Nat → Int32 → Int32 → h_S → fg_R (Int32) h_S) (x1 : Int32) (x2 : Int32) (x4 : Int32) (x5 : Int32) (x7 : Int32) (x8 : Int32) (r9 : Option Nat) (x10 : Int32) (x11 : Int32) (s : h_S) : fg_R (Int32) h_S :=
  fg_o r9 (fun a1 =>
    fg_g (h_k s a1 = 29) (
      fg_o (h_r s a1 2) (fun a3 =>
        fg_g (h_k s a3 = 1) (
          fg_if (((Int32.ofNat (h_n s a3)) - x5) < x11)
            (K57 x1 x2 x4 x5 x7 (x8 + (1 : Int32)) s)
            (fg_if ((Int32.ofNat (h_n s 12)) ≤ x7)
              (K99 x1 x2 x4 x5 x7 x8 r9 x10 (x11 + (1 : Int32)) s)
              (fg_g (vp_in x2 4) (
                fg_b (fn_X11_standsAt r9 x11 x10 (h_r s 9 (h_ix x2)) x4 x5 s) (fun p14 s13 =>
                  fg_if (p14 = 0)
                    (K99 x1 x2 x4 x5 x7 x8 r9 x10 (x11 + (1 : Int32)) s13)
                    (fg_o r9 (fun a17 =>
                      fg_g (h_k s13 a17 = 29) (
                        fg_o (h_r s13 a17 2) (fun a19 =>
                          fg_g (h_k s13 a19 = 1) (
                            fg_g (vp_in x11 (h_n s13 a19)) (
                              fg_b (fn_X11_linksWith (h_i s13 a19 (h_ix x11)) s13) (fun p23 s22 =>
                                fg_g (vp_in x7 4800) (
                                  fg_let (h_si s22 12 (h_ix x7) ((((p23 * (16 : Int32)) + x8) * (300 : Int32)) + x11)) (fun s27 =>
                                    K99 x1 x2 x4 x5 (x7 + (1 : Int32)) x8 r9 x10 (x11 + (1 : Int32)) s27)))))))))))))))))
noncomputable def fn_X11_seek_99 (K57 : Int32 → Int32 → Int32 → Int32 → Int32 → Int32 → h_S → fg_R (Int32) h_S) : Nat → Int32 → Int32 → Int32 → Int32 → Int32 → Int32 → Option Nat → Int32 → Int32 → h_S → fg_R (Int32) h_S
  | 0, _, _, _, _, _, _, _, _, _, _ => none
  | n + 1, x1, x2, x4, x5, x7, x8, r9, x10, x11, s => fn_X11_seek_99b K57 (fn_X11_seek_99 K57 n) x1 x2 x4 x5 x7 x8 r9 x10 x11 s
noncomputable def fn_X11_seek_57b (K57 : Int32 → Int32 → Int32 → Int32 → Int32 → Int32 → h_S → fg_R (Int32) h_S) (x1 : Int32) (x2 : Int32) (x4 : Int32) (x5 : Int32) (x7 : Int32) (x8 : Int32) (s : h_S) : fg_R (Int32) h_S :=
  fg_b (fn_Jx4a65c_size_8abf5 4 s) (fun p5 s4 =>
    fg_if (p5 ≤ x8)
      (fg_bc (fn_X11_keepHits x7 s4) (fun u_ s8 =>
        some (x7, s8, 0, 0)))
      (fg_b (fn_Jx4a65c_get_915e3 4 x8 s4) (fun p18 s17 =>
        fg_g (∀ x , p18 = some x → (h_k s17 x) = 29) (
          fg_b (fn_X11_openHomes x1 p18 (h_i s17 0 0) s17) (fun p22 s21 =>
            fn_X11_seek_99 K57 g_N x1 x2 x4 x5 x7 x8 p18 p22 (0 : Int32) s21)))))
noncomputable def fn_X11_seek_57 : Nat → Int32 → Int32 → Int32 → Int32 → Int32 → Int32 → h_S → fg_R (Int32) h_S
  | 0, _, _, _, _, _, _, _ => none
  | n + 1, x1, x2, x4, x5, x7, x8, s => fn_X11_seek_57b (fn_X11_seek_57 n) x1 x2 x4 x5 x7 x8 s
noncomputable def fn_X11_seek (x1 : Int32) (x2 : Int32) (x3 : Int32) (x4 : Int32) (x5 : Int32) (s : h_S) : fg_R (Int32) h_S :=
  fg_let (h_si s 0 18 (0 : Int32)) (fun s2 =>
    fg_b (fn_X11_isHand x1 s2) (fun p4 s3 =>
      fg_if (p4 = 0)
        (some ((-1 : Int32), s3, 0, 0))
        (fg_b (fn_X11_within x2 (4 : Int32) s3) (fun p7 s6 =>
          fg_if (p7 = 0)
            (some ((-1 : Int32), s6, 0, 0))
            (fg_b (fn_X11_refusedCells x2 x3 x4 x5 s6) (fun p11 s10 =>
              fg_if (p11 = 0)
                (fg_if (x5 = 0)
                  (some ((-2 : Int32), s10, 0, 0))
                  (fn_X11_seek_57 g_N x1 x2 x4 x5 (0 : Int32) (0 : Int32) s10))
                (some (p11, s10, 0, 0))))))))
noncomputable def fn_X11_hit (x1 : Int32) (x2 : Int32) (s : h_S) : Option ((Int32) × h_S) :=
  fg_b (fn_X11_within x1 (h_i s 0 15) s) (fun p3 s2 =>
    fg_if (p3 = 0)
      (some ((-1 : Int32), s2))
      (fg_if (x2 = (0 : Int32))
        (fg_g (vp_in x1 200) (
          some ((((h_i s2 13 (h_ix x1)) / (300 : Int32)) - ((h_i s2 13 (h_ix x1)) / (300 : Int32)) / (16 : Int32) * (16 : Int32)), s2)))
        (fg_if (x2 = (1 : Int32))
          (fg_g (vp_in x1 200) (
            some (((h_i s2 13 (h_ix x1)) - (h_i s2 13 (h_ix x1)) / (300 : Int32) * (300 : Int32)), s2)))
          (fg_if (x2 = (2 : Int32))
            (fg_g (vp_in x1 200) (
              fg_b (fn_X11_linksOfHit (h_i s2 13 (h_ix x1)) s2) (fun p24 s23 =>
                some (p24, s23))))
            (some ((-2 : Int32), s2))))))
noncomputable def fn_X11_growTree_73 (K2 : Int32 → Int32 → h_S → Option ((Unit) × h_S)) (x1 : Int32) (x2 : Int32) (y0 : Int32) (y1 : Int32) (t2 : Option Nat) (s : h_S) : Option ((Unit) × h_S) :=
  fg_o t2 (fun a1 =>
    fg_g (h_k s a1 = 1) (
      fg_g (vp_in y1 (h_n s a1)) (
        fg_let (h_si s a1 (h_ix y1) y0) (fun s4 =>
          K2 x1 (x2 + (1 : Int32)) s4))))
noncomputable def fn_X11_growTree_35 (K2 : Int32 → Int32 → h_S → Option ((Unit) × h_S)) (x1 : Int32) (x2 : Int32) (r3 : Option Nat) (y0 : Int32) (s : h_S) : Option ((Unit) × h_S) :=
  fg_if (y0 = 0)
    (fn_X11_growTree_73 K2 x1 x2 (0 : Int32) ((512 : Int32) + x2) (h_r s 0 16) s)
    (fg_o r3 (fun a3 =>
      fg_g (h_k s a3 = 31) (
        fg_o r3 (fun a5 =>
          fg_g (h_k s a5 = 31) (
            fg_b (fn_X11_mix (h_i s a3 1) (h_i s a5 0) s) (fun p8 s7 =>
              fg_o r3 (fun a9 =>
                fg_g (h_k s7 a9 = 31) (
                  fg_b (fn_X11_mix p8 (h_i s7 a9 3) s7) (fun p12 s11 =>
                    fn_X11_growTree_73 K2 x1 x2 p12 ((512 : Int32) + x2) (h_r s 0 16) s11)))))))))
noncomputable def fn_X11_growTree_34 (K2 : Int32 → Int32 → h_S → Option ((Unit) × h_S)) (x1 : Int32) (x2 : Int32) (r3 : Option Nat) (s : h_S) : Option ((Unit) × h_S) :=
  fn_X11_growTree_35 K2 x1 x2 r3 (0 : Int32) s
noncomputable def fn_X11_growTree_84b (K84 : Int32 → h_S → Option ((Unit) × h_S)) (x2 : Int32) (s : h_S) : Option ((Unit) × h_S) :=
  fg_if (x2 ≤ 0)
    (some ((), s))
    (fg_g (vp_in ((2 : Int32) * x2) 1024) (
      fg_g (vp_in (((2 : Int32) * x2) + (1 : Int32)) 1024) (
        fg_b (fn_X11_mix (h_i s 14 (h_ix ((2 : Int32) * x2))) (h_i s 14 (h_ix (((2 : Int32) * x2) + (1 : Int32)))) s) (fun p10 s9 =>
          fg_g (vp_in x2 1024) (
            fg_let (h_si s9 14 (h_ix x2) p10) (fun s14 =>
              K84 (x2 + (-1 : Int32)) s14))))))
noncomputable def fn_X11_growTree_84 : Nat → Int32 → h_S → Option ((Unit) × h_S)
  | 0, _, _ => none
  | n + 1, x2, s => fn_X11_growTree_84b (fn_X11_growTree_84 n) x2 s
noncomputable def fn_X11_growTree_2b (K2 : Int32 → Int32 → h_S → Option ((Unit) × h_S)) (x1 : Int32) (x2 : Int32) (s : h_S) : Option ((Unit) × h_S) :=
  fg_if ((512 : Int32) ≤ x2)
    (fn_X11_growTree_84 g_N (511 : Int32) s)
    (fg_b (fn_X7_wordAt x2 s) (fun p6 s5 =>
      fg_if (p6 = none)
        (fn_X11_growTree_34 K2 x1 x2 p6 s5)
        (fg_o p6 (fun a8 =>
          fg_g (h_k s5 a8 = 31) (
            fg_if (x1 < (h_i s5 a8 3))
              (fn_X11_growTree_34 K2 x1 x2 p6 s5)
              (fn_X11_growTree_35 K2 x1 x2 p6 (1 : Int32) s5))))))
noncomputable def fn_X11_growTree_2 : Nat → Int32 → Int32 → h_S → Option ((Unit) × h_S)
  | 0, _, _, _ => none
  | n + 1, x1, x2, s => fn_X11_growTree_2b (fn_X11_growTree_2 n) x1 x2 s
noncomputable def fn_X11_growTree (x1 : Int32) (s : h_S) : Option ((Unit) × h_S) :=
  fn_X11_growTree_2 g_N x1 (0 : Int32) s
noncomputable def fn_X11_seal (x1 : Int32) (s : h_S) : Option ((Int32) × h_S) :=
  fg_b (fn_X11_isMoment x1 s) (fun p3 s2 =>
    fg_if (p3 = 0)
      (some ((0 : Int32), s2))
      (fg_b (fn_X11_growTree x1 s2) (fun u_ s6 =>
        fg_g (vp_in (1 : Int32) 1024) (
          some ((h_i s6 14 (h_ix (1 : Int32))), s6)))))
noncomputable def fn_X11_sideInTree (x1 : Int32) (x2 : Int32) (s : h_S) : Option ((Int32) × h_S) :=
  fg_let ((((512 : Int32) + x1) >>> (x2 &&& 31)) ^^^ (1 : Int32)) (fun v1 =>
    fg_b (fn_X11_within v1 (Int32.ofNat (h_n s 14)) s) (fun p6 s5 =>
      fg_if (p6 = 0)
        (some ((0 : Int32), s5))
        (fg_g (vp_in v1 1024) (
          some ((h_i s5 14 (h_ix v1)), s5)))))
noncomputable def fn_X11_side (x1 : Int32) (x2 : Int32) (x3 : Int32) (s : h_S) : Option ((Int32) × h_S) :=
  fg_b (fn_X7_wordCount s) (fun p5 s4 =>
    fg_b (fn_X11_within x1 p5 s4) (fun p7 s6 =>
      fg_if (p7 = 0)
        (some ((0 : Int32), s6))
        (fg_b (fn_X11_isMoment x2 s6) (fun p11 s10 =>
          fg_if (p11 = 0)
            (some ((0 : Int32), s10))
            (fg_b (fn_X11_within x3 (9 : Int32) s10) (fun p14 s13 =>
              fg_if (p14 = 0)
                (some ((0 : Int32), s13))
                (fg_b (fn_X11_growTree x2 s13) (fun u_ s17 =>
                  fg_b (fn_X11_sideInTree x1 x3 s17) (fun p21 s20 =>
                    some (p21, s20))))))))))
noncomputable def fn_X11_prove_78b (K78 : Int32 → Int32 → Int32 → Int32 → Int32 → h_S → Option ((Int32) × h_S)) (x1 : Int32) (x6 : Int32) (x8 : Int32) (x10 : Int32) (x11 : Int32) (s : h_S) : Option ((Int32) × h_S) :=
  fg_if ((9 : Int32) ≤ x11)
    (fg_g (vp_in (1 : Int32) 1024) (
      fg_if (x10 = (h_i s 14 (h_ix (1 : Int32))))
        (some ((1 : Int32), s))
        (some ((0 : Int32), s))))
    (fg_b (fn_X11_sideInTree x1 x11 s) (fun p9 s8 =>
      fg_g (vp_in x6 4) (
        fg_o (h_r s8 9 (h_ix x6)) (fun a14 =>
          fg_g (h_k s8 a14 = 26) (
            fg_b (fn_X5_cellAt a14 (x8 + x11) s8) (fun p17 s16 =>
              fg_if (p17 = p9)
                (fg_if (((x1 >>> (x11 &&& 31)) &&& (1 : Int32)) = 0)
                  (fg_b (fn_X11_mix x10 p9 s16) (fun p23 s22 =>
                    K78 x1 x6 x8 p23 (x11 + (1 : Int32)) s22))
                  (fg_b (fn_X11_mix p9 x10 s16) (fun p21 s20 =>
                    K78 x1 x6 x8 p21 (x11 + (1 : Int32)) s20)))
                (some (((-100 : Int32) - x11), s16))))))))
noncomputable def fn_X11_prove_78 : Nat → Int32 → Int32 → Int32 → Int32 → Int32 → h_S → Option ((Int32) × h_S)
  | 0, _, _, _, _, _, _ => none
  | n + 1, x1, x6, x8, x10, x11, s => fn_X11_prove_78b (fn_X11_prove_78 n) x1 x6 x8 x10 x11 s
noncomputable def fn_X11_prove (x1 : Int32) (x2 : Int32) (x3 : Int32) (x4 : Int32) (x5 : Int32) (x6 : Int32) (x7 : Int32) (x8 : Int32) (s : h_S) : Option ((Int32) × h_S) :=
  fg_let (h_si s 0 18 (0 : Int32)) (fun s2 =>
    fg_b (fn_X11_within x1 (500 : Int32) s2) (fun p4 s3 =>
      fg_if (p4 = 0)
        (some ((-1 : Int32), s3))
        (fg_b (fn_X11_isMoment x5 s3) (fun p8 s7 =>
          fg_if (p8 = 0)
            (some ((-1 : Int32), s7))
            (fg_b (fn_X11_within x6 (4 : Int32) s7) (fun p11 s10 =>
              fg_if (p11 = 0)
                (some ((-1 : Int32), s10))
                (fg_b (fn_X11_refusedCells x6 x7 x8 (9 : Int32) s10) (fun p15 s14 =>
                  fg_if (p15 = 0)
                    (fg_b (fn_X11_growTree x5 s14) (fun u_ s18 =>
                      fg_b (fn_X11_mix x2 x3 s18) (fun p21 s20 =>
                        fg_b (fn_X11_mix p21 x4 s20) (fun p23 s22 =>
                          fn_X11_prove_78 g_N x1 x6 x8 p23 (0 : Int32) s22))))
                    (some (p15, s14))))))))))
noncomputable def fn_X11_stamp (x1 : Int32) (s : h_S) : Option ((Int32) × h_S) :=
  fg_b (fn_X11_isMoment x1 s) (fun p3 s2 =>
    fg_if (p3 = 0)
      (some ((0 : Int32), s2))
      (fg_g (vp_in x1 600) (
        some ((h_i s2 1 (h_ix x1)), s2))))
noncomputable def fn_X11_sheet (x1 : Int32) (x2 : Int32) (x3 : Int32) (s : h_S) : Option ((Int32) × h_S) :=
  fg_let (h_si s 0 18 (0 : Int32)) (fun s2 =>
    fg_b (fn_X11_within x1 (4 : Int32) s2) (fun p4 s3 =>
      fg_if (p4 = 0)
        (some ((-1 : Int32), s3))
        (fg_b (fn_X11_within x2 (3 : Int32) s3) (fun p7 s6 =>
          fg_if (p7 = 0)
            (some ((-2 : Int32), s6))
            (fg_if (x3 ≤ (60 : Int32))
              (fg_if (0 ≤ x3)
                (fg_g (vp_in x1 4) (
                  fg_o (h_r s6 9 (h_ix x1)) (fun a15 =>
                    fg_g (h_k s6 a15 = 26) (
                      fg_b (fn_X5_renew a15 x2 x3 s6) (fun u_ s17 =>
                        some ((1 : Int32), s17))))))
                (fg_b (fn_X11_failed (4 : Int32) s6) (fun p21 s20 =>
                  some (p21, s20))))
              (some ((-2 : Int32), s6)))))))
noncomputable def fn_X11_lose_27 (x1 : Int32) (y0 : Int32) (s : h_S) : Option ((Int32) × h_S) :=
  fg_g (vp_in x1 4) (
    fg_o (h_r s 9 (h_ix x1)) (fun a5 =>
      fg_g (h_k s a5 = 26) (
        fg_let (h_si s a5 1 (-1 : Int32)) (fun s7 =>
          some (y0, s7)))))
noncomputable def fn_X11_lose (x1 : Int32) (s : h_S) : Option ((Int32) × h_S) :=
  fg_b (fn_X11_within x1 (4 : Int32) s) (fun p2 s1 =>
    fg_if (p2 = 0)
      (some ((-1 : Int32), s1))
      (fg_g (vp_in x1 4) (
        fg_o (h_r s1 9 (h_ix x1)) (fun a8 =>
          fg_g (h_k s1 a8 = 26) (
            fg_b (fn_X5_isNothing a8 s1) (fun p11 s10 =>
              fg_if (p11 = 0)
                (fn_X11_lose_27 x1 (1 : Int32) s10)
                (fn_X11_lose_27 x1 (0 : Int32) s10)))))))
noncomputable def fn_X11_set (x1 : Int32) (x2 : Int32) (x3 : Int32) (s : h_S) : Option ((Int32) × h_S) :=
  fg_let (h_si s 0 18 (0 : Int32)) (fun s2 =>
    fg_b (fn_X11_within x1 (4 : Int32) s2) (fun p4 s3 =>
      fg_if (p4 = 0)
        (some ((-1 : Int32), s3))
        (fg_g (vp_in x1 4) (
          fg_g (vp_in x1 4) (
            fg_o (h_r s3 9 (h_ix x1)) (fun a13 =>
              fg_g (h_k s3 a13 = 26) (
                fg_o (h_r s3 9 (h_ix x1)) (fun a15 =>
                  fg_g (h_k s3 a15 = 26) (
                    fg_b (fn_X5_faultOf a15 (h_i s3 a13 0) x2 (1 : Int32) s3) (fun p18 s17 =>
                      fg_if (p18 = 0)
                        (fg_g (vp_in x1 4) (
                          fg_o (h_r s17 9 (h_ix x1)) (fun a24 =>
                            fg_g (h_k s17 a24 = 26) (
                              fg_b (fn_X5_write a24 x2 x3 s17) (fun u_ s26 =>
                                some ((1 : Int32), s26))))))
                        (fg_b (fn_X11_failed p18 s17) (fun p30 s29 =>
                          some (p30, s29)))))))))))))
noncomputable def fn_X11_cell (x1 : Int32) (x2 : Int32) (x3 : Int32) (s : h_S) : Option ((Int64) × h_S) :=
  fg_let (h_si s 0 18 (0 : Int32)) (fun s2 =>
    fg_b (fn_X11_within x1 (4 : Int32) s2) (fun p4 s3 =>
      fg_if (p4 = 0)
        (some ((-9223372036854775808 : Int64), s3))
        (fg_b (fn_X11_refusedCells x1 x3 x2 (1 : Int32) s3) (fun p8 s7 =>
          fg_if (p8 = 0)
            (fg_g (vp_in x1 4) (
              fg_o (h_r s7 9 (h_ix x1)) (fun a14 =>
                fg_g (h_k s7 a14 = 26) (
                  fg_b (fn_X5_cellAt a14 x2 s7) (fun p17 s16 =>
                    some ((p17.toInt64), s16))))))
            (some ((-9223372036854775808 : Int64), s7))))))
noncomputable def fn_X11_copy_55 (s : h_S) : Option ((Int32) × h_S) :=
  fg_b (fn_X11_failed (1 : Int32) s) (fun p3 s2 =>
    some (p3, s2))
noncomputable def fn_X11_copy_103 (s : h_S) : Option ((Int32) × h_S) :=
  fg_b (fn_X11_failed (3 : Int32) s) (fun p3 s2 =>
    some (p3, s2))
noncomputable def fn_X11_copy (x1 : Int32) (x2 : Int32) (x3 : Int32) (x4 : Int32) (x5 : Int32) (s : h_S) : Option ((Int32) × h_S) :=
  fg_let (h_si s 0 18 (0 : Int32)) (fun s2 =>
    fg_b (fn_X11_within x1 (4 : Int32) s2) (fun p4 s3 =>
      fg_if (p4 = 0)
        (some ((-1 : Int32), s3))
        (fg_b (fn_X11_within x3 (4 : Int32) s3) (fun p7 s6 =>
          fg_if (p7 = 0)
            (some ((-1 : Int32), s6))
            (fg_g (vp_in x1 4) (
              fg_g (vp_in x3 4) (
                fg_o (h_r s6 9 (h_ix x1)) (fun a16 =>
                  fg_g (h_k s6 a16 = 26) (
                    fg_b (fn_X5_isNothing a16 s6) (fun p19 s18 =>
                      fg_if (p19 = 0)
                        (fg_o (h_r s6 9 (h_ix x3)) (fun a21 =>
                          fg_g (h_k s18 a21 = 26) (
                            fg_b (fn_X5_isNothing a21 s18) (fun p24 s23 =>
                              fg_if (p24 = 0)
                                (fg_o (h_r s6 9 (h_ix x1)) (fun a26 =>
                                  fg_g (h_k s23 a26 = 26) (
                                    fg_o (h_r s6 9 (h_ix x3)) (fun a28 =>
                                      fg_g (h_k s23 a28 = 26) (
                                        fg_if ((h_i s23 a26 0) = (h_i s23 a28 0))
                                          (fg_o (h_r s6 9 (h_ix x1)) (fun a31 =>
                                            fg_g (h_k s23 a31 = 26) (
                                              fg_b (fn_X5_hasCells a31 x2 x5 s23) (fun p34 s33 =>
                                                fg_if (p34 = 0)
                                                  (fn_X11_copy_103 s33)
                                                  (fg_o (h_r s6 9 (h_ix x3)) (fun a36 =>
                                                    fg_g (h_k s33 a36 = 26) (
                                                      fg_b (fn_X5_hasCells a36 x4 x5 s33) (fun p39 s38 =>
                                                        fg_if (p39 = 0)
                                                          (fn_X11_copy_103 s38)
                                                          (fg_o (h_r s6 9 (h_ix x1)) (fun a41 =>
                                                            fg_g (h_k s38 a41 = 26) (
                                                              fg_o (h_r s6 9 (h_ix x3)) (fun a43 =>
                                                                fg_g (h_k s38 a43 = 26) (
                                                                  fg_o (h_r s38 a43 2) (fun a45 =>
                                                                    fg_g (h_k s38 a45 = 1) (
                                                                      fg_o (h_r s38 a41 2) (fun a47 =>
                                                                        fg_g (h_k s38 a47 = 1) (
                                                                          fg_g (¬ x2 < 0) (
                                                                            fg_g (¬ x4 < 0) (
                                                                              fg_g (¬ x5 < 0) (
                                                                                fg_g (h_ix x2 + h_ix x5 ≤ (h_n s38 a47)) (
                                                                                  fg_g (h_ix x4 + h_ix x5 ≤ (h_n s38 a45)) (
                                                                                    fg_let (h_cp s38 a47 (h_ix x2) a45 (h_ix x4) (h_ix x5)) (fun s54 =>
                                                                                      some (x5, s54))))))))))))))))))))))))
                                          (fg_b (fn_X11_failed (2 : Int32) s23) (fun p57 s56 =>
                                            some (p57, s56))))))))
                                (fn_X11_copy_55 s23)))))
                        (fn_X11_copy_55 s18)))))))))))
noncomputable def fn_X11_noteBody (x1 : Int32) (s : h_S) : Option ((Unit) × h_S) :=
  fg_let (h_si s 0 17 (((31 : Int32) * (h_i s 0 17)) + x1)) (fun s2 =>
    some ((), s2))
noncomputable def fn_X11_tellLink (r1 : Option Nat) (s : h_S) : Option ((Int32) × h_S) :=
  fg_b (fn_X11_noteBody (1 : Int32) s) (fun u_ s2 =>
    fg_o r1 (fun a4 =>
      fg_g (h_k s2 a4 = 22) (
        fg_o (h_r s2 a4 2) (fun a6 =>
          fg_g (h_k s2 a6 = 1) (
            fg_g (vp_in (0 : Int32) (h_n s2 a6)) (
              some ((h_i s2 a6 (h_ix (0 : Int32))), s2)))))))
noncomputable def fn_X11_tellNote (r1 : Option Nat) (s : h_S) : Option ((Int32) × h_S) :=
  fg_b (fn_X11_noteBody (2 : Int32) s) (fun u_ s2 =>
    fg_b (fn_X11_tellLink r1 s2) (fun p6 s5 =>
      fg_o r1 (fun a7 =>
        fg_g (h_k s5 a7 = 22) (
          fg_o (h_r s5 a7 2) (fun a9 =>
            fg_g (h_k s5 a9 = 1) (
              fg_g (vp_in (1 : Int32) (h_n s5 a9)) (
                some ((p6 + (h_i s5 a9 (h_ix (1 : Int32)))), s5))))))))
noncomputable def fn_X11_tellReply (r1 : Option Nat) (s : h_S) : Option ((Int32) × h_S) :=
  fg_b (fn_X11_noteBody (3 : Int32) s) (fun u_ s2 =>
    fg_b (fn_X11_tellNote r1 s2) (fun p6 s5 =>
      fg_b (fn_X11_tellLink r1 s5) (fun p9 s8 =>
        some ((p6 + p9), s8))))
noncomputable def fn_X11_tellSame (r1 : Option Nat) (s : h_S) : Option ((Int32) × h_S) :=
  fg_b (fn_X11_noteBody (4 : Int32) s) (fun u_ s2 =>
    fg_b (fn_X11_tellLink r1 s2) (fun p6 s5 =>
      some ((p6 + (100 : Int32)), s5)))
noncomputable def fn_X11_tellCorrect (r1 : Option Nat) (s : h_S) : Option ((Int32) × h_S) :=
  fg_b (fn_X11_noteBody (5 : Int32) s) (fun u_ s2 =>
    fg_b (fn_X11_tellSame r1 s2) (fun p6 s5 =>
      fg_b (fn_X11_tellLink r1 s5) (fun p9 s8 =>
        some ((p6 + p9), s8))))
noncomputable def fn_X11_tell (x1 : Int32) (s : h_S) : Option ((Int32) × h_S) :=
  fg_b (fn_X11_linkAt x1 s) (fun p3 s2 =>
    fg_if (p3 = none)
      (some ((-1 : Int32), s2))
      (fg_o p3 (fun a5 =>
        fg_g (h_k s2 a5 = 22) (
          fg_if ((h_i s2 a5 0) = (1 : Int32))
            (fg_b (fn_X11_tellNote p3 s2) (fun p10 s9 =>
              some (p10, s9)))
            (fg_if ((h_i s2 a5 0) = (2 : Int32))
              (fg_b (fn_X11_tellReply p3 s2) (fun p14 s13 =>
                some (p14, s13)))
              (fg_if ((h_i s2 a5 0) = (3 : Int32))
                (fg_b (fn_X11_tellSame p3 s2) (fun p18 s17 =>
                  some (p18, s17)))
                (fg_if ((h_i s2 a5 0) = (4 : Int32))
                  (fg_b (fn_X11_tellCorrect p3 s2) (fun p22 s21 =>
                    some (p22, s21)))
                  (fg_b (fn_X11_tellLink p3 s2) (fun p25 s24 =>
                    some (p25, s24))))))))))
noncomputable def fn_X11_name (x1 : Int32) (s : h_S) : Option ((Int32) × h_S) :=
  fg_b (fn_X11_linkAt x1 s) (fun p3 s2 =>
    fg_if (p3 = none)
      (some ((-1 : Int32), s2))
      (fg_o p3 (fun a5 =>
        fg_g (h_k s2 a5 = 22) (
          fg_if ((h_i s2 a5 0) = (4 : Int32))
            (fg_b (fn_X11_noteBody (7 : Int32) s2) (fun u_ s12 =>
              some ((40 : Int32), s12)))
            (fg_b (fn_X11_noteBody (6 : Int32) s2) (fun u_ s9 =>
              some (x1, s9)))))))
noncomputable def fn_X11_as (x1 : Int32) (x2 : Int32) (s : h_S) : Option ((Int32) × h_S) :=
  fg_let (h_si s 0 18 (0 : Int32)) (fun s2 =>
    fg_b (fn_X11_linkAt x1 s2) (fun p4 s3 =>
      fg_if (p4 = none)
        (some ((-1 : Int32), s3))
        (fg_b (fn_X11_within x2 (5 : Int32) s3) (fun p7 s6 =>
          fg_if (p7 = 0)
            (some ((-2 : Int32), s6))
            (fg_o p4 (fun a9 =>
              fg_g (h_k s6 a9 = 22) (
                fg_b (fn_X1_isA a9 x2 s6) (fun p12 s11 =>
                  fg_if (p12 = 0)
                    (fg_b (fn_X11_failed (2 : Int32) s11) (fun p16 s15 =>
                      some (p16, s15)))
                    (some ((1 : Int32), s11))))))))))
noncomputable def fn_X11_trace (s : h_S) : Option ((Int32) × h_S) :=
  some ((h_i s 0 17), s)
noncomputable def fn_X11_fault (s : h_S) : Option ((Int32) × h_S) :=
  some ((h_i s 0 18), s)
noncomputable def fn_X11_many (x1 : Int32) (s : h_S) : Option ((Int32) × h_S) :=
  fg_if (x1 = (0 : Int32))
    (some ((h_i s 0 0), s))
    (fg_if (x1 = (1 : Int32))
      (some ((h_i s 0 1), s))
      (fg_if (x1 = (2 : Int32))
        (some ((h_i s 3 0), s))
        (fg_if (x1 = (3 : Int32))
          (fg_b (fn_X7_wordCount s) (fun p14 s13 =>
            some (p14, s13)))
          (fg_if (x1 = (4 : Int32))
            (fg_b (fn_Jx4a65c_size_8abf5 4 s) (fun p20 s19 =>
              some (p20, s19)))
            (fg_if (x1 = (5 : Int32))
              (fg_b (fn_Jx4a65c_size_8abf5 6 s) (fun p26 s25 =>
                some (p26, s25)))
              (fg_if (x1 = (6 : Int32))
                (fg_b (fn_Jx4a65c_size_8abf5 8 s) (fun p32 s31 =>
                  some (p32, s31)))
                (fg_if (x1 = (7 : Int32))
                  (fg_b (fn_Jx4a65c_size_8abf5 5 s) (fun p38 s37 =>
                    some (p38, s37)))
                  (fg_if (x1 = (8 : Int32))
                    (some ((h_i s 0 15), s))
                    (some ((-2 : Int32), s))))))))))
