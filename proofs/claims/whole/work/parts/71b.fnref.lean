noncomputable def fn_X12_in (l0 : Int64) (l2 : Int64) (l4 : Int64) (s : r_T) : Option (Int32 × r_T) :=
  fg_if ((lg_cmp l0 l2) < 0)
    (some ((0 : Int32), s))
    (fg_if (0 < (lg_cmp l0 l4))
      (some ((0 : Int32), s))
      (some ((1 : Int32), s)))
noncomputable def fn_X12_lost (s : r_T) : Option (Int64 × r_T) :=
  some ((-9223372036854775808 : Int64), s)
noncomputable def fn_X12_hasBit (x0 : Int32) (x1 : Int32) (s : r_T) : Option (Int32 × r_T) :=
  fg_if (((x0 >>> (x1 &&& 31)) &&& (1 : Int32)) = (1 : Int32))
    (some ((1 : Int32), s))
    (some ((0 : Int32), s))
noncomputable def fn_X12_mix (x0 : Int32) (x1 : Int32) (s : r_T) : Option (Int32 × r_T) :=
  fg_let ((x0 * (-1640531535 : Int32)) + x1) (fun v1 =>
    fg_let ((v1 ^^^ (h_ushr v1 (15 : Int32))) * (-2048144789 : Int32)) (fun v2 =>
      some ((v2 ^^^ (h_ushr v2 (13 : Int32))), s)))
noncomputable def fn_X12_refused (x1 : Int32) (s : r_T) : Option (Int32 × r_T) :=
  fg_let (rt_F s 0 (0 : Int32)) (fun s2 =>
    some (x1, s2))
noncomputable def fn_X12_failed (x1 : Int32) (s : r_T) : Option (Int32 × r_T) :=
  fg_let (rt_F s 0 x1) (fun s2 =>
    some (((-10 : Int32) - x1), s2))
noncomputable def fn_X12_failedLong (x1 : Int32) (s : r_T) : Option (Int64 × r_T) :=
  fg_let (rt_F s 0 x1) (fun s2 =>
    fg_b (fn_X12_lost s2) (fun p4 s3 =>
      some (p4, s3)))
noncomputable def fn_X12_acted (x1 : Int32) (s : r_T) : Option (Int32 × r_T) :=
  fg_let (rt_F s 1 ((s.1 1) + (1 : Int32))) (fun s2 =>
    fg_g (vp_in ((s2.1 1) - (1 : Int32)) 1201) (
      fg_b (fn_X12_mix (s2.2 2 (h_ix ((s2.1 1) - (1 : Int32)))) x1 s2) (fun p7 s6 =>
        fg_g (vp_in (s2.1 1) 1201) (
          fg_let (rt_A s6 2 (h_ix (s2.1 1)) p7) (fun s11 =>
            some (x1, s11))))))
noncomputable def fn_X12_noHand (x1 : Int32) (s : r_T) : Option (Int32 × r_T) :=
  fg_b (fn_X12_in (x1.toInt64) (0 : Int64) (((s.1 3).toInt64) - (1 : Int64)) s) (fun p3 s2 =>
    fg_if (p3 = 0)
      (some ((1 : Int32), s2))
      (some ((0 : Int32), s2)))
noncomputable def fn_X12_noMoment (x1 : Int32) (s : r_T) : Option (Int32 × r_T) :=
  fg_b (fn_X12_in (x1.toInt64) (0 : Int64) ((s.1 1).toInt64) s) (fun p3 s2 =>
    fg_if (p3 = 0)
      (some ((1 : Int32), s2))
      (some ((0 : Int32), s2)))
noncomputable def fn_X12_hand (s : r_T) : Option (Int32 × r_T) :=
  fg_if ((s.1 3) = (8 : Int32))
    (some ((-4 : Int32), s))
    (fg_let (rt_F s 3 ((s.1 3) + (1 : Int32))) (fun s3 =>
      fg_b (fn_X12_acted ((s3.1 3) - (1 : Int32)) s3) (fun p5 s4 =>
        some (p5, s4))))
noncomputable def fn_X12_groupAt_7b (K7 : Int32 → Int32 → Int32 → r_T → Option (Int32 × r_T)) (x1 : Int32) (x2 : Int32) (x3 : Int32) (s : r_T) : Option (Int32 × r_T) :=
  fg_if (x3 < 0)
    (some ((0 : Int32), s))
    (fg_g (vp_in x3 1200) (
      fg_if ((s.2 5 (h_ix x3)) = x1)
        (fg_g (vp_in x3 1200) (
          fg_if (x2 < (s.2 7 (h_ix x3)))
            (K7 x1 x2 (x3 + (-1 : Int32)) s)
            (fg_g (vp_in x3 1200) (
              some ((s.2 6 (h_ix x3)), s)))))
        (K7 x1 x2 (x3 + (-1 : Int32)) s)))
noncomputable def fn_X12_groupAt_7 : Nat → Int32 → Int32 → Int32 → r_T → Option (Int32 × r_T)
  | 0, _, _, _, _ => none
  | n + 1, x1, x2, x3, s => fn_X12_groupAt_7b (fn_X12_groupAt_7 n) x1 x2 x3 s
noncomputable def fn_X12_groupAt (x1 : Int32) (x2 : Int32) (s : r_T) : Option (Int32 × r_T) :=
  fn_X12_groupAt_7 g_N x1 x2 ((s.1 4) - (1 : Int32)) s
noncomputable def fn_X12_group (x1 : Int32) (x2 : Int32) (s : r_T) : Option (Int32 × r_T) :=
  fg_b (fn_X12_in (x1.toInt64) (0 : Int64) (3 : Int64) s) (fun p2 s1 =>
    fg_if (p2 = 0)
      (some ((-1 : Int32), s1))
      (fg_b (fn_X12_in (x2.toInt64) (0 : Int64) ((h_lshl (1 : Int64) (s1.1 3)) - (1 : Int64)) s1) (fun p6 s5 =>
        fg_if (p6 = 0)
          (some ((-2 : Int32), s5))
          (fg_b (fn_X12_groupAt x1 (s5.1 1) s5) (fun p10 s9 =>
            fg_g (vp_in (s9.1 4) 1200) (
              fg_let (rt_A s9 5 (h_ix (s9.1 4)) x1) (fun s15 =>
                fg_g (vp_in (s15.1 4) 1200) (
                  fg_let (rt_A s15 6 (h_ix (s15.1 4)) x2) (fun s19 =>
                    fg_g (vp_in (s19.1 4) 1200) (
                      fg_let (rt_A s19 7 (h_ix (s19.1 4)) ((s19.1 1) + (1 : Int32))) (fun s23 =>
                        fg_let (rt_F s23 4 ((s23.1 4) + (1 : Int32))) (fun s24 =>
                          fg_b (fn_X12_acted p10 s24) (fun p26 s25 =>
                            some (p26, s25))))))))))))))
noncomputable def fn_X12_noWriting (x1 : Int32) (s : r_T) : Option (Int32 × r_T) :=
  fg_b (fn_X12_in (x1.toInt64) (0 : Int64) (((s.1 8).toInt64) - (1 : Int64)) s) (fun p3 s2 =>
    fg_if (p3 = 0)
      (some ((1 : Int32), s2))
      (some ((0 : Int32), s2)))
noncomputable def fn_X12_logOf_7b (K7 : Int32 → Int32 → r_T → Option (Int32 × r_T)) (x2 : Int32) (x3 : Int32) (s : r_T) : Option (Int32 × r_T) :=
  fg_if (x3 < 0)
    (some (x3, s))
    (fg_g (vp_in x3 1200) (
      fg_if ((s.2 13 (h_ix x3)) ≤ x2)
        (some (x3, s))
        (fg_g (vp_in x3 1200) (
          K7 x2 (s.2 12 (h_ix x3)) s))))
noncomputable def fn_X12_logOf_7 : Nat → Int32 → Int32 → r_T → Option (Int32 × r_T)
  | 0, _, _, _ => none
  | n + 1, x2, x3, s => fn_X12_logOf_7b (fn_X12_logOf_7 n) x2 x3 s
noncomputable def fn_X12_logOf (x1 : Int32) (x2 : Int32) (s : r_T) : Option (Int32 × r_T) :=
  fg_g (vp_in x1 12) (
    fn_X12_logOf_7 g_N x2 (s.2 11 (h_ix x1)) s)
noncomputable def fn_X12_writing (x1 : Int32) (s : r_T) : Option (Int32 × r_T) :=
  fg_b (fn_X12_noHand x1 s) (fun p3 s2 =>
    fg_if (p3 = 0)
      (fg_if ((s2.1 8) = (12 : Int32))
        (some ((-4 : Int32), s2))
        (fg_g (vp_in (s2.1 8) 12) (
          fg_let (rt_A s2 9 (h_ix (s2.1 8)) x1) (fun s10 =>
            fg_let (rt_F s10 8 ((s10.1 8) + (1 : Int32))) (fun s11 =>
              fg_b (fn_X12_acted ((s11.1 8) - (1 : Int32)) s11) (fun p13 s12 =>
                some (p13, s12)))))))
      (some ((-1 : Int32), s2)))
noncomputable def fn_X12_noWord (x1 : Int32) (s : r_T) : Option (Int32 × r_T) :=
  fg_b (fn_X12_in (x1.toInt64) (0 : Int64) (((s.1 22).toInt64) - (1 : Int64)) s) (fun p3 s2 =>
    fg_if (p3 = 0)
      (some ((1 : Int32), s2))
      (some ((0 : Int32), s2)))
noncomputable def fn_X12_enter_68 (x1 : Int32) (y0 : Int32) (y1 : Int32) (s : r_T) : Option (Unit × r_T) :=
  fg_g (vp_in y1 5) (
    fg_let (rt_A s 33 (h_ix y1) y0) (fun s4 =>
      fg_g (vp_in x1 5) (
        fg_let (rt_A s4 34 (h_ix x1) (0 : Int32)) (fun s9 =>
          some ((), s9)))))
noncomputable def fn_X12_enter (x1 : Int32) (x2 : Int32) (x3 : Int32) (x4 : Int32) (x5 : Int32) (s : r_T) : Option (Unit × r_T) :=
  fg_g (vp_in x1 5) (
    fg_let (rt_A s 31 (h_ix x1) x2) (fun s5 =>
      fg_g (vp_in x1 5) (
        fg_let (rt_A s5 30 (h_ix x1) x3) (fun s9 =>
          fg_b (fn_X12_logOf x2 x3 s9) (fun p11 s10 =>
            fg_g (vp_in x1 5) (
              fg_let (rt_A s10 28 (h_ix x1) p11) (fun s15 =>
                fg_g (vp_in x1 5) (
                  fg_let (rt_A s15 29 (h_ix x1) (0 : Int32)) (fun s20 =>
                    fg_g (vp_in x1 5) (
                      fg_let (rt_A s20 32 (h_ix x1) x4) (fun s24 =>
                        fg_if ((300 : Int32) ≤ (x4 + x5))
                          (fn_X12_enter_68 x1 (300 : Int32) x1 s24)
                          (fn_X12_enter_68 x1 (x4 + x5) x1 s24))))))))))))
noncomputable def fn_X12_isDone_4b (K4 : Int32 → Int32 → Int32 → r_T → Option (Int32 × r_T)) (x1 : Int32) (x2 : Int32) (x3 : Int32) (s : r_T) : Option (Int32 × r_T) :=
  fg_if (x1 < x3)
    (fg_g (h_bt x2) (
      some (x2, s)))
    (fg_if (x2 = 0)
      (fg_g (vp_in x3 5) (
        fg_g (vp_in x3 5) (
          fg_if ((s.2 34 (h_ix x3)) < (s.2 33 (h_ix x3)))
            (K4 x1 (0 : Int32) (x3 + (1 : Int32)) s)
            (K4 x1 (1 : Int32) (x3 + (1 : Int32)) s))))
      (K4 x1 (1 : Int32) (x3 + (1 : Int32)) s))
noncomputable def fn_X12_isDone_4 : Nat → Int32 → Int32 → Int32 → r_T → Option (Int32 × r_T)
  | 0, _, _, _, _ => none
  | n + 1, x1, x2, x3, s => fn_X12_isDone_4b (fn_X12_isDone_4 n) x1 x2 x3 s
noncomputable def fn_X12_isDone (x1 : Int32) (s : r_T) : Option (Int32 × r_T) :=
  fn_X12_isDone_4 g_N x1 (0 : Int32) (0 : Int32) s
noncomputable def fn_X12_show_134 (K5 : Int32 → Int32 → Int32 → Int32 → r_T → Option (Unit × r_T)) (x1 : Int32) (x2 : Int32) (x3 : Int32) (x4 : Int32) (x5 : Int32) (s : r_T) : Option (Unit × r_T) :=
  fg_if (x4 = 0)
    (K5 x1 x2 (x3 + (-1 : Int32)) (0 : Int32) s)
    (fg_g (vp_in x3 5) (
      fg_if (x5 < (s.2 32 (h_ix x3)))
        (K5 x1 x2 (x3 + (-1 : Int32)) (0 : Int32) s)
        (K5 x1 x2 (x3 + (-1 : Int32)) (1 : Int32) s)))
noncomputable def fn_X12_show_131 (K5 : Int32 → Int32 → Int32 → Int32 → r_T → Option (Unit × r_T)) (x1 : Int32) (x2 : Int32) (x3 : Int32) (x5 : Int32) (s : r_T) : Option (Unit × r_T) :=
  fn_X12_show_134 K5 x1 x2 x3 (0 : Int32) x5 s
noncomputable def fn_X12_show_100b (K5 : Int32 → Int32 → Int32 → Int32 → r_T → Option (Unit × r_T)) (K100 : Int32 → Int32 → Int32 → Int32 → Int32 → r_T → Option (Unit × r_T)) (x1 : Int32) (x2 : Int32) (x3 : Int32) (x5 : Int32) (x6 : Int32) (s : r_T) : Option (Unit × r_T) :=
  fg_if (x2 < x6)
    (fn_X12_show_131 K5 x1 x2 x3 x5 s)
    (fg_g (vp_in x6 5) (
      fg_g (vp_in (((5 : Int32) * x5) + x6) 1500) (
        fg_let (rt_A s 39 (h_ix (((5 : Int32) * x5) + x6)) (s.2 31 (h_ix x6))) (fun s9 =>
          K100 x1 x2 x3 x5 (x6 + (1 : Int32)) s9))))
noncomputable def fn_X12_show_100 (K5 : Int32 → Int32 → Int32 → Int32 → r_T → Option (Unit × r_T)) : Nat → Int32 → Int32 → Int32 → Int32 → Int32 → r_T → Option (Unit × r_T)
  | 0, _, _, _, _, _, _ => none
  | n + 1, x1, x2, x3, x5, x6, s => fn_X12_show_100b K5 (fn_X12_show_100 K5 n) x1 x2 x3 x5 x6 s
noncomputable def fn_X12_show_53 (K5 : Int32 → Int32 → Int32 → Int32 → r_T → Option (Unit × r_T)) (x1 : Int32) (x2 : Int32) (x3 : Int32) (x4 : Int32) (x5 : Int32) (y0 : Int32) (y1 : Int32) (y2 : Int32) (s : r_T) : Option (Unit × r_T) :=
  fg_g (vp_in y2 5) (
    fg_let (rt_A s 34 (h_ix y2) (y1 + y0)) (fun s4 =>
      fg_if (x3 = 0)
        (fg_if (x4 = 0)
          (fn_X12_show_131 K5 x1 x2 x3 x5 s4)
          (fg_g (vp_in x5 300) (
            fg_let (rt_A s4 36 (h_ix x5) x1) (fun s11 =>
              fg_g (vp_in (0 : Int32) 5) (
                fg_g (vp_in x5 300) (
                  fg_let (rt_A s11 37 (h_ix x5) ((s11.2 29 (h_ix (0 : Int32))) - (1 : Int32))) (fun s18 =>
                    fg_g (vp_in x5 300) (
                      fg_let (rt_A s18 38 (h_ix x5) (x2 + (1 : Int32))) (fun s22 =>
                        fn_X12_show_100 K5 g_N x1 x2 x3 x5 (0 : Int32) s22)))))))))
        (fn_X12_show_134 K5 x1 x2 x3 x4 x5 s4)))
noncomputable def fn_X12_show_34 (K5 : Int32 → Int32 → Int32 → Int32 → r_T → Option (Unit × r_T)) (x1 : Int32) (x2 : Int32) (x3 : Int32) (x5 : Int32) (y0 : Int32) (s : r_T) : Option (Unit × r_T) :=
  fg_g (vp_in x3 5) (
    fg_if (y0 = 0)
      (fn_X12_show_53 K5 x1 x2 x3 y0 x5 (0 : Int32) (s.2 34 (h_ix x3)) x3 s)
      (fn_X12_show_53 K5 x1 x2 x3 y0 x5 (1 : Int32) (s.2 34 (h_ix x3)) x3 s))
noncomputable def fn_X12_show_5b (K5 : Int32 → Int32 → Int32 → Int32 → r_T → Option (Unit × r_T)) (x1 : Int32) (x2 : Int32) (x3 : Int32) (x4 : Int32) (s : r_T) : Option (Unit × r_T) :=
  fg_if (x4 = 0)
    (some ((), s))
    (fg_g (vp_in x3 5) (
      fg_g (vp_in x3 5) (
        fg_if ((s.2 33 (h_ix x3)) ≤ (s.2 34 (h_ix x3)))
          (fn_X12_show_34 K5 x1 x2 x3 (s.2 34 (h_ix x3)) (0 : Int32) s)
          (fn_X12_show_34 K5 x1 x2 x3 (s.2 34 (h_ix x3)) (1 : Int32) s))))
noncomputable def fn_X12_show_5 : Nat → Int32 → Int32 → Int32 → Int32 → r_T → Option (Unit × r_T)
  | 0, _, _, _, _, _ => none
  | n + 1, x1, x2, x3, x4, s => fn_X12_show_5b (fn_X12_show_5 n) x1 x2 x3 x4 s
noncomputable def fn_X12_show (x1 : Int32) (x2 : Int32) (s : r_T) : Option (Unit × r_T) :=
  fn_X12_show_5 g_N x1 x2 x2 (1 : Int32) s
noncomputable def fn_X12_layLog_114b (K21 : Int32 → r_T → Option (Unit × r_T)) (K114 : Int32 → Int32 → Int32 → r_T → Option (Unit × r_T)) (x4 : Int32) (x6 : Int32) (x7 : Int32) (s : r_T) : Option (Unit × r_T) :=
  fg_g (vp_in x6 28800) (
    fg_if ((s.2 19 (h_ix x6)) ≤ x7)
      (K21 x4 s)
      (fg_b (fn_X12_isDone x4 s) (fun p7 s6 =>
        fg_if (p7 = 0)
          (fg_g (vp_in x6 28800) (
            fg_b (fn_X12_show ((s6.2 18 (h_ix x6)) + x7) x4 s6) (fun u_ s13 =>
              K114 x4 x6 (x7 + (1 : Int32)) s13)))
          (K21 x4 s6))))
noncomputable def fn_X12_layLog_114 (K21 : Int32 → r_T → Option (Unit × r_T)) : Nat → Int32 → Int32 → Int32 → r_T → Option (Unit × r_T)
  | 0, _, _, _, _ => none
  | n + 1, x4, x6, x7, s => fn_X12_layLog_114b K21 (fn_X12_layLog_114 K21 n) x4 x6 x7 s
noncomputable def fn_X12_layLog_217 (K21 : Int32 → r_T → Option (Unit × r_T)) (x4 : Int32) (x6 : Int32) (y0 : Int32) (y1 : Int32) (y2 : Int32) (s : r_T) : Option (Unit × r_T) :=
  fg_g (vp_in x6 28800) (
    fg_g (vp_in x6 28800) (
      fg_b (fn_X12_enter y2 y1 y0 (s.2 18 (h_ix x6)) (s.2 19 (h_ix x6)) s) (fun u_ s9 =>
        K21 (x4 + (1 : Int32)) s9)))
noncomputable def fn_X12_layLog_21b (K21 : Int32 → r_T → Option (Unit × r_T)) (x4 : Int32) (s : r_T) : Option (Unit × r_T) :=
  fg_if (x4 < 0)
    (fg_g (vp_in (0 : Int32) 5) (
      fg_let (rt_F s 35 (s.2 34 (h_ix (0 : Int32)))) (fun s6 =>
        some ((), s6))))
    (fg_g (vp_in x4 5) (
      fg_if ((s.2 28 (h_ix x4)) < 0)
        (K21 (x4 + (-1 : Int32)) s)
        (fg_g (vp_in x4 5) (
          fg_g (vp_in (s.2 28 (h_ix x4)) 1200) (
            fg_if ((s.2 15 (h_ix (s.2 28 (h_ix x4)))) ≤ (s.2 29 (h_ix x4)))
              (K21 (x4 + (-1 : Int32)) s)
              (fg_b (fn_X12_isDone x4 s) (fun p20 s19 =>
                fg_if (p20 = 0)
                  (fg_g (vp_in (s.2 28 (h_ix x4)) 1200) (
                    fg_g (vp_in x4 5) (
                      fg_let ((s19.2 14 (h_ix (s.2 28 (h_ix x4)))) + (s19.2 29 (h_ix x4))) (fun v29 =>
                        fg_g (vp_in x4 5) (
                          fg_g (vp_in x4 5) (
                            fg_let (rt_A s19 29 (h_ix x4) ((s19.2 29 (h_ix x4)) + (1 : Int32))) (fun s36 =>
                              fg_g (vp_in v29 28800) (
                                fg_if ((2 : Int32) ≤ (s36.2 17 (h_ix v29)))
                                  (fg_if (x4 = (4 : Int32))
                                    (fg_b (fn_X12_show (-7 : Int32) x4 s36) (fun u_ s55 =>
                                      K21 x4 s55))
                                    (fg_g (vp_in v29 28800) (
                                      fg_g (vp_in v29 28800) (
                                        fg_if ((s36.2 17 (h_ix v29)) = (2 : Int32))
                                          (fg_g (vp_in v29 28800) (
                                            fn_X12_layLog_217 K21 x4 v29 (s36.2 21 (h_ix v29)) (s36.2 20 (h_ix v29)) (x4 + (1 : Int32)) s36))
                                          (fg_g (vp_in x4 5) (
                                            fn_X12_layLog_217 K21 x4 v29 (s36.2 30 (h_ix x4)) (s36.2 20 (h_ix v29)) (x4 + (1 : Int32)) s36))))))
                                  (fn_X12_layLog_114 K21 g_N x4 v29 (0 : Int32) s36)))))))))
                  (K21 (x4 + (-1 : Int32)) s19))))))))
noncomputable def fn_X12_layLog_21 : Nat → Int32 → r_T → Option (Unit × r_T)
  | 0, _, _ => none
  | n + 1, x4, s => fn_X12_layLog_21b (fn_X12_layLog_21 n) x4 s
noncomputable def fn_X12_layLog (x1 : Int32) (x2 : Int32) (x3 : Int32) (s : r_T) : Option (Unit × r_T) :=
  fg_b (fn_X12_enter (0 : Int32) x2 x3 (0 : Int32) (300 : Int32) s) (fun u_ s2 =>
    fg_g (vp_in (0 : Int32) 5) (
      fg_let (rt_A s2 28 (h_ix (0 : Int32)) x1) (fun s8 =>
        fn_X12_layLog_21 g_N (0 : Int32) s8)))
noncomputable def fn_X12_lay (x1 : Int32) (x2 : Int32) (s : r_T) : Option (Unit × r_T) :=
  fg_b (fn_X12_logOf x1 x2 s) (fun p3 s2 =>
    fg_b (fn_X12_layLog p3 x1 x2 s2) (fun u_ s5 =>
      some ((), s5)))
noncomputable def fn_X12_setPiece (x1 : Int32) (x2 : Int32) (x3 : Int32) (x4 : Int32) (x5 : Int32) (x6 : Int32) (s : r_T) : Option (Unit × r_T) :=
  fg_g (vp_in x1 60) (
    fg_let (rt_A s 41 (h_ix x1) x2) (fun s5 =>
      fg_g (vp_in x1 60) (
        fg_let (rt_A s5 42 (h_ix x1) x3) (fun s9 =>
          fg_g (vp_in x1 60) (
            fg_let (rt_A s9 43 (h_ix x1) x4) (fun s13 =>
              fg_g (vp_in x1 60) (
                fg_let (rt_A s13 44 (h_ix x1) x5) (fun s17 =>
                  fg_g (vp_in x1 60) (
                    fg_let (rt_A s17 45 (h_ix x1) x6) (fun s21 =>
                      some ((), s21)))))))))))
noncomputable def fn_X12_load_28b (K28 : Int32 → Int32 → r_T → Option (Unit × r_T)) (x3 : Int32) (x4 : Int32) (s : r_T) : Option (Unit × r_T) :=
  fg_if ((s.1 40) ≤ x4)
    (some ((), s))
    (fg_g (vp_in x3 1200) (
      fg_g (vp_in ((s.2 14 (h_ix x3)) + x4) 28800) (
        fg_g (vp_in ((s.2 14 (h_ix x3)) + x4) 28800) (
          fg_g (vp_in ((s.2 14 (h_ix x3)) + x4) 28800) (
            fg_g (vp_in ((s.2 14 (h_ix x3)) + x4) 28800) (
              fg_g (vp_in ((s.2 14 (h_ix x3)) + x4) 28800) (
                fg_b (fn_X12_setPiece x4 (s.2 17 (h_ix ((s.2 14 (h_ix x3)) + x4))) (s.2 18 (h_ix ((s.2 14 (h_ix x3)) + x4))) (s.2 19 (h_ix ((s.2 14 (h_ix x3)) + x4))) (s.2 20 (h_ix ((s.2 14 (h_ix x3)) + x4))) (s.2 21 (h_ix ((s.2 14 (h_ix x3)) + x4))) s) (fun u_ s21 =>
                  K28 x3 (x4 + (1 : Int32)) s21))))))))
noncomputable def fn_X12_load_28 : Nat → Int32 → Int32 → r_T → Option (Unit × r_T)
  | 0, _, _, _ => none
  | n + 1, x3, x4, s => fn_X12_load_28b (fn_X12_load_28 n) x3 x4 s
noncomputable def fn_X12_load_22 (x3 : Int32) (y0 : Int32) (s : r_T) : Option (Unit × r_T) :=
  fg_let (rt_F s 40 y0) (fun s2 =>
    fn_X12_load_28 g_N x3 (0 : Int32) s2)
noncomputable def fn_X12_load (x1 : Int32) (x2 : Int32) (s : r_T) : Option (Unit × r_T) :=
  fg_b (fn_X12_logOf x1 x2 s) (fun p3 s2 =>
    fg_if (0 ≤ p3)
      (fg_g (vp_in p3 1200) (
        fn_X12_load_22 p3 (s2.2 15 (h_ix p3)) s2))
      (fn_X12_load_22 p3 (0 : Int32) s2))
noncomputable def fn_X12_bound_43 (K4 : Int32 → Int32 → r_T → Option (Unit × r_T)) (x1 : Int32) (x2 : Int32) (s : r_T) : Option (Unit × r_T) :=
  fg_g (vp_in x2 60) (
    fg_let (rt_A s 47 (h_ix x2) x1) (fun s5 =>
      K4 x1 (x2 + (1 : Int32)) s5))
noncomputable def fn_X12_bound_19b (K4 : Int32 → Int32 → r_T → Option (Unit × r_T)) (K19 : Int32 → Int32 → r_T → Option (Unit × r_T)) (x1 : Int32) (x2 : Int32) (s : r_T) : Option (Unit × r_T) :=
  fg_if ((s.1 35) ≤ x1)
    (fn_X12_bound_43 K4 x1 x2 s)
    (fg_g (vp_in x1 300) (
      fg_if ((s.2 37 (h_ix x1)) = x2)
        (K19 (x1 + (1 : Int32)) x2 s)
        (fn_X12_bound_43 K4 x1 x2 s)))
noncomputable def fn_X12_bound_19 (K4 : Int32 → Int32 → r_T → Option (Unit × r_T)) : Nat → Int32 → Int32 → r_T → Option (Unit × r_T)
  | 0, _, _, _ => none
  | n + 1, x1, x2, s => fn_X12_bound_19b K4 (fn_X12_bound_19 K4 n) x1 x2 s
noncomputable def fn_X12_bound_4b (K4 : Int32 → Int32 → r_T → Option (Unit × r_T)) (x1 : Int32) (x2 : Int32) (s : r_T) : Option (Unit × r_T) :=
  fg_if ((s.1 40) ≤ x2)
    (some ((), s))
    (fg_g (vp_in x2 60) (
      fg_let (rt_A s 46 (h_ix x2) x1) (fun s6 =>
        fn_X12_bound_19 K4 g_N x1 x2 s6)))
noncomputable def fn_X12_bound_4 : Nat → Int32 → Int32 → r_T → Option (Unit × r_T)
  | 0, _, _, _ => none
  | n + 1, x1, x2, s => fn_X12_bound_4b (fn_X12_bound_4 n) x1 x2 s
noncomputable def fn_X12_bound (s : r_T) : Option (Unit × r_T) :=
  fn_X12_bound_4 g_N (0 : Int32) (0 : Int32) s
noncomputable def fn_X12_open (x1 : Int32) (s : r_T) : Option (Unit × r_T) :=
  fg_b (fn_X12_lay x1 (s.1 1) s) (fun u_ s2 =>
    fg_b (fn_X12_load x1 (s2.1 1) s2) (fun u_ s5 =>
      fg_b (fn_X12_bound s5) (fun u_ s8 =>
        some ((), s8))))
noncomputable def fn_X12_widen_7b (K7 : Int32 → Int32 → Int32 → r_T → Option (Unit × r_T)) (x1 : Int32) (x2 : Int32) (x3 : Int32) (s : r_T) : Option (Unit × r_T) :=
  fg_if (x3 < x1)
    (fg_let (rt_F s 40 ((s.1 40) + x2)) (fun s3 =>
      some ((), s3)))
    (fg_g (vp_in x3 60) (
      fg_g (vp_in x3 60) (
        fg_g (vp_in x3 60) (
          fg_g (vp_in x3 60) (
            fg_g (vp_in x3 60) (
              fg_b (fn_X12_setPiece (x3 + x2) (s.2 41 (h_ix x3)) (s.2 42 (h_ix x3)) (s.2 43 (h_ix x3)) (s.2 44 (h_ix x3)) (s.2 45 (h_ix x3)) s) (fun u_ s20 =>
                fg_g (vp_in x3 60) (
                  fg_g (vp_in (x3 + x2) 60) (
                    fg_let (rt_A s20 46 (h_ix (x3 + x2)) (s20.2 46 (h_ix x3))) (fun s29 =>
                      fg_g (vp_in x3 60) (
                        fg_g (vp_in (x3 + x2) 60) (
                          fg_let (rt_A s29 47 (h_ix (x3 + x2)) (s29.2 47 (h_ix x3))) (fun s36 =>
                            K7 x1 x2 (x3 + (-1 : Int32)) s36)))))))))))))
noncomputable def fn_X12_widen_7 : Nat → Int32 → Int32 → Int32 → r_T → Option (Unit × r_T)
  | 0, _, _, _, _ => none
  | n + 1, x1, x2, x3, s => fn_X12_widen_7b (fn_X12_widen_7 n) x1 x2 x3 s
noncomputable def fn_X12_widen (x1 : Int32) (x2 : Int32) (s : r_T) : Option (Unit × r_T) :=
  fg_let ((s.1 40) - (1 : Int32)) (fun v2 =>
    fn_X12_widen_7 g_N x1 x2 v2 s)
noncomputable def fn_X12_openAt_26 (x1 : Int32) (x2 : Int32) (s : r_T) : Option (Int32 × r_T) :=
  fg_if ((s.1 40) ≤ x2)
    (some (x2, s))
    (fg_g (vp_in x2 60) (
      fg_if (x1 ≤ (s.2 46 (h_ix x2)))
        (some (x2, s))
        (fg_g (vp_in x2 60) (
          fg_b (fn_X12_widen x2 (1 : Int32) s) (fun u_ s10 =>
            fg_g (vp_in x2 60) (
              fg_g (vp_in x2 60) (
                fg_g (vp_in x2 60) (
                  fg_g (vp_in x2 60) (
                    fg_g (vp_in x2 60) (
                      fg_b (fn_X12_setPiece (x2 + (1 : Int32)) (s10.2 41 (h_ix x2)) ((s10.2 42 (h_ix x2)) + (x1 - (s.2 46 (h_ix x2)))) ((s10.2 43 (h_ix x2)) - (x1 - (s.2 46 (h_ix x2)))) (s10.2 44 (h_ix x2)) (s10.2 45 (h_ix x2)) s10) (fun u_ s28 =>
                        fg_g (vp_in x2 60) (
                          fg_let (rt_A s28 43 (h_ix x2) (x1 - (s.2 46 (h_ix x2)))) (fun s34 =>
                            some ((x2 + (1 : Int32)), s34))))))))))))))
noncomputable def fn_X12_openAt_2b (K2 : Int32 → Int32 → r_T → Option (Int32 × r_T)) (x1 : Int32) (x2 : Int32) (s : r_T) : Option (Int32 × r_T) :=
  fg_if ((s.1 40) ≤ x2)
    (fn_X12_openAt_26 x1 x2 s)
    (fg_g (vp_in x2 60) (
      fg_if (x1 < (s.2 47 (h_ix x2)))
        (fn_X12_openAt_26 x1 x2 s)
        (K2 x1 (x2 + (1 : Int32)) s)))
noncomputable def fn_X12_openAt_2 : Nat → Int32 → Int32 → r_T → Option (Int32 × r_T)
  | 0, _, _, _ => none
  | n + 1, x1, x2, s => fn_X12_openAt_2b (fn_X12_openAt_2 n) x1 x2 s
noncomputable def fn_X12_openAt (x1 : Int32) (s : r_T) : Option (Int32 × r_T) :=
  fn_X12_openAt_2 g_N x1 (0 : Int32) s
noncomputable def fn_X12_store_89b (K89 : Int32 → r_T → Option (Int32 × r_T)) (x2 : Int32) (s : r_T) : Option (Int32 × r_T) :=
  fg_if ((s.1 40) ≤ x2)
    (some (1, s))
    (fg_g (vp_in x2 60) (
      fg_g (vp_in (s.1 16) 28800) (
        fg_let (rt_A s 17 (h_ix (s.1 16)) (s.2 41 (h_ix x2))) (fun s9 =>
          fg_g (vp_in x2 60) (
            fg_g (vp_in (s9.1 16) 28800) (
              fg_let (rt_A s9 18 (h_ix (s9.1 16)) (s9.2 42 (h_ix x2))) (fun s16 =>
                fg_g (vp_in x2 60) (
                  fg_g (vp_in (s16.1 16) 28800) (
                    fg_let (rt_A s16 19 (h_ix (s16.1 16)) (s16.2 43 (h_ix x2))) (fun s23 =>
                      fg_g (vp_in x2 60) (
                        fg_g (vp_in (s23.1 16) 28800) (
                          fg_let (rt_A s23 20 (h_ix (s23.1 16)) (s23.2 44 (h_ix x2))) (fun s30 =>
                            fg_g (vp_in x2 60) (
                              fg_g (vp_in (s30.1 16) 28800) (
                                fg_let (rt_A s30 21 (h_ix (s30.1 16)) (s30.2 45 (h_ix x2))) (fun s37 =>
                                  fg_let (rt_F s37 16 ((s37.1 16) + (1 : Int32))) (fun s38 =>
                                    K89 (x2 + (1 : Int32)) s38)))))))))))))))))
noncomputable def fn_X12_store_89 : Nat → Int32 → r_T → Option (Int32 × r_T)
  | 0, _, _ => none
  | n + 1, x2, s => fn_X12_store_89b (fn_X12_store_89 n) x2 s
noncomputable def fn_X12_store (x1 : Int32) (s : r_T) : Option (Int32 × r_T) :=
  fg_if ((s.1 40) ≤ (24 : Int32))
    (fg_g (vp_in x1 12) (
      fg_g (vp_in (s.1 10) 1200) (
        fg_let (rt_A s 12 (h_ix (s.1 10)) (s.2 11 (h_ix x1))) (fun s9 =>
          fg_g (vp_in (s9.1 10) 1200) (
            fg_let (rt_A s9 13 (h_ix (s9.1 10)) ((s9.1 1) + (1 : Int32))) (fun s13 =>
              fg_g (vp_in (s13.1 10) 1200) (
                fg_let (rt_A s13 14 (h_ix (s13.1 10)) (s13.1 16)) (fun s17 =>
                  fg_g (vp_in (s17.1 10) 1200) (
                    fg_let (rt_A s17 15 (h_ix (s17.1 10)) (s17.1 40)) (fun s21 =>
                      fg_g (vp_in x1 12) (
                        fg_let (rt_A s21 11 (h_ix x1) (s21.1 10)) (fun s25 =>
                          fg_let (rt_F s25 10 ((s25.1 10) + (1 : Int32))) (fun s26 =>
                            fn_X12_store_89 g_N (0 : Int32) s26)))))))))))))
    (some (0, s))
noncomputable def fn_X12_come (x1 : Int32) (x2 : Int32) (x3 : Int32) (x4 : Int32) (x5 : Int32) (x6 : Int32) (x7 : Int32) (s : r_T) : Option (Int32 × r_T) :=
  fg_b (fn_X12_openAt x2 s) (fun p3 s2 =>
    fg_b (fn_X12_widen p3 (1 : Int32) s2) (fun u_ s5 =>
      fg_b (fn_X12_setPiece p3 x3 x4 x5 x6 x7 s5) (fun u_ s8 =>
        fg_b (fn_X12_store x1 s8) (fun p12 s11 =>
          fg_g (h_bt p12) (
            some (p12, s11))))))
noncomputable def fn_X12_takeOut_54 (K25 : Int32 → Int32 → Int32 → Int32 → Int32 → Int32 → r_T → Option (Unit × r_T)) (x1 : Int32) (x3 : Int32) (x4 : Int32) (x5 : Int32) (x6 : Int32) (x7 : Int32) (s : r_T) : Option (Unit × r_T) :=
  fg_g (vp_in x7 60) (
    fg_g (vp_in x7 60) (
      fg_g (vp_in x7 60) (
        fg_g (vp_in x7 60) (
          fg_g (vp_in x7 60) (
            fg_b (fn_X12_setPiece (x6 + x4) (s.2 41 (h_ix x7)) (s.2 42 (h_ix x7)) (s.2 43 (h_ix x7)) (s.2 44 (h_ix x7)) (s.2 45 (h_ix x7)) s) (fun u_ s17 =>
              K25 x1 x3 (x4 + (1 : Int32)) x5 x6 (x7 + (1 : Int32)) s17))))))
noncomputable def fn_X12_takeOut_209 (K25 : Int32 → Int32 → Int32 → Int32 → Int32 → Int32 → r_T → Option (Unit × r_T)) (x1 : Int32) (x3 : Int32) (x4 : Int32) (x5 : Int32) (x6 : Int32) (x7 : Int32) (x8 : Int32) (x9 : Int32) (s : r_T) : Option (Unit × r_T) :=
  fg_g (vp_in x7 60) (
    fg_g (vp_in (s.1 48) 60) (
      fg_let (rt_A s 49 (h_ix (s.1 48)) (s.2 41 (h_ix x7))) (fun s8 =>
        fg_g (vp_in x7 60) (
          fg_g (vp_in (s8.1 48) 60) (
            fg_let (rt_A s8 50 (h_ix (s8.1 48)) ((s8.2 42 (h_ix x7)) + x8)) (fun s15 =>
              fg_g (vp_in (s15.1 48) 60) (
                fg_let (rt_A s15 51 (h_ix (s15.1 48)) (x9 - x8)) (fun s19 =>
                  fg_g (vp_in x7 60) (
                    fg_g (vp_in (s19.1 48) 60) (
                      fg_let (rt_A s19 52 (h_ix (s19.1 48)) (s19.2 44 (h_ix x7))) (fun s26 =>
                        fg_g (vp_in x7 60) (
                          fg_g (vp_in (s26.1 48) 60) (
                            fg_let (rt_A s26 53 (h_ix (s26.1 48)) (s26.2 45 (h_ix x7))) (fun s33 =>
                              fg_let (rt_F s33 48 ((s33.1 48) + (1 : Int32))) (fun s34 =>
                                fg_g (vp_in x7 60) (
                                  fg_if ((s34.2 43 (h_ix x7)) ≤ x9)
                                    (K25 x1 x3 x4 x5 x6 (x7 + (1 : Int32)) s34)
                                    (fg_g (vp_in x7 60) (
                                      fg_g (vp_in x7 60) (
                                        fg_g (vp_in x7 60) (
                                          fg_g (vp_in x7 60) (
                                            fg_g (vp_in x7 60) (
                                              fg_b (fn_X12_setPiece (x6 + x4) (s34.2 41 (h_ix x7)) ((s34.2 42 (h_ix x7)) + x9) ((s34.2 43 (h_ix x7)) - x9) (s34.2 44 (h_ix x7)) (s34.2 45 (h_ix x7)) s34) (fun u_ s54 =>
                                                K25 x1 x3 (x4 + (1 : Int32)) x5 x6 (x7 + (1 : Int32)) s54)))))))))))))))))))))))
noncomputable def fn_X12_takeOut_160 (K25 : Int32 → Int32 → Int32 → Int32 → Int32 → Int32 → r_T → Option (Unit × r_T)) (x1 : Int32) (x3 : Int32) (x4 : Int32) (x5 : Int32) (x6 : Int32) (x7 : Int32) (x8 : Int32) (y0 : Int32) (s : r_T) : Option (Unit × r_T) :=
  fg_if (x8 ≤ 0)
    (fn_X12_takeOut_209 K25 x1 x3 x4 x5 x6 x7 x8 y0 s)
    (fg_g (vp_in x7 60) (
      fg_g (vp_in x7 60) (
        fg_g (vp_in x7 60) (
          fg_g (vp_in x7 60) (
            fg_b (fn_X12_setPiece (x6 + x4) (s.2 41 (h_ix x7)) (s.2 42 (h_ix x7)) x8 (s.2 44 (h_ix x7)) (s.2 45 (h_ix x7)) s) (fun u_ s15 =>
              fn_X12_takeOut_209 K25 x1 x3 (x4 + (1 : Int32)) x5 x6 x7 x8 y0 s15))))))
noncomputable def fn_X12_takeOut_128 (K25 : Int32 → Int32 → Int32 → Int32 → Int32 → Int32 → r_T → Option (Unit × r_T)) (x1 : Int32) (x3 : Int32) (x4 : Int32) (x5 : Int32) (x6 : Int32) (x7 : Int32) (y0 : Int32) (s : r_T) : Option (Unit × r_T) :=
  fg_g (vp_in x7 60) (
    fg_if ((s.2 47 (h_ix x7)) ≤ x3)
      (fg_g (vp_in x7 60) (
        fn_X12_takeOut_160 K25 x1 x3 x4 x5 x6 x7 y0 (s.2 43 (h_ix x7)) s))
      (fg_g (vp_in x7 60) (
        fn_X12_takeOut_160 K25 x1 x3 x4 x5 x6 x7 y0 (x3 - (s.2 46 (h_ix x7))) s)))
noncomputable def fn_X12_takeOut_380b (K380 : Int32 → Int32 → Int32 → r_T → Option (Unit × r_T)) (x4 : Int32) (x6 : Int32) (x7 : Int32) (s : r_T) : Option (Unit × r_T) :=
  fg_if (x4 ≤ x7)
    (some ((), s))
    (fg_g (vp_in (x6 + x7) 60) (
      fg_g (vp_in (x6 + x7) 60) (
        fg_g (vp_in (x6 + x7) 60) (
          fg_g (vp_in (x6 + x7) 60) (
            fg_g (vp_in (x6 + x7) 60) (
              fg_b (fn_X12_setPiece x7 (s.2 41 (h_ix (x6 + x7))) (s.2 42 (h_ix (x6 + x7))) (s.2 43 (h_ix (x6 + x7))) (s.2 44 (h_ix (x6 + x7))) (s.2 45 (h_ix (x6 + x7))) s) (fun u_ s18 =>
                K380 x4 x6 (x7 + (1 : Int32)) s18)))))))
noncomputable def fn_X12_takeOut_380 : Nat → Int32 → Int32 → Int32 → r_T → Option (Unit × r_T)
  | 0, _, _, _, _ => none
  | n + 1, x4, x6, x7, s => fn_X12_takeOut_380b (fn_X12_takeOut_380 n) x4 x6 x7 s
noncomputable def fn_X12_takeOut_25b (K25 : Int32 → Int32 → Int32 → Int32 → Int32 → Int32 → r_T → Option (Unit × r_T)) (x1 : Int32) (x3 : Int32) (x4 : Int32) (x5 : Int32) (x6 : Int32) (x7 : Int32) (s : r_T) : Option (Unit × r_T) :=
  fg_if (x5 ≤ x7)
    (fg_let (rt_F s 40 x4) (fun s3 =>
      fn_X12_takeOut_380 g_N x4 x6 (0 : Int32) s3))
    (fg_g (vp_in x7 60) (
      fg_if ((s.2 47 (h_ix x7)) ≤ x1)
        (fn_X12_takeOut_54 K25 x1 x3 x4 x5 x6 x7 s)
        (fg_g (vp_in x7 60) (
          fg_if ((s.2 46 (h_ix x7)) < x3)
            (fg_g (vp_in x7 60) (
              fg_if (x1 ≤ (s.2 46 (h_ix x7)))
                (fn_X12_takeOut_128 K25 x1 x3 x4 x5 x6 x7 (0 : Int32) s)
                (fg_g (vp_in x7 60) (
                  fn_X12_takeOut_128 K25 x1 x3 x4 x5 x6 x7 (x1 - (s.2 46 (h_ix x7))) s))))
            (fn_X12_takeOut_54 K25 x1 x3 x4 x5 x6 x7 s)))))
noncomputable def fn_X12_takeOut_25 : Nat → Int32 → Int32 → Int32 → Int32 → Int32 → Int32 → r_T → Option (Unit × r_T)
  | 0, _, _, _, _, _, _, _ => none
  | n + 1, x1, x3, x4, x5, x6, x7, s => fn_X12_takeOut_25b (fn_X12_takeOut_25 n) x1 x3 x4 x5 x6 x7 s
noncomputable def fn_X12_takeOut (x1 : Int32) (x2 : Int32) (s : r_T) : Option (Unit × r_T) :=
  fg_let (rt_F s 48 (0 : Int32)) (fun s2 =>
    fn_X12_takeOut_25 g_N x1 (x1 + x2) (0 : Int32) (s2.1 40) (30 : Int32) (0 : Int32) s2)
noncomputable def fn_X12_shownThen (x1 : Int32) (s : r_T) : Option (Int32 × r_T) :=
  fg_b (fn_X12_lay x1 ((s.1 1) + (1 : Int32)) s) (fun u_ s2 =>
    some ((s2.1 35), s2))
noncomputable def fn_X12_noPlaceAhead (x1 : Int32) (x2 : Int32) (s : r_T) : Option (Int32 × r_T) :=
  fg_b (fn_X12_lay x1 (s.1 1) s) (fun u_ s2 =>
    fg_b (fn_X12_in (x2.toInt64) (0 : Int64) ((s2.1 35).toInt64) s2) (fun p6 s5 =>
      fg_if (p6 = 0)
        (some ((1 : Int32), s5))
        (some ((0 : Int32), s5))))
noncomputable def fn_X12_noSheet (x0 : Int32) (s : r_T) : Option (Int32 × r_T) :=
  fg_b (fn_X12_in (x0.toInt64) (0 : Int64) (3 : Int64) s) (fun p2 s1 =>
    fg_if (p2 = 0)
      (some ((1 : Int32), s1))
      (some ((0 : Int32), s1)))
noncomputable def fn_X12_isBeyond (x0 : Int32) (l1 : Int64) (x3 : Int32) (s : r_T) : Option (Int32 × r_T) :=
  fg_if (x0 < 0)
    (some ((1 : Int32), s))
    (fg_if ((lg_cmp l1 (0 : Int64)) < 0)
      (some ((1 : Int32), s))
      (fg_if ((lg_cmp ((x0.toInt64) + l1) (x3.toInt64)) ≤ 0)
        (some ((0 : Int32), s))
        (some ((1 : Int32), s))))
noncomputable def fn_X12_barred_44 (x1 : Int32) (x3 : Int32) (x4 : Int32) (s : r_T) : Option (Int32 × r_T) :=
  fg_g (vp_in x1 4) (
    fg_if (0 ≤ (s.2 110 (h_ix x1)))
      (fg_if (0 ≤ x4)
        (fg_g (vp_in x1 4) (
          fg_b (fn_X12_isBeyond x3 (x4.toInt64) (s.2 110 (h_ix x1)) s) (fun p11 s10 =>
            fg_if (p11 = 0)
              (some ((0 : Int32), s10))
              (fg_b (fn_X12_failed (3 : Int32) s10) (fun p15 s14 =>
                some (p15, s14))))))
        (fg_b (fn_X12_failed (4 : Int32) s) (fun p17 s16 =>
          some (p17, s16))))
      (fg_b (fn_X12_failed (1 : Int32) s) (fun p19 s18 =>
        some (p19, s18))))
noncomputable def fn_X12_barred (x1 : Int32) (x2 : Int32) (x3 : Int32) (x4 : Int32) (s : r_T) : Option (Int32 × r_T) :=
  fg_b (fn_X12_in (x2.toInt64) (0 : Int64) (2 : Int64) s) (fun p2 s1 =>
    fg_if (p2 = 0)
      (fg_b (fn_X12_refused (-2 : Int32) s1) (fun p17 s16 =>
        some (p17, s16)))
      (fg_g (vp_in x1 4) (
        fg_if ((s1.2 110 (h_ix x1)) < 0)
          (fn_X12_barred_44 x1 x3 x4 s1)
          (fg_g (vp_in x1 4) (
            fg_if ((s1.2 111 (h_ix x1)) = x2)
              (fn_X12_barred_44 x1 x3 x4 s1)
              (fg_b (fn_X12_failed (2 : Int32) s1) (fun p14 s13 =>
                some (p14, s13))))))))
noncomputable def fn_X12_put_24 (s : r_T) : Option (Int32 × r_T) :=
  fg_b (fn_X12_refused (-1 : Int32) s) (fun p3 s2 =>
    some (p3, s2))
noncomputable def fn_X12_put_150 (s : r_T) : Option (Int32 × r_T) :=
  fg_b (fn_X12_refused (-4 : Int32) s) (fun p3 s2 =>
    some (p3, s2))
noncomputable def fn_X12_put_211b (K211 : Int32 → Int32 → Int32 → Int32 → Int32 → Int32 → Int32 → r_T → Option (Int32 × r_T)) (x1 : Int32) (x3 : Int32) (x5 : Int32) (x6 : Int32) (x8 : Int32) (x9 : Int32) (x10 : Int32) (s : r_T) : Option (Int32 × r_T) :=
  fg_if (x6 ≤ x10)
    (fg_b (fn_X12_acted ((s.1 22) - x6) s) (fun p4 s3 =>
      fg_b (fn_X12_refused p4 s3) (fun p7 s6 =>
        some (p7, s6))))
    (fg_g (vp_in ((((60 : Int32) * x3) + x5) + x10) 240) (
      fg_g (vp_in (s.1 22) 500) (
        fg_let (rt_A s 23 (h_ix (s.1 22)) (s.2 112 (h_ix ((((60 : Int32) * x3) + x5) + x10)))) (fun s15 =>
          fg_g (vp_in (s15.1 22) 500) (
            fg_let (rt_A s15 24 (h_ix (s15.1 22)) x8) (fun s19 =>
              fg_g (vp_in (s19.1 22) 500) (
                fg_let (rt_A s19 25 (h_ix (s19.1 22)) x1) (fun s23 =>
                  fg_g (vp_in (s23.1 22) 500) (
                    fg_let (rt_A s23 26 (h_ix (s23.1 22)) ((s23.1 1) + (1 : Int32))) (fun s27 =>
                      fg_g (vp_in (s27.1 22) 500) (
                        fg_let (rt_A s27 27 (h_ix (s27.1 22)) (x9 + x10)) (fun s31 =>
                          fg_let (rt_F s31 22 ((s31.1 22) + (1 : Int32))) (fun s32 =>
                            K211 x1 x3 x5 x6 x8 x9 (x10 + (1 : Int32)) s32)))))))))))))
noncomputable def fn_X12_put_211 : Nat → Int32 → Int32 → Int32 → Int32 → Int32 → Int32 → Int32 → r_T → Option (Int32 × r_T)
  | 0, _, _, _, _, _, _, _, _ => none
  | n + 1, x1, x3, x5, x6, x8, x9, x10, s => fn_X12_put_211b (fn_X12_put_211 n) x1 x3 x5 x6 x8 x9 x10 s
noncomputable def fn_X12_put_171b (K171 : Int32 → Int32 → Int32 → Int32 → Int32 → Int32 → Int32 → r_T → Option (Int32 × r_T)) (x1 : Int32) (x3 : Int32) (x5 : Int32) (x6 : Int32) (x8 : Int32) (x9 : Int32) (x10 : Int32) (s : r_T) : Option (Int32 × r_T) :=
  fg_if ((s.1 22) ≤ x10)
    (fn_X12_put_211 g_N x1 x3 x5 x6 x8 x9 (0 : Int32) s)
    (fg_g (vp_in x10 500) (
      fg_if ((s.2 24 (h_ix x10)) = x8)
        (K171 x1 x3 x5 x6 x8 (x9 + (1 : Int32)) (x10 + (1 : Int32)) s)
        (K171 x1 x3 x5 x6 x8 (x9 + (0 : Int32)) (x10 + (1 : Int32)) s)))
noncomputable def fn_X12_put_171 : Nat → Int32 → Int32 → Int32 → Int32 → Int32 → Int32 → Int32 → r_T → Option (Int32 × r_T)
  | 0, _, _, _, _, _, _, _, _ => none
  | n + 1, x1, x3, x5, x6, x8, x9, x10, s => fn_X12_put_171b (fn_X12_put_171 n) x1 x3 x5 x6 x8 x9 x10 s
noncomputable def fn_X12_put_54b (K54 : Int32 → Int32 → Int32 → Int32 → Int32 → Int32 → r_T → Option (Int32 × r_T)) (x1 : Int32) (x2 : Int32) (x3 : Int32) (x5 : Int32) (x6 : Int32) (x8 : Int32) (s : r_T) : Option (Int32 × r_T) :=
  fg_if (x6 ≤ x8)
    (fg_if (x6 = 0)
      (fg_b (fn_X12_refused (-2 : Int32) s) (fun p17 s16 =>
        some (p17, s16)))
      (fg_b (fn_X12_open x1 s) (fun u_ s4 =>
        fg_if ((500 : Int32) < ((s4.1 22) + x6))
          (fn_X12_put_150 s4)
          (fg_b (fn_X12_come x1 x2 (0 : Int32) (s4.1 22) x6 (-9 : Int32) (-9 : Int32) s4) (fun p9 s8 =>
            fg_if (p9 = 0)
              (fn_X12_put_150 s8)
              (fg_g (vp_in x1 12) (
                fn_X12_put_171 g_N x1 x3 x5 x6 (s8.2 9 (h_ix x1)) (0 : Int32) (0 : Int32) s8)))))))
    (fg_g (vp_in ((((60 : Int32) * x3) + x5) + x8) 240) (
      fg_b (fn_X12_in ((s.2 112 (h_ix ((((60 : Int32) * x3) + x5) + x8))).toInt64) (1 : Int64) (99 : Int64) s) (fun p23 s22 =>
        fg_if (p23 = 0)
          (fg_b (fn_X12_refused (-2 : Int32) s22) (fun p27 s26 =>
            some (p27, s26)))
          (K54 x1 x2 x3 x5 x6 (x8 + (1 : Int32)) s22))))
noncomputable def fn_X12_put_54 : Nat → Int32 → Int32 → Int32 → Int32 → Int32 → Int32 → r_T → Option (Int32 × r_T)
  | 0, _, _, _, _, _, _, _ => none
  | n + 1, x1, x2, x3, x5, x6, x8, s => fn_X12_put_54b (fn_X12_put_54 n) x1 x2 x3 x5 x6 x8 s
noncomputable def fn_X12_put (x1 : Int32) (x2 : Int32) (x3 : Int32) (x4 : Int32) (x5 : Int32) (x6 : Int32) (s : r_T) : Option (Int32 × r_T) :=
  fg_b (fn_X12_noWriting x1 s) (fun p3 s2 =>
    fg_if (p3 = 0)
      (fg_b (fn_X12_noSheet x3 s2) (fun p6 s5 =>
        fg_if (p6 = 0)
          (fg_b (fn_X12_noPlaceAhead x1 x2 s5) (fun p10 s9 =>
            fg_if (p10 = 0)
              (fg_b (fn_X12_barred x3 x4 x5 x6 s9) (fun p14 s13 =>
                fg_if (0 ≤ p14)
                  (fn_X12_put_54 g_N x1 x2 x3 x5 x6 (0 : Int32) s13)
                  (some (p14, s13))))
              (fn_X12_put_24 s9)))
          (fn_X12_put_24 s5)))
      (fn_X12_put_24 s2))
noncomputable def fn_X12_isThere (x1 : Int32) (x2 : Int32) (s : r_T) : Option (Int32 × r_T) :=
  fg_g (vp_in x1 20) (
    fg_if (x2 < (s.2 96 (h_ix x1)))
      (some ((0 : Int32), s))
      (fg_g (vp_in x1 20) (
        fg_if ((s.2 97 (h_ix x1)) = (-9 : Int32))
          (some ((1 : Int32), s))
          (fg_g (vp_in x1 20) (
            fg_if ((s.2 97 (h_ix x1)) ≤ x2)
              (some ((0 : Int32), s))
              (some ((1 : Int32), s)))))))
noncomputable def fn_X12_allows_44 (x1 : Int32) (x3 : Int32) (x4 : Int32) (y0 : Int32) (s : r_T) : Option (Int32 × r_T) :=
  fg_if (y0 = 0)
    (some ((0 : Int32), s))
    (fg_b (fn_X12_isThere x1 x4 s) (fun p4 s3 =>
      fg_if (p4 = 0)
        (some ((0 : Int32), s3))
        (fg_g (vp_in x1 20) (
          fg_g (vp_in x1 20) (
            fg_b (fn_X12_in (x4.toInt64) ((s3.2 93 (h_ix x1)).toInt64) ((s3.2 94 (h_ix x1)).toInt64) s3) (fun p14 s13 =>
              fg_if (p14 = 0)
                (some ((0 : Int32), s13))
                (fg_g (vp_in x1 20) (
                  fg_b (fn_X12_hasBit (s13.2 92 (h_ix x1)) x3 s13) (fun p21 s20 =>
                    fg_if (p21 = 0)
                      (some ((0 : Int32), s20))
                      (some ((1 : Int32), s20)))))))))))
noncomputable def fn_X12_allows (x1 : Int32) (x2 : Int32) (x3 : Int32) (x4 : Int32) (s : r_T) : Option (Int32 × r_T) :=
  fg_g (vp_in x1 20) (
    fg_if ((s.2 91 (h_ix x1)) < (8 : Int32))
      (fg_b (fn_X12_groupAt (s.2 91 (h_ix x1)) x4 s) (fun p7 s6 =>
        fg_b (fn_X12_hasBit p7 x2 s6) (fun p9 s8 =>
          fn_X12_allows_44 x1 x3 x4 p9 s8)))
      (fg_if (((s.2 91 (h_ix x1)) - (8 : Int32)) = x2)
        (fn_X12_allows_44 x1 x3 x4 (1 : Int32) s)
        (fn_X12_allows_44 x1 x3 x4 (0 : Int32) s)))
noncomputable def fn_X12_whyOf_16b (K16 : Int32 → Int32 → Int32 → Int32 → Int32 → r_T → Option (Int32 × r_T)) (x1 : Int32) (x2 : Int32) (x3 : Int32) (x4 : Int32) (x5 : Int32) (s : r_T) : Option (Int32 × r_T) :=
  fg_if ((s.1 89) ≤ x5)
    (some ((-9 : Int32), s))
    (fg_g (vp_in x5 20) (
      fg_if ((s.2 90 (h_ix x5)) = x2)
        (fg_b (fn_X12_allows x5 x1 x3 x4 s) (fun p8 s7 =>
          fg_if (p8 = 0)
            (K16 x1 x2 x3 x4 (x5 + (1 : Int32)) s7)
            (some (x5, s7))))
        (K16 x1 x2 x3 x4 (x5 + (1 : Int32)) s)))
noncomputable def fn_X12_whyOf_16 : Nat → Int32 → Int32 → Int32 → Int32 → Int32 → r_T → Option (Int32 × r_T)
  | 0, _, _, _, _, _, _ => none
  | n + 1, x1, x2, x3, x4, x5, s => fn_X12_whyOf_16b (fn_X12_whyOf_16 n) x1 x2 x3 x4 x5 s
noncomputable def fn_X12_whyOf (x1 : Int32) (x2 : Int32) (x3 : Int32) (x4 : Int32) (s : r_T) : Option (Int32 × r_T) :=
  fg_g (vp_in x2 12) (
    fg_if ((s.2 9 (h_ix x2)) = x1)
      (some ((99 : Int32), s))
      (fn_X12_whyOf_16 g_N x1 x2 x3 x4 (0 : Int32) s))
noncomputable def fn_X12_seen_52b (K52 : Int32 → Int32 → Int32 → Int32 → Int32 → r_T → Option (Int32 × r_T)) (x1 : Int32) (x2 : Int32) (x3 : Int32) (x4 : Int32) (x5 : Int32) (s : r_T) : Option (Int32 × r_T) :=
  fg_if ((x3 + x4) ≤ x5)
    (fg_b (fn_X12_open x1 s) (fun u_ s3 =>
      fg_b (fn_X12_come x1 x2 (1 : Int32) x3 x4 (-9 : Int32) (-9 : Int32) s3) (fun p7 s6 =>
        fg_if (p7 = 0)
          (some ((-4 : Int32), s6))
          (fg_b (fn_X12_shownThen x1 s6) (fun p11 s10 =>
            fg_b (fn_X12_acted p11 s10) (fun p14 s13 =>
              some (p14, s13)))))))
    (fg_g (vp_in x1 12) (
      fg_g (vp_in x5 500) (
        fg_b (fn_X12_whyOf (s.2 9 (h_ix x1)) (s.2 25 (h_ix x5)) (1 : Int32) (s.1 1) s) (fun p23 s22 =>
          fg_if (p23 = (-9 : Int32))
            (some ((-3 : Int32), s22))
            (K52 x1 x2 x3 x4 (x5 + (1 : Int32)) s22)))))
noncomputable def fn_X12_seen_52 : Nat → Int32 → Int32 → Int32 → Int32 → Int32 → r_T → Option (Int32 × r_T)
  | 0, _, _, _, _, _, _ => none
  | n + 1, x1, x2, x3, x4, x5, s => fn_X12_seen_52b (fn_X12_seen_52 n) x1 x2 x3 x4 x5 s
noncomputable def fn_X12_seen (x1 : Int32) (x2 : Int32) (x3 : Int32) (x4 : Int32) (s : r_T) : Option (Int32 × r_T) :=
  fg_b (fn_X12_noWriting x1 s) (fun p3 s2 =>
    fg_if (p3 = 0)
      (fg_b (fn_X12_noPlaceAhead x1 x2 s2) (fun p7 s6 =>
        fg_if (p7 = 0)
          (fg_if ((1 : Int32) ≤ x4)
            (fg_if (x3 < 0)
              (some ((-1 : Int32), s6))
              (fg_if ((lg_cmp ((x3.toInt64) + (x4.toInt64)) ((s6.1 22).toInt64)) ≤ 0)
                (fn_X12_seen_52 g_N x1 x2 x3 x4 x3 s6)
                (some ((-1 : Int32), s6))))
            (some ((-2 : Int32), s6)))
          (some ((-1 : Int32), s6))))
      (some ((-1 : Int32), s2)))
noncomputable def fn_X12_isWindow (x0 : Int32) (x1 : Int32) (s : r_T) : Option (Int32 × r_T) :=
  fg_b (fn_X12_in (x0.toInt64) (0 : Int64) (499 : Int64) s) (fun p2 s1 =>
    fg_if (p2 = 0)
      (some ((0 : Int32), s1))
      (fg_b (fn_X12_in (x1.toInt64) (1 : Int64) (500 : Int64) s1) (fun p5 s4 =>
        fg_if (p5 = 0)
          (some ((0 : Int32), s4))
          (some ((1 : Int32), s4)))))
noncomputable def fn_X12_span (x1 : Int32) (x2 : Int32) (x3 : Int32) (x4 : Int32) (x5 : Int32) (x6 : Int32) (s : r_T) : Option (Int32 × r_T) :=
  fg_b (fn_X12_noWriting x1 s) (fun p3 s2 =>
    fg_if (p3 = 0)
      (fg_b (fn_X12_noWriting x3 s2) (fun p7 s6 =>
        fg_if (p7 = 0)
          (fg_b (fn_X12_noPlaceAhead x1 x2 s6) (fun p11 s10 =>
            fg_if (p11 = 0)
              (fg_b (fn_X12_noMoment x4 s10) (fun p15 s14 =>
                fg_if (p15 = 0)
                  (fg_b (fn_X12_isWindow x5 x6 s14) (fun p18 s17 =>
                    fg_if (p18 = 0)
                      (some ((-2 : Int32), s17))
                      (fg_g (vp_in x1 12) (
                        fg_b (fn_X12_whyOf (s17.2 9 (h_ix x1)) x3 (1 : Int32) (s17.1 1) s17) (fun p25 s24 =>
                          fg_if (p25 = (-9 : Int32))
                            (some ((-3 : Int32), s24))
                            (fg_b (fn_X12_open x1 s24) (fun u_ s28 =>
                              fg_b (fn_X12_come x1 x2 (2 : Int32) x5 x6 x3 x4 s28) (fun p32 s31 =>
                                fg_if (p32 = 0)
                                  (some ((-4 : Int32), s31))
                                  (fg_b (fn_X12_shownThen x1 s31) (fun p36 s35 =>
                                    fg_b (fn_X12_acted p36 s35) (fun p39 s38 =>
                                      some (p39, s38))))))))))))
                  (some ((-1 : Int32), s14))))
              (some ((-1 : Int32), s10))))
          (some ((-1 : Int32), s6))))
      (some ((-1 : Int32), s2)))
noncomputable def fn_X12_come2_26 (y0 : Int32) (y1 : Int32) (s : r_T) : Option (Unit × r_T) :=
  fg_g (vp_in y1 12) (
    fg_let (rt_A s 54 (h_ix y1) y0) (fun s4 =>
      some ((), s4)))
noncomputable def fn_X12_come2 (x1 : Int32) (x2 : Int32) (s : r_T) : Option (Unit × r_T) :=
  fg_g (vp_in x1 12) (
    fg_if ((s.2 54 (h_ix x1)) = (-9 : Int32))
      (fn_X12_come2_26 x2 x1 s)
      (fg_g (vp_in x1 12) (
        fn_X12_come2_26 (s.2 54 (h_ix x1)) x1 s)))
noncomputable def fn_X12_goFrom_84b (K14 : Int32 → Int32 → Int32 → Int32 → r_T → Option (Unit × r_T)) (K84 : Int32 → Int32 → Int32 → Int32 → Int32 → Int32 → r_T → Option (Unit × r_T)) (x2 : Int32) (x3 : Int32) (x4 : Int32) (x5 : Int32) (x6 : Int32) (x7 : Int32) (s : r_T) : Option (Unit × r_T) :=
  fg_g (vp_in x6 28800) (
    fg_if ((s.2 19 (h_ix x6)) ≤ x7)
      (K14 x2 x3 x4 (x5 + (1 : Int32)) s)
      (fg_g (vp_in x6 28800) (
        fg_if ((s.2 17 (h_ix x6)) = (1 : Int32))
          (fg_if (x3 = 0)
            (fg_g (vp_in x6 28800) (
              fg_g (vp_in ((s.2 18 (h_ix x6)) + x7) 500) (
                fg_b (fn_X12_come2 (s.2 25 (h_ix ((s.2 18 (h_ix x6)) + x7))) x2 s) (fun u_ s17 =>
                  K84 x2 x3 x4 x5 x6 (x7 + (1 : Int32)) s17))))
            (K14 x2 x3 x4 (x5 + (1 : Int32)) s))
          (K14 x2 x3 x4 (x5 + (1 : Int32)) s))))
noncomputable def fn_X12_goFrom_84 (K14 : Int32 → Int32 → Int32 → Int32 → r_T → Option (Unit × r_T)) : Nat → Int32 → Int32 → Int32 → Int32 → Int32 → Int32 → r_T → Option (Unit × r_T)
  | 0, _, _, _, _, _, _, _ => none
  | n + 1, x2, x3, x4, x5, x6, x7, s => fn_X12_goFrom_84b K14 (fn_X12_goFrom_84 K14 n) x2 x3 x4 x5 x6 x7 s
noncomputable def fn_X12_goFrom_81 (K14 : Int32 → Int32 → Int32 → Int32 → r_T → Option (Unit × r_T)) (x2 : Int32) (x3 : Int32) (x4 : Int32) (x5 : Int32) (x6 : Int32) (s : r_T) : Option (Unit × r_T) :=
  fn_X12_goFrom_84 K14 g_N x2 x3 x4 x5 x6 (0 : Int32) s
noncomputable def fn_X12_goFrom_69 (K14 : Int32 → Int32 → Int32 → Int32 → r_T → Option (Unit × r_T)) (x2 : Int32) (x3 : Int32) (x4 : Int32) (x5 : Int32) (x6 : Int32) (s : r_T) : Option (Unit × r_T) :=
  fg_g (vp_in x6 28800) (
    fg_b (fn_X12_come2 (s.2 20 (h_ix x6)) x2 s) (fun u_ s5 =>
      fn_X12_goFrom_81 K14 x2 x3 x4 x5 x6 s5))
noncomputable def fn_X12_goFrom_14b (K14 : Int32 → Int32 → Int32 → Int32 → r_T → Option (Unit × r_T)) (x2 : Int32) (x3 : Int32) (x4 : Int32) (x5 : Int32) (s : r_T) : Option (Unit × r_T) :=
  fg_if (x4 < 0)
    (some ((), s))
    (fg_g (vp_in x4 1200) (
      fg_if ((s.2 15 (h_ix x4)) ≤ x5)
        (some ((), s))
        (fg_g (vp_in x4 1200) (
          fg_g (vp_in ((s.2 14 (h_ix x4)) + x5) 28800) (
            fg_if ((s.2 17 (h_ix ((s.2 14 (h_ix x4)) + x5))) = (3 : Int32))
              (fn_X12_goFrom_69 K14 x2 x3 x4 x5 ((s.2 14 (h_ix x4)) + x5) s)
              (fg_g (vp_in ((s.2 14 (h_ix x4)) + x5) 28800) (
                fg_if ((s.2 17 (h_ix ((s.2 14 (h_ix x4)) + x5))) = (2 : Int32))
                  (fg_if (x3 = 0)
                    (fn_X12_goFrom_69 K14 x2 x3 x4 x5 ((s.2 14 (h_ix x4)) + x5) s)
                    (fn_X12_goFrom_81 K14 x2 x3 x4 x5 ((s.2 14 (h_ix x4)) + x5) s))
                  (fn_X12_goFrom_81 K14 x2 x3 x4 x5 ((s.2 14 (h_ix x4)) + x5) s))))))))
noncomputable def fn_X12_goFrom_14 : Nat → Int32 → Int32 → Int32 → Int32 → r_T → Option (Unit × r_T)
  | 0, _, _, _, _, _ => none
  | n + 1, x2, x3, x4, x5, s => fn_X12_goFrom_14b (fn_X12_goFrom_14 n) x2 x3 x4 x5 s
noncomputable def fn_X12_goFrom (x1 : Int32) (x2 : Int32) (x3 : Int32) (s : r_T) : Option (Unit × r_T) :=
  fg_b (fn_X12_logOf x1 (s.1 1) s) (fun p3 s2 =>
    fn_X12_goFrom_14 g_N x2 x3 p3 (0 : Int32) s2)
noncomputable def fn_X12_laySteps_26 (K2 : Int32 → Int32 → Int32 → r_T → Option (Unit × r_T)) (x1 : Int32) (x2 : Int32) (x3 : Int32) (y0 : Int32) (y1 : Int32) (s : r_T) : Option (Unit × r_T) :=
  fg_g (vp_in y1 12) (
    fg_let (rt_A s 54 (h_ix y1) y0) (fun s4 =>
      K2 x1 x2 (x3 + (1 : Int32)) s4))
noncomputable def fn_X12_laySteps_46b (K35 : Int32 → Int32 → r_T → Option (Unit × r_T)) (K46 : Int32 → Int32 → Int32 → r_T → Option (Unit × r_T)) (x2 : Int32) (x3 : Int32) (x4 : Int32) (s : r_T) : Option (Unit × r_T) :=
  fg_if ((s.1 8) ≤ x4)
    (K35 x2 (x3 + (1 : Int32)) s)
    (fg_g (vp_in x4 12) (
      fg_if ((s.2 54 (h_ix x4)) = x3)
        (fg_b (fn_X12_goFrom x4 (x3 + (1 : Int32)) x2 s) (fun u_ s7 =>
          K46 x2 x3 (x4 + (1 : Int32)) s7))
        (K46 x2 x3 (x4 + (1 : Int32)) s)))
noncomputable def fn_X12_laySteps_46 (K35 : Int32 → Int32 → r_T → Option (Unit × r_T)) : Nat → Int32 → Int32 → Int32 → r_T → Option (Unit × r_T)
  | 0, _, _, _, _ => none
  | n + 1, x2, x3, x4, s => fn_X12_laySteps_46b K35 (fn_X12_laySteps_46 K35 n) x2 x3 x4 s
noncomputable def fn_X12_laySteps_35b (K35 : Int32 → Int32 → r_T → Option (Unit × r_T)) (x2 : Int32) (x3 : Int32) (s : r_T) : Option (Unit × r_T) :=
  fg_if ((s.1 8) ≤ x3)
    (some ((), s))
    (fn_X12_laySteps_46 K35 g_N x2 x3 (0 : Int32) s)
noncomputable def fn_X12_laySteps_35 : Nat → Int32 → Int32 → r_T → Option (Unit × r_T)
  | 0, _, _, _ => none
  | n + 1, x2, x3, s => fn_X12_laySteps_35b (fn_X12_laySteps_35 n) x2 x3 s
noncomputable def fn_X12_laySteps_2b (K2 : Int32 → Int32 → Int32 → r_T → Option (Unit × r_T)) (x1 : Int32) (x2 : Int32) (x3 : Int32) (s : r_T) : Option (Unit × r_T) :=
  fg_if ((s.1 8) ≤ x3)
    (fn_X12_laySteps_35 g_N x2 (0 : Int32) s)
    (fg_if (x3 = x1)
      (fn_X12_laySteps_26 K2 x1 x2 x3 (0 : Int32) x3 s)
      (fn_X12_laySteps_26 K2 x1 x2 x3 (-9 : Int32) x3 s))
noncomputable def fn_X12_laySteps_2 : Nat → Int32 → Int32 → Int32 → r_T → Option (Unit × r_T)
  | 0, _, _, _, _ => none
  | n + 1, x1, x2, x3, s => fn_X12_laySteps_2b (fn_X12_laySteps_2 n) x1 x2 x3 s
noncomputable def fn_X12_laySteps (x1 : Int32) (x2 : Int32) (s : r_T) : Option (Unit × r_T) :=
  fn_X12_laySteps_2 g_N x1 x2 (0 : Int32) s
noncomputable def fn_X12_live (x1 : Int32) (x2 : Int32) (x3 : Int32) (x4 : Int32) (x5 : Int32) (s : r_T) : Option (Int32 × r_T) :=
  fg_b (fn_X12_noWriting x1 s) (fun p3 s2 =>
    fg_if (p3 = 0)
      (fg_b (fn_X12_noWriting x3 s2) (fun p7 s6 =>
        fg_if (p7 = 0)
          (fg_b (fn_X12_noPlaceAhead x1 x2 s6) (fun p11 s10 =>
            fg_if (p11 = 0)
              (fg_b (fn_X12_isWindow x4 x5 s10) (fun p14 s13 =>
                fg_if (p14 = 0)
                  (some ((-2 : Int32), s13))
                  (fg_g (vp_in x1 12) (
                    fg_b (fn_X12_whyOf (s13.2 9 (h_ix x1)) x3 (1 : Int32) (s13.1 1) s13) (fun p21 s20 =>
                      fg_if (p21 = (-9 : Int32))
                        (some ((-3 : Int32), s20))
                        (fg_b (fn_X12_laySteps x3 (1 : Int32) s20) (fun u_ s24 =>
                          fg_g (vp_in x1 12) (
                            fg_if ((s24.2 54 (h_ix x1)) < 0)
                              (fg_b (fn_X12_open x1 s24) (fun u_ s31 =>
                                fg_b (fn_X12_come x1 x2 (3 : Int32) x4 x5 x3 (-9 : Int32) s31) (fun p35 s34 =>
                                  fg_if (p35 = 0)
                                    (some ((-4 : Int32), s34))
                                    (fg_b (fn_X12_shownThen x1 s34) (fun p39 s38 =>
                                      fg_b (fn_X12_acted p39 s38) (fun p42 s41 =>
                                        some (p42, s41)))))))
                              (fg_g (vp_in x1 12) (
                                some (((-100 : Int32) - (s24.2 54 (h_ix x1))), s24)))))))))))
              (some ((-1 : Int32), s10))))
          (some ((-1 : Int32), s6))))
      (some ((-1 : Int32), s2)))
noncomputable def fn_X12_noPlaces (x1 : Int32) (x2 : Int32) (x3 : Int32) (s : r_T) : Option (Int32 × r_T) :=
  fg_b (fn_X12_noWriting x1 s) (fun p3 s2 =>
    fg_if (p3 = 0)
      (fg_b (fn_X12_open x1 s2) (fun u_ s6 =>
        fg_b (fn_X12_in (x2.toInt64) (0 : Int64) (((s6.1 35).toInt64) - (1 : Int64)) s6) (fun p10 s9 =>
          fg_if (p10 = 0)
            (some ((-1 : Int32), s9))
            (fg_b (fn_X12_in (x3.toInt64) (1 : Int64) (((s9.1 35) - x2).toInt64) s9) (fun p14 s13 =>
              fg_if (p14 = 0)
                (some ((-2 : Int32), s13))
                (some ((0 : Int32), s13)))))))
      (some ((-1 : Int32), s2)))
noncomputable def fn_X12_cut (x1 : Int32) (x2 : Int32) (x3 : Int32) (s : r_T) : Option (Int32 × r_T) :=
  fg_b (fn_X12_noPlaces x1 x2 x3 s) (fun p3 s2 =>
    fg_if (0 ≤ p3)
      (fg_b (fn_X12_takeOut x2 x3 s2) (fun u_ s6 =>
        fg_b (fn_X12_store x1 s6) (fun p10 s9 =>
          fg_if (p10 = 0)
            (some ((-4 : Int32), s9))
            (fg_b (fn_X12_shownThen x1 s9) (fun p14 s13 =>
              fg_b (fn_X12_acted p14 s13) (fun p17 s16 =>
                some (p17, s16)))))))
      (some (p3, s2)))
noncomputable def fn_X12_layRow_28b (K28 : Int32 → Int32 → r_T → Option (Unit × r_T)) (x1 : Int32) (x2 : Int32) (s : r_T) : Option (Unit × r_T) :=
  fg_if ((s.1 40) ≤ x2)
    (fg_b (fn_X12_layLog (s.1 10) x1 (s.1 1) s) (fun u_ s3 =>
      fg_b (fn_X12_bound s3) (fun u_ s6 =>
        some ((), s6))))
    (fg_g (vp_in x2 60) (
      fg_g (vp_in ((s.1 16) + x2) 28800) (
        fg_let (rt_A s 17 (h_ix ((s.1 16) + x2)) (s.2 41 (h_ix x2))) (fun s14 =>
          fg_g (vp_in x2 60) (
            fg_g (vp_in ((s14.1 16) + x2) 28800) (
              fg_let (rt_A s14 18 (h_ix ((s14.1 16) + x2)) (s14.2 42 (h_ix x2))) (fun s21 =>
                fg_g (vp_in x2 60) (
                  fg_g (vp_in ((s21.1 16) + x2) 28800) (
                    fg_let (rt_A s21 19 (h_ix ((s21.1 16) + x2)) (s21.2 43 (h_ix x2))) (fun s28 =>
                      fg_g (vp_in x2 60) (
                        fg_g (vp_in ((s28.1 16) + x2) 28800) (
                          fg_let (rt_A s28 20 (h_ix ((s28.1 16) + x2)) (s28.2 44 (h_ix x2))) (fun s35 =>
                            fg_g (vp_in x2 60) (
                              fg_g (vp_in ((s35.1 16) + x2) 28800) (
                                fg_let (rt_A s35 21 (h_ix ((s35.1 16) + x2)) (s35.2 45 (h_ix x2))) (fun s42 =>
                                  K28 x1 (x2 + (1 : Int32)) s42))))))))))))))))
noncomputable def fn_X12_layRow_28 : Nat → Int32 → Int32 → r_T → Option (Unit × r_T)
  | 0, _, _, _ => none
  | n + 1, x1, x2, s => fn_X12_layRow_28b (fn_X12_layRow_28 n) x1 x2 s
noncomputable def fn_X12_layRow (x1 : Int32) (s : r_T) : Option (Unit × r_T) :=
  fg_g (vp_in (s.1 10) 1200) (
    fg_let (rt_A s 14 (h_ix (s.1 10)) (s.1 16)) (fun s5 =>
      fg_g (vp_in (s5.1 10) 1200) (
        fg_let (rt_A s5 15 (h_ix (s5.1 10)) (s5.1 40)) (fun s9 =>
          fn_X12_layRow_28 g_N x1 (0 : Int32) s9))))
noncomputable def fn_X12_move_102b (K102 : Int32 → Int32 → Int32 → r_T → Option (Int32 × r_T)) (x1 : Int32) (x6 : Int32) (x7 : Int32) (s : r_T) : Option (Int32 × r_T) :=
  fg_if ((s.1 48) ≤ x7)
    (fg_b (fn_X12_store x1 s) (fun p4 s3 =>
      fg_if (p4 = 0)
        (some ((-4 : Int32), s3))
        (fg_b (fn_X12_acted (s.1 40) s3) (fun p8 s7 =>
          some (p8, s7)))))
    (fg_g (vp_in x7 60) (
      fg_g (vp_in x7 60) (
        fg_g (vp_in x7 60) (
          fg_g (vp_in x7 60) (
            fg_g (vp_in x7 60) (
              fg_b (fn_X12_setPiece (x6 + x7) (s.2 49 (h_ix x7)) (s.2 50 (h_ix x7)) (s.2 51 (h_ix x7)) (s.2 52 (h_ix x7)) (s.2 53 (h_ix x7)) s) (fun u_ s24 =>
                K102 x1 x6 (x7 + (1 : Int32)) s24)))))))
noncomputable def fn_X12_move_102 : Nat → Int32 → Int32 → Int32 → r_T → Option (Int32 × r_T)
  | 0, _, _, _, _ => none
  | n + 1, x1, x6, x7, s => fn_X12_move_102b (fn_X12_move_102 n) x1 x6 x7 s
noncomputable def fn_X12_move_84 (x1 : Int32) (y0 : Int32) (s : r_T) : Option (Int32 × r_T) :=
  fg_b (fn_X12_openAt y0 s) (fun p3 s2 =>
    fg_b (fn_X12_widen p3 (s2.1 48) s2) (fun u_ s5 =>
      fn_X12_move_102 g_N x1 p3 (0 : Int32) s5))
noncomputable def fn_X12_move_57 (x1 : Int32) (x2 : Int32) (x3 : Int32) (x4 : Int32) (s : r_T) : Option (Int32 × r_T) :=
  fg_b (fn_X12_takeOut x2 x3 s) (fun u_ s2 =>
    fg_b (fn_X12_layRow x1 s2) (fun u_ s5 =>
      fg_if (x4 ≤ x2)
        (fn_X12_move_84 x1 x4 s5)
        (fn_X12_move_84 x1 (x4 - x3) s5)))
noncomputable def fn_X12_move (x1 : Int32) (x2 : Int32) (x3 : Int32) (x4 : Int32) (s : r_T) : Option (Int32 × r_T) :=
  fg_b (fn_X12_noPlaces x1 x2 x3 s) (fun p3 s2 =>
    fg_if (p3 = (-1 : Int32))
      (some ((-1 : Int32), s2))
      (fg_b (fn_X12_in (x4.toInt64) (0 : Int64) ((s2.1 35).toInt64) s2) (fun p7 s6 =>
        fg_if (p7 = 0)
          (some ((-1 : Int32), s6))
          (fg_if (0 ≤ p3)
            (fg_if (x4 ≤ x2)
              (fn_X12_move_57 x1 x2 x3 x4 s6)
              (fg_if ((x2 + x3) ≤ x4)
                (fn_X12_move_57 x1 x2 x3 x4 s6)
                (some ((-3 : Int32), s6))))
            (some (p3, s6))))))
noncomputable def fn_X12_again (x1 : Int32) (x2 : Int32) (s : r_T) : Option (Int32 × r_T) :=
  fg_b (fn_X12_noWriting x1 s) (fun p3 s2 =>
    fg_if (p3 = 0)
      (fg_b (fn_X12_noMoment x2 s2) (fun p7 s6 =>
        fg_if (p7 = 0)
          (fg_b (fn_X12_load x1 x2 s6) (fun u_ s10 =>
            fg_b (fn_X12_store x1 s10) (fun p14 s13 =>
              fg_b (fn_X12_acted (s13.1 40) s13) (fun p17 s16 =>
                some (p17, s16)))))
          (some ((-1 : Int32), s6))))
      (some ((-1 : Int32), s2)))
noncomputable def fn_X12_length (x1 : Int32) (x2 : Int32) (s : r_T) : Option (Int32 × r_T) :=
  fg_b (fn_X12_noWriting x1 s) (fun p3 s2 =>
    fg_if (p3 = 0)
      (fg_b (fn_X12_noMoment x2 s2) (fun p7 s6 =>
        fg_if (p7 = 0)
          (fg_b (fn_X12_lay x1 x2 s6) (fun u_ s10 =>
            some ((s10.1 35), s10)))
          (some ((-1 : Int32), s6))))
      (some ((-1 : Int32), s2)))
noncomputable def fn_X12_shown (x1 : Int32) (x2 : Int32) (x3 : Int32) (s : r_T) : Option (Int32 × r_T) :=
  fg_b (fn_X12_noWriting x1 s) (fun p3 s2 =>
    fg_if (p3 = 0)
      (fg_b (fn_X12_noMoment x2 s2) (fun p7 s6 =>
        fg_if (p7 = 0)
          (fg_b (fn_X12_lay x1 x2 s6) (fun u_ s10 =>
            fg_b (fn_X12_in (x3.toInt64) (0 : Int64) (((s10.1 35).toInt64) - (1 : Int64)) s10) (fun p14 s13 =>
              fg_if (p14 = 0)
                (some ((-1 : Int32), s13))
                (fg_g (vp_in x3 300) (
                  some ((s13.2 36 (h_ix x3)), s13))))))
          (some ((-1 : Int32), s6))))
      (some ((-1 : Int32), s2)))
noncomputable def fn_X12_pieces (x1 : Int32) (s : r_T) : Option (Int32 × r_T) :=
  fg_b (fn_X12_noWriting x1 s) (fun p3 s2 =>
    fg_if (p3 = 0)
      (fg_b (fn_X12_load x1 (s2.1 1) s2) (fun u_ s6 =>
        some ((s6.1 40), s6)))
      (some ((-1 : Int32), s2)))
noncomputable def fn_X12_piece (x1 : Int32) (x2 : Int32) (x3 : Int32) (s : r_T) : Option (Int32 × r_T) :=
  fg_b (fn_X12_noWriting x1 s) (fun p3 s2 =>
    fg_if (p3 = 0)
      (fg_b (fn_X12_load x1 (s2.1 1) s2) (fun u_ s6 =>
        fg_b (fn_X12_in (x2.toInt64) (0 : Int64) (((s6.1 40).toInt64) - (1 : Int64)) s6) (fun p10 s9 =>
          fg_if (p10 = 0)
            (some ((-1 : Int32), s9))
            (fg_if (x3 = (0 : Int32))
              (fg_g (vp_in x2 60) (
                some ((s9.2 41 (h_ix x2)), s9)))
              (fg_if (x3 = (1 : Int32))
                (fg_g (vp_in x2 60) (
                  some ((s9.2 42 (h_ix x2)), s9)))
                (fg_if (x3 = (2 : Int32))
                  (fg_g (vp_in x2 60) (
                    some ((s9.2 43 (h_ix x2)), s9)))
                  (fg_if (x3 = (3 : Int32))
                    (fg_g (vp_in x2 60) (
                      some ((s9.2 44 (h_ix x2)), s9)))
                    (fg_if (x3 = (4 : Int32))
                      (fg_g (vp_in x2 60) (
                        some ((s9.2 45 (h_ix x2)), s9)))
                      (some ((-2 : Int32), s9))))))))))
      (some ((-1 : Int32), s2)))
noncomputable def fn_X12_word (x1 : Int32) (x2 : Int32) (s : r_T) : Option (Int32 × r_T) :=
  fg_b (fn_X12_noWord x1 s) (fun p3 s2 =>
    fg_if (p3 = 0)
      (fg_if (x2 = (0 : Int32))
        (fg_g (vp_in x1 500) (
          some ((s2.2 23 (h_ix x1)), s2)))
        (fg_if (x2 = (1 : Int32))
          (fg_g (vp_in x1 500) (
            some ((s2.2 24 (h_ix x1)), s2)))
          (fg_if (x2 = (2 : Int32))
            (fg_g (vp_in x1 500) (
              some ((s2.2 25 (h_ix x1)), s2)))
            (fg_if (x2 = (3 : Int32))
              (fg_g (vp_in x1 500) (
                some ((s2.2 26 (h_ix x1)), s2)))
              (fg_if (x2 = (4 : Int32))
                (fg_g (vp_in x1 500) (
                  some ((s2.2 27 (h_ix x1)), s2)))
                (some ((-2 : Int32), s2)))))))
      (some ((-1 : Int32), s2)))
noncomputable def fn_X12_noVersion (x1 : Int32) (s : r_T) : Option (Int32 × r_T) :=
  fg_b (fn_X12_in (x1.toInt64) (0 : Int64) (((s.1 55).toInt64) - (1 : Int64)) s) (fun p3 s2 =>
    fg_if (p3 = 0)
      (some ((1 : Int32), s2))
      (some ((0 : Int32), s2)))
noncomputable def fn_X12_layVersion (x1 : Int32) (s : r_T) : Option (Unit × r_T) :=
  fg_g (vp_in x1 16) (
    fg_g (vp_in x1 16) (
      fg_b (fn_X12_lay (s.2 56 (h_ix x1)) (s.2 57 (h_ix x1)) s) (fun u_ s8 =>
        some ((), s8))))
noncomputable def fn_X12_version (x1 : Int32) (s : r_T) : Option (Int32 × r_T) :=
  fg_b (fn_X12_noWriting x1 s) (fun p3 s2 =>
    fg_if (p3 = 0)
      (fg_if ((s2.1 55) = (16 : Int32))
        (some ((-4 : Int32), s2))
        (fg_g (vp_in (s2.1 55) 16) (
          fg_let (rt_A s2 56 (h_ix (s2.1 55)) x1) (fun s10 =>
            fg_g (vp_in (s10.1 55) 16) (
              fg_let (rt_A s10 57 (h_ix (s10.1 55)) ((s10.1 1) + (1 : Int32))) (fun s14 =>
                fg_g (vp_in (s14.1 55) 16) (
                  fg_let (rt_A s14 58 (h_ix (s14.1 55)) (-9 : Int32)) (fun s18 =>
                    fg_g (vp_in (s18.1 55) 16) (
                      fg_let (rt_A s18 59 (h_ix (s18.1 55)) (-9 : Int32)) (fun s22 =>
                        fg_let (rt_F s22 55 ((s22.1 55) + (1 : Int32))) (fun s23 =>
                          fg_b (fn_X12_acted ((s23.1 55) - (1 : Int32)) s23) (fun p25 s24 =>
                            some (p25, s24)))))))))))))
      (some ((-1 : Int32), s2)))
noncomputable def fn_X12_give (x1 : Int32) (s : r_T) : Option (Int32 × r_T) :=
  fg_b (fn_X12_noVersion x1 s) (fun p3 s2 =>
    fg_if (p3 = 0)
      (fg_g (vp_in x1 16) (
        fg_if ((s2.2 58 (h_ix x1)) < 0)
          (fg_g (vp_in x1 16) (
            fg_let (rt_A s2 58 (h_ix x1) ((s2.1 1) + (1 : Int32))) (fun s13 =>
              fg_b (fn_X12_layVersion x1 s13) (fun u_ s14 =>
                fg_b (fn_X12_acted (s14.1 35) s14) (fun p18 s17 =>
                  some (p18, s17))))))
          (some ((-3 : Int32), s2))))
      (some ((-1 : Int32), s2)))
noncomputable def fn_X12_back (x1 : Int32) (s : r_T) : Option (Int32 × r_T) :=
  fg_b (fn_X12_noVersion x1 s) (fun p3 s2 =>
    fg_if (p3 = 0)
      (fg_g (vp_in x1 16) (
        fg_if ((s2.2 58 (h_ix x1)) < 0)
          (some ((-3 : Int32), s2))
          (fg_g (vp_in x1 16) (
            fg_if ((s2.2 59 (h_ix x1)) < 0)
              (fg_g (vp_in x1 16) (
                fg_let (rt_A s2 59 (h_ix x1) ((s2.1 1) + (1 : Int32))) (fun s17 =>
                  fg_b (fn_X12_layVersion x1 s17) (fun u_ s18 =>
                    fg_b (fn_X12_acted (s18.1 35) s18) (fun p22 s21 =>
                      some (p22, s21))))))
              (some ((-3 : Int32), s2))))))
      (some ((-1 : Int32), s2)))
noncomputable def fn_X12_about_20b (K20 : Int32 → Int32 → Int32 → Int32 → r_T → Option (Int32 × r_T)) (x1 : Int32) (x2 : Int32) (x3 : Int32) (x4 : Int32) (s : r_T) : Option (Int32 × r_T) :=
  fg_if ((s.1 35) ≤ x4)
    (fg_if (x2 = (0 : Int32))
      (fg_g (vp_in x1 16) (
        fg_if ((s.2 59 (h_ix x1)) < 0)
          (fg_g (vp_in x1 16) (
            fg_if ((s.2 58 (h_ix x1)) < 0)
              (some ((0 : Int32), s))
              (some ((1 : Int32), s))))
          (some ((2 : Int32), s))))
      (fg_if (x2 = (1 : Int32))
        (fg_g (vp_in x1 16) (
          some ((s.2 56 (h_ix x1)), s)))
        (fg_if (x2 = (2 : Int32))
          (fg_g (vp_in x1 16) (
            some ((s.2 57 (h_ix x1)), s)))
          (fg_if (x2 = (3 : Int32))
            (some ((s.1 35), s))
            (fg_if (x2 = (4 : Int32))
              (some (x3, s))
              (some ((-2 : Int32), s)))))))
    (fg_g (vp_in x4 300) (
      fg_if ((s.2 36 (h_ix x4)) = (-7 : Int32))
        (K20 x1 x2 (x3 + (1 : Int32)) (x4 + (1 : Int32)) s)
        (K20 x1 x2 (x3 + (0 : Int32)) (x4 + (1 : Int32)) s)))
noncomputable def fn_X12_about_20 : Nat → Int32 → Int32 → Int32 → Int32 → r_T → Option (Int32 × r_T)
  | 0, _, _, _, _, _ => none
  | n + 1, x1, x2, x3, x4, s => fn_X12_about_20b (fn_X12_about_20 n) x1 x2 x3 x4 s
noncomputable def fn_X12_about (x1 : Int32) (x2 : Int32) (s : r_T) : Option (Int32 × r_T) :=
  fg_b (fn_X12_noVersion x1 s) (fun p3 s2 =>
    fg_if (p3 = 0)
      (fg_b (fn_X12_layVersion x1 s2) (fun u_ s6 =>
        fn_X12_about_20 g_N x1 x2 (0 : Int32) (0 : Int32) s6))
      (some ((-1 : Int32), s2)))
noncomputable def fn_X12_at (x1 : Int32) (x2 : Int32) (s : r_T) : Option (Int32 × r_T) :=
  fg_b (fn_X12_noVersion x1 s) (fun p3 s2 =>
    fg_if (p3 = 0)
      (fg_b (fn_X12_layVersion x1 s2) (fun u_ s6 =>
        fg_b (fn_X12_in (x2.toInt64) (0 : Int64) (((s6.1 35).toInt64) - (1 : Int64)) s6) (fun p10 s9 =>
          fg_if (p10 = 0)
            (some ((-1 : Int32), s9))
            (fg_g (vp_in x2 300) (
              some ((s9.2 36 (h_ix x2)), s9))))))
      (some ((-1 : Int32), s2)))
noncomputable def fn_X12_takeOne_35 (K12 : Int32 → Int32 → r_T → Option (Unit × r_T)) (x2 : Int32) (x3 : Int32) (s : r_T) : Option (Unit × r_T) :=
  fg_g (vp_in x3 300) (
    fg_g (vp_in (s.1 60) 300) (
      fg_let (rt_A s 62 (h_ix (s.1 60)) (s.2 36 (h_ix x3))) (fun s8 =>
        fg_let (rt_F s8 60 ((s8.1 60) + (1 : Int32))) (fun s9 =>
          K12 x2 (x3 + (1 : Int32)) s9))))
noncomputable def fn_X12_takeOne_12b (K12 : Int32 → Int32 → r_T → Option (Unit × r_T)) (x2 : Int32) (x3 : Int32) (s : r_T) : Option (Unit × r_T) :=
  fg_if ((s.1 35) ≤ x3)
    (some ((), s))
    (fg_if (x2 = 0)
      (fg_g (vp_in x3 300) (
        fg_if ((s.2 36 (h_ix x3)) = (-7 : Int32))
          (K12 x2 (x3 + (1 : Int32)) s)
          (fn_X12_takeOne_35 K12 x2 x3 s)))
      (fn_X12_takeOne_35 K12 x2 x3 s))
noncomputable def fn_X12_takeOne_12 : Nat → Int32 → Int32 → r_T → Option (Unit × r_T)
  | 0, _, _, _ => none
  | n + 1, x2, x3, s => fn_X12_takeOne_12b (fn_X12_takeOne_12 n) x2 x3 s
noncomputable def fn_X12_takeOne (x1 : Int32) (x2 : Int32) (s : r_T) : Option (Unit × r_T) :=
  fg_b (fn_X12_layVersion x1 s) (fun u_ s2 =>
    fg_let (rt_F s2 60 (0 : Int32)) (fun s5 =>
      fn_X12_takeOne_12 g_N x2 (0 : Int32) s5))
noncomputable def fn_X12_takeTwo_35 (K12 : Int32 → Int32 → r_T → Option (Unit × r_T)) (x2 : Int32) (x3 : Int32) (s : r_T) : Option (Unit × r_T) :=
  fg_g (vp_in x3 300) (
    fg_g (vp_in (s.1 61) 300) (
      fg_let (rt_A s 63 (h_ix (s.1 61)) (s.2 36 (h_ix x3))) (fun s8 =>
        fg_let (rt_F s8 61 ((s8.1 61) + (1 : Int32))) (fun s9 =>
          K12 x2 (x3 + (1 : Int32)) s9))))
noncomputable def fn_X12_takeTwo_12b (K12 : Int32 → Int32 → r_T → Option (Unit × r_T)) (x2 : Int32) (x3 : Int32) (s : r_T) : Option (Unit × r_T) :=
  fg_if ((s.1 35) ≤ x3)
    (some ((), s))
    (fg_if (x2 = 0)
      (fg_g (vp_in x3 300) (
        fg_if ((s.2 36 (h_ix x3)) = (-7 : Int32))
          (K12 x2 (x3 + (1 : Int32)) s)
          (fn_X12_takeTwo_35 K12 x2 x3 s)))
      (fn_X12_takeTwo_35 K12 x2 x3 s))
noncomputable def fn_X12_takeTwo_12 : Nat → Int32 → Int32 → r_T → Option (Unit × r_T)
  | 0, _, _, _ => none
  | n + 1, x2, x3, s => fn_X12_takeTwo_12b (fn_X12_takeTwo_12 n) x2 x3 s
noncomputable def fn_X12_takeTwo (x1 : Int32) (x2 : Int32) (s : r_T) : Option (Unit × r_T) :=
  fg_b (fn_X12_layVersion x1 s) (fun u_ s2 =>
    fg_let (rt_F s2 61 (0 : Int32)) (fun s5 =>
      fn_X12_takeTwo_12 g_N x2 (0 : Int32) s5))
noncomputable def fn_X12_layShared_142 (K5 : Int32 → r_T → Option (Unit × r_T)) (K14 : Int32 → Int32 → r_T → Option (Unit × r_T)) (x1 : Int32) (x2 : Int32) (x3 : Int32) (s : r_T) : Option (Unit × r_T) :=
  fg_g (vp_in (((301 : Int32) * x1) + x2) 90601) (
    fg_let (rt_A s 64 (h_ix (((301 : Int32) * x1) + x2)) x3) (fun s5 =>
      K14 x1 (x2 + (-1 : Int32)) s5))
noncomputable def fn_X12_layShared_141 (K5 : Int32 → r_T → Option (Unit × r_T)) (K14 : Int32 → Int32 → r_T → Option (Unit × r_T)) (x1 : Int32) (x2 : Int32) (y0 : Int32) (s : r_T) : Option (Unit × r_T) :=
  fn_X12_layShared_142 K5 K14 x1 x2 y0 s
noncomputable def fn_X12_layShared_99 (K5 : Int32 → r_T → Option (Unit × r_T)) (K14 : Int32 → Int32 → r_T → Option (Unit × r_T)) (x1 : Int32) (x2 : Int32) (x4 : Int32) (x5 : Int32) (y0 : Int32) (s : r_T) : Option (Unit × r_T) :=
  fg_if (y0 = 0)
    (fg_if (x4 ≤ x5)
      (fn_X12_layShared_141 K5 K14 x1 x2 x5 s)
      (fn_X12_layShared_141 K5 K14 x1 x2 x4 s))
    (fg_g (vp_in ((((301 : Int32) * (x1 + (1 : Int32))) + x2) + (1 : Int32)) 90601) (
      fn_X12_layShared_141 K5 K14 x1 x2 ((1 : Int32) + (s.2 64 (h_ix ((((301 : Int32) * (x1 + (1 : Int32))) + x2) + (1 : Int32))))) s))
noncomputable def fn_X12_layShared_98 (K5 : Int32 → r_T → Option (Unit × r_T)) (K14 : Int32 → Int32 → r_T → Option (Unit × r_T)) (x1 : Int32) (x2 : Int32) (x4 : Int32) (x5 : Int32) (s : r_T) : Option (Unit × r_T) :=
  fn_X12_layShared_99 K5 K14 x1 x2 x4 x5 (0 : Int32) s
noncomputable def fn_X12_layShared_14b (K5 : Int32 → r_T → Option (Unit × r_T)) (K14 : Int32 → Int32 → r_T → Option (Unit × r_T)) (x1 : Int32) (x2 : Int32) (s : r_T) : Option (Unit × r_T) :=
  fg_if (x2 < 0)
    (K5 (x1 + (-1 : Int32)) s)
    (fg_if ((s.1 60) ≤ x1)
      (fn_X12_layShared_142 K5 K14 x1 x2 (0 : Int32) s)
      (fg_if ((s.1 61) ≤ x2)
        (fn_X12_layShared_142 K5 K14 x1 x2 (0 : Int32) s)
        (fg_g (vp_in (((301 : Int32) * (x1 + (1 : Int32))) + x2) 90601) (
          fg_let (s.2 64 (h_ix (((301 : Int32) * (x1 + (1 : Int32))) + x2))) (fun v8 =>
            fg_g (vp_in ((((301 : Int32) * x1) + x2) + (1 : Int32)) 90601) (
              fg_let (s.2 64 (h_ix ((((301 : Int32) * x1) + x2) + (1 : Int32)))) (fun v12 =>
                fg_g (vp_in x1 300) (
                  fg_g (vp_in x2 300) (
                    fg_if ((s.2 62 (h_ix x1)) = (s.2 63 (h_ix x2)))
                      (fg_g (vp_in x1 300) (
                        fg_if ((s.2 62 (h_ix x1)) = (-7 : Int32))
                          (fn_X12_layShared_98 K5 K14 x1 x2 v8 v12 s)
                          (fn_X12_layShared_99 K5 K14 x1 x2 v8 v12 (1 : Int32) s)))
                      (fn_X12_layShared_98 K5 K14 x1 x2 v8 v12 s))))))))))
noncomputable def fn_X12_layShared_14 (K5 : Int32 → r_T → Option (Unit × r_T)) : Nat → Int32 → Int32 → r_T → Option (Unit × r_T)
  | 0, _, _, _ => none
  | n + 1, x1, x2, s => fn_X12_layShared_14b K5 (fn_X12_layShared_14 K5 n) x1 x2 s
noncomputable def fn_X12_layShared_5b (K5 : Int32 → r_T → Option (Unit × r_T)) (x1 : Int32) (s : r_T) : Option (Unit × r_T) :=
  fg_if (x1 < 0)
    (some ((), s))
    (fn_X12_layShared_14 K5 g_N x1 (s.1 61) s)
noncomputable def fn_X12_layShared_5 : Nat → Int32 → r_T → Option (Unit × r_T)
  | 0, _, _ => none
  | n + 1, x1, s => fn_X12_layShared_5b (fn_X12_layShared_5 n) x1 s
noncomputable def fn_X12_layShared (s : r_T) : Option (Unit × r_T) :=
  fn_X12_layShared_5 g_N (s.1 60) s
noncomputable def fn_X12_inCommon_68b (K68 : Int32 → Int32 → r_T → Option (Int32 × r_T)) (x1 : Int32) (x2 : Int32) (s : r_T) : Option (Int32 × r_T) :=
  fg_if ((s.1 61) ≤ x2)
    (some (x1, s))
    (fg_g (vp_in x2 300) (
      fg_if ((s.2 63 (h_ix x2)) = (-7 : Int32))
        (K68 x1 (x2 + (1 : Int32)) s)
        (fg_g (vp_in x2 300) (
          fg_g (vp_in (s.2 63 (h_ix x2)) 500) (
            fg_if ((s.2 65 (h_ix (s.2 63 (h_ix x2)))) ≤ 0)
              (K68 x1 (x2 + (1 : Int32)) s)
              (fg_g (vp_in x2 300) (
                fg_g (vp_in (s.2 63 (h_ix x2)) 500) (
                  fg_g (vp_in (s.2 63 (h_ix x2)) 500) (
                    fg_let (rt_A s 65 (h_ix (s.2 63 (h_ix x2))) ((s.2 65 (h_ix (s.2 63 (h_ix x2)))) - (1 : Int32))) (fun s23 =>
                      K68 (x1 + (1 : Int32)) (x2 + (1 : Int32)) s23))))))))))
noncomputable def fn_X12_inCommon_68 : Nat → Int32 → Int32 → r_T → Option (Int32 × r_T)
  | 0, _, _, _ => none
  | n + 1, x1, x2, s => fn_X12_inCommon_68b (fn_X12_inCommon_68 n) x1 x2 s
noncomputable def fn_X12_inCommon_26b (K26 : Int32 → Int32 → r_T → Option (Int32 × r_T)) (x1 : Int32) (x2 : Int32) (s : r_T) : Option (Int32 × r_T) :=
  fg_if ((s.1 60) ≤ x2)
    (fn_X12_inCommon_68 g_N x1 (0 : Int32) s)
    (fg_g (vp_in x2 300) (
      fg_if ((s.2 62 (h_ix x2)) = (-7 : Int32))
        (K26 x1 (x2 + (1 : Int32)) s)
        (fg_g (vp_in x2 300) (
          fg_g (vp_in (s.2 62 (h_ix x2)) 500) (
            fg_g (vp_in (s.2 62 (h_ix x2)) 500) (
              fg_let (rt_A s 65 (h_ix (s.2 62 (h_ix x2))) ((s.2 65 (h_ix (s.2 62 (h_ix x2)))) + (1 : Int32))) (fun s16 =>
                K26 x1 (x2 + (1 : Int32)) s16)))))))
noncomputable def fn_X12_inCommon_26 : Nat → Int32 → Int32 → r_T → Option (Int32 × r_T)
  | 0, _, _, _ => none
  | n + 1, x1, x2, s => fn_X12_inCommon_26b (fn_X12_inCommon_26 n) x1 x2 s
noncomputable def fn_X12_inCommon_4b (K4 : Int32 → Int32 → r_T → Option (Int32 × r_T)) (x1 : Int32) (x2 : Int32) (s : r_T) : Option (Int32 × r_T) :=
  fg_if ((500 : Int32) ≤ x2)
    (fn_X12_inCommon_26 g_N x1 (0 : Int32) s)
    (fg_g (vp_in x2 500) (
      fg_let (rt_A s 65 (h_ix x2) (0 : Int32)) (fun s6 =>
        K4 x1 (x2 + (1 : Int32)) s6)))
noncomputable def fn_X12_inCommon_4 : Nat → Int32 → Int32 → r_T → Option (Int32 × r_T)
  | 0, _, _, _ => none
  | n + 1, x1, x2, s => fn_X12_inCommon_4b (fn_X12_inCommon_4 n) x1 x2 s
noncomputable def fn_X12_inCommon (s : r_T) : Option (Int32 × r_T) :=
  fn_X12_inCommon_4 g_N (0 : Int32) (0 : Int32) s
noncomputable def fn_X12_compare (x1 : Int32) (x2 : Int32) (x3 : Int32) (s : r_T) : Option (Int32 × r_T) :=
  fg_b (fn_X12_noVersion x1 s) (fun p3 s2 =>
    fg_if (p3 = 0)
      (fg_b (fn_X12_noVersion x2 s2) (fun p7 s6 =>
        fg_if (p7 = 0)
          (fg_b (fn_X12_in (x3.toInt64) (0 : Int64) (3 : Int64) s6) (fun p10 s9 =>
            fg_if (p10 = 0)
              (some ((-2 : Int32), s9))
              (fg_b (fn_X12_takeOne x1 (1 : Int32) s9) (fun u_ s13 =>
                fg_b (fn_X12_takeTwo x2 (1 : Int32) s13) (fun u_ s16 =>
                  fg_b (fn_X12_layShared s16) (fun u_ s19 =>
                    fg_g (vp_in (0 : Int32) 90601) (
                      fg_let (s19.2 64 (h_ix (0 : Int32))) (fun v25 =>
                        fg_if (x3 = 0)
                          (some (v25, s19))
                          (fg_if (x3 = (1 : Int32))
                            (some (((s19.1 60) - v25), s19))
                            (fg_if (x3 = (2 : Int32))
                              (some (((s19.1 61) - v25), s19))
                              (fg_b (fn_X12_inCommon s19) (fun p30 s29 =>
                                some ((p30 - v25), s29)))))))))))))
          (some ((-1 : Int32), s6))))
      (some ((-1 : Int32), s2)))
noncomputable def fn_X12_layWay_161 (K59 : Int32 → Int32 → Int32 → r_T → Option (Unit × r_T)) (K85 : Int32 → Int32 → Int32 → Int32 → r_T → Option (Unit × r_T)) (x1 : Int32) (x3 : Int32) (x4 : Int32) (y0 : Int32) (s : r_T) : Option (Unit × r_T) :=
  fg_if (y0 = 0)
    (K85 x1 (x3 + (0 : Int32)) x4 y0 s)
    (K85 x1 (x3 + (1 : Int32)) x4 y0 s)
noncomputable def fn_X12_layWay_156 (K59 : Int32 → Int32 → Int32 → r_T → Option (Unit × r_T)) (K85 : Int32 → Int32 → Int32 → Int32 → r_T → Option (Unit × r_T)) (x1 : Int32) (x3 : Int32) (x4 : Int32) (s : r_T) : Option (Unit × r_T) :=
  fn_X12_layWay_161 K59 K85 x1 x3 x4 (1 : Int32) s
noncomputable def fn_X12_layWay_160 (K59 : Int32 → Int32 → Int32 → r_T → Option (Unit × r_T)) (K85 : Int32 → Int32 → Int32 → Int32 → r_T → Option (Unit × r_T)) (x1 : Int32) (x3 : Int32) (x4 : Int32) (s : r_T) : Option (Unit × r_T) :=
  fn_X12_layWay_161 K59 K85 x1 x3 x4 (0 : Int32) s
noncomputable def fn_X12_layWay_255 (K59 : Int32 → Int32 → Int32 → r_T → Option (Unit × r_T)) (x1 : Int32) (x3 : Int32) (x4 : Int32) (x6 : Int32) (y0 : Int32) (y1 : Int32) (s : r_T) : Option (Unit × r_T) :=
  fg_g (vp_in y1 602) (
    fg_g (h_bt y0) (
      fg_let (rt_A s 69 (h_ix y1) y0) (fun s5 =>
        fg_if (x6 = 0)
          (K59 x1 (x3 + (0 : Int32)) (x4 + (1 : Int32)) s5)
          (K59 x1 (x3 + (1 : Int32)) (x4 + (1 : Int32)) s5))))
noncomputable def fn_X12_layWay_231 (K59 : Int32 → Int32 → Int32 → r_T → Option (Unit × r_T)) (x1 : Int32) (x3 : Int32) (x4 : Int32) (y0 : Int32) (s : r_T) : Option (Unit × r_T) :=
  fg_if (y0 = 0)
    (fn_X12_layWay_255 K59 x1 x3 x4 y0 (1 : Int32) (((301 : Int32) * x1) + x4) s)
    (fn_X12_layWay_255 K59 x1 x3 x4 y0 (0 : Int32) (((301 : Int32) * x1) + x4) s)
noncomputable def fn_X12_layWay_230 (K59 : Int32 → Int32 → Int32 → r_T → Option (Unit × r_T)) (x1 : Int32) (x3 : Int32) (x4 : Int32) (s : r_T) : Option (Unit × r_T) :=
  fn_X12_layWay_231 K59 x1 x3 x4 (0 : Int32) s
noncomputable def fn_X12_layWay_85b (K59 : Int32 → Int32 → Int32 → r_T → Option (Unit × r_T)) (K85 : Int32 → Int32 → Int32 → Int32 → r_T → Option (Unit × r_T)) (x1 : Int32) (x3 : Int32) (x4 : Int32) (x5 : Int32) (s : r_T) : Option (Unit × r_T) :=
  fg_if (x5 = 0)
    (fg_g (vp_in (((302 : Int32) * x1) + x4) 604) (
      fg_let (rt_A s 70 (h_ix (((302 : Int32) * x1) + x4)) x3) (fun s6 =>
        fg_if ((s6.1 60) ≤ x4)
          (fn_X12_layWay_230 K59 x1 x3 x4 s6)
          (fg_if ((s6.1 61) ≤ x3)
            (fn_X12_layWay_230 K59 x1 x3 x4 s6)
            (fg_g (vp_in x4 300) (
              fg_g (vp_in x3 300) (
                fg_if ((s6.2 62 (h_ix x4)) = (s6.2 63 (h_ix x3)))
                  (fn_X12_layWay_231 K59 x1 x3 x4 (1 : Int32) s6)
                  (fn_X12_layWay_230 K59 x1 x3 x4 s6))))))))
    (fg_if ((s.1 61) ≤ x3)
      (fn_X12_layWay_160 K59 K85 x1 x3 x4 s)
      (fg_if (x4 = (s.1 60))
        (fn_X12_layWay_156 K59 K85 x1 x3 x4 s)
        (fg_g (vp_in x4 300) (
          fg_g (vp_in x3 300) (
            fg_if ((s.2 62 (h_ix x4)) = (s.2 63 (h_ix x3)))
              (fn_X12_layWay_160 K59 K85 x1 x3 x4 s)
              (fg_g (vp_in (((301 : Int32) * (x4 + (1 : Int32))) + x3) 90601) (
                fg_g (vp_in ((((301 : Int32) * x4) + x3) + (1 : Int32)) 90601) (
                  fg_if ((s.2 64 (h_ix ((((301 : Int32) * x4) + x3) + (1 : Int32)))) ≤ (s.2 64 (h_ix (((301 : Int32) * (x4 + (1 : Int32))) + x3))))
                    (fn_X12_layWay_160 K59 K85 x1 x3 x4 s)
                    (fn_X12_layWay_156 K59 K85 x1 x3 x4 s)))))))))
noncomputable def fn_X12_layWay_85 (K59 : Int32 → Int32 → Int32 → r_T → Option (Unit × r_T)) : Nat → Int32 → Int32 → Int32 → Int32 → r_T → Option (Unit × r_T)
  | 0, _, _, _, _, _ => none
  | n + 1, x1, x3, x4, x5, s => fn_X12_layWay_85b K59 (fn_X12_layWay_85 K59 n) x1 x3 x4 x5 s
noncomputable def fn_X12_layWay_59b (K59 : Int32 → Int32 → Int32 → r_T → Option (Unit × r_T)) (x1 : Int32) (x3 : Int32) (x4 : Int32) (s : r_T) : Option (Unit × r_T) :=
  fg_if ((s.1 60) < x4)
    (some ((), s))
    (fg_g (vp_in (((302 : Int32) * x1) + x4) 604) (
      fg_let (rt_A s 68 (h_ix (((302 : Int32) * x1) + x4)) x3) (fun s6 =>
        fn_X12_layWay_85 K59 g_N x1 x3 x4 (1 : Int32) s6)))
noncomputable def fn_X12_layWay_59 : Nat → Int32 → Int32 → Int32 → r_T → Option (Unit × r_T)
  | 0, _, _, _, _ => none
  | n + 1, x1, x3, x4, s => fn_X12_layWay_59b (fn_X12_layWay_59 n) x1 x3 x4 s
noncomputable def fn_X12_layWay_22b (K22 : Int32 → Int32 → r_T → Option (Unit × r_T)) (x1 : Int32) (x3 : Int32) (s : r_T) : Option (Unit × r_T) :=
  fg_if ((s.1 61) ≤ x3)
    (fn_X12_layWay_59 g_N x1 (0 : Int32) (0 : Int32) s)
    (fg_g (vp_in x3 300) (
      fg_g (vp_in (((300 : Int32) * x1) + x3) 600) (
        fg_let (rt_A s 66 (h_ix (((300 : Int32) * x1) + x3)) (s.2 63 (h_ix x3))) (fun s9 =>
          K22 x1 (x3 + (1 : Int32)) s9))))
noncomputable def fn_X12_layWay_22 : Nat → Int32 → Int32 → r_T → Option (Unit × r_T)
  | 0, _, _, _ => none
  | n + 1, x1, x3, s => fn_X12_layWay_22b (fn_X12_layWay_22 n) x1 x3 s
noncomputable def fn_X12_layWay (x1 : Int32) (x2 : Int32) (s : r_T) : Option (Unit × r_T) :=
  fg_b (fn_X12_takeTwo x2 (0 : Int32) s) (fun u_ s2 =>
    fg_b (fn_X12_layShared s2) (fun u_ s5 =>
      fg_g (vp_in x1 2) (
        fg_let (rt_A s5 67 (h_ix x1) (s5.1 61)) (fun s11 =>
          fn_X12_layWay_22 g_N x1 (0 : Int32) s11))))
noncomputable def fn_X12_joinRow_3b (K3 : Int32 → Int32 → Int32 → r_T → Option (Unit × r_T)) (x1 : Int32) (x3 : Int32) (x4 : Int32) (s : r_T) : Option (Unit × r_T) :=
  fg_if (x3 ≤ x4)
    (some ((), s))
    (fg_g (vp_in (((300 : Int32) * x1) + x4) 600) (
      fg_g (vp_in (s.1 71) 3000) (
        fg_let (rt_A s 72 (h_ix (s.1 71)) (s.2 66 (h_ix (((300 : Int32) * x1) + x4)))) (fun s9 =>
          fg_let (rt_F s9 71 ((s9.1 71) + (1 : Int32))) (fun s10 =>
            K3 x1 x3 (x4 + (1 : Int32)) s10)))))
noncomputable def fn_X12_joinRow_3 : Nat → Int32 → Int32 → Int32 → r_T → Option (Unit × r_T)
  | 0, _, _, _, _ => none
  | n + 1, x1, x3, x4, s => fn_X12_joinRow_3b (fn_X12_joinRow_3 n) x1 x3 x4 s
noncomputable def fn_X12_joinRow (x1 : Int32) (x2 : Int32) (x3 : Int32) (s : r_T) : Option (Unit × r_T) :=
  fn_X12_joinRow_3 g_N x1 x3 x2 s
noncomputable def fn_X12_compareRows_57 (x2 : Int32) (x4 : Int32) (x5 : Int32) (x6 : Int32) (s : r_T) : Option (Int32 × r_T) :=
  fg_if (x2 ≤ x5)
    (fg_if (x4 ≤ x6)
      (some ((0 : Int32), s))
      (some ((-1 : Int32), s)))
    (some ((1 : Int32), s))
noncomputable def fn_X12_compareRows_6b (K6 : Int32 → Int32 → Int32 → Int32 → r_T → Option (Int32 × r_T)) (x2 : Int32) (x4 : Int32) (x5 : Int32) (x6 : Int32) (s : r_T) : Option (Int32 × r_T) :=
  fg_if (x2 ≤ x5)
    (fn_X12_compareRows_57 x2 x4 x5 x6 s)
    (fg_if (x4 ≤ x6)
      (fn_X12_compareRows_57 x2 x4 x5 x6 s)
      (fg_g (vp_in x5 600) (
        fg_g (vp_in ((300 : Int32) + x6) 600) (
          fg_let ((s.2 66 (h_ix x5)) - (s.2 66 (h_ix ((300 : Int32) + x6)))) (fun v10 =>
            fg_if (v10 = 0)
              (K6 x2 x4 (x5 + (1 : Int32)) (x6 + (1 : Int32)) s)
              (some (v10, s)))))))
noncomputable def fn_X12_compareRows_6 : Nat → Int32 → Int32 → Int32 → Int32 → r_T → Option (Int32 × r_T)
  | 0, _, _, _, _, _ => none
  | n + 1, x2, x4, x5, x6, s => fn_X12_compareRows_6b (fn_X12_compareRows_6 n) x2 x4 x5 x6 s
noncomputable def fn_X12_compareRows (x1 : Int32) (x2 : Int32) (x3 : Int32) (x4 : Int32) (s : r_T) : Option (Int32 × r_T) :=
  fn_X12_compareRows_6 g_N x2 x4 x1 x3 s
noncomputable def fn_X12_keepClash_201 (s : r_T) : Option (Unit × r_T) :=
  fg_let (rt_F s 73 ((s.1 73) + (1 : Int32))) (fun s2 =>
    some ((), s2))
noncomputable def fn_X12_keepClash_148b (K148 : Int32 → Int32 → Int32 → Int32 → Int32 → r_T → Option (Unit × r_T)) (x1 : Int32) (x6 : Int32) (x9 : Int32) (x10 : Int32) (x11 : Int32) (s : r_T) : Option (Unit × r_T) :=
  fg_if (x10 ≤ x11)
    (fn_X12_keepClash_201 s)
    (fg_g (vp_in x6 12) (
      fg_g (vp_in (((300 : Int32) * ((1 : Int32) - x1)) + x11) 600) (
        fg_g (vp_in (((((600 : Int32) * x6) + (s.2 76 (h_ix x6))) + x11) - x9) 7200) (
          fg_let (rt_A s 79 (h_ix (((((600 : Int32) * x6) + (s.2 76 (h_ix x6))) + x11) - x9)) (s.2 66 (h_ix (((300 : Int32) * ((1 : Int32) - x1)) + x11)))) (fun s12 =>
            K148 x1 x6 x9 x10 (x11 + (1 : Int32)) s12)))))
noncomputable def fn_X12_keepClash_148 : Nat → Int32 → Int32 → Int32 → Int32 → Int32 → r_T → Option (Unit × r_T)
  | 0, _, _, _, _, _, _ => none
  | n + 1, x1, x6, x9, x10, x11, s => fn_X12_keepClash_148b (fn_X12_keepClash_148 n) x1 x6 x9 x10 x11 s
noncomputable def fn_X12_keepClash_130 (x1 : Int32) (x6 : Int32) (x9 : Int32) (y0 : Int32) (s : r_T) : Option (Unit × r_T) :=
  fg_g (vp_in x6 12) (
    fg_let (rt_A s 77 (h_ix x6) (y0 - x9)) (fun s5 =>
      fn_X12_keepClash_148 g_N x1 x6 x9 y0 x9 s5))
noncomputable def fn_X12_keepClash_118 (x1 : Int32) (x3 : Int32) (x5 : Int32) (x6 : Int32) (y0 : Int32) (s : r_T) : Option (Unit × r_T) :=
  fg_if (x1 = 0)
    (fn_X12_keepClash_130 x1 x6 y0 x5 s)
    (fn_X12_keepClash_130 x1 x6 y0 x3 s)
noncomputable def fn_X12_keepClash_65b (K65 : Int32 → Int32 → Int32 → Int32 → Int32 → Int32 → Int32 → Int32 → Int32 → r_T → Option (Unit × r_T)) (x1 : Int32) (x2 : Int32) (x3 : Int32) (x4 : Int32) (x5 : Int32) (x6 : Int32) (x7 : Int32) (x8 : Int32) (x9 : Int32) (s : r_T) : Option (Unit × r_T) :=
  fg_if (x8 ≤ x9)
    (fg_if (x1 = 0)
      (fn_X12_keepClash_118 x1 x3 x5 x6 x4 s)
      (fn_X12_keepClash_118 x1 x3 x5 x6 x2 s))
    (fg_g (vp_in (((300 : Int32) * x1) + x9) 600) (
      fg_g (vp_in ((((600 : Int32) * x6) + x9) - x7) 7200) (
        fg_let (rt_A s 79 (h_ix ((((600 : Int32) * x6) + x9) - x7)) (s.2 66 (h_ix (((300 : Int32) * x1) + x9)))) (fun s10 =>
          K65 x1 x2 x3 x4 x5 x6 x7 x8 (x9 + (1 : Int32)) s10))))
noncomputable def fn_X12_keepClash_65 : Nat → Int32 → Int32 → Int32 → Int32 → Int32 → Int32 → Int32 → Int32 → Int32 → r_T → Option (Unit × r_T)
  | 0, _, _, _, _, _, _, _, _, _, _ => none
  | n + 1, x1, x2, x3, x4, x5, x6, x7, x8, x9, s => fn_X12_keepClash_65b (fn_X12_keepClash_65 n) x1 x2 x3 x4 x5 x6 x7 x8 x9 s
noncomputable def fn_X12_keepClash_47 (x1 : Int32) (x2 : Int32) (x3 : Int32) (x4 : Int32) (x5 : Int32) (x6 : Int32) (x7 : Int32) (y0 : Int32) (s : r_T) : Option (Unit × r_T) :=
  fg_g (vp_in x6 12) (
    fg_let (rt_A s 76 (h_ix x6) (y0 - x7)) (fun s5 =>
      fn_X12_keepClash_65 g_N x1 x2 x3 x4 x5 x6 x7 y0 x7 s5))
noncomputable def fn_X12_keepClash_35 (x1 : Int32) (x2 : Int32) (x3 : Int32) (x4 : Int32) (x5 : Int32) (x6 : Int32) (y0 : Int32) (s : r_T) : Option (Unit × r_T) :=
  fg_if (x1 = 0)
    (fn_X12_keepClash_47 x1 x2 x3 x4 x5 x6 y0 x3 s)
    (fn_X12_keepClash_47 x1 x2 x3 x4 x5 x6 y0 x5 s)
noncomputable def fn_X12_keepClash (x1 : Int32) (x2 : Int32) (x3 : Int32) (x4 : Int32) (x5 : Int32) (s : r_T) : Option (Unit × r_T) :=
  fg_if ((12 : Int32) ≤ ((s.1 74) + (s.1 73)))
    (fn_X12_keepClash_201 s)
    (fg_let ((s.1 74) + (s.1 73)) (fun v3 =>
      fg_if (x1 = 0)
        (fn_X12_keepClash_35 x1 x2 x3 x4 x5 v3 x2 s)
        (fn_X12_keepClash_35 x1 x2 x3 x4 x5 v3 x4 s)))
noncomputable def fn_X12_joinAhead_79 (x2 : Int32) (x3 : Int32) (s : r_T) : Option (Unit × r_T) :=
  fg_b (fn_X12_joinRow (0 : Int32) x2 x3 s) (fun u_ s2 =>
    some ((), s2))
noncomputable def fn_X12_joinAhead_168 (y0 : Int32) (y1 : Int32) (y2 : Int32) (s : r_T) : Option (Unit × r_T) :=
  fg_b (fn_X12_joinRow y2 y1 y0 s) (fun u_ s2 =>
    some ((), s2))
noncomputable def fn_X12_joinAhead_157 (x3 : Int32) (x5 : Int32) (x7 : Int32) (y0 : Int32) (y1 : Int32) (s : r_T) : Option (Unit × r_T) :=
  fg_if (x7 = 0)
    (fn_X12_joinAhead_168 x5 y0 y1 s)
    (fn_X12_joinAhead_168 x3 y0 y1 s)
noncomputable def fn_X12_joinAhead_138 (x2 : Int32) (x3 : Int32) (x4 : Int32) (x5 : Int32) (x7 : Int32) (y0 : Int32) (y1 : Int32) (y2 : Int32) (s : r_T) : Option (Unit × r_T) :=
  fg_b (fn_X12_joinRow y2 y1 y0 s) (fun u_ s2 =>
    fg_if (x7 = 0)
      (fn_X12_joinAhead_157 x3 x5 x7 x4 ((1 : Int32) - x7) s2)
      (fn_X12_joinAhead_157 x3 x5 x7 x2 ((1 : Int32) - x7) s2))
noncomputable def fn_X12_joinAhead_127 (x2 : Int32) (x3 : Int32) (x4 : Int32) (x5 : Int32) (x7 : Int32) (y0 : Int32) (y1 : Int32) (s : r_T) : Option (Unit × r_T) :=
  fg_if (x7 = 0)
    (fn_X12_joinAhead_138 x2 x3 x4 x5 x7 x3 y0 y1 s)
    (fn_X12_joinAhead_138 x2 x3 x4 x5 x7 x5 y0 y1 s)
noncomputable def fn_X12_joinAhead_99 (x2 : Int32) (x3 : Int32) (x4 : Int32) (x5 : Int32) (y0 : Int32) (s : r_T) : Option (Unit × r_T) :=
  fg_b (fn_X12_keepClash y0 x2 x3 x4 x5 s) (fun u_ s2 =>
    fg_if (y0 = 0)
      (fn_X12_joinAhead_127 x2 x3 x4 x5 y0 x2 y0 s2)
      (fn_X12_joinAhead_127 x2 x3 x4 x5 y0 x4 y0 s2))
noncomputable def fn_X12_joinAhead (x1 : Int32) (s : r_T) : Option (Unit × r_T) :=
  fg_g (vp_in x1 604) (
    fg_g (vp_in x1 604) (
      fg_g (vp_in ((302 : Int32) + x1) 604) (
        fg_let (s.2 68 (h_ix ((302 : Int32) + x1))) (fun v11 =>
          fg_g (vp_in ((302 : Int32) + x1) 604) (
            fg_let (s.2 70 (h_ix ((302 : Int32) + x1))) (fun v15 =>
              fg_b (fn_X12_compareRows (s.2 68 (h_ix x1)) (s.2 70 (h_ix x1)) v11 v15 s) (fun p17 s16 =>
                fg_if ((s.2 68 (h_ix x1)) = (s.2 70 (h_ix x1)))
                  (fg_b (fn_X12_joinRow (1 : Int32) v11 v15 s16) (fun u_ s23 =>
                    some ((), s23)))
                  (fg_if (v11 = v15)
                    (fn_X12_joinAhead_79 (s.2 68 (h_ix x1)) (s.2 70 (h_ix x1)) s16)
                    (fg_if (p17 = 0)
                      (fn_X12_joinAhead_79 (s.2 68 (h_ix x1)) (s.2 70 (h_ix x1)) s16)
                      (fg_if (0 ≤ p17)
                        (fn_X12_joinAhead_99 (s.2 68 (h_ix x1)) (s.2 70 (h_ix x1)) v11 v15 (1 : Int32) s16)
                        (fn_X12_joinAhead_99 (s.2 68 (h_ix x1)) (s.2 70 (h_ix x1)) v11 v15 (0 : Int32) s16)))))))))))
noncomputable def fn_X12_piecesOfJoined_92 (K9 : Int32 → Int32 → r_T → Option (Int32 × r_T)) (x1 : Int32) (x2 : Int32) (s : r_T) : Option (Int32 × r_T) :=
  fg_g (vp_in (x1 - (1 : Int32)) 60) (
    fg_g (vp_in (x1 - (1 : Int32)) 60) (
      fg_let (rt_A s 43 (h_ix (x1 - (1 : Int32))) ((s.2 43 (h_ix (x1 - (1 : Int32)))) + (1 : Int32))) (fun s8 =>
        K9 x1 (x2 + (1 : Int32)) s8)))
noncomputable def fn_X12_piecesOfJoined_56 (K9 : Int32 → Int32 → r_T → Option (Int32 × r_T)) (x2 : Int32) (x3 : Int32) (y0 : Int32) (y1 : Int32) (s : r_T) : Option (Int32 × r_T) :=
  fg_if ((24 : Int32) < (y1 + y0))
    (K9 (y1 + y0) (x2 + (1 : Int32)) s)
    (fg_if (x3 = 0)
      (fg_g (vp_in x2 3000) (
        fg_b (fn_X12_setPiece ((y1 + y0) - (1 : Int32)) (1 : Int32) (s.2 72 (h_ix x2)) (0 : Int32) (-9 : Int32) (-9 : Int32) s) (fun u_ s7 =>
          fg_let (rt_F s7 40 (y1 + y0)) (fun s10 =>
            fn_X12_piecesOfJoined_92 K9 (y1 + y0) x2 s10))))
      (fn_X12_piecesOfJoined_92 K9 (y1 + y0) x2 s))
noncomputable def fn_X12_piecesOfJoined_45 (K9 : Int32 → Int32 → r_T → Option (Int32 × r_T)) (x1 : Int32) (x2 : Int32) (y0 : Int32) (s : r_T) : Option (Int32 × r_T) :=
  fg_if (y0 = 0)
    (fn_X12_piecesOfJoined_56 K9 x2 y0 (1 : Int32) x1 s)
    (fn_X12_piecesOfJoined_56 K9 x2 y0 (0 : Int32) x1 s)
noncomputable def fn_X12_piecesOfJoined_44 (K9 : Int32 → Int32 → r_T → Option (Int32 × r_T)) (x1 : Int32) (x2 : Int32) (s : r_T) : Option (Int32 × r_T) :=
  fn_X12_piecesOfJoined_45 K9 x1 x2 (0 : Int32) s
noncomputable def fn_X12_piecesOfJoined_9b (K9 : Int32 → Int32 → r_T → Option (Int32 × r_T)) (x1 : Int32) (x2 : Int32) (s : r_T) : Option (Int32 × r_T) :=
  fg_if ((s.1 71) ≤ x2)
    (some (x1, s))
    (fg_if (x2 ≤ 0)
      (fn_X12_piecesOfJoined_44 K9 x1 x2 s)
      (fg_g (vp_in x2 3000) (
        fg_g (vp_in (x2 - (1 : Int32)) 3000) (
          fg_if ((s.2 72 (h_ix x2)) = ((s.2 72 (h_ix (x2 - (1 : Int32)))) + (1 : Int32)))
            (fn_X12_piecesOfJoined_45 K9 x1 x2 (1 : Int32) s)
            (fn_X12_piecesOfJoined_44 K9 x1 x2 s)))))
noncomputable def fn_X12_piecesOfJoined_9 : Nat → Int32 → Int32 → r_T → Option (Int32 × r_T)
  | 0, _, _, _ => none
  | n + 1, x1, x2, s => fn_X12_piecesOfJoined_9b (fn_X12_piecesOfJoined_9 n) x1 x2 s
noncomputable def fn_X12_piecesOfJoined (s : r_T) : Option (Int32 × r_T) :=
  fg_let (rt_F s 40 (0 : Int32)) (fun s2 =>
    fn_X12_piecesOfJoined_9 g_N (0 : Int32) (0 : Int32) s2)
noncomputable def fn_X12_join_198b (K198 : Int32 → r_T → Option (Int32 × r_T)) (x4 : Int32) (s : r_T) : Option (Int32 × r_T) :=
  fg_if (((s.1 74) + (s.1 73)) ≤ x4)
    (fg_let (rt_F s 74 ((s.1 74) + (s.1 73))) (fun s3 =>
      fg_b (fn_X12_store (s3.1 8) s3) (fun p5 s4 =>
        fg_let (rt_F s4 8 ((s4.1 8) + (1 : Int32))) (fun s7 =>
          fg_b (fn_X12_acted ((s7.1 8) - (1 : Int32)) s7) (fun p9 s8 =>
            some (p9, s8))))))
    (fg_g (vp_in x4 12) (
      fg_let (rt_A s 75 (h_ix x4) (s.1 8)) (fun s13 =>
        K198 (x4 + (1 : Int32)) s13)))
noncomputable def fn_X12_join_198 : Nat → Int32 → r_T → Option (Int32 × r_T)
  | 0, _, _ => none
  | n + 1, x4, s => fn_X12_join_198b (fn_X12_join_198 n) x4 s
noncomputable def fn_X12_join_57b (K57 : Int32 → Int32 → r_T → Option (Int32 × r_T)) (x1 : Int32) (x4 : Int32) (s : r_T) : Option (Int32 × r_T) :=
  fg_if ((s.1 60) < x4)
    (fg_if ((s.1 8) = (12 : Int32))
      (some ((-4 : Int32), s))
      (fg_b (fn_X12_piecesOfJoined s) (fun p5 s4 =>
        fg_if ((24 : Int32) < p5)
          (some ((-4 : Int32), s4))
          (fg_if (((s4.1 74) + (s4.1 73)) ≤ (12 : Int32))
            (fg_g (vp_in x1 16) (
              fg_g (vp_in (s4.2 56 (h_ix x1)) 12) (
                fg_g (vp_in (s4.1 8) 12) (
                  fg_let (rt_A s4 9 (h_ix (s4.1 8)) (s4.2 9 (h_ix (s4.2 56 (h_ix x1))))) (fun s18 =>
                    fn_X12_join_198 g_N (s18.1 74) s18)))))
            (some ((-4 : Int32), s4))))))
    (fg_b (fn_X12_joinAhead x4 s) (fun u_ s19 =>
      fg_if ((s19.1 60) ≤ x4)
        (K57 x1 (x4 + (1 : Int32)) s19)
        (fg_g (vp_in x4 602) (
          fg_if ((s19.2 69 (h_ix x4)) = 0)
            (fg_g (vp_in ((301 : Int32) + x4) 602) (
              fg_if ((s19.2 69 (h_ix ((301 : Int32) + x4))) = 0)
                (fg_g (vp_in x4 300) (
                  fg_g (vp_in (s19.1 71) 3000) (
                    fg_let (rt_A s19 72 (h_ix (s19.1 71)) (s19.2 62 (h_ix x4))) (fun s37 =>
                      fg_let (rt_F s37 71 ((s37.1 71) + (1 : Int32))) (fun s38 =>
                        K57 x1 (x4 + (1 : Int32)) s38)))))
                (K57 x1 (x4 + (1 : Int32)) s19)))
            (K57 x1 (x4 + (1 : Int32)) s19)))))
noncomputable def fn_X12_join_57 : Nat → Int32 → Int32 → r_T → Option (Int32 × r_T)
  | 0, _, _, _ => none
  | n + 1, x1, x4, s => fn_X12_join_57b (fn_X12_join_57 n) x1 x4 s
noncomputable def fn_X12_join (x1 : Int32) (x2 : Int32) (x3 : Int32) (s : r_T) : Option (Int32 × r_T) :=
  fg_b (fn_X12_noVersion x1 s) (fun p3 s2 =>
    fg_if (p3 = 0)
      (fg_b (fn_X12_noVersion x2 s2) (fun p7 s6 =>
        fg_if (p7 = 0)
          (fg_b (fn_X12_noVersion x3 s6) (fun p11 s10 =>
            fg_if (p11 = 0)
              (fg_b (fn_X12_takeOne x3 (0 : Int32) s10) (fun u_ s14 =>
                fg_b (fn_X12_layWay (0 : Int32) x1 s14) (fun u_ s17 =>
                  fg_b (fn_X12_layWay (1 : Int32) x2 s17) (fun u_ s20 =>
                    fg_let (rt_F s20 71 (0 : Int32)) (fun s23 =>
                      fg_let (rt_F s23 73 (0 : Int32)) (fun s24 =>
                        fn_X12_join_57 g_N x1 (0 : Int32) s24))))))
              (some ((-1 : Int32), s10))))
          (some ((-1 : Int32), s6))))
      (some ((-1 : Int32), s2)))
noncomputable def fn_X12_clash (x1 : Int32) (x2 : Int32) (s : r_T) : Option (Int32 × r_T) :=
  fg_b (fn_X12_in (x1.toInt64) (0 : Int64) (((s.1 74).toInt64) - (1 : Int64)) s) (fun p3 s2 =>
    fg_if (p3 = 0)
      (some ((-1 : Int32), s2))
      (fg_if (x2 = (0 : Int32))
        (fg_g (vp_in x1 12) (
          some ((s2.2 75 (h_ix x1)), s2)))
        (fg_if (x2 = (1 : Int32))
          (fg_g (vp_in x1 12) (
            some ((s2.2 76 (h_ix x1)), s2)))
          (fg_if (x2 = (2 : Int32))
            (fg_g (vp_in x1 12) (
              some ((s2.2 77 (h_ix x1)), s2)))
            (fg_if (x2 = (3 : Int32))
              (fg_g (vp_in x1 12) (
                fg_if ((s2.2 78 (h_ix x1)) = 0)
                  (some ((0 : Int32), s2))
                  (some ((1 : Int32), s2))))
              (some ((-2 : Int32), s2)))))))
noncomputable def fn_X12_standsAt_34b (K34 : Int32 → Int32 → Int32 → Int32 → Int32 → r_T → Option (Int32 × r_T)) (x1 : Int32) (x2 : Int32) (x3 : Int32) (x4 : Int32) (x5 : Int32) (s : r_T) : Option (Int32 × r_T) :=
  fg_if (x3 ≤ x5)
    (fg_g (h_bt x4) (
      some (x4, s)))
    (fg_if (x4 = 0)
      (fg_g (h_bt x4) (
        some (x4, s)))
      (fg_g (vp_in (x2 + x5) 300) (
        fg_g (vp_in (((600 : Int32) * x1) + x5) 7200) (
          fg_if ((s.2 36 (h_ix (x2 + x5))) = (s.2 79 (h_ix (((600 : Int32) * x1) + x5))))
            (K34 x1 x2 x3 (1 : Int32) (x5 + (1 : Int32)) s)
            (K34 x1 x2 x3 (0 : Int32) (x5 + (1 : Int32)) s)))))
noncomputable def fn_X12_standsAt_34 : Nat → Int32 → Int32 → Int32 → Int32 → Int32 → r_T → Option (Int32 × r_T)
  | 0, _, _, _, _, _, _ => none
  | n + 1, x1, x2, x3, x4, x5, s => fn_X12_standsAt_34b (fn_X12_standsAt_34 n) x1 x2 x3 x4 x5 s
noncomputable def fn_X12_standsAt_29 (x1 : Int32) (x2 : Int32) (x3 : Int32) (y0 : Int32) (s : r_T) : Option (Int32 × r_T) :=
  fn_X12_standsAt_34 g_N x1 x2 x3 y0 (0 : Int32) s
noncomputable def fn_X12_standsAt (x1 : Int32) (x2 : Int32) (s : r_T) : Option (Int32 × r_T) :=
  fg_g (vp_in x1 12) (
    fg_g (vp_in x1 12) (
      fg_let ((s.2 76 (h_ix x1)) + (s.2 77 (h_ix x1))) (fun v8 =>
        fg_if ((s.1 35) < (x2 + v8))
          (fn_X12_standsAt_29 x1 x2 v8 (0 : Int32) s)
          (fn_X12_standsAt_29 x1 x2 v8 (1 : Int32) s))))
noncomputable def fn_X12_settle_157 (x1 : Int32) (x3 : Int32) (x5 : Int32) (y0 : Int32) (s : r_T) : Option (Int32 × r_T) :=
  fg_b (fn_X12_takeOut x5 y0 s) (fun u_ s2 =>
    fg_b (fn_X12_store x3 s2) (fun p6 s5 =>
      fg_if (p6 = 0)
        (some ((-4 : Int32), s5))
        (fg_g (vp_in x1 12) (
          fg_let (rt_A s5 78 (h_ix x1) (1 : Int32)) (fun s12 =>
            fg_b (fn_X12_acted y0 s12) (fun p14 s13 =>
              some (p14, s13)))))))
noncomputable def fn_X12_settle_115 (x1 : Int32) (x2 : Int32) (x3 : Int32) (y0 : Int32) (s : r_T) : Option (Int32 × r_T) :=
  fg_if (x2 = 0)
    (fg_g (vp_in x1 12) (
      fn_X12_settle_157 x1 x3 y0 (s.2 77 (h_ix x1)) s))
    (fg_if (x2 = (1 : Int32))
      (fg_g (vp_in x1 12) (
        fn_X12_settle_157 x1 x3 y0 (s.2 76 (h_ix x1)) s))
      (fg_g (vp_in x1 12) (
        fg_g (vp_in x1 12) (
          fn_X12_settle_157 x1 x3 y0 ((s.2 76 (h_ix x1)) + (s.2 77 (h_ix x1))) s))))
noncomputable def fn_X12_settle_85 (x1 : Int32) (x2 : Int32) (x3 : Int32) (x4 : Int32) (s : r_T) : Option (Int32 × r_T) :=
  fg_if (x4 = (s.1 35))
    (some ((-3 : Int32), s))
    (fg_if (x2 = 0)
      (fg_g (vp_in x1 12) (
        fn_X12_settle_115 x1 x2 x3 (x4 + (s.2 76 (h_ix x1))) s))
      (fn_X12_settle_115 x1 x2 x3 x4 s))
noncomputable def fn_X12_settle_60b (K60 : Int32 → Int32 → Int32 → Int32 → r_T → Option (Int32 × r_T)) (x1 : Int32) (x2 : Int32) (x3 : Int32) (x4 : Int32) (s : r_T) : Option (Int32 × r_T) :=
  fg_if ((s.1 35) ≤ x4)
    (fn_X12_settle_85 x1 x2 x3 x4 s)
    (fg_b (fn_X12_standsAt x1 x4 s) (fun p4 s3 =>
      fg_if (p4 = 0)
        (K60 x1 x2 x3 (x4 + (1 : Int32)) s3)
        (fn_X12_settle_85 x1 x2 x3 x4 s3)))
noncomputable def fn_X12_settle_60 : Nat → Int32 → Int32 → Int32 → Int32 → r_T → Option (Int32 × r_T)
  | 0, _, _, _, _, _ => none
  | n + 1, x1, x2, x3, x4, s => fn_X12_settle_60b (fn_X12_settle_60 n) x1 x2 x3 x4 s
noncomputable def fn_X12_settle (x1 : Int32) (x2 : Int32) (s : r_T) : Option (Int32 × r_T) :=
  fg_b (fn_X12_in (x1.toInt64) (0 : Int64) (((s.1 74).toInt64) - (1 : Int64)) s) (fun p3 s2 =>
    fg_if (p3 = 0)
      (some ((-1 : Int32), s2))
      (fg_b (fn_X12_in (x2.toInt64) (0 : Int64) (2 : Int64) s2) (fun p6 s5 =>
        fg_if (p6 = 0)
          (some ((-2 : Int32), s5))
          (fg_g (vp_in x1 12) (
            fg_if ((s5.2 78 (h_ix x1)) = 0)
              (fg_g (vp_in x1 12) (
                fg_b (fn_X12_open (s5.2 75 (h_ix x1)) s5) (fun u_ s16 =>
                  fn_X12_settle_60 g_N x1 x2 (s5.2 75 (h_ix x1)) (0 : Int32) s16)))
              (some ((-3 : Int32), s5)))))))
noncomputable def fn_X12_noLink (x1 : Int32) (s : r_T) : Option (Int32 × r_T) :=
  fg_b (fn_X12_in (x1.toInt64) (0 : Int64) (((s.1 80).toInt64) - (1 : Int64)) s) (fun p3 s2 =>
    fg_if (p3 = 0)
      (some ((1 : Int32), s2))
      (some ((0 : Int32), s2)))
noncomputable def fn_X12_areWords (x1 : Int32) (x2 : Int32) (s : r_T) : Option (Int32 × r_T) :=
  fg_if (x1 < 0)
    (some ((0 : Int32), s))
    (fg_if (0 < (lg_cmp ((x1.toInt64) + (x2.toInt64)) ((s.1 22).toInt64)))
      (some ((0 : Int32), s))
      (some ((1 : Int32), s)))
noncomputable def fn_X12_areAlike_16b (K16 : Int32 → Int32 → Int32 → Int32 → Int32 → r_T → Option (Int32 × r_T)) (x1 : Int32) (x2 : Int32) (x3 : Int32) (x5 : Int32) (x6 : Int32) (s : r_T) : Option (Int32 × r_T) :=
  fg_if (x2 ≤ x6)
    (fg_g (h_bt x5) (
      some (x5, s)))
    (fg_if (x5 = 0)
      (fg_g (h_bt x5) (
        some (x5, s)))
      (fg_g (vp_in (x1 + x6) 500) (
        fg_g (vp_in (x3 + x6) 500) (
          fg_if ((s.2 23 (h_ix (x1 + x6))) = (s.2 23 (h_ix (x3 + x6))))
            (K16 x1 x2 x3 (1 : Int32) (x6 + (1 : Int32)) s)
            (K16 x1 x2 x3 (0 : Int32) (x6 + (1 : Int32)) s)))))
noncomputable def fn_X12_areAlike_16 : Nat → Int32 → Int32 → Int32 → Int32 → Int32 → r_T → Option (Int32 × r_T)
  | 0, _, _, _, _, _, _ => none
  | n + 1, x1, x2, x3, x5, x6, s => fn_X12_areAlike_16b (fn_X12_areAlike_16 n) x1 x2 x3 x5 x6 s
noncomputable def fn_X12_areAlike_11 (x1 : Int32) (x2 : Int32) (x3 : Int32) (y0 : Int32) (s : r_T) : Option (Int32 × r_T) :=
  fn_X12_areAlike_16 g_N x1 x2 x3 y0 (0 : Int32) s
noncomputable def fn_X12_areAlike (x1 : Int32) (x2 : Int32) (x3 : Int32) (x4 : Int32) (s : r_T) : Option (Int32 × r_T) :=
  fg_if (x2 = x4)
    (fn_X12_areAlike_11 x1 x2 x3 (1 : Int32) s)
    (fn_X12_areAlike_11 x1 x2 x3 (0 : Int32) s)
noncomputable def fn_X12_link_28 (s : r_T) : Option (Int32 × r_T) :=
  fg_b (fn_X12_refused (-2 : Int32) s) (fun p3 s2 =>
    some (p3, s2))
noncomputable def fn_X12_link_72 (s : r_T) : Option (Int32 × r_T) :=
  fg_b (fn_X12_refused (-1 : Int32) s) (fun p3 s2 =>
    some (p3, s2))
noncomputable def fn_X12_link_250 (y0 : Int32) (y1 : Int32) (s : r_T) : Option (Int32 × r_T) :=
  fg_g (vp_in y1 24) (
    fg_let (rt_A s 86 (h_ix y1) y0) (fun s4 =>
      fg_let (rt_F s4 80 ((s4.1 80) + (1 : Int32))) (fun s6 =>
        fg_b (fn_X12_acted ((s6.1 80) - (1 : Int32)) s6) (fun p8 s7 =>
          fg_b (fn_X12_refused p8 s7) (fun p11 s10 =>
            some (p11, s10))))))
noncomputable def fn_X12_link_229 (x1 : Int32) (x4 : Int32) (y0 : Int32) (y1 : Int32) (s : r_T) : Option (Int32 × r_T) :=
  fg_g (vp_in y1 24) (
    fg_let (rt_A s 85 (h_ix y1) y0) (fun s4 =>
      fg_if (x1 = (2 : Int32))
        (fn_X12_link_250 x4 (s4.1 80) s4)
        (fn_X12_link_250 (-9 : Int32) (s4.1 80) s4)))
noncomputable def fn_X12_link_203 (x1 : Int32) (x4 : Int32) (x5 : Int32) (y0 : Int32) (y1 : Int32) (s : r_T) : Option (Int32 × r_T) :=
  fg_g (vp_in y1 24) (
    fg_let (rt_A s 84 (h_ix y1) y0) (fun s4 =>
      fg_if (x1 = (2 : Int32))
        (fg_g (vp_in x4 24) (
          fn_X12_link_229 x1 x4 (s4.2 83 (h_ix x4)) (s4.1 80) s4))
        (fn_X12_link_229 x1 x4 x5 (s4.1 80) s4)))
noncomputable def fn_X12_link_132 (x1 : Int32) (x2 : Int32) (x3 : Int32) (x4 : Int32) (x5 : Int32) (s : r_T) : Option (Int32 × r_T) :=
  fg_if ((s.1 80) = (24 : Int32))
    (fg_b (fn_X12_refused (-4 : Int32) s) (fun p20 s19 =>
      some (p20, s19)))
    (fg_g (vp_in (s.1 80) 24) (
      fg_let (rt_A s 81 (h_ix (s.1 80)) x1) (fun s6 =>
        fg_g (vp_in (s6.1 80) 24) (
          fg_let (rt_A s6 82 (h_ix (s6.1 80)) x2) (fun s10 =>
            fg_g (vp_in (s10.1 80) 24) (
              fg_let (rt_A s10 83 (h_ix (s10.1 80)) x3) (fun s14 =>
                fg_if (x1 = (2 : Int32))
                  (fg_g (vp_in x4 24) (
                    fn_X12_link_203 x1 x4 x5 (s14.2 82 (h_ix x4)) (s14.1 80) s14))
                  (fn_X12_link_203 x1 x4 x5 x4 (s14.1 80) s14))))))))
noncomputable def fn_X12_link_107 (x1 : Int32) (x2 : Int32) (x3 : Int32) (x4 : Int32) (x5 : Int32) (s : r_T) : Option (Int32 × r_T) :=
  fg_if (x1 = (4 : Int32))
    (fg_b (fn_X12_areAlike x2 x3 x4 x5 s) (fun p4 s3 =>
      fg_if (p4 = 0)
        (fn_X12_link_132 x1 x2 x3 x4 x5 s3)
        (fg_b (fn_X12_refused (-3 : Int32) s3) (fun p8 s7 =>
          some (p8, s7)))))
    (fn_X12_link_132 x1 x2 x3 x4 x5 s)
noncomputable def fn_X12_link_78 (x1 : Int32) (x2 : Int32) (x3 : Int32) (x4 : Int32) (x5 : Int32) (s : r_T) : Option (Int32 × r_T) :=
  fg_if (x1 = (2 : Int32))
    (fg_g (vp_in x4 24) (
      fg_b (fn_X12_in ((s.2 81 (h_ix x4)).toInt64) (1 : Int64) (2 : Int64) s) (fun p7 s6 =>
        fg_if (p7 = 0)
          (fg_b (fn_X12_failed (2 : Int32) s6) (fun p11 s10 =>
            some (p11, s10)))
          (fn_X12_link_107 x1 x2 x3 x4 x5 s6))))
    (fn_X12_link_107 x1 x2 x3 x4 x5 s)
noncomputable def fn_X12_link_35 (x1 : Int32) (x2 : Int32) (x3 : Int32) (x4 : Int32) (x5 : Int32) (s : r_T) : Option (Int32 × r_T) :=
  fg_b (fn_X12_areWords x2 x3 s) (fun p3 s2 =>
    fg_if (p3 = 0)
      (fn_X12_link_72 s2)
      (fg_if (x1 = (2 : Int32))
        (fg_b (fn_X12_noLink x4 s2) (fun p12 s11 =>
          fg_if (p12 = 0)
            (fn_X12_link_78 x1 x2 x3 x4 x5 s11)
            (fn_X12_link_72 s11)))
        (fg_b (fn_X12_areWords x4 x5 s2) (fun p8 s7 =>
          fg_if (p8 = 0)
            (fn_X12_link_72 s7)
            (fn_X12_link_78 x1 x2 x3 x4 x5 s7)))))
noncomputable def fn_X12_link (x1 : Int32) (x2 : Int32) (x3 : Int32) (x4 : Int32) (x5 : Int32) (s : r_T) : Option (Int32 × r_T) :=
  fg_b (fn_X12_in (x1.toInt64) (0 : Int64) (4 : Int64) s) (fun p2 s1 =>
    fg_if (p2 = 0)
      (fn_X12_link_28 s1)
      (fg_if (x3 < (1 : Int32))
        (fn_X12_link_28 s1)
        (fg_if (x1 = (2 : Int32))
          (fn_X12_link_35 x1 x2 x3 x4 x5 s1)
          (fg_if ((1 : Int32) ≤ x5)
            (fn_X12_link_35 x1 x2 x3 x4 x5 s1)
            (fn_X12_link_28 s1)))))
noncomputable def fn_X12_ofLink (x1 : Int32) (x2 : Int32) (s : r_T) : Option (Int32 × r_T) :=
  fg_b (fn_X12_noLink x1 s) (fun p3 s2 =>
    fg_if (p3 = 0)
      (fg_if (x2 = (0 : Int32))
        (fg_g (vp_in x1 24) (
          some ((s2.2 81 (h_ix x1)), s2)))
        (fg_if (x2 = (1 : Int32))
          (fg_g (vp_in x1 24) (
            some ((s2.2 82 (h_ix x1)), s2)))
          (fg_if (x2 = (2 : Int32))
            (fg_g (vp_in x1 24) (
              some ((s2.2 83 (h_ix x1)), s2)))
            (fg_if (x2 = (3 : Int32))
              (fg_g (vp_in x1 24) (
                some ((s2.2 84 (h_ix x1)), s2)))
              (fg_if (x2 = (4 : Int32))
                (fg_g (vp_in x1 24) (
                  some ((s2.2 85 (h_ix x1)), s2)))
                (fg_if (x2 = (5 : Int32))
                  (fg_g (vp_in x1 24) (
                    some ((s2.2 86 (h_ix x1)), s2)))
                  (some ((-2 : Int32), s2))))))))
      (some ((-1 : Int32), s2)))
noncomputable def fn_X12_findPart_149 (K53 : Int32 → Int32 → Int32 → Int32 → Int32 → r_T → Option (Int32 × r_T)) (x3 : Int32) (x4 : Int32) (x5 : Int32) (x6 : Int32) (x7 : Int32) (x8 : Int32) (s : r_T) : Option (Int32 × r_T) :=
  fg_if (x6 = x3)
    (fg_let (rt_F s 87 x8) (fun s3 =>
      fg_let (rt_F s3 88 (x7 - x8)) (fun s4 =>
        K53 x3 x4 x5 (x6 + (1 : Int32)) x7 s4)))
    (K53 x3 x4 x5 (x6 + (1 : Int32)) x7 s)
noncomputable def fn_X12_findPart_101b (K53 : Int32 → Int32 → Int32 → Int32 → Int32 → r_T → Option (Int32 × r_T)) (K101 : Int32 → Int32 → Int32 → Int32 → Int32 → Int32 → r_T → Option (Int32 × r_T)) (x3 : Int32) (x4 : Int32) (x5 : Int32) (x6 : Int32) (x7 : Int32) (x8 : Int32) (s : r_T) : Option (Int32 × r_T) :=
  fg_if ((s.1 35) ≤ x7)
    (fn_X12_findPart_149 K53 x3 x4 x5 x6 x7 x8 s)
    (fg_g (vp_in x7 300) (
      fg_g (vp_in (x7 - (1 : Int32)) 300) (
        fg_if ((s.2 36 (h_ix x7)) = ((s.2 36 (h_ix (x7 - (1 : Int32)))) + (1 : Int32)))
          (fg_g (vp_in x7 300) (
            fg_if (x5 < (s.2 36 (h_ix x7)))
              (fn_X12_findPart_149 K53 x3 x4 x5 x6 x7 x8 s)
              (K101 x3 x4 x5 x6 (x7 + (1 : Int32)) x8 s)))
          (fn_X12_findPart_149 K53 x3 x4 x5 x6 x7 x8 s))))
noncomputable def fn_X12_findPart_101 (K53 : Int32 → Int32 → Int32 → Int32 → Int32 → r_T → Option (Int32 × r_T)) : Nat → Int32 → Int32 → Int32 → Int32 → Int32 → Int32 → r_T → Option (Int32 × r_T)
  | 0, _, _, _, _, _, _, _ => none
  | n + 1, x3, x4, x5, x6, x7, x8, s => fn_X12_findPart_101b K53 (fn_X12_findPart_101 K53 n) x3 x4 x5 x6 x7 x8 s
noncomputable def fn_X12_findPart_53b (K53 : Int32 → Int32 → Int32 → Int32 → Int32 → r_T → Option (Int32 × r_T)) (x3 : Int32) (x4 : Int32) (x5 : Int32) (x6 : Int32) (x7 : Int32) (s : r_T) : Option (Int32 × r_T) :=
  fg_if ((s.1 35) ≤ x7)
    (some (x6, s))
    (fg_g (vp_in x7 300) (
      fg_if ((s.2 36 (h_ix x7)) = (-7 : Int32))
        (K53 x3 x4 x5 x6 (x7 + (1 : Int32)) s)
        (fg_g (vp_in x7 300) (
          fg_b (fn_X12_in ((s.2 36 (h_ix x7)).toInt64) (x4.toInt64) (x5.toInt64) s) (fun p11 s10 =>
            fg_if (p11 = 0)
              (K53 x3 x4 x5 x6 (x7 + (1 : Int32)) s10)
              (fn_X12_findPart_101 K53 g_N x3 x4 x5 x6 (x7 + (1 : Int32)) x7 s10))))))
noncomputable def fn_X12_findPart_53 : Nat → Int32 → Int32 → Int32 → Int32 → Int32 → r_T → Option (Int32 × r_T)
  | 0, _, _, _, _, _, _ => none
  | n + 1, x3, x4, x5, x6, x7, s => fn_X12_findPart_53b (fn_X12_findPart_53 n) x3 x4 x5 x6 x7 s
noncomputable def fn_X12_findPart_42 (x3 : Int32) (x4 : Int32) (y0 : Int32) (y1 : Int32) (s : r_T) : Option (Int32 × r_T) :=
  fn_X12_findPart_53 g_N x3 x4 ((y1 + y0) - (1 : Int32)) (0 : Int32) (0 : Int32) s
noncomputable def fn_X12_findPart_19 (x1 : Int32) (x2 : Int32) (x3 : Int32) (y0 : Int32) (s : r_T) : Option (Int32 × r_T) :=
  fg_if (x2 = 0)
    (fg_g (vp_in x1 24) (
      fn_X12_findPart_42 x3 y0 (s.2 83 (h_ix x1)) y0 s))
    (fg_g (vp_in x1 24) (
      fn_X12_findPart_42 x3 y0 (s.2 85 (h_ix x1)) y0 s))
noncomputable def fn_X12_findPart (x1 : Int32) (x2 : Int32) (x3 : Int32) (s : r_T) : Option (Int32 × r_T) :=
  fg_if (x2 = 0)
    (fg_g (vp_in x1 24) (
      fn_X12_findPart_19 x1 x2 x3 (s.2 82 (h_ix x1)) s))
    (fg_g (vp_in x1 24) (
      fn_X12_findPart_19 x1 x2 x3 (s.2 84 (h_ix x1)) s))
noncomputable def fn_X12_ends (x1 : Int32) (x2 : Int32) (x3 : Int32) (s : r_T) : Option (Int32 × r_T) :=
  fg_b (fn_X12_noLink x1 s) (fun p3 s2 =>
    fg_if (p3 = 0)
      (fg_b (fn_X12_noVersion x3 s2) (fun p7 s6 =>
        fg_if (p7 = 0)
          (fg_b (fn_X12_in (x2.toInt64) (0 : Int64) (1 : Int64) s6) (fun p10 s9 =>
            fg_if (p10 = 0)
              (some ((-2 : Int32), s9))
              (fg_b (fn_X12_layVersion x3 s9) (fun u_ s13 =>
                fg_b (fn_X12_findPart x1 x2 (-1 : Int32) s13) (fun p17 s16 =>
                  some (p17, s16))))))
          (some ((-1 : Int32), s6))))
      (some ((-1 : Int32), s2)))
noncomputable def fn_X12_part (x1 : Int32) (x2 : Int32) (x3 : Int32) (x4 : Int32) (x5 : Int32) (s : r_T) : Option (Int32 × r_T) :=
  fg_b (fn_X12_noLink x1 s) (fun p3 s2 =>
    fg_if (p3 = 0)
      (fg_b (fn_X12_noVersion x3 s2) (fun p7 s6 =>
        fg_if (p7 = 0)
          (fg_if (0 ≤ x4)
            (fg_b (fn_X12_in (x2.toInt64) (0 : Int64) (1 : Int64) s6) (fun p11 s10 =>
              fg_if (p11 = 0)
                (some ((-2 : Int32), s10))
                (fg_b (fn_X12_in (x5.toInt64) (0 : Int64) (2 : Int64) s10) (fun p14 s13 =>
                  fg_if (p14 = 0)
                    (some ((-2 : Int32), s13))
                    (fg_b (fn_X12_layVersion x3 s13) (fun u_ s17 =>
                      fg_b (fn_X12_findPart x1 x2 x4 s17) (fun p21 s20 =>
                        fg_if (x4 < p21)
                          (fg_if (x5 = 0)
                            (some ((s20.1 87), s20))
                            (fg_if (x5 = (1 : Int32))
                              (fg_g (vp_in (s20.1 87) 300) (
                                some ((s20.2 36 (h_ix (s20.1 87))), s20)))
                              (some ((s20.1 88), s20))))
                          (some ((-1 : Int32), s20)))))))))
            (some ((-1 : Int32), s6)))
          (some ((-1 : Int32), s6))))
      (some ((-1 : Int32), s2)))
noncomputable def fn_X12_linksOf_4b (K4 : Int32 → Int32 → Int32 → r_T → Option (Int32 × r_T)) (x1 : Int32) (x2 : Int32) (x3 : Int32) (s : r_T) : Option (Int32 × r_T) :=
  fg_if ((s.1 80) ≤ x3)
    (some (x2, s))
    (fg_g (vp_in x3 24) (
      fg_g (vp_in x3 24) (
        fg_g (vp_in x3 24) (
          fg_b (fn_X12_in (x1.toInt64) ((s.2 82 (h_ix x3)).toInt64) ((((s.2 82 (h_ix x3)) + (s.2 83 (h_ix x3))).toInt64) - (1 : Int64)) s) (fun p13 s12 =>
            fg_if (p13 = 0)
              (fg_g (vp_in x3 24) (
                fg_g (vp_in x3 24) (
                  fg_g (vp_in x3 24) (
                    fg_b (fn_X12_in (x1.toInt64) ((s12.2 84 (h_ix x3)).toInt64) ((((s12.2 84 (h_ix x3)) + (s12.2 85 (h_ix x3))).toInt64) - (1 : Int64)) s12) (fun p26 s25 =>
                      fg_if (p26 = 0)
                        (K4 x1 (x2 + (0 : Int32)) (x3 + (1 : Int32)) s25)
                        (K4 x1 (x2 + (1 : Int32)) (x3 + (1 : Int32)) s25))))))
              (K4 x1 (x2 + (1 : Int32)) (x3 + (1 : Int32)) s12))))))
noncomputable def fn_X12_linksOf_4 : Nat → Int32 → Int32 → Int32 → r_T → Option (Int32 × r_T)
  | 0, _, _, _, _ => none
  | n + 1, x1, x2, x3, s => fn_X12_linksOf_4b (fn_X12_linksOf_4 n) x1 x2 x3 s
noncomputable def fn_X12_linksOf (x1 : Int32) (s : r_T) : Option (Int32 × r_T) :=
  fn_X12_linksOf_4 g_N x1 (0 : Int32) (0 : Int32) s
noncomputable def fn_X12_noRight (x1 : Int32) (s : r_T) : Option (Int32 × r_T) :=
  fg_b (fn_X12_in (x1.toInt64) (0 : Int64) (((s.1 89).toInt64) - (1 : Int64)) s) (fun p3 s2 =>
    fg_if (p3 = 0)
      (some ((1 : Int32), s2))
      (some ((0 : Int32), s2)))
noncomputable def fn_X12_useOf (x0 : Int32) (s : r_T) : Option (Int32 × r_T) :=
  fg_if (x0 = (114 : Int32))
    (some ((0 : Int32), s))
    (fg_if (x0 = (113 : Int32))
      (some ((1 : Int32), s))
      (fg_if (x0 = (108 : Int32))
        (some ((2 : Int32), s))
        (some ((-1 : Int32), s))))
noncomputable def fn_X12_readText_240 (K23 : Int32 → Int32 → Int32 → Int32 → Int32 → r_T → Option (Int32 × r_T)) (x1 : Int32) (x2 : Int32) (x3 : Int32) (x4 : Int32) (x5 : Int32) (x6 : Int32) (x7 : Int32) (s : r_T) : Option (Int32 × r_T) :=
  fg_if (x3 = (4 : Int32))
    (fg_if (x7 = 0)
      (some (x5, s))
      (fg_if ((4 : Int32) ≤ x4)
        (some (x5, s))
        (fg_let (rt_F s 101 ((((10 : Int32) * (s.1 101)) + x6) - (48 : Int32))) (fun s5 =>
          K23 x1 x2 x3 (x4 + (1 : Int32)) (x5 + (1 : Int32)) s5))))
    (some (x5, s))
noncomputable def fn_X12_readText_215 (K23 : Int32 → Int32 → Int32 → Int32 → Int32 → r_T → Option (Int32 × r_T)) (x1 : Int32) (x2 : Int32) (x3 : Int32) (x4 : Int32) (x5 : Int32) (x6 : Int32) (x7 : Int32) (s : r_T) : Option (Int32 × r_T) :=
  fg_if (x3 = (3 : Int32))
    (fg_if (x6 = (45 : Int32))
      (fg_if (x4 ≤ 0)
        (fn_X12_readText_240 K23 x1 x2 x3 x4 x5 x6 x7 s)
        (K23 x1 x2 (4 : Int32) (0 : Int32) (x5 + (1 : Int32)) s))
      (fn_X12_readText_240 K23 x1 x2 x3 x4 x5 x6 x7 s))
    (fn_X12_readText_240 K23 x1 x2 x3 x4 x5 x6 x7 s)
noncomputable def fn_X12_readText_176 (K23 : Int32 → Int32 → Int32 → Int32 → Int32 → r_T → Option (Int32 × r_T)) (x1 : Int32) (x2 : Int32) (x3 : Int32) (x4 : Int32) (x5 : Int32) (x6 : Int32) (x7 : Int32) (s : r_T) : Option (Int32 × r_T) :=
  fg_if (x3 = (3 : Int32))
    (fg_if (x7 = 0)
      (fn_X12_readText_215 K23 x1 x2 x3 x4 x5 x6 x7 s)
      (fg_if ((4 : Int32) ≤ x4)
        (fn_X12_readText_215 K23 x1 x2 x3 x4 x5 x6 x7 s)
        (fg_let (rt_F s 100 ((((10 : Int32) * (s.1 100)) + x6) - (48 : Int32))) (fun s5 =>
          K23 x1 x2 x3 (x4 + (1 : Int32)) (x5 + (1 : Int32)) s5))))
    (fn_X12_readText_215 K23 x1 x2 x3 x4 x5 x6 x7 s)
noncomputable def fn_X12_readText_149 (K23 : Int32 → Int32 → Int32 → Int32 → Int32 → r_T → Option (Int32 × r_T)) (x1 : Int32) (x2 : Int32) (x3 : Int32) (x4 : Int32) (x5 : Int32) (x6 : Int32) (x7 : Int32) (s : r_T) : Option (Int32 × r_T) :=
  fg_if (x3 = (2 : Int32))
    (fg_if (x6 = (64 : Int32))
      (fg_if ((s.1 99) ≤ 0)
        (fn_X12_readText_176 K23 x1 x2 x3 x4 x5 x6 x7 s)
        (K23 x1 x2 (3 : Int32) (0 : Int32) (x5 + (1 : Int32)) s))
      (fn_X12_readText_176 K23 x1 x2 x3 x4 x5 x6 x7 s))
    (fn_X12_readText_176 K23 x1 x2 x3 x4 x5 x6 x7 s)
noncomputable def fn_X12_readText_111 (K23 : Int32 → Int32 → Int32 → Int32 → Int32 → r_T → Option (Int32 × r_T)) (x1 : Int32) (x2 : Int32) (x3 : Int32) (x4 : Int32) (x5 : Int32) (x6 : Int32) (x7 : Int32) (x8 : Int32) (s : r_T) : Option (Int32 × r_T) :=
  fg_if (x3 = (2 : Int32))
    (fg_if (x8 < 0)
      (fn_X12_readText_149 K23 x1 x2 x3 x4 x5 x6 x7 s)
      (fg_b (fn_X12_hasBit (s.1 99) x8 s) (fun p5 s4 =>
        fg_if (p5 = 0)
          (fg_let (rt_F s4 99 ((s4.1 99) ||| ((1 : Int32) <<< (x8 &&& 31)))) (fun s8 =>
            K23 x1 x2 x3 x4 (x5 + (1 : Int32)) s8))
          (fn_X12_readText_149 K23 x1 x2 x3 x4 x5 x6 x7 s4))))
    (fn_X12_readText_149 K23 x1 x2 x3 x4 x5 x6 x7 s)
noncomputable def fn_X12_readText_94 (K23 : Int32 → Int32 → Int32 → Int32 → Int32 → r_T → Option (Int32 × r_T)) (x1 : Int32) (x2 : Int32) (x3 : Int32) (x4 : Int32) (x5 : Int32) (x6 : Int32) (x7 : Int32) (x8 : Int32) (s : r_T) : Option (Int32 × r_T) :=
  fg_if (x3 = (1 : Int32))
    (fg_if (x6 = (58 : Int32))
      (K23 x1 x2 (2 : Int32) x4 (x5 + (1 : Int32)) s)
      (fn_X12_readText_111 K23 x1 x2 x3 x4 x5 x6 x7 x8 s))
    (fn_X12_readText_111 K23 x1 x2 x3 x4 x5 x6 x7 x8 s)
noncomputable def fn_X12_readText_23b (K23 : Int32 → Int32 → Int32 → Int32 → Int32 → r_T → Option (Int32 × r_T)) (x1 : Int32) (x2 : Int32) (x3 : Int32) (x4 : Int32) (x5 : Int32) (s : r_T) : Option (Int32 × r_T) :=
  fg_if (x2 ≤ x5)
    (fg_if (x3 = (4 : Int32))
      (fg_if (x4 ≤ 0)
        (some (x2, s))
        (some ((-1 : Int32), s)))
      (some (x2, s)))
    (fg_g (vp_in (x1 + x5) 240) (
      fg_b (fn_X12_in ((s.2 112 (h_ix (x1 + x5))).toInt64) (48 : Int64) (57 : Int64) s) (fun p9 s8 =>
        fg_b (fn_X12_useOf (s.2 112 (h_ix (x1 + x5))) s8) (fun p11 s10 =>
          fg_if (x3 = 0)
            (fg_b (fn_X12_in ((s.2 112 (h_ix (x1 + x5))).toInt64) (48 : Int64) (51 : Int64) s10) (fun p14 s13 =>
              fg_if (p14 = 0)
                (fn_X12_readText_94 K23 x1 x2 x3 x4 x5 (s.2 112 (h_ix (x1 + x5))) p9 p11 s13)
                (fg_let (rt_F s13 98 ((s.2 112 (h_ix (x1 + x5))) - (48 : Int32))) (fun s17 =>
                  K23 x1 x2 (1 : Int32) x4 (x5 + (1 : Int32)) s17))))
            (fn_X12_readText_94 K23 x1 x2 x3 x4 x5 (s.2 112 (h_ix (x1 + x5))) p9 p11 s10)))))
noncomputable def fn_X12_readText_23 : Nat → Int32 → Int32 → Int32 → Int32 → Int32 → r_T → Option (Int32 × r_T)
  | 0, _, _, _, _, _, _ => none
  | n + 1, x1, x2, x3, x4, x5, s => fn_X12_readText_23b (fn_X12_readText_23 n) x1 x2 x3 x4 x5 s
noncomputable def fn_X12_readText (x1 : Int32) (x2 : Int32) (s : r_T) : Option (Int32 × r_T) :=
  fg_let (rt_F s 99 (0 : Int32)) (fun s2 =>
    fg_let (rt_F s2 100 (0 : Int32)) (fun s3 =>
      fg_let (rt_F s3 101 (0 : Int32)) (fun s4 =>
        fn_X12_readText_23 g_N x1 x2 (0 : Int32) (0 : Int32) (0 : Int32) s4)))
noncomputable def fn_X12_addRight (x1 : Int32) (x2 : Int32) (x3 : Int32) (x4 : Int32) (x5 : Int32) (x6 : Int32) (s : r_T) : Option (Unit × r_T) :=
  fg_g (vp_in (s.1 89) 20) (
    fg_let (rt_A s 90 (h_ix (s.1 89)) x1) (fun s5 =>
      fg_g (vp_in (s5.1 89) 20) (
        fg_let (rt_A s5 91 (h_ix (s5.1 89)) x2) (fun s9 =>
          fg_g (vp_in (s9.1 89) 20) (
            fg_let (rt_A s9 92 (h_ix (s9.1 89)) x3) (fun s13 =>
              fg_g (vp_in (s13.1 89) 20) (
                fg_let (rt_A s13 93 (h_ix (s13.1 89)) x4) (fun s17 =>
                  fg_g (vp_in (s17.1 89) 20) (
                    fg_let (rt_A s17 94 (h_ix (s17.1 89)) x5) (fun s21 =>
                      fg_g (vp_in (s21.1 89) 20) (
                        fg_let (rt_A s21 95 (h_ix (s21.1 89)) x6) (fun s25 =>
                          fg_g (vp_in (s25.1 89) 20) (
                            fg_let (rt_A s25 96 (h_ix (s25.1 89)) ((s25.1 1) + (1 : Int32))) (fun s29 =>
                              fg_g (vp_in (s29.1 89) 20) (
                                fg_let (rt_A s29 97 (h_ix (s29.1 89)) (-9 : Int32)) (fun s33 =>
                                  fg_let (rt_F s33 89 ((s33.1 89) + (1 : Int32))) (fun s34 =>
                                    some ((), s34))))))))))))))))))
noncomputable def fn_X12_right_15 (s : r_T) : Option (Int32 × r_T) :=
  fg_b (fn_X12_refused (-1 : Int32) s) (fun p3 s2 =>
    some (p3, s2))
noncomputable def fn_X12_right (x1 : Int32) (x2 : Int32) (x3 : Int32) (x4 : Int32) (x5 : Int32) (s : r_T) : Option (Int32 × r_T) :=
  fg_b (fn_X12_noWriting x1 s) (fun p3 s2 =>
    fg_if (p3 = 0)
      (fg_b (fn_X12_noSheet x2 s2) (fun p6 s5 =>
        fg_if (p6 = 0)
          (fg_b (fn_X12_barred x2 x3 x4 x5 s5) (fun p10 s9 =>
            fg_if (0 ≤ p10)
              (fg_b (fn_X12_readText (((60 : Int32) * x2) + x4) x5 s9) (fun p14 s13 =>
                fg_if (p14 < 0)
                  (fg_if ((s13.1 89) = (20 : Int32))
                    (fg_b (fn_X12_refused (-4 : Int32) s13) (fun p27 s26 =>
                      some (p27, s26)))
                    (fg_b (fn_X12_addRight x1 (s13.1 98) (s13.1 99) (s13.1 100) (s13.1 101) (-9 : Int32) s13) (fun u_ s18 =>
                      fg_b (fn_X12_acted ((s18.1 89) - (1 : Int32)) s18) (fun p22 s21 =>
                        fg_b (fn_X12_refused p22 s21) (fun p25 s24 =>
                          some (p25, s24))))))
                  (fg_b (fn_X12_refused ((-100 : Int32) - p14) s13) (fun p30 s29 =>
                    some (p30, s29)))))
              (some (p10, s9))))
          (fn_X12_right_15 s5)))
      (fn_X12_right_15 s2))
noncomputable def fn_X12_lend (x1 : Int32) (x2 : Int32) (x3 : Int32) (s : r_T) : Option (Int32 × r_T) :=
  fg_b (fn_X12_noRight x1 s) (fun p3 s2 =>
    fg_if (p3 = 0)
      (fg_b (fn_X12_noHand x2 s2) (fun p7 s6 =>
        fg_if (p7 = 0)
          (fg_b (fn_X12_noHand x3 s6) (fun p11 s10 =>
            fg_if (p11 = 0)
              (fg_if (x2 = x3)
                (some ((-2 : Int32), s10))
                (fg_b (fn_X12_allows x1 x2 (2 : Int32) (s10.1 1) s10) (fun p16 s15 =>
                  fg_if (p16 = 0)
                    (some ((-3 : Int32), s15))
                    (fg_if ((s15.1 89) = (20 : Int32))
                      (some ((-4 : Int32), s15))
                      (fg_g (vp_in x1 20) (
                        fg_g (vp_in x1 20) (
                          fg_g (vp_in x1 20) (
                            fg_g (vp_in x1 20) (
                              fg_b (fn_X12_addRight (s15.2 90 (h_ix x1)) ((8 : Int32) + x3) ((s15.2 92 (h_ix x1)) &&& (3 : Int32)) (s15.2 93 (h_ix x1)) (s15.2 94 (h_ix x1)) x1 s15) (fun u_ s32 =>
                                fg_b (fn_X12_acted ((s32.1 89) - (1 : Int32)) s32) (fun p36 s35 =>
                                  some (p36, s35))))))))))))
              (some ((-1 : Int32), s10))))
          (some ((-1 : Int32), s6))))
      (some ((-1 : Int32), s2)))
noncomputable def fn_X12_take_42b (K42 : Int32 → Int32 → r_T → Option (Int32 × r_T)) (x2 : Int32) (x3 : Int32) (s : r_T) : Option (Int32 × r_T) :=
  fg_if ((s.1 89) ≤ x3)
    (fg_b (fn_X12_acted x2 s) (fun p4 s3 =>
      some (p4, s3)))
    (fg_g (vp_in x3 20) (
      fg_if ((s.2 95 (h_ix x3)) < 0)
        (K42 x2 (x3 + (1 : Int32)) s)
        (fg_g (vp_in x3 20) (
          fg_if ((s.2 97 (h_ix x3)) = (-9 : Int32))
            (fg_g (vp_in x3 20) (
              fg_g (vp_in (s.2 95 (h_ix x3)) 20) (
                fg_if ((s.2 97 (h_ix (s.2 95 (h_ix x3)))) = ((s.1 1) + (1 : Int32)))
                  (fg_g (vp_in x3 20) (
                    fg_let (rt_A s 97 (h_ix x3) ((s.1 1) + (1 : Int32))) (fun s23 =>
                      K42 (x2 + (1 : Int32)) (x3 + (1 : Int32)) s23)))
                  (K42 x2 (x3 + (1 : Int32)) s))))
            (K42 x2 (x3 + (1 : Int32)) s)))))
noncomputable def fn_X12_take_42 : Nat → Int32 → Int32 → r_T → Option (Int32 × r_T)
  | 0, _, _, _ => none
  | n + 1, x2, x3, s => fn_X12_take_42b (fn_X12_take_42 n) x2 x3 s
noncomputable def fn_X12_take (x1 : Int32) (s : r_T) : Option (Int32 × r_T) :=
  fg_b (fn_X12_noRight x1 s) (fun p3 s2 =>
    fg_if (p3 = 0)
      (fg_g (vp_in x1 20) (
        fg_if ((s2.2 97 (h_ix x1)) = (-9 : Int32))
          (fg_g (vp_in x1 20) (
            fg_let (rt_A s2 97 (h_ix x1) ((s2.1 1) + (1 : Int32))) (fun s13 =>
              fn_X12_take_42 g_N (1 : Int32) (x1 + (1 : Int32)) s13)))
          (some ((-3 : Int32), s2))))
      (some ((-1 : Int32), s2)))
noncomputable def fn_X12_ofRight (x1 : Int32) (x2 : Int32) (s : r_T) : Option (Int32 × r_T) :=
  fg_b (fn_X12_noRight x1 s) (fun p3 s2 =>
    fg_if (p3 = 0)
      (fg_if (x2 = (0 : Int32))
        (fg_g (vp_in x1 20) (
          some ((s2.2 90 (h_ix x1)), s2)))
        (fg_if (x2 = (1 : Int32))
          (fg_g (vp_in x1 20) (
            some ((s2.2 91 (h_ix x1)), s2)))
          (fg_if (x2 = (2 : Int32))
            (fg_g (vp_in x1 20) (
              some ((s2.2 92 (h_ix x1)), s2)))
            (fg_if (x2 = (3 : Int32))
              (fg_g (vp_in x1 20) (
                some ((s2.2 93 (h_ix x1)), s2)))
              (fg_if (x2 = (4 : Int32))
                (fg_g (vp_in x1 20) (
                  some ((s2.2 94 (h_ix x1)), s2)))
                (fg_if (x2 = (5 : Int32))
                  (fg_g (vp_in x1 20) (
                    some ((s2.2 95 (h_ix x1)), s2)))
                  (fg_if (x2 = (6 : Int32))
                    (fg_g (vp_in x1 20) (
                      fg_if ((s2.2 97 (h_ix x1)) = (-9 : Int32))
                        (some ((1 : Int32), s2))
                        (some ((0 : Int32), s2))))
                    (some ((-2 : Int32), s2)))))))))
      (some ((-1 : Int32), s2)))
noncomputable def fn_X12_why (x1 : Int32) (x2 : Int32) (x3 : Int32) (x4 : Int32) (s : r_T) : Option (Int32 × r_T) :=
  fg_b (fn_X12_noHand x1 s) (fun p3 s2 =>
    fg_if (p3 = 0)
      (fg_b (fn_X12_noWriting x2 s2) (fun p7 s6 =>
        fg_if (p7 = 0)
          (fg_b (fn_X12_noMoment x4 s6) (fun p11 s10 =>
            fg_if (p11 = 0)
              (fg_b (fn_X12_in (x3.toInt64) (0 : Int64) (2 : Int64) s10) (fun p14 s13 =>
                fg_if (p14 = 0)
                  (some ((-2 : Int32), s13))
                  (fg_b (fn_X12_whyOf x1 x2 x3 x4 s13) (fun p18 s17 =>
                    some (p18, s17)))))
              (some ((-1 : Int32), s10))))
          (some ((-1 : Int32), s6))))
      (some ((-1 : Int32), s2)))
noncomputable def fn_X12_may (x1 : Int32) (x2 : Int32) (x3 : Int32) (x4 : Int32) (s : r_T) : Option (Int32 × r_T) :=
  fg_b (fn_X12_why x1 x2 x3 x4 s) (fun p3 s2 =>
    fg_if (p3 = (-9 : Int32))
      (some ((0 : Int32), s2))
      (fg_if (0 ≤ p3)
        (some ((1 : Int32), s2))
        (some (p3, s2))))
noncomputable def fn_X12_isOpen_51 (x1 : Int32) (x3 : Int32) (x4 : Int32) (y0 : Int32) (s : r_T) : Option (Int32 × r_T) :=
  fg_g (vp_in x4 12) (
    fg_if ((s.2 9 (h_ix x4)) = x1)
      (some ((1 : Int32), s))
      (fg_if (y0 = 0)
        (some ((0 : Int32), s))
        (fg_b (fn_X12_whyOf x1 x4 (0 : Int32) x3 s) (fun p8 s7 =>
          fg_if (p8 = (-9 : Int32))
            (some ((0 : Int32), s7))
            (some ((1 : Int32), s7))))))
noncomputable def fn_X12_isOpen_46 (x1 : Int32) (x3 : Int32) (x4 : Int32) (s : r_T) : Option (Int32 × r_T) :=
  fn_X12_isOpen_51 x1 x3 x4 (1 : Int32) s
noncomputable def fn_X12_isOpen_50 (x1 : Int32) (x3 : Int32) (x4 : Int32) (s : r_T) : Option (Int32 × r_T) :=
  fn_X12_isOpen_51 x1 x3 x4 (0 : Int32) s
noncomputable def fn_X12_isOpen (x1 : Int32) (x2 : Int32) (x3 : Int32) (s : r_T) : Option (Int32 × r_T) :=
  fg_g (vp_in x2 16) (
    fg_g (vp_in x2 16) (
      fg_if ((s.2 58 (h_ix x2)) < 0)
        (fn_X12_isOpen_50 x1 x3 (s.2 56 (h_ix x2)) s)
        (fg_g (vp_in x2 16) (
          fg_if (x3 < (s.2 58 (h_ix x2)))
            (fn_X12_isOpen_50 x1 x3 (s.2 56 (h_ix x2)) s)
            (fg_g (vp_in x2 16) (
              fg_if ((s.2 59 (h_ix x2)) < 0)
                (fn_X12_isOpen_46 x1 x3 (s.2 56 (h_ix x2)) s)
                (fg_g (vp_in x2 16) (
                  fg_if ((s.2 59 (h_ix x2)) ≤ x3)
                    (fn_X12_isOpen_50 x1 x3 (s.2 56 (h_ix x2)) s)
                    (fn_X12_isOpen_46 x1 x3 (s.2 56 (h_ix x2)) s)))))))))
noncomputable def fn_X12_isRead (x1 : Int32) (x2 : Int32) (x3 : Int32) (s : r_T) : Option (Int32 × r_T) :=
  fg_if (x2 = (-7 : Int32))
    (some ((0 : Int32), s))
    (fg_g (vp_in x2 500) (
      fg_b (fn_X12_whyOf x1 (s.2 25 (h_ix x2)) (0 : Int32) x3 s) (fun p7 s6 =>
        fg_if (p7 = (-9 : Int32))
          (some ((0 : Int32), s6))
          (some ((1 : Int32), s6)))))
noncomputable def fn_X12_view (x1 : Int32) (x2 : Int32) (x3 : Int32) (x4 : Int32) (s : r_T) : Option (Int32 × r_T) :=
  fg_b (fn_X12_noHand x1 s) (fun p3 s2 =>
    fg_if (p3 = 0)
      (fg_b (fn_X12_noVersion x2 s2) (fun p7 s6 =>
        fg_if (p7 = 0)
          (fg_b (fn_X12_noMoment x4 s6) (fun p11 s10 =>
            fg_if (p11 = 0)
              (fg_b (fn_X12_layVersion x2 s10) (fun u_ s14 =>
                fg_b (fn_X12_in (x3.toInt64) (0 : Int64) (((s14.1 35).toInt64) - (1 : Int64)) s14) (fun p18 s17 =>
                  fg_if (p18 = 0)
                    (some ((-1 : Int32), s17))
                    (fg_g (vp_in x2 16) (
                      fg_if ((s17.2 57 (h_ix x2)) ≤ x4)
                        (fg_g (vp_in x3 300) (
                          fg_b (fn_X12_isOpen x1 x2 x4 s17) (fun p29 s28 =>
                            fg_if (p29 = 0)
                              (some ((-7 : Int32), s28))
                              (fg_b (fn_X12_isRead x1 (s17.2 36 (h_ix x3)) x4 s28) (fun p33 s32 =>
                                fg_if (p33 = 0)
                                  (some ((-7 : Int32), s32))
                                  (some ((s17.2 36 (h_ix x3)), s32)))))))
                        (some ((-3 : Int32), s17)))))))
              (some ((-1 : Int32), s10))))
          (some ((-1 : Int32), s6))))
      (some ((-1 : Int32), s2)))
noncomputable def fn_X12_rule (x1 : Int32) (x2 : Int32) (s : r_T) : Option (Int32 × r_T) :=
  fg_b (fn_X12_in (x1.toInt64) (0 : Int64) (99 : Int64) s) (fun p2 s1 =>
    fg_if (p2 = 0)
      (some ((-2 : Int32), s1))
      (fg_b (fn_X12_in (x2.toInt64) (0 : Int64) (10 : Int64) s1) (fun p5 s4 =>
        fg_if (p5 = 0)
          (some ((-2 : Int32), s4))
          (fg_let (((100 : Int32) * (s4.1 102)) + (s4.1 103)) (fun v8 =>
            fg_let (rt_F s4 102 x1) (fun s9 =>
              fg_let (rt_F s9 103 x2) (fun s10 =>
                fg_b (fn_X12_acted v8 s10) (fun p12 s11 =>
                  some (p12, s11)))))))))
noncomputable def fn_X12_read_152 (K56 : Int32 → Int32 → Int32 → Int32 → Int32 → Int32 → r_T → Option (Int32 × r_T)) (x1 : Int32) (x3 : Int32) (x4 : Int32) (x5 : Int32) (x6 : Int32) (x7 : Int32) (x9 : Int32) (x10 : Int32) (y0 : Int32) (y1 : Int32) (s : r_T) : Option (Int32 × r_T) :=
  fg_g (vp_in (y1 + y0) 64) (
    fg_g (vp_in (y1 + y0) 64) (
      fg_let (rt_A s 104 (h_ix (y1 + y0)) ((s.2 104 (h_ix (y1 + y0))) + x10)) (fun s7 =>
        fg_g (vp_in (((8 : Int32) * x1) + x9) 64) (
          fg_g (vp_in (((8 : Int32) * x1) + x9) 64) (
            fg_let (rt_A s7 104 (h_ix (((8 : Int32) * x1) + x9)) ((s7.2 104 (h_ix (((8 : Int32) * x1) + x9))) + ((s7.1 102) - x10))) (fun s15 =>
              K56 x1 x3 x4 x5 (x6 + (s15.1 102)) (x7 + (1 : Int32)) s15))))))
noncomputable def fn_X12_read_150 (K56 : Int32 → Int32 → Int32 → Int32 → Int32 → Int32 → r_T → Option (Int32 × r_T)) (x1 : Int32) (x3 : Int32) (x4 : Int32) (x5 : Int32) (x6 : Int32) (x7 : Int32) (x9 : Int32) (x10 : Int32) (y0 : Int32) (s : r_T) : Option (Int32 × r_T) :=
  fn_X12_read_152 K56 x1 x3 x4 x5 x6 x7 x9 x10 x9 y0 s
noncomputable def fn_X12_read_196 (x5 : Int32) (x6 : Int32) (s : r_T) : Option (Int32 × r_T) :=
  fg_if (x5 = 0)
    (some ((-3 : Int32), s))
    (fg_b (fn_X12_acted x6 s) (fun p4 s3 =>
      some (p4, s3)))
noncomputable def fn_X12_read_56b (K56 : Int32 → Int32 → Int32 → Int32 → Int32 → Int32 → r_T → Option (Int32 × r_T)) (x1 : Int32) (x3 : Int32) (x4 : Int32) (x5 : Int32) (x6 : Int32) (x7 : Int32) (s : r_T) : Option (Int32 × r_T) :=
  fg_if ((s.1 35) ≤ x7)
    (fn_X12_read_196 x5 x6 s)
    (fg_if (x3 = 0)
      (fn_X12_read_196 x5 x6 s)
      (fg_g (vp_in x7 300) (
        fg_b (fn_X12_isRead x1 (s.2 36 (h_ix x7)) (s.1 1) s) (fun p8 s7 =>
          fg_if (p8 = 0)
            (K56 x1 x3 x4 x5 x6 (x7 + (1 : Int32)) s7)
            (fg_g (vp_in (s.2 36 (h_ix x7)) 500) (
              fg_let (s7.2 24 (h_ix (s.2 36 (h_ix x7)))) (fun v14 =>
                fg_if (v14 = x1)
                  (K56 x1 x3 x4 (x5 + (1 : Int32)) x6 (x7 + (1 : Int32)) s7)
                  (fg_let (((s7.1 102) * (s7.1 103)) / (10 : Int32)) (fun v17 =>
                    fg_if (x4 = v14)
                      (fn_X12_read_150 K56 x1 x3 x4 (x5 + (1 : Int32)) x6 x7 v14 v17 ((8 : Int32) * x1) s7)
                      (fg_if (x4 = x1)
                        (fn_X12_read_150 K56 x1 x3 x4 (x5 + (1 : Int32)) x6 x7 v14 v17 ((8 : Int32) * x1) s7)
                        (fn_X12_read_152 K56 x1 x3 x4 (x5 + (1 : Int32)) x6 x7 v14 v17 x4 ((8 : Int32) * x1) s7)))))))))))
noncomputable def fn_X12_read_56 : Nat → Int32 → Int32 → Int32 → Int32 → Int32 → Int32 → r_T → Option (Int32 × r_T)
  | 0, _, _, _, _, _, _, _ => none
  | n + 1, x1, x3, x4, x5, x6, x7, s => fn_X12_read_56b (fn_X12_read_56 n) x1 x3 x4 x5 x6 x7 s
noncomputable def fn_X12_read (x1 : Int32) (x2 : Int32) (s : r_T) : Option (Int32 × r_T) :=
  fg_b (fn_X12_noHand x1 s) (fun p3 s2 =>
    fg_if (p3 = 0)
      (fg_b (fn_X12_noVersion x2 s2) (fun p7 s6 =>
        fg_if (p7 = 0)
          (fg_b (fn_X12_layVersion x2 s6) (fun u_ s10 =>
            fg_b (fn_X12_isOpen x1 x2 (s10.1 1) s10) (fun p14 s13 =>
              fg_g (vp_in x2 16) (
                fg_g (vp_in (s13.2 56 (h_ix x2)) 12) (
                  fg_let (s13.2 9 (h_ix (s13.2 56 (h_ix x2)))) (fun v22 =>
                    fn_X12_read_56 g_N x1 p14 v22 (0 : Int32) (0 : Int32) (0 : Int32) s13))))))
          (some ((-1 : Int32), s6))))
      (some ((-1 : Int32), s2)))
noncomputable def fn_X12_owes (x1 : Int32) (x2 : Int32) (s : r_T) : Option (Int32 × r_T) :=
  fg_b (fn_X12_noHand x1 s) (fun p3 s2 =>
    fg_if (p3 = 0)
      (fg_b (fn_X12_noHand x2 s2) (fun p7 s6 =>
        fg_if (p7 = 0)
          (fg_g (vp_in (((8 : Int32) * x1) + x2) 64) (
            some ((s6.2 104 (h_ix (((8 : Int32) * x1) + x2))), s6)))
          (some ((-1 : Int32), s6))))
      (some ((-1 : Int32), s2)))
noncomputable def fn_X12_pay (x1 : Int32) (x2 : Int32) (x3 : Int32) (s : r_T) : Option (Int32 × r_T) :=
  fg_b (fn_X12_noHand x1 s) (fun p3 s2 =>
    fg_if (p3 = 0)
      (fg_b (fn_X12_noHand x2 s2) (fun p7 s6 =>
        fg_if (p7 = 0)
          (fg_if ((1 : Int32) ≤ x3)
            (fg_g (vp_in (((8 : Int32) * x1) + x2) 64) (
              fg_if (x3 ≤ (s6.2 104 (h_ix (((8 : Int32) * x1) + x2))))
                (fg_g (vp_in (((8 : Int32) * x1) + x2) 64) (
                  fg_g (vp_in (((8 : Int32) * x1) + x2) 64) (
                    fg_let (rt_A s6 104 (h_ix (((8 : Int32) * x1) + x2)) ((s6.2 104 (h_ix (((8 : Int32) * x1) + x2))) - x3)) (fun s21 =>
                      fg_g (vp_in (((8 : Int32) * x1) + x2) 64) (
                        fg_b (fn_X12_acted (s21.2 104 (h_ix (((8 : Int32) * x1) + x2))) s21) (fun p26 s25 =>
                          some (p26, s25)))))))
                (some ((-3 : Int32), s6))))
            (some ((-2 : Int32), s6)))
          (some ((-1 : Int32), s6))))
      (some ((-1 : Int32), s2)))
noncomputable def fn_X12_noChain (x1 : Int32) (x2 : Int32) (s : r_T) : Option (Int32 × r_T) :=
  fg_b (fn_X12_noVersion x1 s) (fun p3 s2 =>
    fg_if (p3 = 0)
      (fg_b (fn_X12_layVersion x1 s2) (fun u_ s6 =>
        fg_b (fn_X12_in (x2.toInt64) (0 : Int64) (((s6.1 35).toInt64) - (1 : Int64)) s6) (fun p10 s9 =>
          fg_if (p10 = 0)
            (some ((-1 : Int32), s9))
            (fg_g (vp_in x2 300) (
              fg_if ((s9.2 36 (h_ix x2)) = (-7 : Int32))
                (some ((-3 : Int32), s9))
                (some ((0 : Int32), s9)))))))
      (some ((-1 : Int32), s2)))
noncomputable def fn_X12_chainMany (x1 : Int32) (s : r_T) : Option (Int32 × r_T) :=
  fg_g (vp_in x1 300) (
    fg_g (vp_in ((((5 : Int32) * x1) + (s.2 38 (h_ix x1))) - (1 : Int32)) 1500) (
      fg_g (vp_in x1 300) (
        fg_g (vp_in (s.2 36 (h_ix x1)) 500) (
          fg_if ((s.2 39 (h_ix ((((5 : Int32) * x1) + (s.2 38 (h_ix x1))) - (1 : Int32)))) = (s.2 25 (h_ix (s.2 36 (h_ix x1)))))
            (some ((s.2 38 (h_ix x1)), s))
            (some (((s.2 38 (h_ix x1)) + (1 : Int32)), s))))))
noncomputable def fn_X12_steps (x1 : Int32) (x2 : Int32) (s : r_T) : Option (Int32 × r_T) :=
  fg_b (fn_X12_noChain x1 x2 s) (fun p3 s2 =>
    fg_if (0 ≤ p3)
      (fg_b (fn_X12_chainMany x2 s2) (fun p7 s6 =>
        some (p7, s6)))
      (some (p3, s2)))
noncomputable def fn_X12_chain (x1 : Int32) (x2 : Int32) (x3 : Int32) (s : r_T) : Option (Int32 × r_T) :=
  fg_b (fn_X12_noChain x1 x2 s) (fun p3 s2 =>
    fg_if (0 ≤ p3)
      (fg_b (fn_X12_chainMany x2 s2) (fun p7 s6 =>
        fg_b (fn_X12_in (x3.toInt64) (0 : Int64) ((p7.toInt64) - (1 : Int64)) s6) (fun p9 s8 =>
          fg_if (p9 = 0)
            (some ((-1 : Int32), s8))
            (fg_g (vp_in x2 300) (
              fg_if ((s8.2 38 (h_ix x2)) ≤ x3)
                (fg_g (vp_in x2 300) (
                  fg_g (vp_in (s8.2 36 (h_ix x2)) 500) (
                    some ((s8.2 25 (h_ix (s8.2 36 (h_ix x2)))), s8))))
                (fg_g (vp_in (((5 : Int32) * x2) + x3) 1500) (
                  some ((s8.2 39 (h_ix (((5 : Int32) * x2) + x3))), s8))))))))
      (some (p3, s2)))
noncomputable def fn_X12_quotes (x1 : Int32) (x2 : Int32) (s : r_T) : Option (Int32 × r_T) :=
  fg_b (fn_X12_noWriting x1 s) (fun p3 s2 =>
    fg_if (p3 = 0)
      (fg_b (fn_X12_noWriting x2 s2) (fun p7 s6 =>
        fg_if (p7 = 0)
          (fg_b (fn_X12_laySteps x1 (0 : Int32) s6) (fun u_ s10 =>
            fg_g (vp_in x2 12) (
              some ((s10.2 54 (h_ix x2)), s10))))
          (some ((-1 : Int32), s6))))
      (some ((-1 : Int32), s2)))
noncomputable def fn_X12_keepHit_72b (K72 : Int32 → Int32 → Int32 → Int32 → Int32 → r_T → Option (Unit × r_T)) (x1 : Int32) (x2 : Int32) (x3 : Int32) (x4 : Int32) (x5 : Int32) (s : r_T) : Option (Unit × r_T) :=
  fg_if (x5 ≤ x4)
    (fg_g (vp_in x4 200) (
      fg_let (rt_A s 106 (h_ix x4) x1) (fun s6 =>
        fg_g (vp_in x4 200) (
          fg_let (rt_A s6 107 (h_ix x4) x2) (fun s10 =>
            fg_g (vp_in x4 200) (
              fg_let (rt_A s10 108 (h_ix x4) x3) (fun s14 =>
                some ((), s14))))))))
    (fg_g (vp_in (x5 - (1 : Int32)) 200) (
      fg_g (vp_in x5 200) (
        fg_let (rt_A s 106 (h_ix x5) (s.2 106 (h_ix (x5 - (1 : Int32))))) (fun s22 =>
          fg_g (vp_in (x5 - (1 : Int32)) 200) (
            fg_g (vp_in x5 200) (
              fg_let (rt_A s22 107 (h_ix x5) (s22.2 107 (h_ix (x5 - (1 : Int32))))) (fun s29 =>
                fg_g (vp_in (x5 - (1 : Int32)) 200) (
                  fg_g (vp_in x5 200) (
                    fg_let (rt_A s29 108 (h_ix x5) (s29.2 108 (h_ix (x5 - (1 : Int32))))) (fun s36 =>
                      K72 x1 x2 x3 x4 (x5 + (-1 : Int32)) s36))))))))))
noncomputable def fn_X12_keepHit_72 : Nat → Int32 → Int32 → Int32 → Int32 → Int32 → r_T → Option (Unit × r_T)
  | 0, _, _, _, _, _, _ => none
  | n + 1, x1, x2, x3, x4, x5, s => fn_X12_keepHit_72b (fn_X12_keepHit_72 n) x1 x2 x3 x4 x5 s
noncomputable def fn_X12_keepHit_61 (x1 : Int32) (x2 : Int32) (x3 : Int32) (x4 : Int32) (y0 : Int32) (s : r_T) : Option (Unit × r_T) :=
  fg_let (rt_F s 105 y0) (fun s2 =>
    fg_let ((s2.1 105) - (1 : Int32)) (fun v4 =>
      fn_X12_keepHit_72 g_N x1 x2 x3 x4 v4 s2))
noncomputable def fn_X12_keepHit_30 (x1 : Int32) (x2 : Int32) (x3 : Int32) (x4 : Int32) (s : r_T) : Option (Unit × r_T) :=
  fg_if ((200 : Int32) ≤ x4)
    (some ((), s))
    (fg_if ((200 : Int32) ≤ (s.1 105))
      (fn_X12_keepHit_61 x1 x2 x3 x4 (200 : Int32) s)
      (fn_X12_keepHit_61 x1 x2 x3 x4 ((s.1 105) + (1 : Int32)) s))
noncomputable def fn_X12_keepHit_6b (K6 : Int32 → Int32 → Int32 → Int32 → r_T → Option (Unit × r_T)) (x1 : Int32) (x2 : Int32) (x3 : Int32) (x4 : Int32) (s : r_T) : Option (Unit × r_T) :=
  fg_if (x4 ≤ 0)
    (fn_X12_keepHit_30 x1 x2 x3 x4 s)
    (fg_g (vp_in (x4 - (1 : Int32)) 200) (
      fg_if (x3 ≤ (s.2 108 (h_ix (x4 - (1 : Int32)))))
        (fn_X12_keepHit_30 x1 x2 x3 x4 s)
        (K6 x1 x2 x3 (x4 + (-1 : Int32)) s)))
noncomputable def fn_X12_keepHit_6 : Nat → Int32 → Int32 → Int32 → Int32 → r_T → Option (Unit × r_T)
  | 0, _, _, _, _, _ => none
  | n + 1, x1, x2, x3, x4, s => fn_X12_keepHit_6b (fn_X12_keepHit_6 n) x1 x2 x3 x4 s
noncomputable def fn_X12_keepHit (x1 : Int32) (x2 : Int32) (x3 : Int32) (s : r_T) : Option (Unit × r_T) :=
  fn_X12_keepHit_6 g_N x1 x2 x3 (s.1 105) s
noncomputable def fn_X12_isHit_21b (K21 : Int32 → Int32 → Int32 → Int32 → Int32 → Int32 → r_T → Option (Int32 × r_T)) (x1 : Int32) (x2 : Int32) (x3 : Int32) (x4 : Int32) (x5 : Int32) (x6 : Int32) (s : r_T) : Option (Int32 × r_T) :=
  fg_if (x4 ≤ x6)
    (fg_g (h_bt x5) (
      some (x5, s)))
    (fg_if (x5 = 0)
      (fg_g (h_bt x5) (
        some (x5, s)))
      (fg_g (vp_in (x2 + x6) 300) (
        fg_if ((s.2 36 (h_ix (x2 + x6))) = (-7 : Int32))
          (K21 x1 x2 x3 x4 (0 : Int32) (x6 + (1 : Int32)) s)
          (fg_g (vp_in (s.2 36 (h_ix (x2 + x6))) 500) (
            fg_g (vp_in (x3 + x6) 240) (
              fg_if ((s.2 23 (h_ix (s.2 36 (h_ix (x2 + x6))))) = (s.2 112 (h_ix (x3 + x6))))
                (fg_b (fn_X12_isRead x1 (s.2 36 (h_ix (x2 + x6))) (s.1 1) s) (fun p16 s15 =>
                  fg_if (p16 = 0)
                    (K21 x1 x2 x3 x4 (0 : Int32) (x6 + (1 : Int32)) s15)
                    (K21 x1 x2 x3 x4 (1 : Int32) (x6 + (1 : Int32)) s15)))
                (K21 x1 x2 x3 x4 (0 : Int32) (x6 + (1 : Int32)) s)))))))
noncomputable def fn_X12_isHit_21 : Nat → Int32 → Int32 → Int32 → Int32 → Int32 → Int32 → r_T → Option (Int32 × r_T)
  | 0, _, _, _, _, _, _, _ => none
  | n + 1, x1, x2, x3, x4, x5, x6, s => fn_X12_isHit_21b (fn_X12_isHit_21 n) x1 x2 x3 x4 x5 x6 s
noncomputable def fn_X12_isHit_16 (x1 : Int32) (x2 : Int32) (x3 : Int32) (x4 : Int32) (y0 : Int32) (s : r_T) : Option (Int32 × r_T) :=
  fn_X12_isHit_21 g_N x1 x2 x3 x4 y0 (0 : Int32) s
noncomputable def fn_X12_isHit (x1 : Int32) (x2 : Int32) (x3 : Int32) (x4 : Int32) (s : r_T) : Option (Int32 × r_T) :=
  fg_if ((s.1 35) < (x2 + x4))
    (fn_X12_isHit_16 x1 x2 x3 x4 (0 : Int32) s)
    (fn_X12_isHit_16 x1 x2 x3 x4 (1 : Int32) s)
noncomputable def fn_X12_seek_15 (s : r_T) : Option (Int32 × r_T) :=
  fg_b (fn_X12_refused (-1 : Int32) s) (fun p3 s2 =>
    some (p3, s2))
noncomputable def fn_X12_seek_96b (K64 : Int32 → Int32 → Int32 → Int32 → Int32 → Int32 → r_T → Option (Int32 × r_T)) (K96 : Int32 → Int32 → Int32 → Int32 → Int32 → Int32 → Int32 → r_T → Option (Int32 × r_T)) (x1 : Int32) (x2 : Int32) (x4 : Int32) (x5 : Int32) (x7 : Int32) (x8 : Int32) (x9 : Int32) (s : r_T) : Option (Int32 × r_T) :=
  fg_if ((s.1 35) ≤ x9)
    (K64 x1 x2 x4 x5 x7 (x8 + (1 : Int32)) s)
    (fg_b (fn_X12_isHit x1 x9 (((60 : Int32) * x2) + x4) x5 s) (fun p4 s3 =>
      fg_if (p4 = 0)
        (K96 x1 x2 x4 x5 x7 x8 (x9 + (1 : Int32)) s3)
        (fg_g (vp_in x9 300) (
          fg_b (fn_X12_linksOf (s3.2 36 (h_ix x9)) s3) (fun p11 s10 =>
            fg_b (fn_X12_keepHit x8 x9 p11 s10) (fun u_ s13 =>
              K96 x1 x2 x4 x5 (x7 + (1 : Int32)) x8 (x9 + (1 : Int32)) s13))))))
noncomputable def fn_X12_seek_96 (K64 : Int32 → Int32 → Int32 → Int32 → Int32 → Int32 → r_T → Option (Int32 × r_T)) : Nat → Int32 → Int32 → Int32 → Int32 → Int32 → Int32 → Int32 → r_T → Option (Int32 × r_T)
  | 0, _, _, _, _, _, _, _, _ => none
  | n + 1, x1, x2, x4, x5, x7, x8, x9, s => fn_X12_seek_96b K64 (fn_X12_seek_96 K64 n) x1 x2 x4 x5 x7 x8 x9 s
noncomputable def fn_X12_seek_64b (K64 : Int32 → Int32 → Int32 → Int32 → Int32 → Int32 → r_T → Option (Int32 × r_T)) (x1 : Int32) (x2 : Int32) (x4 : Int32) (x5 : Int32) (x7 : Int32) (x8 : Int32) (s : r_T) : Option (Int32 × r_T) :=
  fg_if ((s.1 55) ≤ x8)
    (fg_b (fn_X12_refused x7 s) (fun p4 s3 =>
      some (p4, s3)))
    (fg_b (fn_X12_isOpen x1 x8 (s.1 1) s) (fun p6 s5 =>
      fg_if (p6 = 0)
        (K64 x1 x2 x4 x5 x7 (x8 + (1 : Int32)) s5)
        (fg_b (fn_X12_layVersion x8 s5) (fun u_ s9 =>
          fn_X12_seek_96 K64 g_N x1 x2 x4 x5 x7 x8 (0 : Int32) s9))))
noncomputable def fn_X12_seek_64 : Nat → Int32 → Int32 → Int32 → Int32 → Int32 → Int32 → r_T → Option (Int32 × r_T)
  | 0, _, _, _, _, _, _, _ => none
  | n + 1, x1, x2, x4, x5, x7, x8, s => fn_X12_seek_64b (fn_X12_seek_64 n) x1 x2 x4 x5 x7 x8 s
noncomputable def fn_X12_seek (x1 : Int32) (x2 : Int32) (x3 : Int32) (x4 : Int32) (x5 : Int32) (s : r_T) : Option (Int32 × r_T) :=
  fg_b (fn_X12_noHand x1 s) (fun p3 s2 =>
    fg_if (p3 = 0)
      (fg_b (fn_X12_noSheet x2 s2) (fun p6 s5 =>
        fg_if (p6 = 0)
          (fg_b (fn_X12_barred x2 x3 x4 x5 s5) (fun p10 s9 =>
            fg_if (0 ≤ p10)
              (fg_if (x5 = 0)
                (fg_b (fn_X12_refused (-2 : Int32) s9) (fun p17 s16 =>
                  some (p17, s16)))
                (fg_let (rt_F s9 105 (0 : Int32)) (fun s14 =>
                  fn_X12_seek_64 g_N x1 x2 x4 x5 (0 : Int32) (0 : Int32) s14)))
              (some (p10, s9))))
          (fn_X12_seek_15 s5)))
      (fn_X12_seek_15 s2))
noncomputable def fn_X12_hit (x1 : Int32) (x2 : Int32) (s : r_T) : Option (Int32 × r_T) :=
  fg_b (fn_X12_in (x1.toInt64) (0 : Int64) (((s.1 105).toInt64) - (1 : Int64)) s) (fun p3 s2 =>
    fg_if (p3 = 0)
      (some ((-1 : Int32), s2))
      (fg_if (x2 = (0 : Int32))
        (fg_g (vp_in x1 200) (
          some ((s2.2 106 (h_ix x1)), s2)))
        (fg_if (x2 = (1 : Int32))
          (fg_g (vp_in x1 200) (
            some ((s2.2 107 (h_ix x1)), s2)))
          (fg_if (x2 = (2 : Int32))
            (fg_g (vp_in x1 200) (
              some ((s2.2 108 (h_ix x1)), s2)))
            (some ((-2 : Int32), s2))))))
noncomputable def fn_X12_layTree_64 (K2 : Int32 → Int32 → r_T → Option (Unit × r_T)) (x1 : Int32) (x2 : Int32) (y0 : Int32) (y1 : Int32) (s : r_T) : Option (Unit × r_T) :=
  fg_g (vp_in y1 1024) (
    fg_let (rt_A s 109 (h_ix y1) y0) (fun s4 =>
      K2 x1 (x2 + (1 : Int32)) s4))
noncomputable def fn_X12_layTree_63 (K2 : Int32 → Int32 → r_T → Option (Unit × r_T)) (x1 : Int32) (x2 : Int32) (y0 : Int32) (s : r_T) : Option (Unit × r_T) :=
  fn_X12_layTree_64 K2 x1 x2 (0 : Int32) y0 s
noncomputable def fn_X12_layTree_75b (K75 : Int32 → r_T → Option (Unit × r_T)) (x2 : Int32) (s : r_T) : Option (Unit × r_T) :=
  fg_if (x2 ≤ 0)
    (some ((), s))
    (fg_g (vp_in ((2 : Int32) * x2) 1024) (
      fg_g (vp_in (((2 : Int32) * x2) + (1 : Int32)) 1024) (
        fg_b (fn_X12_mix (s.2 109 (h_ix ((2 : Int32) * x2))) (s.2 109 (h_ix (((2 : Int32) * x2) + (1 : Int32)))) s) (fun p10 s9 =>
          fg_g (vp_in x2 1024) (
            fg_let (rt_A s9 109 (h_ix x2) p10) (fun s14 =>
              K75 (x2 + (-1 : Int32)) s14))))))
noncomputable def fn_X12_layTree_75 : Nat → Int32 → r_T → Option (Unit × r_T)
  | 0, _, _ => none
  | n + 1, x2, s => fn_X12_layTree_75b (fn_X12_layTree_75 n) x2 s
noncomputable def fn_X12_layTree_2b (K2 : Int32 → Int32 → r_T → Option (Unit × r_T)) (x1 : Int32) (x2 : Int32) (s : r_T) : Option (Unit × r_T) :=
  fg_if ((512 : Int32) ≤ x2)
    (fn_X12_layTree_75 g_N (511 : Int32) s)
    (fg_if ((s.1 22) ≤ x2)
      (fn_X12_layTree_63 K2 x1 x2 ((512 : Int32) + x2) s)
      (fg_g (vp_in x2 500) (
        fg_if (x1 < (s.2 26 (h_ix x2)))
          (fn_X12_layTree_63 K2 x1 x2 ((512 : Int32) + x2) s)
          (fg_g (vp_in x2 500) (
            fg_g (vp_in x2 500) (
              fg_b (fn_X12_mix (s.2 24 (h_ix x2)) (s.2 23 (h_ix x2)) s) (fun p15 s14 =>
                fg_g (vp_in x2 500) (
                  fg_b (fn_X12_mix p15 (s14.2 26 (h_ix x2)) s14) (fun p21 s20 =>
                    fn_X12_layTree_64 K2 x1 x2 p21 ((512 : Int32) + x2) s20)))))))))
noncomputable def fn_X12_layTree_2 : Nat → Int32 → Int32 → r_T → Option (Unit × r_T)
  | 0, _, _, _ => none
  | n + 1, x1, x2, s => fn_X12_layTree_2b (fn_X12_layTree_2 n) x1 x2 s
noncomputable def fn_X12_layTree (x1 : Int32) (s : r_T) : Option (Unit × r_T) :=
  fn_X12_layTree_2 g_N x1 (0 : Int32) s
noncomputable def fn_X12_seal (x1 : Int32) (s : r_T) : Option (Int32 × r_T) :=
  fg_b (fn_X12_noMoment x1 s) (fun p3 s2 =>
    fg_if (p3 = 0)
      (fg_b (fn_X12_layTree x1 s2) (fun u_ s6 =>
        fg_g (vp_in (1 : Int32) 1024) (
          some ((s6.2 109 (h_ix (1 : Int32))), s6))))
      (some ((0 : Int32), s2)))
noncomputable def fn_X12_sideOf (x1 : Int32) (x2 : Int32) (s : r_T) : Option (Int32 × r_T) :=
  fg_g (vp_in ((((512 : Int32) + x1) >>> (x2 &&& 31)) ^^^ (1 : Int32)) 1024) (
    some ((s.2 109 (h_ix ((((512 : Int32) + x1) >>> (x2 &&& 31)) ^^^ (1 : Int32)))), s))
noncomputable def fn_X12_side (x1 : Int32) (x2 : Int32) (x3 : Int32) (s : r_T) : Option (Int32 × r_T) :=
  fg_b (fn_X12_noWord x1 s) (fun p3 s2 =>
    fg_if (p3 = 0)
      (fg_b (fn_X12_noMoment x2 s2) (fun p7 s6 =>
        fg_if (p7 = 0)
          (fg_b (fn_X12_in (x3.toInt64) (0 : Int64) (8 : Int64) s6) (fun p10 s9 =>
            fg_if (p10 = 0)
              (some ((0 : Int32), s9))
              (fg_b (fn_X12_layTree x2 s9) (fun u_ s13 =>
                fg_b (fn_X12_sideOf x1 x3 s13) (fun p17 s16 =>
                  some (p17, s16))))))
          (some ((0 : Int32), s6))))
      (some ((0 : Int32), s2)))
noncomputable def fn_X12_prove_29 (s : r_T) : Option (Int32 × r_T) :=
  fg_b (fn_X12_refused (-1 : Int32) s) (fun p3 s2 =>
    some (p3, s2))
noncomputable def fn_X12_prove_176 (y0 : Int32) (s : r_T) : Option (Int32 × r_T) :=
  fg_b (fn_X12_refused y0 s) (fun p3 s2 =>
    some (p3, s2))
noncomputable def fn_X12_prove_78b (K78 : Int32 → Int32 → Int32 → Int32 → Int32 → r_T → Option (Int32 × r_T)) (x1 : Int32) (x6 : Int32) (x8 : Int32) (x10 : Int32) (x11 : Int32) (s : r_T) : Option (Int32 × r_T) :=
  fg_if ((9 : Int32) ≤ x11)
    (fg_g (vp_in (1 : Int32) 1024) (
      fg_if (x10 = (s.2 109 (h_ix (1 : Int32))))
        (fn_X12_prove_176 (1 : Int32) s)
        (fn_X12_prove_176 (0 : Int32) s)))
    (fg_g (vp_in ((((60 : Int32) * x6) + x8) + x11) 240) (
      fg_let (s.2 112 (h_ix ((((60 : Int32) * x6) + x8) + x11))) (fun v11 =>
        fg_b (fn_X12_sideOf x1 x11 s) (fun p13 s12 =>
          fg_if (v11 = p13)
            (fg_if (((x1 >>> (x11 &&& 31)) &&& (1 : Int32)) = 0)
              (fg_b (fn_X12_mix x10 v11 s12) (fun p19 s18 =>
                K78 x1 x6 x8 p19 (x11 + (1 : Int32)) s18))
              (fg_b (fn_X12_mix v11 x10 s12) (fun p17 s16 =>
                K78 x1 x6 x8 p17 (x11 + (1 : Int32)) s16)))
            (fg_b (fn_X12_refused ((-100 : Int32) - x11) s12) (fun p22 s21 =>
              some (p22, s21)))))))
noncomputable def fn_X12_prove_78 : Nat → Int32 → Int32 → Int32 → Int32 → Int32 → r_T → Option (Int32 × r_T)
  | 0, _, _, _, _, _, _ => none
  | n + 1, x1, x6, x8, x10, x11, s => fn_X12_prove_78b (fn_X12_prove_78 n) x1 x6 x8 x10 x11 s
noncomputable def fn_X12_prove (x1 : Int32) (x2 : Int32) (x3 : Int32) (x4 : Int32) (x5 : Int32) (x6 : Int32) (x7 : Int32) (x8 : Int32) (s : r_T) : Option (Int32 × r_T) :=
  fg_b (fn_X12_in (x1.toInt64) (0 : Int64) (499 : Int64) s) (fun p2 s1 =>
    fg_if (p2 = 0)
      (fn_X12_prove_29 s1)
      (fg_b (fn_X12_noMoment x5 s1) (fun p6 s5 =>
        fg_if (p6 = 0)
          (fg_b (fn_X12_noSheet x6 s5) (fun p9 s8 =>
            fg_if (p9 = 0)
              (fg_b (fn_X12_barred x6 x7 x8 (9 : Int32) s8) (fun p13 s12 =>
                fg_if (0 ≤ p13)
                  (fg_b (fn_X12_layTree x5 s12) (fun u_ s16 =>
                    fg_b (fn_X12_mix x2 x3 s16) (fun p19 s18 =>
                      fg_b (fn_X12_mix p19 x4 s18) (fun p21 s20 =>
                        fn_X12_prove_78 g_N x1 x6 x8 p21 (0 : Int32) s20))))
                  (some (p13, s12))))
              (fn_X12_prove_29 s8)))
          (fn_X12_prove_29 s5))))
noncomputable def fn_X12_stamp (x1 : Int32) (s : r_T) : Option (Int32 × r_T) :=
  fg_b (fn_X12_noMoment x1 s) (fun p3 s2 =>
    fg_if (p3 = 0)
      (fg_g (vp_in x1 1201) (
        some ((s2.2 2 (h_ix x1)), s2)))
      (some ((0 : Int32), s2)))
noncomputable def fn_X12_sheet_31 (s : r_T) : Option (Int32 × r_T) :=
  fg_b (fn_X12_refused (-2 : Int32) s) (fun p3 s2 =>
    some (p3, s2))
noncomputable def fn_X12_sheet_65b (K65 : Int32 → Int32 → Int32 → r_T → Option (Int32 × r_T)) (x1 : Int32) (x3 : Int32) (x4 : Int32) (s : r_T) : Option (Int32 × r_T) :=
  fg_if (x3 ≤ x4)
    (fg_b (fn_X12_refused (1 : Int32) s) (fun p4 s3 =>
      some (p4, s3)))
    (fg_g (vp_in (((60 : Int32) * x1) + x4) 240) (
      fg_let (rt_A s 112 (h_ix (((60 : Int32) * x1) + x4)) (0 : Int32)) (fun s9 =>
        K65 x1 x3 (x4 + (1 : Int32)) s9)))
noncomputable def fn_X12_sheet_65 : Nat → Int32 → Int32 → Int32 → r_T → Option (Int32 × r_T)
  | 0, _, _, _, _ => none
  | n + 1, x1, x3, x4, s => fn_X12_sheet_65b (fn_X12_sheet_65 n) x1 x3 x4 s
noncomputable def fn_X12_sheet (x1 : Int32) (x2 : Int32) (x3 : Int32) (s : r_T) : Option (Int32 × r_T) :=
  fg_b (fn_X12_noSheet x1 s) (fun p2 s1 =>
    fg_if (p2 = 0)
      (fg_b (fn_X12_in (x2.toInt64) (0 : Int64) (2 : Int64) s1) (fun p5 s4 =>
        fg_if (p5 = 0)
          (fn_X12_sheet_31 s4)
          (fg_if (x3 ≤ (60 : Int32))
            (fg_if (0 ≤ x3)
              (fg_g (vp_in x1 4) (
                fg_let (rt_A s4 110 (h_ix x1) x3) (fun s13 =>
                  fg_g (vp_in x1 4) (
                    fg_let (rt_A s13 111 (h_ix x1) x2) (fun s17 =>
                      fn_X12_sheet_65 g_N x1 x3 (0 : Int32) s17)))))
              (fg_b (fn_X12_failed (4 : Int32) s4) (fun p20 s19 =>
                some (p20, s19))))
            (fn_X12_sheet_31 s4))))
      (fg_b (fn_X12_refused (-1 : Int32) s1) (fun p23 s22 =>
        some (p23, s22))))
noncomputable def fn_X12_lose_23 (x1 : Int32) (y0 : Int32) (s : r_T) : Option (Int32 × r_T) :=
  fg_g (vp_in x1 4) (
    fg_let (rt_A s 110 (h_ix x1) (-1 : Int32)) (fun s5 =>
      some (y0, s5)))
noncomputable def fn_X12_lose (x1 : Int32) (s : r_T) : Option (Int32 × r_T) :=
  fg_b (fn_X12_noSheet x1 s) (fun p2 s1 =>
    fg_if (p2 = 0)
      (fg_g (vp_in x1 4) (
        fg_if (0 ≤ (s1.2 110 (h_ix x1)))
          (fn_X12_lose_23 x1 (1 : Int32) s1)
          (fn_X12_lose_23 x1 (0 : Int32) s1)))
      (some ((-1 : Int32), s1)))
noncomputable def fn_X12_noCell (x1 : Int32) (x2 : Int32) (s : r_T) : Option (Int32 × r_T) :=
  fg_g (vp_in x1 4) (
    fg_if (0 ≤ (s.2 110 (h_ix x1)))
      (fg_g (vp_in x1 4) (
        fg_b (fn_X12_in (x2.toInt64) (0 : Int64) (((s.2 110 (h_ix x1)).toInt64) - (1 : Int64)) s) (fun p10 s9 =>
          fg_if (p10 = 0)
            (some ((3 : Int32), s9))
            (some ((0 : Int32), s9)))))
      (some ((1 : Int32), s)))
noncomputable def fn_X12_set_73 (y0 : Int32) (y1 : Int32) (s : r_T) : Option (Int32 × r_T) :=
  fg_g (vp_in y1 240) (
    fg_let (rt_A s 112 (h_ix y1) y0) (fun s4 =>
      fg_b (fn_X12_refused (1 : Int32) s4) (fun p7 s6 =>
        some (p7, s6))))
noncomputable def fn_X12_set (x1 : Int32) (x2 : Int32) (x3 : Int32) (s : r_T) : Option (Int32 × r_T) :=
  fg_b (fn_X12_noSheet x1 s) (fun p2 s1 =>
    fg_if (p2 = 0)
      (fg_b (fn_X12_noCell x1 x2 s1) (fun p6 s5 =>
        fg_if (p6 ≤ 0)
          (fg_g (vp_in x1 4) (
            fg_if ((s5.2 111 (h_ix x1)) = 0)
              (fn_X12_set_73 (x3.toInt8.toInt32) (((60 : Int32) * x1) + x2) s5)
              (fg_g (vp_in x1 4) (
                fg_if ((s5.2 111 (h_ix x1)) = (1 : Int32))
                  (fn_X12_set_73 (x3.toInt16.toInt32) (((60 : Int32) * x1) + x2) s5)
                  (fn_X12_set_73 x3 (((60 : Int32) * x1) + x2) s5)))))
          (fg_b (fn_X12_noCell x1 x2 s5) (fun p19 s18 =>
            fg_b (fn_X12_failed p19 s18) (fun p22 s21 =>
              some (p22, s21))))))
      (fg_b (fn_X12_refused (-1 : Int32) s1) (fun p25 s24 =>
        some (p25, s24))))
noncomputable def fn_X12_cell_24 (s : r_T) : Option (Int64 × r_T) :=
  fg_b (fn_X12_lost s) (fun p2 s1 =>
    some (p2, s1))
noncomputable def fn_X12_cell_53 (x1 : Int32) (x2 : Int32) (s : r_T) : Option (Int64 × r_T) :=
  fg_b (fn_X12_noCell x1 x2 s) (fun p3 s2 =>
    fg_if (p3 ≤ 0)
      (fg_g (vp_in (((60 : Int32) * x1) + x2) 240) (
        some (((s2.2 112 (h_ix (((60 : Int32) * x1) + x2))).toInt64), s2)))
      (fg_b (fn_X12_noCell x1 x2 s2) (fun p11 s10 =>
        fg_b (fn_X12_failedLong p11 s10) (fun p14 s13 =>
          some (p14, s13)))))
noncomputable def fn_X12_cell (x1 : Int32) (x2 : Int32) (x3 : Int32) (s : r_T) : Option (Int64 × r_T) :=
  fg_let (rt_F s 0 (0 : Int32)) (fun s2 =>
    fg_b (fn_X12_noSheet x1 s2) (fun p4 s3 =>
      fg_if (p4 = 0)
        (fg_b (fn_X12_in (x3.toInt64) (0 : Int64) (2 : Int64) s3) (fun p7 s6 =>
          fg_if (p7 = 0)
            (fn_X12_cell_24 s6)
            (fg_g (vp_in x1 4) (
              fg_if ((s6.2 110 (h_ix x1)) < 0)
                (fn_X12_cell_53 x1 x2 s6)
                (fg_g (vp_in x1 4) (
                  fg_if ((s6.2 111 (h_ix x1)) = x3)
                    (fn_X12_cell_53 x1 x2 s6)
                    (fg_b (fn_X12_failedLong (2 : Int32) s6) (fun p19 s18 =>
                      some (p19, s18)))))))))
        (fn_X12_cell_24 s3)))
noncomputable def fn_X12_copy_14 (s : r_T) : Option (Int32 × r_T) :=
  fg_b (fn_X12_refused (-1 : Int32) s) (fun p3 s2 =>
    some (p3, s2))
noncomputable def fn_X12_copy_38 (s : r_T) : Option (Int32 × r_T) :=
  fg_b (fn_X12_failed (1 : Int32) s) (fun p3 s2 =>
    some (p3, s2))
noncomputable def fn_X12_copy_98 (s : r_T) : Option (Int32 × r_T) :=
  fg_b (fn_X12_failed (3 : Int32) s) (fun p3 s2 =>
    some (p3, s2))
noncomputable def fn_X12_copy_144b (K144 : Int32 → Int32 → Int32 → Int32 → r_T → Option (Int32 × r_T)) (x3 : Int32) (x4 : Int32) (x5 : Int32) (x6 : Int32) (s : r_T) : Option (Int32 × r_T) :=
  fg_if (x5 ≤ x6)
    (fg_b (fn_X12_refused x5 s) (fun p4 s3 =>
      some (p4, s3)))
    (fg_g (vp_in x6 60) (
      fg_g (vp_in ((((60 : Int32) * x3) + x4) + x6) 240) (
        fg_let (rt_A s 112 (h_ix ((((60 : Int32) * x3) + x4) + x6)) (s.2 113 (h_ix x6))) (fun s12 =>
          K144 x3 x4 x5 (x6 + (1 : Int32)) s12))))
noncomputable def fn_X12_copy_144 : Nat → Int32 → Int32 → Int32 → Int32 → r_T → Option (Int32 × r_T)
  | 0, _, _, _, _, _ => none
  | n + 1, x3, x4, x5, x6, s => fn_X12_copy_144b (fn_X12_copy_144 n) x3 x4 x5 x6 s
noncomputable def fn_X12_copy_107b (K107 : Int32 → Int32 → Int32 → Int32 → Int32 → Int32 → r_T → Option (Int32 × r_T)) (x1 : Int32) (x2 : Int32) (x3 : Int32) (x4 : Int32) (x5 : Int32) (x6 : Int32) (s : r_T) : Option (Int32 × r_T) :=
  fg_if (x5 ≤ x6)
    (fn_X12_copy_144 g_N x3 x4 x5 (0 : Int32) s)
    (fg_g (vp_in ((((60 : Int32) * x1) + x2) + x6) 240) (
      fg_g (vp_in x6 60) (
        fg_let (rt_A s 113 (h_ix x6) (s.2 112 (h_ix ((((60 : Int32) * x1) + x2) + x6)))) (fun s9 =>
          K107 x1 x2 x3 x4 x5 (x6 + (1 : Int32)) s9))))
noncomputable def fn_X12_copy_107 : Nat → Int32 → Int32 → Int32 → Int32 → Int32 → Int32 → r_T → Option (Int32 × r_T)
  | 0, _, _, _, _, _, _, _ => none
  | n + 1, x1, x2, x3, x4, x5, x6, s => fn_X12_copy_107b (fn_X12_copy_107 n) x1 x2 x3 x4 x5 x6 s
noncomputable def fn_X12_copy (x1 : Int32) (x2 : Int32) (x3 : Int32) (x4 : Int32) (x5 : Int32) (s : r_T) : Option (Int32 × r_T) :=
  fg_b (fn_X12_noSheet x1 s) (fun p2 s1 =>
    fg_if (p2 = 0)
      (fg_b (fn_X12_noSheet x3 s1) (fun p5 s4 =>
        fg_if (p5 = 0)
          (fg_g (vp_in x1 4) (
            fg_if ((s4.2 110 (h_ix x1)) < 0)
              (fn_X12_copy_38 s4)
              (fg_g (vp_in x3 4) (
                fg_if (0 ≤ (s4.2 110 (h_ix x3)))
                  (fg_g (vp_in x1 4) (
                    fg_g (vp_in x3 4) (
                      fg_if ((s4.2 111 (h_ix x1)) = (s4.2 111 (h_ix x3)))
                        (fg_g (vp_in x1 4) (
                          fg_b (fn_X12_isBeyond x2 (x5.toInt64) (s4.2 110 (h_ix x1)) s4) (fun p27 s26 =>
                            fg_if (p27 = 0)
                              (fg_g (vp_in x3 4) (
                                fg_b (fn_X12_isBeyond x4 (x5.toInt64) (s26.2 110 (h_ix x3)) s26) (fun p34 s33 =>
                                  fg_if (p34 = 0)
                                    (fn_X12_copy_107 g_N x1 x2 x3 x4 x5 (0 : Int32) s33)
                                    (fn_X12_copy_98 s33))))
                              (fn_X12_copy_98 s26))))
                        (fg_b (fn_X12_failed (2 : Int32) s4) (fun p37 s36 =>
                          some (p37, s36))))))
                  (fn_X12_copy_38 s4)))))
          (fn_X12_copy_14 s4)))
      (fn_X12_copy_14 s1))
noncomputable def fn_X12_traced (x1 : Int32) (s : r_T) : Option (Unit × r_T) :=
  fg_let (rt_F s 114 (((31 : Int32) * (s.1 114)) + x1)) (fun s2 =>
    some ((), s2))
noncomputable def fn_X12_tell_82 (x1 : Int32) (x2 : Int32) (s : r_T) : Option (Int32 × r_T) :=
  fg_g (vp_in x1 24) (
    fg_if (x2 = 0)
      (some ((s.2 83 (h_ix x1)), s))
      (fg_if (x2 = (1 : Int32))
        (fg_g (vp_in x1 24) (
          some (((s.2 83 (h_ix x1)) + (s.2 85 (h_ix x1))), s)))
        (fg_if (x2 = (2 : Int32))
          (fg_g (vp_in x1 24) (
            some ((((2 : Int32) * (s.2 83 (h_ix x1))) + (s.2 85 (h_ix x1))), s)))
          (fg_if (x2 = (3 : Int32))
            (some (((s.2 83 (h_ix x1)) + (100 : Int32)), s))
            (some ((((2 : Int32) * (s.2 83 (h_ix x1))) + (100 : Int32)), s))))))
noncomputable def fn_X12_tell_77 (x1 : Int32) (x2 : Int32) (s : r_T) : Option (Int32 × r_T) :=
  fg_b (fn_X12_traced (1 : Int32) s) (fun u_ s2 =>
    fn_X12_tell_82 x1 x2 s2)
noncomputable def fn_X12_tell_62 (x1 : Int32) (x2 : Int32) (s : r_T) : Option (Int32 × r_T) :=
  fg_b (fn_X12_traced (1 : Int32) s) (fun u_ s2 =>
    fg_if (x2 = (2 : Int32))
      (fn_X12_tell_77 x1 x2 s2)
      (fg_if (x2 = (4 : Int32))
        (fn_X12_tell_77 x1 x2 s2)
        (fn_X12_tell_82 x1 x2 s2)))
noncomputable def fn_X12_tell_52 (x1 : Int32) (x2 : Int32) (s : r_T) : Option (Int32 × r_T) :=
  fg_if (x2 ≤ (2 : Int32))
    (fn_X12_tell_62 x1 x2 s)
    (fg_b (fn_X12_traced (4 : Int32) s) (fun u_ s3 =>
      fn_X12_tell_62 x1 x2 s3))
noncomputable def fn_X12_tell_42 (x1 : Int32) (x2 : Int32) (s : r_T) : Option (Int32 × r_T) :=
  fg_if (x2 = (4 : Int32))
    (fg_b (fn_X12_traced (5 : Int32) s) (fun u_ s3 =>
      fn_X12_tell_52 x1 x2 s3))
    (fn_X12_tell_52 x1 x2 s)
noncomputable def fn_X12_tell_37 (x1 : Int32) (x2 : Int32) (s : r_T) : Option (Int32 × r_T) :=
  fg_b (fn_X12_traced (2 : Int32) s) (fun u_ s2 =>
    fn_X12_tell_42 x1 x2 s2)
noncomputable def fn_X12_tell_27 (x1 : Int32) (x2 : Int32) (s : r_T) : Option (Int32 × r_T) :=
  fg_if (x2 = (1 : Int32))
    (fn_X12_tell_37 x1 x2 s)
    (fg_if (x2 = (2 : Int32))
      (fn_X12_tell_37 x1 x2 s)
      (fn_X12_tell_42 x1 x2 s))
noncomputable def fn_X12_tell (x1 : Int32) (s : r_T) : Option (Int32 × r_T) :=
  fg_b (fn_X12_noLink x1 s) (fun p3 s2 =>
    fg_if (p3 = 0)
      (fg_g (vp_in x1 24) (
        fg_if ((s2.2 81 (h_ix x1)) = (2 : Int32))
          (fg_b (fn_X12_traced (3 : Int32) s2) (fun u_ s10 =>
            fn_X12_tell_27 x1 (s2.2 81 (h_ix x1)) s10))
          (fn_X12_tell_27 x1 (s2.2 81 (h_ix x1)) s2)))
      (some ((-1 : Int32), s2)))
noncomputable def fn_X12_name_28 (x1 : Int32) (y0 : Int32) (s : r_T) : Option (Int32 × r_T) :=
  fg_b (fn_X12_traced y0 s) (fun u_ s2 =>
    fg_g (vp_in x1 24) (
      fg_if ((s2.2 81 (h_ix x1)) = (4 : Int32))
        (some ((40 : Int32), s2))
        (some (x1, s2))))
noncomputable def fn_X12_name (x1 : Int32) (s : r_T) : Option (Int32 × r_T) :=
  fg_b (fn_X12_noLink x1 s) (fun p3 s2 =>
    fg_if (p3 = 0)
      (fg_g (vp_in x1 24) (
        fg_if ((s2.2 81 (h_ix x1)) = (4 : Int32))
          (fn_X12_name_28 x1 (7 : Int32) s2)
          (fn_X12_name_28 x1 (6 : Int32) s2)))
      (some ((-1 : Int32), s2)))
noncomputable def fn_X12_as_74 (y0 : Int32) (s : r_T) : Option (Int32 × r_T) :=
  fg_if (y0 = 0)
    (fg_b (fn_X12_failed (2 : Int32) s) (fun p4 s3 =>
      some (p4, s3)))
    (fg_b (fn_X12_refused (1 : Int32) s) (fun p7 s6 =>
      some (p7, s6)))
noncomputable def fn_X12_as_69 (s : r_T) : Option (Int32 × r_T) :=
  fn_X12_as_74 (1 : Int32) s
noncomputable def fn_X12_as_73 (s : r_T) : Option (Int32 × r_T) :=
  fn_X12_as_74 (0 : Int32) s
noncomputable def fn_X12_as_59 (x2 : Int32) (x3 : Int32) (s : r_T) : Option (Int32 × r_T) :=
  fg_if (x2 = (3 : Int32))
    (fg_if (x3 = (4 : Int32))
      (fn_X12_as_69 s)
      (fn_X12_as_73 s))
    (fn_X12_as_73 s)
noncomputable def fn_X12_as (x1 : Int32) (x2 : Int32) (s : r_T) : Option (Int32 × r_T) :=
  fg_b (fn_X12_noLink x1 s) (fun p3 s2 =>
    fg_if (p3 = 0)
      (fg_b (fn_X12_in (x2.toInt64) (0 : Int64) (4 : Int64) s2) (fun p6 s5 =>
        fg_if (p6 = 0)
          (fg_b (fn_X12_refused (-2 : Int32) s5) (fun p18 s17 =>
            some (p18, s17)))
          (fg_g (vp_in x1 24) (
            fg_if (x2 = 0)
              (fn_X12_as_69 s5)
              (fg_if (x2 = (s5.2 81 (h_ix x1)))
                (fn_X12_as_69 s5)
                (fg_if (x2 = (1 : Int32))
                  (fg_if ((s5.2 81 (h_ix x1)) = (2 : Int32))
                    (fn_X12_as_69 s5)
                    (fn_X12_as_59 x2 (s5.2 81 (h_ix x1)) s5))
                  (fn_X12_as_59 x2 (s5.2 81 (h_ix x1)) s5)))))))
      (fg_b (fn_X12_refused (-1 : Int32) s2) (fun p21 s20 =>
        some (p21, s20))))
noncomputable def fn_X12_trace (s : r_T) : Option (Int32 × r_T) :=
  some ((s.1 114), s)
noncomputable def fn_X12_fault (s : r_T) : Option (Int32 × r_T) :=
  some ((s.1 0), s)
noncomputable def fn_X12_many (x1 : Int32) (s : r_T) : Option (Int32 × r_T) :=
  fg_if (x1 = (0 : Int32))
    (some ((s.1 1), s))
    (fg_if (x1 = (1 : Int32))
      (some ((s.1 3), s))
      (fg_if (x1 = (2 : Int32))
        (some ((s.1 8), s))
        (fg_if (x1 = (3 : Int32))
          (some ((s.1 22), s))
          (fg_if (x1 = (4 : Int32))
            (some ((s.1 55), s))
            (fg_if (x1 = (5 : Int32))
              (some ((s.1 80), s))
              (fg_if (x1 = (6 : Int32))
                (some ((s.1 89), s))
                (fg_if (x1 = (7 : Int32))
                  (some ((s.1 74), s))
                  (fg_if (x1 = (8 : Int32))
                    (some ((s.1 105), s))
                    (some ((-2 : Int32), s))))))))))
