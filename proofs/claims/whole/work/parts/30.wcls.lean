set_option maxRecDepth 100000 in
def w_X0_init (o0 : Nat) (x1 : Int32) (r2 : Option Nat) (x3 : Int32) (s : h_S) (Q : h_S → Prop) : Prop :=
  h_k s o0 = 21 ∧ let s2 : h_S := h_si s o0 0 x1
  let s3 : h_S := h_sr s2 o0 1 r2
  let s4 : h_S := h_si s3 o0 2 x3
  Q s4
def w_X0_placeIn_50 (Q : Int32 → h_S → Prop) (K2 : Nat → Option Nat → Int32 → h_S → Prop) (o0 : Nat) (r1 : Option Nat) (x2 : Int32) (x3 : Int32) (s : h_S) : Prop :=
  h_k s o0 = 21 ∧ ∃ a2, (h_r s o0 1) = some a2 ∧ h_k s a2 = 1 ∧ (if x3 = (Int32.ofNat (h_n s a2)) then
    Q x2 s
  else
    K2 o0 r1 (x2 + (1 : Int32)) s)
def w_X0_placeIn_18b (Q : Int32 → h_S → Prop) (K2 : Nat → Option Nat → Int32 → h_S → Prop) (K18 : Nat → Option Nat → Int32 → Int32 → h_S → Prop) (o0 : Nat) (r1 : Option Nat) (x2 : Int32) (x3 : Int32) (s : h_S) : Prop :=
  h_k s o0 = 21 ∧ ∃ a2, (h_r s o0 1) = some a2 ∧ h_k s a2 = 1 ∧ (if (Int32.ofNat (h_n s a2)) ≤ x3 then
    w_X0_placeIn_50 Q K2 o0 r1 x2 x3 s
  else
    ∃ a5, r1 = some a5 ∧ h_k s a5 = 27 ∧ ∃ a7, (h_r s a5 2) = some a7 ∧ h_k s a7 = 1 ∧ vp_in (x2 + x3) (h_n s a7) ∧ ∃ a10, (h_r s o0 1) = some a10 ∧ h_k s a10 = 1 ∧ vp_in x3 (h_n s a10) ∧ (if (h_i s a7 (h_ix (x2 + x3))) = (h_i s a10 (h_ix x3)) then
      K18 o0 r1 x2 (x3 + (1 : Int32)) s
    else
      w_X0_placeIn_50 Q K2 o0 r1 x2 x3 s))
def w_X0_placeIn_18 (Q : Int32 → h_S → Prop) (K2 : Nat → Option Nat → Int32 → h_S → Prop) : Nat → Nat → Option Nat → Int32 → Int32 → h_S → Prop
  | 0, _, _, _, _, _ => False
  | n + 1, o0, r1, x2, x3, s => w_X0_placeIn_18b Q K2 (w_X0_placeIn_18 Q K2 n) o0 r1 x2 x3 s
def w_X0_placeIn_2b (Q : Int32 → h_S → Prop) (K2 : Nat → Option Nat → Int32 → h_S → Prop) (o0 : Nat) (r1 : Option Nat) (x2 : Int32) (s : h_S) : Prop :=
  ∃ a1, r1 = some a1 ∧ h_k s a1 = 27 ∧ h_k s o0 = 21 ∧ ∃ a4, (h_r s o0 1) = some a4 ∧ h_k s a4 = 1 ∧ (if ((h_i s a1 1) - (Int32.ofNat (h_n s a4))) < x2 then
    Q (-9 : Int32) s
  else
    ∃ n, w_X0_placeIn_18 Q K2 n o0 r1 x2 (0 : Int32) s)
def w_X0_placeIn_2 (Q : Int32 → h_S → Prop) : Nat → Nat → Option Nat → Int32 → h_S → Prop
  | 0, _, _, _, _ => False
  | n + 1, o0, r1, x2, s => w_X0_placeIn_2b Q (w_X0_placeIn_2 Q n) o0 r1 x2 s
def w_X0_placeIn (o0 : Nat) (r1 : Option Nat) (s : h_S) (Q : Int32 → h_S → Prop) : Prop :=
  ∃ n, w_X0_placeIn_2 Q n o0 r1 (0 : Int32) s
set_option maxRecDepth 100000 in
def w_X1_init (o0 : Nat) (x1 : Int32) (x2 : Int32) (x3 : Int32) (x4 : Int32) (x5 : Int32) (x6 : Int32) (s : h_S) (mc ms : Nat) (Q : h_S → Prop) : Prop :=
  1 ≤ mc ∧ 2 ≤ ms ∧ ∀ q1 : Nat, h_k s q1 = 0 → let s5 : h_S := h_nw s q1 1 2
  let c6 : Nat := mc - 1
  let d7 : Nat := ms - 2
  h_k s5 o0 = 22 ∧ let s9 : h_S := h_sr s5 o0 1 (some q1)
  1 ≤ c6 ∧ 2 ≤ d7 ∧ ∀ q10 : Nat, h_k s9 q10 = 0 → let s14 : h_S := h_nw s9 q10 1 2
  let c15 : Nat := c6 - 1
  let d16 : Nat := d7 - 2
  h_k s14 o0 = 22 ∧ let s18 : h_S := h_sr s14 o0 2 (some q10)
  let s19 : h_S := h_si s18 o0 0 x1
  ∃ a20, (h_r s19 o0 1) = some a20 ∧ h_k s19 a20 = 1 ∧ vp_in (0 : Int32) (h_n s19 a20) ∧ let s23 : h_S := h_si s19 a20 (h_ix (0 : Int32)) x2
  ∃ a24, (h_r s23 o0 2) = some a24 ∧ h_k s23 a24 = 1 ∧ vp_in (0 : Int32) (h_n s23 a24) ∧ let s27 : h_S := h_si s23 a24 (h_ix (0 : Int32)) x3
  ∃ a28, (h_r s27 o0 1) = some a28 ∧ h_k s27 a28 = 1 ∧ vp_in (1 : Int32) (h_n s27 a28) ∧ let s31 : h_S := h_si s27 a28 (h_ix (1 : Int32)) x4
  ∃ a32, (h_r s31 o0 2) = some a32 ∧ h_k s31 a32 = 1 ∧ vp_in (1 : Int32) (h_n s31 a32) ∧ let s35 : h_S := h_si s31 a32 (h_ix (1 : Int32)) x5
  let s36 : h_S := h_si s35 o0 3 x6
  Q s36
def w_X11_within_14 (Q : Int32 → h_S → Prop) (y0 : Int32) (s : h_S) : Prop :=
  h_bt y0 ∧ Q y0 s
def w_X11_within_13 (Q : Int32 → h_S → Prop) (s : h_S) : Prop :=
  w_X11_within_14 Q (0 : Int32) s
def w_X11_within (x0 : Int32) (x1 : Int32) (s : h_S) (Q : Int32 → h_S → Prop) : Prop :=
  if x0 < 0 then
    w_X11_within_13 Q s
  else
    if x1 ≤ x0 then
      w_X11_within_13 Q s
    else
      w_X11_within_14 Q (1 : Int32) s
def w_X1_isA_39 (Q : Int32 → h_S → Prop) (s : h_S) : Prop :=
  Q 0 s
def w_X1_isA_7b (Q : Int32 → h_S → Prop) (K7 : Int32 → Int32 → Int32 → h_S → Prop) (x1 : Int32) (x2 : Int32) (x3 : Int32) (s : h_S) : Prop :=
  if (5 : Int32) ≤ x3 then
    w_X1_isA_39 Q s
  else
    w_X11_within x2 (5 : Int32) s (fun p3 s2 =>
      if p3 = 0 then
        w_X1_isA_39 Q s2
      else
        if x2 = x1 then
          Q 1 s2
        else
          vp_in x2 5 ∧ K7 x1 (h_abv (h_ix x2)) (x3 + (1 : Int32)) s2)
def w_X1_isA_7 (Q : Int32 → h_S → Prop) : Nat → Int32 → Int32 → Int32 → h_S → Prop
  | 0, _, _, _, _ => False
  | n + 1, x1, x2, x3, s => w_X1_isA_7b Q (w_X1_isA_7 Q n) x1 x2 x3 s
def w_X1_isA (o0 : Nat) (x1 : Int32) (s : h_S) (Q : Int32 → h_S → Prop) : Prop :=
  h_k s o0 = 22 ∧ ∃ n, w_X1_isA_7 Q n x1 (h_i s o0 0) (0 : Int32) s
def w_X1_endHolds_32 (Q : Int32 → h_S → Prop) (y0 : Int32) (s : h_S) : Prop :=
  h_bt y0 ∧ Q y0 s
def w_X1_endHolds_31 (Q : Int32 → h_S → Prop) (s : h_S) : Prop :=
  w_X1_endHolds_32 Q (0 : Int32) s
def w_X1_endHolds (o0 : Nat) (x1 : Int32) (x2 : Int32) (s : h_S) (Q : Int32 → h_S → Prop) : Prop :=
  h_k s o0 = 22 ∧ ∃ a2, (h_r s o0 1) = some a2 ∧ h_k s a2 = 1 ∧ vp_in x1 (h_n s a2) ∧ (if x2 < (h_i s a2 (h_ix x1)) then
    w_X1_endHolds_31 Q s
  else
    ∃ a6, (h_r s o0 1) = some a6 ∧ h_k s a6 = 1 ∧ vp_in x1 (h_n s a6) ∧ ∃ a9, (h_r s o0 2) = some a9 ∧ h_k s a9 = 1 ∧ vp_in x1 (h_n s a9) ∧ (if (h_i s a9 (h_ix x1)) ≤ (x2 - (h_i s a6 (h_ix x1))) then
      w_X1_endHolds_31 Q s
    else
      w_X1_endHolds_32 Q (1 : Int32) s))
def w_X1_holds_23 (Q : Int32 → h_S → Prop) (y0 : Int32) (s : h_S) : Prop :=
  h_bt y0 ∧ Q y0 s
def w_X1_holds_18 (Q : Int32 → h_S → Prop) (s : h_S) : Prop :=
  w_X1_holds_23 Q (1 : Int32) s
def w_X1_holds (o0 : Nat) (x1 : Int32) (s : h_S) (Q : Int32 → h_S → Prop) : Prop :=
  h_k s o0 = 22 ∧ w_X1_endHolds o0 (0 : Int32) x1 s (fun p3 s2 =>
    if p3 = 0 then
      h_k s2 o0 = 22 ∧ w_X1_endHolds o0 (1 : Int32) x1 s2 (fun p7 s6 =>
        if p7 = 0 then
          w_X1_holds_23 Q (0 : Int32) s6
        else
          w_X1_holds_18 Q s6)
    else
      w_X1_holds_18 Q s2)
def w_X1_partFrom_7b (Q : Int32 → h_S → Prop) (K7 : Nat → Int32 → Option Nat → Int32 → h_S → Prop) (o0 : Nat) (x1 : Int32) (r2 : Option Nat) (x4 : Int32) (s : h_S) : Prop :=
  ∃ a1, r2 = some a1 ∧ h_k s a1 = 1 ∧ (if (Int32.ofNat (h_n s a1)) ≤ x4 then
    Q (-9 : Int32) s
  else
    ∃ a4, r2 = some a4 ∧ h_k s a4 = 1 ∧ vp_in x4 (h_n s a4) ∧ h_k s o0 = 22 ∧ w_X1_endHolds o0 x1 (h_i s a4 (h_ix x4)) s (fun p9 s8 =>
      if p9 = 0 then
        K7 o0 x1 r2 (x4 + (1 : Int32)) s8
      else
        Q x4 s8))
def w_X1_partFrom_7 (Q : Int32 → h_S → Prop) : Nat → Nat → Int32 → Option Nat → Int32 → h_S → Prop
  | 0, _, _, _, _, _ => False
  | n + 1, o0, x1, r2, x4, s => w_X1_partFrom_7b Q (w_X1_partFrom_7 Q n) o0 x1 r2 x4 s
def w_X1_partFrom (o0 : Nat) (x1 : Int32) (r2 : Option Nat) (x3 : Int32) (s : h_S) (Q : Int32 → h_S → Prop) : Prop :=
  ∃ n, w_X1_partFrom_7 Q n o0 x1 r2 (h_max (0 : Int32) x3) s
def w_X1_partSize_50 (Q : Int32 → h_S → Prop) (x3 : Int32) (x4 : Int32) (s : h_S) : Prop :=
  Q (x4 - x3) s
def w_X1_partSize_5b (Q : Int32 → h_S → Prop) (K5 : Nat → Int32 → Option Nat → Int32 → Int32 → h_S → Prop) (o0 : Nat) (x1 : Int32) (r2 : Option Nat) (x3 : Int32) (x4 : Int32) (s : h_S) : Prop :=
  if x4 ≤ 0 then
    w_X1_partSize_50 Q x3 x4 s
  else
    ∃ a2, r2 = some a2 ∧ h_k s a2 = 1 ∧ (if (Int32.ofNat (h_n s a2)) ≤ x4 then
      w_X1_partSize_50 Q x3 x4 s
    else
      ∃ a5, r2 = some a5 ∧ h_k s a5 = 1 ∧ vp_in x4 (h_n s a5) ∧ h_k s o0 = 22 ∧ w_X1_endHolds o0 x1 (h_i s a5 (h_ix x4)) s (fun p10 s9 =>
        if p10 = 0 then
          w_X1_partSize_50 Q x3 x4 s9
        else
          ∃ a12, r2 = some a12 ∧ h_k s9 a12 = 1 ∧ vp_in x4 (h_n s9 a12) ∧ ∃ a15, r2 = some a15 ∧ h_k s9 a15 = 1 ∧ vp_in (x4 - (1 : Int32)) (h_n s9 a15) ∧ (if (h_i s9 a12 (h_ix x4)) = ((h_i s9 a15 (h_ix (x4 - (1 : Int32)))) + (1 : Int32)) then
            K5 o0 x1 r2 x3 (x4 + (1 : Int32)) s9
          else
            w_X1_partSize_50 Q x3 x4 s9)))
def w_X1_partSize_5 (Q : Int32 → h_S → Prop) : Nat → Nat → Int32 → Option Nat → Int32 → Int32 → h_S → Prop
  | 0, _, _, _, _, _, _ => False
  | n + 1, o0, x1, r2, x3, x4, s => w_X1_partSize_5b Q (w_X1_partSize_5 Q n) o0 x1 r2 x3 x4 s
def w_X1_partSize (o0 : Nat) (x1 : Int32) (r2 : Option Nat) (x3 : Int32) (s : h_S) (Q : Int32 → h_S → Prop) : Prop :=
  ∃ n, w_X1_partSize_5 Q n o0 x1 r2 x3 (x3 + (1 : Int32)) s
def w_X1_partBehind (o0 : Nat) (x1 : Int32) (r2 : Option Nat) (x3 : Int32) (s : h_S) (Q : Int32 → h_S → Prop) : Prop :=
  h_k s o0 = 22 ∧ w_X1_partSize o0 x1 r2 x3 s (fun p3 s2 =>
    h_k s2 o0 = 22 ∧ w_X1_partFrom o0 x1 r2 (x3 + p3) s2 (fun p6 s5 =>
      Q p6 s5))
set_option maxRecDepth 100000 in
def w_X2_init (o0 : Nat) (x1 : Int32) (x2 : Int32) (x3 : Int32) (x4 : Int32) (x5 : Int32) (s : h_S) (Q : h_S → Prop) : Prop :=
  h_k s o0 = 23 ∧ let s2 : h_S := h_si s o0 0 x1
  let s3 : h_S := h_si s2 o0 1 x2
  let s4 : h_S := h_si s3 o0 2 x3
  let s5 : h_S := h_si s4 o0 3 x4
  let s6 : h_S := h_si s5 o0 4 x5
  Q s6
def w_X2_hasWords_20 (Q : Int32 → h_S → Prop) (y0 : Int32) (s : h_S) : Prop :=
  h_bt y0 ∧ Q y0 s
def w_X2_hasWords_15 (Q : Int32 → h_S → Prop) (s : h_S) : Prop :=
  w_X2_hasWords_20 Q (1 : Int32) s
def w_X2_hasWords (o0 : Nat) (s : h_S) (Q : Int32 → h_S → Prop) : Prop :=
  h_k s o0 = 23 ∧ (if (h_i s o0 0) = 0 then
    w_X2_hasWords_15 Q s
  else
    if (h_i s o0 0) = (1 : Int32) then
      w_X2_hasWords_15 Q s
    else
      w_X2_hasWords_20 Q (0 : Int32) s)
def w_X2_head (o0 : Nat) (x1 : Int32) (s : h_S) (mc ms : Nat) (Q : Option Nat → h_S → Prop) : Prop :=
  1 ≤ mc ∧ 5 ≤ ms ∧ ∀ q1 : Nat, h_k s q1 = 0 → let s5 : h_S := h_nw s q1 23 5
  let c6 : Nat := mc - 1
  let d7 : Nat := ms - 5
  h_k s5 o0 = 23 ∧ w_X2_init q1 (h_i s5 o0 0) (h_i s5 o0 1) x1 (h_i s5 o0 3) (h_i s5 o0 4) s5 (fun s9 =>
    Q (some q1) s9)
def w_X2_tail (o0 : Nat) (x1 : Int32) (s : h_S) (mc ms : Nat) (Q : Option Nat → h_S → Prop) : Prop :=
  1 ≤ mc ∧ 5 ≤ ms ∧ ∀ q1 : Nat, h_k s q1 = 0 → let s5 : h_S := h_nw s q1 23 5
  let c6 : Nat := mc - 1
  let d7 : Nat := ms - 5
  h_k s5 o0 = 23 ∧ w_X2_init q1 (h_i s5 o0 0) ((h_i s5 o0 1) + x1) ((h_i s5 o0 2) - x1) (h_i s5 o0 3) (h_i s5 o0 4) s5 (fun s9 =>
    Q (some q1) s9)
def w_X2_momentWithin_16 (Q : Int32 → h_S → Prop) (y0 : Int32) (s : h_S) : Prop :=
  Q y0 s
def w_X2_momentWithin (o0 : Nat) (x1 : Int32) (s : h_S) (Q : Int32 → h_S → Prop) : Prop :=
  h_k s o0 = 23 ∧ (if (h_i s o0 0) = (2 : Int32) then
    w_X2_momentWithin_16 Q (h_i s o0 4) s
  else
    w_X2_momentWithin_16 Q x1 s)
set_option maxRecDepth 100000 in
def w_X3_init (o0 : Nat) (x1 : Int32) (x2 : Int32) (s : h_S) (Q : h_S → Prop) : Prop :=
  h_k s o0 = 24 ∧ let s2 : h_S := h_si s o0 2 (2147483647 : Int32)
  let s3 : h_S := h_si s2 o0 7 (-9 : Int32)
  let s4 : h_S := h_si s3 o0 8 (0 : Int32)
  let s5 : h_S := h_si s4 o0 0 x1
  let s6 : h_S := h_si s5 o0 1 x2
  Q s6
def w_X3_hangOn (o0 : Nat) (r1 : Option Nat) (x2 : Int32) (x3 : Int32) (s : h_S) (Q : h_S → Prop) : Prop :=
  h_k s o0 = 24 ∧ let s2 : h_S := h_si s o0 3 ((8 : Int32) + x3)
  ∃ a3, r1 = some a3 ∧ h_k s2 a3 = 24 ∧ let s5 : h_S := h_si s2 o0 4 ((h_i s2 a3 4) &&& (-5 : Int32))
  ∃ a6, r1 = some a6 ∧ h_k s5 a6 = 24 ∧ let s8 : h_S := h_si s5 o0 5 (h_i s5 a6 5)
  ∃ a9, r1 = some a9 ∧ h_k s8 a9 = 24 ∧ let s11 : h_S := h_si s8 o0 6 (h_i s8 a9 6)
  let s12 : h_S := h_si s11 o0 7 x2
  Q s12
def w_X3_isLent_14 (Q : Int32 → h_S → Prop) (y0 : Int32) (s : h_S) : Prop :=
  h_bt y0 ∧ Q y0 s
def w_X3_isLent (o0 : Nat) (s : h_S) (Q : Int32 → h_S → Prop) : Prop :=
  h_k s o0 = 24 ∧ (if (h_i s o0 7) = (-9 : Int32) then
    w_X3_isLent_14 Q (0 : Int32) s
  else
    w_X3_isLent_14 Q (1 : Int32) s)
def w_X3_isThere_14 (Q : Int32 → h_S → Prop) (y0 : Int32) (s : h_S) : Prop :=
  h_bt y0 ∧ Q y0 s
def w_X3_isThere (o0 : Nat) (s : h_S) (Q : Int32 → h_S → Prop) : Prop :=
  h_k s o0 = 24 ∧ (if (h_i s o0 2) = (2147483647 : Int32) then
    w_X3_isThere_14 Q (1 : Int32) s
  else
    w_X3_isThere_14 Q (0 : Int32) s)
def w_X3_holdsAt_37 (Q : Int32 → h_S → Prop) (y0 : Int32) (s : h_S) : Prop :=
  h_bt y0 ∧ Q y0 s
def w_X3_holdsAt_36 (Q : Int32 → h_S → Prop) (s : h_S) : Prop :=
  w_X3_holdsAt_37 Q (0 : Int32) s
def w_X3_holdsAt (o0 : Nat) (x1 : Int32) (s : h_S) (Q : Int32 → h_S → Prop) : Prop :=
  h_k s o0 = 24 ∧ (if x1 < (h_i s o0 1) then
    w_X3_holdsAt_36 Q s
  else
    if (h_i s o0 2) ≤ x1 then
      w_X3_holdsAt_36 Q s
    else
      if x1 < (h_i s o0 5) then
        w_X3_holdsAt_36 Q s
      else
        if (h_i s o0 6) < x1 then
          w_X3_holdsAt_36 Q s
        else
          w_X3_holdsAt_37 Q (1 : Int32) s)
def w_X5_cellAt_19 (Q : Int32 → h_S → Prop) (y0 : Int32) (s : h_S) : Prop :=
  Q y0 s
def w_X5_cellAt (o0 : Nat) (x1 : Int32) (s : h_S) (Q : Int32 → h_S → Prop) : Prop :=
  w_X11_within x1 (60 : Int32) s (fun p2 s1 =>
    if p2 = 0 then
      w_X5_cellAt_19 Q (0 : Int32) s1
    else
      h_k s1 o0 = 26 ∧ ∃ a5, (h_r s1 o0 2) = some a5 ∧ h_k s1 a5 = 1 ∧ vp_in x1 (h_n s1 a5) ∧ w_X5_cellAt_19 Q (h_i s1 a5 (h_ix x1)) s1)
def w_X3_goesOnUses_65 (Q : Int32 → h_S → Prop) (s : h_S) : Prop :=
  Q 0 s
def w_X3_goesOnUses_51 (Q : Int32 → h_S → Prop) (o0 : Nat) (y0 : Int32) (s : h_S) : Prop :=
  if y0 = 0 then
    w_X3_goesOnUses_65 Q s
  else
    h_k s o0 = 24 ∧ (if ((h_i s o0 4) &&& y0) = 0 then
      let s4 : h_S := h_si s o0 4 ((h_i s o0 4) ||| y0)
      Q 1 s4
    else
      w_X3_goesOnUses_65 Q s)
def w_X3_goesOnUses_20 (Q : Int32 → h_S → Prop) (o0 : Nat) (x1 : Int32) (s : h_S) : Prop :=
  if x1 = (114 : Int32) then
    w_X3_goesOnUses_51 Q o0 (1 : Int32) s
  else
    if x1 = (113 : Int32) then
      w_X3_goesOnUses_51 Q o0 (2 : Int32) s
    else
      if x1 = (108 : Int32) then
        w_X3_goesOnUses_51 Q o0 (4 : Int32) s
      else
        w_X3_goesOnUses_51 Q o0 (0 : Int32) s
def w_X3_goesOnUses (o0 : Nat) (x1 : Int32) (s : h_S) (Q : Int32 → h_S → Prop) : Prop :=
  if x1 = (64 : Int32) then
    h_k s o0 = 24 ∧ (if (h_i s o0 4) = 0 then
      w_X3_goesOnUses_20 Q o0 x1 s
    else
      let s4 : h_S := h_si s o0 8 (3 : Int32)
      Q 1 s4)
  else
    w_X3_goesOnUses_20 Q o0 x1 s
def w_X3_goesOnNumber_53 (Q : Int32 → h_S → Prop) (s : h_S) : Prop :=
  Q 0 s
def w_X3_goesOnNumber_108 (Q : Int32 → h_S → Prop) (s : h_S) : Prop :=
  Q 1 s
def w_X3_goesOnNumber_33 (Q : Int32 → h_S → Prop) (o0 : Nat) (x1 : Int32) (s : h_S) : Prop :=
  w_X11_within (x1 - (48 : Int32)) (10 : Int32) s (fun p2 s1 =>
    if p2 = 0 then
      w_X3_goesOnNumber_53 Q s1
    else
      h_k s1 o0 = 24 ∧ (if (h_i s1 o0 9) < (4 : Int32) then
        let s6 : h_S := h_si s1 o0 9 ((h_i s1 o0 9) + (1 : Int32))
        (if (h_i s6 o0 8) = (3 : Int32) then
          let s9 : h_S := h_si s6 o0 5 ((((10 : Int32) * (h_i s6 o0 5)) + x1) - (48 : Int32))
          w_X3_goesOnNumber_108 Q s9
        else
          let s8 : h_S := h_si s6 o0 6 ((((10 : Int32) * (h_i s6 o0 6)) + x1) - (48 : Int32))
          w_X3_goesOnNumber_108 Q s8)
      else
        w_X3_goesOnNumber_53 Q s1))
def w_X3_goesOnNumber (o0 : Nat) (x1 : Int32) (s : h_S) (Q : Int32 → h_S → Prop) : Prop :=
  if x1 = (45 : Int32) then
    h_k s o0 = 24 ∧ (if (h_i s o0 8) = (3 : Int32) then
      if (h_i s o0 9) ≤ 0 then
        w_X3_goesOnNumber_33 Q o0 x1 s
      else
        let s5 : h_S := h_si s o0 8 (4 : Int32)
        let s6 : h_S := h_si s5 o0 9 (0 : Int32)
        Q 1 s6
    else
      w_X3_goesOnNumber_33 Q o0 x1 s)
  else
    w_X3_goesOnNumber_33 Q o0 x1 s
def w_X3_goesOn_70 (Q : Int32 → h_S → Prop) (y0 : Int32) (s : h_S) : Prop :=
  h_bt y0 ∧ Q y0 s
def w_X3_goesOn (o0 : Nat) (x1 : Int32) (s : h_S) (Q : Int32 → h_S → Prop) : Prop :=
  h_k s o0 = 24 ∧ (if (h_i s o0 8) = (0 : Int32) then
    let s3 : h_S := h_si s o0 3 (x1 - (48 : Int32))
    let s4 : h_S := h_si s3 o0 8 (1 : Int32)
    w_X11_within (h_i s4 o0 3) (4 : Int32) s4 (fun p6 s5 =>
      h_bt p6 ∧ Q p6 s5)
  else if (h_i s o0 8) = (1 : Int32) then
    let s8 : h_S := h_si s o0 8 (2 : Int32)
    (if x1 = (58 : Int32) then
      w_X3_goesOn_70 Q (1 : Int32) s8
    else
      w_X3_goesOn_70 Q (0 : Int32) s8)
  else if (h_i s o0 8) = (2 : Int32) then
    w_X3_goesOnUses o0 x1 s (fun p12 s11 =>
      h_bt p12 ∧ Q p12 s11)
  else 
    w_X3_goesOnNumber o0 x1 s (fun p14 s13 =>
      h_bt p14 ∧ Q p14 s13))
def w_X3_readText_54 (Q : Int32 → h_S → Prop) (y0 : Int32) (s : h_S) : Prop :=
  Q y0 s
def w_X3_readText_53 (Q : Int32 → h_S → Prop) (x3 : Int32) (s : h_S) : Prop :=
  w_X3_readText_54 Q x3 s
def w_X3_readText_3b (Q : Int32 → h_S → Prop) (K3 : Nat → Option Nat → Int32 → Int32 → Int32 → h_S → Prop) (o0 : Nat) (r1 : Option Nat) (x2 : Int32) (x3 : Int32) (x4 : Int32) (s : h_S) : Prop :=
  if x3 ≤ x4 then
    h_k s o0 = 24 ∧ (if (h_i s o0 8) = (4 : Int32) then
      if (h_i s o0 9) ≤ 0 then
        w_X3_readText_53 Q x3 s
      else
        w_X3_readText_54 Q (-9 : Int32) s
    else
      w_X3_readText_53 Q x3 s)
  else
    ∃ a5, r1 = some a5 ∧ h_k s a5 = 26 ∧ w_X5_cellAt a5 (x2 + x4) s (fun p8 s7 =>
      h_k s7 o0 = 24 ∧ w_X3_goesOn o0 p8 s7 (fun p11 s10 =>
        if p11 = 0 then
          Q x4 s10
        else
          K3 o0 r1 x2 x3 (x4 + (1 : Int32)) s10))
def w_X3_readText_3 (Q : Int32 → h_S → Prop) : Nat → Nat → Option Nat → Int32 → Int32 → Int32 → h_S → Prop
  | 0, _, _, _, _, _, _ => False
  | n + 1, o0, r1, x2, x3, x4, s => w_X3_readText_3b Q (w_X3_readText_3 Q n) o0 r1 x2 x3 x4 s
def w_X3_readText (o0 : Nat) (r1 : Option Nat) (x2 : Int32) (x3 : Int32) (s : h_S) (Q : Int32 → h_S → Prop) : Prop :=
  ∃ n, w_X3_readText_3 Q n o0 r1 x2 x3 (0 : Int32) s
set_option maxRecDepth 100000 in
def w_X4_init (o0 : Nat) (x1 : Int32) (r2 : Option Nat) (r3 : Option Nat) (s : h_S) (Q : h_S → Prop) : Prop :=
  h_k s o0 = 25 ∧ let s2 : h_S := h_si s o0 0 x1
  let s3 : h_S := h_sr s2 o0 1 r2
  let s4 : h_S := h_sr s3 o0 2 r3
  Q s4
set_option maxRecDepth 100000 in
def w_X5_init (o0 : Nat) (s : h_S) (mc ms : Nat) (Q : h_S → Prop) : Prop :=
  h_k s o0 = 26 ∧ let s2 : h_S := h_si s o0 1 (-1 : Int32)
  1 ≤ mc ∧ 60 ≤ ms ∧ ∀ q3 : Nat, h_k s2 q3 = 0 → let s7 : h_S := h_nw s2 q3 1 60
  let c8 : Nat := mc - 1
  let d9 : Nat := ms - 60
  h_k s7 o0 = 26 ∧ let s11 : h_S := h_sr s7 o0 2 (some q3)
  Q s11
def w_X5_isNothing_13 (Q : Int32 → h_S → Prop) (y0 : Int32) (s : h_S) : Prop :=
  h_bt y0 ∧ Q y0 s
def w_X5_isNothing (o0 : Nat) (s : h_S) (Q : Int32 → h_S → Prop) : Prop :=
  h_k s o0 = 26 ∧ (if (h_i s o0 1) = (-1 : Int32) then
    w_X5_isNothing_13 Q (1 : Int32) s
  else
    w_X5_isNothing_13 Q (0 : Int32) s)
def w_J7_fill_53178_5b (Q : h_S → Prop) (K5 : Option Nat → Int32 → Int32 → Int32 → h_S → Prop) (r0 : Option Nat) (x1 : Int32) (x2 : Int32) (x3 : Int32) (s : h_S) : Prop :=
  if x3 ≤ x2 then
    Q s
  else
    ∃ a2, r0 = some a2 ∧ h_k s a2 = 1 ∧ vp_in x2 (h_n s a2) ∧ let s5 : h_S := h_si s a2 (h_ix x2) x1
    K5 r0 x1 (x2 + (1 : Int32)) x3 s5
def w_J7_fill_53178_5 (Q : h_S → Prop) : Nat → Option Nat → Int32 → Int32 → Int32 → h_S → Prop
  | 0, _, _, _, _, _ => False
  | n + 1, r0, x1, x2, x3, s => w_J7_fill_53178_5b Q (w_J7_fill_53178_5 Q n) r0 x1 x2 x3 s
def w_J7_fill_53178 (r0 : Option Nat) (x1 : Int32) (s : h_S) (Q : h_S → Prop) : Prop :=
  ∃ a1, r0 = some a1 ∧ h_k s a1 = 1 ∧ ∃ n, w_J7_fill_53178_5 Q n r0 x1 (0 : Int32) (Int32.ofNat (h_n s a1)) s
def w_X5_renew (o0 : Nat) (x1 : Int32) (x2 : Int32) (s : h_S) (Q : h_S → Prop) : Prop :=
  h_k s o0 = 26 ∧ let s2 : h_S := h_si s o0 0 x1
  let s3 : h_S := h_si s2 o0 1 x2
  w_J7_fill_53178 (h_r s3 o0 2) (0 : Int32) s3 (fun s4 =>
    Q s4)
def w_X5_hasCells_31 (Q : Int32 → h_S → Prop) (y0 : Int32) (s : h_S) : Prop :=
  h_bt y0 ∧ Q y0 s
def w_X5_hasCells_30 (Q : Int32 → h_S → Prop) (s : h_S) : Prop :=
  w_X5_hasCells_31 Q (0 : Int32) s
def w_X5_hasCells (o0 : Nat) (x1 : Int32) (x2 : Int32) (s : h_S) (Q : Int32 → h_S → Prop) : Prop :=
  if x2 < 0 then
    w_X5_hasCells_30 Q s
  else
    if x1 < 0 then
      w_X5_hasCells_30 Q s
    else
      h_k s o0 = 26 ∧ (if (h_i s o0 1) < x1 then
        w_X5_hasCells_30 Q s
      else
        if ((h_i s o0 1) - x1) < x2 then
          w_X5_hasCells_30 Q s
        else
          w_X5_hasCells_31 Q (1 : Int32) s)
def w_X5_faultOf_39 (Q : Int32 → h_S → Prop) (y0 : Int32) (s : h_S) : Prop :=
  Q y0 s
def w_X5_faultOf (o0 : Nat) (x1 : Int32) (x2 : Int32) (x3 : Int32) (s : h_S) (Q : Int32 → h_S → Prop) : Prop :=
  h_k s o0 = 26 ∧ w_X5_isNothing o0 s (fun p3 s2 =>
    if p3 = 0 then
      h_k s2 o0 = 26 ∧ (if x1 = (h_i s2 o0 0) then
        if 0 ≤ x3 then
          w_X5_hasCells o0 x2 x3 s2 (fun p9 s8 =>
            if p9 = 0 then
              w_X5_faultOf_39 Q (3 : Int32) s8
            else
              w_X5_faultOf_39 Q (0 : Int32) s8)
        else
          Q (4 : Int32) s2
      else
        Q (2 : Int32) s2)
    else
      Q (1 : Int32) s2)
def w_X5_write_41 (Q : h_S → Prop) (s : h_S) : Prop :=
  Q s
def w_X5_write_40 (Q : h_S → Prop) (y0 : Int32) (y1 : Int32) (t2 : Option Nat) (s : h_S) : Prop :=
  ∃ a1, t2 = some a1 ∧ h_k s a1 = 1 ∧ vp_in y1 (h_n s a1) ∧ let s4 : h_S := h_si s a1 (h_ix y1) y0
  w_X5_write_41 Q s4
def w_X5_write (o0 : Nat) (x1 : Int32) (x2 : Int32) (s : h_S) (Q : h_S → Prop) : Prop :=
  w_X11_within x1 (60 : Int32) s (fun p2 s1 =>
    if p2 = 0 then
      w_X5_write_41 Q s1
    else
      h_k s1 o0 = 26 ∧ (if (h_i s1 o0 0) = 0 then
        w_X5_write_40 Q ((x2).toInt8.toInt32) x1 (h_r s1 o0 2) s1
      else
        if (h_i s1 o0 0) = (1 : Int32) then
          w_X5_write_40 Q ((x2).toInt16.toInt32) x1 (h_r s1 o0 2) s1
        else
          w_X5_write_40 Q x2 x1 (h_r s1 o0 2) s1))
def w_X5_areCodes_29 (Q : Int32 → h_S → Prop) (s : h_S) : Prop :=
  Q 0 s
def w_X5_areCodes_2b (Q : Int32 → h_S → Prop) (K2 : Nat → Int32 → Int32 → Int32 → h_S → Prop) (o0 : Nat) (x1 : Int32) (x2 : Int32) (x3 : Int32) (s : h_S) : Prop :=
  if x2 ≤ x3 then
    Q 1 s
  else
    h_k s o0 = 26 ∧ w_X5_cellAt o0 (x1 + x3) s (fun p4 s3 =>
      if p4 < (1 : Int32) then
        w_X5_areCodes_29 Q s3
      else
        if p4 ≤ (99 : Int32) then
          K2 o0 x1 x2 (x3 + (1 : Int32)) s3
        else
          w_X5_areCodes_29 Q s3)
def w_X5_areCodes_2 (Q : Int32 → h_S → Prop) : Nat → Nat → Int32 → Int32 → Int32 → h_S → Prop
  | 0, _, _, _, _, _ => False
  | n + 1, o0, x1, x2, x3, s => w_X5_areCodes_2b Q (w_X5_areCodes_2 Q n) o0 x1 x2 x3 s
def w_X5_areCodes (o0 : Nat) (x1 : Int32) (x2 : Int32) (s : h_S) (Q : Int32 → h_S → Prop) : Prop :=
  ∃ n, w_X5_areCodes_2 Q n o0 x1 x2 (0 : Int32) s
set_option maxRecDepth 100000 in
def w_X6_init (o0 : Nat) (s : h_S) (mc ms : Nat) (Q : h_S → Prop) : Prop :=
  h_k s o0 = 27 ∧ let s2 : h_S := h_si s o0 0 (-9 : Int32)
  1 ≤ mc ∧ 0 ≤ ms ∧ ∀ q3 : Nat, h_k s2 q3 = 0 → let s7 : h_S := h_nw s2 q3 1 0
  let c8 : Nat := mc - 1
  let d9 : Nat := ms - 0
  h_k s7 o0 = 27 ∧ let s11 : h_S := h_sr s7 o0 2 (some q3)
  Q s11
def w_X6_keep_32 (Q : h_S → Prop) (o0 : Nat) (x1 : Int32) (r2 : Option Nat) (x3 : Int32) (s : h_S) (bc bs : Nat) : Prop :=
  h_k s o0 = 27 ∧ ∃ a2, (h_r s o0 2) = some a2 ∧ h_k s a2 = 1 ∧ ∃ a4, r2 = some a4 ∧ h_k s a4 = 1 ∧ ¬ (0 : Int32) < 0 ∧ ¬ (0 : Int32) < 0 ∧ ¬ x3 < 0 ∧ h_ix (0 : Int32) + h_ix x3 ≤ h_n s a4 ∧ h_ix (0 : Int32) + h_ix x3 ≤ h_n s a2 ∧ let s11 : h_S := h_cp s a4 (h_ix (0 : Int32)) a2 (h_ix (0 : Int32)) (h_ix x3)
  let s12 : h_S := h_si s11 o0 1 x3
  let s13 : h_S := h_si s12 o0 0 x1
  Q s13
def w_X6_keep (o0 : Nat) (x1 : Int32) (r2 : Option Nat) (x3 : Int32) (s : h_S) (mc ms : Nat) (Q : h_S → Prop) : Prop :=
  h_k s o0 = 27 ∧ ∃ a2, (h_r s o0 2) = some a2 ∧ h_k s a2 = 1 ∧ (if x3 ≤ (Int32.ofNat (h_n s a2)) then
    w_X6_keep_32 Q o0 x1 r2 x3 s mc ms
  else
    ∃ a5, (h_r s o0 2) = some a5 ∧ h_k s a5 = 1 ∧ ¬ (h_min (300 : Int32) (h_max x3 ((2 : Int32) * (Int32.ofNat (h_n s a5))))) < 0 ∧ h_ix (h_min (300 : Int32) (h_max x3 ((2 : Int32) * (Int32.ofNat (h_n s a5))))) * 4 ≤ 536870912 ∧ 1 ≤ mc ∧ (h_ix (h_min (300 : Int32) (h_max x3 ((2 : Int32) * (Int32.ofNat (h_n s a5)))))) ≤ ms ∧ ∀ q7 : Nat, h_k s q7 = 0 → let s13 : h_S := h_nw s q7 1 (h_ix (h_min (300 : Int32) (h_max x3 ((2 : Int32) * (Int32.ofNat (h_n s a5))))))
    let c14 : Nat := mc - 1
    let d15 : Nat := ms - (h_ix (h_min (300 : Int32) (h_max x3 ((2 : Int32) * (Int32.ofNat (h_n s a5))))))
    h_k s13 o0 = 27 ∧ let s17 : h_S := h_sr s13 o0 2 (some q7)
    w_X6_keep_32 Q o0 x1 r2 x3 s17 c14 d15)
def w_Jxa1e45_init_da8c8 (o0 : Nat) (s : h_S) (Q : h_S → Prop) : Prop :=
  Q s
def w_Jxc12de_init_da8c8 (o0 : Nat) (s : h_S) (Q : h_S → Prop) : Prop :=
  w_Jxa1e45_init_da8c8 o0 s (fun s1 =>
    h_k s1 o0 = 20 ∧ let s4 : h_S := h_si s1 o0 0 (0 : Int32)
    Q s4)
def w_Jx4a65c_init_da8c8 (g : h_G) (o0 : Nat) (s : h_S) (Q : h_S → Prop) : Prop :=
  w_Jxc12de_init_da8c8 o0 s (fun s1 =>
    h_k s1 o0 = 20 ∧ let s4 : h_S := h_sr s1 o0 1 (some g.1)
    Q s4)
set_option maxRecDepth 100000 in
def w_X7_init (g : h_G) (o0 : Nat) (s : h_S) (mc ms : Nat) (Q : h_S → Prop) : Prop :=
  1 ≤ mc ∧ 12 ≤ ms ∧ ∀ q1 : Nat, h_k s q1 = 0 → let s5 : h_S := h_nw s q1 1 12
  let c6 : Nat := mc - 1
  let d7 : Nat := ms - 12
  h_k s5 o0 = 28 ∧ let s9 : h_S := h_sr s5 o0 1 (some q1)
  1 ≤ c6 ∧ 12 ≤ d7 ∧ ∀ q10 : Nat, h_k s9 q10 = 0 → let s14 : h_S := h_nw s9 q10 4 12
  let c15 : Nat := c6 - 1
  let d16 : Nat := d7 - 12
  h_k s14 o0 = 28 ∧ let s18 : h_S := h_sr s14 o0 2 (some q10)
  1 ≤ c15 ∧ 0 ≤ d16 ∧ ∀ q19 : Nat, h_k s18 q19 = 0 → let s23 : h_S := h_nw s18 q19 3 0
  let c24 : Nat := c15 - 1
  let d25 : Nat := d16 - 0
  h_k s23 o0 = 28 ∧ let s27 : h_S := h_sr s23 o0 3 (some q19)
  1 ≤ c24 ∧ 3 ≤ d25 ∧ ∀ q28 : Nat, h_k s27 q28 = 0 → let s32 : h_S := h_nw s27 q28 20 3
  let c33 : Nat := c24 - 1
  let d34 : Nat := d25 - 3
  w_Jx4a65c_init_da8c8 g q28 s32 (fun s35 =>
    h_k s35 o0 = 28 ∧ let s38 : h_S := h_sr s35 o0 4 (some q28)
    1 ≤ c33 ∧ 8 ≤ d34 ∧ ∀ q39 : Nat, h_k s38 q39 = 0 → let s43 : h_S := h_nw s38 q39 1 8
    let c44 : Nat := c33 - 1
    let d45 : Nat := d34 - 8
    h_k s43 o0 = 28 ∧ let s47 : h_S := h_sr s43 o0 5 (some q39)
    1 ≤ c44 ∧ 1024 ≤ d45 ∧ ∀ q48 : Nat, h_k s47 q48 = 0 → let s52 : h_S := h_nw s47 q48 6 1024
    let c53 : Nat := c44 - 1
    let d54 : Nat := d45 - 1024
    h_k s52 o0 = 28 ∧ let s56 : h_S := h_sr s52 o0 6 (some q48)
    6 ≤ c53 ∧ 1505 ≤ d54 ∧ ∀ (q57 : Nat) (j58 : Nat → Nat), h_k s56 q57 = 0 → (∀ i, i < 5 → h_k s56 (j58 i) = 0 ∧ j58 i ≠ q57) → (∀ i j, i < 5 → j < 5 → j58 i = j58 j → i = j) → let s64 : h_S := h_mn s56 q57 j58 300 5 5
    let c65 : Nat := c53 - 6
    let d66 : Nat := d54 - 1505
    h_k s64 o0 = 28 ∧ let s68 : h_S := h_sr s64 o0 7 (some q57)
    1 ≤ c65 ∧ 32 ≤ d66 ∧ ∀ q69 : Nat, h_k s68 q69 = 0 → let s73 : h_S := h_nw s68 q69 3 32
    let c74 : Nat := c65 - 1
    let d75 : Nat := d66 - 32
    h_k s73 o0 = 28 ∧ let s77 : h_S := h_sr s73 o0 8 (some q69)
    1 ≤ c74 ∧ 32 ≤ d75 ∧ ∀ q78 : Nat, h_k s77 q78 = 0 → let s82 : h_S := h_nw s77 q78 3 32
    let c83 : Nat := c74 - 1
    let d84 : Nat := d75 - 32
    h_k s82 o0 = 28 ∧ let s86 : h_S := h_sr s82 o0 10 (some q78)
    1 ≤ c83 ∧ 6 ≤ d84 ∧ ∀ q87 : Nat, h_k s86 q87 = 0 → let s91 : h_S := h_nw s86 q87 1 6
    let c92 : Nat := c83 - 1
    let d93 : Nat := d84 - 6
    h_k s91 o0 = 28 ∧ let s95 : h_S := h_sr s91 o0 12 (some q87)
    Q s95)
def w_X7_isFull_14 (Q : Int32 → h_S → Prop) (y0 : Int32) (s : h_S) : Prop :=
  h_bt y0 ∧ Q y0 s
def w_X7_isFull (o0 : Nat) (s : h_S) (Q : Int32 → h_S → Prop) : Prop :=
  h_k s o0 = 28 ∧ (if (h_i s o0 0) < (12 : Int32) then
    w_X7_isFull_14 Q (0 : Int32) s
  else
    w_X7_isFull_14 Q (1 : Int32) s)
def w_X7_begin (o0 : Nat) (x1 : Int32) (x2 : Int32) (s : h_S) (mc ms : Nat) (Q : Int32 → h_S → Prop) : Prop :=
  h_k s o0 = 28 ∧ w_X7_isFull o0 s (fun p3 s2 =>
    if p3 = 0 then
      h_k s2 o0 = 28 ∧ ∃ a6, (h_r s2 o0 1) = some a6 ∧ h_k s2 a6 = 1 ∧ vp_in (h_i s2 o0 0) (h_n s2 a6) ∧ let s9 : h_S := h_si s2 a6 (h_ix (h_i s2 o0 0)) x1
      1 ≤ mc ∧ 3 ≤ ms ∧ ∀ q10 : Nat, h_k s9 q10 = 0 → let s14 : h_S := h_nw s9 q10 25 3
      let c15 : Nat := mc - 1
      let d16 : Nat := ms - 3
      h_k s14 o0 = 28 ∧ w_X4_init q10 x2 (h_r s14 o0 3) (none : Option Nat) s14 (fun s18 =>
        ∃ a20, (h_r s9 o0 2) = some a20 ∧ h_k s18 a20 = 4 ∧ vp_in (h_i s9 o0 0) (h_n s18 a20) ∧ h_k s18 q10 = 25 ∧ let s24 : h_S := h_sr s18 a20 (h_ix (h_i s9 o0 0)) (some q10)
        h_k s24 o0 = 28 ∧ let s26 : h_S := h_si s24 o0 0 ((h_i s24 o0 0) + (1 : Int32))
        Q ((h_i s26 o0 0) - (1 : Int32)) s26)
    else
      Q (-4 : Int32) s2)
def w_X7_ownerOf_22 (Q : Int32 → h_S → Prop) (y0 : Int32) (s : h_S) : Prop :=
  Q y0 s
def w_X7_ownerOf (o0 : Nat) (x1 : Int32) (s : h_S) (Q : Int32 → h_S → Prop) : Prop :=
  h_k s o0 = 28 ∧ w_X11_within x1 (h_i s o0 0) s (fun p3 s2 =>
    if p3 = 0 then
      w_X7_ownerOf_22 Q (-9 : Int32) s2
    else
      h_k s2 o0 = 28 ∧ ∃ a6, (h_r s2 o0 1) = some a6 ∧ h_k s2 a6 = 1 ∧ vp_in x1 (h_n s2 a6) ∧ w_X7_ownerOf_22 Q (h_i s2 a6 (h_ix x1)) s2)
def w_Jx4a65c_size_8abf5 (o0 : Nat) (s : h_S) (Q : Int32 → h_S → Prop) : Prop :=
  h_k s o0 = 20 ∧ Q (h_i s o0 2) s
def w_X7_wordCount (o0 : Nat) (s : h_S) (Q : Int32 → h_S → Prop) : Prop :=
  h_k s o0 = 28 ∧ ∃ a2, (h_r s o0 4) = some a2 ∧ h_k s a2 = 20 ∧ w_Jx4a65c_size_8abf5 a2 s (fun p5 s4 =>
    Q p5 s4)
def w_J3_checkIndex_8e157_9 (Q : Int32 → h_S → Prop) (x0 : Int32) (x1 : Int32) (r2 : Option Nat) (s : h_S) : Prop :=
  False
def w_J3_checkIndex_8e157 (x0 : Int32) (x1 : Int32) (r2 : Option Nat) (s : h_S) (Q : Int32 → h_S → Prop) : Prop :=
  if x0 < 0 then
    w_J3_checkIndex_8e157_9 Q x0 x1 r2 s
  else
    if x0 < x1 then
      Q x0 s
    else
      w_J3_checkIndex_8e157_9 Q x0 x1 r2 s
def w_J15_checkIndex_7cf53 (x0 : Int32) (x1 : Int32) (s : h_S) (Q : Int32 → h_S → Prop) : Prop :=
  w_J3_checkIndex_8e157 x0 x1 (none : Option Nat) s (fun p2 s1 =>
    Q p2 s1)
def w_Jx4a65c_elementData_915e3 (o0 : Nat) (x1 : Int32) (s : h_S) (Q : Option Nat → h_S → Prop) : Prop :=
  h_k s o0 = 20 ∧ ∃ a2, (h_r s o0 1) = some a2 ∧ h_k s a2 = 7 ∧ vp_in x1 (h_n s a2) ∧ Q (h_r s a2 (h_ix x1)) s
def w_Jx4a65c_get_915e3 (o0 : Nat) (x1 : Int32) (s : h_S) (Q : Option Nat → h_S → Prop) : Prop :=
  h_k s o0 = 20 ∧ w_J15_checkIndex_7cf53 x1 (h_i s o0 2) s (fun p3 s2 =>
    h_k s2 o0 = 20 ∧ w_Jx4a65c_elementData_915e3 o0 x1 s2 (fun p6 s5 =>
      Q p6 s5))
def w_X7_wordAt_29 (Q : Option Nat → h_S → Prop) (t0 : Option Nat) (s : h_S) : Prop :=
  Q t0 s
def w_X7_wordAt (o0 : Nat) (x1 : Int32) (s : h_S) (Q : Option Nat → h_S → Prop) : Prop :=
  h_k s o0 = 28 ∧ ∃ a2, (h_r s o0 4) = some a2 ∧ h_k s a2 = 20 ∧ w_Jx4a65c_size_8abf5 a2 s (fun p5 s4 =>
    w_X11_within x1 p5 s4 (fun p7 s6 =>
      if p7 = 0 then
        w_X7_wordAt_29 Q (none : Option Nat) s6
      else
        h_k s6 o0 = 28 ∧ ∃ a10, (h_r s6 o0 4) = some a10 ∧ h_k s6 a10 = 20 ∧ w_Jx4a65c_get_915e3 a10 x1 s6 (fun p13 s12 =>
          (∀ x, p13 = some x → h_k s12 x = 31) ∧ w_X7_wordAt_29 Q p13 s12)))
set_option maxRecDepth 100000 in
def w_X10_init (o0 : Nat) (x1 : Int32) (x2 : Int32) (x3 : Int32) (x4 : Int32) (x5 : Int32) (s : h_S) (Q : h_S → Prop) : Prop :=
  h_k s o0 = 31 ∧ let s2 : h_S := h_si s o0 0 x1
  let s3 : h_S := h_si s2 o0 1 x2
  let s4 : h_S := h_si s3 o0 2 x3
  let s5 : h_S := h_si s4 o0 3 x4
  let s6 : h_S := h_si s5 o0 4 x5
  Q s6
def w_J8_hugeLength_7cf53 (x0 : Int32) (x1 : Int32) (s : h_S) (mc ms : Nat) (Q : Int32 → h_S → Prop) : Prop :=
  if 0 ≤ (x0 + x1) then
    if (2147483639 : Int32) < (x0 + x1) then
      Q (x0 + x1) s
    else
      Q (2147483639 : Int32) s
  else
    False
def w_J8_newLength_cabcc_21 (Q : Int32 → h_S → Prop) (x0 : Int32) (x1 : Int32) (s : h_S) (bc bs : Nat) : Prop :=
  ∃ mc3 ms4 : Nat, mc3 ≤ bc ∧ ms4 ≤ bs ∧ w_J8_hugeLength_7cf53 x0 x1 s mc3 ms4 (fun p2 s1 =>
    Q p2 s1)
def w_J8_newLength_cabcc (x0 : Int32) (x1 : Int32) (x2 : Int32) (s : h_S) (mc ms : Nat) (Q : Int32 → h_S → Prop) : Prop :=
  if (x0 + (h_max x1 x2)) ≤ (0 : Int32) then
    w_J8_newLength_cabcc_21 Q x0 x1 s mc ms
  else
    if (2147483639 : Int32) < (x0 + (h_max x1 x2)) then
      w_J8_newLength_cabcc_21 Q x0 x1 s mc ms
    else
      Q (x0 + (h_max x1 x2)) s
def w_J7_copyOf_6403c (g : h_G) (r0 : Option Nat) (x1 : Int32) (r2 : Option Nat) (s : h_S) (mc ms : Nat) (Q : Option Nat → h_S → Prop) : Prop :=
  if r2 = (some g.2.2) then
    ¬ x1 < 0 ∧ h_ix x1 * 4 ≤ 536870912 ∧ 1 ≤ mc ∧ (h_ix x1) ≤ ms ∧ ∀ q2 : Nat, h_k s q2 = 0 → let s8 : h_S := h_nw s q2 7 (h_ix x1)
    let c9 : Nat := mc - 1
    let d10 : Nat := ms - (h_ix x1)
    (r0 = some g.1 ∨ ∃ a, r0 = some a ∧ h_k s8 a = 7) ∧ h_k s8 q2 = 7 ∧ ∃ a13, r0 = some a13 ∧ h_k s8 a13 = 7 ∧ ¬ (0 : Int32) < 0 ∧ ¬ (0 : Int32) < 0 ∧ ¬ (h_min (h_ln7 g s8 r0) x1) < 0 ∧ h_ix (0 : Int32) + h_ix (h_min (h_ln7 g s8 r0) x1) ≤ h_n s8 a13 ∧ h_ix (0 : Int32) + h_ix (h_min (h_ln7 g s8 r0) x1) ≤ h_n s8 q2 ∧ (∀ i, i < h_ix (h_min (h_ln7 g s8 r0) x1) → ∀ y, h_r s8 a13 (h_ix (0 : Int32) + i) = some y → 20 ≤ h_k s8 y ∧ h_k s8 y < 34) ∧ let s21 : h_S := h_cpR s8 a13 (h_ix (0 : Int32)) q2 (h_ix (0 : Int32)) (h_ix (h_min (h_ln7 g s8 r0) x1))
    Q (some q2) s21
  else
    False
def w_J7_copyOf_1904c (g : h_G) (r0 : Option Nat) (x1 : Int32) (s : h_S) (mc ms : Nat) (Q : Option Nat → h_S → Prop) : Prop :=
  ∃ a1, r0 = some a1 ∧ h_k s a1 = 7 ∧ ∃ mc5 ms6 : Nat, mc5 ≤ mc ∧ ms6 ≤ ms ∧ w_J7_copyOf_6403c g r0 x1 (some g.2.2) s mc5 ms6 (fun p4 s3 =>
    Q p4 s3)
def w_Jx4a65c_grow_92f84_20 (g : h_G) (Q : Option Nat → h_S → Prop) (o0 : Nat) (x1 : Int32) (x2 : Int32) (s : h_S) (bc bs : Nat) : Prop :=
  ∃ mc3 ms4 : Nat, mc3 ≤ bc ∧ ms4 ≤ bs ∧ w_J8_newLength_cabcc x2 (x1 - x2) (x2 >>> ((1 : Int32) &&& 31)) s mc3 ms4 (fun p2 s1 =>
    h_k s1 o0 = 20 ∧ ∃ mc10 ms11 : Nat, mc10 ≤ (bc - mc3) ∧ ms11 ≤ (bs - ms4) ∧ w_J7_copyOf_1904c g (h_r s1 o0 1) p2 s1 mc10 ms11 (fun p9 s8 =>
      h_k s8 o0 = 20 ∧ let s15 : h_S := h_sr s8 o0 1 p9
      Q p9 s15))
def w_Jx4a65c_grow_92f84 (g : h_G) (o0 : Nat) (x1 : Int32) (s : h_S) (mc ms : Nat) (Q : Option Nat → h_S → Prop) : Prop :=
  h_k s o0 = 20 ∧ ((h_r s o0 1) = some g.1 ∨ ∃ a, (h_r s o0 1) = some a ∧ h_k s a = 7) ∧ (if 0 < (h_ln7 g s (h_r s o0 1)) then
    w_Jx4a65c_grow_92f84_20 g Q o0 x1 (h_ln7 g s (h_r s o0 1)) s mc ms
  else
    if (h_r s o0 1) = (some g.1) then
      ¬ (h_max (10 : Int32) x1) < 0 ∧ h_ix (h_max (10 : Int32) x1) * 4 ≤ 536870912 ∧ 1 ≤ mc ∧ (h_ix (h_max (10 : Int32) x1)) ≤ ms ∧ ∀ q5 : Nat, h_k s q5 = 0 → let s11 : h_S := h_nw s q5 7 (h_ix (h_max (10 : Int32) x1))
      let c12 : Nat := mc - 1
      let d13 : Nat := ms - (h_ix (h_max (10 : Int32) x1))
      h_k s11 o0 = 20 ∧ let s15 : h_S := h_sr s11 o0 1 (some q5)
      Q (some q5) s15
    else
      w_Jx4a65c_grow_92f84_20 g Q o0 x1 (h_ln7 g s (h_r s o0 1)) s mc ms)
def w_Jx4a65c_grow_d5877 (g : h_G) (o0 : Nat) (s : h_S) (mc ms : Nat) (Q : Option Nat → h_S → Prop) : Prop :=
  h_k s o0 = 20 ∧ ∃ mc4 ms5 : Nat, mc4 ≤ mc ∧ ms5 ≤ ms ∧ w_Jx4a65c_grow_92f84 g o0 ((h_i s o0 2) + (1 : Int32)) s mc4 ms5 (fun p3 s2 =>
    Q p3 s2)
def w_Jx4a65c_add_72be8_11 (g : h_G) (Q : h_S → Prop) (o0 : Nat) (r1 : Option Nat) (r2 : Option Nat) (x3 : Int32) (s : h_S) (bc bs : Nat) : Prop :=
  ∃ a1, r2 = some a1 ∧ h_k s a1 = 7 ∧ vp_in x3 (h_n s a1) ∧ ∃ a4, r1 = some a4 ∧ (20 ≤ h_k s a4 ∧ h_k s a4 < 34) ∧ let s6 : h_S := h_sr s a1 (h_ix x3) (some a4)
  h_k s6 o0 = 20 ∧ let s8 : h_S := h_si s6 o0 2 (x3 + (1 : Int32))
  Q s8
def w_Jx4a65c_add_72be8 (g : h_G) (o0 : Nat) (r1 : Option Nat) (r2 : Option Nat) (x3 : Int32) (s : h_S) (mc ms : Nat) (Q : h_S → Prop) : Prop :=
  (r2 = some g.1 ∨ ∃ a, r2 = some a ∧ h_k s a = 7) ∧ (if x3 = (h_ln7 g s r2) then
    h_k s o0 = 20 ∧ ∃ mc6 ms7 : Nat, mc6 ≤ mc ∧ ms7 ≤ ms ∧ w_Jx4a65c_grow_d5877 g o0 s mc6 ms7 (fun p5 s4 =>
      w_Jx4a65c_add_72be8_11 g Q o0 r1 p5 x3 s4 (mc - mc6) (ms - ms7))
  else
    w_Jx4a65c_add_72be8_11 g Q o0 r1 r2 x3 s mc ms)
def w_Jx4a65c_add_9ea2d (g : h_G) (o0 : Nat) (r1 : Option Nat) (s : h_S) (mc ms : Nat) (Q : Int32 → h_S → Prop) : Prop :=
  h_k s o0 = 20 ∧ let s2 : h_S := h_si s o0 0 ((h_i s o0 0) + (1 : Int32))
  ∃ mc5 ms6 : Nat, mc5 ≤ mc ∧ ms6 ≤ ms ∧ w_Jx4a65c_add_72be8 g o0 r1 (h_r s2 o0 1) (h_i s2 o0 2) s2 mc5 ms6 (fun s3 =>
    Q 1 s3)
def w_X7_addWord_55 (g : h_G) (Q : h_S → Prop) (s : h_S) (bc bs : Nat) : Prop :=
  Q s
def w_X7_addWord (g : h_G) (o0 : Nat) (x1 : Int32) (x2 : Int32) (x3 : Int32) (s : h_S) (mc ms : Nat) (Q : h_S → Prop) : Prop :=
  h_k s o0 = 28 ∧ w_X7_ownerOf o0 x2 s (fun p3 s2 =>
    w_X11_within p3 (8 : Int32) s2 (fun p5 s4 =>
      if p5 = 0 then
        w_X7_addWord_55 g Q s4 mc ms
      else
        h_k s4 o0 = 28 ∧ 1 ≤ mc ∧ 5 ≤ ms ∧ ∀ q8 : Nat, h_k s4 q8 = 0 → let s12 : h_S := h_nw s4 q8 31 5
        let c13 : Nat := mc - 1
        let d14 : Nat := ms - 5
        h_k s12 o0 = 28 ∧ ∃ a16, (h_r s12 o0 5) = some a16 ∧ h_k s12 a16 = 1 ∧ vp_in p3 (h_n s12 a16) ∧ w_X10_init q8 x1 p3 x2 x3 (h_i s12 a16 (h_ix p3)) s12 (fun s19 =>
          ∃ a21, (h_r s4 o0 4) = some a21 ∧ h_k s19 a21 = 20 ∧ ∃ mc25 ms26 : Nat, mc25 ≤ c13 ∧ ms26 ≤ d14 ∧ w_Jx4a65c_add_9ea2d g a21 (some q8) s19 mc25 ms26 (fun p24 s23 =>
            h_k s23 o0 = 28 ∧ ∃ a30, (h_r s23 o0 5) = some a30 ∧ h_k s23 a30 = 1 ∧ vp_in p3 (h_n s23 a30) ∧ ∃ a33, (h_r s23 o0 5) = some a33 ∧ h_k s23 a33 = 1 ∧ vp_in p3 (h_n s23 a33) ∧ let s36 : h_S := h_si s23 a33 (h_ix p3) ((h_i s23 a30 (h_ix p3)) + (1 : Int32))
            w_X7_addWord_55 g Q s36 (c13 - mc25) (d14 - ms26)))))
def w_X7_areWords_38 (Q : Int32 → h_S → Prop) (y0 : Int32) (s : h_S) : Prop :=
  h_bt y0 ∧ Q y0 s
def w_X7_areWords_37 (Q : Int32 → h_S → Prop) (s : h_S) : Prop :=
  w_X7_areWords_38 Q (0 : Int32) s
def w_X7_areWords (o0 : Nat) (x1 : Int32) (x2 : Int32) (s : h_S) (Q : Int32 → h_S → Prop) : Prop :=
  if x1 < 0 then
    w_X7_areWords_37 Q s
  else
    if x2 < (1 : Int32) then
      w_X7_areWords_37 Q s
    else
      h_k s o0 = 28 ∧ ∃ a4, (h_r s o0 4) = some a4 ∧ h_k s a4 = 20 ∧ w_Jx4a65c_size_8abf5 a4 s (fun p7 s6 =>
        if p7 ≤ x1 then
          w_X7_areWords_37 Q s6
        else
          h_k s6 o0 = 28 ∧ ∃ a10, (h_r s6 o0 4) = some a10 ∧ h_k s6 a10 = 20 ∧ w_Jx4a65c_size_8abf5 a10 s6 (fun p13 s12 =>
            if (p13 - x1) < x2 then
              w_X7_areWords_37 Q s12
            else
              w_X7_areWords_38 Q (1 : Int32) s12))
def w_X7_codeOf_19 (Q : Int32 → h_S → Prop) (y0 : Int32) (s : h_S) : Prop :=
  Q y0 s
def w_X7_codeOf (o0 : Nat) (x1 : Int32) (s : h_S) (Q : Int32 → h_S → Prop) : Prop :=
  h_k s o0 = 28 ∧ w_X7_wordAt o0 x1 s (fun p3 s2 =>
    if p3 = none then
      w_X7_codeOf_19 Q (-9 : Int32) s2
    else
      ∃ a5, p3 = some a5 ∧ h_k s2 a5 = 31 ∧ w_X7_codeOf_19 Q (h_i s2 a5 0) s2)
def w_X7_handOf_19 (Q : Int32 → h_S → Prop) (y0 : Int32) (s : h_S) : Prop :=
  Q y0 s
def w_X7_handOf (o0 : Nat) (x1 : Int32) (s : h_S) (Q : Int32 → h_S → Prop) : Prop :=
  h_k s o0 = 28 ∧ w_X7_wordAt o0 x1 s (fun p3 s2 =>
    if p3 = none then
      w_X7_handOf_19 Q (-9 : Int32) s2
    else
      ∃ a5, p3 = some a5 ∧ h_k s2 a5 = 31 ∧ w_X7_handOf_19 Q (h_i s2 a5 1) s2)
def w_X7_isIn_27 (Q : Int32 → h_S → Prop) (y0 : Int32) (s : h_S) : Prop :=
  h_bt y0 ∧ Q y0 s
def w_X7_isIn_26 (Q : Int32 → h_S → Prop) (s : h_S) : Prop :=
  w_X7_isIn_27 Q (0 : Int32) s
def w_X7_isIn (o0 : Nat) (x1 : Int32) (x2 : Int32) (s : h_S) (Q : Int32 → h_S → Prop) : Prop :=
  h_k s o0 = 28 ∧ w_X7_wordAt o0 x1 s (fun p3 s2 =>
    if p3 = none then
      w_X7_isIn_26 Q s2
    else
      ∃ a5, p3 = some a5 ∧ h_k s2 a5 = 31 ∧ (if ((x2 >>> ((h_i s2 a5 2) &&& 31)) &&& (1 : Int32)) = (1 : Int32) then
        w_X7_isIn_27 Q (1 : Int32) s2
      else
        w_X7_isIn_26 Q s2))
def w_X7_homesOf_36 (Q : Int32 → h_S → Prop) (K5 : Nat → Int32 → Int32 → Int32 → Int32 → h_S → Prop) (o0 : Nat) (x1 : Int32) (x2 : Int32) (x3 : Int32) (x4 : Int32) (s : h_S) : Prop :=
  K5 o0 x1 x2 x3 (x4 + (1 : Int32)) s
def w_X7_homesOf_5b (Q : Int32 → h_S → Prop) (K5 : Nat → Int32 → Int32 → Int32 → Int32 → h_S → Prop) (o0 : Nat) (x1 : Int32) (x2 : Int32) (x3 : Int32) (x4 : Int32) (s : h_S) : Prop :=
  if x2 ≤ x4 then
    Q x3 s
  else
    h_k s o0 = 28 ∧ w_X7_wordAt o0 (x1 + x4) s (fun p4 s3 =>
      if p4 = none then
        w_X7_homesOf_36 Q K5 o0 x1 x2 x3 x4 s3
      else
        ∃ a6, p4 = some a6 ∧ h_k s3 a6 = 31 ∧ let v8 : Int32 := (x3 ||| ((1 : Int32) <<< ((h_i s3 a6 2) &&& 31)))
        w_X7_homesOf_36 Q K5 o0 x1 x2 v8 x4 s3)
def w_X7_homesOf_5 (Q : Int32 → h_S → Prop) : Nat → Nat → Int32 → Int32 → Int32 → Int32 → h_S → Prop
  | 0, _, _, _, _, _, _ => False
  | n + 1, o0, x1, x2, x3, x4, s => w_X7_homesOf_5b Q (w_X7_homesOf_5 Q n) o0 x1 x2 x3 x4 s
def w_X7_homesOf (o0 : Nat) (x1 : Int32) (x2 : Int32) (s : h_S) (Q : Int32 → h_S → Prop) : Prop :=
  ∃ n, w_X7_homesOf_5 Q n o0 x1 x2 (0 : Int32) (0 : Int32) s
def w_X7_codesAlike_3b (Q : Int32 → h_S → Prop) (K3 : Nat → Int32 → Int32 → Int32 → Int32 → h_S → Prop) (o0 : Nat) (x1 : Int32) (x2 : Int32) (x3 : Int32) (x4 : Int32) (s : h_S) : Prop :=
  if x3 ≤ x4 then
    Q 1 s
  else
    h_k s o0 = 28 ∧ w_X7_codeOf o0 (x1 + x4) s (fun p4 s3 =>
      h_k s3 o0 = 28 ∧ w_X7_codeOf o0 (x2 + x4) s3 (fun p7 s6 =>
        if p4 = p7 then
          K3 o0 x1 x2 x3 (x4 + (1 : Int32)) s6
        else
          Q 0 s6))
def w_X7_codesAlike_3 (Q : Int32 → h_S → Prop) : Nat → Nat → Int32 → Int32 → Int32 → Int32 → h_S → Prop
  | 0, _, _, _, _, _, _ => False
  | n + 1, o0, x1, x2, x3, x4, s => w_X7_codesAlike_3b Q (w_X7_codesAlike_3 Q n) o0 x1 x2 x3 x4 s
def w_X7_codesAlike (o0 : Nat) (x1 : Int32) (x2 : Int32) (x3 : Int32) (s : h_S) (Q : Int32 → h_S → Prop) : Prop :=
  ∃ n, w_X7_codesAlike_3 Q n o0 x1 x2 x3 (0 : Int32) s
def w_X7_piecesAsOf_43 (Q : Option Nat → h_S → Prop) (o0 : Nat) (s : h_S) : Prop :=
  h_k s o0 = 28 ∧ Q (h_r s o0 3) s
def w_X7_piecesAsOf_18b (Q : Option Nat → h_S → Prop) (K18 : Nat → Int32 → Option Nat → h_S → Prop) (o0 : Nat) (x2 : Int32) (r3 : Option Nat) (s : h_S) : Prop :=
  if r3 = none then
    w_X7_piecesAsOf_43 Q o0 s
  else
    ∃ a2, r3 = some a2 ∧ h_k s a2 = 25 ∧ (if x2 < (h_i s a2 0) then
      ∃ a5, r3 = some a5 ∧ h_k s a5 = 25 ∧ K18 o0 x2 (h_r s a5 2) s
    else
      ∃ a7, r3 = some a7 ∧ h_k s a7 = 25 ∧ Q (h_r s a7 1) s)
def w_X7_piecesAsOf_18 (Q : Option Nat → h_S → Prop) : Nat → Nat → Int32 → Option Nat → h_S → Prop
  | 0, _, _, _, _ => False
  | n + 1, o0, x2, r3, s => w_X7_piecesAsOf_18b Q (w_X7_piecesAsOf_18 Q n) o0 x2 r3 s
def w_X7_piecesAsOf (o0 : Nat) (x1 : Int32) (x2 : Int32) (s : h_S) (Q : Option Nat → h_S → Prop) : Prop :=
  h_k s o0 = 28 ∧ w_X11_within x1 (h_i s o0 0) s (fun p3 s2 =>
    if p3 = 0 then
      w_X7_piecesAsOf_43 Q o0 s2
    else
      h_k s2 o0 = 28 ∧ ∃ a6, (h_r s2 o0 2) = some a6 ∧ h_k s2 a6 = 4 ∧ vp_in x1 (h_n s2 a6) ∧ ∃ n, w_X7_piecesAsOf_18 Q n o0 x2 (h_r s2 a6 (h_ix x1)) s2)
def w_X7_pieceCount_34 (Q : Int32 → h_S → Prop) (y0 : Int32) (s : h_S) : Prop :=
  Q y0 s
def w_X7_pieceCount_33 (Q : Int32 → h_S → Prop) (s : h_S) : Prop :=
  w_X7_pieceCount_34 Q (0 : Int32) s
def w_X7_pieceCount (o0 : Nat) (x1 : Int32) (s : h_S) (Q : Int32 → h_S → Prop) : Prop :=
  h_k s o0 = 28 ∧ w_X11_within x1 (h_i s o0 0) s (fun p3 s2 =>
    if p3 = 0 then
      w_X7_pieceCount_33 Q s2
    else
      h_k s2 o0 = 28 ∧ ∃ a6, (h_r s2 o0 2) = some a6 ∧ h_k s2 a6 = 4 ∧ vp_in x1 (h_n s2 a6) ∧ (if (h_r s2 a6 (h_ix x1)) = none then
        w_X7_pieceCount_33 Q s2
      else
        ∃ a10, (h_r s2 o0 2) = some a10 ∧ h_k s2 a10 = 4 ∧ vp_in x1 (h_n s2 a10) ∧ ∃ a13, (h_r s2 a10 (h_ix x1)) = some a13 ∧ h_k s2 a13 = 25 ∧ ∃ a15, (h_r s2 a13 1) = some a15 ∧ h_k s2 a15 = 3 ∧ w_X7_pieceCount_34 Q (Int32.ofNat (h_n s2 a15)) s2))
def w_X7_pieceAt_27 (Q : Option Nat → h_S → Prop) (t0 : Option Nat) (s : h_S) : Prop :=
  Q t0 s
def w_X7_pieceAt (o0 : Nat) (x1 : Int32) (x2 : Int32) (s : h_S) (Q : Option Nat → h_S → Prop) : Prop :=
  h_k s o0 = 28 ∧ w_X7_pieceCount o0 x1 s (fun p3 s2 =>
    w_X11_within x2 p3 s2 (fun p5 s4 =>
      if p5 = 0 then
        w_X7_pieceAt_27 Q (none : Option Nat) s4
      else
        h_k s4 o0 = 28 ∧ ∃ a8, (h_r s4 o0 2) = some a8 ∧ h_k s4 a8 = 4 ∧ vp_in x1 (h_n s4 a8) ∧ ∃ a11, (h_r s4 a8 (h_ix x1)) = some a11 ∧ h_k s4 a11 = 25 ∧ ∃ a13, (h_r s4 a11 1) = some a13 ∧ h_k s4 a13 = 3 ∧ vp_in x2 (h_n s4 a13) ∧ w_X7_pieceAt_27 Q (h_r s4 a13 (h_ix x2)) s4))
def w_X7_stretch_35 (Q : Int32 → h_S → Prop) (y0 : Int32) (s : h_S) : Prop :=
  Q y0 s
def w_X7_stretch_18 (Q : Int32 → h_S → Prop) (r0 : Option Nat) (y0 : Int32) (s : h_S) : Prop :=
  ∃ a1, r0 = some a1 ∧ h_k s a1 = 23 ∧ (if (h_i s a1 2) ≤ y0 then
    ∃ a4, r0 = some a4 ∧ h_k s a4 = 23 ∧ w_X7_stretch_35 Q (h_i s a4 2) s
  else
    w_X7_stretch_35 Q y0 s)
def w_X7_stretch (r0 : Option Nat) (x1 : Int32) (s : h_S) (Q : Int32 → h_S → Prop) : Prop :=
  ∃ a1, r0 = some a1 ∧ h_k s a1 = 23 ∧ (if x1 ≤ (h_i s a1 1) then
    w_X7_stretch_18 Q r0 (0 : Int32) s
  else
    ∃ a4, r0 = some a4 ∧ h_k s a4 = 23 ∧ w_X7_stretch_18 Q r0 (x1 - (h_i s a4 1)) s)
def w_X7_lay_37b (C : Nat → Int32 → Int32 → Int32 → h_S → Nat → Nat → (Option Nat → h_S → Prop) → Prop) (Q : Int32 → h_S → Prop) (K37 : Option Nat → Int32 → Option Nat → Int32 → Int32 → h_S → Nat → Nat → Prop) (r1 : Option Nat) (x4 : Int32) (r5 : Option Nat) (x7 : Int32) (x8 : Int32) (s : h_S) (bc bs : Nat) : Prop :=
  if x7 ≤ x8 then
    Q (x4 + x7) s
  else
    ∃ a2, r1 = some a2 ∧ h_k s a2 = 23 ∧ ∃ a4, r5 = some a4 ∧ h_k s a4 = 1 ∧ vp_in (x4 + x8) (h_n s a4) ∧ let s7 : h_S := h_si s a4 (h_ix (x4 + x8)) ((h_i s a2 1) + x8)
    K37 r1 x4 r5 x7 (x8 + (1 : Int32)) s7 bc bs
def w_X7_lay_37 (C : Nat → Int32 → Int32 → Int32 → h_S → Nat → Nat → (Option Nat → h_S → Prop) → Prop) (Q : Int32 → h_S → Prop) : Nat → Option Nat → Int32 → Option Nat → Int32 → Int32 → h_S → Nat → Nat → Prop
  | 0, _, _, _, _, _, _, _, _ => False
  | n + 1, r1, x4, r5, x7, x8, s, bc, bs => w_X7_lay_37b C Q (w_X7_lay_37 C Q n) r1 x4 r5 x7 x8 s bc bs
def w_X7_lay_145 (C : Nat → Int32 → Int32 → Int32 → h_S → Nat → Nat → (Option Nat → h_S → Prop) → Prop) (Q : Int32 → h_S → Prop) (x4 : Int32) (x8 : Int32) (s : h_S) (bc bs : Nat) : Prop :=
  Q (x4 + x8) s
def wx_X7_lay (C : Nat → Int32 → Int32 → Int32 → h_S → Nat → Nat → (Option Nat → h_S → Prop) → Prop) (o0 : Nat) (r1 : Option Nat) (x2 : Int32) (x3 : Int32) (x4 : Int32) (s : h_S) (mc ms : Nat) (Q : Int32 → h_S → Prop) : Prop :=
  h_k s o0 = 28 ∧ ∃ a2, (h_r s o0 7) = some a2 ∧ h_k s a2 = 8 ∧ vp_in x3 (h_n s a2) ∧ ∃ a5, r1 = some a5 ∧ h_k s a5 = 23 ∧ w_X2_hasWords a5 s (fun p8 s7 =>
    if p8 = 0 then
      if x3 < (4 : Int32) then
        ∃ a11, r1 = some a11 ∧ h_k s7 a11 = 23 ∧ ∃ a13, r1 = some a13 ∧ h_k s7 a13 = 23 ∧ w_X2_momentWithin a13 x2 s7 (fun p16 s15 =>
          h_k s15 o0 = 28 ∧ ∃ mc20 ms21 : Nat, mc20 ≤ mc ∧ ms21 ≤ ms ∧ C o0 (h_i s7 a11 3) p16 (x3 + (1 : Int32)) s15 mc20 ms21 (fun p19 s18 =>
            ∃ a24, p19 = some a24 ∧ h_k s18 a24 = 27 ∧ w_X7_stretch r1 (h_i s18 a24 1) s18 (fun p27 s26 =>
              let v28 : Int32 := (h_min ((300 : Int32) - x4) p27)
              (if v28 ≤ 0 then
                w_X7_lay_145 C Q x4 v28 s26 (mc - mc20) (ms - ms21)
              else
                ∃ a30, p19 = some a30 ∧ h_k s26 a30 = 27 ∧ ∃ a32, r1 = some a32 ∧ h_k s26 a32 = 23 ∧ ∃ a34, (h_r s a2 (h_ix x3)) = some a34 ∧ h_k s26 a34 = 1 ∧ ∃ a36, (h_r s26 a30 2) = some a36 ∧ h_k s26 a36 = 1 ∧ ¬ (h_i s26 a32 1) < 0 ∧ ¬ x4 < 0 ∧ ¬ v28 < 0 ∧ h_ix (h_i s26 a32 1) + h_ix v28 ≤ h_n s26 a36 ∧ h_ix x4 + h_ix v28 ≤ h_n s26 a34 ∧ let s43 : h_S := h_cp s26 a36 (h_ix (h_i s26 a32 1)) a34 (h_ix x4) (h_ix v28)
                w_X7_lay_145 C Q x4 v28 s43 (mc - mc20) (ms - ms21)))))
      else
        ∃ a44, (h_r s a2 (h_ix x3)) = some a44 ∧ h_k s7 a44 = 1 ∧ vp_in x4 (h_n s7 a44) ∧ let s47 : h_S := h_si s7 a44 (h_ix x4) (-7 : Int32)
        Q (x4 + (1 : Int32)) s47
    else
      ∃ a48, r1 = some a48 ∧ h_k s7 a48 = 23 ∧ let v50 : Int32 := (h_min ((300 : Int32) - x4) (h_i s7 a48 2))
      ∃ n, w_X7_lay_37 C Q n r1 x4 (h_r s a2 (h_ix x3)) v50 (0 : Int32) s7 mc ms)
def w_X7_shownOf_144 (C : Nat → Int32 → Int32 → Int32 → h_S → Nat → Nat → (Option Nat → h_S → Prop) → Prop) (Q : Option Nat → h_S → Prop) (r6 : Option Nat) (s : h_S) (bc bs : Nat) : Prop :=
  Q r6 s
def w_X7_shownOf_128 (C : Nat → Int32 → Int32 → Int32 → h_S → Nat → Nat → (Option Nat → h_S → Prop) → Prop) (Q : Option Nat → h_S → Prop) (o0 : Nat) (x4 : Int32) (r6 : Option Nat) (x7 : Int32) (x9 : Int32) (s : h_S) (bc bs : Nat) : Prop :=
  h_k s o0 = 28 ∧ ∃ a2, (h_r s o0 7) = some a2 ∧ h_k s a2 = 8 ∧ vp_in x7 (h_n s a2) ∧ ∃ a5, r6 = some a5 ∧ h_k s a5 = 27 ∧ ∃ mc9 ms10 : Nat, mc9 ≤ bc ∧ ms10 ≤ bs ∧ w_X6_keep a5 x4 (h_r s a2 (h_ix x7)) x9 s mc9 ms10 (fun s7 =>
    w_X7_shownOf_144 C Q r6 s7 (bc - mc9) (bs - ms10))
def w_X7_shownOf_90b (C : Nat → Int32 → Int32 → Int32 → h_S → Nat → Nat → (Option Nat → h_S → Prop) → Prop) (Q : Option Nat → h_S → Prop) (K90 : Nat → Int32 → Int32 → Option Nat → Int32 → Option Nat → Int32 → Int32 → h_S → Nat → Nat → Prop) (o0 : Nat) (x2 : Int32) (x4 : Int32) (r6 : Option Nat) (x7 : Int32) (r8 : Option Nat) (x9 : Int32) (x10 : Int32) (s : h_S) (bc bs : Nat) : Prop :=
  ∃ a1, r8 = some a1 ∧ h_k s a1 = 3 ∧ (if (Int32.ofNat (h_n s a1)) ≤ x10 then
    w_X7_shownOf_128 C Q o0 x4 r6 x7 x9 s bc bs
  else
    if (300 : Int32) ≤ x9 then
      w_X7_shownOf_128 C Q o0 x4 r6 x7 x9 s bc bs
    else
      ∃ a5, r8 = some a5 ∧ h_k s a5 = 3 ∧ vp_in x10 (h_n s a5) ∧ h_k s o0 = 28 ∧ ∃ mc11 ms12 : Nat, mc11 ≤ bc ∧ ms12 ≤ bs ∧ wx_X7_lay C o0 (h_r s a5 (h_ix x10)) x2 x7 x9 s mc11 ms12 (fun p10 s9 =>
        K90 o0 x2 x4 r6 x7 r8 p10 (x10 + (1 : Int32)) s9 (bc - mc11) (bs - ms12)))
def w_X7_shownOf_90 (C : Nat → Int32 → Int32 → Int32 → h_S → Nat → Nat → (Option Nat → h_S → Prop) → Prop) (Q : Option Nat → h_S → Prop) : Nat → Nat → Int32 → Int32 → Option Nat → Int32 → Option Nat → Int32 → Int32 → h_S → Nat → Nat → Prop
  | 0, _, _, _, _, _, _, _, _, _, _, _ => False
  | n + 1, o0, x2, x4, r6, x7, r8, x9, x10, s, bc, bs => w_X7_shownOf_90b C Q (w_X7_shownOf_90 C Q n) o0 x2 x4 r6 x7 r8 x9 x10 s bc bs
def w_X7_shownOf_46 (C : Nat → Int32 → Int32 → Int32 → h_S → Nat → Nat → (Option Nat → h_S → Prop) → Prop) (Q : Option Nat → h_S → Prop) (o0 : Nat) (x1 : Int32) (x2 : Int32) (x3 : Int32) (x4 : Int32) (x5 : Int32) (s : h_S) (bc bs : Nat) : Prop :=
  h_k s o0 = 28 ∧ ∃ a2, (h_r s o0 6) = some a2 ∧ h_k s a2 = 6 ∧ vp_in x5 (h_n s a2) ∧ ∃ a5, (h_r s a2 (h_ix x5)) = some a5 ∧ h_k s a5 = 27 ∧ (if (h_i s a5 0) = x4 then
    w_X7_shownOf_144 C Q (h_r s a2 (h_ix x5)) s bc bs
  else
    let v8 : Int32 := (h_max (0 : Int32) (h_min x3 (4 : Int32)))
    w_X7_piecesAsOf o0 x1 x2 s (fun p10 s9 =>
      ∃ n, w_X7_shownOf_90 C Q n o0 x2 x4 (h_r s a2 (h_ix x5)) v8 p10 (0 : Int32) (0 : Int32) s9 bc bs))
def wx_X7_shownOf (C : Nat → Int32 → Int32 → Int32 → h_S → Nat → Nat → (Option Nat → h_S → Prop) → Prop) (o0 : Nat) (x1 : Int32) (x2 : Int32) (x3 : Int32) (s : h_S) (mc ms : Nat) (Q : Option Nat → h_S → Prop) : Prop :=
  let v1 : Int32 := ((((x2 * (12 : Int32)) + x1) * (5 : Int32)) + x3)
  let v2 : Int32 := (h_ushr (v1 * (-1640531535 : Int32)) (22 : Int32))
  h_k s o0 = 28 ∧ ∃ a4, (h_r s o0 6) = some a4 ∧ h_k s a4 = 6 ∧ vp_in v2 (h_n s a4) ∧ (if (h_r s a4 (h_ix v2)) = none then
    1 ≤ mc ∧ 3 ≤ ms ∧ ∀ q8 : Nat, h_k s q8 = 0 → let s12 : h_S := h_nw s q8 27 3
    let c13 : Nat := mc - 1
    let d14 : Nat := ms - 3
    ∃ mc17 ms18 : Nat, mc17 ≤ c13 ∧ ms18 ≤ d14 ∧ w_X6_init q8 s12 mc17 ms18 (fun s15 =>
      ∃ a21, (h_r s o0 6) = some a21 ∧ h_k s15 a21 = 6 ∧ vp_in v2 (h_n s15 a21) ∧ h_k s15 q8 = 27 ∧ let s25 : h_S := h_sr s15 a21 (h_ix v2) (some q8)
      w_X7_shownOf_46 C Q o0 x1 x2 x3 v1 v2 s25 (c13 - mc17) (d14 - ms18))
  else
    w_X7_shownOf_46 C Q o0 x1 x2 x3 v1 v2 s mc ms)
def w_X7_shownOf : Nat → Nat → Int32 → Int32 → Int32 → h_S → Nat → Nat → (Option Nat → h_S → Prop) → Prop
  | 0, _, _, _, _, _, _, _, _ => False
  | d + 1, o0, x1, x2, x3, s, mc, ms, Q => wx_X7_shownOf (w_X7_shownOf d) o0 x1 x2 x3 s mc ms Q
def w_X7_sizeAsOf (o0 : Nat) (x1 : Int32) (x2 : Int32) (s : h_S) (mc ms : Nat) (Q : Int32 → h_S → Prop) : Prop :=
  h_k s o0 = 28 ∧ ∃ mc4 ms5 : Nat, mc4 ≤ mc ∧ ms5 ≤ ms ∧ w_X7_shownOf 6 o0 x1 x2 (0 : Int32) s mc4 ms5 (fun p3 s2 =>
    ∃ a8, p3 = some a8 ∧ h_k s2 a8 = 27 ∧ Q (h_i s2 a8 1) s2)
def w_X7_sizeOf (o0 : Nat) (r1 : Option Nat) (x2 : Int32) (x3 : Int32) (s : h_S) (mc ms : Nat) (Q : Int32 → h_S → Prop) : Prop :=
  ∃ a1, r1 = some a1 ∧ h_k s a1 = 23 ∧ w_X2_hasWords a1 s (fun p4 s3 =>
    if p4 = 0 then
      if x3 < (4 : Int32) then
        ∃ a7, r1 = some a7 ∧ h_k s3 a7 = 23 ∧ ∃ a9, r1 = some a9 ∧ h_k s3 a9 = 23 ∧ w_X2_momentWithin a9 x2 s3 (fun p12 s11 =>
          h_k s11 o0 = 28 ∧ ∃ mc16 ms17 : Nat, mc16 ≤ mc ∧ ms17 ≤ ms ∧ w_X7_shownOf 6 o0 (h_i s3 a7 3) p12 (x3 + (1 : Int32)) s11 mc16 ms17 (fun p15 s14 =>
            ∃ a20, p15 = some a20 ∧ h_k s14 a20 = 27 ∧ w_X7_stretch r1 (h_i s14 a20 1) s14 (fun p23 s22 =>
              Q p23 s22)))
      else
        Q (1 : Int32) s3
    else
      ∃ a24, r1 = some a24 ∧ h_k s3 a24 = 23 ∧ Q (h_i s3 a24 2) s3)
def w_X7_layOut_55 (Q : h_S → Prop) (s : h_S) : Prop :=
  Q s
def w_X7_layOut_7b (Q : h_S → Prop) (K7 : Nat → Int32 → Int32 → h_S → Prop) (o0 : Nat) (x1 : Int32) (x2 : Int32) (s : h_S) : Prop :=
  h_k s o0 = 28 ∧ w_X7_pieceCount o0 x1 s (fun p3 s2 =>
    if p3 ≤ x2 then
      w_X7_layOut_55 Q s2
    else
      if (24 : Int32) ≤ x2 then
        w_X7_layOut_55 Q s2
      else
        h_k s2 o0 = 28 ∧ ∃ a7, (h_r s2 o0 2) = some a7 ∧ h_k s2 a7 = 4 ∧ vp_in x1 (h_n s2 a7) ∧ ∃ a10, (h_r s2 a7 (h_ix x1)) = some a10 ∧ h_k s2 a10 = 25 ∧ ∃ a12, (h_r s2 a10 1) = some a12 ∧ h_k s2 a12 = 3 ∧ vp_in x2 (h_n s2 a12) ∧ ∃ a15, (h_r s2 o0 8) = some a15 ∧ h_k s2 a15 = 3 ∧ vp_in x2 (h_n s2 a15) ∧ (∀ x, (h_r s2 a12 (h_ix x2)) = some x → h_k s2 x = 23) ∧ let s19 : h_S := h_sr s2 a15 (h_ix x2) (h_r s2 a12 (h_ix x2))
        let s20 : h_S := h_si s19 o0 9 ((h_i s19 o0 9) + (1 : Int32))
        K7 o0 x1 (x2 + (1 : Int32)) s20)
def w_X7_layOut_7 (Q : h_S → Prop) : Nat → Nat → Int32 → Int32 → h_S → Prop
  | 0, _, _, _, _ => False
  | n + 1, o0, x1, x2, s => w_X7_layOut_7b Q (w_X7_layOut_7 Q n) o0 x1 x2 s
def w_X7_layOut (o0 : Nat) (x1 : Int32) (s : h_S) (Q : h_S → Prop) : Prop :=
  h_k s o0 = 28 ∧ let s2 : h_S := h_si s o0 9 (0 : Int32)
  ∃ n, w_X7_layOut_7 Q n o0 x1 (0 : Int32) s2
def w_X7_insert_21 (Q : h_S → Prop) (s : h_S) : Prop :=
  Q s
def w_X7_insert_27b (Q : h_S → Prop) (K27 : Nat → Int32 → Option Nat → Int32 → h_S → Prop) (o0 : Nat) (x1 : Int32) (r2 : Option Nat) (x3 : Int32) (s : h_S) : Prop :=
  if x3 ≤ x1 then
    h_k s o0 = 28 ∧ ∃ a3, (h_r s o0 8) = some a3 ∧ h_k s a3 = 3 ∧ vp_in x1 (h_n s a3) ∧ (∀ x, r2 = some x → h_k s x = 23) ∧ let s7 : h_S := h_sr s a3 (h_ix x1) r2
    let s8 : h_S := h_si s7 o0 9 ((h_i s7 o0 9) + (1 : Int32))
    Q s8
  else
    h_k s o0 = 28 ∧ ∃ a10, (h_r s o0 8) = some a10 ∧ h_k s a10 = 3 ∧ vp_in (x3 - (1 : Int32)) (h_n s a10) ∧ ∃ a13, (h_r s o0 8) = some a13 ∧ h_k s a13 = 3 ∧ vp_in x3 (h_n s a13) ∧ (∀ x, (h_r s a10 (h_ix (x3 - (1 : Int32)))) = some x → h_k s x = 23) ∧ let s17 : h_S := h_sr s a13 (h_ix x3) (h_r s a10 (h_ix (x3 - (1 : Int32))))
    K27 o0 x1 r2 (x3 + (-1 : Int32)) s17
def w_X7_insert_27 (Q : h_S → Prop) : Nat → Nat → Int32 → Option Nat → Int32 → h_S → Prop
  | 0, _, _, _, _, _ => False
  | n + 1, o0, x1, r2, x3, s => w_X7_insert_27b Q (w_X7_insert_27 Q n) o0 x1 r2 x3 s
def w_X7_insert (o0 : Nat) (x1 : Int32) (r2 : Option Nat) (s : h_S) (Q : h_S → Prop) : Prop :=
  h_k s o0 = 28 ∧ (if (32 : Int32) ≤ (h_i s o0 9) then
    w_X7_insert_21 Q s
  else
    if x1 < 0 then
      w_X7_insert_21 Q s
    else
      if x1 ≤ (h_i s o0 9) then
        ∃ n, w_X7_insert_27 Q n o0 x1 r2 (h_i s o0 9) s
      else
        w_X7_insert_21 Q s)
def w_X7_layRuns_74 (Q : h_S → Prop) (K10 : Nat → Option Nat → Int32 → Int32 → Int32 → h_S → Nat → Nat → Prop) (o0 : Nat) (r1 : Option Nat) (x2 : Int32) (x3 : Int32) (x4 : Int32) (s : h_S) (bc bs : Nat) : Prop :=
  K10 o0 r1 x2 x3 (x4 + (1 : Int32)) s bc bs
def w_X7_layRuns_44 (Q : h_S → Prop) (K10 : Nat → Option Nat → Int32 → Int32 → Int32 → h_S → Nat → Nat → Prop) (o0 : Nat) (r1 : Option Nat) (x2 : Int32) (x3 : Int32) (x4 : Int32) (s : h_S) (bc bs : Nat) : Prop :=
  h_k s o0 = 28 ∧ 1 ≤ bc ∧ 5 ≤ bs ∧ ∀ q2 : Nat, h_k s q2 = 0 → let s6 : h_S := h_nw s q2 23 5
  let c7 : Nat := bc - 1
  let d8 : Nat := bs - 5
  ∃ a9, r1 = some a9 ∧ h_k s6 a9 = 1 ∧ vp_in x3 (h_n s6 a9) ∧ w_X2_init q2 (1 : Int32) (h_i s6 a9 (h_ix x3)) (x4 - x3) (-9 : Int32) (-9 : Int32) s6 (fun s12 =>
    h_k s12 o0 = 28 ∧ w_X7_insert o0 (h_i s o0 9) (some q2) s12 (fun s15 =>
      w_X7_layRuns_74 Q K10 o0 r1 x2 x4 x4 s15 c7 d8))
def w_X7_layRuns_80 (Q : h_S → Prop) (s : h_S) (bc bs : Nat) : Prop :=
  Q s
def w_X7_layRuns_10b (Q : h_S → Prop) (K10 : Nat → Option Nat → Int32 → Int32 → Int32 → h_S → Nat → Nat → Prop) (o0 : Nat) (r1 : Option Nat) (x2 : Int32) (x3 : Int32) (x4 : Int32) (s : h_S) (bc bs : Nat) : Prop :=
  if x2 < x4 then
    w_X7_layRuns_80 Q s bc bs
  else
    ∃ a2, r1 = some a2 ∧ h_k s a2 = 1 ∧ (if (Int32.ofNat (h_n s a2)) < x4 then
      w_X7_layRuns_80 Q s bc bs
    else
      if x4 = x2 then
        w_X7_layRuns_44 Q K10 o0 r1 x2 x3 x4 s bc bs
      else
        ∃ a6, r1 = some a6 ∧ h_k s a6 = 1 ∧ vp_in x4 (h_n s a6) ∧ ∃ a9, r1 = some a9 ∧ h_k s a9 = 1 ∧ vp_in (x4 - (1 : Int32)) (h_n s a9) ∧ (if (h_i s a6 (h_ix x4)) = ((h_i s a9 (h_ix (x4 - (1 : Int32)))) + (1 : Int32)) then
          w_X7_layRuns_74 Q K10 o0 r1 x2 x3 x4 s bc bs
        else
          w_X7_layRuns_44 Q K10 o0 r1 x2 x3 x4 s bc bs))
def w_X7_layRuns_10 (Q : h_S → Prop) : Nat → Nat → Option Nat → Int32 → Int32 → Int32 → h_S → Nat → Nat → Prop
  | 0, _, _, _, _, _, _, _, _ => False
  | n + 1, o0, r1, x2, x3, x4, s, bc, bs => w_X7_layRuns_10b Q (w_X7_layRuns_10 Q n) o0 r1 x2 x3 x4 s bc bs
def w_X7_layRuns (o0 : Nat) (r1 : Option Nat) (x2 : Int32) (s : h_S) (mc ms : Nat) (Q : h_S → Prop) : Prop :=
  h_k s o0 = 28 ∧ let s2 : h_S := h_si s o0 9 (0 : Int32)
  ∃ n, w_X7_layRuns_10 Q n o0 r1 x2 (0 : Int32) (1 : Int32) s2 mc ms
def w_X7_partAt (o0 : Nat) (x1 : Int32) (x2 : Int32) (s : h_S) (mc ms : Nat) (Q : Int32 → h_S → Prop) : Prop :=
  h_k s o0 = 28 ∧ ∃ a2, (h_r s o0 8) = some a2 ∧ h_k s a2 = 3 ∧ vp_in x1 (h_n s a2) ∧ ∃ a5, (h_r s a2 (h_ix x1)) = some a5 ∧ h_k s a5 = 23 ∧ ∃ mc9 ms10 : Nat, mc9 ≤ mc ∧ ms10 ≤ ms ∧ w_X2_head a5 x2 s mc9 ms10 (fun p8 s7 =>
    ∃ a13, (h_r s o0 8) = some a13 ∧ h_k s7 a13 = 3 ∧ vp_in x1 (h_n s7 a13) ∧ (∀ x, p8 = some x → h_k s7 x = 23) ∧ let s17 : h_S := h_sr s7 a13 (h_ix x1) p8
    ∃ a18, (h_r s a2 (h_ix x1)) = some a18 ∧ h_k s17 a18 = 23 ∧ ∃ mc22 ms23 : Nat, mc22 ≤ (mc - mc9) ∧ ms23 ≤ (ms - ms10) ∧ w_X2_tail a18 x2 s17 mc22 ms23 (fun p21 s20 =>
      h_k s20 o0 = 28 ∧ w_X7_insert o0 (x1 + (1 : Int32)) p21 s20 (fun s27 =>
        Q (x1 + (1 : Int32)) s27)))
def w_X7_openAhead_62 (Q : Int32 → h_S → Prop) (y0 : Int32) (s : h_S) (bc bs : Nat) : Prop :=
  Q y0 s
def w_X7_openAhead_5b (Q : Int32 → h_S → Prop) (K5 : Nat → Int32 → Int32 → Int32 → Int32 → h_S → Nat → Nat → Prop) (o0 : Nat) (x1 : Int32) (x2 : Int32) (x3 : Int32) (x4 : Int32) (s : h_S) (bc bs : Nat) : Prop :=
  h_k s o0 = 28 ∧ (if (h_i s o0 9) ≤ x4 then
    Q (h_i s o0 9) s
  else
    ∃ a3, (h_r s o0 8) = some a3 ∧ h_k s a3 = 3 ∧ vp_in x4 (h_n s a3) ∧ ∃ mc8 ms9 : Nat, mc8 ≤ bc ∧ ms9 ≤ bs ∧ w_X7_sizeOf o0 (h_r s a3 (h_ix x4)) x2 (0 : Int32) s mc8 ms9 (fun p7 s6 =>
      let v12 : Int32 := (h_min (300 : Int32) (x3 + p7))
      (if v12 ≤ x1 then
        K5 o0 x1 x2 v12 (x4 + (1 : Int32)) s6 (bc - mc8) (bs - ms9)
      else
        if x1 ≤ x3 then
          w_X7_openAhead_62 Q x4 s6 (bc - mc8) (bs - ms9)
        else
          h_k s6 o0 = 28 ∧ ∃ mc18 ms19 : Nat, mc18 ≤ (bc - mc8) ∧ ms19 ≤ (bs - ms9) ∧ w_X7_partAt o0 x4 (x1 - x3) s6 mc18 ms19 (fun p17 s16 =>
            w_X7_openAhead_62 Q p17 s16 ((bc - mc8) - mc18) ((bs - ms9) - ms19)))))
def w_X7_openAhead_5 (Q : Int32 → h_S → Prop) : Nat → Nat → Int32 → Int32 → Int32 → Int32 → h_S → Nat → Nat → Prop
  | 0, _, _, _, _, _, _, _, _ => False
  | n + 1, o0, x1, x2, x3, x4, s, bc, bs => w_X7_openAhead_5b Q (w_X7_openAhead_5 Q n) o0 x1 x2 x3 x4 s bc bs
def w_X7_openAhead (o0 : Nat) (x1 : Int32) (x2 : Int32) (s : h_S) (mc ms : Nat) (Q : Int32 → h_S → Prop) : Prop :=
  ∃ n, w_X7_openAhead_5 Q n o0 x1 x2 (0 : Int32) (0 : Int32) s mc ms
def w_X7_openBehind_65 (Q : Int32 → h_S → Prop) (y0 : Int32) (s : h_S) (bc bs : Nat) : Prop :=
  Q y0 s
def w_X7_openBehind_5b (Q : Int32 → h_S → Prop) (K5 : Nat → Int32 → Int32 → Int32 → Int32 → h_S → Nat → Nat → Prop) (o0 : Nat) (x1 : Int32) (x2 : Int32) (x3 : Int32) (x4 : Int32) (s : h_S) (bc bs : Nat) : Prop :=
  h_k s o0 = 28 ∧ (if (h_i s o0 9) ≤ x4 then
    Q (h_i s o0 9) s
  else
    ∃ a3, (h_r s o0 8) = some a3 ∧ h_k s a3 = 3 ∧ vp_in x4 (h_n s a3) ∧ ∃ mc8 ms9 : Nat, mc8 ≤ bc ∧ ms9 ≤ bs ∧ w_X7_sizeOf o0 (h_r s a3 (h_ix x4)) x2 (0 : Int32) s mc8 ms9 (fun p7 s6 =>
      let v12 : Int32 := (h_min (300 : Int32) (x3 + p7))
      (if v12 < x1 then
        K5 o0 x1 x2 v12 (x4 + (1 : Int32)) s6 (bc - mc8) (bs - ms9)
      else
        if v12 ≤ x1 then
          w_X7_openBehind_65 Q (x4 + (1 : Int32)) s6 (bc - mc8) (bs - ms9)
        else
          h_k s6 o0 = 28 ∧ ∃ mc18 ms19 : Nat, mc18 ≤ (bc - mc8) ∧ ms19 ≤ (bs - ms9) ∧ w_X7_partAt o0 x4 (x1 - x3) s6 mc18 ms19 (fun p17 s16 =>
            w_X7_openBehind_65 Q p17 s16 ((bc - mc8) - mc18) ((bs - ms9) - ms19)))))
def w_X7_openBehind_5 (Q : Int32 → h_S → Prop) : Nat → Nat → Int32 → Int32 → Int32 → Int32 → h_S → Nat → Nat → Prop
  | 0, _, _, _, _, _, _, _, _ => False
  | n + 1, o0, x1, x2, x3, x4, s, bc, bs => w_X7_openBehind_5b Q (w_X7_openBehind_5 Q n) o0 x1 x2 x3 x4 s bc bs
def w_X7_openBehind (o0 : Nat) (x1 : Int32) (x2 : Int32) (s : h_S) (mc ms : Nat) (Q : Int32 → h_S → Prop) : Prop :=
  ∃ n, w_X7_openBehind_5 Q n o0 x1 x2 (0 : Int32) (0 : Int32) s mc ms
def w_X7_keepLaid_20 (Q : Int32 → h_S → Prop) (s : h_S) (bc bs : Nat) : Prop :=
  Q 0 s
def w_X7_keepLaid_33b (Q : Int32 → h_S → Prop) (K33 : Nat → Int32 → Int32 → Nat → Int32 → h_S → Nat → Nat → Prop) (o0 : Nat) (x1 : Int32) (x2 : Int32) (o3 : Nat) (x4 : Int32) (s : h_S) (bc bs : Nat) : Prop :=
  h_k s o0 = 28 ∧ (if (h_i s o0 9) ≤ x4 then
    1 ≤ bc ∧ 3 ≤ bs ∧ ∀ q3 : Nat, h_k s q3 = 0 → let s7 : h_S := h_nw s q3 25 3
    let c8 : Nat := bc - 1
    let d9 : Nat := bs - 3
    h_k s7 o0 = 28 ∧ ∃ a11, (h_r s7 o0 2) = some a11 ∧ h_k s7 a11 = 4 ∧ vp_in x1 (h_n s7 a11) ∧ w_X4_init q3 x2 (some o3) (h_r s7 a11 (h_ix x1)) s7 (fun s14 =>
      ∃ a16, (h_r s o0 2) = some a16 ∧ h_k s14 a16 = 4 ∧ vp_in x1 (h_n s14 a16) ∧ h_k s14 q3 = 25 ∧ let s20 : h_S := h_sr s14 a16 (h_ix x1) (some q3)
      Q 1 s20)
  else
    ∃ a21, (h_r s o0 8) = some a21 ∧ h_k s a21 = 3 ∧ vp_in x4 (h_n s a21) ∧ h_k s o3 = 3 ∧ vp_in x4 (h_n s o3) ∧ (∀ x, (h_r s a21 (h_ix x4)) = some x → h_k s x = 23) ∧ let s27 : h_S := h_sr s o3 (h_ix x4) (h_r s a21 (h_ix x4))
    K33 o0 x1 x2 o3 (x4 + (1 : Int32)) s27 bc bs)
def w_X7_keepLaid_33 (Q : Int32 → h_S → Prop) : Nat → Nat → Int32 → Int32 → Nat → Int32 → h_S → Nat → Nat → Prop
  | 0, _, _, _, _, _, _, _, _ => False
  | n + 1, o0, x1, x2, o3, x4, s, bc, bs => w_X7_keepLaid_33b Q (w_X7_keepLaid_33 Q n) o0 x1 x2 o3 x4 s bc bs
def w_X7_keepLaid (o0 : Nat) (x1 : Int32) (x2 : Int32) (s : h_S) (mc ms : Nat) (Q : Int32 → h_S → Prop) : Prop :=
  h_k s o0 = 28 ∧ (if (24 : Int32) < (h_i s o0 9) then
    w_X7_keepLaid_20 Q s mc ms
  else
    w_X11_within x1 (h_i s o0 0) s (fun p4 s3 =>
      if p4 = 0 then
        w_X7_keepLaid_20 Q s3 mc ms
      else
        h_k s3 o0 = 28 ∧ ¬ (h_i s3 o0 9) < 0 ∧ h_ix (h_i s3 o0 9) * 4 ≤ 536870912 ∧ 1 ≤ mc ∧ (h_ix (h_i s3 o0 9)) ≤ ms ∧ ∀ q7 : Nat, h_k s3 q7 = 0 → let s13 : h_S := h_nw s3 q7 3 (h_ix (h_i s3 o0 9))
        let c14 : Nat := mc - 1
        let d15 : Nat := ms - (h_ix (h_i s3 o0 9))
        ∃ n, w_X7_keepLaid_33 Q n o0 x1 x2 q7 (0 : Int32) s13 c14 d15))
def w_X7_bring (o0 : Nat) (x1 : Int32) (x2 : Int32) (r3 : Option Nat) (x4 : Int32) (s : h_S) (mc ms : Nat) (Q : Int32 → h_S → Prop) : Prop :=
  h_k s o0 = 28 ∧ w_X7_layOut o0 x1 s (fun s2 =>
    h_k s2 o0 = 28 ∧ ∃ mc7 ms8 : Nat, mc7 ≤ mc ∧ ms8 ≤ ms ∧ w_X7_openAhead o0 x2 x4 s2 mc7 ms8 (fun p6 s5 =>
      h_k s5 o0 = 28 ∧ w_X7_insert o0 p6 r3 s5 (fun s12 =>
        h_k s12 o0 = 28 ∧ ∃ mc17 ms18 : Nat, mc17 ≤ (mc - mc7) ∧ ms18 ≤ (ms - ms8) ∧ w_X7_keepLaid o0 x1 (x4 + (1 : Int32)) s12 mc17 ms18 (fun p16 s15 =>
          h_bt p16 ∧ Q p16 s15))))
def w_X7_lift_118 (Q : h_S → Prop) (o0 : Nat) (s : h_S) (bc bs : Nat) : Prop :=
  h_k s o0 = 28 ∧ let s2 : h_S := h_si s o0 9 ((h_i s o0 9) - (h_i s o0 11))
  Q s2
def w_X7_lift_77b (Q : h_S → Prop) (K77 : Nat → Int32 → h_S → Nat → Nat → Prop) (o0 : Nat) (x7 : Int32) (s : h_S) (bc bs : Nat) : Prop :=
  h_k s o0 = 28 ∧ (if (h_i s o0 9) ≤ x7 then
    w_X7_lift_118 Q o0 s bc bs
  else
    if (h_i s o0 11) ≤ 0 then
      w_X7_lift_118 Q o0 s bc bs
    else
      ∃ a4, (h_r s o0 8) = some a4 ∧ h_k s a4 = 3 ∧ vp_in x7 (h_n s a4) ∧ ∃ a7, (h_r s o0 8) = some a7 ∧ h_k s a7 = 3 ∧ vp_in (x7 - (h_i s o0 11)) (h_n s a7) ∧ (∀ x, (h_r s a4 (h_ix x7)) = some x → h_k s x = 23) ∧ let s11 : h_S := h_sr s a7 (h_ix (x7 - (h_i s o0 11))) (h_r s a4 (h_ix x7))
      K77 o0 (x7 + (1 : Int32)) s11 bc bs)
def w_X7_lift_77 (Q : h_S → Prop) : Nat → Nat → Int32 → h_S → Nat → Nat → Prop
  | 0, _, _, _, _, _ => False
  | n + 1, o0, x7, s, bc, bs => w_X7_lift_77b Q (w_X7_lift_77 Q n) o0 x7 s bc bs
def w_X7_lift_41b (Q : h_S → Prop) (K41 : Nat → Int32 → Int32 → Int32 → h_S → Nat → Nat → Prop) (o0 : Nat) (x5 : Int32) (x6 : Int32) (x7 : Int32) (s : h_S) (bc bs : Nat) : Prop :=
  h_k s o0 = 28 ∧ (if (h_i s o0 11) ≤ x7 then
    ∃ n, w_X7_lift_77 Q n o0 x6 s bc bs
  else
    ∃ a3, (h_r s o0 8) = some a3 ∧ h_k s a3 = 3 ∧ vp_in (x5 + x7) (h_n s a3) ∧ ∃ a6, (h_r s o0 10) = some a6 ∧ h_k s a6 = 3 ∧ vp_in x7 (h_n s a6) ∧ (∀ x, (h_r s a3 (h_ix (x5 + x7))) = some x → h_k s x = 23) ∧ let s10 : h_S := h_sr s a6 (h_ix x7) (h_r s a3 (h_ix (x5 + x7)))
    K41 o0 x5 x6 (x7 + (1 : Int32)) s10 bc bs)
def w_X7_lift_41 (Q : h_S → Prop) : Nat → Nat → Int32 → Int32 → Int32 → h_S → Nat → Nat → Prop
  | 0, _, _, _, _, _, _, _ => False
  | n + 1, o0, x5, x6, x7, s, bc, bs => w_X7_lift_41b Q (w_X7_lift_41 Q n) o0 x5 x6 x7 s bc bs
def w_X7_lift (o0 : Nat) (x1 : Int32) (x2 : Int32) (x3 : Int32) (x4 : Int32) (s : h_S) (mc ms : Nat) (Q : h_S → Prop) : Prop :=
  h_k s o0 = 28 ∧ w_X7_layOut o0 x1 s (fun s2 =>
    h_k s2 o0 = 28 ∧ ∃ mc7 ms8 : Nat, mc7 ≤ mc ∧ ms8 ≤ ms ∧ w_X7_openAhead o0 x2 x4 s2 mc7 ms8 (fun p6 s5 =>
      h_k s5 o0 = 28 ∧ ∃ mc14 ms15 : Nat, mc14 ≤ (mc - mc7) ∧ ms15 ≤ (ms - ms8) ∧ w_X7_openBehind o0 (x2 + x3) x4 s5 mc14 ms15 (fun p13 s12 =>
        h_k s12 o0 = 28 ∧ let s19 : h_S := h_si s12 o0 11 (h_max (0 : Int32) (p13 - p6))
        ∃ n, w_X7_lift_41 Q n o0 p6 p13 (0 : Int32) s19 ((mc - mc7) - mc14) ((ms - ms8) - ms15))))
def w_X7_bringLifted_10b (Q : h_S → Prop) (K10 : Nat → Int32 → Int32 → h_S → Nat → Nat → Prop) (o0 : Nat) (x3 : Int32) (x4 : Int32) (s : h_S) (bc bs : Nat) : Prop :=
  h_k s o0 = 28 ∧ (if (h_i s o0 11) ≤ x4 then
    Q s
  else
    ∃ a3, (h_r s o0 10) = some a3 ∧ h_k s a3 = 3 ∧ vp_in x4 (h_n s a3) ∧ w_X7_insert o0 (x3 + x4) (h_r s a3 (h_ix x4)) s (fun s6 =>
      K10 o0 x3 (x4 + (1 : Int32)) s6 bc bs))
def w_X7_bringLifted_10 (Q : h_S → Prop) : Nat → Nat → Int32 → Int32 → h_S → Nat → Nat → Prop
  | 0, _, _, _, _, _, _ => False
  | n + 1, o0, x3, x4, s, bc, bs => w_X7_bringLifted_10b Q (w_X7_bringLifted_10 Q n) o0 x3 x4 s bc bs
def w_X7_bringLifted (o0 : Nat) (x1 : Int32) (x2 : Int32) (s : h_S) (mc ms : Nat) (Q : h_S → Prop) : Prop :=
  h_k s o0 = 28 ∧ ∃ mc4 ms5 : Nat, mc4 ≤ mc ∧ ms5 ≤ ms ∧ w_X7_openAhead o0 x1 x2 s mc4 ms5 (fun p3 s2 =>
    ∃ n, w_X7_bringLifted_10 Q n o0 p3 (0 : Int32) s2 (mc - mc4) (ms - ms5))
def w_X7_returnTo_37 (Q : h_S → Prop) (s : h_S) (bc bs : Nat) : Prop :=
  Q s
def w_X7_returnTo (o0 : Nat) (x1 : Int32) (x2 : Int32) (x3 : Int32) (s : h_S) (mc ms : Nat) (Q : h_S → Prop) : Prop :=
  h_k s o0 = 28 ∧ w_X11_within x1 (h_i s o0 0) s (fun p3 s2 =>
    if p3 = 0 then
      w_X7_returnTo_37 Q s2 mc ms
    else
      h_k s2 o0 = 28 ∧ 1 ≤ mc ∧ 3 ≤ ms ∧ ∀ q6 : Nat, h_k s2 q6 = 0 → let s10 : h_S := h_nw s2 q6 25 3
      let c11 : Nat := mc - 1
      let d12 : Nat := ms - 3
      h_k s10 o0 = 28 ∧ w_X7_piecesAsOf o0 x1 x2 s10 (fun p15 s14 =>
        h_k s14 o0 = 28 ∧ ∃ a17, (h_r s14 o0 2) = some a17 ∧ h_k s14 a17 = 4 ∧ vp_in x1 (h_n s14 a17) ∧ w_X4_init q6 x3 p15 (h_r s14 a17 (h_ix x1)) s14 (fun s20 =>
          ∃ a22, (h_r s2 o0 2) = some a22 ∧ h_k s20 a22 = 4 ∧ vp_in x1 (h_n s20 a22) ∧ h_k s20 q6 = 25 ∧ let s26 : h_S := h_sr s20 a22 (h_ix x1) (some q6)
          w_X7_returnTo_37 Q s26 c11 d12)))
def w_X7_endAtHome_30 (Q : Int32 → h_S → Prop) (x1 : Int32) (s : h_S) : Prop :=
  Q x1 s
def w_X7_endAtHome (o0 : Nat) (x1 : Int32) (x2 : Int32) (x3 : Int32) (s : h_S) (Q : Int32 → h_S → Prop) : Prop :=
  h_k s o0 = 28 ∧ w_X7_wordAt o0 x3 s (fun p3 s2 =>
    if p3 = none then
      w_X7_endAtHome_30 Q x1 s2
    else
      ∃ a5, p3 = some a5 ∧ h_k s2 a5 = 31 ∧ (if (h_i s2 a5 2) = x2 then
        w_X7_endAtHome_30 Q x1 s2
      else
        h_k s2 o0 = 28 ∧ ∃ a9, (h_r s2 o0 12) = some a9 ∧ h_k s2 a9 = 1 ∧ (if x1 < (Int32.ofNat (h_n s2 a9)) then
          ∃ a12, p3 = some a12 ∧ h_k s2 a12 = 31 ∧ ∃ a14, (h_r s2 o0 12) = some a14 ∧ h_k s2 a14 = 1 ∧ vp_in x1 (h_n s2 a14) ∧ let s17 : h_S := h_si s2 a14 (h_ix x1) (h_i s2 a12 2)
          Q (x1 + (1 : Int32)) s17
        else
          w_X7_endAtHome_30 Q x1 s2)))
def w_X7_follow_95 (Q : Int32 → h_S → Prop) (K12 : Nat → Int32 → Int32 → Int32 → Int32 → h_S → Nat → Nat → Prop) (K43 : Nat → Int32 → Int32 → Int32 → Int32 → Option Nat → Option Nat → Int32 → h_S → Nat → Nat → Prop) (o0 : Nat) (x4 : Int32) (x5 : Int32) (x6 : Int32) (x7 : Int32) (r8 : Option Nat) (r9 : Option Nat) (x10 : Int32) (s : h_S) (bc bs : Nat) : Prop :=
  K43 o0 x4 x5 x6 x7 r8 r9 (x10 + (1 : Int32)) s bc bs
def w_X7_follow_101 (Q : Int32 → h_S → Prop) (K12 : Nat → Int32 → Int32 → Int32 → Int32 → h_S → Nat → Nat → Prop) (o0 : Nat) (x4 : Int32) (x5 : Int32) (x6 : Int32) (x7 : Int32) (r9 : Option Nat) (s : h_S) (bc bs : Nat) : Prop :=
  if r9 = none then
    Q (0 : Int32) s
  else
    ∃ a2, r9 = some a2 ∧ h_k s a2 = 23 ∧ w_X2_hasWords a2 s (fun p5 s4 =>
      if p5 = 0 then
        ∃ a7, r9 = some a7 ∧ h_k s4 a7 = 23 ∧ ∃ a9, r9 = some a9 ∧ h_k s4 a9 = 23 ∧ w_X2_momentWithin a9 x5 s4 (fun p12 s11 =>
          ∃ a13, r9 = some a13 ∧ h_k s11 a13 = 23 ∧ K12 o0 (h_i s4 a7 3) p12 (x6 + (h_i s11 a13 1)) (x7 + (1 : Int32)) s11 bc bs)
      else
        ∃ a15, r9 = some a15 ∧ h_k s4 a15 = 23 ∧ h_k s4 o0 = 28 ∧ w_X7_endAtHome o0 (x7 + (1 : Int32)) x4 ((h_i s4 a15 1) + x6) s4 (fun p19 s18 =>
          Q p19 s18))
def w_X7_follow_43b (Q : Int32 → h_S → Prop) (K12 : Nat → Int32 → Int32 → Int32 → Int32 → h_S → Nat → Nat → Prop) (K43 : Nat → Int32 → Int32 → Int32 → Int32 → Option Nat → Option Nat → Int32 → h_S → Nat → Nat → Prop) (o0 : Nat) (x4 : Int32) (x5 : Int32) (x6 : Int32) (x7 : Int32) (r8 : Option Nat) (r9 : Option Nat) (x10 : Int32) (s : h_S) (bc bs : Nat) : Prop :=
  ∃ a1, r8 = some a1 ∧ h_k s a1 = 3 ∧ (if (Int32.ofNat (h_n s a1)) ≤ x10 then
    w_X7_follow_101 Q K12 o0 x4 x5 x6 x7 r9 s bc bs
  else
    if r9 = none then
      ∃ a5, r8 = some a5 ∧ h_k s a5 = 3 ∧ vp_in x10 (h_n s a5) ∧ h_k s o0 = 28 ∧ ∃ mc11 ms12 : Nat, mc11 ≤ bc ∧ ms12 ≤ bs ∧ w_X7_sizeOf o0 (h_r s a5 (h_ix x10)) x5 x7 s mc11 ms12 (fun p10 s9 =>
        if p10 ≤ x6 then
          w_X7_follow_95 Q K12 K43 o0 x4 x5 (x6 - p10) x7 r8 r9 x10 s9 (bc - mc11) (bs - ms12)
        else
          ∃ a16, r8 = some a16 ∧ h_k s9 a16 = 3 ∧ vp_in x10 (h_n s9 a16) ∧ w_X7_follow_95 Q K12 K43 o0 x4 x5 x6 x7 r8 (h_r s9 a16 (h_ix x10)) x10 s9 (bc - mc11) (bs - ms12))
    else
      w_X7_follow_101 Q K12 o0 x4 x5 x6 x7 r9 s bc bs)
def w_X7_follow_43 (Q : Int32 → h_S → Prop) (K12 : Nat → Int32 → Int32 → Int32 → Int32 → h_S → Nat → Nat → Prop) : Nat → Nat → Int32 → Int32 → Int32 → Int32 → Option Nat → Option Nat → Int32 → h_S → Nat → Nat → Prop
  | 0, _, _, _, _, _, _, _, _, _, _, _ => False
  | n + 1, o0, x4, x5, x6, x7, r8, r9, x10, s, bc, bs => w_X7_follow_43b Q K12 (w_X7_follow_43 Q K12 n) o0 x4 x5 x6 x7 r8 r9 x10 s bc bs
def w_X7_follow_12b (Q : Int32 → h_S → Prop) (K12 : Nat → Int32 → Int32 → Int32 → Int32 → h_S → Nat → Nat → Prop) (o0 : Nat) (x4 : Int32) (x5 : Int32) (x6 : Int32) (x7 : Int32) (s : h_S) (bc bs : Nat) : Prop :=
  if (4 : Int32) < x7 then
    Q (0 : Int32) s
  else
    h_k s o0 = 28 ∧ ∃ a3, (h_r s o0 12) = some a3 ∧ h_k s a3 = 1 ∧ vp_in x7 (h_n s a3) ∧ let s6 : h_S := h_si s a3 (h_ix x7) x4
    w_X7_piecesAsOf o0 x4 x5 s6 (fun p8 s7 =>
      ∃ n, w_X7_follow_43 Q K12 n o0 x4 x5 x6 x7 p8 (none : Option Nat) (0 : Int32) s7 bc bs)
def w_X7_follow_12 (Q : Int32 → h_S → Prop) : Nat → Nat → Int32 → Int32 → Int32 → Int32 → h_S → Nat → Nat → Prop
  | 0, _, _, _, _, _, _, _, _ => False
  | n + 1, o0, x4, x5, x6, x7, s, bc, bs => w_X7_follow_12b Q (w_X7_follow_12 Q n) o0 x4 x5 x6 x7 s bc bs
def w_X7_follow (o0 : Nat) (x1 : Int32) (x2 : Int32) (x3 : Int32) (s : h_S) (mc ms : Nat) (Q : Int32 → h_S → Prop) : Prop :=
  ∃ n, w_X7_follow_12 Q n o0 x1 x2 x3 (0 : Int32) s mc ms
def w_X7_livesOf_45 (Q : Int32 → h_S → Prop) (K4 : Nat → Int32 → Int32 → Int32 → h_S → Prop) (o0 : Nat) (x1 : Int32) (x2 : Int32) (x3 : Int32) (s : h_S) : Prop :=
  K4 o0 x1 x2 (x3 + (1 : Int32)) s
def w_X7_livesOf_4b (Q : Int32 → h_S → Prop) (K4 : Nat → Int32 → Int32 → Int32 → h_S → Prop) (o0 : Nat) (x1 : Int32) (x2 : Int32) (x3 : Int32) (s : h_S) : Prop :=
  h_k s o0 = 28 ∧ w_X7_pieceCount o0 x1 s (fun p3 s2 =>
    if p3 ≤ x3 then
      Q x2 s2
    else
      h_k s2 o0 = 28 ∧ ∃ a6, (h_r s2 o0 2) = some a6 ∧ h_k s2 a6 = 4 ∧ vp_in x1 (h_n s2 a6) ∧ ∃ a9, (h_r s2 a6 (h_ix x1)) = some a9 ∧ h_k s2 a9 = 25 ∧ ∃ a11, (h_r s2 a9 1) = some a11 ∧ h_k s2 a11 = 3 ∧ vp_in x3 (h_n s2 a11) ∧ ∃ a14, (h_r s2 a11 (h_ix x3)) = some a14 ∧ h_k s2 a14 = 23 ∧ (if (h_i s2 a14 0) = (3 : Int32) then
        ∃ a17, (h_r s2 a11 (h_ix x3)) = some a17 ∧ h_k s2 a17 = 23 ∧ let v19 : Int32 := (x2 ||| ((1 : Int32) <<< ((h_i s2 a17 3) &&& 31)))
        w_X7_livesOf_45 Q K4 o0 x1 v19 x3 s2
      else
        w_X7_livesOf_45 Q K4 o0 x1 x2 x3 s2))
def w_X7_livesOf_4 (Q : Int32 → h_S → Prop) : Nat → Nat → Int32 → Int32 → Int32 → h_S → Prop
  | 0, _, _, _, _, _ => False
  | n + 1, o0, x1, x2, x3, s => w_X7_livesOf_4b Q (w_X7_livesOf_4 Q n) o0 x1 x2 x3 s
def w_X7_livesOf (o0 : Nat) (x1 : Int32) (s : h_S) (Q : Int32 → h_S → Prop) : Prop :=
  ∃ n, w_X7_livesOf_4 Q n o0 x1 (0 : Int32) (0 : Int32) s
def w_X7_quotedBy_73 (Q : Int32 → h_S → Prop) (K4 : Nat → Int32 → Int32 → Int32 → h_S → Prop) (o0 : Nat) (x1 : Int32) (x2 : Int32) (x3 : Int32) (s : h_S) : Prop :=
  K4 o0 x1 x2 (x3 + (1 : Int32)) s
def w_X7_quotedBy_4b (Q : Int32 → h_S → Prop) (K4 : Nat → Int32 → Int32 → Int32 → h_S → Prop) (o0 : Nat) (x1 : Int32) (x2 : Int32) (x3 : Int32) (s : h_S) : Prop :=
  h_k s o0 = 28 ∧ w_X7_pieceCount o0 x1 s (fun p3 s2 =>
    if p3 ≤ x3 then
      Q x2 s2
    else
      h_k s2 o0 = 28 ∧ ∃ a6, (h_r s2 o0 2) = some a6 ∧ h_k s2 a6 = 4 ∧ vp_in x1 (h_n s2 a6) ∧ ∃ a9, (h_r s2 a6 (h_ix x1)) = some a9 ∧ h_k s2 a9 = 25 ∧ ∃ a11, (h_r s2 a9 1) = some a11 ∧ h_k s2 a11 = 3 ∧ vp_in x3 (h_n s2 a11) ∧ ∃ a14, (h_r s2 a11 (h_ix x3)) = some a14 ∧ h_k s2 a14 = 23 ∧ (if (h_i s2 a14 0) = (1 : Int32) then
        ∃ a25, (h_r s2 a11 (h_ix x3)) = some a25 ∧ h_k s2 a25 = 23 ∧ ∃ a27, (h_r s2 a11 (h_ix x3)) = some a27 ∧ h_k s2 a27 = 23 ∧ w_X7_homesOf o0 (h_i s2 a25 1) (h_i s2 a27 2) s2 (fun p30 s29 =>
          w_X7_quotedBy_73 Q K4 o0 x1 (x2 ||| p30) x3 s29)
      else
        ∃ a17, (h_r s2 a11 (h_ix x3)) = some a17 ∧ h_k s2 a17 = 23 ∧ w_X2_hasWords a17 s2 (fun p20 s19 =>
          if p20 = 0 then
            ∃ a22, (h_r s2 a11 (h_ix x3)) = some a22 ∧ h_k s19 a22 = 23 ∧ let v24 : Int32 := (x2 ||| ((1 : Int32) <<< ((h_i s19 a22 3) &&& 31)))
            w_X7_quotedBy_73 Q K4 o0 x1 v24 x3 s19
          else
            w_X7_quotedBy_73 Q K4 o0 x1 x2 x3 s19)))
def w_X7_quotedBy_4 (Q : Int32 → h_S → Prop) : Nat → Nat → Int32 → Int32 → Int32 → h_S → Prop
  | 0, _, _, _, _, _ => False
  | n + 1, o0, x1, x2, x3, s => w_X7_quotedBy_4b Q (w_X7_quotedBy_4 Q n) o0 x1 x2 x3 s
def w_X7_quotedBy (o0 : Nat) (x1 : Int32) (s : h_S) (Q : Int32 → h_S → Prop) : Prop :=
  ∃ n, w_X7_quotedBy_4 Q n o0 x1 (0 : Int32) (0 : Int32) s
def w_X7_stepsBetween_82 (Q : Int32 → h_S → Prop) (K12 : Nat → Int32 → Int32 → Int32 → Int32 → Int32 → h_S → Prop) (K38 : Nat → Int32 → Int32 → Int32 → Int32 → Int32 → Int32 → Int32 → h_S → Prop) (o0 : Nat) (x2 : Int32) (x3 : Int32) (x4 : Int32) (x5 : Int32) (x6 : Int32) (x7 : Int32) (x8 : Int32) (s : h_S) : Prop :=
  K38 o0 x2 x3 x4 x5 x6 x7 (x8 + (1 : Int32)) s
def w_X7_stepsBetween_79 (Q : Int32 → h_S → Prop) (K12 : Nat → Int32 → Int32 → Int32 → Int32 → Int32 → h_S → Prop) (K38 : Nat → Int32 → Int32 → Int32 → Int32 → Int32 → Int32 → Int32 → h_S → Prop) (o0 : Nat) (x2 : Int32) (x3 : Int32) (x4 : Int32) (x5 : Int32) (x6 : Int32) (x8 : Int32) (y0 : Int32) (y1 : Int32) (s : h_S) : Prop :=
  w_X7_stepsBetween_82 Q K12 K38 o0 x2 x3 x4 x5 x6 (y1 ||| y0) x8 s
def w_X7_stepsBetween_38b (Q : Int32 → h_S → Prop) (K12 : Nat → Int32 → Int32 → Int32 → Int32 → Int32 → h_S → Prop) (K38 : Nat → Int32 → Int32 → Int32 → Int32 → Int32 → Int32 → Int32 → h_S → Prop) (o0 : Nat) (x2 : Int32) (x3 : Int32) (x4 : Int32) (x5 : Int32) (x6 : Int32) (x7 : Int32) (x8 : Int32) (s : h_S) : Prop :=
  h_k s o0 = 28 ∧ (if (h_i s o0 0) ≤ x8 then
    let v3 : Int32 := (x7 &&& (x4 ^^^ (-1 : Int32)))
    K12 o0 x2 x3 (x4 ||| v3) v3 (x6 + (1 : Int32)) s
  else
    if ((x5 >>> (x8 &&& 31)) &&& (1 : Int32)) = (1 : Int32) then
      if x3 = 0 then
        w_X7_quotedBy o0 x8 s (fun p7 s6 =>
          w_X7_stepsBetween_79 Q K12 K38 o0 x2 x3 x4 x5 x6 x8 p7 x7 s6)
      else
        w_X7_livesOf o0 x8 s (fun p9 s8 =>
          w_X7_stepsBetween_79 Q K12 K38 o0 x2 x3 x4 x5 x6 x8 p9 x7 s8)
    else
      w_X7_stepsBetween_82 Q K12 K38 o0 x2 x3 x4 x5 x6 x7 x8 s)
def w_X7_stepsBetween_38 (Q : Int32 → h_S → Prop) (K12 : Nat → Int32 → Int32 → Int32 → Int32 → Int32 → h_S → Prop) : Nat → Nat → Int32 → Int32 → Int32 → Int32 → Int32 → Int32 → Int32 → h_S → Prop
  | 0, _, _, _, _, _, _, _, _, _ => False
  | n + 1, o0, x2, x3, x4, x5, x6, x7, x8, s => w_X7_stepsBetween_38b Q K12 (w_X7_stepsBetween_38 Q K12 n) o0 x2 x3 x4 x5 x6 x7 x8 s
def w_X7_stepsBetween_12b (Q : Int32 → h_S → Prop) (K12 : Nat → Int32 → Int32 → Int32 → Int32 → Int32 → h_S → Prop) (o0 : Nat) (x2 : Int32) (x3 : Int32) (x4 : Int32) (x5 : Int32) (x6 : Int32) (s : h_S) : Prop :=
  if (12 : Int32) ≤ x6 then
    Q (-9 : Int32) s
  else
    if ((x5 >>> (x2 &&& 31)) &&& (1 : Int32)) = (1 : Int32) then
      Q x6 s
    else
      ∃ n, w_X7_stepsBetween_38 Q K12 n o0 x2 x3 x4 x5 x6 (0 : Int32) (0 : Int32) s
def w_X7_stepsBetween_12 (Q : Int32 → h_S → Prop) : Nat → Nat → Int32 → Int32 → Int32 → Int32 → Int32 → h_S → Prop
  | 0, _, _, _, _, _, _, _ => False
  | n + 1, o0, x2, x3, x4, x5, x6, s => w_X7_stepsBetween_12b Q (w_X7_stepsBetween_12 Q n) o0 x2 x3 x4 x5 x6 s
def w_X7_stepsBetween (o0 : Nat) (x1 : Int32) (x2 : Int32) (x3 : Int32) (s : h_S) (Q : Int32 → h_S → Prop) : Prop :=
  let v1 : Int32 := ((1 : Int32) <<< (x1 &&& 31))
  ∃ n, w_X7_stepsBetween_12 Q n o0 x2 x3 v1 v1 (0 : Int32) s
set_option maxRecDepth 100000 in
def w_X8_init (o0 : Nat) (x1 : Int32) (x2 : Int32) (r3 : Option Nat) (s : h_S) (Q : h_S → Prop) : Prop :=
  h_k s o0 = 29 ∧ let s2 : h_S := h_si s o0 3 (2147483647 : Int32)
  let s3 : h_S := h_si s2 o0 4 (2147483647 : Int32)
  let s4 : h_S := h_si s3 o0 0 x1
  let s5 : h_S := h_si s4 o0 1 x2
  let s6 : h_S := h_sr s5 o0 2 r3
  Q s6
def w_X8_kind_25 (Q : Int32 → h_S → Prop) (y0 : Int32) (s : h_S) : Prop :=
  Q y0 s
def w_X8_kind (o0 : Nat) (s : h_S) (Q : Int32 → h_S → Prop) : Prop :=
  h_k s o0 = 29 ∧ (if (h_i s o0 3) = (2147483647 : Int32) then
    Q (0 : Int32) s
  else
    if (h_i s o0 4) = (2147483647 : Int32) then
      w_X8_kind_25 Q (1 : Int32) s
    else
      w_X8_kind_25 Q (2 : Int32) s)
def w_X8_isGivenAt_21 (Q : Int32 → h_S → Prop) (y0 : Int32) (s : h_S) : Prop :=
  h_bt y0 ∧ Q y0 s
def w_X8_isGivenAt_20 (Q : Int32 → h_S → Prop) (s : h_S) : Prop :=
  w_X8_isGivenAt_21 Q (0 : Int32) s
def w_X8_isGivenAt (o0 : Nat) (x1 : Int32) (s : h_S) (Q : Int32 → h_S → Prop) : Prop :=
  h_k s o0 = 29 ∧ (if x1 < (h_i s o0 3) then
    w_X8_isGivenAt_20 Q s
  else
    if (h_i s o0 4) ≤ x1 then
      w_X8_isGivenAt_20 Q s
    else
      w_X8_isGivenAt_21 Q (1 : Int32) s)
def w_X8_placeAt_23 (Q : Int32 → h_S → Prop) (y0 : Int32) (s : h_S) : Prop :=
  Q y0 s
def w_X8_placeAt (o0 : Nat) (x1 : Int32) (s : h_S) (Q : Int32 → h_S → Prop) : Prop :=
  h_k s o0 = 29 ∧ ∃ a2, (h_r s o0 2) = some a2 ∧ h_k s a2 = 1 ∧ w_X11_within x1 (Int32.ofNat (h_n s a2)) s (fun p5 s4 =>
    if p5 = 0 then
      w_X8_placeAt_23 Q (-7 : Int32) s4
    else
      h_k s4 o0 = 29 ∧ ∃ a8, (h_r s4 o0 2) = some a8 ∧ h_k s4 a8 = 1 ∧ vp_in x1 (h_n s4 a8) ∧ w_X8_placeAt_23 Q (h_i s4 a8 (h_ix x1)) s4)
def w_X8_gaps_35 (Q : Int32 → h_S → Prop) (K13 : Int32 → Option Nat → Int32 → Int32 → h_S → Prop) (x1 : Int32) (r2 : Option Nat) (x3 : Int32) (x4 : Int32) (s : h_S) : Prop :=
  K13 x1 r2 x3 (x4 + (1 : Int32)) s
def w_X8_gaps_13b (Q : Int32 → h_S → Prop) (K13 : Int32 → Option Nat → Int32 → Int32 → h_S → Prop) (x1 : Int32) (r2 : Option Nat) (x3 : Int32) (x4 : Int32) (s : h_S) : Prop :=
  if x3 ≤ x4 then
    Q x1 s
  else
    ∃ a2, r2 = some a2 ∧ h_k s a2 = 1 ∧ vp_in x4 (h_n s a2) ∧ (if (h_i s a2 (h_ix x4)) = (-7 : Int32) then
      w_X8_gaps_35 Q K13 (x1 + (1 : Int32)) r2 x3 x4 s
    else
      w_X8_gaps_35 Q K13 x1 r2 x3 x4 s)
def w_X8_gaps_13 (Q : Int32 → h_S → Prop) : Nat → Int32 → Option Nat → Int32 → Int32 → h_S → Prop
  | 0, _, _, _, _, _ => False
  | n + 1, x1, r2, x3, x4, s => w_X8_gaps_13b Q (w_X8_gaps_13 Q n) x1 r2 x3 x4 s
def w_X8_gaps (o0 : Nat) (s : h_S) (Q : Int32 → h_S → Prop) : Prop :=
  h_k s o0 = 29 ∧ ∃ a2, (h_r s o0 2) = some a2 ∧ h_k s a2 = 1 ∧ ∃ n, w_X8_gaps_13 Q n (0 : Int32) (h_r s o0 2) (Int32.ofNat (h_n s a2)) (0 : Int32) s
set_option maxRecDepth 100000 in
def w_X9_init (o0 : Nat) (s : h_S) (mc ms : Nat) (Q : h_S → Prop) : Prop :=
  3 ≤ mc ∧ 604 ≤ ms ∧ ∀ (q1 : Nat) (j2 : Nat → Nat), h_k s q1 = 0 → (∀ i, i < 2 → h_k s (j2 i) = 0 ∧ j2 i ≠ q1) → (∀ i j, i < 2 → j < 2 → j2 i = j2 j → i = j) → let s8 : h_S := h_mn s q1 j2 301 2 2
  let c9 : Nat := mc - 3
  let d10 : Nat := ms - 604
  h_k s8 o0 = 30 ∧ let s12 : h_S := h_sr s8 o0 0 (some q1)
  1 ≤ c9 ∧ 3000 ≤ d10 ∧ ∀ q13 : Nat, h_k s12 q13 = 0 → let s17 : h_S := h_nw s12 q13 1 3000
  let c18 : Nat := c9 - 1
  let d19 : Nat := d10 - 3000
  h_k s17 o0 = 30 ∧ let s21 : h_S := h_sr s17 o0 1 (some q13)
  1 ≤ c18 ∧ 500 ≤ d19 ∧ ∀ q22 : Nat, h_k s21 q22 = 0 → let s26 : h_S := h_nw s21 q22 1 500
  let c27 : Nat := c18 - 1
  let d28 : Nat := d19 - 500
  h_k s26 o0 = 30 ∧ let s30 : h_S := h_sr s26 o0 2 (some q22)
  1 ≤ c27 ∧ 300 ≤ d28 ∧ ∀ q31 : Nat, h_k s30 q31 = 0 → let s35 : h_S := h_nw s30 q31 1 300
  let c36 : Nat := c27 - 1
  let d37 : Nat := d28 - 300
  h_k s35 o0 = 30 ∧ let s39 : h_S := h_sr s35 o0 3 (some q31)
  3 ≤ c36 ∧ 602 ≤ d37 ∧ ∀ (q40 : Nat) (j41 : Nat → Nat), h_k s39 q40 = 0 → (∀ i, i < 2 → h_k s39 (j41 i) = 0 ∧ j41 i ≠ q40) → (∀ i j, i < 2 → j < 2 → j41 i = j41 j → i = j) → let s47 : h_S := h_mn s39 q40 j41 300 2 2
  let c48 : Nat := c36 - 3
  let d49 : Nat := d37 - 602
  h_k s47 o0 = 30 ∧ let s51 : h_S := h_sr s47 o0 5 (some q40)
  1 ≤ c48 ∧ 2 ≤ d49 ∧ ∀ q52 : Nat, h_k s51 q52 = 0 → let s56 : h_S := h_nw s51 q52 1 2
  let c57 : Nat := c48 - 1
  let d58 : Nat := d49 - 2
  h_k s56 o0 = 30 ∧ let s60 : h_S := h_sr s56 o0 6 (some q52)
  3 ≤ c57 ∧ 604 ≤ d58 ∧ ∀ (q61 : Nat) (j62 : Nat → Nat), h_k s60 q61 = 0 → (∀ i, i < 2 → h_k s60 (j62 i) = 0 ∧ j62 i ≠ q61) → (∀ i j, i < 2 → j < 2 → j62 i = j62 j → i = j) → let s68 : h_S := h_mn s60 q61 j62 301 2 2
  let c69 : Nat := c57 - 3
  let d70 : Nat := d58 - 604
  h_k s68 o0 = 30 ∧ let s72 : h_S := h_sr s68 o0 7 (some q61)
  3 ≤ c69 ∧ 604 ≤ d70 ∧ ∀ (q73 : Nat) (j74 : Nat → Nat), h_k s72 q73 = 0 → (∀ i, i < 2 → h_k s72 (j74 i) = 0 ∧ j74 i ≠ q73) → (∀ i j, i < 2 → j < 2 → j74 i = j74 j → i = j) → let s80 : h_S := h_mn s72 q73 j74 301 2 2
  let c81 : Nat := c69 - 3
  let d82 : Nat := d70 - 604
  h_k s80 o0 = 30 ∧ let s84 : h_S := h_sr s80 o0 8 (some q73)
  1 ≤ c81 ∧ 300 ≤ d82 ∧ ∀ q85 : Nat, h_k s84 q85 = 0 → let s89 : h_S := h_nw s84 q85 2 300
  let c90 : Nat := c81 - 1
  let d91 : Nat := d82 - 300
  h_k s89 o0 = 30 ∧ let s93 : h_S := h_sr s89 o0 9 (some q85)
  1 ≤ c90 ∧ 600 ≤ d91 ∧ ∀ q94 : Nat, h_k s93 q94 = 0 → let s98 : h_S := h_nw s93 q94 1 600
  let c99 : Nat := c90 - 1
  let d100 : Nat := d91 - 600
  h_k s98 o0 = 30 ∧ let s102 : h_S := h_sr s98 o0 10 (some q94)
  1 ≤ c99 ∧ 12 ≤ d100 ∧ ∀ q103 : Nat, h_k s102 q103 = 0 → let s107 : h_S := h_nw s102 q103 1 12
  let c108 : Nat := c99 - 1
  let d109 : Nat := d100 - 12
  h_k s107 o0 = 30 ∧ let s111 : h_S := h_sr s107 o0 12 (some q103)
  1 ≤ c108 ∧ 12 ≤ d109 ∧ ∀ q112 : Nat, h_k s111 q112 = 0 → let s116 : h_S := h_nw s111 q112 1 12
  let c117 : Nat := c108 - 1
  let d118 : Nat := d109 - 12
  h_k s116 o0 = 30 ∧ let s120 : h_S := h_sr s116 o0 13 (some q112)
  1 ≤ c117 ∧ 12 ≤ d118 ∧ ∀ q121 : Nat, h_k s120 q121 = 0 → let s125 : h_S := h_nw s120 q121 1 12
  let c126 : Nat := c117 - 1
  let d127 : Nat := d118 - 12
  h_k s125 o0 = 30 ∧ let s129 : h_S := h_sr s125 o0 14 (some q121)
  Q s129
def w_X9_alike_16 (Q : Int32 → h_S → Prop) (y0 : Int32) (s : h_S) : Prop :=
  h_bt y0 ∧ Q y0 s
def w_X9_alike_15 (Q : Int32 → h_S → Prop) (s : h_S) : Prop :=
  w_X9_alike_16 Q (0 : Int32) s
def w_X9_alike (x0 : Int32) (x1 : Int32) (s : h_S) (Q : Int32 → h_S → Prop) : Prop :=
  if x0 = x1 then
    if x0 = (-7 : Int32) then
      w_X9_alike_15 Q s
    else
      w_X9_alike_16 Q (1 : Int32) s
  else
    w_X9_alike_15 Q s
def w_X9_sharedOf_184 (Q : Int32 → h_S → Prop) (K17 : Nat → Option Nat → Option Nat → Int32 → Int32 → h_S → Prop) (K61 : Nat → Option Nat → Option Nat → Int32 → Int32 → Option Nat → Option Nat → Int32 → Int32 → h_S → Prop) (o0 : Nat) (r1 : Option Nat) (r3 : Option Nat) (x4 : Int32) (x5 : Int32) (r6 : Option Nat) (r7 : Option Nat) (x8 : Int32) (x9 : Int32) (s : h_S) : Prop :=
  K61 o0 r1 r3 x4 x5 r6 r7 x8 (x9 + (-1 : Int32)) s
def w_X9_sharedOf_153 (Q : Int32 → h_S → Prop) (K17 : Nat → Option Nat → Option Nat → Int32 → Int32 → h_S → Prop) (K61 : Nat → Option Nat → Option Nat → Int32 → Int32 → Option Nat → Option Nat → Int32 → Int32 → h_S → Prop) (o0 : Nat) (r1 : Option Nat) (r3 : Option Nat) (x4 : Int32) (x5 : Int32) (r6 : Option Nat) (r7 : Option Nat) (x9 : Int32) (y0 : Int32) (y1 : Int32) (s : h_S) : Prop :=
  if (x9 &&& (31 : Int32)) = 0 then
    h_k s o0 = 30 ∧ ∃ a3, (h_r s o0 1) = some a3 ∧ h_k s a3 = 1 ∧ vp_in ((x5 * (10 : Int32)) + (x9 >>> ((5 : Int32) &&& 31))) (h_n s a3) ∧ let s6 : h_S := h_si s a3 (h_ix ((x5 * (10 : Int32)) + (x9 >>> ((5 : Int32) &&& 31)))) (y1 ||| y0)
    w_X9_sharedOf_184 Q K17 K61 o0 r1 r3 x4 x5 r6 r7 (0 : Int32) x9 s6
  else
    w_X9_sharedOf_184 Q K17 K61 o0 r1 r3 x4 x5 r6 r7 (y1 ||| y0) x9 s
def w_X9_sharedOf_138 (Q : Int32 → h_S → Prop) (K17 : Nat → Option Nat → Option Nat → Int32 → Int32 → h_S → Prop) (K61 : Nat → Option Nat → Option Nat → Int32 → Int32 → Option Nat → Option Nat → Int32 → Int32 → h_S → Prop) (o0 : Nat) (r1 : Option Nat) (r3 : Option Nat) (x4 : Int32) (x5 : Int32) (r6 : Option Nat) (r7 : Option Nat) (x8 : Int32) (x9 : Int32) (x10 : Int32) (y0 : Int32) (y1 : Int32) (t2 : Option Nat) (s : h_S) : Prop :=
  ∃ a1, t2 = some a1 ∧ h_k s a1 = 1 ∧ vp_in y1 (h_n s a1) ∧ let s4 : h_S := h_si s a1 (h_ix y1) y0
  (if x10 = 0 then
    w_X9_sharedOf_153 Q K17 K61 o0 r1 r3 x4 x5 r6 r7 x9 (0 : Int32) (x8 <<< ((1 : Int32) &&& 31)) s4
  else
    w_X9_sharedOf_153 Q K17 K61 o0 r1 r3 x4 x5 r6 r7 x9 (1 : Int32) (x8 <<< ((1 : Int32) &&& 31)) s4)
def w_X9_sharedOf_86 (Q : Int32 → h_S → Prop) (K17 : Nat → Option Nat → Option Nat → Int32 → Int32 → h_S → Prop) (K61 : Nat → Option Nat → Option Nat → Int32 → Int32 → Option Nat → Option Nat → Int32 → Int32 → h_S → Prop) (o0 : Nat) (r1 : Option Nat) (r3 : Option Nat) (x4 : Int32) (x5 : Int32) (r6 : Option Nat) (r7 : Option Nat) (x8 : Int32) (x9 : Int32) (y0 : Int32) (s : h_S) : Prop :=
  ∃ a1, r1 = some a1 ∧ h_k s a1 = 1 ∧ vp_in x5 (h_n s a1) ∧ ∃ a4, r3 = some a4 ∧ h_k s a4 = 1 ∧ vp_in x9 (h_n s a4) ∧ w_X9_alike (h_i s a1 (h_ix x5)) (h_i s a4 (h_ix x9)) s (fun p8 s7 =>
    if p8 = 0 then
      if y0 = 0 then
        ∃ a11, r7 = some a11 ∧ h_k s7 a11 = 1 ∧ vp_in (x9 + (1 : Int32)) (h_n s7 a11) ∧ w_X9_sharedOf_138 Q K17 K61 o0 r1 r3 x4 x5 r6 r7 x8 x9 y0 (h_i s7 a11 (h_ix (x9 + (1 : Int32)))) x9 r7 s7
      else
        ∃ a14, r6 = some a14 ∧ h_k s7 a14 = 1 ∧ vp_in x9 (h_n s7 a14) ∧ w_X9_sharedOf_138 Q K17 K61 o0 r1 r3 x4 x5 r6 r7 x8 x9 y0 (h_i s7 a14 (h_ix x9)) x9 r7 s7
    else
      ∃ a17, r6 = some a17 ∧ h_k s7 a17 = 1 ∧ vp_in (x9 + (1 : Int32)) (h_n s7 a17) ∧ w_X9_sharedOf_138 Q K17 K61 o0 r1 r3 x4 x5 r6 r7 x8 x9 y0 ((h_i s7 a17 (h_ix (x9 + (1 : Int32)))) + (1 : Int32)) x9 r7 s7)
def w_X9_sharedOf_61b (Q : Int32 → h_S → Prop) (K17 : Nat → Option Nat → Option Nat → Int32 → Int32 → h_S → Prop) (K61 : Nat → Option Nat → Option Nat → Int32 → Int32 → Option Nat → Option Nat → Int32 → Int32 → h_S → Prop) (o0 : Nat) (r1 : Option Nat) (r3 : Option Nat) (x4 : Int32) (x5 : Int32) (r6 : Option Nat) (r7 : Option Nat) (x8 : Int32) (x9 : Int32) (s : h_S) : Prop :=
  if x9 < 0 then
    K17 o0 r1 r3 x4 (x5 + (-1 : Int32)) s
  else
    ∃ a2, r6 = some a2 ∧ h_k s a2 = 1 ∧ vp_in x9 (h_n s a2) ∧ ∃ a5, r7 = some a5 ∧ h_k s a5 = 1 ∧ vp_in (x9 + (1 : Int32)) (h_n s a5) ∧ (if (h_i s a2 (h_ix x9)) < (h_i s a5 (h_ix (x9 + (1 : Int32)))) then
      w_X9_sharedOf_86 Q K17 K61 o0 r1 r3 x4 x5 r6 r7 x8 x9 (0 : Int32) s
    else
      w_X9_sharedOf_86 Q K17 K61 o0 r1 r3 x4 x5 r6 r7 x8 x9 (1 : Int32) s)
def w_X9_sharedOf_61 (Q : Int32 → h_S → Prop) (K17 : Nat → Option Nat → Option Nat → Int32 → Int32 → h_S → Prop) : Nat → Nat → Option Nat → Option Nat → Int32 → Int32 → Option Nat → Option Nat → Int32 → Int32 → h_S → Prop
  | 0, _, _, _, _, _, _, _, _, _, _ => False
  | n + 1, o0, r1, r3, x4, x5, r6, r7, x8, x9, s => w_X9_sharedOf_61b Q K17 (w_X9_sharedOf_61 Q K17 n) o0 r1 r3 x4 x5 r6 r7 x8 x9 s
def w_X9_sharedOf_17b (Q : Int32 → h_S → Prop) (K17 : Nat → Option Nat → Option Nat → Int32 → Int32 → h_S → Prop) (o0 : Nat) (r1 : Option Nat) (r3 : Option Nat) (x4 : Int32) (x5 : Int32) (s : h_S) : Prop :=
  if x5 < 0 then
    h_k s o0 = 30 ∧ ∃ a3, (h_r s o0 0) = some a3 ∧ h_k s a3 = 8 ∧ vp_in (0 : Int32) (h_n s a3) ∧ ∃ a6, (h_r s a3 (h_ix (0 : Int32))) = some a6 ∧ h_k s a6 = 1 ∧ vp_in (0 : Int32) (h_n s a6) ∧ Q (h_i s a6 (h_ix (0 : Int32))) s
  else
    h_k s o0 = 30 ∧ ∃ a10, (h_r s o0 0) = some a10 ∧ h_k s a10 = 8 ∧ vp_in ((x5 + (1 : Int32)) &&& (1 : Int32)) (h_n s a10) ∧ let v13 : Option Nat := (h_r s a10 (h_ix ((x5 + (1 : Int32)) &&& (1 : Int32))))
    ∃ a14, (h_r s o0 0) = some a14 ∧ h_k s a14 = 8 ∧ vp_in (x5 &&& (1 : Int32)) (h_n s a14) ∧ let v17 : Option Nat := (h_r s a14 (h_ix (x5 &&& (1 : Int32))))
    ∃ a18, v17 = some a18 ∧ h_k s a18 = 1 ∧ vp_in x4 (h_n s a18) ∧ let s21 : h_S := h_si s a18 (h_ix x4) (0 : Int32)
    ∃ n, w_X9_sharedOf_61 Q K17 n o0 r1 r3 x4 x5 v13 v17 (0 : Int32) (x4 - (1 : Int32)) s21
def w_X9_sharedOf_17 (Q : Int32 → h_S → Prop) : Nat → Nat → Option Nat → Option Nat → Int32 → Int32 → h_S → Prop
  | 0, _, _, _, _, _, _ => False
  | n + 1, o0, r1, r3, x4, x5, s => w_X9_sharedOf_17b Q (w_X9_sharedOf_17 Q n) o0 r1 r3 x4 x5 s
def w_X9_sharedOf (o0 : Nat) (r1 : Option Nat) (x2 : Int32) (r3 : Option Nat) (x4 : Int32) (s : h_S) (Q : Int32 → h_S → Prop) : Prop :=
  h_k s o0 = 30 ∧ ∃ a2, (h_r s o0 0) = some a2 ∧ h_k s a2 = 8 ∧ vp_in (x2 &&& (1 : Int32)) (h_n s a2) ∧ w_J7_fill_53178 (h_r s a2 (h_ix (x2 &&& (1 : Int32)))) (0 : Int32) s (fun s5 =>
    ∃ n, w_X9_sharedOf_17 Q n o0 r1 r3 x4 (x2 - (1 : Int32)) s5)
def w_X9_sharedBy (o0 : Nat) (r1 : Option Nat) (r2 : Option Nat) (s : h_S) (Q : Int32 → h_S → Prop) : Prop :=
  ∃ a1, r1 = some a1 ∧ h_k s a1 = 1 ∧ ∃ a3, r2 = some a3 ∧ h_k s a3 = 1 ∧ h_k s o0 = 30 ∧ w_X9_sharedOf o0 r1 (h_min (Int32.ofNat (h_n s a1)) (300 : Int32)) r2 (h_min (Int32.ofNat (h_n s a3)) (300 : Int32)) s (fun p7 s6 =>
    Q p7 s6)
def w_X9_isCut_29 (Q : Int32 → h_S → Prop) (y0 : Int32) (s : h_S) : Prop :=
  h_bt y0 ∧ Q y0 s
def w_X9_isCut (o0 : Nat) (x1 : Int32) (x2 : Int32) (s : h_S) (Q : Int32 → h_S → Prop) : Prop :=
  h_k s o0 = 30 ∧ ∃ a2, (h_r s o0 1) = some a2 ∧ h_k s a2 = 1 ∧ vp_in ((x1 * (10 : Int32)) + (x2 >>> ((5 : Int32) &&& 31))) (h_n s a2) ∧ (if (((h_i s a2 (h_ix ((x1 * (10 : Int32)) + (x2 >>> ((5 : Int32) &&& 31))))) >>> ((x2 &&& (31 : Int32)) &&& 31)) &&& (1 : Int32)) = (1 : Int32) then
    w_X9_isCut_29 Q (1 : Int32) s
  else
    w_X9_isCut_29 Q (0 : Int32) s)
def w_X9_commonTo_52 (Q : Int32 → h_S → Prop) (K17 : Nat → Option Nat → Option Nat → Int32 → Int32 → h_S → Prop) (o0 : Nat) (r2 : Option Nat) (r3 : Option Nat) (x4 : Int32) (x5 : Int32) (s : h_S) : Prop :=
  K17 o0 r2 r3 x4 (x5 + (1 : Int32)) s
def w_X9_commonTo_120 (Q : Int32 → h_S → Prop) (K71 : Nat → Int32 → Option Nat → Int32 → Int32 → h_S → Prop) (o0 : Nat) (x3 : Int32) (r4 : Option Nat) (x5 : Int32) (x6 : Int32) (s : h_S) : Prop :=
  K71 o0 x3 r4 x5 (x6 + (1 : Int32)) s
def w_X9_commonTo_71b (Q : Int32 → h_S → Prop) (K71 : Nat → Int32 → Option Nat → Int32 → Int32 → h_S → Prop) (o0 : Nat) (x3 : Int32) (r4 : Option Nat) (x5 : Int32) (x6 : Int32) (s : h_S) : Prop :=
  if x5 ≤ x6 then
    Q x3 s
  else
    ∃ a2, r4 = some a2 ∧ h_k s a2 = 1 ∧ vp_in x6 (h_n s a2) ∧ w_X11_within (h_i s a2 (h_ix x6)) (500 : Int32) s (fun p6 s5 =>
      if p6 = 0 then
        w_X9_commonTo_120 Q K71 o0 x3 r4 x5 x6 s5
      else
        h_k s5 o0 = 30 ∧ ∃ a9, (h_r s5 o0 2) = some a9 ∧ h_k s5 a9 = 1 ∧ vp_in (h_i s a2 (h_ix x6)) (h_n s5 a9) ∧ (if (h_i s5 a9 (h_ix (h_i s a2 (h_ix x6)))) ≤ 0 then
          w_X9_commonTo_120 Q K71 o0 x3 r4 x5 x6 s5
        else
          ∃ a13, (h_r s5 o0 2) = some a13 ∧ h_k s5 a13 = 1 ∧ vp_in (h_i s a2 (h_ix x6)) (h_n s5 a13) ∧ ∃ a16, (h_r s5 o0 2) = some a16 ∧ h_k s5 a16 = 1 ∧ vp_in (h_i s a2 (h_ix x6)) (h_n s5 a16) ∧ let s19 : h_S := h_si s5 a16 (h_ix (h_i s a2 (h_ix x6))) ((h_i s5 a13 (h_ix (h_i s a2 (h_ix x6)))) - (1 : Int32))
          w_X9_commonTo_120 Q K71 o0 (x3 + (1 : Int32)) r4 x5 x6 s19))
def w_X9_commonTo_71 (Q : Int32 → h_S → Prop) : Nat → Nat → Int32 → Option Nat → Int32 → Int32 → h_S → Prop
  | 0, _, _, _, _, _, _ => False
  | n + 1, o0, x3, r4, x5, x6, s => w_X9_commonTo_71b Q (w_X9_commonTo_71 Q n) o0 x3 r4 x5 x6 s
def w_X9_commonTo_17b (Q : Int32 → h_S → Prop) (K17 : Nat → Option Nat → Option Nat → Int32 → Int32 → h_S → Prop) (o0 : Nat) (r2 : Option Nat) (r3 : Option Nat) (x4 : Int32) (x5 : Int32) (s : h_S) : Prop :=
  if x4 ≤ x5 then
    ∃ a2, r2 = some a2 ∧ h_k s a2 = 1 ∧ ∃ n, w_X9_commonTo_71 Q n o0 (0 : Int32) r2 (Int32.ofNat (h_n s a2)) (0 : Int32) s
  else
    ∃ a4, r3 = some a4 ∧ h_k s a4 = 1 ∧ vp_in x5 (h_n s a4) ∧ w_X11_within (h_i s a4 (h_ix x5)) (500 : Int32) s (fun p8 s7 =>
      if p8 = 0 then
        w_X9_commonTo_52 Q K17 o0 r2 r3 x4 x5 s7
      else
        h_k s7 o0 = 30 ∧ ∃ a11, (h_r s7 o0 2) = some a11 ∧ h_k s7 a11 = 1 ∧ vp_in (h_i s a4 (h_ix x5)) (h_n s7 a11) ∧ ∃ a14, (h_r s7 o0 2) = some a14 ∧ h_k s7 a14 = 1 ∧ vp_in (h_i s a4 (h_ix x5)) (h_n s7 a14) ∧ let s17 : h_S := h_si s7 a14 (h_ix (h_i s a4 (h_ix x5))) ((h_i s7 a11 (h_ix (h_i s a4 (h_ix x5)))) + (1 : Int32))
        w_X9_commonTo_52 Q K17 o0 r2 r3 x4 x5 s17)
def w_X9_commonTo_17 (Q : Int32 → h_S → Prop) : Nat → Nat → Option Nat → Option Nat → Int32 → Int32 → h_S → Prop
  | 0, _, _, _, _, _, _ => False
  | n + 1, o0, r2, r3, x4, x5, s => w_X9_commonTo_17b Q (w_X9_commonTo_17 Q n) o0 r2 r3 x4 x5 s
def w_X9_commonTo (o0 : Nat) (r1 : Option Nat) (r2 : Option Nat) (s : h_S) (Q : Int32 → h_S → Prop) : Prop :=
  h_k s o0 = 30 ∧ w_J7_fill_53178 (h_r s o0 2) (0 : Int32) s (fun s2 =>
    ∃ a4, r1 = some a4 ∧ h_k s2 a4 = 1 ∧ ∃ n, w_X9_commonTo_17 Q n o0 r2 r1 (Int32.ofNat (h_n s2 a4)) (0 : Int32) s2)
def w_X9_withoutGaps_45 (Q : Int32 → h_S → Prop) (K11 : Option Nat → Int32 → Option Nat → Int32 → Int32 → h_S → Prop) (r1 : Option Nat) (x2 : Int32) (r3 : Option Nat) (x4 : Int32) (x5 : Int32) (s : h_S) : Prop :=
  K11 r1 x2 r3 x4 (x5 + (1 : Int32)) s
def w_X9_withoutGaps_11b (Q : Int32 → h_S → Prop) (K11 : Option Nat → Int32 → Option Nat → Int32 → Int32 → h_S → Prop) (r1 : Option Nat) (x2 : Int32) (r3 : Option Nat) (x4 : Int32) (x5 : Int32) (s : h_S) : Prop :=
  if x4 ≤ x5 then
    Q x2 s
  else
    ∃ a2, r3 = some a2 ∧ h_k s a2 = 1 ∧ vp_in x5 (h_n s a2) ∧ (if (h_i s a2 (h_ix x5)) = (-7 : Int32) then
      w_X9_withoutGaps_45 Q K11 r1 x2 r3 x4 x5 s
    else
      ∃ a6, r1 = some a6 ∧ h_k s a6 = 1 ∧ (if (Int32.ofNat (h_n s a6)) ≤ x2 then
        w_X9_withoutGaps_45 Q K11 r1 x2 r3 x4 x5 s
      else
        ∃ a9, r1 = some a9 ∧ h_k s a9 = 1 ∧ vp_in x2 (h_n s a9) ∧ let s12 : h_S := h_si s a9 (h_ix x2) (h_i s a2 (h_ix x5))
        w_X9_withoutGaps_45 Q K11 r1 (x2 + (1 : Int32)) r3 x4 x5 s12))
def w_X9_withoutGaps_11 (Q : Int32 → h_S → Prop) : Nat → Option Nat → Int32 → Option Nat → Int32 → Int32 → h_S → Prop
  | 0, _, _, _, _, _, _ => False
  | n + 1, r1, x2, r3, x4, x5, s => w_X9_withoutGaps_11b Q (w_X9_withoutGaps_11 Q n) r1 x2 r3 x4 x5 s
def w_X9_withoutGaps (r0 : Option Nat) (r1 : Option Nat) (s : h_S) (Q : Int32 → h_S → Prop) : Prop :=
  ∃ a1, r0 = some a1 ∧ h_k s a1 = 1 ∧ ∃ n, w_X9_withoutGaps_11 Q n r1 (0 : Int32) r0 (Int32.ofNat (h_n s a1)) (0 : Int32) s
def w_X9_findWay_137 (Q : h_S → Prop) (K35 : Nat → Int32 → Option Nat → Int32 → Int32 → Int32 → h_S → Prop) (o0 : Nat) (x1 : Int32) (r2 : Option Nat) (x3 : Int32) (x4 : Int32) (x5 : Int32) (s : h_S) : Prop :=
  K35 o0 x1 r2 x3 x4 (x5 + (1 : Int32)) s
def w_X9_findWay_129 (Q : h_S → Prop) (K35 : Nat → Int32 → Option Nat → Int32 → Int32 → Int32 → h_S → Prop) (o0 : Nat) (x1 : Int32) (r2 : Option Nat) (x3 : Int32) (x4 : Int32) (x5 : Int32) (s : h_S) : Prop :=
  h_k s o0 = 30 ∧ ∃ a2, (h_r s o0 9) = some a2 ∧ h_k s a2 = 2 ∧ vp_in x5 (h_n s a2) ∧ let s5 : h_S := h_si s a2 (h_ix x5) (1 : Int32)
  w_X9_findWay_137 Q K35 o0 x1 r2 x3 x4 x5 s5
def w_X9_findWay_92 (Q : h_S → Prop) (K35 : Nat → Int32 → Option Nat → Int32 → Int32 → Int32 → h_S → Prop) (o0 : Nat) (x1 : Int32) (r2 : Option Nat) (x3 : Int32) (x4 : Int32) (x5 : Int32) (s : h_S) : Prop :=
  h_k s o0 = 30 ∧ ∃ a2, (h_r s o0 8) = some a2 ∧ h_k s a2 = 8 ∧ vp_in x1 (h_n s a2) ∧ ∃ a5, (h_r s a2 (h_ix x1)) = some a5 ∧ h_k s a5 = 1 ∧ vp_in x5 (h_n s a5) ∧ let s8 : h_S := h_si s a5 (h_ix x5) x4
  (if x3 ≤ x4 then
    w_X9_findWay_129 Q K35 o0 x1 r2 x3 x4 x5 s8
  else
    ∃ a10, r2 = some a10 ∧ h_k s8 a10 = 1 ∧ vp_in x4 (h_n s8 a10) ∧ ∃ a13, (h_r s8 o0 3) = some a13 ∧ h_k s8 a13 = 1 ∧ vp_in x5 (h_n s8 a13) ∧ (if (h_i s8 a10 (h_ix x4)) = (h_i s8 a13 (h_ix x5)) then
      w_X9_findWay_137 Q K35 o0 x1 r2 x3 (x4 + (1 : Int32)) x5 s8
    else
      w_X9_findWay_129 Q K35 o0 x1 r2 x3 x4 x5 s8))
def w_X9_findWay_55b (Q : h_S → Prop) (K35 : Nat → Int32 → Option Nat → Int32 → Int32 → Int32 → h_S → Prop) (K55 : Nat → Int32 → Option Nat → Int32 → Int32 → Int32 → h_S → Prop) (o0 : Nat) (x1 : Int32) (r2 : Option Nat) (x3 : Int32) (x4 : Int32) (x5 : Int32) (s : h_S) : Prop :=
  if x3 ≤ x4 then
    w_X9_findWay_92 Q K35 o0 x1 r2 x3 x4 x5 s
  else
    ∃ a2, r2 = some a2 ∧ h_k s a2 = 1 ∧ vp_in x4 (h_n s a2) ∧ h_k s o0 = 30 ∧ ∃ a6, (h_r s o0 3) = some a6 ∧ h_k s a6 = 1 ∧ vp_in x5 (h_n s a6) ∧ (if (h_i s a2 (h_ix x4)) = (h_i s a6 (h_ix x5)) then
      w_X9_findWay_92 Q K35 o0 x1 r2 x3 x4 x5 s
    else
      w_X9_isCut o0 x5 x4 s (fun p11 s10 =>
        if p11 = 0 then
          K55 o0 x1 r2 x3 (x4 + (1 : Int32)) x5 s10
        else
          w_X9_findWay_92 Q K35 o0 x1 r2 x3 x4 x5 s10))
def w_X9_findWay_55 (Q : h_S → Prop) (K35 : Nat → Int32 → Option Nat → Int32 → Int32 → Int32 → h_S → Prop) : Nat → Nat → Int32 → Option Nat → Int32 → Int32 → Int32 → h_S → Prop
  | 0, _, _, _, _, _, _, _ => False
  | n + 1, o0, x1, r2, x3, x4, x5, s => w_X9_findWay_55b Q K35 (w_X9_findWay_55 Q K35 n) o0 x1 r2 x3 x4 x5 s
def w_X9_findWay_35b (Q : h_S → Prop) (K35 : Nat → Int32 → Option Nat → Int32 → Int32 → Int32 → h_S → Prop) (o0 : Nat) (x1 : Int32) (r2 : Option Nat) (x3 : Int32) (x4 : Int32) (x5 : Int32) (s : h_S) : Prop :=
  h_k s o0 = 30 ∧ (if (h_i s o0 4) ≤ x5 then
    ∃ a3, (h_r s o0 7) = some a3 ∧ h_k s a3 = 8 ∧ vp_in x1 (h_n s a3) ∧ ∃ a6, (h_r s a3 (h_ix x1)) = some a6 ∧ h_k s a6 = 1 ∧ vp_in (h_i s o0 4) (h_n s a6) ∧ let s9 : h_S := h_si s a6 (h_ix (h_i s o0 4)) x4
    ∃ a10, (h_r s9 o0 8) = some a10 ∧ h_k s9 a10 = 8 ∧ vp_in x1 (h_n s9 a10) ∧ ∃ a13, (h_r s9 a10 (h_ix x1)) = some a13 ∧ h_k s9 a13 = 1 ∧ vp_in (h_i s9 o0 4) (h_n s9 a13) ∧ let s16 : h_S := h_si s9 a13 (h_ix (h_i s9 o0 4)) x3
    Q s16
  else
    ∃ a17, (h_r s o0 7) = some a17 ∧ h_k s a17 = 8 ∧ vp_in x1 (h_n s a17) ∧ ∃ a20, (h_r s a17 (h_ix x1)) = some a20 ∧ h_k s a20 = 1 ∧ vp_in x5 (h_n s a20) ∧ let s23 : h_S := h_si s a20 (h_ix x5) x4
    ∃ n, w_X9_findWay_55 Q K35 n o0 x1 r2 x3 x4 x5 s23)
def w_X9_findWay_35 (Q : h_S → Prop) : Nat → Nat → Int32 → Option Nat → Int32 → Int32 → Int32 → h_S → Prop
  | 0, _, _, _, _, _, _, _ => False
  | n + 1, o0, x1, r2, x3, x4, x5, s => w_X9_findWay_35b Q (w_X9_findWay_35 Q n) o0 x1 r2 x3 x4 x5 s
def w_X9_findWay (o0 : Nat) (x1 : Int32) (s : h_S) (Q : h_S → Prop) : Prop :=
  h_k s o0 = 30 ∧ ∃ a2, (h_r s o0 5) = some a2 ∧ h_k s a2 = 8 ∧ vp_in x1 (h_n s a2) ∧ ∃ a5, (h_r s o0 6) = some a5 ∧ h_k s a5 = 1 ∧ vp_in x1 (h_n s a5) ∧ w_X9_sharedOf o0 (h_r s o0 3) (h_i s o0 4) (h_r s a2 (h_ix x1)) (h_i s a5 (h_ix x1)) s (fun p9 s8 =>
    ∃ n, w_X9_findWay_35 Q n o0 x1 (h_r s a2 (h_ix x1)) (h_i s a5 (h_ix x1)) (0 : Int32) (0 : Int32) s8)
def w_J6_compare_7cf53_19 (Q : Int32 → h_S → Prop) (y0 : Int32) (s : h_S) : Prop :=
  Q y0 s
def w_J6_compare_7cf53 (x0 : Int32) (x1 : Int32) (s : h_S) (Q : Int32 → h_S → Prop) : Prop :=
  if x1 ≤ x0 then
    if x0 = x1 then
      w_J6_compare_7cf53_19 Q (0 : Int32) s
    else
      w_J6_compare_7cf53_19 Q (1 : Int32) s
  else
    w_J6_compare_7cf53_19 Q (-1 : Int32) s
def w_X9_orderOfPuts_112 (Q : Int32 → h_S → Prop) (x2 : Int32) (x3 : Int32) (s : h_S) : Prop :=
  w_J6_compare_7cf53 x2 x3 s (fun p2 s1 =>
    Q p2 s1)
def w_X9_orderOfPuts_39b (Q : Int32 → h_S → Prop) (K39 : Nat → Int32 → Int32 → Int32 → Int32 → h_S → Prop) (o0 : Nat) (x1 : Int32) (x2 : Int32) (x3 : Int32) (x4 : Int32) (s : h_S) : Prop :=
  if x2 ≤ x4 then
    w_X9_orderOfPuts_112 Q x2 x3 s
  else
    if x3 ≤ x4 then
      w_X9_orderOfPuts_112 Q x2 x3 s
    else
      h_k s o0 = 30 ∧ ∃ a4, (h_r s o0 5) = some a4 ∧ h_k s a4 = 8 ∧ vp_in (0 : Int32) (h_n s a4) ∧ ∃ a7, (h_r s o0 7) = some a7 ∧ h_k s a7 = 8 ∧ vp_in (0 : Int32) (h_n s a7) ∧ ∃ a10, (h_r s a7 (h_ix (0 : Int32))) = some a10 ∧ h_k s a10 = 1 ∧ vp_in x1 (h_n s a10) ∧ ∃ a13, (h_r s a4 (h_ix (0 : Int32))) = some a13 ∧ h_k s a13 = 1 ∧ vp_in ((h_i s a10 (h_ix x1)) + x4) (h_n s a13) ∧ let v16 : Int32 := (h_i s a13 (h_ix ((h_i s a10 (h_ix x1)) + x4)))
      ∃ a17, (h_r s o0 5) = some a17 ∧ h_k s a17 = 8 ∧ vp_in (1 : Int32) (h_n s a17) ∧ ∃ a20, (h_r s o0 7) = some a20 ∧ h_k s a20 = 8 ∧ vp_in (1 : Int32) (h_n s a20) ∧ ∃ a23, (h_r s a20 (h_ix (1 : Int32))) = some a23 ∧ h_k s a23 = 1 ∧ vp_in x1 (h_n s a23) ∧ ∃ a26, (h_r s a17 (h_ix (1 : Int32))) = some a26 ∧ h_k s a26 = 1 ∧ vp_in ((h_i s a23 (h_ix x1)) + x4) (h_n s a26) ∧ let v29 : Int32 := (h_i s a26 (h_ix ((h_i s a23 (h_ix x1)) + x4)))
      (if v16 = v29 then
        K39 o0 x1 x2 x3 (x4 + (1 : Int32)) s
      else
        w_J6_compare_7cf53 v16 v29 s (fun p32 s31 =>
          Q p32 s31))
def w_X9_orderOfPuts_39 (Q : Int32 → h_S → Prop) : Nat → Nat → Int32 → Int32 → Int32 → Int32 → h_S → Prop
  | 0, _, _, _, _, _, _ => False
  | n + 1, o0, x1, x2, x3, x4, s => w_X9_orderOfPuts_39b Q (w_X9_orderOfPuts_39 Q n) o0 x1 x2 x3 x4 s
def w_X9_orderOfPuts (o0 : Nat) (x1 : Int32) (s : h_S) (Q : Int32 → h_S → Prop) : Prop :=
  h_k s o0 = 30 ∧ ∃ a2, (h_r s o0 8) = some a2 ∧ h_k s a2 = 8 ∧ vp_in (0 : Int32) (h_n s a2) ∧ ∃ a5, (h_r s a2 (h_ix (0 : Int32))) = some a5 ∧ h_k s a5 = 1 ∧ vp_in x1 (h_n s a5) ∧ ∃ a8, (h_r s o0 7) = some a8 ∧ h_k s a8 = 8 ∧ vp_in (0 : Int32) (h_n s a8) ∧ ∃ a11, (h_r s a8 (h_ix (0 : Int32))) = some a11 ∧ h_k s a11 = 1 ∧ vp_in x1 (h_n s a11) ∧ let v14 : Int32 := ((h_i s a5 (h_ix x1)) - (h_i s a11 (h_ix x1)))
  ∃ a15, (h_r s o0 8) = some a15 ∧ h_k s a15 = 8 ∧ vp_in (1 : Int32) (h_n s a15) ∧ ∃ a18, (h_r s a15 (h_ix (1 : Int32))) = some a18 ∧ h_k s a18 = 1 ∧ vp_in x1 (h_n s a18) ∧ ∃ a21, (h_r s o0 7) = some a21 ∧ h_k s a21 = 8 ∧ vp_in (1 : Int32) (h_n s a21) ∧ ∃ a24, (h_r s a21 (h_ix (1 : Int32))) = some a24 ∧ h_k s a24 = 1 ∧ vp_in x1 (h_n s a24) ∧ let v27 : Int32 := ((h_i s a18 (h_ix x1)) - (h_i s a24 (h_ix x1)))
  ∃ n, w_X9_orderOfPuts_39 Q n o0 x1 v14 v27 (0 : Int32) s
def w_X9_append_50 (Q : h_S → Prop) (s : h_S) : Prop :=
  Q s
def w_X9_append_3b (Q : h_S → Prop) (K3 : Nat → Option Nat → Int32 → Int32 → h_S → Prop) (o0 : Nat) (r1 : Option Nat) (x3 : Int32) (x4 : Int32) (s : h_S) : Prop :=
  if x3 ≤ x4 then
    w_X9_append_50 Q s
  else
    h_k s o0 = 30 ∧ ∃ a3, (h_r s o0 10) = some a3 ∧ h_k s a3 = 1 ∧ (if (Int32.ofNat (h_n s a3)) ≤ (h_i s o0 11) then
      w_X9_append_50 Q s
    else
      ∃ a6, r1 = some a6 ∧ h_k s a6 = 1 ∧ vp_in x4 (h_n s a6) ∧ ∃ a9, (h_r s o0 10) = some a9 ∧ h_k s a9 = 1 ∧ vp_in (h_i s o0 11) (h_n s a9) ∧ let s12 : h_S := h_si s a9 (h_ix (h_i s o0 11)) (h_i s a6 (h_ix x4))
      let s13 : h_S := h_si s12 o0 11 ((h_i s12 o0 11) + (1 : Int32))
      K3 o0 r1 x3 (x4 + (1 : Int32)) s13)
def w_X9_append_3 (Q : h_S → Prop) : Nat → Nat → Option Nat → Int32 → Int32 → h_S → Prop
  | 0, _, _, _, _, _ => False
  | n + 1, o0, r1, x3, x4, s => w_X9_append_3b Q (w_X9_append_3 Q n) o0 r1 x3 x4 s
def w_X9_append (o0 : Nat) (r1 : Option Nat) (x2 : Int32) (x3 : Int32) (s : h_S) (Q : h_S → Prop) : Prop :=
  ∃ n, w_X9_append_3 Q n o0 r1 x3 x2 s
def w_X9_noteClash_42 (Q : h_S → Prop) (o0 : Nat) (s : h_S) : Prop :=
  h_k s o0 = 30 ∧ let s2 : h_S := h_si s o0 15 ((h_i s o0 15) + (1 : Int32))
  Q s2
def w_X9_noteClash (o0 : Nat) (x1 : Int32) (x2 : Int32) (s : h_S) (Q : h_S → Prop) : Prop :=
  h_k s o0 = 30 ∧ (if (12 : Int32) ≤ (h_i s o0 15) then
    w_X9_noteClash_42 Q o0 s
  else
    ∃ a3, (h_r s o0 12) = some a3 ∧ h_k s a3 = 1 ∧ vp_in (h_i s o0 15) (h_n s a3) ∧ let s6 : h_S := h_si s a3 (h_ix (h_i s o0 15)) x1
    ∃ a7, (h_r s6 o0 13) = some a7 ∧ h_k s6 a7 = 1 ∧ vp_in (h_i s6 o0 15) (h_n s6 a7) ∧ let s10 : h_S := h_si s6 a7 (h_ix (h_i s6 o0 15)) x2
    ∃ a11, (h_r s10 o0 14) = some a11 ∧ h_k s10 a11 = 1 ∧ vp_in (h_i s10 o0 15) (h_n s10 a11) ∧ let s14 : h_S := h_si s10 a11 (h_ix (h_i s10 o0 15)) (h_i s10 o0 11)
    w_X9_noteClash_42 Q o0 s14)
def w_X9_joinPuts_210 (Q : h_S → Prop) (s : h_S) : Prop :=
  Q s
def w_X9_joinPuts_52 (Q : h_S → Prop) (o0 : Nat) (x1 : Int32) (s : h_S) : Prop :=
  h_k s o0 = 30 ∧ ∃ a2, (h_r s o0 5) = some a2 ∧ h_k s a2 = 8 ∧ vp_in (0 : Int32) (h_n s a2) ∧ ∃ a5, (h_r s o0 7) = some a5 ∧ h_k s a5 = 8 ∧ vp_in (0 : Int32) (h_n s a5) ∧ ∃ a8, (h_r s a5 (h_ix (0 : Int32))) = some a8 ∧ h_k s a8 = 1 ∧ vp_in x1 (h_n s a8) ∧ ∃ a11, (h_r s o0 8) = some a11 ∧ h_k s a11 = 8 ∧ vp_in (0 : Int32) (h_n s a11) ∧ ∃ a14, (h_r s a11 (h_ix (0 : Int32))) = some a14 ∧ h_k s a14 = 1 ∧ vp_in x1 (h_n s a14) ∧ w_X9_append o0 (h_r s a2 (h_ix (0 : Int32))) (h_i s a8 (h_ix x1)) (h_i s a14 (h_ix x1)) s (fun s17 =>
    w_X9_joinPuts_210 Q s17)
def w_X9_joinPuts_124 (Q : h_S → Prop) (o0 : Nat) (x1 : Int32) (y0 : Int32) (s : h_S) : Prop :=
  h_k s o0 = 30 ∧ ∃ a2, (h_r s o0 5) = some a2 ∧ h_k s a2 = 8 ∧ vp_in y0 (h_n s a2) ∧ ∃ a5, (h_r s o0 7) = some a5 ∧ h_k s a5 = 8 ∧ vp_in y0 (h_n s a5) ∧ ∃ a8, (h_r s a5 (h_ix y0)) = some a8 ∧ h_k s a8 = 1 ∧ vp_in x1 (h_n s a8) ∧ ∃ a11, (h_r s o0 8) = some a11 ∧ h_k s a11 = 8 ∧ vp_in y0 (h_n s a11) ∧ ∃ a14, (h_r s a11 (h_ix y0)) = some a14 ∧ h_k s a14 = 1 ∧ vp_in x1 (h_n s a14) ∧ w_X9_append o0 (h_r s a2 (h_ix y0)) (h_i s a8 (h_ix x1)) (h_i s a14 (h_ix x1)) s (fun s17 =>
    h_k s17 o0 = 30 ∧ ∃ a20, (h_r s17 o0 5) = some a20 ∧ h_k s17 a20 = 8 ∧ vp_in ((1 : Int32) - y0) (h_n s17 a20) ∧ ∃ a23, (h_r s17 o0 7) = some a23 ∧ h_k s17 a23 = 8 ∧ vp_in ((1 : Int32) - y0) (h_n s17 a23) ∧ ∃ a26, (h_r s17 a23 (h_ix ((1 : Int32) - y0))) = some a26 ∧ h_k s17 a26 = 1 ∧ vp_in x1 (h_n s17 a26) ∧ ∃ a29, (h_r s17 o0 8) = some a29 ∧ h_k s17 a29 = 8 ∧ vp_in ((1 : Int32) - y0) (h_n s17 a29) ∧ ∃ a32, (h_r s17 a29 (h_ix ((1 : Int32) - y0))) = some a32 ∧ h_k s17 a32 = 1 ∧ vp_in x1 (h_n s17 a32) ∧ w_X9_append o0 (h_r s17 a20 (h_ix ((1 : Int32) - y0))) (h_i s17 a26 (h_ix x1)) (h_i s17 a32 (h_ix x1)) s17 (fun s35 =>
      h_k s35 o0 = 30 ∧ w_X9_noteClash o0 (h_i s o0 11) (h_i s17 o0 11) s35 (fun s38 =>
        w_X9_joinPuts_210 Q s38)))
def w_X9_joinPuts (o0 : Nat) (x1 : Int32) (s : h_S) (Q : h_S → Prop) : Prop :=
  h_k s o0 = 30 ∧ ∃ a2, (h_r s o0 8) = some a2 ∧ h_k s a2 = 8 ∧ vp_in (0 : Int32) (h_n s a2) ∧ ∃ a5, (h_r s a2 (h_ix (0 : Int32))) = some a5 ∧ h_k s a5 = 1 ∧ vp_in x1 (h_n s a5) ∧ ∃ a8, (h_r s o0 7) = some a8 ∧ h_k s a8 = 8 ∧ vp_in (0 : Int32) (h_n s a8) ∧ ∃ a11, (h_r s a8 (h_ix (0 : Int32))) = some a11 ∧ h_k s a11 = 1 ∧ vp_in x1 (h_n s a11) ∧ let v14 : Int32 := ((h_i s a5 (h_ix x1)) - (h_i s a11 (h_ix x1)))
  ∃ a15, (h_r s o0 8) = some a15 ∧ h_k s a15 = 8 ∧ vp_in (1 : Int32) (h_n s a15) ∧ ∃ a18, (h_r s a15 (h_ix (1 : Int32))) = some a18 ∧ h_k s a18 = 1 ∧ vp_in x1 (h_n s a18) ∧ ∃ a21, (h_r s o0 7) = some a21 ∧ h_k s a21 = 8 ∧ vp_in (1 : Int32) (h_n s a21) ∧ ∃ a24, (h_r s a21 (h_ix (1 : Int32))) = some a24 ∧ h_k s a24 = 1 ∧ vp_in x1 (h_n s a24) ∧ let v27 : Int32 := ((h_i s a18 (h_ix x1)) - (h_i s a24 (h_ix x1)))
  w_X9_orderOfPuts o0 x1 s (fun p29 s28 =>
    if v27 = 0 then
      w_X9_joinPuts_52 Q o0 x1 s28
    else
      if p29 = 0 then
        w_X9_joinPuts_52 Q o0 x1 s28
      else
        if v14 = 0 then
          h_k s28 o0 = 30 ∧ ∃ a35, (h_r s28 o0 5) = some a35 ∧ h_k s28 a35 = 8 ∧ vp_in (1 : Int32) (h_n s28 a35) ∧ ∃ a38, (h_r s28 o0 7) = some a38 ∧ h_k s28 a38 = 8 ∧ vp_in (1 : Int32) (h_n s28 a38) ∧ ∃ a41, (h_r s28 a38 (h_ix (1 : Int32))) = some a41 ∧ h_k s28 a41 = 1 ∧ vp_in x1 (h_n s28 a41) ∧ ∃ a44, (h_r s28 o0 8) = some a44 ∧ h_k s28 a44 = 8 ∧ vp_in (1 : Int32) (h_n s28 a44) ∧ ∃ a47, (h_r s28 a44 (h_ix (1 : Int32))) = some a47 ∧ h_k s28 a47 = 1 ∧ vp_in x1 (h_n s28 a47) ∧ w_X9_append o0 (h_r s28 a35 (h_ix (1 : Int32))) (h_i s28 a41 (h_ix x1)) (h_i s28 a47 (h_ix x1)) s28 (fun s50 =>
            w_X9_joinPuts_210 Q s50)
        else
          if 0 ≤ p29 then
            w_X9_joinPuts_124 Q o0 x1 (1 : Int32) s28
          else
            w_X9_joinPuts_124 Q o0 x1 (0 : Int32) s28)
def w_X9_weaveBy_140 (Q : h_S → Prop) (K92 : Nat → Int32 → h_S → Prop) (o0 : Nat) (x4 : Int32) (s : h_S) : Prop :=
  K92 o0 (x4 + (1 : Int32)) s
def w_X9_weaveBy_92b (Q : h_S → Prop) (K92 : Nat → Int32 → h_S → Prop) (o0 : Nat) (x4 : Int32) (s : h_S) : Prop :=
  h_k s o0 = 30 ∧ (if (h_i s o0 4) < x4 then
    Q s
  else
    w_X9_joinPuts o0 x4 s (fun s3 =>
      h_k s3 o0 = 30 ∧ (if (h_i s3 o0 4) ≤ x4 then
        w_X9_weaveBy_140 Q K92 o0 x4 s3
      else
        ∃ a7, (h_r s3 o0 9) = some a7 ∧ h_k s3 a7 = 2 ∧ vp_in x4 (h_n s3 a7) ∧ (if (h_i s3 a7 (h_ix x4)) = 0 then
          w_X9_append o0 (h_r s3 o0 3) x4 (x4 + (1 : Int32)) s3 (fun s11 =>
            w_X9_weaveBy_140 Q K92 o0 x4 s11)
        else
          w_X9_weaveBy_140 Q K92 o0 x4 s3))))
def w_X9_weaveBy_92 (Q : h_S → Prop) : Nat → Nat → Int32 → h_S → Prop
  | 0, _, _, _ => False
  | n + 1, o0, x4, s => w_X9_weaveBy_92b Q (w_X9_weaveBy_92 Q n) o0 x4 s
def w_X9_weaveBy_47b (Q : h_S → Prop) (K47 : Nat → Int32 → h_S → Prop) (o0 : Nat) (x4 : Int32) (s : h_S) : Prop :=
  if (300 : Int32) ≤ x4 then
    h_k s o0 = 30 ∧ w_X9_findWay o0 (0 : Int32) s (fun s3 =>
      h_k s3 o0 = 30 ∧ w_X9_findWay o0 (1 : Int32) s3 (fun s6 =>
        h_k s6 o0 = 30 ∧ let s9 : h_S := h_si s6 o0 11 (0 : Int32)
        let s10 : h_S := h_si s9 o0 15 (0 : Int32)
        ∃ n, w_X9_weaveBy_92 Q n o0 (0 : Int32) s10))
  else
    h_k s o0 = 30 ∧ ∃ a12, (h_r s o0 9) = some a12 ∧ h_k s a12 = 2 ∧ vp_in x4 (h_n s a12) ∧ let s15 : h_S := h_si s a12 (h_ix x4) (0 : Int32)
    K47 o0 (x4 + (1 : Int32)) s15
def w_X9_weaveBy_47 (Q : h_S → Prop) : Nat → Nat → Int32 → h_S → Prop
  | 0, _, _, _ => False
  | n + 1, o0, x4, s => w_X9_weaveBy_47b Q (w_X9_weaveBy_47 Q n) o0 x4 s
def w_X9_weaveBy (o0 : Nat) (r1 : Option Nat) (r2 : Option Nat) (r3 : Option Nat) (s : h_S) (Q : h_S → Prop) : Prop :=
  h_k s o0 = 30 ∧ w_X9_withoutGaps r3 (h_r s o0 3) s (fun p3 s2 =>
    h_k s2 o0 = 30 ∧ let s5 : h_S := h_si s2 o0 4 p3
    ∃ a6, (h_r s5 o0 5) = some a6 ∧ h_k s5 a6 = 8 ∧ vp_in (0 : Int32) (h_n s5 a6) ∧ w_X9_withoutGaps r1 (h_r s5 a6 (h_ix (0 : Int32))) s5 (fun p10 s9 =>
      ∃ a11, (h_r s5 o0 6) = some a11 ∧ h_k s9 a11 = 1 ∧ vp_in (0 : Int32) (h_n s9 a11) ∧ let s14 : h_S := h_si s9 a11 (h_ix (0 : Int32)) p10
      h_k s14 o0 = 30 ∧ ∃ a16, (h_r s14 o0 5) = some a16 ∧ h_k s14 a16 = 8 ∧ vp_in (1 : Int32) (h_n s14 a16) ∧ w_X9_withoutGaps r2 (h_r s14 a16 (h_ix (1 : Int32))) s14 (fun p20 s19 =>
        ∃ a21, (h_r s14 o0 6) = some a21 ∧ h_k s19 a21 = 1 ∧ vp_in (1 : Int32) (h_n s19 a21) ∧ let s24 : h_S := h_si s19 a21 (h_ix (1 : Int32)) p20
        ∃ n, w_X9_weaveBy_47 Q n o0 (0 : Int32) s24)))
def w_J7_checkLength_df160 (x0 : Int32) (x1 : Int32) (s : h_S) (mc ms : Nat) (Q : h_S → Prop) : Prop :=
  if x0 ≤ x1 then
    Q s
  else
    False
def w_J7_copyOfRangeInt_feecc (r0 : Option Nat) (x1 : Int32) (x2 : Int32) (s : h_S) (mc ms : Nat) (Q : Option Nat → h_S → Prop) : Prop :=
  ∃ mc3 ms4 : Nat, mc3 ≤ mc ∧ ms4 ≤ ms ∧ w_J7_checkLength_df160 x1 x2 s mc3 ms4 (fun s1 =>
    ¬ (x2 - x1) < 0 ∧ h_ix (x2 - x1) * 4 ≤ 536870912 ∧ 1 ≤ (mc - mc3) ∧ (h_ix (x2 - x1)) ≤ (ms - ms4) ∧ ∀ q7 : Nat, h_k s1 q7 = 0 → let s13 : h_S := h_nw s1 q7 1 (h_ix (x2 - x1))
    let c14 : Nat := (mc - mc3) - 1
    let d15 : Nat := (ms - ms4) - (h_ix (x2 - x1))
    ∃ a16, r0 = some a16 ∧ h_k s13 a16 = 1 ∧ h_k s13 q7 = 1 ∧ ∃ a19, r0 = some a19 ∧ h_k s13 a19 = 1 ∧ ¬ x1 < 0 ∧ ¬ (0 : Int32) < 0 ∧ ¬ (h_min ((Int32.ofNat (h_n s13 a16)) - x1) (x2 - x1)) < 0 ∧ h_ix x1 + h_ix (h_min ((Int32.ofNat (h_n s13 a16)) - x1) (x2 - x1)) ≤ h_n s13 a19 ∧ h_ix (0 : Int32) + h_ix (h_min ((Int32.ofNat (h_n s13 a16)) - x1) (x2 - x1)) ≤ h_n s13 q7 ∧ let s26 : h_S := h_cp s13 a19 (h_ix x1) q7 (h_ix (0 : Int32)) (h_ix (h_min ((Int32.ofNat (h_n s13 a16)) - x1) (x2 - x1)))
    Q (some q7) s26)
def w_J7_copyOfRange_feecc_10 (Q : Option Nat → h_S → Prop) (r0 : Option Nat) (x1 : Int32) (x2 : Int32) (s : h_S) (bc bs : Nat) : Prop :=
  ∃ mc3 ms4 : Nat, mc3 ≤ bc ∧ ms4 ≤ bs ∧ w_J7_copyOfRangeInt_feecc r0 x1 x2 s mc3 ms4 (fun p2 s1 =>
    Q p2 s1)
def w_J7_copyOfRange_feecc (r0 : Option Nat) (x1 : Int32) (x2 : Int32) (s : h_S) (mc ms : Nat) (Q : Option Nat → h_S → Prop) : Prop :=
  if x1 = 0 then
    ∃ a2, r0 = some a2 ∧ h_k s a2 = 1 ∧ (if x2 = (Int32.ofNat (h_n s a2)) then
      ∃ a5, r0 = some a5 ∧ h_k s a5 = 1 ∧ 1 ≤ mc ∧ h_n s a5 ≤ ms ∧ ∀ q7 : Nat, h_k s q7 = 0 → let s11 : h_S := h_cl s q7 a5
      let c12 : Nat := mc - 1
      let d13 : Nat := ms - (h_n s a5)
      h_k s11 q7 = 1 ∧ Q (some q7) s11
    else
      w_J7_copyOfRange_feecc_10 Q r0 x1 x2 s mc ms)
  else
    w_J7_copyOfRange_feecc_10 Q r0 x1 x2 s mc ms
def w_X9_clashAt (o0 : Nat) (x1 : Int32) (x2 : Int32) (s : h_S) (mc ms : Nat) (Q : Option Nat → h_S → Prop) : Prop :=
  w_X11_within x1 (12 : Int32) s (fun p2 s1 =>
    if p2 = 0 then
      1 ≤ mc ∧ 4 ≤ ms ∧ ∀ q33 : Nat, h_k s1 q33 = 0 → let s37 : h_S := h_nw s1 q33 21 4
      let c38 : Nat := mc - 1
      let d39 : Nat := ms - 4
      1 ≤ c38 ∧ 0 ≤ d39 ∧ ∀ q40 : Nat, h_k s37 q40 = 0 → let s44 : h_S := h_nw s37 q40 1 0
      let c45 : Nat := c38 - 1
      let d46 : Nat := d39 - 0
      w_X0_init q33 x2 (some q40) (0 : Int32) s44 (fun s47 =>
        Q (some q33) s47)
    else
      h_k s1 o0 = 30 ∧ ∃ a5, (h_r s1 o0 12) = some a5 ∧ h_k s1 a5 = 1 ∧ vp_in x1 (h_n s1 a5) ∧ ∃ a8, (h_r s1 o0 14) = some a8 ∧ h_k s1 a8 = 1 ∧ vp_in x1 (h_n s1 a8) ∧ ∃ mc13 ms14 : Nat, mc13 ≤ mc ∧ ms14 ≤ ms ∧ w_J7_copyOfRange_feecc (h_r s1 o0 10) (h_i s1 a5 (h_ix x1)) (h_i s1 a8 (h_ix x1)) s1 mc13 ms14 (fun p12 s11 =>
        1 ≤ (mc - mc13) ∧ 4 ≤ (ms - ms14) ∧ ∀ q17 : Nat, h_k s11 q17 = 0 → let s21 : h_S := h_nw s11 q17 21 4
        let c22 : Nat := (mc - mc13) - 1
        let d23 : Nat := (ms - ms14) - 4
        h_k s21 o0 = 30 ∧ ∃ a25, (h_r s21 o0 13) = some a25 ∧ h_k s21 a25 = 1 ∧ vp_in x1 (h_n s21 a25) ∧ ∃ a28, (h_r s21 o0 12) = some a28 ∧ h_k s21 a28 = 1 ∧ vp_in x1 (h_n s21 a28) ∧ w_X0_init q17 x2 p12 ((h_i s21 a25 (h_ix x1)) - (h_i s21 a28 (h_ix x1))) s21 (fun s31 =>
          Q (some q17) s31)))
def w_X9_runs_45 (Q : Int32 → h_S → Prop) (K15 : Nat → Int32 → Int32 → h_S → Prop) (o0 : Nat) (x1 : Int32) (x2 : Int32) (s : h_S) : Prop :=
  K15 o0 x1 (x2 + (1 : Int32)) s
def w_X9_runs_15b (Q : Int32 → h_S → Prop) (K15 : Nat → Int32 → Int32 → h_S → Prop) (o0 : Nat) (x1 : Int32) (x2 : Int32) (s : h_S) : Prop :=
  h_k s o0 = 30 ∧ (if (h_i s o0 11) ≤ x2 then
    Q x1 s
  else
    ∃ a3, (h_r s o0 10) = some a3 ∧ h_k s a3 = 1 ∧ vp_in x2 (h_n s a3) ∧ ∃ a6, (h_r s o0 10) = some a6 ∧ h_k s a6 = 1 ∧ vp_in (x2 - (1 : Int32)) (h_n s a6) ∧ (if (h_i s a3 (h_ix x2)) = ((h_i s a6 (h_ix (x2 - (1 : Int32)))) + (1 : Int32)) then
      w_X9_runs_45 Q K15 o0 x1 x2 s
    else
      w_X9_runs_45 Q K15 o0 (x1 + (1 : Int32)) x2 s))
def w_X9_runs_15 (Q : Int32 → h_S → Prop) : Nat → Nat → Int32 → Int32 → h_S → Prop
  | 0, _, _, _, _ => False
  | n + 1, o0, x1, x2, s => w_X9_runs_15b Q (w_X9_runs_15 Q n) o0 x1 x2 s
def w_X9_runs_12 (Q : Int32 → h_S → Prop) (o0 : Nat) (y0 : Int32) (s : h_S) : Prop :=
  ∃ n, w_X9_runs_15 Q n o0 y0 (1 : Int32) s
def w_X9_runs (o0 : Nat) (s : h_S) (Q : Int32 → h_S → Prop) : Prop :=
  h_k s o0 = 30 ∧ (if (h_i s o0 11) ≤ 0 then
    w_X9_runs_12 Q o0 (0 : Int32) s
  else
    w_X9_runs_12 Q o0 (1 : Int32) s)
set_option maxRecDepth 100000 in
def w_X11_init_140b (g : h_G) (Q : h_S → Prop) (K140 : Nat → Int32 → h_S → Nat → Nat → Prop) (o0 : Nat) (x1 : Int32) (s : h_S) (bc bs : Nat) : Prop :=
  if (4 : Int32) ≤ x1 then
    Q s
  else
    h_k s o0 = 32 ∧ 1 ≤ bc ∧ 3 ≤ bs ∧ ∀ q3 : Nat, h_k s q3 = 0 → let s7 : h_S := h_nw s q3 26 3
    let c8 : Nat := bc - 1
    let d9 : Nat := bs - 3
    ∃ mc12 ms13 : Nat, mc12 ≤ c8 ∧ ms13 ≤ d9 ∧ w_X5_init q3 s7 mc12 ms13 (fun s10 =>
      ∃ a16, (h_r s o0 9) = some a16 ∧ h_k s10 a16 = 5 ∧ vp_in x1 (h_n s10 a16) ∧ h_k s10 q3 = 26 ∧ let s20 : h_S := h_sr s10 a16 (h_ix x1) (some q3)
      K140 o0 (x1 + (1 : Int32)) s20 (c8 - mc12) (d9 - ms13))
set_option maxRecDepth 100000 in
def w_X11_init_140 (g : h_G) (Q : h_S → Prop) : Nat → Nat → Int32 → h_S → Nat → Nat → Prop
  | 0, _, _, _, _, _ => False
  | n + 1, o0, x1, s, bc, bs => w_X11_init_140b g Q (w_X11_init_140 g Q n) o0 x1 s bc bs
set_option maxRecDepth 100000 in
def w_X11_init (g : h_G) (o0 : Nat) (s : h_S) (mc ms : Nat) (Q : h_S → Prop) : Prop :=
  1 ≤ mc ∧ 600 ≤ ms ∧ ∀ q1 : Nat, h_k s q1 = 0 → let s5 : h_S := h_nw s q1 1 600
  let c6 : Nat := mc - 1
  let d7 : Nat := ms - 600
  h_k s5 o0 = 32 ∧ let s9 : h_S := h_sr s5 o0 2 (some q1)
  1 ≤ c6 ∧ 600 ≤ d7 ∧ ∀ q10 : Nat, h_k s9 q10 = 0 → let s14 : h_S := h_nw s9 q10 1 600
  let c15 : Nat := c6 - 1
  let d16 : Nat := d7 - 600
  h_k s14 o0 = 32 ∧ let s18 : h_S := h_sr s14 o0 3 (some q10)
  1 ≤ c15 ∧ 13 ≤ d16 ∧ ∀ q19 : Nat, h_k s18 q19 = 0 → let s23 : h_S := h_nw s18 q19 28 13
  let c24 : Nat := c15 - 1
  let d25 : Nat := d16 - 13
  ∃ mc28 ms29 : Nat, mc28 ≤ c24 ∧ ms29 ≤ d25 ∧ w_X7_init g q19 s23 mc28 ms29 (fun s26 =>
    h_k s26 o0 = 32 ∧ let s33 : h_S := h_sr s26 o0 4 (some q19)
    1 ≤ (c24 - mc28) ∧ 3 ≤ (d25 - ms29) ∧ ∀ q34 : Nat, h_k s33 q34 = 0 → let s38 : h_S := h_nw s33 q34 20 3
    let c39 : Nat := (c24 - mc28) - 1
    let d40 : Nat := (d25 - ms29) - 3
    w_Jx4a65c_init_da8c8 g q34 s38 (fun s41 =>
      h_k s41 o0 = 32 ∧ let s44 : h_S := h_sr s41 o0 5 (some q34)
      1 ≤ c39 ∧ 3 ≤ d40 ∧ ∀ q45 : Nat, h_k s44 q45 = 0 → let s49 : h_S := h_nw s44 q45 20 3
      let c50 : Nat := c39 - 1
      let d51 : Nat := d40 - 3
      w_Jx4a65c_init_da8c8 g q45 s49 (fun s52 =>
        h_k s52 o0 = 32 ∧ let s55 : h_S := h_sr s52 o0 6 (some q45)
        1 ≤ c50 ∧ 3 ≤ d51 ∧ ∀ q56 : Nat, h_k s55 q56 = 0 → let s60 : h_S := h_nw s55 q56 20 3
        let c61 : Nat := c50 - 1
        let d62 : Nat := d51 - 3
        w_Jx4a65c_init_da8c8 g q56 s60 (fun s63 =>
          h_k s63 o0 = 32 ∧ let s66 : h_S := h_sr s63 o0 7 (some q56)
          1 ≤ c61 ∧ 3 ≤ d62 ∧ ∀ q67 : Nat, h_k s66 q67 = 0 → let s71 : h_S := h_nw s66 q67 20 3
          let c72 : Nat := c61 - 1
          let d73 : Nat := d62 - 3
          w_Jx4a65c_init_da8c8 g q67 s71 (fun s74 =>
            h_k s74 o0 = 32 ∧ let s77 : h_S := h_sr s74 o0 8 (some q67)
            1 ≤ c72 ∧ 4 ≤ d73 ∧ ∀ q78 : Nat, h_k s77 q78 = 0 → let s82 : h_S := h_nw s77 q78 5 4
            let c83 : Nat := c72 - 1
            let d84 : Nat := d73 - 4
            h_k s82 o0 = 32 ∧ let s86 : h_S := h_sr s82 o0 9 (some q78)
            1 ≤ c83 ∧ 16 ≤ d84 ∧ ∀ q87 : Nat, h_k s86 q87 = 0 → let s91 : h_S := h_nw s86 q87 30 16
            let c92 : Nat := c83 - 1
            let d93 : Nat := d84 - 16
            ∃ mc96 ms97 : Nat, mc96 ≤ c92 ∧ ms97 ≤ d93 ∧ w_X9_init q87 s91 mc96 ms97 (fun s94 =>
              h_k s94 o0 = 32 ∧ let s101 : h_S := h_sr s94 o0 10 (some q87)
              1 ≤ (c92 - mc96) ∧ 64 ≤ (d93 - ms97) ∧ ∀ q102 : Nat, h_k s101 q102 = 0 → let s106 : h_S := h_nw s101 q102 1 64
              let c107 : Nat := (c92 - mc96) - 1
              let d108 : Nat := (d93 - ms97) - 64
              h_k s106 o0 = 32 ∧ let s110 : h_S := h_sr s106 o0 11 (some q102)
              let s111 : h_S := h_si s110 o0 12 (1003 : Int32)
              1 ≤ c107 ∧ 4800 ≤ d108 ∧ ∀ q112 : Nat, h_k s111 q112 = 0 → let s116 : h_S := h_nw s111 q112 1 4800
              let c117 : Nat := c107 - 1
              let d118 : Nat := d108 - 4800
              h_k s116 o0 = 32 ∧ let s120 : h_S := h_sr s116 o0 13 (some q112)
              1 ≤ c117 ∧ 200 ≤ d118 ∧ ∀ q121 : Nat, h_k s120 q121 = 0 → let s125 : h_S := h_nw s120 q121 1 200
              let c126 : Nat := c117 - 1
              let d127 : Nat := d118 - 200
              h_k s125 o0 = 32 ∧ let s129 : h_S := h_sr s125 o0 14 (some q121)
              1 ≤ c126 ∧ 1024 ≤ d127 ∧ ∀ q130 : Nat, h_k s129 q130 = 0 → let s134 : h_S := h_nw s129 q130 1 1024
              let c135 : Nat := c126 - 1
              let d136 : Nat := d127 - 1024
              h_k s134 o0 = 32 ∧ let s138 : h_S := h_sr s134 o0 16 (some q130)
              ∃ n, w_X11_init_140 g Q n o0 (0 : Int32) s138 c135 d136))))))
def w_X11_mix (x0 : Int32) (x1 : Int32) (s : h_S) (Q : Int32 → h_S → Prop) : Prop :=
  let v1 : Int32 := ((x0 * (-1640531535 : Int32)) + x1)
  let v2 : Int32 := ((v1 ^^^ (h_ushr v1 (15 : Int32))) * (-2048144789 : Int32))
  Q (v2 ^^^ (h_ushr v2 (13 : Int32))) s
def w_X11_acted_66 (Q : Int32 → h_S → Prop) (x1 : Int32) (s : h_S) : Prop :=
  Q x1 s
def w_X11_acted (o0 : Nat) (x1 : Int32) (s : h_S) (Q : Int32 → h_S → Prop) : Prop :=
  h_k s o0 = 32 ∧ (if (600 : Int32) ≤ ((h_i s o0 0) + (1 : Int32)) then
    w_X11_acted_66 Q x1 s
  else
    ∃ a3, (h_r s o0 2) = some a3 ∧ h_k s a3 = 1 ∧ vp_in (h_i s o0 0) (h_n s a3) ∧ w_X11_mix (h_i s a3 (h_ix (h_i s o0 0))) x1 s (fun p7 s6 =>
      ∃ a8, (h_r s o0 2) = some a8 ∧ h_k s6 a8 = 1 ∧ vp_in ((h_i s o0 0) + (1 : Int32)) (h_n s6 a8) ∧ let s11 : h_S := h_si s6 a8 (h_ix ((h_i s o0 0) + (1 : Int32))) p7
      h_k s11 o0 = 32 ∧ ∃ a13, (h_r s11 o0 3) = some a13 ∧ h_k s11 a13 = 1 ∧ vp_in (h_i s11 o0 0) (h_n s11 a13) ∧ ∃ a16, (h_r s11 o0 3) = some a16 ∧ h_k s11 a16 = 1 ∧ vp_in ((h_i s11 o0 0) + (1 : Int32)) (h_n s11 a16) ∧ let s19 : h_S := h_si s11 a16 (h_ix ((h_i s11 o0 0) + (1 : Int32))) (h_i s11 a13 (h_ix (h_i s11 o0 0)))
      let s20 : h_S := h_si s19 o0 0 ((h_i s19 o0 0) + (1 : Int32))
      w_X11_acted_66 Q x1 s20))
def w_X11_hand (o0 : Nat) (s : h_S) (Q : Int32 → h_S → Prop) : Prop :=
  h_k s o0 = 32 ∧ (if (h_i s o0 1) < (8 : Int32) then
    let s3 : h_S := h_si s o0 1 ((h_i s o0 1) + (1 : Int32))
    w_X11_acted o0 ((h_i s3 o0 1) - (1 : Int32)) s3 (fun p5 s4 =>
      Q p5 s4)
  else
    Q (-4 : Int32) s)
def w_X11_groupAsOf_29 (Q : Int32 → h_S → Prop) (y0 : Int32) (s : h_S) : Prop :=
  Q y0 s
def w_X11_groupAsOf (o0 : Nat) (x1 : Int32) (x2 : Int32) (s : h_S) (Q : Int32 → h_S → Prop) : Prop :=
  w_X11_within x2 (600 : Int32) s (fun p2 s1 =>
    if p2 = 0 then
      w_X11_groupAsOf_29 Q (0 : Int32) s1
    else
      h_k s1 o0 = 32 ∧ ∃ a5, (h_r s1 o0 3) = some a5 ∧ h_k s1 a5 = 1 ∧ vp_in x2 (h_n s1 a5) ∧ w_X11_groupAsOf_29 Q ((h_ushr (h_i s1 a5 (h_ix x2)) ((8 : Int32) * x1)) &&& (255 : Int32)) s1)
def w_X11_group (o0 : Nat) (x1 : Int32) (x2 : Int32) (s : h_S) (Q : Int32 → h_S → Prop) : Prop :=
  w_X11_within x1 (4 : Int32) s (fun p2 s1 =>
    if p2 = 0 then
      Q (-1 : Int32) s1
    else
      h_k s1 o0 = 32 ∧ (if (h_ushr x2 (h_i s1 o0 1)) = 0 then
        w_X11_groupAsOf o0 x1 (h_i s1 o0 0) s1 (fun p7 s6 =>
          h_k s6 o0 = 32 ∧ ∃ a9, (h_r s6 o0 3) = some a9 ∧ h_k s6 a9 = 1 ∧ vp_in (h_i s6 o0 0) (h_n s6 a9) ∧ let v12 : Int32 := ((h_i s6 a9 (h_ix (h_i s6 o0 0))) &&& (((255 : Int32) <<< (((8 : Int32) * x1) &&& 31)) ^^^ (-1 : Int32)))
          w_X11_acted o0 p7 s6 (fun p14 s13 =>
            h_k s13 o0 = 32 ∧ ∃ a16, (h_r s13 o0 3) = some a16 ∧ h_k s13 a16 = 1 ∧ vp_in (h_i s13 o0 0) (h_n s13 a16) ∧ let s19 : h_S := h_si s13 a16 (h_ix (h_i s13 o0 0)) (v12 ||| (x2 <<< (((8 : Int32) * x1) &&& 31)))
            Q p7 s19))
      else
        Q (-2 : Int32) s1))
def w_X11_isHand (o0 : Nat) (x1 : Int32) (s : h_S) (Q : Int32 → h_S → Prop) : Prop :=
  h_k s o0 = 32 ∧ w_X11_within x1 (h_i s o0 1) s (fun p3 s2 =>
    h_bt p3 ∧ Q p3 s2)
def w_X11_writing (o0 : Nat) (x1 : Int32) (s : h_S) (mc ms : Nat) (Q : Int32 → h_S → Prop) : Prop :=
  h_k s o0 = 32 ∧ w_X11_isHand o0 x1 s (fun p3 s2 =>
    if p3 = 0 then
      Q (-1 : Int32) s2
    else
      h_k s2 o0 = 32 ∧ ∃ a6, (h_r s2 o0 4) = some a6 ∧ h_k s2 a6 = 28 ∧ w_X7_isFull a6 s2 (fun p9 s8 =>
        if p9 = 0 then
          h_k s8 o0 = 32 ∧ ∃ a12, (h_r s8 o0 4) = some a12 ∧ h_k s8 a12 = 28 ∧ ∃ mc16 ms17 : Nat, mc16 ≤ mc ∧ ms17 ≤ ms ∧ w_X7_begin a12 x1 ((h_i s8 o0 0) + (1 : Int32)) s8 mc16 ms17 (fun p15 s14 =>
            h_k s14 o0 = 32 ∧ w_X11_acted o0 p15 s14 (fun p22 s21 =>
              Q p22 s21))
        else
          Q (-4 : Int32) s8))
def w_X11_isWriting (o0 : Nat) (x1 : Int32) (s : h_S) (Q : Int32 → h_S → Prop) : Prop :=
  h_k s o0 = 32 ∧ ∃ a2, (h_r s o0 4) = some a2 ∧ h_k s a2 = 28 ∧ w_X11_within x1 (h_i s a2 0) s (fun p5 s4 =>
    h_bt p5 ∧ Q p5 s4)
def w_X11_takesAhead_33 (Q : Int32 → h_S → Prop) (y0 : Int32) (s : h_S) (bc bs : Nat) : Prop :=
  h_bt y0 ∧ Q y0 s
def w_X11_takesAhead_32 (Q : Int32 → h_S → Prop) (s : h_S) (bc bs : Nat) : Prop :=
  w_X11_takesAhead_33 Q (0 : Int32) s bc bs
def w_X11_takesAhead (o0 : Nat) (x1 : Int32) (x2 : Int32) (s : h_S) (mc ms : Nat) (Q : Int32 → h_S → Prop) : Prop :=
  h_k s o0 = 32 ∧ w_X11_isWriting o0 x1 s (fun p3 s2 =>
    if p3 = 0 then
      w_X11_takesAhead_32 Q s2 mc ms
    else
      if x2 < 0 then
        w_X11_takesAhead_32 Q s2 mc ms
      else
        h_k s2 o0 = 32 ∧ ∃ a7, (h_r s2 o0 4) = some a7 ∧ h_k s2 a7 = 28 ∧ ∃ mc11 ms12 : Nat, mc11 ≤ mc ∧ ms12 ≤ ms ∧ w_X7_sizeAsOf a7 x1 (h_i s2 o0 0) s2 mc11 ms12 (fun p10 s9 =>
          if p10 < x2 then
            w_X11_takesAhead_32 Q s9 (mc - mc11) (ms - ms12)
          else
            w_X11_takesAhead_33 Q (1 : Int32) s9 (mc - mc11) (ms - ms12)))
def w_X11_failed (o0 : Nat) (x1 : Int32) (s : h_S) (Q : Int32 → h_S → Prop) : Prop :=
  h_k s o0 = 32 ∧ let s2 : h_S := h_si s o0 18 x1
  Q ((-10 : Int32) - x1) s2
def w_X11_refusedCells_41 (Q : Int32 → h_S → Prop) (y0 : Int32) (s : h_S) : Prop :=
  Q y0 s
def w_X11_refusedCells (o0 : Nat) (x1 : Int32) (x2 : Int32) (x3 : Int32) (x4 : Int32) (s : h_S) (Q : Int32 → h_S → Prop) : Prop :=
  w_X11_within x2 (3 : Int32) s (fun p2 s1 =>
    if p2 = 0 then
      Q (-2 : Int32) s1
    else
      h_k s1 o0 = 32 ∧ ∃ a5, (h_r s1 o0 9) = some a5 ∧ h_k s1 a5 = 5 ∧ vp_in x1 (h_n s1 a5) ∧ ∃ a8, (h_r s1 a5 (h_ix x1)) = some a8 ∧ h_k s1 a8 = 26 ∧ w_X5_faultOf a8 x2 x3 x4 s1 (fun p11 s10 =>
        if p11 = 0 then
          w_X11_refusedCells_41 Q (0 : Int32) s10
        else
          h_k s10 o0 = 32 ∧ w_X11_failed o0 p11 s10 (fun p15 s14 =>
            w_X11_refusedCells_41 Q p15 s14)))
def w_X11_put_22 (g : h_G) (Q : Int32 → h_S → Prop) (s : h_S) (bc bs : Nat) : Prop :=
  Q (-1 : Int32) s
def w_X11_put_66 (g : h_G) (Q : Int32 → h_S → Prop) (s : h_S) (bc bs : Nat) : Prop :=
  Q (-2 : Int32) s
def w_X11_put_121 (g : h_G) (Q : Int32 → h_S → Prop) (s : h_S) (bc bs : Nat) : Prop :=
  Q (-4 : Int32) s
def w_X11_put_127b (g : h_G) (Q : Int32 → h_S → Prop) (K127 : Nat → Int32 → Int32 → Int32 → Int32 → Int32 → Int32 → h_S → Nat → Nat → Prop) (o0 : Nat) (x1 : Int32) (x3 : Int32) (x5 : Int32) (x6 : Int32) (x8 : Int32) (x9 : Int32) (s : h_S) (bc bs : Nat) : Prop :=
  if x6 ≤ x9 then
    h_k s o0 = 32 ∧ w_X11_acted o0 x8 s (fun p4 s3 =>
      Q p4 s3)
  else
    h_k s o0 = 32 ∧ ∃ a6, (h_r s o0 9) = some a6 ∧ h_k s a6 = 5 ∧ vp_in x3 (h_n s a6) ∧ ∃ a9, (h_r s a6 (h_ix x3)) = some a9 ∧ h_k s a9 = 26 ∧ w_X5_cellAt a9 (x5 + x9) s (fun p12 s11 =>
      h_k s11 o0 = 32 ∧ ∃ a14, (h_r s o0 4) = some a14 ∧ h_k s11 a14 = 28 ∧ ∃ mc18 ms19 : Nat, mc18 ≤ bc ∧ ms19 ≤ bs ∧ w_X7_addWord g a14 p12 x1 ((h_i s11 o0 0) + (1 : Int32)) s11 mc18 ms19 (fun s16 =>
        K127 o0 x1 x3 x5 x6 x8 (x9 + (1 : Int32)) s16 (bc - mc18) (bs - ms19)))
def w_X11_put_127 (g : h_G) (Q : Int32 → h_S → Prop) : Nat → Nat → Int32 → Int32 → Int32 → Int32 → Int32 → Int32 → h_S → Nat → Nat → Prop
  | 0, _, _, _, _, _, _, _, _, _, _ => False
  | n + 1, o0, x1, x3, x5, x6, x8, x9, s, bc, bs => w_X11_put_127b g Q (w_X11_put_127 g Q n) o0 x1 x3 x5 x6 x8 x9 s bc bs
def w_X11_put (g : h_G) (o0 : Nat) (x1 : Int32) (x2 : Int32) (x3 : Int32) (x4 : Int32) (x5 : Int32) (x6 : Int32) (s : h_S) (mc ms : Nat) (Q : Int32 → h_S → Prop) : Prop :=
  h_k s o0 = 32 ∧ let s2 : h_S := h_si s o0 18 (0 : Int32)
  ∃ mc5 ms6 : Nat, mc5 ≤ mc ∧ ms6 ≤ ms ∧ w_X11_takesAhead o0 x1 x2 s2 mc5 ms6 (fun p4 s3 =>
    if p4 = 0 then
      w_X11_put_22 g Q s3 (mc - mc5) (ms - ms6)
    else
      w_X11_within x3 (4 : Int32) s3 (fun p11 s10 =>
        if p11 = 0 then
          w_X11_put_22 g Q s10 (mc - mc5) (ms - ms6)
        else
          h_k s10 o0 = 32 ∧ w_X11_refusedCells o0 x3 x4 x5 x6 s10 (fun p15 s14 =>
            if p15 = 0 then
              if x6 = 0 then
                w_X11_put_66 g Q s14 (mc - mc5) (ms - ms6)
              else
                h_k s14 o0 = 32 ∧ ∃ a19, (h_r s14 o0 9) = some a19 ∧ h_k s14 a19 = 5 ∧ vp_in x3 (h_n s14 a19) ∧ ∃ a22, (h_r s14 a19 (h_ix x3)) = some a22 ∧ h_k s14 a22 = 26 ∧ w_X5_areCodes a22 x5 x6 s14 (fun p25 s24 =>
                  if p25 = 0 then
                    w_X11_put_66 g Q s24 (mc - mc5) (ms - ms6)
                  else
                    h_k s24 o0 = 32 ∧ ∃ a28, (h_r s24 o0 4) = some a28 ∧ h_k s24 a28 = 28 ∧ w_X7_wordCount a28 s24 (fun p31 s30 =>
                      if ((500 : Int32) - p31) < x6 then
                        w_X11_put_121 g Q s30 (mc - mc5) (ms - ms6)
                      else
                        h_k s30 o0 = 32 ∧ 1 ≤ (mc - mc5) ∧ 5 ≤ (ms - ms6) ∧ ∀ q34 : Nat, h_k s30 q34 = 0 → let s38 : h_S := h_nw s30 q34 23 5
                        let c39 : Nat := (mc - mc5) - 1
                        let d40 : Nat := (ms - ms6) - 5
                        w_X2_init q34 (0 : Int32) p31 x6 (-9 : Int32) (-9 : Int32) s38 (fun s41 =>
                          h_k s41 o0 = 32 ∧ ∃ a44, (h_r s30 o0 4) = some a44 ∧ h_k s41 a44 = 28 ∧ ∃ mc48 ms49 : Nat, mc48 ≤ c39 ∧ ms49 ≤ d40 ∧ w_X7_bring a44 x1 x2 (some q34) (h_i s41 o0 0) s41 mc48 ms49 (fun p47 s46 =>
                            if p47 = 0 then
                              w_X11_put_121 g Q s46 (c39 - mc48) (d40 - ms49)
                            else
                              ∃ n, w_X11_put_127 g Q n o0 x1 x3 x5 x6 p31 (0 : Int32) s46 (c39 - mc48) (d40 - ms49)))))
            else
              Q p15 s14)))
def w_X11_allows_20 (Q : Int32 → h_S → Prop) (s : h_S) : Prop :=
  Q 0 s
def w_X11_allows_45 (Q : Int32 → h_S → Prop) (y0 : Int32) (s : h_S) : Prop :=
  h_bt y0 ∧ Q y0 s
def w_X11_allows_69 (Q : Int32 → h_S → Prop) (y0 : Int32) (s : h_S) : Prop :=
  h_bt y0 ∧ Q y0 s
def w_X11_allows (o0 : Nat) (r1 : Option Nat) (x2 : Int32) (x3 : Int32) (x4 : Int32) (s : h_S) (Q : Int32 → h_S → Prop) : Prop :=
  ∃ a1, r1 = some a1 ∧ h_k s a1 = 24 ∧ w_X3_holdsAt a1 x4 s (fun p4 s3 =>
    if p4 = 0 then
      w_X11_allows_20 Q s3
    else
      ∃ a6, r1 = some a6 ∧ h_k s3 a6 = 24 ∧ (if ((h_i s3 a6 4) &&& ((1 : Int32) <<< (x3 &&& 31))) = 0 then
        w_X11_allows_20 Q s3
      else
        ∃ a9, r1 = some a9 ∧ h_k s3 a9 = 24 ∧ w_X3_isLent a9 s3 (fun p12 s11 =>
          if p12 = 0 then
            ∃ a14, r1 = some a14 ∧ h_k s11 a14 = 24 ∧ h_k s11 o0 = 32 ∧ w_X11_groupAsOf o0 (h_i s11 a14 3) x4 s11 (fun p18 s17 =>
              if ((p18 >>> (x2 &&& 31)) &&& (1 : Int32)) = (1 : Int32) then
                w_X11_allows_69 Q (1 : Int32) s17
              else
                w_X11_allows_69 Q (0 : Int32) s17)
          else
            ∃ a20, r1 = some a20 ∧ h_k s11 a20 = 24 ∧ (if (h_i s11 a20 3) = ((8 : Int32) + x2) then
              w_X11_allows_45 Q (1 : Int32) s11
            else
              w_X11_allows_45 Q (0 : Int32) s11))))
def w_X11_reason_69 (Q : Int32 → h_S → Prop) (K18 : Nat → Int32 → Int32 → Int32 → Int32 → Int32 → h_S → Prop) (o0 : Nat) (x1 : Int32) (x2 : Int32) (x3 : Int32) (x4 : Int32) (x5 : Int32) (s : h_S) : Prop :=
  K18 o0 x1 x2 x3 x4 (x5 + (1 : Int32)) s
def w_X11_reason_18b (Q : Int32 → h_S → Prop) (K18 : Nat → Int32 → Int32 → Int32 → Int32 → Int32 → h_S → Prop) (o0 : Nat) (x1 : Int32) (x2 : Int32) (x3 : Int32) (x4 : Int32) (x5 : Int32) (s : h_S) : Prop :=
  h_k s o0 = 32 ∧ ∃ a2, (h_r s o0 8) = some a2 ∧ h_k s a2 = 20 ∧ w_Jx4a65c_size_8abf5 a2 s (fun p5 s4 =>
    if p5 ≤ x5 then
      Q (-9 : Int32) s4
    else
      h_k s4 o0 = 32 ∧ ∃ a8, (h_r s4 o0 8) = some a8 ∧ h_k s4 a8 = 20 ∧ w_Jx4a65c_get_915e3 a8 x5 s4 (fun p11 s10 =>
        (∀ x, p11 = some x → h_k s10 x = 24) ∧ ∃ a13, p11 = some a13 ∧ h_k s10 a13 = 24 ∧ (if (h_i s10 a13 0) = x2 then
          h_k s10 o0 = 32 ∧ w_X11_allows o0 p11 x1 x3 x4 s10 (fun p18 s17 =>
            if p18 = 0 then
              w_X11_reason_69 Q K18 o0 x1 x2 x3 x4 x5 s17
            else
              Q x5 s17)
        else
          w_X11_reason_69 Q K18 o0 x1 x2 x3 x4 x5 s10)))
def w_X11_reason_18 (Q : Int32 → h_S → Prop) : Nat → Nat → Int32 → Int32 → Int32 → Int32 → Int32 → h_S → Prop
  | 0, _, _, _, _, _, _, _ => False
  | n + 1, o0, x1, x2, x3, x4, x5, s => w_X11_reason_18b Q (w_X11_reason_18 Q n) o0 x1 x2 x3 x4 x5 s
def w_X11_reason (o0 : Nat) (x1 : Int32) (x2 : Int32) (x3 : Int32) (x4 : Int32) (s : h_S) (Q : Int32 → h_S → Prop) : Prop :=
  h_k s o0 = 32 ∧ ∃ a2, (h_r s o0 4) = some a2 ∧ h_k s a2 = 28 ∧ w_X7_ownerOf a2 x2 s (fun p5 s4 =>
    if p5 = x1 then
      Q (99 : Int32) s4
    else
      ∃ n, w_X11_reason_18 Q n o0 x1 x2 x3 x4 (0 : Int32) s4)
def w_X11_mayUse_19 (Q : Int32 → h_S → Prop) (y0 : Int32) (s : h_S) : Prop :=
  h_bt y0 ∧ Q y0 s
def w_X11_mayUse (o0 : Nat) (x1 : Int32) (x2 : Int32) (x3 : Int32) (x4 : Int32) (s : h_S) (Q : Int32 → h_S → Prop) : Prop :=
  h_k s o0 = 32 ∧ w_X11_reason o0 x1 x2 x3 x4 s (fun p3 s2 =>
    if p3 = (-9 : Int32) then
      w_X11_mayUse_19 Q (0 : Int32) s2
    else
      w_X11_mayUse_19 Q (1 : Int32) s2)
def w_X11_usable_39 (Q : Int32 → h_S → Prop) (K6 : Nat → Int32 → Int32 → Int32 → Int32 → Int32 → h_S → Prop) (o0 : Nat) (x1 : Int32) (x2 : Int32) (x3 : Int32) (x4 : Int32) (x5 : Int32) (s : h_S) : Prop :=
  K6 o0 x1 x2 x3 x4 (x5 + (1 : Int32)) s
def w_X11_usable_6b (Q : Int32 → h_S → Prop) (K6 : Nat → Int32 → Int32 → Int32 → Int32 → Int32 → h_S → Prop) (o0 : Nat) (x1 : Int32) (x2 : Int32) (x3 : Int32) (x4 : Int32) (x5 : Int32) (s : h_S) : Prop :=
  h_k s o0 = 32 ∧ ∃ a2, (h_r s o0 4) = some a2 ∧ h_k s a2 = 28 ∧ (if (h_i s a2 0) ≤ x5 then
    Q x4 s
  else
    w_X11_mayUse o0 x1 x5 x2 x3 s (fun p6 s5 =>
      if p6 = 0 then
        w_X11_usable_39 Q K6 o0 x1 x2 x3 x4 x5 s5
      else
        let v8 : Int32 := (x4 ||| ((1 : Int32) <<< (x5 &&& 31)))
        w_X11_usable_39 Q K6 o0 x1 x2 x3 v8 x5 s5))
def w_X11_usable_6 (Q : Int32 → h_S → Prop) : Nat → Nat → Int32 → Int32 → Int32 → Int32 → Int32 → h_S → Prop
  | 0, _, _, _, _, _, _, _ => False
  | n + 1, o0, x1, x2, x3, x4, x5, s => w_X11_usable_6b Q (w_X11_usable_6 Q n) o0 x1 x2 x3 x4 x5 s
def w_X11_usable (o0 : Nat) (x1 : Int32) (x2 : Int32) (x3 : Int32) (s : h_S) (Q : Int32 → h_S → Prop) : Prop :=
  ∃ n, w_X11_usable_6 Q n o0 x1 x2 x3 (0 : Int32) (0 : Int32) s
def w_X11_showsWith_40 (Q : Int32 → h_S → Prop) (y0 : Int32) (s : h_S) (bc bs : Nat) : Prop :=
  Q y0 s
def w_X11_showsWith (o0 : Nat) (x1 : Int32) (x2 : Int32) (r3 : Option Nat) (s : h_S) (mc ms : Nat) (Q : Int32 → h_S → Prop) : Prop :=
  h_k s o0 = 32 ∧ ∃ a2, (h_r s o0 4) = some a2 ∧ h_k s a2 = 28 ∧ ∃ mc6 ms7 : Nat, mc6 ≤ mc ∧ ms7 ≤ ms ∧ w_X7_bring a2 x1 x2 r3 (h_i s o0 0) s mc6 ms7 (fun p5 s4 =>
    if p5 = 0 then
      w_X11_showsWith_40 Q (-4 : Int32) s4 (mc - mc6) (ms - ms7)
    else
      h_k s4 o0 = 32 ∧ ∃ a12, (h_r s4 o0 4) = some a12 ∧ h_k s4 a12 = 28 ∧ ∃ mc16 ms17 : Nat, mc16 ≤ (mc - mc6) ∧ ms17 ≤ (ms - ms7) ∧ w_X7_sizeAsOf a12 x1 ((h_i s4 o0 0) + (1 : Int32)) s4 mc16 ms17 (fun p15 s14 =>
        h_k s14 o0 = 32 ∧ w_X11_acted o0 p15 s14 (fun p22 s21 =>
          w_X11_showsWith_40 Q p22 s21 ((mc - mc6) - mc16) ((ms - ms7) - ms17))))
def w_X11_seen (o0 : Nat) (x1 : Int32) (x2 : Int32) (x3 : Int32) (x4 : Int32) (s : h_S) (mc ms : Nat) (Q : Int32 → h_S → Prop) : Prop :=
  h_k s o0 = 32 ∧ ∃ mc4 ms5 : Nat, mc4 ≤ mc ∧ ms5 ≤ ms ∧ w_X11_takesAhead o0 x1 x2 s mc4 ms5 (fun p3 s2 =>
    if p3 = 0 then
      Q (-1 : Int32) s2
    else
      if (1 : Int32) ≤ x4 then
        h_k s2 o0 = 32 ∧ ∃ a11, (h_r s2 o0 4) = some a11 ∧ h_k s2 a11 = 28 ∧ w_X7_areWords a11 x3 x4 s2 (fun p14 s13 =>
          if p14 = 0 then
            Q (-1 : Int32) s13
          else
            h_k s13 o0 = 32 ∧ ∃ a17, (h_r s13 o0 4) = some a17 ∧ h_k s13 a17 = 28 ∧ w_X7_homesOf a17 x3 x4 s13 (fun p20 s19 =>
              h_k s19 o0 = 32 ∧ ∃ a22, (h_r s19 o0 4) = some a22 ∧ h_k s19 a22 = 28 ∧ w_X7_ownerOf a22 x1 s19 (fun p25 s24 =>
                h_k s24 o0 = 32 ∧ w_X11_usable o0 p25 (1 : Int32) (h_i s24 o0 0) s24 (fun p28 s27 =>
                  if (p20 &&& (p28 ^^^ (-1 : Int32))) = 0 then
                    1 ≤ (mc - mc4) ∧ 5 ≤ (ms - ms5) ∧ ∀ q30 : Nat, h_k s27 q30 = 0 → let s34 : h_S := h_nw s27 q30 23 5
                    let c35 : Nat := (mc - mc4) - 1
                    let d36 : Nat := (ms - ms5) - 5
                    w_X2_init q30 (1 : Int32) x3 x4 (-9 : Int32) (-9 : Int32) s34 (fun s37 =>
                      h_k s37 o0 = 32 ∧ ∃ mc42 ms43 : Nat, mc42 ≤ c35 ∧ ms43 ≤ d36 ∧ w_X11_showsWith o0 x1 x2 (some q30) s37 mc42 ms43 (fun p41 s40 =>
                        Q p41 s40))
                  else
                    Q (-3 : Int32) s27))))
      else
        Q (-2 : Int32) s2)
def w_X11_isMoment_17 (Q : Int32 → h_S → Prop) (y0 : Int32) (s : h_S) : Prop :=
  h_bt y0 ∧ Q y0 s
def w_X11_isMoment_16 (Q : Int32 → h_S → Prop) (s : h_S) : Prop :=
  w_X11_isMoment_17 Q (0 : Int32) s
def w_X11_isMoment (o0 : Nat) (x1 : Int32) (s : h_S) (Q : Int32 → h_S → Prop) : Prop :=
  if x1 < 0 then
    w_X11_isMoment_16 Q s
  else
    h_k s o0 = 32 ∧ (if (h_i s o0 0) < x1 then
      w_X11_isMoment_16 Q s
    else
      w_X11_isMoment_17 Q (1 : Int32) s)
def w_X11_isStretch_27 (Q : Int32 → h_S → Prop) (y0 : Int32) (s : h_S) : Prop :=
  h_bt y0 ∧ Q y0 s
def w_X11_isStretch_26 (Q : Int32 → h_S → Prop) (s : h_S) : Prop :=
  w_X11_isStretch_27 Q (0 : Int32) s
def w_X11_isStretch (x0 : Int32) (x1 : Int32) (s : h_S) (Q : Int32 → h_S → Prop) : Prop :=
  w_X11_within x0 (500 : Int32) s (fun p2 s1 =>
    if p2 = 0 then
      w_X11_isStretch_26 Q s1
    else
      if x1 < (1 : Int32) then
        w_X11_isStretch_26 Q s1
      else
        if (500 : Int32) < x1 then
          w_X11_isStretch_26 Q s1
        else
          w_X11_isStretch_27 Q (1 : Int32) s1)
def w_X11_span_26 (Q : Int32 → h_S → Prop) (s : h_S) (bc bs : Nat) : Prop :=
  Q (-1 : Int32) s
def w_X11_span (o0 : Nat) (x1 : Int32) (x2 : Int32) (x3 : Int32) (x4 : Int32) (x5 : Int32) (x6 : Int32) (s : h_S) (mc ms : Nat) (Q : Int32 → h_S → Prop) : Prop :=
  h_k s o0 = 32 ∧ ∃ mc4 ms5 : Nat, mc4 ≤ mc ∧ ms5 ≤ ms ∧ w_X11_takesAhead o0 x1 x2 s mc4 ms5 (fun p3 s2 =>
    if p3 = 0 then
      w_X11_span_26 Q s2 (mc - mc4) (ms - ms5)
    else
      h_k s2 o0 = 32 ∧ w_X11_isWriting o0 x3 s2 (fun p11 s10 =>
        if p11 = 0 then
          w_X11_span_26 Q s10 (mc - mc4) (ms - ms5)
        else
          h_k s10 o0 = 32 ∧ w_X11_isMoment o0 x4 s10 (fun p15 s14 =>
            if p15 = 0 then
              w_X11_span_26 Q s14 (mc - mc4) (ms - ms5)
            else
              w_X11_isStretch x5 x6 s14 (fun p18 s17 =>
                if p18 = 0 then
                  Q (-2 : Int32) s17
                else
                  h_k s17 o0 = 32 ∧ ∃ a21, (h_r s17 o0 4) = some a21 ∧ h_k s17 a21 = 28 ∧ w_X7_ownerOf a21 x1 s17 (fun p24 s23 =>
                    h_k s23 o0 = 32 ∧ w_X11_mayUse o0 p24 x3 (1 : Int32) (h_i s23 o0 0) s23 (fun p27 s26 =>
                      if p27 = 0 then
                        Q (-3 : Int32) s26
                      else
                        1 ≤ (mc - mc4) ∧ 5 ≤ (ms - ms5) ∧ ∀ q29 : Nat, h_k s26 q29 = 0 → let s33 : h_S := h_nw s26 q29 23 5
                        let c34 : Nat := (mc - mc4) - 1
                        let d35 : Nat := (ms - ms5) - 5
                        w_X2_init q29 (2 : Int32) x5 x6 x3 x4 s33 (fun s36 =>
                          h_k s36 o0 = 32 ∧ ∃ mc41 ms42 : Nat, mc41 ≤ c34 ∧ ms42 ≤ d35 ∧ w_X11_showsWith o0 x1 x2 (some q29) s36 mc41 ms42 (fun p40 s39 =>
                            Q p40 s39))))))))
def w_X11_live_17 (Q : Int32 → h_S → Prop) (s : h_S) (bc bs : Nat) : Prop :=
  Q (-1 : Int32) s
def w_X11_live (o0 : Nat) (x1 : Int32) (x2 : Int32) (x3 : Int32) (x4 : Int32) (x5 : Int32) (s : h_S) (mc ms : Nat) (Q : Int32 → h_S → Prop) : Prop :=
  h_k s o0 = 32 ∧ ∃ mc4 ms5 : Nat, mc4 ≤ mc ∧ ms5 ≤ ms ∧ w_X11_takesAhead o0 x1 x2 s mc4 ms5 (fun p3 s2 =>
    if p3 = 0 then
      w_X11_live_17 Q s2 (mc - mc4) (ms - ms5)
    else
      h_k s2 o0 = 32 ∧ w_X11_isWriting o0 x3 s2 (fun p11 s10 =>
        if p11 = 0 then
          w_X11_live_17 Q s10 (mc - mc4) (ms - ms5)
        else
          w_X11_isStretch x4 x5 s10 (fun p14 s13 =>
            if p14 = 0 then
              Q (-2 : Int32) s13
            else
              h_k s13 o0 = 32 ∧ ∃ a17, (h_r s13 o0 4) = some a17 ∧ h_k s13 a17 = 28 ∧ w_X7_ownerOf a17 x1 s13 (fun p20 s19 =>
                h_k s19 o0 = 32 ∧ w_X11_mayUse o0 p20 x3 (1 : Int32) (h_i s19 o0 0) s19 (fun p23 s22 =>
                  if p23 = 0 then
                    Q (-3 : Int32) s22
                  else
                    h_k s22 o0 = 32 ∧ ∃ a26, (h_r s22 o0 4) = some a26 ∧ h_k s22 a26 = 28 ∧ w_X7_stepsBetween a26 x3 x1 (1 : Int32) s22 (fun p29 s28 =>
                      if p29 = (-9 : Int32) then
                        1 ≤ (mc - mc4) ∧ 5 ≤ (ms - ms5) ∧ ∀ q31 : Nat, h_k s28 q31 = 0 → let s35 : h_S := h_nw s28 q31 23 5
                        let c36 : Nat := (mc - mc4) - 1
                        let d37 : Nat := (ms - ms5) - 5
                        w_X2_init q31 (3 : Int32) x4 x5 x3 (-9 : Int32) s35 (fun s38 =>
                          h_k s38 o0 = 32 ∧ ∃ mc43 ms44 : Nat, mc43 ≤ c36 ∧ ms44 ≤ d37 ∧ w_X11_showsWith o0 x1 x2 (some q31) s38 mc43 ms44 (fun p42 s41 =>
                            Q p42 s41))
                      else
                        Q ((-100 : Int32) - p29) s28))))))
def w_X11_isPlaceOf_32 (Q : Int32 → h_S → Prop) (y0 : Int32) (s : h_S) (bc bs : Nat) : Prop :=
  h_bt y0 ∧ Q y0 s
def w_X11_isPlaceOf_31 (Q : Int32 → h_S → Prop) (s : h_S) (bc bs : Nat) : Prop :=
  w_X11_isPlaceOf_32 Q (0 : Int32) s bc bs
def w_X11_isPlaceOf (o0 : Nat) (x1 : Int32) (x2 : Int32) (s : h_S) (mc ms : Nat) (Q : Int32 → h_S → Prop) : Prop :=
  h_k s o0 = 32 ∧ w_X11_isWriting o0 x1 s (fun p3 s2 =>
    if p3 = 0 then
      w_X11_isPlaceOf_31 Q s2 mc ms
    else
      h_k s2 o0 = 32 ∧ ∃ a6, (h_r s2 o0 4) = some a6 ∧ h_k s2 a6 = 28 ∧ ∃ mc10 ms11 : Nat, mc10 ≤ mc ∧ ms11 ≤ ms ∧ w_X7_sizeAsOf a6 x1 (h_i s2 o0 0) s2 mc10 ms11 (fun p9 s8 =>
        w_X11_within x2 p9 s8 (fun p15 s14 =>
          if p15 = 0 then
            w_X11_isPlaceOf_31 Q s14 (mc - mc10) (ms - ms11)
          else
            w_X11_isPlaceOf_32 Q (1 : Int32) s14 (mc - mc10) (ms - ms11))))
def w_X11_takeOut (o0 : Nat) (x1 : Int32) (x2 : Int32) (x3 : Int32) (s : h_S) (mc ms : Nat) (Q : Int32 → h_S → Prop) : Prop :=
  h_k s o0 = 32 ∧ ∃ a2, (h_r s o0 4) = some a2 ∧ h_k s a2 = 28 ∧ ∃ mc6 ms7 : Nat, mc6 ≤ mc ∧ ms7 ≤ ms ∧ w_X7_lift a2 x1 x2 x3 (h_i s o0 0) s mc6 ms7 (fun s4 =>
    h_k s4 o0 = 32 ∧ ∃ a11, (h_r s4 o0 4) = some a11 ∧ h_k s4 a11 = 28 ∧ ∃ mc15 ms16 : Nat, mc15 ≤ (mc - mc6) ∧ ms16 ≤ (ms - ms7) ∧ w_X7_keepLaid a11 x1 ((h_i s4 o0 0) + (1 : Int32)) s4 mc15 ms16 (fun p14 s13 =>
      h_bt p14 ∧ Q p14 s13))
def w_X11_cut_34 (Q : Int32 → h_S → Prop) (s : h_S) (bc bs : Nat) : Prop :=
  Q (-2 : Int32) s
def w_X11_cut (o0 : Nat) (x1 : Int32) (x2 : Int32) (x3 : Int32) (s : h_S) (mc ms : Nat) (Q : Int32 → h_S → Prop) : Prop :=
  h_k s o0 = 32 ∧ ∃ mc4 ms5 : Nat, mc4 ≤ mc ∧ ms5 ≤ ms ∧ w_X11_isPlaceOf o0 x1 x2 s mc4 ms5 (fun p3 s2 =>
    if p3 = 0 then
      Q (-1 : Int32) s2
    else
      if x3 < (1 : Int32) then
        w_X11_cut_34 Q s2 (mc - mc4) (ms - ms5)
      else
        h_k s2 o0 = 32 ∧ ∃ a11, (h_r s2 o0 4) = some a11 ∧ h_k s2 a11 = 28 ∧ ∃ mc15 ms16 : Nat, mc15 ≤ (mc - mc4) ∧ ms16 ≤ (ms - ms5) ∧ w_X7_sizeAsOf a11 x1 (h_i s2 o0 0) s2 mc15 ms16 (fun p14 s13 =>
          if x3 ≤ (p14 - x2) then
            h_k s13 o0 = 32 ∧ ∃ mc23 ms24 : Nat, mc23 ≤ ((mc - mc4) - mc15) ∧ ms24 ≤ ((ms - ms5) - ms16) ∧ w_X11_takeOut o0 x1 x2 x3 s13 mc23 ms24 (fun p22 s21 =>
              if p22 = 0 then
                Q (-4 : Int32) s21
              else
                h_k s21 o0 = 32 ∧ ∃ a29, (h_r s21 o0 4) = some a29 ∧ h_k s21 a29 = 28 ∧ ∃ mc33 ms34 : Nat, mc33 ≤ (((mc - mc4) - mc15) - mc23) ∧ ms34 ≤ (((ms - ms5) - ms16) - ms24) ∧ w_X7_sizeAsOf a29 x1 ((h_i s21 o0 0) + (1 : Int32)) s21 mc33 ms34 (fun p32 s31 =>
                  h_k s31 o0 = 32 ∧ w_X11_acted o0 p32 s31 (fun p39 s38 =>
                    Q p39 s38)))
          else
            w_X11_cut_34 Q s13 ((mc - mc4) - mc15) ((ms - ms5) - ms16)))
def w_X11_move_19 (Q : Int32 → h_S → Prop) (s : h_S) (bc bs : Nat) : Prop :=
  Q (-1 : Int32) s
def w_X11_move_44 (Q : Int32 → h_S → Prop) (s : h_S) (bc bs : Nat) : Prop :=
  Q (-2 : Int32) s
def w_X11_move_97 (Q : Int32 → h_S → Prop) (o0 : Nat) (x1 : Int32) (y0 : Int32) (t1 : Option Nat) (s : h_S) (bc bs : Nat) : Prop :=
  h_k s o0 = 32 ∧ ∃ a2, t1 = some a2 ∧ h_k s a2 = 28 ∧ ∃ mc6 ms7 : Nat, mc6 ≤ bc ∧ ms7 ≤ bs ∧ w_X7_bringLifted a2 y0 (h_i s o0 0) s mc6 ms7 (fun s4 =>
    h_k s4 o0 = 32 ∧ ∃ a11, (h_r s4 o0 4) = some a11 ∧ h_k s4 a11 = 28 ∧ ∃ mc15 ms16 : Nat, mc15 ≤ (bc - mc6) ∧ ms16 ≤ (bs - ms7) ∧ w_X7_keepLaid a11 x1 ((h_i s4 o0 0) + (1 : Int32)) s4 mc15 ms16 (fun p14 s13 =>
      if p14 = 0 then
        Q (-4 : Int32) s13
      else
        h_k s13 o0 = 32 ∧ ∃ a21, (h_r s13 o0 4) = some a21 ∧ h_k s13 a21 = 28 ∧ w_X7_pieceCount a21 x1 s13 (fun p24 s23 =>
          h_k s23 o0 = 32 ∧ w_X11_acted o0 p24 s23 (fun p27 s26 =>
            Q p27 s26))))
def w_X11_move_64 (Q : Int32 → h_S → Prop) (o0 : Nat) (x1 : Int32) (x2 : Int32) (x3 : Int32) (x4 : Int32) (s : h_S) (bc bs : Nat) : Prop :=
  h_k s o0 = 32 ∧ ∃ a2, (h_r s o0 4) = some a2 ∧ h_k s a2 = 28 ∧ ∃ mc6 ms7 : Nat, mc6 ≤ bc ∧ ms7 ≤ bs ∧ w_X7_lift a2 x1 x2 x3 (h_i s o0 0) s mc6 ms7 (fun s4 =>
    h_k s4 o0 = 32 ∧ (if x4 ≤ x2 then
      w_X11_move_97 Q o0 x1 x4 (h_r s4 o0 4) s4 (bc - mc6) (bs - ms7)
    else
      w_X11_move_97 Q o0 x1 (x4 - x3) (h_r s4 o0 4) s4 (bc - mc6) (bs - ms7)))
def w_X11_move (o0 : Nat) (x1 : Int32) (x2 : Int32) (x3 : Int32) (x4 : Int32) (s : h_S) (mc ms : Nat) (Q : Int32 → h_S → Prop) : Prop :=
  h_k s o0 = 32 ∧ ∃ mc4 ms5 : Nat, mc4 ≤ mc ∧ ms5 ≤ ms ∧ w_X11_isPlaceOf o0 x1 x2 s mc4 ms5 (fun p3 s2 =>
    if p3 = 0 then
      w_X11_move_19 Q s2 (mc - mc4) (ms - ms5)
    else
      h_k s2 o0 = 32 ∧ ∃ mc12 ms13 : Nat, mc12 ≤ (mc - mc4) ∧ ms13 ≤ (ms - ms5) ∧ w_X11_takesAhead o0 x1 x4 s2 mc12 ms13 (fun p11 s10 =>
        if p11 = 0 then
          w_X11_move_19 Q s10 ((mc - mc4) - mc12) ((ms - ms5) - ms13)
        else
          if x3 < (1 : Int32) then
            w_X11_move_44 Q s10 ((mc - mc4) - mc12) ((ms - ms5) - ms13)
          else
            h_k s10 o0 = 32 ∧ ∃ a19, (h_r s10 o0 4) = some a19 ∧ h_k s10 a19 = 28 ∧ ∃ mc23 ms24 : Nat, mc23 ≤ ((mc - mc4) - mc12) ∧ ms24 ≤ ((ms - ms5) - ms13) ∧ w_X7_sizeAsOf a19 x1 (h_i s10 o0 0) s10 mc23 ms24 (fun p22 s21 =>
              if x3 ≤ (p22 - x2) then
                if x4 ≤ x2 then
                  w_X11_move_64 Q o0 x1 x2 x3 x4 s21 (((mc - mc4) - mc12) - mc23) (((ms - ms5) - ms13) - ms24)
                else
                  if (x2 + x3) ≤ x4 then
                    w_X11_move_64 Q o0 x1 x2 x3 x4 s21 (((mc - mc4) - mc12) - mc23) (((ms - ms5) - ms13) - ms24)
                  else
                    Q (-3 : Int32) s21
              else
                w_X11_move_44 Q s21 (((mc - mc4) - mc12) - mc23) (((ms - ms5) - ms13) - ms24))))
def w_X11_again_16 (Q : Int32 → h_S → Prop) (s : h_S) (bc bs : Nat) : Prop :=
  Q (-1 : Int32) s
def w_X11_again (o0 : Nat) (x1 : Int32) (x2 : Int32) (s : h_S) (mc ms : Nat) (Q : Int32 → h_S → Prop) : Prop :=
  h_k s o0 = 32 ∧ w_X11_isWriting o0 x1 s (fun p3 s2 =>
    if p3 = 0 then
      w_X11_again_16 Q s2 mc ms
    else
      h_k s2 o0 = 32 ∧ w_X11_isMoment o0 x2 s2 (fun p7 s6 =>
        if p7 = 0 then
          w_X11_again_16 Q s6 mc ms
        else
          h_k s6 o0 = 32 ∧ ∃ a10, (h_r s6 o0 4) = some a10 ∧ h_k s6 a10 = 28 ∧ ∃ mc14 ms15 : Nat, mc14 ≤ mc ∧ ms15 ≤ ms ∧ w_X7_returnTo a10 x1 x2 ((h_i s6 o0 0) + (1 : Int32)) s6 mc14 ms15 (fun s12 =>
            h_k s12 o0 = 32 ∧ ∃ a19, (h_r s12 o0 4) = some a19 ∧ h_k s12 a19 = 28 ∧ w_X7_pieceCount a19 x1 s12 (fun p22 s21 =>
              h_k s21 o0 = 32 ∧ w_X11_acted o0 p22 s21 (fun p25 s24 =>
                Q p25 s24)))))
def w_X11_length_16 (Q : Int32 → h_S → Prop) (s : h_S) (bc bs : Nat) : Prop :=
  Q (-1 : Int32) s
def w_X11_length (o0 : Nat) (x1 : Int32) (x2 : Int32) (s : h_S) (mc ms : Nat) (Q : Int32 → h_S → Prop) : Prop :=
  h_k s o0 = 32 ∧ w_X11_isWriting o0 x1 s (fun p3 s2 =>
    if p3 = 0 then
      w_X11_length_16 Q s2 mc ms
    else
      h_k s2 o0 = 32 ∧ w_X11_isMoment o0 x2 s2 (fun p7 s6 =>
        if p7 = 0 then
          w_X11_length_16 Q s6 mc ms
        else
          h_k s6 o0 = 32 ∧ ∃ a10, (h_r s6 o0 4) = some a10 ∧ h_k s6 a10 = 28 ∧ ∃ mc14 ms15 : Nat, mc14 ≤ mc ∧ ms15 ≤ ms ∧ w_X7_sizeAsOf a10 x1 x2 s6 mc14 ms15 (fun p13 s12 =>
            Q p13 s12)))
def w_X11_shown_16 (Q : Int32 → h_S → Prop) (s : h_S) (bc bs : Nat) : Prop :=
  Q (-1 : Int32) s
def w_X11_shown_53 (Q : Int32 → h_S → Prop) (y0 : Int32) (s : h_S) (bc bs : Nat) : Prop :=
  Q y0 s
def w_X11_shown (o0 : Nat) (x1 : Int32) (x2 : Int32) (x3 : Int32) (s : h_S) (mc ms : Nat) (Q : Int32 → h_S → Prop) : Prop :=
  h_k s o0 = 32 ∧ w_X11_isWriting o0 x1 s (fun p3 s2 =>
    if p3 = 0 then
      w_X11_shown_16 Q s2 mc ms
    else
      h_k s2 o0 = 32 ∧ w_X11_isMoment o0 x2 s2 (fun p7 s6 =>
        if p7 = 0 then
          w_X11_shown_16 Q s6 mc ms
        else
          h_k s6 o0 = 32 ∧ ∃ a10, (h_r s6 o0 4) = some a10 ∧ h_k s6 a10 = 28 ∧ ∃ mc14 ms15 : Nat, mc14 ≤ mc ∧ ms15 ≤ ms ∧ w_X7_shownOf 6 a10 x1 x2 (0 : Int32) s6 mc14 ms15 (fun p13 s12 =>
            ∃ a18, p13 = some a18 ∧ h_k s12 a18 = 27 ∧ w_X11_within x3 (h_i s12 a18 1) s12 (fun p21 s20 =>
              if p21 = 0 then
                w_X11_shown_53 Q (-1 : Int32) s20 (mc - mc14) (ms - ms15)
              else
                ∃ a23, p13 = some a23 ∧ h_k s20 a23 = 27 ∧ ∃ a25, (h_r s20 a23 2) = some a25 ∧ h_k s20 a25 = 1 ∧ vp_in x3 (h_n s20 a25) ∧ w_X11_shown_53 Q (h_i s20 a25 (h_ix x3)) s20 (mc - mc14) (ms - ms15)))))
def w_X11_pieces_20 (Q : Int32 → h_S → Prop) (y0 : Int32) (s : h_S) : Prop :=
  Q y0 s
def w_X11_pieces (o0 : Nat) (x1 : Int32) (s : h_S) (Q : Int32 → h_S → Prop) : Prop :=
  h_k s o0 = 32 ∧ w_X11_isWriting o0 x1 s (fun p3 s2 =>
    if p3 = 0 then
      w_X11_pieces_20 Q (-1 : Int32) s2
    else
      h_k s2 o0 = 32 ∧ ∃ a6, (h_r s2 o0 4) = some a6 ∧ h_k s2 a6 = 28 ∧ w_X7_pieceCount a6 x1 s2 (fun p9 s8 =>
        w_X11_pieces_20 Q p9 s8))
def w_X11_piece (o0 : Nat) (x1 : Int32) (x2 : Int32) (x3 : Int32) (s : h_S) (Q : Int32 → h_S → Prop) : Prop :=
  h_k s o0 = 32 ∧ w_X11_isWriting o0 x1 s (fun p3 s2 =>
    if p3 = 0 then
      Q (-1 : Int32) s2
    else
      h_k s2 o0 = 32 ∧ ∃ a6, (h_r s2 o0 4) = some a6 ∧ h_k s2 a6 = 28 ∧ w_X7_pieceAt a6 x1 x2 s2 (fun p9 s8 =>
        if p9 = none then
          Q (-1 : Int32) s8
        else
          if x3 = (0 : Int32) then
            ∃ a12, p9 = some a12 ∧ h_k s8 a12 = 23 ∧ Q (h_i s8 a12 0) s8
          else if x3 = (1 : Int32) then
            ∃ a15, p9 = some a15 ∧ h_k s8 a15 = 23 ∧ Q (h_i s8 a15 1) s8
          else if x3 = (2 : Int32) then
            ∃ a18, p9 = some a18 ∧ h_k s8 a18 = 23 ∧ Q (h_i s8 a18 2) s8
          else if x3 = (3 : Int32) then
            ∃ a21, p9 = some a21 ∧ h_k s8 a21 = 23 ∧ Q (h_i s8 a21 3) s8
          else if x3 = (4 : Int32) then
            ∃ a24, p9 = some a24 ∧ h_k s8 a24 = 23 ∧ Q (h_i s8 a24 4) s8
          else 
            Q (-2 : Int32) s8))
def w_X11_word (o0 : Nat) (x1 : Int32) (x2 : Int32) (s : h_S) (Q : Int32 → h_S → Prop) : Prop :=
  h_k s o0 = 32 ∧ ∃ a2, (h_r s o0 4) = some a2 ∧ h_k s a2 = 28 ∧ w_X7_wordAt a2 x1 s (fun p5 s4 =>
    if p5 = none then
      Q (-1 : Int32) s4
    else
      if x2 = (0 : Int32) then
        ∃ a8, p5 = some a8 ∧ h_k s4 a8 = 31 ∧ Q (h_i s4 a8 0) s4
      else if x2 = (1 : Int32) then
        ∃ a11, p5 = some a11 ∧ h_k s4 a11 = 31 ∧ Q (h_i s4 a11 1) s4
      else if x2 = (2 : Int32) then
        ∃ a14, p5 = some a14 ∧ h_k s4 a14 = 31 ∧ Q (h_i s4 a14 2) s4
      else if x2 = (3 : Int32) then
        ∃ a17, p5 = some a17 ∧ h_k s4 a17 = 31 ∧ Q (h_i s4 a17 3) s4
      else if x2 = (4 : Int32) then
        ∃ a20, p5 = some a20 ∧ h_k s4 a20 = 31 ∧ Q (h_i s4 a20 4) s4
      else 
        Q (-2 : Int32) s4)
def w_J7_copyOf_59c91 (r0 : Option Nat) (x1 : Int32) (s : h_S) (mc ms : Nat) (Q : Option Nat → h_S → Prop) : Prop :=
  ∃ a1, r0 = some a1 ∧ h_k s a1 = 1 ∧ (if x1 = (Int32.ofNat (h_n s a1)) then
    ∃ a24, r0 = some a24 ∧ h_k s a24 = 1 ∧ 1 ≤ mc ∧ h_n s a24 ≤ ms ∧ ∀ q26 : Nat, h_k s q26 = 0 → let s30 : h_S := h_cl s q26 a24
    let c31 : Nat := mc - 1
    let d32 : Nat := ms - (h_n s a24)
    h_k s30 q26 = 1 ∧ Q (some q26) s30
  else
    ¬ x1 < 0 ∧ h_ix x1 * 4 ≤ 536870912 ∧ 1 ≤ mc ∧ (h_ix x1) ≤ ms ∧ ∀ q4 : Nat, h_k s q4 = 0 → let s10 : h_S := h_nw s q4 1 (h_ix x1)
    let c11 : Nat := mc - 1
    let d12 : Nat := ms - (h_ix x1)
    ∃ a13, r0 = some a13 ∧ h_k s10 a13 = 1 ∧ h_k s10 q4 = 1 ∧ ∃ a16, r0 = some a16 ∧ h_k s10 a16 = 1 ∧ ¬ (0 : Int32) < 0 ∧ ¬ (0 : Int32) < 0 ∧ ¬ (h_min (Int32.ofNat (h_n s10 a13)) x1) < 0 ∧ h_ix (0 : Int32) + h_ix (h_min (Int32.ofNat (h_n s10 a13)) x1) ≤ h_n s10 a16 ∧ h_ix (0 : Int32) + h_ix (h_min (Int32.ofNat (h_n s10 a13)) x1) ≤ h_n s10 q4 ∧ let s23 : h_S := h_cp s10 a16 (h_ix (0 : Int32)) q4 (h_ix (0 : Int32)) (h_ix (h_min (Int32.ofNat (h_n s10 a13)) x1))
    Q (some q4) s23)
def w_X11_version (g : h_G) (o0 : Nat) (x1 : Int32) (s : h_S) (mc ms : Nat) (Q : Int32 → h_S → Prop) : Prop :=
  h_k s o0 = 32 ∧ w_X11_isWriting o0 x1 s (fun p3 s2 =>
    if p3 = 0 then
      Q (-1 : Int32) s2
    else
      h_k s2 o0 = 32 ∧ ∃ a6, (h_r s2 o0 5) = some a6 ∧ h_k s2 a6 = 20 ∧ w_Jx4a65c_size_8abf5 a6 s2 (fun p9 s8 =>
        if p9 < (16 : Int32) then
          h_k s8 o0 = 32 ∧ ∃ a12, (h_r s8 o0 4) = some a12 ∧ h_k s8 a12 = 28 ∧ ∃ mc16 ms17 : Nat, mc16 ≤ mc ∧ ms17 ≤ ms ∧ w_X7_shownOf 6 a12 x1 ((h_i s8 o0 0) + (1 : Int32)) (0 : Int32) s8 mc16 ms17 (fun p15 s14 =>
            h_k s14 o0 = 32 ∧ 1 ≤ (mc - mc16) ∧ 5 ≤ (ms - ms17) ∧ ∀ q21 : Nat, h_k s14 q21 = 0 → let s25 : h_S := h_nw s14 q21 29 5
            let c26 : Nat := (mc - mc16) - 1
            let d27 : Nat := (ms - ms17) - 5
            h_k s25 o0 = 32 ∧ ∃ a29, p15 = some a29 ∧ h_k s25 a29 = 27 ∧ ∃ a31, p15 = some a31 ∧ h_k s25 a31 = 27 ∧ ∃ mc35 ms36 : Nat, mc35 ≤ c26 ∧ ms36 ≤ d27 ∧ w_J7_copyOf_59c91 (h_r s25 a29 2) (h_i s25 a31 1) s25 mc35 ms36 (fun p34 s33 =>
              w_X8_init q21 x1 ((h_i s25 o0 0) + (1 : Int32)) p34 s33 (fun s39 =>
                ∃ a41, (h_r s14 o0 5) = some a41 ∧ h_k s39 a41 = 20 ∧ ∃ mc45 ms46 : Nat, mc45 ≤ (c26 - mc35) ∧ ms46 ≤ (d27 - ms36) ∧ w_Jx4a65c_add_9ea2d g a41 (some q21) s39 mc45 ms46 (fun p44 s43 =>
                  h_k s43 o0 = 32 ∧ ∃ a50, (h_r s43 o0 5) = some a50 ∧ h_k s43 a50 = 20 ∧ w_Jx4a65c_size_8abf5 a50 s43 (fun p53 s52 =>
                    h_k s52 o0 = 32 ∧ w_X11_acted o0 (p53 - (1 : Int32)) s52 (fun p56 s55 =>
                      Q p56 s55))))))
        else
          Q (-4 : Int32) s8))
def w_X11_versionAt_29 (Q : Option Nat → h_S → Prop) (t0 : Option Nat) (s : h_S) : Prop :=
  Q t0 s
def w_X11_versionAt (o0 : Nat) (x1 : Int32) (s : h_S) (Q : Option Nat → h_S → Prop) : Prop :=
  h_k s o0 = 32 ∧ ∃ a2, (h_r s o0 5) = some a2 ∧ h_k s a2 = 20 ∧ w_Jx4a65c_size_8abf5 a2 s (fun p5 s4 =>
    w_X11_within x1 p5 s4 (fun p7 s6 =>
      if p7 = 0 then
        w_X11_versionAt_29 Q (none : Option Nat) s6
      else
        h_k s6 o0 = 32 ∧ ∃ a10, (h_r s6 o0 5) = some a10 ∧ h_k s6 a10 = 20 ∧ w_Jx4a65c_get_915e3 a10 x1 s6 (fun p13 s12 =>
          (∀ x, p13 = some x → h_k s12 x = 29) ∧ w_X11_versionAt_29 Q p13 s12)))
def w_X11_give (o0 : Nat) (x1 : Int32) (s : h_S) (Q : Int32 → h_S → Prop) : Prop :=
  h_k s o0 = 32 ∧ w_X11_versionAt o0 x1 s (fun p3 s2 =>
    if p3 = none then
      Q (-1 : Int32) s2
    else
      ∃ a5, p3 = some a5 ∧ h_k s2 a5 = 29 ∧ w_X8_kind a5 s2 (fun p8 s7 =>
        if p8 = 0 then
          h_k s7 o0 = 32 ∧ ∃ a11, p3 = some a11 ∧ h_k s7 a11 = 29 ∧ let s13 : h_S := h_si s7 a11 3 ((h_i s7 o0 0) + (1 : Int32))
          ∃ a14, p3 = some a14 ∧ h_k s13 a14 = 29 ∧ ∃ a16, (h_r s13 a14 2) = some a16 ∧ h_k s13 a16 = 1 ∧ w_X11_acted o0 (Int32.ofNat (h_n s13 a16)) s13 (fun p19 s18 =>
            Q p19 s18)
        else
          Q (-3 : Int32) s7))
def w_X11_back (o0 : Nat) (x1 : Int32) (s : h_S) (Q : Int32 → h_S → Prop) : Prop :=
  h_k s o0 = 32 ∧ w_X11_versionAt o0 x1 s (fun p3 s2 =>
    if p3 = none then
      Q (-1 : Int32) s2
    else
      ∃ a5, p3 = some a5 ∧ h_k s2 a5 = 29 ∧ w_X8_kind a5 s2 (fun p8 s7 =>
        if p8 = (1 : Int32) then
          h_k s7 o0 = 32 ∧ ∃ a11, p3 = some a11 ∧ h_k s7 a11 = 29 ∧ let s13 : h_S := h_si s7 a11 4 ((h_i s7 o0 0) + (1 : Int32))
          ∃ a14, p3 = some a14 ∧ h_k s13 a14 = 29 ∧ ∃ a16, (h_r s13 a14 2) = some a16 ∧ h_k s13 a16 = 1 ∧ w_X11_acted o0 (Int32.ofNat (h_n s13 a16)) s13 (fun p19 s18 =>
            Q p19 s18)
        else
          Q (-3 : Int32) s7))
def w_X11_about (o0 : Nat) (x1 : Int32) (x2 : Int32) (s : h_S) (Q : Int32 → h_S → Prop) : Prop :=
  h_k s o0 = 32 ∧ w_X11_versionAt o0 x1 s (fun p3 s2 =>
    if p3 = none then
      Q (-1 : Int32) s2
    else
      if x2 = (0 : Int32) then
        ∃ a6, p3 = some a6 ∧ h_k s2 a6 = 29 ∧ w_X8_kind a6 s2 (fun p9 s8 =>
          Q p9 s8)
      else if x2 = (1 : Int32) then
        ∃ a11, p3 = some a11 ∧ h_k s2 a11 = 29 ∧ Q (h_i s2 a11 0) s2
      else if x2 = (2 : Int32) then
        ∃ a14, p3 = some a14 ∧ h_k s2 a14 = 29 ∧ Q (h_i s2 a14 1) s2
      else if x2 = (3 : Int32) then
        ∃ a17, p3 = some a17 ∧ h_k s2 a17 = 29 ∧ ∃ a19, (h_r s2 a17 2) = some a19 ∧ h_k s2 a19 = 1 ∧ Q (Int32.ofNat (h_n s2 a19)) s2
      else if x2 = (4 : Int32) then
        ∃ a22, p3 = some a22 ∧ h_k s2 a22 = 29 ∧ w_X8_gaps a22 s2 (fun p25 s24 =>
          Q p25 s24)
      else 
        Q (-2 : Int32) s2)
def w_X11_at_22 (Q : Int32 → h_S → Prop) (s : h_S) : Prop :=
  Q (-1 : Int32) s
def w_X11_at (o0 : Nat) (x1 : Int32) (x2 : Int32) (s : h_S) (Q : Int32 → h_S → Prop) : Prop :=
  h_k s o0 = 32 ∧ w_X11_versionAt o0 x1 s (fun p3 s2 =>
    if p3 = none then
      w_X11_at_22 Q s2
    else
      ∃ a5, p3 = some a5 ∧ h_k s2 a5 = 29 ∧ ∃ a7, (h_r s2 a5 2) = some a7 ∧ h_k s2 a7 = 1 ∧ w_X11_within x2 (Int32.ofNat (h_n s2 a7)) s2 (fun p10 s9 =>
        if p10 = 0 then
          w_X11_at_22 Q s9
        else
          ∃ a12, p3 = some a12 ∧ h_k s9 a12 = 29 ∧ ∃ a14, (h_r s9 a12 2) = some a14 ∧ h_k s9 a14 = 1 ∧ vp_in x2 (h_n s9 a14) ∧ Q (h_i s9 a14 (h_ix x2)) s9))
def w_X11_compare_24 (Q : Int32 → h_S → Prop) (s : h_S) : Prop :=
  Q (-1 : Int32) s
def w_X11_compare (o0 : Nat) (x1 : Int32) (x2 : Int32) (x3 : Int32) (s : h_S) (Q : Int32 → h_S → Prop) : Prop :=
  h_k s o0 = 32 ∧ w_X11_versionAt o0 x1 s (fun p3 s2 =>
    h_k s2 o0 = 32 ∧ w_X11_versionAt o0 x2 s2 (fun p6 s5 =>
      if p3 = none then
        w_X11_compare_24 Q s5
      else
        if p6 = none then
          w_X11_compare_24 Q s5
        else
          w_X11_within x3 (4 : Int32) s5 (fun p10 s9 =>
            if p10 = 0 then
              Q (-2 : Int32) s9
            else
              h_k s9 o0 = 32 ∧ ∃ a13, p3 = some a13 ∧ h_k s9 a13 = 29 ∧ ∃ a15, p6 = some a15 ∧ h_k s9 a15 = 29 ∧ ∃ a17, (h_r s9 o0 10) = some a17 ∧ h_k s9 a17 = 30 ∧ w_X9_sharedBy a17 (h_r s9 a13 2) (h_r s9 a15 2) s9 (fun p20 s19 =>
                if x3 = (1 : Int32) then
                  ∃ a22, p3 = some a22 ∧ h_k s19 a22 = 29 ∧ ∃ a24, (h_r s19 a22 2) = some a24 ∧ h_k s19 a24 = 1 ∧ Q ((Int32.ofNat (h_n s19 a24)) - p20) s19
                else if x3 = (2 : Int32) then
                  ∃ a27, p6 = some a27 ∧ h_k s19 a27 = 29 ∧ ∃ a29, (h_r s19 a27 2) = some a29 ∧ h_k s19 a29 = 1 ∧ Q ((Int32.ofNat (h_n s19 a29)) - p20) s19
                else if x3 = (3 : Int32) then
                  h_k s19 o0 = 32 ∧ ∃ a33, p3 = some a33 ∧ h_k s19 a33 = 29 ∧ ∃ a35, p6 = some a35 ∧ h_k s19 a35 = 29 ∧ ∃ a37, (h_r s19 o0 10) = some a37 ∧ h_k s19 a37 = 30 ∧ w_X9_commonTo a37 (h_r s19 a33 2) (h_r s19 a35 2) s19 (fun p40 s39 =>
                    Q (p40 - p20) s39)
                else 
                  Q p20 s19))))
def w_X11_join_36 (g : h_G) (Q : Int32 → h_S → Prop) (s : h_S) (bc bs : Nat) : Prop :=
  Q (-1 : Int32) s
def w_X11_join_105 (g : h_G) (Q : Int32 → h_S → Prop) (s : h_S) (bc bs : Nat) : Prop :=
  Q (-4 : Int32) s
def w_X11_join_175b (g : h_G) (Q : Int32 → h_S → Prop) (K175 : Nat → Int32 → Int32 → h_S → Nat → Nat → Prop) (o0 : Nat) (x7 : Int32) (x8 : Int32) (s : h_S) (bc bs : Nat) : Prop :=
  h_k s o0 = 32 ∧ ∃ a2, (h_r s o0 10) = some a2 ∧ h_k s a2 = 30 ∧ (if (h_i s a2 15) ≤ x8 then
    w_X11_acted o0 x7 s (fun p6 s5 =>
      Q p6 s5)
  else
    ∃ a7, (h_r s o0 10) = some a7 ∧ h_k s a7 = 30 ∧ ∃ mc11 ms12 : Nat, mc11 ≤ bc ∧ ms12 ≤ bs ∧ w_X9_clashAt a7 x8 x7 s mc11 ms12 (fun p10 s9 =>
      ∃ a15, (h_r s o0 6) = some a15 ∧ h_k s9 a15 = 20 ∧ ∃ mc19 ms20 : Nat, mc19 ≤ (bc - mc11) ∧ ms20 ≤ (bs - ms12) ∧ w_Jx4a65c_add_9ea2d g a15 p10 s9 mc19 ms20 (fun p18 s17 =>
        K175 o0 x7 (x8 + (1 : Int32)) s17 ((bc - mc11) - mc19) ((bs - ms12) - ms20))))
def w_X11_join_175 (g : h_G) (Q : Int32 → h_S → Prop) : Nat → Nat → Int32 → Int32 → h_S → Nat → Nat → Prop
  | 0, _, _, _, _, _, _ => False
  | n + 1, o0, x7, x8, s, bc, bs => w_X11_join_175b g Q (w_X11_join_175 g Q n) o0 x7 x8 s bc bs
def w_X11_join (g : h_G) (o0 : Nat) (x1 : Int32) (x2 : Int32) (x3 : Int32) (s : h_S) (mc ms : Nat) (Q : Int32 → h_S → Prop) : Prop :=
  h_k s o0 = 32 ∧ w_X11_versionAt o0 x1 s (fun p3 s2 =>
    h_k s2 o0 = 32 ∧ w_X11_versionAt o0 x2 s2 (fun p6 s5 =>
      h_k s5 o0 = 32 ∧ w_X11_versionAt o0 x3 s5 (fun p9 s8 =>
        if p3 = none then
          w_X11_join_36 g Q s8 mc ms
        else
          if p6 = none then
            w_X11_join_36 g Q s8 mc ms
          else
            if p9 = none then
              w_X11_join_36 g Q s8 mc ms
            else
              h_k s8 o0 = 32 ∧ ∃ a14, (h_r s8 o0 4) = some a14 ∧ h_k s8 a14 = 28 ∧ w_X7_isFull a14 s8 (fun p17 s16 =>
                if p17 = 0 then
                  h_k s16 o0 = 32 ∧ ∃ a20, p3 = some a20 ∧ h_k s16 a20 = 29 ∧ ∃ a22, p6 = some a22 ∧ h_k s16 a22 = 29 ∧ ∃ a24, p9 = some a24 ∧ h_k s16 a24 = 29 ∧ ∃ a26, (h_r s16 o0 10) = some a26 ∧ h_k s16 a26 = 30 ∧ w_X9_weaveBy a26 (h_r s16 a20 2) (h_r s16 a22 2) (h_r s16 a24 2) s16 (fun s28 =>
                    h_k s28 o0 = 32 ∧ ∃ a31, (h_r s28 o0 10) = some a31 ∧ h_k s28 a31 = 30 ∧ w_X9_runs a31 s28 (fun p34 s33 =>
                      if (24 : Int32) < p34 then
                        w_X11_join_105 g Q s33 mc ms
                      else
                        h_k s33 o0 = 32 ∧ ∃ a37, (h_r s33 o0 10) = some a37 ∧ h_k s33 a37 = 30 ∧ ∃ a39, (h_r s33 o0 6) = some a39 ∧ h_k s33 a39 = 20 ∧ w_Jx4a65c_size_8abf5 a39 s33 (fun p42 s41 =>
                          if (h_i s33 a37 15) ≤ ((12 : Int32) - p42) then
                            h_k s41 o0 = 32 ∧ ∃ a45, p3 = some a45 ∧ h_k s41 a45 = 29 ∧ ∃ a47, (h_r s41 o0 4) = some a47 ∧ h_k s41 a47 = 28 ∧ w_X7_ownerOf a47 (h_i s41 a45 0) s41 (fun p50 s49 =>
                              h_k s49 o0 = 32 ∧ ∃ a52, (h_r s41 o0 4) = some a52 ∧ h_k s49 a52 = 28 ∧ ∃ mc56 ms57 : Nat, mc56 ≤ mc ∧ ms57 ≤ ms ∧ w_X7_begin a52 p50 ((h_i s49 o0 0) + (1 : Int32)) s49 mc56 ms57 (fun p55 s54 =>
                                h_k s54 o0 = 32 ∧ ∃ a61, (h_r s54 o0 10) = some a61 ∧ h_k s54 a61 = 30 ∧ ∃ a63, (h_r s54 o0 10) = some a63 ∧ h_k s54 a63 = 30 ∧ ∃ a65, (h_r s54 o0 4) = some a65 ∧ h_k s54 a65 = 28 ∧ ∃ mc69 ms70 : Nat, mc69 ≤ (mc - mc56) ∧ ms70 ≤ (ms - ms57) ∧ w_X7_layRuns a65 (h_r s54 a61 10) (h_i s54 a63 11) s54 mc69 ms70 (fun s67 =>
                                  h_k s67 o0 = 32 ∧ ∃ a74, (h_r s67 o0 4) = some a74 ∧ h_k s67 a74 = 28 ∧ ∃ mc78 ms79 : Nat, mc78 ≤ ((mc - mc56) - mc69) ∧ ms79 ≤ ((ms - ms57) - ms70) ∧ w_X7_keepLaid a74 p55 ((h_i s67 o0 0) + (1 : Int32)) s67 mc78 ms79 (fun p77 s76 =>
                                    ∃ n, w_X11_join_175 g Q n o0 p55 (0 : Int32) s76 (((mc - mc56) - mc69) - mc78) (((ms - ms57) - ms70) - ms79)))))
                          else
                            w_X11_join_105 g Q s41 mc ms)))
                else
                  Q (-4 : Int32) s16))))
def w_X11_clash_93 (Q : Int32 → h_S → Prop) (y0 : Int32) (s : h_S) : Prop :=
  Q y0 s
def w_X11_clash (o0 : Nat) (x1 : Int32) (x2 : Int32) (s : h_S) (Q : Int32 → h_S → Prop) : Prop :=
  h_k s o0 = 32 ∧ ∃ a2, (h_r s o0 6) = some a2 ∧ h_k s a2 = 20 ∧ w_Jx4a65c_size_8abf5 a2 s (fun p5 s4 =>
    w_X11_within x1 p5 s4 (fun p7 s6 =>
      if p7 = 0 then
        Q (-1 : Int32) s6
      else
        h_k s6 o0 = 32 ∧ ∃ a10, (h_r s6 o0 6) = some a10 ∧ h_k s6 a10 = 20 ∧ w_Jx4a65c_get_915e3 a10 x1 s6 (fun p13 s12 =>
          (∀ x, p13 = some x → h_k s12 x = 21) ∧ (if x2 = (0 : Int32) then
            ∃ a16, p13 = some a16 ∧ h_k s12 a16 = 21 ∧ Q (h_i s12 a16 0) s12
          else if x2 = (1 : Int32) then
            ∃ a19, p13 = some a19 ∧ h_k s12 a19 = 21 ∧ Q (h_i s12 a19 2) s12
          else if x2 = (2 : Int32) then
            ∃ a22, p13 = some a22 ∧ h_k s12 a22 = 21 ∧ ∃ a24, (h_r s12 a22 1) = some a24 ∧ h_k s12 a24 = 1 ∧ ∃ a26, p13 = some a26 ∧ h_k s12 a26 = 21 ∧ Q ((Int32.ofNat (h_n s12 a24)) - (h_i s12 a26 2)) s12
          else if x2 = (3 : Int32) then
            ∃ a29, p13 = some a29 ∧ h_k s12 a29 = 21 ∧ (if (h_i s12 a29 3) = 0 then
              w_X11_clash_93 Q (0 : Int32) s12
            else
              w_X11_clash_93 Q (1 : Int32) s12)
          else 
            Q (-2 : Int32) s12))))
def w_X11_settle_118 (Q : Int32 → h_S → Prop) (o0 : Nat) (r3 : Option Nat) (x4 : Int32) (x6 : Int32) (y0 : Int32) (s : h_S) (bc bs : Nat) : Prop :=
  ∃ a1, r3 = some a1 ∧ h_k s a1 = 21 ∧ h_k s o0 = 32 ∧ ∃ mc6 ms7 : Nat, mc6 ≤ bc ∧ ms7 ≤ bs ∧ w_X11_takeOut o0 (h_i s a1 0) (x4 + x6) (y0 - x6) s mc6 ms7 (fun p5 s4 =>
    if p5 = 0 then
      Q (-4 : Int32) s4
    else
      ∃ a11, r3 = some a11 ∧ h_k s4 a11 = 21 ∧ let s13 : h_S := h_si s4 a11 3 (1 : Int32)
      h_k s13 o0 = 32 ∧ w_X11_acted o0 (y0 - x6) s13 (fun p16 s15 =>
        Q p16 s15))
def w_X11_settle_102 (Q : Int32 → h_S → Prop) (o0 : Nat) (x2 : Int32) (r3 : Option Nat) (x4 : Int32) (x5 : Int32) (y0 : Int32) (s : h_S) (bc bs : Nat) : Prop :=
  if x2 = (1 : Int32) then
    ∃ a2, r3 = some a2 ∧ h_k s a2 = 21 ∧ w_X11_settle_118 Q o0 r3 x4 y0 (h_i s a2 2) s bc bs
  else
    w_X11_settle_118 Q o0 r3 x4 y0 x5 s bc bs
def w_X11_settle_71 (Q : Int32 → h_S → Prop) (o0 : Nat) (x2 : Int32) (r3 : Option Nat) (y0 : Int32) (s : h_S) (bc bs : Nat) : Prop :=
  if y0 = (-9 : Int32) then
    Q (-3 : Int32) s
  else
    ∃ a2, r3 = some a2 ∧ h_k s a2 = 21 ∧ ∃ a4, (h_r s a2 1) = some a4 ∧ h_k s a4 = 1 ∧ (if x2 = 0 then
      ∃ a7, r3 = some a7 ∧ h_k s a7 = 21 ∧ w_X11_settle_102 Q o0 x2 r3 y0 (Int32.ofNat (h_n s a4)) (h_i s a7 2) s bc bs
    else
      w_X11_settle_102 Q o0 x2 r3 y0 (Int32.ofNat (h_n s a4)) (0 : Int32) s bc bs)
def w_X11_settle (o0 : Nat) (x1 : Int32) (x2 : Int32) (s : h_S) (mc ms : Nat) (Q : Int32 → h_S → Prop) : Prop :=
  h_k s o0 = 32 ∧ ∃ a2, (h_r s o0 6) = some a2 ∧ h_k s a2 = 20 ∧ w_Jx4a65c_size_8abf5 a2 s (fun p5 s4 =>
    w_X11_within x1 p5 s4 (fun p7 s6 =>
      if p7 = 0 then
        Q (-1 : Int32) s6
      else
        w_X11_within x2 (3 : Int32) s6 (fun p10 s9 =>
          if p10 = 0 then
            Q (-2 : Int32) s9
          else
            h_k s9 o0 = 32 ∧ ∃ a13, (h_r s9 o0 6) = some a13 ∧ h_k s9 a13 = 20 ∧ w_Jx4a65c_get_915e3 a13 x1 s9 (fun p16 s15 =>
              (∀ x, p16 = some x → h_k s15 x = 21) ∧ ∃ a18, p16 = some a18 ∧ h_k s15 a18 = 21 ∧ (if (h_i s15 a18 3) = 0 then
                h_k s15 o0 = 32 ∧ ∃ a22, p16 = some a22 ∧ h_k s15 a22 = 21 ∧ ∃ a24, (h_r s15 o0 4) = some a24 ∧ h_k s15 a24 = 28 ∧ ∃ mc28 ms29 : Nat, mc28 ≤ mc ∧ ms29 ≤ ms ∧ w_X7_shownOf 6 a24 (h_i s15 a22 0) (h_i s15 o0 0) (0 : Int32) s15 mc28 ms29 (fun p27 s26 =>
                  ∃ a32, p16 = some a32 ∧ h_k s26 a32 = 21 ∧ w_X0_placeIn a32 p27 s26 (fun p35 s34 =>
                    w_X11_settle_71 Q o0 x2 p16 p35 s34 (mc - mc28) (ms - ms29)))
              else
                w_X11_settle_71 Q o0 x2 p16 (-9 : Int32) s15 mc ms)))))
def w_X11_linkAt_29 (Q : Option Nat → h_S → Prop) (t0 : Option Nat) (s : h_S) : Prop :=
  Q t0 s
def w_X11_linkAt (o0 : Nat) (x1 : Int32) (s : h_S) (Q : Option Nat → h_S → Prop) : Prop :=
  h_k s o0 = 32 ∧ ∃ a2, (h_r s o0 7) = some a2 ∧ h_k s a2 = 20 ∧ w_Jx4a65c_size_8abf5 a2 s (fun p5 s4 =>
    w_X11_within x1 p5 s4 (fun p7 s6 =>
      if p7 = 0 then
        w_X11_linkAt_29 Q (none : Option Nat) s6
      else
        h_k s6 o0 = 32 ∧ ∃ a10, (h_r s6 o0 7) = some a10 ∧ h_k s6 a10 = 20 ∧ w_Jx4a65c_get_915e3 a10 x1 s6 (fun p13 s12 =>
          (∀ x, p13 = some x → h_k s12 x = 22) ∧ w_X11_linkAt_29 Q p13 s12)))
def w_X11_keepLink (g : h_G) (o0 : Nat) (r1 : Option Nat) (s : h_S) (mc ms : Nat) (Q : Int32 → h_S → Prop) : Prop :=
  h_k s o0 = 32 ∧ ∃ a2, (h_r s o0 7) = some a2 ∧ h_k s a2 = 20 ∧ w_Jx4a65c_size_8abf5 a2 s (fun p5 s4 =>
    if p5 < (24 : Int32) then
      h_k s4 o0 = 32 ∧ ∃ a8, (h_r s4 o0 7) = some a8 ∧ h_k s4 a8 = 20 ∧ ∃ mc12 ms13 : Nat, mc12 ≤ mc ∧ ms13 ≤ ms ∧ w_Jx4a65c_add_9ea2d g a8 r1 s4 mc12 ms13 (fun p11 s10 =>
        h_k s10 o0 = 32 ∧ ∃ a17, (h_r s10 o0 7) = some a17 ∧ h_k s10 a17 = 20 ∧ w_Jx4a65c_size_8abf5 a17 s10 (fun p20 s19 =>
          h_k s19 o0 = 32 ∧ w_X11_acted o0 (p20 - (1 : Int32)) s19 (fun p23 s22 =>
            Q p23 s22)))
    else
      Q (-4 : Int32) s4)
def w_X11_reply (g : h_G) (o0 : Nat) (x1 : Int32) (x2 : Int32) (x3 : Int32) (s : h_S) (mc ms : Nat) (Q : Int32 → h_S → Prop) : Prop :=
  h_k s o0 = 32 ∧ w_X11_linkAt o0 x3 s (fun p3 s2 =>
    if p3 = none then
      Q (-1 : Int32) s2
    else
      ∃ a5, p3 = some a5 ∧ h_k s2 a5 = 22 ∧ w_X1_isA a5 (1 : Int32) s2 (fun p8 s7 =>
        if p8 = 0 then
          h_k s7 o0 = 32 ∧ w_X11_failed o0 (2 : Int32) s7 (fun p42 s41 =>
            Q p42 s41)
        else
          1 ≤ mc ∧ 4 ≤ ms ∧ ∀ q10 : Nat, h_k s7 q10 = 0 → let s14 : h_S := h_nw s7 q10 22 4
          let c15 : Nat := mc - 1
          let d16 : Nat := ms - 4
          ∃ a17, p3 = some a17 ∧ h_k s14 a17 = 22 ∧ ∃ a19, (h_r s14 a17 1) = some a19 ∧ h_k s14 a19 = 1 ∧ vp_in (0 : Int32) (h_n s14 a19) ∧ ∃ a22, p3 = some a22 ∧ h_k s14 a22 = 22 ∧ ∃ a24, (h_r s14 a22 2) = some a24 ∧ h_k s14 a24 = 1 ∧ vp_in (0 : Int32) (h_n s14 a24) ∧ ∃ mc29 ms30 : Nat, mc29 ≤ c15 ∧ ms30 ≤ d16 ∧ w_X1_init q10 (2 : Int32) x1 x2 (h_i s14 a19 (h_ix (0 : Int32))) (h_i s14 a24 (h_ix (0 : Int32))) x3 s14 mc29 ms30 (fun s27 =>
            h_k s27 o0 = 32 ∧ ∃ mc36 ms37 : Nat, mc36 ≤ (c15 - mc29) ∧ ms37 ≤ (d16 - ms30) ∧ w_X11_keepLink g o0 (some q10) s27 mc36 ms37 (fun p35 s34 =>
              Q p35 s34))))
def w_X11_linkOfWords_44 (g : h_G) (Q : Int32 → h_S → Prop) (o0 : Nat) (x1 : Int32) (x2 : Int32) (x3 : Int32) (x4 : Int32) (x5 : Int32) (s : h_S) (bc bs : Nat) : Prop :=
  1 ≤ bc ∧ 4 ≤ bs ∧ ∀ q1 : Nat, h_k s q1 = 0 → let s5 : h_S := h_nw s q1 22 4
  let c6 : Nat := bc - 1
  let d7 : Nat := bs - 4
  ∃ mc10 ms11 : Nat, mc10 ≤ c6 ∧ ms11 ≤ d7 ∧ w_X1_init q1 x1 x2 x3 x4 x5 (-9 : Int32) s5 mc10 ms11 (fun s8 =>
    h_k s8 o0 = 32 ∧ ∃ mc17 ms18 : Nat, mc17 ≤ (c6 - mc10) ∧ ms18 ≤ (d7 - ms11) ∧ w_X11_keepLink g o0 (some q1) s8 mc17 ms18 (fun p16 s15 =>
      Q p16 s15))
def w_X11_linkOfWords (g : h_G) (o0 : Nat) (x1 : Int32) (x2 : Int32) (x3 : Int32) (x4 : Int32) (x5 : Int32) (s : h_S) (mc ms : Nat) (Q : Int32 → h_S → Prop) : Prop :=
  h_k s o0 = 32 ∧ ∃ a2, (h_r s o0 4) = some a2 ∧ h_k s a2 = 28 ∧ w_X7_areWords a2 x4 x5 s (fun p5 s4 =>
    if p5 = 0 then
      Q (-1 : Int32) s4
    else
      if x1 = (4 : Int32) then
        if x3 = x5 then
          h_k s4 o0 = 32 ∧ ∃ a10, (h_r s4 o0 4) = some a10 ∧ h_k s4 a10 = 28 ∧ w_X7_codesAlike a10 x2 x4 x3 s4 (fun p13 s12 =>
            if p13 = 0 then
              w_X11_linkOfWords_44 g Q o0 x1 x2 x3 x4 x5 s12 mc ms
            else
              Q (-3 : Int32) s12)
        else
          w_X11_linkOfWords_44 g Q o0 x1 x2 x3 x4 x5 s4 mc ms
      else
        w_X11_linkOfWords_44 g Q o0 x1 x2 x3 x4 x5 s4 mc ms)
def w_X11_link_29 (g : h_G) (Q : Int32 → h_S → Prop) (s : h_S) (bc bs : Nat) : Prop :=
  Q (-2 : Int32) s
def w_X11_link_73 (g : h_G) (Q : Int32 → h_S → Prop) (y0 : Int32) (s : h_S) (bc bs : Nat) : Prop :=
  Q y0 s
def w_X11_link_32 (g : h_G) (Q : Int32 → h_S → Prop) (o0 : Nat) (x1 : Int32) (x2 : Int32) (x3 : Int32) (x4 : Int32) (x5 : Int32) (s : h_S) (bc bs : Nat) : Prop :=
  h_k s o0 = 32 ∧ ∃ a2, (h_r s o0 4) = some a2 ∧ h_k s a2 = 28 ∧ w_X7_areWords a2 x2 x3 s (fun p5 s4 =>
    if p5 = 0 then
      Q (-1 : Int32) s4
    else
      if x1 = (2 : Int32) then
        h_k s4 o0 = 32 ∧ ∃ mc18 ms19 : Nat, mc18 ≤ bc ∧ ms19 ≤ bs ∧ w_X11_reply g o0 x2 x3 x4 s4 mc18 ms19 (fun p17 s16 =>
          w_X11_link_73 g Q p17 s16 (bc - mc18) (bs - ms19))
      else
        h_k s4 o0 = 32 ∧ ∃ mc11 ms12 : Nat, mc11 ≤ bc ∧ ms12 ≤ bs ∧ w_X11_linkOfWords g o0 x1 x2 x3 x4 x5 s4 mc11 ms12 (fun p10 s9 =>
          w_X11_link_73 g Q p10 s9 (bc - mc11) (bs - ms12)))
def w_X11_link (g : h_G) (o0 : Nat) (x1 : Int32) (x2 : Int32) (x3 : Int32) (x4 : Int32) (x5 : Int32) (s : h_S) (mc ms : Nat) (Q : Int32 → h_S → Prop) : Prop :=
  h_k s o0 = 32 ∧ let s2 : h_S := h_si s o0 18 (0 : Int32)
  w_X11_within x1 (5 : Int32) s2 (fun p4 s3 =>
    if p4 = 0 then
      w_X11_link_29 g Q s3 mc ms
    else
      if x3 < (1 : Int32) then
        w_X11_link_29 g Q s3 mc ms
      else
        if x1 = (2 : Int32) then
          w_X11_link_32 g Q o0 x1 x2 x3 x4 x5 s3 mc ms
        else
          if (1 : Int32) ≤ x5 then
            w_X11_link_32 g Q o0 x1 x2 x3 x4 x5 s3 mc ms
          else
            w_X11_link_29 g Q s3 mc ms)
def w_X11_ofLink (o0 : Nat) (x1 : Int32) (x2 : Int32) (s : h_S) (Q : Int32 → h_S → Prop) : Prop :=
  h_k s o0 = 32 ∧ w_X11_linkAt o0 x1 s (fun p3 s2 =>
    if p3 = none then
      Q (-1 : Int32) s2
    else
      if x2 = (0 : Int32) then
        ∃ a6, p3 = some a6 ∧ h_k s2 a6 = 22 ∧ Q (h_i s2 a6 0) s2
      else if x2 = (1 : Int32) then
        ∃ a9, p3 = some a9 ∧ h_k s2 a9 = 22 ∧ ∃ a11, (h_r s2 a9 1) = some a11 ∧ h_k s2 a11 = 1 ∧ vp_in (0 : Int32) (h_n s2 a11) ∧ Q (h_i s2 a11 (h_ix (0 : Int32))) s2
      else if x2 = (2 : Int32) then
        ∃ a15, p3 = some a15 ∧ h_k s2 a15 = 22 ∧ ∃ a17, (h_r s2 a15 2) = some a17 ∧ h_k s2 a17 = 1 ∧ vp_in (0 : Int32) (h_n s2 a17) ∧ Q (h_i s2 a17 (h_ix (0 : Int32))) s2
      else if x2 = (3 : Int32) then
        ∃ a21, p3 = some a21 ∧ h_k s2 a21 = 22 ∧ ∃ a23, (h_r s2 a21 1) = some a23 ∧ h_k s2 a23 = 1 ∧ vp_in (1 : Int32) (h_n s2 a23) ∧ Q (h_i s2 a23 (h_ix (1 : Int32))) s2
      else if x2 = (4 : Int32) then
        ∃ a27, p3 = some a27 ∧ h_k s2 a27 = 22 ∧ ∃ a29, (h_r s2 a27 2) = some a29 ∧ h_k s2 a29 = 1 ∧ vp_in (1 : Int32) (h_n s2 a29) ∧ Q (h_i s2 a29 (h_ix (1 : Int32))) s2
      else if x2 = (5 : Int32) then
        ∃ a33, p3 = some a33 ∧ h_k s2 a33 = 22 ∧ Q (h_i s2 a33 3) s2
      else 
        Q (-2 : Int32) s2)
def w_X11_ends_24 (Q : Int32 → h_S → Prop) (s : h_S) : Prop :=
  Q (-1 : Int32) s
def w_X11_ends_96 (Q : Int32 → h_S → Prop) (x6 : Int32) (s : h_S) : Prop :=
  Q x6 s
def w_X11_ends_57b (Q : Int32 → h_S → Prop) (K57 : Int32 → Option Nat → Option Nat → Int32 → Int32 → Int32 → h_S → Prop) (x2 : Int32) (r4 : Option Nat) (r5 : Option Nat) (x6 : Int32) (x7 : Int32) (x8 : Int32) (s : h_S) : Prop :=
  if (300 : Int32) ≤ x8 then
    w_X11_ends_96 Q x6 s
  else
    if x7 = (-9 : Int32) then
      w_X11_ends_96 Q x6 s
    else
      ∃ a3, r5 = some a3 ∧ h_k s a3 = 29 ∧ ∃ a5, r4 = some a5 ∧ h_k s a5 = 22 ∧ w_X1_partBehind a5 x2 (h_r s a3 2) x7 s (fun p8 s7 =>
        K57 x2 r4 r5 (x6 + (1 : Int32)) p8 (x8 + (1 : Int32)) s7)
def w_X11_ends_57 (Q : Int32 → h_S → Prop) : Nat → Int32 → Option Nat → Option Nat → Int32 → Int32 → Int32 → h_S → Prop
  | 0, _, _, _, _, _, _, _ => False
  | n + 1, x2, r4, r5, x6, x7, x8, s => w_X11_ends_57b Q (w_X11_ends_57 Q n) x2 r4 r5 x6 x7 x8 s
def w_X11_ends (o0 : Nat) (x1 : Int32) (x2 : Int32) (x3 : Int32) (s : h_S) (Q : Int32 → h_S → Prop) : Prop :=
  h_k s o0 = 32 ∧ w_X11_linkAt o0 x1 s (fun p3 s2 =>
    h_k s2 o0 = 32 ∧ w_X11_versionAt o0 x3 s2 (fun p6 s5 =>
      if p3 = none then
        w_X11_ends_24 Q s5
      else
        if p6 = none then
          w_X11_ends_24 Q s5
        else
          w_X11_within x2 (2 : Int32) s5 (fun p10 s9 =>
            if p10 = 0 then
              Q (-2 : Int32) s9
            else
              ∃ a12, p6 = some a12 ∧ h_k s9 a12 = 29 ∧ ∃ a14, p3 = some a14 ∧ h_k s9 a14 = 22 ∧ w_X1_partFrom a14 x2 (h_r s9 a12 2) (0 : Int32) s9 (fun p17 s16 =>
                ∃ n, w_X11_ends_57 Q n x2 p3 p6 (0 : Int32) p17 (0 : Int32) s16))))
def w_X11_part_29 (Q : Int32 → h_S → Prop) (s : h_S) : Prop :=
  Q (-1 : Int32) s
def w_X11_part_48 (Q : Int32 → h_S → Prop) (s : h_S) : Prop :=
  Q (-2 : Int32) s
def w_X11_part_126 (Q : Int32 → h_S → Prop) (s : h_S) : Prop :=
  Q (-1 : Int32) s
def w_X11_part_111 (Q : Int32 → h_S → Prop) (x2 : Int32) (x4 : Int32) (x5 : Int32) (r6 : Option Nat) (r7 : Option Nat) (x8 : Int32) (s : h_S) : Prop :=
  if x8 = (-9 : Int32) then
    w_X11_part_126 Q s
  else
    if x4 < (300 : Int32) then
      if x5 = (0 : Int32) then
        Q x8 s
      else if x5 = (1 : Int32) then
        ∃ a5, r7 = some a5 ∧ h_k s a5 = 29 ∧ ∃ a7, (h_r s a5 2) = some a7 ∧ h_k s a7 = 1 ∧ vp_in x8 (h_n s a7) ∧ Q (h_i s a7 (h_ix x8)) s
      else 
        ∃ a10, r7 = some a10 ∧ h_k s a10 = 29 ∧ ∃ a12, r6 = some a12 ∧ h_k s a12 = 22 ∧ w_X1_partSize a12 x2 (h_r s a10 2) x8 s (fun p15 s14 =>
          Q p15 s14)
    else
      w_X11_part_126 Q s
def w_X11_part_68b (Q : Int32 → h_S → Prop) (K68 : Int32 → Int32 → Int32 → Option Nat → Option Nat → Int32 → Int32 → h_S → Prop) (x2 : Int32) (x4 : Int32) (x5 : Int32) (r6 : Option Nat) (r7 : Option Nat) (x8 : Int32) (x9 : Int32) (s : h_S) : Prop :=
  if (300 : Int32) ≤ x9 then
    w_X11_part_111 Q x2 x4 x5 r6 r7 x8 s
  else
    if x4 ≤ x9 then
      w_X11_part_111 Q x2 x4 x5 r6 r7 x8 s
    else
      if x8 = (-9 : Int32) then
        w_X11_part_111 Q x2 x4 x5 r6 r7 x8 s
      else
        ∃ a4, r7 = some a4 ∧ h_k s a4 = 29 ∧ ∃ a6, r6 = some a6 ∧ h_k s a6 = 22 ∧ w_X1_partBehind a6 x2 (h_r s a4 2) x8 s (fun p9 s8 =>
          K68 x2 x4 x5 r6 r7 p9 (x9 + (1 : Int32)) s8)
def w_X11_part_68 (Q : Int32 → h_S → Prop) : Nat → Int32 → Int32 → Int32 → Option Nat → Option Nat → Int32 → Int32 → h_S → Prop
  | 0, _, _, _, _, _, _, _, _ => False
  | n + 1, x2, x4, x5, r6, r7, x8, x9, s => w_X11_part_68b Q (w_X11_part_68 Q n) x2 x4 x5 r6 r7 x8 x9 s
def w_X11_part (o0 : Nat) (x1 : Int32) (x2 : Int32) (x3 : Int32) (x4 : Int32) (x5 : Int32) (s : h_S) (Q : Int32 → h_S → Prop) : Prop :=
  h_k s o0 = 32 ∧ w_X11_linkAt o0 x1 s (fun p3 s2 =>
    h_k s2 o0 = 32 ∧ w_X11_versionAt o0 x3 s2 (fun p6 s5 =>
      if p3 = none then
        w_X11_part_29 Q s5
      else
        if p6 = none then
          w_X11_part_29 Q s5
        else
          if 0 ≤ x4 then
            w_X11_within x2 (2 : Int32) s5 (fun p11 s10 =>
              if p11 = 0 then
                w_X11_part_48 Q s10
              else
                w_X11_within x5 (3 : Int32) s10 (fun p14 s13 =>
                  if p14 = 0 then
                    w_X11_part_48 Q s13
                  else
                    ∃ a16, p6 = some a16 ∧ h_k s13 a16 = 29 ∧ ∃ a18, p3 = some a18 ∧ h_k s13 a18 = 22 ∧ w_X1_partFrom a18 x2 (h_r s13 a16 2) (0 : Int32) s13 (fun p21 s20 =>
                      ∃ n, w_X11_part_68 Q n x2 x4 x5 p3 p6 p21 (0 : Int32) s20)))
          else
            w_X11_part_29 Q s5))
def w_X11_keepRight (g : h_G) (o0 : Nat) (r1 : Option Nat) (s : h_S) (mc ms : Nat) (Q : Int32 → h_S → Prop) : Prop :=
  h_k s o0 = 32 ∧ ∃ a2, (h_r s o0 8) = some a2 ∧ h_k s a2 = 20 ∧ w_Jx4a65c_size_8abf5 a2 s (fun p5 s4 =>
    if p5 < (20 : Int32) then
      h_k s4 o0 = 32 ∧ ∃ a8, (h_r s4 o0 8) = some a8 ∧ h_k s4 a8 = 20 ∧ ∃ mc12 ms13 : Nat, mc12 ≤ mc ∧ ms13 ≤ ms ∧ w_Jx4a65c_add_9ea2d g a8 r1 s4 mc12 ms13 (fun p11 s10 =>
        h_k s10 o0 = 32 ∧ ∃ a17, (h_r s10 o0 8) = some a17 ∧ h_k s10 a17 = 20 ∧ w_Jx4a65c_size_8abf5 a17 s10 (fun p20 s19 =>
          h_k s19 o0 = 32 ∧ w_X11_acted o0 (p20 - (1 : Int32)) s19 (fun p23 s22 =>
            Q p23 s22)))
    else
      Q (-4 : Int32) s4)
def w_X11_right_21 (g : h_G) (Q : Int32 → h_S → Prop) (s : h_S) (bc bs : Nat) : Prop :=
  Q (-1 : Int32) s
def w_X11_right (g : h_G) (o0 : Nat) (x1 : Int32) (x2 : Int32) (x3 : Int32) (x4 : Int32) (x5 : Int32) (s : h_S) (mc ms : Nat) (Q : Int32 → h_S → Prop) : Prop :=
  h_k s o0 = 32 ∧ let s2 : h_S := h_si s o0 18 (0 : Int32)
  w_X11_isWriting o0 x1 s2 (fun p4 s3 =>
    if p4 = 0 then
      w_X11_right_21 g Q s3 mc ms
    else
      w_X11_within x2 (4 : Int32) s3 (fun p7 s6 =>
        if p7 = 0 then
          w_X11_right_21 g Q s6 mc ms
        else
          h_k s6 o0 = 32 ∧ w_X11_refusedCells o0 x2 x3 x4 x5 s6 (fun p11 s10 =>
            if p11 = 0 then
              1 ≤ mc ∧ 10 ≤ ms ∧ ∀ q13 : Nat, h_k s10 q13 = 0 → let s17 : h_S := h_nw s10 q13 24 10
              let c18 : Nat := mc - 1
              let d19 : Nat := ms - 10
              h_k s17 o0 = 32 ∧ w_X3_init q13 x1 ((h_i s17 o0 0) + (1 : Int32)) s17 (fun s21 =>
                h_k s21 o0 = 32 ∧ ∃ a24, (h_r s21 o0 9) = some a24 ∧ h_k s21 a24 = 5 ∧ vp_in x2 (h_n s21 a24) ∧ h_k s21 q13 = 24 ∧ w_X3_readText q13 (h_r s21 a24 (h_ix x2)) x4 x5 s21 (fun p29 s28 =>
                  if p29 = (-9 : Int32) then
                    h_k s28 o0 = 32 ∧ ∃ mc34 ms35 : Nat, mc34 ≤ c18 ∧ ms35 ≤ d19 ∧ w_X11_keepRight g o0 (some q13) s28 mc34 ms35 (fun p33 s32 =>
                      Q p33 s32)
                  else
                    Q ((-100 : Int32) - p29) s28))
            else
              Q p11 s10)))
def w_X11_lend_30 (g : h_G) (Q : Int32 → h_S → Prop) (s : h_S) (bc bs : Nat) : Prop :=
  Q (-1 : Int32) s
def w_X11_lend (g : h_G) (o0 : Nat) (x1 : Int32) (x2 : Int32) (x3 : Int32) (s : h_S) (mc ms : Nat) (Q : Int32 → h_S → Prop) : Prop :=
  h_k s o0 = 32 ∧ ∃ a2, (h_r s o0 8) = some a2 ∧ h_k s a2 = 20 ∧ w_Jx4a65c_size_8abf5 a2 s (fun p5 s4 =>
    w_X11_within x1 p5 s4 (fun p7 s6 =>
      if p7 = 0 then
        w_X11_lend_30 g Q s6 mc ms
      else
        h_k s6 o0 = 32 ∧ w_X11_isHand o0 x2 s6 (fun p11 s10 =>
          if p11 = 0 then
            w_X11_lend_30 g Q s10 mc ms
          else
            h_k s10 o0 = 32 ∧ w_X11_isHand o0 x3 s10 (fun p15 s14 =>
              if p15 = 0 then
                w_X11_lend_30 g Q s14 mc ms
              else
                if x2 = x3 then
                  Q (-2 : Int32) s14
                else
                  h_k s14 o0 = 32 ∧ ∃ a19, (h_r s14 o0 8) = some a19 ∧ h_k s14 a19 = 20 ∧ w_Jx4a65c_get_915e3 a19 x1 s14 (fun p22 s21 =>
                    (∀ x, p22 = some x → h_k s21 x = 24) ∧ h_k s21 o0 = 32 ∧ w_X11_allows o0 p22 x2 (2 : Int32) (h_i s21 o0 0) s21 (fun p26 s25 =>
                      if p26 = 0 then
                        Q (-3 : Int32) s25
                      else
                        1 ≤ mc ∧ 10 ≤ ms ∧ ∀ q28 : Nat, h_k s25 q28 = 0 → let s32 : h_S := h_nw s25 q28 24 10
                        let c33 : Nat := mc - 1
                        let d34 : Nat := ms - 10
                        ∃ a35, p22 = some a35 ∧ h_k s32 a35 = 24 ∧ h_k s32 o0 = 32 ∧ w_X3_init q28 (h_i s32 a35 0) ((h_i s32 o0 0) + (1 : Int32)) s32 (fun s38 =>
                          h_k s38 q28 = 24 ∧ w_X3_hangOn q28 p22 x1 x3 s38 (fun s41 =>
                            h_k s41 o0 = 32 ∧ ∃ mc46 ms47 : Nat, mc46 ≤ c33 ∧ ms47 ≤ d34 ∧ w_X11_keepRight g o0 (some q28) s41 mc46 ms47 (fun p45 s44 =>
                              Q p45 s44)))))))))
def w_X11_take_100 (Q : Int32 → h_S → Prop) (K40 : Nat → Int32 → Int32 → Int32 → h_S → Prop) (o0 : Nat) (x1 : Int32) (x2 : Int32) (x3 : Int32) (s : h_S) : Prop :=
  K40 o0 x1 x2 (x3 + (1 : Int32)) s
def w_X11_take_78 (Q : Int32 → h_S → Prop) (K40 : Nat → Int32 → Int32 → Int32 → h_S → Prop) (o0 : Nat) (x1 : Int32) (x2 : Int32) (x3 : Int32) (r4 : Option Nat) (s : h_S) : Prop :=
  ∃ a1, r4 = some a1 ∧ h_k s a1 = 24 ∧ w_X3_isThere a1 s (fun p4 s3 =>
    if p4 = 0 then
      w_X11_take_100 Q K40 o0 x1 x2 x3 s3
    else
      h_k s3 o0 = 32 ∧ ∃ a7, r4 = some a7 ∧ h_k s3 a7 = 24 ∧ let s9 : h_S := h_si s3 a7 2 ((h_i s3 o0 0) + (1 : Int32))
      w_X11_take_100 Q K40 o0 x1 (x2 + (1 : Int32)) x3 s9)
def w_X11_take_40b (Q : Int32 → h_S → Prop) (K40 : Nat → Int32 → Int32 → Int32 → h_S → Prop) (o0 : Nat) (x1 : Int32) (x2 : Int32) (x3 : Int32) (s : h_S) : Prop :=
  h_k s o0 = 32 ∧ ∃ a2, (h_r s o0 8) = some a2 ∧ h_k s a2 = 20 ∧ w_Jx4a65c_size_8abf5 a2 s (fun p5 s4 =>
    if p5 ≤ x3 then
      h_k s4 o0 = 32 ∧ w_X11_acted o0 x2 s4 (fun p9 s8 =>
        Q p9 s8)
    else
      h_k s4 o0 = 32 ∧ ∃ a11, (h_r s4 o0 8) = some a11 ∧ h_k s4 a11 = 20 ∧ w_Jx4a65c_get_915e3 a11 x3 s4 (fun p14 s13 =>
        (∀ x, p14 = some x → h_k s13 x = 24) ∧ (if x3 = x1 then
          w_X11_take_78 Q K40 o0 x1 x2 x3 p14 s13
        else
          ∃ a17, p14 = some a17 ∧ h_k s13 a17 = 24 ∧ (if (h_i s13 a17 7) = x1 then
            w_X11_take_78 Q K40 o0 x1 x2 x3 p14 s13
          else
            w_X11_take_100 Q K40 o0 x1 x2 x3 s13))))
def w_X11_take_40 (Q : Int32 → h_S → Prop) : Nat → Nat → Int32 → Int32 → Int32 → h_S → Prop
  | 0, _, _, _, _, _ => False
  | n + 1, o0, x1, x2, x3, s => w_X11_take_40b Q (w_X11_take_40 Q n) o0 x1 x2 x3 s
def w_X11_take (o0 : Nat) (x1 : Int32) (s : h_S) (Q : Int32 → h_S → Prop) : Prop :=
  h_k s o0 = 32 ∧ ∃ a2, (h_r s o0 8) = some a2 ∧ h_k s a2 = 20 ∧ w_Jx4a65c_size_8abf5 a2 s (fun p5 s4 =>
    w_X11_within x1 p5 s4 (fun p7 s6 =>
      if p7 = 0 then
        Q (-1 : Int32) s6
      else
        h_k s6 o0 = 32 ∧ ∃ a10, (h_r s6 o0 8) = some a10 ∧ h_k s6 a10 = 20 ∧ w_Jx4a65c_get_915e3 a10 x1 s6 (fun p13 s12 =>
          (∀ x, p13 = some x → h_k s12 x = 24) ∧ ∃ a15, p13 = some a15 ∧ h_k s12 a15 = 24 ∧ w_X3_isThere a15 s12 (fun p18 s17 =>
            if p18 = 0 then
              Q (-3 : Int32) s17
            else
              ∃ n, w_X11_take_40 Q n o0 x1 (0 : Int32) (0 : Int32) s17))))
def w_X11_ofRight_114 (Q : Int32 → h_S → Prop) (y0 : Int32) (s : h_S) : Prop :=
  Q y0 s
def w_X11_ofRight (o0 : Nat) (x1 : Int32) (x2 : Int32) (s : h_S) (Q : Int32 → h_S → Prop) : Prop :=
  h_k s o0 = 32 ∧ ∃ a2, (h_r s o0 8) = some a2 ∧ h_k s a2 = 20 ∧ w_Jx4a65c_size_8abf5 a2 s (fun p5 s4 =>
    w_X11_within x1 p5 s4 (fun p7 s6 =>
      if p7 = 0 then
        Q (-1 : Int32) s6
      else
        h_k s6 o0 = 32 ∧ ∃ a10, (h_r s6 o0 8) = some a10 ∧ h_k s6 a10 = 20 ∧ w_Jx4a65c_get_915e3 a10 x1 s6 (fun p13 s12 =>
          (∀ x, p13 = some x → h_k s12 x = 24) ∧ (if x2 = (0 : Int32) then
            ∃ a16, p13 = some a16 ∧ h_k s12 a16 = 24 ∧ Q (h_i s12 a16 0) s12
          else if x2 = (1 : Int32) then
            ∃ a19, p13 = some a19 ∧ h_k s12 a19 = 24 ∧ Q (h_i s12 a19 3) s12
          else if x2 = (2 : Int32) then
            ∃ a22, p13 = some a22 ∧ h_k s12 a22 = 24 ∧ Q (h_i s12 a22 4) s12
          else if x2 = (3 : Int32) then
            ∃ a25, p13 = some a25 ∧ h_k s12 a25 = 24 ∧ Q (h_i s12 a25 5) s12
          else if x2 = (4 : Int32) then
            ∃ a28, p13 = some a28 ∧ h_k s12 a28 = 24 ∧ Q (h_i s12 a28 6) s12
          else if x2 = (5 : Int32) then
            ∃ a31, p13 = some a31 ∧ h_k s12 a31 = 24 ∧ Q (h_i s12 a31 7) s12
          else if x2 = (6 : Int32) then
            ∃ a34, p13 = some a34 ∧ h_k s12 a34 = 24 ∧ w_X3_isThere a34 s12 (fun p37 s36 =>
              if p37 = 0 then
                w_X11_ofRight_114 Q (0 : Int32) s36
              else
                w_X11_ofRight_114 Q (1 : Int32) s36)
          else 
            Q (-2 : Int32) s12))))
def w_X11_may_25 (Q : Int32 → h_S → Prop) (s : h_S) : Prop :=
  Q (-1 : Int32) s
def w_X11_may_55 (Q : Int32 → h_S → Prop) (y0 : Int32) (s : h_S) : Prop :=
  Q y0 s
def w_X11_may (o0 : Nat) (x1 : Int32) (x2 : Int32) (x3 : Int32) (x4 : Int32) (s : h_S) (Q : Int32 → h_S → Prop) : Prop :=
  h_k s o0 = 32 ∧ w_X11_isHand o0 x1 s (fun p3 s2 =>
    if p3 = 0 then
      w_X11_may_25 Q s2
    else
      h_k s2 o0 = 32 ∧ w_X11_isWriting o0 x2 s2 (fun p7 s6 =>
        if p7 = 0 then
          w_X11_may_25 Q s6
        else
          h_k s6 o0 = 32 ∧ w_X11_isMoment o0 x4 s6 (fun p11 s10 =>
            if p11 = 0 then
              w_X11_may_25 Q s10
            else
              w_X11_within x3 (3 : Int32) s10 (fun p14 s13 =>
                if p14 = 0 then
                  Q (-2 : Int32) s13
                else
                  h_k s13 o0 = 32 ∧ w_X11_mayUse o0 x1 x2 x3 x4 s13 (fun p18 s17 =>
                    if p18 = 0 then
                      w_X11_may_55 Q (0 : Int32) s17
                    else
                      w_X11_may_55 Q (1 : Int32) s17)))))
def w_X11_why_25 (Q : Int32 → h_S → Prop) (s : h_S) : Prop :=
  Q (-1 : Int32) s
def w_X11_why (o0 : Nat) (x1 : Int32) (x2 : Int32) (x3 : Int32) (x4 : Int32) (s : h_S) (Q : Int32 → h_S → Prop) : Prop :=
  h_k s o0 = 32 ∧ w_X11_isHand o0 x1 s (fun p3 s2 =>
    if p3 = 0 then
      w_X11_why_25 Q s2
    else
      h_k s2 o0 = 32 ∧ w_X11_isWriting o0 x2 s2 (fun p7 s6 =>
        if p7 = 0 then
          w_X11_why_25 Q s6
        else
          h_k s6 o0 = 32 ∧ w_X11_isMoment o0 x4 s6 (fun p11 s10 =>
            if p11 = 0 then
              w_X11_why_25 Q s10
            else
              w_X11_within x3 (3 : Int32) s10 (fun p14 s13 =>
                if p14 = 0 then
                  Q (-2 : Int32) s13
                else
                  h_k s13 o0 = 32 ∧ w_X11_reason o0 x1 x2 x3 x4 s13 (fun p18 s17 =>
                    Q p18 s17)))))
def w_X11_openHomes_49 (Q : Int32 → h_S → Prop) (o0 : Nat) (x1 : Int32) (x3 : Int32) (s : h_S) : Prop :=
  h_k s o0 = 32 ∧ w_X11_usable o0 x1 (0 : Int32) x3 s (fun p3 s2 =>
    Q p3 s2)
def w_X11_openHomes_57 (Q : Int32 → h_S → Prop) (s : h_S) : Prop :=
  Q (0 : Int32) s
def w_X11_openHomes_20 (Q : Int32 → h_S → Prop) (o0 : Nat) (x1 : Int32) (r2 : Option Nat) (x3 : Int32) (y0 : Int32) (s : h_S) : Prop :=
  if y0 = 0 then
    ∃ a2, r2 = some a2 ∧ h_k s a2 = 29 ∧ w_X8_isGivenAt a2 x3 s (fun p5 s4 =>
      if p5 = 0 then
        w_X11_openHomes_57 Q s4
      else
        ∃ a7, r2 = some a7 ∧ h_k s4 a7 = 29 ∧ h_k s4 o0 = 32 ∧ w_X11_mayUse o0 x1 (h_i s4 a7 0) (0 : Int32) x3 s4 (fun p11 s10 =>
          if p11 = 0 then
            w_X11_openHomes_57 Q s10
          else
            w_X11_openHomes_49 Q o0 x1 x3 s10))
  else
    w_X11_openHomes_49 Q o0 x1 x3 s
def w_X11_openHomes (o0 : Nat) (x1 : Int32) (r2 : Option Nat) (x3 : Int32) (s : h_S) (Q : Int32 → h_S → Prop) : Prop :=
  h_k s o0 = 32 ∧ ∃ a2, r2 = some a2 ∧ h_k s a2 = 29 ∧ ∃ a4, (h_r s o0 4) = some a4 ∧ h_k s a4 = 28 ∧ w_X7_ownerOf a4 (h_i s a2 0) s (fun p7 s6 =>
    if p7 = x1 then
      w_X11_openHomes_20 Q o0 x1 r2 x3 (1 : Int32) s6
    else
      w_X11_openHomes_20 Q o0 x1 r2 x3 (0 : Int32) s6)
def w_X11_view_42 (Q : Int32 → h_S → Prop) (s : h_S) : Prop :=
  Q (-1 : Int32) s
def w_X11_view_98 (Q : Int32 → h_S → Prop) (y0 : Int32) (s : h_S) : Prop :=
  Q y0 s
def w_X11_view (o0 : Nat) (x1 : Int32) (x2 : Int32) (x3 : Int32) (x4 : Int32) (s : h_S) (Q : Int32 → h_S → Prop) : Prop :=
  h_k s o0 = 32 ∧ w_X11_versionAt o0 x2 s (fun p3 s2 =>
    h_k s2 o0 = 32 ∧ w_X11_isHand o0 x1 s2 (fun p6 s5 =>
      if p6 = 0 then
        w_X11_view_42 Q s5
      else
        if p3 = none then
          w_X11_view_42 Q s5
        else
          ∃ a9, p3 = some a9 ∧ h_k s5 a9 = 29 ∧ ∃ a11, (h_r s5 a9 2) = some a11 ∧ h_k s5 a11 = 1 ∧ w_X11_within x3 (Int32.ofNat (h_n s5 a11)) s5 (fun p14 s13 =>
            if p14 = 0 then
              w_X11_view_42 Q s13
            else
              h_k s13 o0 = 32 ∧ w_X11_isMoment o0 x4 s13 (fun p18 s17 =>
                if p18 = 0 then
                  w_X11_view_42 Q s17
                else
                  ∃ a20, p3 = some a20 ∧ h_k s17 a20 = 29 ∧ (if (h_i s17 a20 1) ≤ x4 then
                    h_k s17 o0 = 32 ∧ w_X11_openHomes o0 x1 p3 x4 s17 (fun p25 s24 =>
                      ∃ a26, p3 = some a26 ∧ h_k s24 a26 = 29 ∧ ∃ a28, (h_r s24 a26 2) = some a28 ∧ h_k s24 a28 = 1 ∧ vp_in x3 (h_n s24 a28) ∧ h_k s24 o0 = 32 ∧ ∃ a32, (h_r s24 o0 4) = some a32 ∧ h_k s24 a32 = 28 ∧ w_X7_isIn a32 (h_i s24 a28 (h_ix x3)) p25 s24 (fun p35 s34 =>
                        if p35 = 0 then
                          w_X11_view_98 Q (-7 : Int32) s34
                        else
                          w_X11_view_98 Q (h_i s24 a28 (h_ix x3)) s34))
                  else
                    Q (-3 : Int32) s17)))))
def w_X11_rule_18 (Q : Int32 → h_S → Prop) (s : h_S) : Prop :=
  Q (-2 : Int32) s
def w_X11_rule (o0 : Nat) (x1 : Int32) (x2 : Int32) (s : h_S) (Q : Int32 → h_S → Prop) : Prop :=
  w_X11_within x1 (100 : Int32) s (fun p2 s1 =>
    if p2 = 0 then
      w_X11_rule_18 Q s1
    else
      w_X11_within x2 (11 : Int32) s1 (fun p5 s4 =>
        if p5 = 0 then
          w_X11_rule_18 Q s4
        else
          h_k s4 o0 = 32 ∧ let s8 : h_S := h_si s4 o0 12 (((100 : Int32) * x1) + x2)
          w_X11_acted o0 (h_i s4 o0 12) s8 (fun p10 s9 =>
            Q p10 s9)))
def w_X11_owe_21 (Q : Int32 → h_S → Prop) (s : h_S) : Prop :=
  Q (0 : Int32) s
def w_X11_owe_59 (Q : Int32 → h_S → Prop) (o0 : Nat) (x1 : Int32) (x2 : Int32) (x3 : Int32) (x4 : Int32) (y0 : Int32) (s : h_S) : Prop :=
  h_k s o0 = 32 ∧ ∃ a2, (h_r s o0 11) = some a2 ∧ h_k s a2 = 1 ∧ vp_in ((x1 * (8 : Int32)) + x2) (h_n s a2) ∧ ∃ a5, (h_r s o0 11) = some a5 ∧ h_k s a5 = 1 ∧ vp_in ((x1 * (8 : Int32)) + x2) (h_n s a5) ∧ let s8 : h_S := h_si s a5 (h_ix ((x1 * (8 : Int32)) + x2)) ((h_i s a2 (h_ix ((x1 * (8 : Int32)) + x2))) + y0)
  ∃ a9, (h_r s8 o0 11) = some a9 ∧ h_k s8 a9 = 1 ∧ vp_in ((x1 * (8 : Int32)) + x3) (h_n s8 a9) ∧ ∃ a12, (h_r s8 o0 11) = some a12 ∧ h_k s8 a12 = 1 ∧ vp_in ((x1 * (8 : Int32)) + x3) (h_n s8 a12) ∧ let s15 : h_S := h_si s8 a12 (h_ix ((x1 * (8 : Int32)) + x3)) ((h_i s8 a9 (h_ix ((x1 * (8 : Int32)) + x3))) + (x4 - y0))
  Q x4 s15
def w_X11_owe_42 (Q : Int32 → h_S → Prop) (o0 : Nat) (x1 : Int32) (x2 : Int32) (x3 : Int32) (x4 : Int32) (s : h_S) : Prop :=
  w_X11_owe_59 Q o0 x1 x2 x3 x4 (0 : Int32) s
def w_X11_owe (o0 : Nat) (x1 : Int32) (x2 : Int32) (x3 : Int32) (s : h_S) (Q : Int32 → h_S → Prop) : Prop :=
  if x3 = x1 then
    w_X11_owe_21 Q s
  else
    h_k s o0 = 32 ∧ w_X11_isHand o0 x3 s (fun p4 s3 =>
      if p4 = 0 then
        w_X11_owe_21 Q s3
      else
        h_k s3 o0 = 32 ∧ w_X11_isHand o0 x2 s3 (fun p8 s7 =>
          if p8 = 0 then
            w_X11_owe_21 Q s7
          else
            h_k s7 o0 = 32 ∧ let v12 : Int32 := ((h_i s7 o0 12) / (100 : Int32))
            (if x2 = x3 then
              w_X11_owe_42 Q o0 x1 x2 x3 v12 s7
            else
              if x2 = x1 then
                w_X11_owe_42 Q o0 x1 x2 x3 v12 s7
              else
                w_X11_owe_59 Q o0 x1 x2 x3 v12 ((v12 * ((h_i s7 o0 12) - (h_i s7 o0 12) / (100 : Int32) * (100 : Int32))) / (10 : Int32)) s7)))
def w_X11_read_18 (Q : Int32 → h_S → Prop) (s : h_S) : Prop :=
  Q (-1 : Int32) s
def w_X11_read_113 (Q : Int32 → h_S → Prop) (K52 : Nat → Int32 → Option Nat → Int32 → Int32 → Int32 → Option Nat → Int32 → Int32 → h_S → Prop) (o0 : Nat) (x1 : Int32) (r3 : Option Nat) (x4 : Int32) (x5 : Int32) (x6 : Int32) (r7 : Option Nat) (x8 : Int32) (x9 : Int32) (s : h_S) : Prop :=
  K52 o0 x1 r3 x4 x5 x6 r7 x8 (x9 + (1 : Int32)) s
def w_X11_read_135 (Q : Int32 → h_S → Prop) (y0 : Int32) (s : h_S) : Prop :=
  Q y0 s
def w_X11_read_52b (Q : Int32 → h_S → Prop) (K52 : Nat → Int32 → Option Nat → Int32 → Int32 → Int32 → Option Nat → Int32 → Int32 → h_S → Prop) (o0 : Nat) (x1 : Int32) (r3 : Option Nat) (x4 : Int32) (x5 : Int32) (x6 : Int32) (r7 : Option Nat) (x8 : Int32) (x9 : Int32) (s : h_S) : Prop :=
  if x8 ≤ x9 then
    if x5 = 0 then
      w_X11_read_135 Q (-3 : Int32) s
    else
      h_k s o0 = 32 ∧ w_X11_acted o0 x6 s (fun p5 s4 =>
        w_X11_read_135 Q p5 s4)
  else
    ∃ a6, r7 = some a6 ∧ h_k s a6 = 1 ∧ vp_in x9 (h_n s a6) ∧ h_k s o0 = 32 ∧ ∃ a10, (h_r s o0 4) = some a10 ∧ h_k s a10 = 28 ∧ w_X7_isIn a10 (h_i s a6 (h_ix x9)) x4 s (fun p13 s12 =>
      if p13 = 0 then
        w_X11_read_113 Q K52 o0 x1 r3 x4 x5 x6 r7 x8 x9 s12
      else
        h_k s12 o0 = 32 ∧ ∃ a16, r3 = some a16 ∧ h_k s12 a16 = 29 ∧ ∃ a18, (h_r s12 o0 4) = some a18 ∧ h_k s12 a18 = 28 ∧ w_X7_ownerOf a18 (h_i s12 a16 0) s12 (fun p21 s20 =>
          h_k s20 o0 = 32 ∧ ∃ a23, (h_r s20 o0 4) = some a23 ∧ h_k s20 a23 = 28 ∧ w_X7_handOf a23 (h_i s a6 (h_ix x9)) s20 (fun p26 s25 =>
            h_k s25 o0 = 32 ∧ w_X11_owe o0 x1 p21 p26 s25 (fun p29 s28 =>
              w_X11_read_113 Q K52 o0 x1 r3 x4 (1 : Int32) (x6 + p29) r7 x8 x9 s28))))
def w_X11_read_52 (Q : Int32 → h_S → Prop) : Nat → Nat → Int32 → Option Nat → Int32 → Int32 → Int32 → Option Nat → Int32 → Int32 → h_S → Prop
  | 0, _, _, _, _, _, _, _, _, _, _ => False
  | n + 1, o0, x1, r3, x4, x5, x6, r7, x8, x9, s => w_X11_read_52b Q (w_X11_read_52 Q n) o0 x1 r3 x4 x5 x6 r7 x8 x9 s
def w_X11_read (o0 : Nat) (x1 : Int32) (x2 : Int32) (s : h_S) (Q : Int32 → h_S → Prop) : Prop :=
  h_k s o0 = 32 ∧ w_X11_versionAt o0 x2 s (fun p3 s2 =>
    h_k s2 o0 = 32 ∧ w_X11_isHand o0 x1 s2 (fun p6 s5 =>
      if p6 = 0 then
        w_X11_read_18 Q s5
      else
        if p3 = none then
          w_X11_read_18 Q s5
        else
          h_k s5 o0 = 32 ∧ w_X11_openHomes o0 x1 p3 (h_i s5 o0 0) s5 (fun p11 s10 =>
            ∃ a12, p3 = some a12 ∧ h_k s10 a12 = 29 ∧ ∃ a14, (h_r s10 a12 2) = some a14 ∧ h_k s10 a14 = 1 ∧ ∃ n, w_X11_read_52 Q n o0 x1 p3 p11 (0 : Int32) (0 : Int32) (h_r s10 a12 2) (Int32.ofNat (h_n s10 a14)) (0 : Int32) s10)))
def w_X11_owes_16 (Q : Int32 → h_S → Prop) (s : h_S) : Prop :=
  Q (-1 : Int32) s
def w_X11_owes (o0 : Nat) (x1 : Int32) (x2 : Int32) (s : h_S) (Q : Int32 → h_S → Prop) : Prop :=
  h_k s o0 = 32 ∧ w_X11_isHand o0 x1 s (fun p3 s2 =>
    if p3 = 0 then
      w_X11_owes_16 Q s2
    else
      h_k s2 o0 = 32 ∧ w_X11_isHand o0 x2 s2 (fun p7 s6 =>
        if p7 = 0 then
          w_X11_owes_16 Q s6
        else
          h_k s6 o0 = 32 ∧ ∃ a10, (h_r s6 o0 11) = some a10 ∧ h_k s6 a10 = 1 ∧ vp_in ((x1 * (8 : Int32)) + x2) (h_n s6 a10) ∧ Q (h_i s6 a10 (h_ix ((x1 * (8 : Int32)) + x2))) s6))
def w_X11_pay_16 (Q : Int32 → h_S → Prop) (s : h_S) : Prop :=
  Q (-1 : Int32) s
def w_X11_pay (o0 : Nat) (x1 : Int32) (x2 : Int32) (x3 : Int32) (s : h_S) (Q : Int32 → h_S → Prop) : Prop :=
  h_k s o0 = 32 ∧ w_X11_isHand o0 x1 s (fun p3 s2 =>
    if p3 = 0 then
      w_X11_pay_16 Q s2
    else
      h_k s2 o0 = 32 ∧ w_X11_isHand o0 x2 s2 (fun p7 s6 =>
        if p7 = 0 then
          w_X11_pay_16 Q s6
        else
          if (1 : Int32) ≤ x3 then
            h_k s6 o0 = 32 ∧ ∃ a11, (h_r s6 o0 11) = some a11 ∧ h_k s6 a11 = 1 ∧ vp_in ((x1 * (8 : Int32)) + x2) (h_n s6 a11) ∧ (if x3 ≤ (h_i s6 a11 (h_ix ((x1 * (8 : Int32)) + x2))) then
              ∃ a15, (h_r s6 o0 11) = some a15 ∧ h_k s6 a15 = 1 ∧ vp_in ((x1 * (8 : Int32)) + x2) (h_n s6 a15) ∧ ∃ a18, (h_r s6 o0 11) = some a18 ∧ h_k s6 a18 = 1 ∧ vp_in ((x1 * (8 : Int32)) + x2) (h_n s6 a18) ∧ let s21 : h_S := h_si s6 a18 (h_ix ((x1 * (8 : Int32)) + x2)) ((h_i s6 a15 (h_ix ((x1 * (8 : Int32)) + x2))) - x3)
              ∃ a22, (h_r s21 o0 11) = some a22 ∧ h_k s21 a22 = 1 ∧ vp_in ((x1 * (8 : Int32)) + x2) (h_n s21 a22) ∧ w_X11_acted o0 (h_i s21 a22 (h_ix ((x1 * (8 : Int32)) + x2))) s21 (fun p26 s25 =>
                Q p26 s25)
            else
              Q (-3 : Int32) s6)
          else
            Q (-2 : Int32) s6))
def w_X11_steps_22 (Q : Int32 → h_S → Prop) (s : h_S) (bc bs : Nat) : Prop :=
  Q (-1 : Int32) s
def w_X11_steps (o0 : Nat) (x1 : Int32) (x2 : Int32) (s : h_S) (mc ms : Nat) (Q : Int32 → h_S → Prop) : Prop :=
  h_k s o0 = 32 ∧ w_X11_versionAt o0 x1 s (fun p3 s2 =>
    if p3 = none then
      w_X11_steps_22 Q s2 mc ms
    else
      ∃ a5, p3 = some a5 ∧ h_k s2 a5 = 29 ∧ ∃ a7, (h_r s2 a5 2) = some a7 ∧ h_k s2 a7 = 1 ∧ w_X11_within x2 (Int32.ofNat (h_n s2 a7)) s2 (fun p10 s9 =>
        if p10 = 0 then
          w_X11_steps_22 Q s9 mc ms
        else
          ∃ a12, p3 = some a12 ∧ h_k s9 a12 = 29 ∧ ∃ a14, (h_r s9 a12 2) = some a14 ∧ h_k s9 a14 = 1 ∧ vp_in x2 (h_n s9 a14) ∧ (if (h_i s9 a14 (h_ix x2)) = (-7 : Int32) then
            Q (-3 : Int32) s9
          else
            h_k s9 o0 = 32 ∧ ∃ a19, p3 = some a19 ∧ h_k s9 a19 = 29 ∧ ∃ a21, p3 = some a21 ∧ h_k s9 a21 = 29 ∧ ∃ a23, (h_r s9 o0 4) = some a23 ∧ h_k s9 a23 = 28 ∧ ∃ mc27 ms28 : Nat, mc27 ≤ mc ∧ ms28 ≤ ms ∧ w_X7_follow a23 (h_i s9 a19 0) (h_i s9 a21 1) x2 s9 mc27 ms28 (fun p26 s25 =>
              Q p26 s25))))
def w_X11_chain_38 (Q : Int32 → h_S → Prop) (y0 : Int32) (s : h_S) (bc bs : Nat) : Prop :=
  Q y0 s
def w_X11_chain (o0 : Nat) (x1 : Int32) (x2 : Int32) (x3 : Int32) (s : h_S) (mc ms : Nat) (Q : Int32 → h_S → Prop) : Prop :=
  h_k s o0 = 32 ∧ ∃ mc4 ms5 : Nat, mc4 ≤ mc ∧ ms5 ≤ ms ∧ w_X11_steps o0 x1 x2 s mc4 ms5 (fun p3 s2 =>
    if 0 ≤ p3 then
      w_X11_within x3 p3 s2 (fun p10 s9 =>
        if p10 = 0 then
          w_X11_chain_38 Q (-1 : Int32) s9 (mc - mc4) (ms - ms5)
        else
          h_k s9 o0 = 32 ∧ ∃ a13, (h_r s9 o0 4) = some a13 ∧ h_k s9 a13 = 28 ∧ ∃ a15, (h_r s9 a13 12) = some a15 ∧ h_k s9 a15 = 1 ∧ vp_in x3 (h_n s9 a15) ∧ w_X11_chain_38 Q (h_i s9 a15 (h_ix x3)) s9 (mc - mc4) (ms - ms5))
    else
      Q p3 s2)
def w_X11_quotes_16 (Q : Int32 → h_S → Prop) (s : h_S) : Prop :=
  Q (-1 : Int32) s
def w_X11_quotes (o0 : Nat) (x1 : Int32) (x2 : Int32) (s : h_S) (Q : Int32 → h_S → Prop) : Prop :=
  h_k s o0 = 32 ∧ w_X11_isWriting o0 x1 s (fun p3 s2 =>
    if p3 = 0 then
      w_X11_quotes_16 Q s2
    else
      h_k s2 o0 = 32 ∧ w_X11_isWriting o0 x2 s2 (fun p7 s6 =>
        if p7 = 0 then
          w_X11_quotes_16 Q s6
        else
          h_k s6 o0 = 32 ∧ ∃ a10, (h_r s6 o0 4) = some a10 ∧ h_k s6 a10 = 28 ∧ w_X7_stepsBetween a10 x1 x2 (0 : Int32) s6 (fun p13 s12 =>
            Q p13 s12)))
def w_X11_standsAt_55 (Q : Int32 → h_S → Prop) (s : h_S) : Prop :=
  Q 0 s
def w_X11_standsAt_3b (Q : Int32 → h_S → Prop) (K3 : Nat → Option Nat → Int32 → Int32 → Option Nat → Int32 → Int32 → Int32 → h_S → Prop) (o0 : Nat) (r1 : Option Nat) (x2 : Int32) (x3 : Int32) (r4 : Option Nat) (x5 : Int32) (x6 : Int32) (x7 : Int32) (s : h_S) : Prop :=
  if x6 ≤ x7 then
    Q 1 s
  else
    ∃ a2, r1 = some a2 ∧ h_k s a2 = 29 ∧ w_X8_placeAt a2 (x2 + x7) s (fun p5 s4 =>
      h_k s4 o0 = 32 ∧ ∃ a7, (h_r s4 o0 4) = some a7 ∧ h_k s4 a7 = 28 ∧ w_X7_isIn a7 p5 x3 s4 (fun p10 s9 =>
        if p10 = 0 then
          w_X11_standsAt_55 Q s9
        else
          h_k s9 o0 = 32 ∧ ∃ a13, (h_r s9 o0 4) = some a13 ∧ h_k s9 a13 = 28 ∧ w_X7_codeOf a13 p5 s9 (fun p16 s15 =>
            ∃ a17, r4 = some a17 ∧ h_k s15 a17 = 26 ∧ w_X5_cellAt a17 (x5 + x7) s15 (fun p20 s19 =>
              if p16 = p20 then
                K3 o0 r1 x2 x3 r4 x5 x6 (x7 + (1 : Int32)) s19
              else
                w_X11_standsAt_55 Q s19))))
def w_X11_standsAt_3 (Q : Int32 → h_S → Prop) : Nat → Nat → Option Nat → Int32 → Int32 → Option Nat → Int32 → Int32 → Int32 → h_S → Prop
  | 0, _, _, _, _, _, _, _, _, _ => False
  | n + 1, o0, r1, x2, x3, r4, x5, x6, x7, s => w_X11_standsAt_3b Q (w_X11_standsAt_3 Q n) o0 r1 x2 x3 r4 x5 x6 x7 s
def w_X11_standsAt (o0 : Nat) (r1 : Option Nat) (x2 : Int32) (x3 : Int32) (r4 : Option Nat) (x5 : Int32) (x6 : Int32) (s : h_S) (Q : Int32 → h_S → Prop) : Prop :=
  ∃ n, w_X11_standsAt_3 Q n o0 r1 x2 x3 r4 x5 x6 (0 : Int32) s
def w_X11_linksWith_36 (Q : Int32 → h_S → Prop) (K4 : Nat → Int32 → Int32 → Int32 → h_S → Prop) (o0 : Nat) (x1 : Int32) (x2 : Int32) (x3 : Int32) (s : h_S) : Prop :=
  K4 o0 x1 x2 (x3 + (1 : Int32)) s
def w_X11_linksWith_4b (Q : Int32 → h_S → Prop) (K4 : Nat → Int32 → Int32 → Int32 → h_S → Prop) (o0 : Nat) (x1 : Int32) (x2 : Int32) (x3 : Int32) (s : h_S) : Prop :=
  h_k s o0 = 32 ∧ ∃ a2, (h_r s o0 7) = some a2 ∧ h_k s a2 = 20 ∧ w_Jx4a65c_size_8abf5 a2 s (fun p5 s4 =>
    if p5 ≤ x3 then
      Q x2 s4
    else
      h_k s4 o0 = 32 ∧ ∃ a8, (h_r s4 o0 7) = some a8 ∧ h_k s4 a8 = 20 ∧ w_Jx4a65c_get_915e3 a8 x3 s4 (fun p11 s10 =>
        (∀ x, p11 = some x → h_k s10 x = 22) ∧ ∃ a13, p11 = some a13 ∧ h_k s10 a13 = 22 ∧ w_X1_holds a13 x1 s10 (fun p16 s15 =>
          if p16 = 0 then
            w_X11_linksWith_36 Q K4 o0 x1 x2 x3 s15
          else
            w_X11_linksWith_36 Q K4 o0 x1 (x2 + (1 : Int32)) x3 s15)))
def w_X11_linksWith_4 (Q : Int32 → h_S → Prop) : Nat → Nat → Int32 → Int32 → Int32 → h_S → Prop
  | 0, _, _, _, _, _ => False
  | n + 1, o0, x1, x2, x3, s => w_X11_linksWith_4b Q (w_X11_linksWith_4 Q n) o0 x1 x2 x3 s
def w_X11_linksWith (o0 : Nat) (x1 : Int32) (s : h_S) (Q : Int32 → h_S → Prop) : Prop :=
  ∃ n, w_X11_linksWith_4 Q n o0 x1 (0 : Int32) (0 : Int32) s
def w_X11_linksOfHit (x0 : Int32) (s : h_S) (Q : Int32 → h_S → Prop) : Prop :=
  Q (h_min (x0 / (4800 : Int32)) (24 : Int32)) s
def w_X11_keepHits_113 (Q : h_S → Prop) (K69 : Nat → Int32 → Nat → Int32 → h_S → Nat → Nat → Prop) (o0 : Nat) (x1 : Int32) (o2 : Nat) (x4 : Int32) (x5 : Int32) (s : h_S) (bc bs : Nat) : Prop :=
  h_k s o2 = 1 ∧ vp_in x5 (h_n s o2) ∧ vp_in x5 (h_n s o2) ∧ let s4 : h_S := h_si s o2 (h_ix x5) ((h_i s o2 (h_ix x5)) + (1 : Int32))
  K69 o0 x1 o2 (x4 + (1 : Int32)) s4 bc bs
def w_X11_keepHits_69b (Q : h_S → Prop) (K69 : Nat → Int32 → Nat → Int32 → h_S → Nat → Nat → Prop) (o0 : Nat) (x1 : Int32) (o2 : Nat) (x4 : Int32) (s : h_S) (bc bs : Nat) : Prop :=
  if x1 ≤ x4 then
    h_k s o0 = 32 ∧ let s3 : h_S := h_si s o0 15 (h_min x1 (200 : Int32))
    Q s3
  else
    h_k s o0 = 32 ∧ ∃ a5, (h_r s o0 13) = some a5 ∧ h_k s a5 = 1 ∧ vp_in x4 (h_n s a5) ∧ w_X11_linksOfHit (h_i s a5 (h_ix x4)) s (fun p9 s8 =>
      h_k s8 o2 = 1 ∧ vp_in p9 (h_n s8 o2) ∧ (if (200 : Int32) ≤ (h_i s8 o2 (h_ix p9)) then
        w_X11_keepHits_113 Q K69 o0 x1 o2 x4 p9 s8 bc bs
      else
        h_k s8 o0 = 32 ∧ vp_in p9 (h_n s8 o2) ∧ ∃ a15, (h_r s8 o0 13) = some a15 ∧ h_k s8 a15 = 1 ∧ vp_in x4 (h_n s8 a15) ∧ ∃ a18, (h_r s8 o0 14) = some a18 ∧ h_k s8 a18 = 1 ∧ vp_in (h_i s8 o2 (h_ix p9)) (h_n s8 a18) ∧ let s21 : h_S := h_si s8 a18 (h_ix (h_i s8 o2 (h_ix p9))) (h_i s8 a15 (h_ix x4))
        w_X11_keepHits_113 Q K69 o0 x1 o2 x4 p9 s21 bc bs))
def w_X11_keepHits_69 (Q : h_S → Prop) : Nat → Nat → Int32 → Nat → Int32 → h_S → Nat → Nat → Prop
  | 0, _, _, _, _, _, _, _ => False
  | n + 1, o0, x1, o2, x4, s, bc, bs => w_X11_keepHits_69b Q (w_X11_keepHits_69 Q n) o0 x1 o2 x4 s bc bs
def w_X11_keepHits_39b (Q : h_S → Prop) (K39 : Nat → Int32 → Nat → Int32 → Int32 → h_S → Nat → Nat → Prop) (o0 : Nat) (x1 : Int32) (o2 : Nat) (x3 : Int32) (x4 : Int32) (s : h_S) (bc bs : Nat) : Prop :=
  if x4 < 0 then
    ∃ n, w_X11_keepHits_69 Q n o0 x1 o2 (0 : Int32) s bc bs
  else
    h_k s o2 = 1 ∧ vp_in x4 (h_n s o2) ∧ vp_in x4 (h_n s o2) ∧ let s5 : h_S := h_si s o2 (h_ix x4) x3
    K39 o0 x1 o2 (x3 + (h_i s o2 (h_ix x4))) (x4 + (-1 : Int32)) s5 bc bs
def w_X11_keepHits_39 (Q : h_S → Prop) : Nat → Nat → Int32 → Nat → Int32 → Int32 → h_S → Nat → Nat → Prop
  | 0, _, _, _, _, _, _, _, _ => False
  | n + 1, o0, x1, o2, x3, x4, s, bc, bs => w_X11_keepHits_39b Q (w_X11_keepHits_39 Q n) o0 x1 o2 x3 x4 s bc bs
def w_X11_keepHits_7b (Q : h_S → Prop) (K7 : Nat → Int32 → Nat → Int32 → h_S → Nat → Nat → Prop) (o0 : Nat) (x1 : Int32) (o2 : Nat) (x3 : Int32) (s : h_S) (bc bs : Nat) : Prop :=
  if x1 ≤ x3 then
    ∃ n, w_X11_keepHits_39 Q n o0 x1 o2 (0 : Int32) (24 : Int32) s bc bs
  else
    h_k s o0 = 32 ∧ ∃ a3, (h_r s o0 13) = some a3 ∧ h_k s a3 = 1 ∧ vp_in x3 (h_n s a3) ∧ w_X11_linksOfHit (h_i s a3 (h_ix x3)) s (fun p7 s6 =>
      h_k s6 o2 = 1 ∧ vp_in p7 (h_n s6 o2) ∧ vp_in p7 (h_n s6 o2) ∧ let s11 : h_S := h_si s6 o2 (h_ix p7) ((h_i s6 o2 (h_ix p7)) + (1 : Int32))
      K7 o0 x1 o2 (x3 + (1 : Int32)) s11 bc bs)
def w_X11_keepHits_7 (Q : h_S → Prop) : Nat → Nat → Int32 → Nat → Int32 → h_S → Nat → Nat → Prop
  | 0, _, _, _, _, _, _, _ => False
  | n + 1, o0, x1, o2, x3, s, bc, bs => w_X11_keepHits_7b Q (w_X11_keepHits_7 Q n) o0 x1 o2 x3 s bc bs
def w_X11_keepHits (o0 : Nat) (x1 : Int32) (s : h_S) (mc ms : Nat) (Q : h_S → Prop) : Prop :=
  1 ≤ mc ∧ 26 ≤ ms ∧ ∀ q1 : Nat, h_k s q1 = 0 → let s5 : h_S := h_nw s q1 1 26
  let c6 : Nat := mc - 1
  let d7 : Nat := ms - 26
  ∃ n, w_X11_keepHits_7 Q n o0 x1 q1 (0 : Int32) s5 c6 d7
def w_X11_seek_21 (Q : Int32 → h_S → Prop) (s : h_S) (bc bs : Nat) : Prop :=
  Q (-1 : Int32) s
def w_X11_seek_181 (Q : Int32 → h_S → Prop) (K57 : Nat → Int32 → Int32 → Int32 → Int32 → Int32 → Int32 → h_S → Nat → Nat → Prop) (K99 : Nat → Int32 → Int32 → Int32 → Int32 → Int32 → Int32 → Option Nat → Int32 → Int32 → h_S → Nat → Nat → Prop) (o0 : Nat) (x1 : Int32) (x2 : Int32) (x4 : Int32) (x5 : Int32) (x7 : Int32) (x8 : Int32) (r9 : Option Nat) (x10 : Int32) (x11 : Int32) (s : h_S) (bc bs : Nat) : Prop :=
  K99 o0 x1 x2 x4 x5 x7 x8 r9 x10 (x11 + (1 : Int32)) s bc bs
def w_X11_seek_99b (Q : Int32 → h_S → Prop) (K57 : Nat → Int32 → Int32 → Int32 → Int32 → Int32 → Int32 → h_S → Nat → Nat → Prop) (K99 : Nat → Int32 → Int32 → Int32 → Int32 → Int32 → Int32 → Option Nat → Int32 → Int32 → h_S → Nat → Nat → Prop) (o0 : Nat) (x1 : Int32) (x2 : Int32) (x4 : Int32) (x5 : Int32) (x7 : Int32) (x8 : Int32) (r9 : Option Nat) (x10 : Int32) (x11 : Int32) (s : h_S) (bc bs : Nat) : Prop :=
  ∃ a1, r9 = some a1 ∧ h_k s a1 = 29 ∧ ∃ a3, (h_r s a1 2) = some a3 ∧ h_k s a3 = 1 ∧ (if ((Int32.ofNat (h_n s a3)) - x5) < x11 then
    K57 o0 x1 x2 x4 x5 x7 (x8 + (1 : Int32)) s bc bs
  else
    h_k s o0 = 32 ∧ ∃ a7, (h_r s o0 13) = some a7 ∧ h_k s a7 = 1 ∧ (if (Int32.ofNat (h_n s a7)) ≤ x7 then
      w_X11_seek_181 Q K57 K99 o0 x1 x2 x4 x5 x7 x8 r9 x10 x11 s bc bs
    else
      ∃ a10, (h_r s o0 9) = some a10 ∧ h_k s a10 = 5 ∧ vp_in x2 (h_n s a10) ∧ w_X11_standsAt o0 r9 x11 x10 (h_r s a10 (h_ix x2)) x4 x5 s (fun p14 s13 =>
        if p14 = 0 then
          w_X11_seek_181 Q K57 K99 o0 x1 x2 x4 x5 x7 x8 r9 x10 x11 s13 bc bs
        else
          h_k s13 o0 = 32 ∧ ∃ a17, r9 = some a17 ∧ h_k s13 a17 = 29 ∧ ∃ a19, (h_r s13 a17 2) = some a19 ∧ h_k s13 a19 = 1 ∧ vp_in x11 (h_n s13 a19) ∧ w_X11_linksWith o0 (h_i s13 a19 (h_ix x11)) s13 (fun p23 s22 =>
            ∃ a24, (h_r s13 o0 13) = some a24 ∧ h_k s22 a24 = 1 ∧ vp_in x7 (h_n s22 a24) ∧ let s27 : h_S := h_si s22 a24 (h_ix x7) ((((p23 * (16 : Int32)) + x8) * (300 : Int32)) + x11)
            w_X11_seek_181 Q K57 K99 o0 x1 x2 x4 x5 (x7 + (1 : Int32)) x8 r9 x10 x11 s27 bc bs))))
def w_X11_seek_99 (Q : Int32 → h_S → Prop) (K57 : Nat → Int32 → Int32 → Int32 → Int32 → Int32 → Int32 → h_S → Nat → Nat → Prop) : Nat → Nat → Int32 → Int32 → Int32 → Int32 → Int32 → Int32 → Option Nat → Int32 → Int32 → h_S → Nat → Nat → Prop
  | 0, _, _, _, _, _, _, _, _, _, _, _, _, _ => False
  | n + 1, o0, x1, x2, x4, x5, x7, x8, r9, x10, x11, s, bc, bs => w_X11_seek_99b Q K57 (w_X11_seek_99 Q K57 n) o0 x1 x2 x4 x5 x7 x8 r9 x10 x11 s bc bs
def w_X11_seek_57b (Q : Int32 → h_S → Prop) (K57 : Nat → Int32 → Int32 → Int32 → Int32 → Int32 → Int32 → h_S → Nat → Nat → Prop) (o0 : Nat) (x1 : Int32) (x2 : Int32) (x4 : Int32) (x5 : Int32) (x7 : Int32) (x8 : Int32) (s : h_S) (bc bs : Nat) : Prop :=
  h_k s o0 = 32 ∧ ∃ a2, (h_r s o0 5) = some a2 ∧ h_k s a2 = 20 ∧ w_Jx4a65c_size_8abf5 a2 s (fun p5 s4 =>
    if p5 ≤ x8 then
      h_k s4 o0 = 32 ∧ ∃ mc10 ms11 : Nat, mc10 ≤ bc ∧ ms11 ≤ bs ∧ w_X11_keepHits o0 x7 s4 mc10 ms11 (fun s8 =>
        Q x7 s8)
    else
      h_k s4 o0 = 32 ∧ ∃ a15, (h_r s4 o0 5) = some a15 ∧ h_k s4 a15 = 20 ∧ w_Jx4a65c_get_915e3 a15 x8 s4 (fun p18 s17 =>
        (∀ x, p18 = some x → h_k s17 x = 29) ∧ h_k s17 o0 = 32 ∧ w_X11_openHomes o0 x1 p18 (h_i s17 o0 0) s17 (fun p22 s21 =>
          ∃ n, w_X11_seek_99 Q K57 n o0 x1 x2 x4 x5 x7 x8 p18 p22 (0 : Int32) s21 bc bs)))
def w_X11_seek_57 (Q : Int32 → h_S → Prop) : Nat → Nat → Int32 → Int32 → Int32 → Int32 → Int32 → Int32 → h_S → Nat → Nat → Prop
  | 0, _, _, _, _, _, _, _, _, _, _ => False
  | n + 1, o0, x1, x2, x4, x5, x7, x8, s, bc, bs => w_X11_seek_57b Q (w_X11_seek_57 Q n) o0 x1 x2 x4 x5 x7 x8 s bc bs
def w_X11_seek (o0 : Nat) (x1 : Int32) (x2 : Int32) (x3 : Int32) (x4 : Int32) (x5 : Int32) (s : h_S) (mc ms : Nat) (Q : Int32 → h_S → Prop) : Prop :=
  h_k s o0 = 32 ∧ let s2 : h_S := h_si s o0 18 (0 : Int32)
  w_X11_isHand o0 x1 s2 (fun p4 s3 =>
    if p4 = 0 then
      w_X11_seek_21 Q s3 mc ms
    else
      w_X11_within x2 (4 : Int32) s3 (fun p7 s6 =>
        if p7 = 0 then
          w_X11_seek_21 Q s6 mc ms
        else
          h_k s6 o0 = 32 ∧ w_X11_refusedCells o0 x2 x3 x4 x5 s6 (fun p11 s10 =>
            if p11 = 0 then
              if x5 = 0 then
                Q (-2 : Int32) s10
              else
                ∃ n, w_X11_seek_57 Q n o0 x1 x2 x4 x5 (0 : Int32) (0 : Int32) s10 mc ms
            else
              Q p11 s10)))
def w_X11_hit (o0 : Nat) (x1 : Int32) (x2 : Int32) (s : h_S) (Q : Int32 → h_S → Prop) : Prop :=
  h_k s o0 = 32 ∧ w_X11_within x1 (h_i s o0 15) s (fun p3 s2 =>
    if p3 = 0 then
      Q (-1 : Int32) s2
    else
      if x2 = (0 : Int32) then
        h_k s2 o0 = 32 ∧ ∃ a7, (h_r s2 o0 14) = some a7 ∧ h_k s2 a7 = 1 ∧ vp_in x1 (h_n s2 a7) ∧ Q (((h_i s2 a7 (h_ix x1)) / (300 : Int32)) - ((h_i s2 a7 (h_ix x1)) / (300 : Int32)) / (16 : Int32) * (16 : Int32)) s2
      else if x2 = (1 : Int32) then
        h_k s2 o0 = 32 ∧ ∃ a14, (h_r s2 o0 14) = some a14 ∧ h_k s2 a14 = 1 ∧ vp_in x1 (h_n s2 a14) ∧ Q ((h_i s2 a14 (h_ix x1)) - (h_i s2 a14 (h_ix x1)) / (300 : Int32) * (300 : Int32)) s2
      else if x2 = (2 : Int32) then
        h_k s2 o0 = 32 ∧ ∃ a20, (h_r s2 o0 14) = some a20 ∧ h_k s2 a20 = 1 ∧ vp_in x1 (h_n s2 a20) ∧ w_X11_linksOfHit (h_i s2 a20 (h_ix x1)) s2 (fun p24 s23 =>
          Q p24 s23)
      else 
        Q (-2 : Int32) s2)
def w_X11_growTree_73 (Q : h_S → Prop) (K2 : Nat → Int32 → Int32 → h_S → Prop) (o0 : Nat) (x1 : Int32) (x2 : Int32) (y0 : Int32) (y1 : Int32) (t2 : Option Nat) (s : h_S) : Prop :=
  ∃ a1, t2 = some a1 ∧ h_k s a1 = 1 ∧ vp_in y1 (h_n s a1) ∧ let s4 : h_S := h_si s a1 (h_ix y1) y0
  K2 o0 x1 (x2 + (1 : Int32)) s4
def w_X11_growTree_35 (Q : h_S → Prop) (K2 : Nat → Int32 → Int32 → h_S → Prop) (o0 : Nat) (x1 : Int32) (x2 : Int32) (r3 : Option Nat) (y0 : Int32) (s : h_S) : Prop :=
  h_k s o0 = 32 ∧ (if y0 = 0 then
    w_X11_growTree_73 Q K2 o0 x1 x2 (0 : Int32) ((512 : Int32) + x2) (h_r s o0 16) s
  else
    ∃ a3, r3 = some a3 ∧ h_k s a3 = 31 ∧ ∃ a5, r3 = some a5 ∧ h_k s a5 = 31 ∧ w_X11_mix (h_i s a3 1) (h_i s a5 0) s (fun p8 s7 =>
      ∃ a9, r3 = some a9 ∧ h_k s7 a9 = 31 ∧ w_X11_mix p8 (h_i s7 a9 3) s7 (fun p12 s11 =>
        w_X11_growTree_73 Q K2 o0 x1 x2 p12 ((512 : Int32) + x2) (h_r s o0 16) s11)))
def w_X11_growTree_34 (Q : h_S → Prop) (K2 : Nat → Int32 → Int32 → h_S → Prop) (o0 : Nat) (x1 : Int32) (x2 : Int32) (r3 : Option Nat) (s : h_S) : Prop :=
  w_X11_growTree_35 Q K2 o0 x1 x2 r3 (0 : Int32) s
def w_X11_growTree_84b (Q : h_S → Prop) (K84 : Nat → Int32 → h_S → Prop) (o0 : Nat) (x2 : Int32) (s : h_S) : Prop :=
  if x2 ≤ 0 then
    Q s
  else
    h_k s o0 = 32 ∧ ∃ a3, (h_r s o0 16) = some a3 ∧ h_k s a3 = 1 ∧ vp_in ((2 : Int32) * x2) (h_n s a3) ∧ ∃ a6, (h_r s o0 16) = some a6 ∧ h_k s a6 = 1 ∧ vp_in (((2 : Int32) * x2) + (1 : Int32)) (h_n s a6) ∧ w_X11_mix (h_i s a3 (h_ix ((2 : Int32) * x2))) (h_i s a6 (h_ix (((2 : Int32) * x2) + (1 : Int32)))) s (fun p10 s9 =>
      ∃ a11, (h_r s o0 16) = some a11 ∧ h_k s9 a11 = 1 ∧ vp_in x2 (h_n s9 a11) ∧ let s14 : h_S := h_si s9 a11 (h_ix x2) p10
      K84 o0 (x2 + (-1 : Int32)) s14)
def w_X11_growTree_84 (Q : h_S → Prop) : Nat → Nat → Int32 → h_S → Prop
  | 0, _, _, _ => False
  | n + 1, o0, x2, s => w_X11_growTree_84b Q (w_X11_growTree_84 Q n) o0 x2 s
def w_X11_growTree_2b (Q : h_S → Prop) (K2 : Nat → Int32 → Int32 → h_S → Prop) (o0 : Nat) (x1 : Int32) (x2 : Int32) (s : h_S) : Prop :=
  if (512 : Int32) ≤ x2 then
    ∃ n, w_X11_growTree_84 Q n o0 (511 : Int32) s
  else
    h_k s o0 = 32 ∧ ∃ a3, (h_r s o0 4) = some a3 ∧ h_k s a3 = 28 ∧ w_X7_wordAt a3 x2 s (fun p6 s5 =>
      if p6 = none then
        w_X11_growTree_34 Q K2 o0 x1 x2 p6 s5
      else
        ∃ a8, p6 = some a8 ∧ h_k s5 a8 = 31 ∧ (if x1 < (h_i s5 a8 3) then
          w_X11_growTree_34 Q K2 o0 x1 x2 p6 s5
        else
          w_X11_growTree_35 Q K2 o0 x1 x2 p6 (1 : Int32) s5))
def w_X11_growTree_2 (Q : h_S → Prop) : Nat → Nat → Int32 → Int32 → h_S → Prop
  | 0, _, _, _, _ => False
  | n + 1, o0, x1, x2, s => w_X11_growTree_2b Q (w_X11_growTree_2 Q n) o0 x1 x2 s
def w_X11_growTree (o0 : Nat) (x1 : Int32) (s : h_S) (Q : h_S → Prop) : Prop :=
  ∃ n, w_X11_growTree_2 Q n o0 x1 (0 : Int32) s
def w_X11_seal (o0 : Nat) (x1 : Int32) (s : h_S) (Q : Int32 → h_S → Prop) : Prop :=
  h_k s o0 = 32 ∧ w_X11_isMoment o0 x1 s (fun p3 s2 =>
    if p3 = 0 then
      Q (0 : Int32) s2
    else
      h_k s2 o0 = 32 ∧ w_X11_growTree o0 x1 s2 (fun s6 =>
        h_k s6 o0 = 32 ∧ ∃ a9, (h_r s6 o0 16) = some a9 ∧ h_k s6 a9 = 1 ∧ vp_in (1 : Int32) (h_n s6 a9) ∧ Q (h_i s6 a9 (h_ix (1 : Int32))) s6))
def w_X11_sideInTree_32 (Q : Int32 → h_S → Prop) (y0 : Int32) (s : h_S) : Prop :=
  Q y0 s
def w_X11_sideInTree (o0 : Nat) (x1 : Int32) (x2 : Int32) (s : h_S) (Q : Int32 → h_S → Prop) : Prop :=
  let v1 : Int32 := ((((512 : Int32) + x1) >>> (x2 &&& 31)) ^^^ (1 : Int32))
  h_k s o0 = 32 ∧ ∃ a3, (h_r s o0 16) = some a3 ∧ h_k s a3 = 1 ∧ w_X11_within v1 (Int32.ofNat (h_n s a3)) s (fun p6 s5 =>
    if p6 = 0 then
      w_X11_sideInTree_32 Q (0 : Int32) s5
    else
      h_k s5 o0 = 32 ∧ ∃ a9, (h_r s5 o0 16) = some a9 ∧ h_k s5 a9 = 1 ∧ vp_in v1 (h_n s5 a9) ∧ w_X11_sideInTree_32 Q (h_i s5 a9 (h_ix v1)) s5)
def w_X11_side_31 (Q : Int32 → h_S → Prop) (s : h_S) : Prop :=
  Q (0 : Int32) s
def w_X11_side (o0 : Nat) (x1 : Int32) (x2 : Int32) (x3 : Int32) (s : h_S) (Q : Int32 → h_S → Prop) : Prop :=
  h_k s o0 = 32 ∧ ∃ a2, (h_r s o0 4) = some a2 ∧ h_k s a2 = 28 ∧ w_X7_wordCount a2 s (fun p5 s4 =>
    w_X11_within x1 p5 s4 (fun p7 s6 =>
      if p7 = 0 then
        w_X11_side_31 Q s6
      else
        h_k s6 o0 = 32 ∧ w_X11_isMoment o0 x2 s6 (fun p11 s10 =>
          if p11 = 0 then
            w_X11_side_31 Q s10
          else
            w_X11_within x3 (9 : Int32) s10 (fun p14 s13 =>
              if p14 = 0 then
                w_X11_side_31 Q s13
              else
                h_k s13 o0 = 32 ∧ w_X11_growTree o0 x2 s13 (fun s17 =>
                  h_k s17 o0 = 32 ∧ w_X11_sideInTree o0 x1 x3 s17 (fun p21 s20 =>
                    Q p21 s20))))))
def w_X11_prove_33 (Q : Int32 → h_S → Prop) (s : h_S) : Prop :=
  Q (-1 : Int32) s
def w_X11_prove_146 (Q : Int32 → h_S → Prop) (K78 : Nat → Int32 → Int32 → Int32 → Int32 → Int32 → h_S → Prop) (o0 : Nat) (x1 : Int32) (x6 : Int32) (x8 : Int32) (x11 : Int32) (y0 : Int32) (s : h_S) : Prop :=
  K78 o0 x1 x6 x8 y0 (x11 + (1 : Int32)) s
def w_X11_prove_170 (Q : Int32 → h_S → Prop) (y0 : Int32) (s : h_S) : Prop :=
  Q y0 s
def w_X11_prove_78b (Q : Int32 → h_S → Prop) (K78 : Nat → Int32 → Int32 → Int32 → Int32 → Int32 → h_S → Prop) (o0 : Nat) (x1 : Int32) (x6 : Int32) (x8 : Int32) (x10 : Int32) (x11 : Int32) (s : h_S) : Prop :=
  if (9 : Int32) ≤ x11 then
    h_k s o0 = 32 ∧ ∃ a3, (h_r s o0 16) = some a3 ∧ h_k s a3 = 1 ∧ vp_in (1 : Int32) (h_n s a3) ∧ (if x10 = (h_i s a3 (h_ix (1 : Int32))) then
      w_X11_prove_170 Q (1 : Int32) s
    else
      w_X11_prove_170 Q (0 : Int32) s)
  else
    h_k s o0 = 32 ∧ w_X11_sideInTree o0 x1 x11 s (fun p9 s8 =>
      h_k s8 o0 = 32 ∧ ∃ a11, (h_r s8 o0 9) = some a11 ∧ h_k s8 a11 = 5 ∧ vp_in x6 (h_n s8 a11) ∧ ∃ a14, (h_r s8 a11 (h_ix x6)) = some a14 ∧ h_k s8 a14 = 26 ∧ w_X5_cellAt a14 (x8 + x11) s8 (fun p17 s16 =>
        if p17 = p9 then
          if ((x1 >>> (x11 &&& 31)) &&& (1 : Int32)) = 0 then
            w_X11_mix x10 p9 s16 (fun p23 s22 =>
              w_X11_prove_146 Q K78 o0 x1 x6 x8 x11 p23 s22)
          else
            w_X11_mix p9 x10 s16 (fun p21 s20 =>
              w_X11_prove_146 Q K78 o0 x1 x6 x8 x11 p21 s20)
        else
          Q ((-100 : Int32) - x11) s16))
def w_X11_prove_78 (Q : Int32 → h_S → Prop) : Nat → Nat → Int32 → Int32 → Int32 → Int32 → Int32 → h_S → Prop
  | 0, _, _, _, _, _, _, _ => False
  | n + 1, o0, x1, x6, x8, x10, x11, s => w_X11_prove_78b Q (w_X11_prove_78 Q n) o0 x1 x6 x8 x10 x11 s
def w_X11_prove (o0 : Nat) (x1 : Int32) (x2 : Int32) (x3 : Int32) (x4 : Int32) (x5 : Int32) (x6 : Int32) (x7 : Int32) (x8 : Int32) (s : h_S) (Q : Int32 → h_S → Prop) : Prop :=
  h_k s o0 = 32 ∧ let s2 : h_S := h_si s o0 18 (0 : Int32)
  w_X11_within x1 (500 : Int32) s2 (fun p4 s3 =>
    if p4 = 0 then
      w_X11_prove_33 Q s3
    else
      h_k s3 o0 = 32 ∧ w_X11_isMoment o0 x5 s3 (fun p8 s7 =>
        if p8 = 0 then
          w_X11_prove_33 Q s7
        else
          w_X11_within x6 (4 : Int32) s7 (fun p11 s10 =>
            if p11 = 0 then
              w_X11_prove_33 Q s10
            else
              h_k s10 o0 = 32 ∧ w_X11_refusedCells o0 x6 x7 x8 (9 : Int32) s10 (fun p15 s14 =>
                if p15 = 0 then
                  h_k s14 o0 = 32 ∧ w_X11_growTree o0 x5 s14 (fun s18 =>
                    w_X11_mix x2 x3 s18 (fun p21 s20 =>
                      w_X11_mix p21 x4 s20 (fun p23 s22 =>
                        ∃ n, w_X11_prove_78 Q n o0 x1 x6 x8 p23 (0 : Int32) s22)))
                else
                  Q p15 s14))))
def w_X11_stamp_18 (Q : Int32 → h_S → Prop) (y0 : Int32) (s : h_S) : Prop :=
  Q y0 s
def w_X11_stamp (o0 : Nat) (x1 : Int32) (s : h_S) (Q : Int32 → h_S → Prop) : Prop :=
  h_k s o0 = 32 ∧ w_X11_isMoment o0 x1 s (fun p3 s2 =>
    if p3 = 0 then
      w_X11_stamp_18 Q (0 : Int32) s2
    else
      h_k s2 o0 = 32 ∧ ∃ a6, (h_r s2 o0 2) = some a6 ∧ h_k s2 a6 = 1 ∧ vp_in x1 (h_n s2 a6) ∧ w_X11_stamp_18 Q (h_i s2 a6 (h_ix x1)) s2)
def w_X11_sheet_29 (Q : Int32 → h_S → Prop) (s : h_S) : Prop :=
  Q (-2 : Int32) s
def w_X11_sheet (o0 : Nat) (x1 : Int32) (x2 : Int32) (x3 : Int32) (s : h_S) (Q : Int32 → h_S → Prop) : Prop :=
  h_k s o0 = 32 ∧ let s2 : h_S := h_si s o0 18 (0 : Int32)
  w_X11_within x1 (4 : Int32) s2 (fun p4 s3 =>
    if p4 = 0 then
      Q (-1 : Int32) s3
    else
      w_X11_within x2 (3 : Int32) s3 (fun p7 s6 =>
        if p7 = 0 then
          w_X11_sheet_29 Q s6
        else
          if x3 ≤ (60 : Int32) then
            if 0 ≤ x3 then
              h_k s6 o0 = 32 ∧ ∃ a12, (h_r s6 o0 9) = some a12 ∧ h_k s6 a12 = 5 ∧ vp_in x1 (h_n s6 a12) ∧ ∃ a15, (h_r s6 a12 (h_ix x1)) = some a15 ∧ h_k s6 a15 = 26 ∧ w_X5_renew a15 x2 x3 s6 (fun s17 =>
                Q (1 : Int32) s17)
            else
              h_k s6 o0 = 32 ∧ w_X11_failed o0 (4 : Int32) s6 (fun p21 s20 =>
                Q p21 s20)
          else
            w_X11_sheet_29 Q s6))
def w_X11_lose_27 (Q : Int32 → h_S → Prop) (o0 : Nat) (x1 : Int32) (y0 : Int32) (s : h_S) : Prop :=
  h_k s o0 = 32 ∧ ∃ a2, (h_r s o0 9) = some a2 ∧ h_k s a2 = 5 ∧ vp_in x1 (h_n s a2) ∧ ∃ a5, (h_r s a2 (h_ix x1)) = some a5 ∧ h_k s a5 = 26 ∧ let s7 : h_S := h_si s a5 1 (-1 : Int32)
  Q y0 s7
def w_X11_lose (o0 : Nat) (x1 : Int32) (s : h_S) (Q : Int32 → h_S → Prop) : Prop :=
  w_X11_within x1 (4 : Int32) s (fun p2 s1 =>
    if p2 = 0 then
      Q (-1 : Int32) s1
    else
      h_k s1 o0 = 32 ∧ ∃ a5, (h_r s1 o0 9) = some a5 ∧ h_k s1 a5 = 5 ∧ vp_in x1 (h_n s1 a5) ∧ ∃ a8, (h_r s1 a5 (h_ix x1)) = some a8 ∧ h_k s1 a8 = 26 ∧ w_X5_isNothing a8 s1 (fun p11 s10 =>
        if p11 = 0 then
          w_X11_lose_27 Q o0 x1 (1 : Int32) s10
        else
          w_X11_lose_27 Q o0 x1 (0 : Int32) s10))
def w_X11_set (o0 : Nat) (x1 : Int32) (x2 : Int32) (x3 : Int32) (s : h_S) (Q : Int32 → h_S → Prop) : Prop :=
  h_k s o0 = 32 ∧ let s2 : h_S := h_si s o0 18 (0 : Int32)
  w_X11_within x1 (4 : Int32) s2 (fun p4 s3 =>
    if p4 = 0 then
      Q (-1 : Int32) s3
    else
      h_k s3 o0 = 32 ∧ ∃ a7, (h_r s3 o0 9) = some a7 ∧ h_k s3 a7 = 5 ∧ vp_in x1 (h_n s3 a7) ∧ ∃ a10, (h_r s3 o0 9) = some a10 ∧ h_k s3 a10 = 5 ∧ vp_in x1 (h_n s3 a10) ∧ ∃ a13, (h_r s3 a10 (h_ix x1)) = some a13 ∧ h_k s3 a13 = 26 ∧ ∃ a15, (h_r s3 a7 (h_ix x1)) = some a15 ∧ h_k s3 a15 = 26 ∧ w_X5_faultOf a15 (h_i s3 a13 0) x2 (1 : Int32) s3 (fun p18 s17 =>
        if p18 = 0 then
          h_k s17 o0 = 32 ∧ ∃ a21, (h_r s17 o0 9) = some a21 ∧ h_k s17 a21 = 5 ∧ vp_in x1 (h_n s17 a21) ∧ ∃ a24, (h_r s17 a21 (h_ix x1)) = some a24 ∧ h_k s17 a24 = 26 ∧ w_X5_write a24 x2 x3 s17 (fun s26 =>
            Q (1 : Int32) s26)
        else
          h_k s17 o0 = 32 ∧ w_X11_failed o0 p18 s17 (fun p30 s29 =>
            Q p30 s29)))
def w_X11_cell_24 (Q : Int64 → h_S → Prop) (s : h_S) : Prop :=
  Q (-9223372036854775808 : Int64) s
def w_X11_cell (o0 : Nat) (x1 : Int32) (x2 : Int32) (x3 : Int32) (s : h_S) (Q : Int64 → h_S → Prop) : Prop :=
  h_k s o0 = 32 ∧ let s2 : h_S := h_si s o0 18 (0 : Int32)
  w_X11_within x1 (4 : Int32) s2 (fun p4 s3 =>
    if p4 = 0 then
      w_X11_cell_24 Q s3
    else
      h_k s3 o0 = 32 ∧ w_X11_refusedCells o0 x1 x3 x2 (1 : Int32) s3 (fun p8 s7 =>
        if p8 = 0 then
          h_k s7 o0 = 32 ∧ ∃ a11, (h_r s7 o0 9) = some a11 ∧ h_k s7 a11 = 5 ∧ vp_in x1 (h_n s7 a11) ∧ ∃ a14, (h_r s7 a11 (h_ix x1)) = some a14 ∧ h_k s7 a14 = 26 ∧ w_X5_cellAt a14 x2 s7 (fun p17 s16 =>
            Q ((p17).toInt64) s16)
        else
          w_X11_cell_24 Q s7))
def w_X11_copy_21 (Q : Int32 → h_S → Prop) (s : h_S) : Prop :=
  Q (-1 : Int32) s
def w_X11_copy_55 (Q : Int32 → h_S → Prop) (o0 : Nat) (s : h_S) : Prop :=
  h_k s o0 = 32 ∧ w_X11_failed o0 (1 : Int32) s (fun p3 s2 =>
    Q p3 s2)
def w_X11_copy_103 (Q : Int32 → h_S → Prop) (o0 : Nat) (s : h_S) : Prop :=
  h_k s o0 = 32 ∧ w_X11_failed o0 (3 : Int32) s (fun p3 s2 =>
    Q p3 s2)
def w_X11_copy (o0 : Nat) (x1 : Int32) (x2 : Int32) (x3 : Int32) (x4 : Int32) (x5 : Int32) (s : h_S) (Q : Int32 → h_S → Prop) : Prop :=
  h_k s o0 = 32 ∧ let s2 : h_S := h_si s o0 18 (0 : Int32)
  w_X11_within x1 (4 : Int32) s2 (fun p4 s3 =>
    if p4 = 0 then
      w_X11_copy_21 Q s3
    else
      w_X11_within x3 (4 : Int32) s3 (fun p7 s6 =>
        if p7 = 0 then
          w_X11_copy_21 Q s6
        else
          h_k s6 o0 = 32 ∧ ∃ a10, (h_r s6 o0 9) = some a10 ∧ h_k s6 a10 = 5 ∧ vp_in x1 (h_n s6 a10) ∧ ∃ a13, (h_r s6 o0 9) = some a13 ∧ h_k s6 a13 = 5 ∧ vp_in x3 (h_n s6 a13) ∧ ∃ a16, (h_r s6 a10 (h_ix x1)) = some a16 ∧ h_k s6 a16 = 26 ∧ w_X5_isNothing a16 s6 (fun p19 s18 =>
            if p19 = 0 then
              ∃ a21, (h_r s6 a13 (h_ix x3)) = some a21 ∧ h_k s18 a21 = 26 ∧ w_X5_isNothing a21 s18 (fun p24 s23 =>
                if p24 = 0 then
                  ∃ a26, (h_r s6 a10 (h_ix x1)) = some a26 ∧ h_k s23 a26 = 26 ∧ ∃ a28, (h_r s6 a13 (h_ix x3)) = some a28 ∧ h_k s23 a28 = 26 ∧ (if (h_i s23 a26 0) = (h_i s23 a28 0) then
                    ∃ a31, (h_r s6 a10 (h_ix x1)) = some a31 ∧ h_k s23 a31 = 26 ∧ w_X5_hasCells a31 x2 x5 s23 (fun p34 s33 =>
                      if p34 = 0 then
                        w_X11_copy_103 Q o0 s33
                      else
                        ∃ a36, (h_r s6 a13 (h_ix x3)) = some a36 ∧ h_k s33 a36 = 26 ∧ w_X5_hasCells a36 x4 x5 s33 (fun p39 s38 =>
                          if p39 = 0 then
                            w_X11_copy_103 Q o0 s38
                          else
                            ∃ a41, (h_r s6 a10 (h_ix x1)) = some a41 ∧ h_k s38 a41 = 26 ∧ ∃ a43, (h_r s6 a13 (h_ix x3)) = some a43 ∧ h_k s38 a43 = 26 ∧ ∃ a45, (h_r s38 a43 2) = some a45 ∧ h_k s38 a45 = 1 ∧ ∃ a47, (h_r s38 a41 2) = some a47 ∧ h_k s38 a47 = 1 ∧ ¬ x2 < 0 ∧ ¬ x4 < 0 ∧ ¬ x5 < 0 ∧ h_ix x2 + h_ix x5 ≤ h_n s38 a47 ∧ h_ix x4 + h_ix x5 ≤ h_n s38 a45 ∧ let s54 : h_S := h_cp s38 a47 (h_ix x2) a45 (h_ix x4) (h_ix x5)
                            Q x5 s54))
                  else
                    h_k s23 o0 = 32 ∧ w_X11_failed o0 (2 : Int32) s23 (fun p57 s56 =>
                      Q p57 s56))
                else
                  w_X11_copy_55 Q o0 s23)
            else
              w_X11_copy_55 Q o0 s18)))
def w_X11_noteBody (o0 : Nat) (x1 : Int32) (s : h_S) (Q : h_S → Prop) : Prop :=
  h_k s o0 = 32 ∧ let s2 : h_S := h_si s o0 17 (((31 : Int32) * (h_i s o0 17)) + x1)
  Q s2
def w_X11_tellLink (o0 : Nat) (r1 : Option Nat) (s : h_S) (Q : Int32 → h_S → Prop) : Prop :=
  h_k s o0 = 32 ∧ w_X11_noteBody o0 (1 : Int32) s (fun s2 =>
    ∃ a4, r1 = some a4 ∧ h_k s2 a4 = 22 ∧ ∃ a6, (h_r s2 a4 2) = some a6 ∧ h_k s2 a6 = 1 ∧ vp_in (0 : Int32) (h_n s2 a6) ∧ Q (h_i s2 a6 (h_ix (0 : Int32))) s2)
def w_X11_tellNote (o0 : Nat) (r1 : Option Nat) (s : h_S) (Q : Int32 → h_S → Prop) : Prop :=
  h_k s o0 = 32 ∧ w_X11_noteBody o0 (2 : Int32) s (fun s2 =>
    h_k s2 o0 = 32 ∧ w_X11_tellLink o0 r1 s2 (fun p6 s5 =>
      ∃ a7, r1 = some a7 ∧ h_k s5 a7 = 22 ∧ ∃ a9, (h_r s5 a7 2) = some a9 ∧ h_k s5 a9 = 1 ∧ vp_in (1 : Int32) (h_n s5 a9) ∧ Q (p6 + (h_i s5 a9 (h_ix (1 : Int32)))) s5))
def w_X11_tellReply (o0 : Nat) (r1 : Option Nat) (s : h_S) (Q : Int32 → h_S → Prop) : Prop :=
  h_k s o0 = 32 ∧ w_X11_noteBody o0 (3 : Int32) s (fun s2 =>
    h_k s2 o0 = 32 ∧ w_X11_tellNote o0 r1 s2 (fun p6 s5 =>
      h_k s5 o0 = 32 ∧ w_X11_tellLink o0 r1 s5 (fun p9 s8 =>
        Q (p6 + p9) s8)))
def w_X11_tellSame (o0 : Nat) (r1 : Option Nat) (s : h_S) (Q : Int32 → h_S → Prop) : Prop :=
  h_k s o0 = 32 ∧ w_X11_noteBody o0 (4 : Int32) s (fun s2 =>
    h_k s2 o0 = 32 ∧ w_X11_tellLink o0 r1 s2 (fun p6 s5 =>
      Q (p6 + (100 : Int32)) s5))
def w_X11_tellCorrect (o0 : Nat) (r1 : Option Nat) (s : h_S) (Q : Int32 → h_S → Prop) : Prop :=
  h_k s o0 = 32 ∧ w_X11_noteBody o0 (5 : Int32) s (fun s2 =>
    h_k s2 o0 = 32 ∧ w_X11_tellSame o0 r1 s2 (fun p6 s5 =>
      h_k s5 o0 = 32 ∧ w_X11_tellLink o0 r1 s5 (fun p9 s8 =>
        Q (p6 + p9) s8)))
def w_X11_tell (o0 : Nat) (x1 : Int32) (s : h_S) (Q : Int32 → h_S → Prop) : Prop :=
  h_k s o0 = 32 ∧ w_X11_linkAt o0 x1 s (fun p3 s2 =>
    if p3 = none then
      Q (-1 : Int32) s2
    else
      ∃ a5, p3 = some a5 ∧ h_k s2 a5 = 22 ∧ (if (h_i s2 a5 0) = (1 : Int32) then
        h_k s2 o0 = 32 ∧ w_X11_tellNote o0 p3 s2 (fun p10 s9 =>
          Q p10 s9)
      else if (h_i s2 a5 0) = (2 : Int32) then
        h_k s2 o0 = 32 ∧ w_X11_tellReply o0 p3 s2 (fun p14 s13 =>
          Q p14 s13)
      else if (h_i s2 a5 0) = (3 : Int32) then
        h_k s2 o0 = 32 ∧ w_X11_tellSame o0 p3 s2 (fun p18 s17 =>
          Q p18 s17)
      else if (h_i s2 a5 0) = (4 : Int32) then
        h_k s2 o0 = 32 ∧ w_X11_tellCorrect o0 p3 s2 (fun p22 s21 =>
          Q p22 s21)
      else 
        h_k s2 o0 = 32 ∧ w_X11_tellLink o0 p3 s2 (fun p25 s24 =>
          Q p25 s24)))
def w_X11_name (o0 : Nat) (x1 : Int32) (s : h_S) (Q : Int32 → h_S → Prop) : Prop :=
  h_k s o0 = 32 ∧ w_X11_linkAt o0 x1 s (fun p3 s2 =>
    if p3 = none then
      Q (-1 : Int32) s2
    else
      ∃ a5, p3 = some a5 ∧ h_k s2 a5 = 22 ∧ (if (h_i s2 a5 0) = (4 : Int32) then
        h_k s2 o0 = 32 ∧ w_X11_noteBody o0 (7 : Int32) s2 (fun s12 =>
          Q (40 : Int32) s12)
      else
        h_k s2 o0 = 32 ∧ w_X11_noteBody o0 (6 : Int32) s2 (fun s9 =>
          Q x1 s9)))
def w_X11_as_45 (Q : Int32 → h_S → Prop) (y0 : Int32) (s : h_S) : Prop :=
  Q y0 s
def w_X11_as (o0 : Nat) (x1 : Int32) (x2 : Int32) (s : h_S) (Q : Int32 → h_S → Prop) : Prop :=
  h_k s o0 = 32 ∧ let s2 : h_S := h_si s o0 18 (0 : Int32)
  w_X11_linkAt o0 x1 s2 (fun p4 s3 =>
    if p4 = none then
      Q (-1 : Int32) s3
    else
      w_X11_within x2 (5 : Int32) s3 (fun p7 s6 =>
        if p7 = 0 then
          Q (-2 : Int32) s6
        else
          ∃ a9, p4 = some a9 ∧ h_k s6 a9 = 22 ∧ w_X1_isA a9 x2 s6 (fun p12 s11 =>
            if p12 = 0 then
              h_k s11 o0 = 32 ∧ w_X11_failed o0 (2 : Int32) s11 (fun p16 s15 =>
                w_X11_as_45 Q p16 s15)
            else
              w_X11_as_45 Q (1 : Int32) s11)))
def w_X11_trace (o0 : Nat) (s : h_S) (Q : Int32 → h_S → Prop) : Prop :=
  h_k s o0 = 32 ∧ Q (h_i s o0 17) s
def w_X11_fault (o0 : Nat) (s : h_S) (Q : Int32 → h_S → Prop) : Prop :=
  h_k s o0 = 32 ∧ Q (h_i s o0 18) s
def w_X11_many (o0 : Nat) (x1 : Int32) (s : h_S) (Q : Int32 → h_S → Prop) : Prop :=
  if x1 = (0 : Int32) then
    h_k s o0 = 32 ∧ Q (h_i s o0 0) s
  else if x1 = (1 : Int32) then
    h_k s o0 = 32 ∧ Q (h_i s o0 1) s
  else if x1 = (2 : Int32) then
    h_k s o0 = 32 ∧ ∃ a7, (h_r s o0 4) = some a7 ∧ h_k s a7 = 28 ∧ Q (h_i s a7 0) s
  else if x1 = (3 : Int32) then
    h_k s o0 = 32 ∧ ∃ a11, (h_r s o0 4) = some a11 ∧ h_k s a11 = 28 ∧ w_X7_wordCount a11 s (fun p14 s13 =>
      Q p14 s13)
  else if x1 = (4 : Int32) then
    h_k s o0 = 32 ∧ ∃ a17, (h_r s o0 5) = some a17 ∧ h_k s a17 = 20 ∧ w_Jx4a65c_size_8abf5 a17 s (fun p20 s19 =>
      Q p20 s19)
  else if x1 = (5 : Int32) then
    h_k s o0 = 32 ∧ ∃ a23, (h_r s o0 7) = some a23 ∧ h_k s a23 = 20 ∧ w_Jx4a65c_size_8abf5 a23 s (fun p26 s25 =>
      Q p26 s25)
  else if x1 = (6 : Int32) then
    h_k s o0 = 32 ∧ ∃ a29, (h_r s o0 8) = some a29 ∧ h_k s a29 = 20 ∧ w_Jx4a65c_size_8abf5 a29 s (fun p32 s31 =>
      Q p32 s31)
  else if x1 = (7 : Int32) then
    h_k s o0 = 32 ∧ ∃ a35, (h_r s o0 6) = some a35 ∧ h_k s a35 = 20 ∧ w_Jx4a65c_size_8abf5 a35 s (fun p38 s37 =>
      Q p38 s37)
  else if x1 = (8 : Int32) then
    h_k s o0 = 32 ∧ Q (h_i s o0 15) s
  else 
    Q (-2 : Int32) s
