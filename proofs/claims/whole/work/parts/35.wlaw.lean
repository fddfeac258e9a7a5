set_option maxRecDepth 100000 in
def w_L_law_2612 (g : h_G) (b L : Nat) (xs : Nat → Int32) (Q : Int32 → h_S → Prop) (K18 : Nat → Nat → Nat → Int32 → h_S → Nat → Nat → Prop) (o0 : Nat) (o1 : Nat) (o2 : Nat) (x3 : Int32) (s : h_S) (bc bs : Nat) : Prop :=
  K18 o0 o1 o2 (x3 + (9 : Int32)) s bc bs
set_option maxRecDepth 100000 in
def w_L_law_18b (g : h_G) (b L : Nat) (xs : Nat → Int32) (Q : Int32 → h_S → Prop) (K18 : Nat → Nat → Nat → Int32 → h_S → Nat → Nat → Prop) (o0 : Nat) (o1 : Nat) (o2 : Nat) (x3 : Int32) (s : h_S) (bc bs : Nat) : Prop :=
  o0 = b ∧ (if ((Int32.ofNat L) - (9 : Int32)) < x3 then
    True
  else
    o0 = b ∧ vp_in x3 L ∧ (if ((xs (h_ix x3)) &&& (63 : Int32)) = (0 : Int32) then
      h_k s o1 = 32 ∧ w_X11_hand o1 s (fun p8 s7 =>
        h_k s7 o2 = 33 ∧ w_X12_hand o2 s7 (fun p11 s10 =>
          if p8 = p11 then
            w_L_law_2612 g b L xs Q K18 o0 o1 o2 x3 s10 bc bs
          else
            False))
    else if ((xs (h_ix x3)) &&& (63 : Int32)) = (1 : Int32) then
      o0 = b ∧ vp_in (x3 + (1 : Int32)) L ∧ o0 = b ∧ vp_in (x3 + (2 : Int32)) L ∧ h_k s o1 = 32 ∧ w_X11_group o1 (xs (h_ix (x3 + (1 : Int32)))) (xs (h_ix (x3 + (2 : Int32)))) s (fun p20 s19 =>
        o0 = b ∧ vp_in (x3 + (1 : Int32)) L ∧ o0 = b ∧ vp_in (x3 + (2 : Int32)) L ∧ h_k s19 o2 = 33 ∧ w_X12_group o2 (xs (h_ix (x3 + (1 : Int32)))) (xs (h_ix (x3 + (2 : Int32)))) s19 (fun p27 s26 =>
          if p20 = p27 then
            w_L_law_2612 g b L xs Q K18 o0 o1 o2 x3 s26 bc bs
          else
            False))
    else if ((xs (h_ix x3)) &&& (63 : Int32)) = (2 : Int32) then
      o0 = b ∧ vp_in (x3 + (1 : Int32)) L ∧ h_k s o1 = 32 ∧ ∃ mc35 ms36 : Nat, mc35 ≤ bc ∧ ms36 ≤ bs ∧ w_X11_writing o1 (xs (h_ix (x3 + (1 : Int32)))) s mc35 ms36 (fun p34 s33 =>
        o0 = b ∧ vp_in (x3 + (1 : Int32)) L ∧ h_k s33 o2 = 33 ∧ w_X12_writing o2 (xs (h_ix (x3 + (1 : Int32)))) s33 (fun p43 s42 =>
          if p34 = p43 then
            w_L_law_2612 g b L xs Q K18 o0 o1 o2 x3 s42 (bc - mc35) (bs - ms36)
          else
            False))
    else if ((xs (h_ix x3)) &&& (63 : Int32)) = (3 : Int32) then
      o0 = b ∧ vp_in (x3 + (1 : Int32)) L ∧ o0 = b ∧ vp_in (x3 + (2 : Int32)) L ∧ o0 = b ∧ vp_in (x3 + (3 : Int32)) L ∧ o0 = b ∧ vp_in (x3 + (4 : Int32)) L ∧ o0 = b ∧ vp_in (x3 + (5 : Int32)) L ∧ o0 = b ∧ vp_in (x3 + (6 : Int32)) L ∧ h_k s o1 = 32 ∧ ∃ mc61 ms62 : Nat, mc61 ≤ bc ∧ ms62 ≤ bs ∧ w_X11_put g o1 (xs (h_ix (x3 + (1 : Int32)))) (xs (h_ix (x3 + (2 : Int32)))) (xs (h_ix (x3 + (3 : Int32)))) (xs (h_ix (x3 + (4 : Int32)))) (xs (h_ix (x3 + (5 : Int32)))) (xs (h_ix (x3 + (6 : Int32)))) s mc61 ms62 (fun p60 s59 =>
        o0 = b ∧ vp_in (x3 + (1 : Int32)) L ∧ o0 = b ∧ vp_in (x3 + (2 : Int32)) L ∧ o0 = b ∧ vp_in (x3 + (3 : Int32)) L ∧ o0 = b ∧ vp_in (x3 + (4 : Int32)) L ∧ o0 = b ∧ vp_in (x3 + (5 : Int32)) L ∧ o0 = b ∧ vp_in (x3 + (6 : Int32)) L ∧ h_k s59 o2 = 33 ∧ w_X12_put o2 (xs (h_ix (x3 + (1 : Int32)))) (xs (h_ix (x3 + (2 : Int32)))) (xs (h_ix (x3 + (3 : Int32)))) (xs (h_ix (x3 + (4 : Int32)))) (xs (h_ix (x3 + (5 : Int32)))) (xs (h_ix (x3 + (6 : Int32)))) s59 (fun p79 s78 =>
          if p60 = p79 then
            w_L_law_2612 g b L xs Q K18 o0 o1 o2 x3 s78 (bc - mc61) (bs - ms62)
          else
            False))
    else if ((xs (h_ix x3)) &&& (63 : Int32)) = (4 : Int32) then
      o0 = b ∧ vp_in (x3 + (1 : Int32)) L ∧ o0 = b ∧ vp_in (x3 + (2 : Int32)) L ∧ o0 = b ∧ vp_in (x3 + (3 : Int32)) L ∧ o0 = b ∧ vp_in (x3 + (4 : Int32)) L ∧ h_k s o1 = 32 ∧ ∃ mc93 ms94 : Nat, mc93 ≤ bc ∧ ms94 ≤ bs ∧ w_X11_seen o1 (xs (h_ix (x3 + (1 : Int32)))) (xs (h_ix (x3 + (2 : Int32)))) (xs (h_ix (x3 + (3 : Int32)))) (xs (h_ix (x3 + (4 : Int32)))) s mc93 ms94 (fun p92 s91 =>
        o0 = b ∧ vp_in (x3 + (1 : Int32)) L ∧ o0 = b ∧ vp_in (x3 + (2 : Int32)) L ∧ o0 = b ∧ vp_in (x3 + (3 : Int32)) L ∧ o0 = b ∧ vp_in (x3 + (4 : Int32)) L ∧ h_k s91 o2 = 33 ∧ w_X12_seen o2 (xs (h_ix (x3 + (1 : Int32)))) (xs (h_ix (x3 + (2 : Int32)))) (xs (h_ix (x3 + (3 : Int32)))) (xs (h_ix (x3 + (4 : Int32)))) s91 (fun p107 s106 =>
          if p92 = p107 then
            w_L_law_2612 g b L xs Q K18 o0 o1 o2 x3 s106 (bc - mc93) (bs - ms94)
          else
            False))
    else if ((xs (h_ix x3)) &&& (63 : Int32)) = (5 : Int32) then
      o0 = b ∧ vp_in (x3 + (1 : Int32)) L ∧ o0 = b ∧ vp_in (x3 + (2 : Int32)) L ∧ o0 = b ∧ vp_in (x3 + (3 : Int32)) L ∧ o0 = b ∧ vp_in (x3 + (4 : Int32)) L ∧ o0 = b ∧ vp_in (x3 + (5 : Int32)) L ∧ o0 = b ∧ vp_in (x3 + (6 : Int32)) L ∧ h_k s o1 = 32 ∧ ∃ mc125 ms126 : Nat, mc125 ≤ bc ∧ ms126 ≤ bs ∧ w_X11_span o1 (xs (h_ix (x3 + (1 : Int32)))) (xs (h_ix (x3 + (2 : Int32)))) (xs (h_ix (x3 + (3 : Int32)))) (xs (h_ix (x3 + (4 : Int32)))) (xs (h_ix (x3 + (5 : Int32)))) (xs (h_ix (x3 + (6 : Int32)))) s mc125 ms126 (fun p124 s123 =>
        o0 = b ∧ vp_in (x3 + (1 : Int32)) L ∧ o0 = b ∧ vp_in (x3 + (2 : Int32)) L ∧ o0 = b ∧ vp_in (x3 + (3 : Int32)) L ∧ o0 = b ∧ vp_in (x3 + (4 : Int32)) L ∧ o0 = b ∧ vp_in (x3 + (5 : Int32)) L ∧ o0 = b ∧ vp_in (x3 + (6 : Int32)) L ∧ h_k s123 o2 = 33 ∧ w_X12_span o2 (xs (h_ix (x3 + (1 : Int32)))) (xs (h_ix (x3 + (2 : Int32)))) (xs (h_ix (x3 + (3 : Int32)))) (xs (h_ix (x3 + (4 : Int32)))) (xs (h_ix (x3 + (5 : Int32)))) (xs (h_ix (x3 + (6 : Int32)))) s123 (fun p143 s142 =>
          if p124 = p143 then
            w_L_law_2612 g b L xs Q K18 o0 o1 o2 x3 s142 (bc - mc125) (bs - ms126)
          else
            False))
    else if ((xs (h_ix x3)) &&& (63 : Int32)) = (6 : Int32) then
      o0 = b ∧ vp_in (x3 + (1 : Int32)) L ∧ o0 = b ∧ vp_in (x3 + (2 : Int32)) L ∧ o0 = b ∧ vp_in (x3 + (3 : Int32)) L ∧ o0 = b ∧ vp_in (x3 + (4 : Int32)) L ∧ o0 = b ∧ vp_in (x3 + (5 : Int32)) L ∧ h_k s o1 = 32 ∧ ∃ mc159 ms160 : Nat, mc159 ≤ bc ∧ ms160 ≤ bs ∧ w_X11_live o1 (xs (h_ix (x3 + (1 : Int32)))) (xs (h_ix (x3 + (2 : Int32)))) (xs (h_ix (x3 + (3 : Int32)))) (xs (h_ix (x3 + (4 : Int32)))) (xs (h_ix (x3 + (5 : Int32)))) s mc159 ms160 (fun p158 s157 =>
        o0 = b ∧ vp_in (x3 + (1 : Int32)) L ∧ o0 = b ∧ vp_in (x3 + (2 : Int32)) L ∧ o0 = b ∧ vp_in (x3 + (3 : Int32)) L ∧ o0 = b ∧ vp_in (x3 + (4 : Int32)) L ∧ o0 = b ∧ vp_in (x3 + (5 : Int32)) L ∧ h_k s157 o2 = 33 ∧ w_X12_live o2 (xs (h_ix (x3 + (1 : Int32)))) (xs (h_ix (x3 + (2 : Int32)))) (xs (h_ix (x3 + (3 : Int32)))) (xs (h_ix (x3 + (4 : Int32)))) (xs (h_ix (x3 + (5 : Int32)))) s157 (fun p175 s174 =>
          if p158 = p175 then
            w_L_law_2612 g b L xs Q K18 o0 o1 o2 x3 s174 (bc - mc159) (bs - ms160)
          else
            False))
    else if ((xs (h_ix x3)) &&& (63 : Int32)) = (7 : Int32) then
      o0 = b ∧ vp_in (x3 + (1 : Int32)) L ∧ o0 = b ∧ vp_in (x3 + (2 : Int32)) L ∧ o0 = b ∧ vp_in (x3 + (3 : Int32)) L ∧ h_k s o1 = 32 ∧ ∃ mc187 ms188 : Nat, mc187 ≤ bc ∧ ms188 ≤ bs ∧ w_X11_cut o1 (xs (h_ix (x3 + (1 : Int32)))) (xs (h_ix (x3 + (2 : Int32)))) (xs (h_ix (x3 + (3 : Int32)))) s mc187 ms188 (fun p186 s185 =>
        o0 = b ∧ vp_in (x3 + (1 : Int32)) L ∧ o0 = b ∧ vp_in (x3 + (2 : Int32)) L ∧ o0 = b ∧ vp_in (x3 + (3 : Int32)) L ∧ h_k s185 o2 = 33 ∧ w_X12_cut o2 (xs (h_ix (x3 + (1 : Int32)))) (xs (h_ix (x3 + (2 : Int32)))) (xs (h_ix (x3 + (3 : Int32)))) s185 (fun p199 s198 =>
          if p186 = p199 then
            w_L_law_2612 g b L xs Q K18 o0 o1 o2 x3 s198 (bc - mc187) (bs - ms188)
          else
            False))
    else if ((xs (h_ix x3)) &&& (63 : Int32)) = (8 : Int32) then
      o0 = b ∧ vp_in (x3 + (1 : Int32)) L ∧ o0 = b ∧ vp_in (x3 + (2 : Int32)) L ∧ o0 = b ∧ vp_in (x3 + (3 : Int32)) L ∧ o0 = b ∧ vp_in (x3 + (4 : Int32)) L ∧ h_k s o1 = 32 ∧ ∃ mc213 ms214 : Nat, mc213 ≤ bc ∧ ms214 ≤ bs ∧ w_X11_move o1 (xs (h_ix (x3 + (1 : Int32)))) (xs (h_ix (x3 + (2 : Int32)))) (xs (h_ix (x3 + (3 : Int32)))) (xs (h_ix (x3 + (4 : Int32)))) s mc213 ms214 (fun p212 s211 =>
        o0 = b ∧ vp_in (x3 + (1 : Int32)) L ∧ o0 = b ∧ vp_in (x3 + (2 : Int32)) L ∧ o0 = b ∧ vp_in (x3 + (3 : Int32)) L ∧ o0 = b ∧ vp_in (x3 + (4 : Int32)) L ∧ h_k s211 o2 = 33 ∧ w_X12_move o2 (xs (h_ix (x3 + (1 : Int32)))) (xs (h_ix (x3 + (2 : Int32)))) (xs (h_ix (x3 + (3 : Int32)))) (xs (h_ix (x3 + (4 : Int32)))) s211 (fun p227 s226 =>
          if p212 = p227 then
            w_L_law_2612 g b L xs Q K18 o0 o1 o2 x3 s226 (bc - mc213) (bs - ms214)
          else
            False))
    else if ((xs (h_ix x3)) &&& (63 : Int32)) = (9 : Int32) then
      o0 = b ∧ vp_in (x3 + (1 : Int32)) L ∧ o0 = b ∧ vp_in (x3 + (2 : Int32)) L ∧ h_k s o1 = 32 ∧ ∃ mc237 ms238 : Nat, mc237 ≤ bc ∧ ms238 ≤ bs ∧ w_X11_again o1 (xs (h_ix (x3 + (1 : Int32)))) (xs (h_ix (x3 + (2 : Int32)))) s mc237 ms238 (fun p236 s235 =>
        o0 = b ∧ vp_in (x3 + (1 : Int32)) L ∧ o0 = b ∧ vp_in (x3 + (2 : Int32)) L ∧ h_k s235 o2 = 33 ∧ w_X12_again o2 (xs (h_ix (x3 + (1 : Int32)))) (xs (h_ix (x3 + (2 : Int32)))) s235 (fun p247 s246 =>
          if p236 = p247 then
            w_L_law_2612 g b L xs Q K18 o0 o1 o2 x3 s246 (bc - mc237) (bs - ms238)
          else
            False))
    else if ((xs (h_ix x3)) &&& (63 : Int32)) = (10 : Int32) then
      o0 = b ∧ vp_in (x3 + (1 : Int32)) L ∧ o0 = b ∧ vp_in (x3 + (2 : Int32)) L ∧ h_k s o1 = 32 ∧ ∃ mc257 ms258 : Nat, mc257 ≤ bc ∧ ms258 ≤ bs ∧ w_X11_length o1 (xs (h_ix (x3 + (1 : Int32)))) (xs (h_ix (x3 + (2 : Int32)))) s mc257 ms258 (fun p256 s255 =>
        o0 = b ∧ vp_in (x3 + (1 : Int32)) L ∧ o0 = b ∧ vp_in (x3 + (2 : Int32)) L ∧ h_k s255 o2 = 33 ∧ w_X12_length o2 (xs (h_ix (x3 + (1 : Int32)))) (xs (h_ix (x3 + (2 : Int32)))) s255 (fun p267 s266 =>
          if p256 = p267 then
            w_L_law_2612 g b L xs Q K18 o0 o1 o2 x3 s266 (bc - mc257) (bs - ms258)
          else
            False))
    else if ((xs (h_ix x3)) &&& (63 : Int32)) = (11 : Int32) then
      o0 = b ∧ vp_in (x3 + (1 : Int32)) L ∧ o0 = b ∧ vp_in (x3 + (2 : Int32)) L ∧ o0 = b ∧ vp_in (x3 + (3 : Int32)) L ∧ h_k s o1 = 32 ∧ ∃ mc279 ms280 : Nat, mc279 ≤ bc ∧ ms280 ≤ bs ∧ w_X11_shown o1 (xs (h_ix (x3 + (1 : Int32)))) (xs (h_ix (x3 + (2 : Int32)))) (xs (h_ix (x3 + (3 : Int32)))) s mc279 ms280 (fun p278 s277 =>
        o0 = b ∧ vp_in (x3 + (1 : Int32)) L ∧ o0 = b ∧ vp_in (x3 + (2 : Int32)) L ∧ o0 = b ∧ vp_in (x3 + (3 : Int32)) L ∧ h_k s277 o2 = 33 ∧ w_X12_shown o2 (xs (h_ix (x3 + (1 : Int32)))) (xs (h_ix (x3 + (2 : Int32)))) (xs (h_ix (x3 + (3 : Int32)))) s277 (fun p291 s290 =>
          if p278 = p291 then
            w_L_law_2612 g b L xs Q K18 o0 o1 o2 x3 s290 (bc - mc279) (bs - ms280)
          else
            False))
    else if ((xs (h_ix x3)) &&& (63 : Int32)) = (12 : Int32) then
      o0 = b ∧ vp_in (x3 + (1 : Int32)) L ∧ h_k s o1 = 32 ∧ w_X11_pieces o1 (xs (h_ix (x3 + (1 : Int32)))) s (fun p298 s297 =>
        o0 = b ∧ vp_in (x3 + (1 : Int32)) L ∧ h_k s297 o2 = 33 ∧ w_X12_pieces o2 (xs (h_ix (x3 + (1 : Int32)))) s297 (fun p303 s302 =>
          if p298 = p303 then
            w_L_law_2612 g b L xs Q K18 o0 o1 o2 x3 s302 bc bs
          else
            False))
    else if ((xs (h_ix x3)) &&& (63 : Int32)) = (13 : Int32) then
      o0 = b ∧ vp_in (x3 + (1 : Int32)) L ∧ o0 = b ∧ vp_in (x3 + (2 : Int32)) L ∧ o0 = b ∧ vp_in (x3 + (3 : Int32)) L ∧ h_k s o1 = 32 ∧ w_X11_piece o1 (xs (h_ix (x3 + (1 : Int32)))) (xs (h_ix (x3 + (2 : Int32)))) (xs (h_ix (x3 + (3 : Int32)))) s (fun p314 s313 =>
        o0 = b ∧ vp_in (x3 + (1 : Int32)) L ∧ o0 = b ∧ vp_in (x3 + (2 : Int32)) L ∧ o0 = b ∧ vp_in (x3 + (3 : Int32)) L ∧ h_k s313 o2 = 33 ∧ w_X12_piece o2 (xs (h_ix (x3 + (1 : Int32)))) (xs (h_ix (x3 + (2 : Int32)))) (xs (h_ix (x3 + (3 : Int32)))) s313 (fun p323 s322 =>
          if p314 = p323 then
            w_L_law_2612 g b L xs Q K18 o0 o1 o2 x3 s322 bc bs
          else
            False))
    else if ((xs (h_ix x3)) &&& (63 : Int32)) = (14 : Int32) then
      o0 = b ∧ vp_in (x3 + (1 : Int32)) L ∧ o0 = b ∧ vp_in (x3 + (2 : Int32)) L ∧ h_k s o1 = 32 ∧ w_X11_word o1 (xs (h_ix (x3 + (1 : Int32)))) (xs (h_ix (x3 + (2 : Int32)))) s (fun p332 s331 =>
        o0 = b ∧ vp_in (x3 + (1 : Int32)) L ∧ o0 = b ∧ vp_in (x3 + (2 : Int32)) L ∧ h_k s331 o2 = 33 ∧ w_X12_word o2 (xs (h_ix (x3 + (1 : Int32)))) (xs (h_ix (x3 + (2 : Int32)))) s331 (fun p339 s338 =>
          if p332 = p339 then
            w_L_law_2612 g b L xs Q K18 o0 o1 o2 x3 s338 bc bs
          else
            False))
    else if ((xs (h_ix x3)) &&& (63 : Int32)) = (15 : Int32) then
      o0 = b ∧ vp_in (x3 + (1 : Int32)) L ∧ h_k s o1 = 32 ∧ ∃ mc347 ms348 : Nat, mc347 ≤ bc ∧ ms348 ≤ bs ∧ w_X11_version g o1 (xs (h_ix (x3 + (1 : Int32)))) s mc347 ms348 (fun p346 s345 =>
        o0 = b ∧ vp_in (x3 + (1 : Int32)) L ∧ h_k s345 o2 = 33 ∧ w_X12_version o2 (xs (h_ix (x3 + (1 : Int32)))) s345 (fun p355 s354 =>
          if p346 = p355 then
            w_L_law_2612 g b L xs Q K18 o0 o1 o2 x3 s354 (bc - mc347) (bs - ms348)
          else
            False))
    else if ((xs (h_ix x3)) &&& (63 : Int32)) = (16 : Int32) then
      o0 = b ∧ vp_in (x3 + (1 : Int32)) L ∧ h_k s o1 = 32 ∧ w_X11_give o1 (xs (h_ix (x3 + (1 : Int32)))) s (fun p362 s361 =>
        o0 = b ∧ vp_in (x3 + (1 : Int32)) L ∧ h_k s361 o2 = 33 ∧ w_X12_give o2 (xs (h_ix (x3 + (1 : Int32)))) s361 (fun p367 s366 =>
          if p362 = p367 then
            w_L_law_2612 g b L xs Q K18 o0 o1 o2 x3 s366 bc bs
          else
            False))
    else if ((xs (h_ix x3)) &&& (63 : Int32)) = (17 : Int32) then
      o0 = b ∧ vp_in (x3 + (1 : Int32)) L ∧ h_k s o1 = 32 ∧ w_X11_back o1 (xs (h_ix (x3 + (1 : Int32)))) s (fun p374 s373 =>
        o0 = b ∧ vp_in (x3 + (1 : Int32)) L ∧ h_k s373 o2 = 33 ∧ w_X12_back o2 (xs (h_ix (x3 + (1 : Int32)))) s373 (fun p379 s378 =>
          if p374 = p379 then
            w_L_law_2612 g b L xs Q K18 o0 o1 o2 x3 s378 bc bs
          else
            False))
    else if ((xs (h_ix x3)) &&& (63 : Int32)) = (18 : Int32) then
      o0 = b ∧ vp_in (x3 + (1 : Int32)) L ∧ o0 = b ∧ vp_in (x3 + (2 : Int32)) L ∧ h_k s o1 = 32 ∧ w_X11_about o1 (xs (h_ix (x3 + (1 : Int32)))) (xs (h_ix (x3 + (2 : Int32)))) s (fun p388 s387 =>
        o0 = b ∧ vp_in (x3 + (1 : Int32)) L ∧ o0 = b ∧ vp_in (x3 + (2 : Int32)) L ∧ h_k s387 o2 = 33 ∧ w_X12_about o2 (xs (h_ix (x3 + (1 : Int32)))) (xs (h_ix (x3 + (2 : Int32)))) s387 (fun p395 s394 =>
          if p388 = p395 then
            w_L_law_2612 g b L xs Q K18 o0 o1 o2 x3 s394 bc bs
          else
            False))
    else if ((xs (h_ix x3)) &&& (63 : Int32)) = (19 : Int32) then
      o0 = b ∧ vp_in (x3 + (1 : Int32)) L ∧ o0 = b ∧ vp_in (x3 + (2 : Int32)) L ∧ h_k s o1 = 32 ∧ w_X11_at o1 (xs (h_ix (x3 + (1 : Int32)))) (xs (h_ix (x3 + (2 : Int32)))) s (fun p404 s403 =>
        o0 = b ∧ vp_in (x3 + (1 : Int32)) L ∧ o0 = b ∧ vp_in (x3 + (2 : Int32)) L ∧ h_k s403 o2 = 33 ∧ w_X12_at o2 (xs (h_ix (x3 + (1 : Int32)))) (xs (h_ix (x3 + (2 : Int32)))) s403 (fun p411 s410 =>
          if p404 = p411 then
            w_L_law_2612 g b L xs Q K18 o0 o1 o2 x3 s410 bc bs
          else
            False))
    else if ((xs (h_ix x3)) &&& (63 : Int32)) = (20 : Int32) then
      o0 = b ∧ vp_in (x3 + (1 : Int32)) L ∧ o0 = b ∧ vp_in (x3 + (2 : Int32)) L ∧ o0 = b ∧ vp_in (x3 + (3 : Int32)) L ∧ h_k s o1 = 32 ∧ w_X11_compare o1 (xs (h_ix (x3 + (1 : Int32)))) (xs (h_ix (x3 + (2 : Int32)))) (xs (h_ix (x3 + (3 : Int32)))) s (fun p422 s421 =>
        o0 = b ∧ vp_in (x3 + (1 : Int32)) L ∧ o0 = b ∧ vp_in (x3 + (2 : Int32)) L ∧ o0 = b ∧ vp_in (x3 + (3 : Int32)) L ∧ h_k s421 o2 = 33 ∧ w_X12_compare o2 (xs (h_ix (x3 + (1 : Int32)))) (xs (h_ix (x3 + (2 : Int32)))) (xs (h_ix (x3 + (3 : Int32)))) s421 (fun p431 s430 =>
          if p422 = p431 then
            w_L_law_2612 g b L xs Q K18 o0 o1 o2 x3 s430 bc bs
          else
            False))
    else if ((xs (h_ix x3)) &&& (63 : Int32)) = (21 : Int32) then
      o0 = b ∧ vp_in (x3 + (1 : Int32)) L ∧ o0 = b ∧ vp_in (x3 + (2 : Int32)) L ∧ o0 = b ∧ vp_in (x3 + (3 : Int32)) L ∧ h_k s o1 = 32 ∧ ∃ mc443 ms444 : Nat, mc443 ≤ bc ∧ ms444 ≤ bs ∧ w_X11_join g o1 (xs (h_ix (x3 + (1 : Int32)))) (xs (h_ix (x3 + (2 : Int32)))) (xs (h_ix (x3 + (3 : Int32)))) s mc443 ms444 (fun p442 s441 =>
        o0 = b ∧ vp_in (x3 + (1 : Int32)) L ∧ o0 = b ∧ vp_in (x3 + (2 : Int32)) L ∧ o0 = b ∧ vp_in (x3 + (3 : Int32)) L ∧ h_k s441 o2 = 33 ∧ w_X12_join o2 (xs (h_ix (x3 + (1 : Int32)))) (xs (h_ix (x3 + (2 : Int32)))) (xs (h_ix (x3 + (3 : Int32)))) s441 (fun p455 s454 =>
          if p442 = p455 then
            w_L_law_2612 g b L xs Q K18 o0 o1 o2 x3 s454 (bc - mc443) (bs - ms444)
          else
            False))
    else if ((xs (h_ix x3)) &&& (63 : Int32)) = (22 : Int32) then
      o0 = b ∧ vp_in (x3 + (1 : Int32)) L ∧ o0 = b ∧ vp_in (x3 + (2 : Int32)) L ∧ h_k s o1 = 32 ∧ w_X11_clash o1 (xs (h_ix (x3 + (1 : Int32)))) (xs (h_ix (x3 + (2 : Int32)))) s (fun p464 s463 =>
        o0 = b ∧ vp_in (x3 + (1 : Int32)) L ∧ o0 = b ∧ vp_in (x3 + (2 : Int32)) L ∧ h_k s463 o2 = 33 ∧ w_X12_clash o2 (xs (h_ix (x3 + (1 : Int32)))) (xs (h_ix (x3 + (2 : Int32)))) s463 (fun p471 s470 =>
          if p464 = p471 then
            w_L_law_2612 g b L xs Q K18 o0 o1 o2 x3 s470 bc bs
          else
            False))
    else if ((xs (h_ix x3)) &&& (63 : Int32)) = (23 : Int32) then
      o0 = b ∧ vp_in (x3 + (1 : Int32)) L ∧ o0 = b ∧ vp_in (x3 + (2 : Int32)) L ∧ h_k s o1 = 32 ∧ ∃ mc481 ms482 : Nat, mc481 ≤ bc ∧ ms482 ≤ bs ∧ w_X11_settle o1 (xs (h_ix (x3 + (1 : Int32)))) (xs (h_ix (x3 + (2 : Int32)))) s mc481 ms482 (fun p480 s479 =>
        o0 = b ∧ vp_in (x3 + (1 : Int32)) L ∧ o0 = b ∧ vp_in (x3 + (2 : Int32)) L ∧ h_k s479 o2 = 33 ∧ w_X12_settle o2 (xs (h_ix (x3 + (1 : Int32)))) (xs (h_ix (x3 + (2 : Int32)))) s479 (fun p491 s490 =>
          if p480 = p491 then
            w_L_law_2612 g b L xs Q K18 o0 o1 o2 x3 s490 (bc - mc481) (bs - ms482)
          else
            False))
    else if ((xs (h_ix x3)) &&& (63 : Int32)) = (24 : Int32) then
      o0 = b ∧ vp_in (x3 + (1 : Int32)) L ∧ o0 = b ∧ vp_in (x3 + (2 : Int32)) L ∧ o0 = b ∧ vp_in (x3 + (3 : Int32)) L ∧ o0 = b ∧ vp_in (x3 + (4 : Int32)) L ∧ o0 = b ∧ vp_in (x3 + (5 : Int32)) L ∧ h_k s o1 = 32 ∧ ∃ mc507 ms508 : Nat, mc507 ≤ bc ∧ ms508 ≤ bs ∧ w_X11_link g o1 (xs (h_ix (x3 + (1 : Int32)))) (xs (h_ix (x3 + (2 : Int32)))) (xs (h_ix (x3 + (3 : Int32)))) (xs (h_ix (x3 + (4 : Int32)))) (xs (h_ix (x3 + (5 : Int32)))) s mc507 ms508 (fun p506 s505 =>
        o0 = b ∧ vp_in (x3 + (1 : Int32)) L ∧ o0 = b ∧ vp_in (x3 + (2 : Int32)) L ∧ o0 = b ∧ vp_in (x3 + (3 : Int32)) L ∧ o0 = b ∧ vp_in (x3 + (4 : Int32)) L ∧ o0 = b ∧ vp_in (x3 + (5 : Int32)) L ∧ h_k s505 o2 = 33 ∧ w_X12_link o2 (xs (h_ix (x3 + (1 : Int32)))) (xs (h_ix (x3 + (2 : Int32)))) (xs (h_ix (x3 + (3 : Int32)))) (xs (h_ix (x3 + (4 : Int32)))) (xs (h_ix (x3 + (5 : Int32)))) s505 (fun p523 s522 =>
          if p506 = p523 then
            w_L_law_2612 g b L xs Q K18 o0 o1 o2 x3 s522 (bc - mc507) (bs - ms508)
          else
            False))
    else if ((xs (h_ix x3)) &&& (63 : Int32)) = (25 : Int32) then
      o0 = b ∧ vp_in (x3 + (1 : Int32)) L ∧ o0 = b ∧ vp_in (x3 + (2 : Int32)) L ∧ h_k s o1 = 32 ∧ w_X11_ofLink o1 (xs (h_ix (x3 + (1 : Int32)))) (xs (h_ix (x3 + (2 : Int32)))) s (fun p532 s531 =>
        o0 = b ∧ vp_in (x3 + (1 : Int32)) L ∧ o0 = b ∧ vp_in (x3 + (2 : Int32)) L ∧ h_k s531 o2 = 33 ∧ w_X12_ofLink o2 (xs (h_ix (x3 + (1 : Int32)))) (xs (h_ix (x3 + (2 : Int32)))) s531 (fun p539 s538 =>
          if p532 = p539 then
            w_L_law_2612 g b L xs Q K18 o0 o1 o2 x3 s538 bc bs
          else
            False))
    else if ((xs (h_ix x3)) &&& (63 : Int32)) = (26 : Int32) then
      o0 = b ∧ vp_in (x3 + (1 : Int32)) L ∧ o0 = b ∧ vp_in (x3 + (2 : Int32)) L ∧ o0 = b ∧ vp_in (x3 + (3 : Int32)) L ∧ h_k s o1 = 32 ∧ w_X11_ends o1 (xs (h_ix (x3 + (1 : Int32)))) (xs (h_ix (x3 + (2 : Int32)))) (xs (h_ix (x3 + (3 : Int32)))) s (fun p550 s549 =>
        o0 = b ∧ vp_in (x3 + (1 : Int32)) L ∧ o0 = b ∧ vp_in (x3 + (2 : Int32)) L ∧ o0 = b ∧ vp_in (x3 + (3 : Int32)) L ∧ h_k s549 o2 = 33 ∧ w_X12_ends o2 (xs (h_ix (x3 + (1 : Int32)))) (xs (h_ix (x3 + (2 : Int32)))) (xs (h_ix (x3 + (3 : Int32)))) s549 (fun p559 s558 =>
          if p550 = p559 then
            w_L_law_2612 g b L xs Q K18 o0 o1 o2 x3 s558 bc bs
          else
            False))
    else if ((xs (h_ix x3)) &&& (63 : Int32)) = (27 : Int32) then
      o0 = b ∧ vp_in (x3 + (1 : Int32)) L ∧ o0 = b ∧ vp_in (x3 + (2 : Int32)) L ∧ o0 = b ∧ vp_in (x3 + (3 : Int32)) L ∧ o0 = b ∧ vp_in (x3 + (4 : Int32)) L ∧ o0 = b ∧ vp_in (x3 + (5 : Int32)) L ∧ h_k s o1 = 32 ∧ w_X11_part o1 (xs (h_ix (x3 + (1 : Int32)))) (xs (h_ix (x3 + (2 : Int32)))) (xs (h_ix (x3 + (3 : Int32)))) (xs (h_ix (x3 + (4 : Int32)))) (xs (h_ix (x3 + (5 : Int32)))) s (fun p574 s573 =>
        o0 = b ∧ vp_in (x3 + (1 : Int32)) L ∧ o0 = b ∧ vp_in (x3 + (2 : Int32)) L ∧ o0 = b ∧ vp_in (x3 + (3 : Int32)) L ∧ o0 = b ∧ vp_in (x3 + (4 : Int32)) L ∧ o0 = b ∧ vp_in (x3 + (5 : Int32)) L ∧ h_k s573 o2 = 33 ∧ w_X12_part o2 (xs (h_ix (x3 + (1 : Int32)))) (xs (h_ix (x3 + (2 : Int32)))) (xs (h_ix (x3 + (3 : Int32)))) (xs (h_ix (x3 + (4 : Int32)))) (xs (h_ix (x3 + (5 : Int32)))) s573 (fun p587 s586 =>
          if p574 = p587 then
            w_L_law_2612 g b L xs Q K18 o0 o1 o2 x3 s586 bc bs
          else
            False))
    else if ((xs (h_ix x3)) &&& (63 : Int32)) = (28 : Int32) then
      o0 = b ∧ vp_in (x3 + (1 : Int32)) L ∧ o0 = b ∧ vp_in (x3 + (2 : Int32)) L ∧ o0 = b ∧ vp_in (x3 + (3 : Int32)) L ∧ o0 = b ∧ vp_in (x3 + (4 : Int32)) L ∧ o0 = b ∧ vp_in (x3 + (5 : Int32)) L ∧ h_k s o1 = 32 ∧ ∃ mc603 ms604 : Nat, mc603 ≤ bc ∧ ms604 ≤ bs ∧ w_X11_right g o1 (xs (h_ix (x3 + (1 : Int32)))) (xs (h_ix (x3 + (2 : Int32)))) (xs (h_ix (x3 + (3 : Int32)))) (xs (h_ix (x3 + (4 : Int32)))) (xs (h_ix (x3 + (5 : Int32)))) s mc603 ms604 (fun p602 s601 =>
        o0 = b ∧ vp_in (x3 + (1 : Int32)) L ∧ o0 = b ∧ vp_in (x3 + (2 : Int32)) L ∧ o0 = b ∧ vp_in (x3 + (3 : Int32)) L ∧ o0 = b ∧ vp_in (x3 + (4 : Int32)) L ∧ o0 = b ∧ vp_in (x3 + (5 : Int32)) L ∧ h_k s601 o2 = 33 ∧ w_X12_right o2 (xs (h_ix (x3 + (1 : Int32)))) (xs (h_ix (x3 + (2 : Int32)))) (xs (h_ix (x3 + (3 : Int32)))) (xs (h_ix (x3 + (4 : Int32)))) (xs (h_ix (x3 + (5 : Int32)))) s601 (fun p619 s618 =>
          if p602 = p619 then
            w_L_law_2612 g b L xs Q K18 o0 o1 o2 x3 s618 (bc - mc603) (bs - ms604)
          else
            False))
    else if ((xs (h_ix x3)) &&& (63 : Int32)) = (29 : Int32) then
      o0 = b ∧ vp_in (x3 + (1 : Int32)) L ∧ o0 = b ∧ vp_in (x3 + (2 : Int32)) L ∧ o0 = b ∧ vp_in (x3 + (3 : Int32)) L ∧ h_k s o1 = 32 ∧ ∃ mc631 ms632 : Nat, mc631 ≤ bc ∧ ms632 ≤ bs ∧ w_X11_lend g o1 (xs (h_ix (x3 + (1 : Int32)))) (xs (h_ix (x3 + (2 : Int32)))) (xs (h_ix (x3 + (3 : Int32)))) s mc631 ms632 (fun p630 s629 =>
        o0 = b ∧ vp_in (x3 + (1 : Int32)) L ∧ o0 = b ∧ vp_in (x3 + (2 : Int32)) L ∧ o0 = b ∧ vp_in (x3 + (3 : Int32)) L ∧ h_k s629 o2 = 33 ∧ w_X12_lend o2 (xs (h_ix (x3 + (1 : Int32)))) (xs (h_ix (x3 + (2 : Int32)))) (xs (h_ix (x3 + (3 : Int32)))) s629 (fun p643 s642 =>
          if p630 = p643 then
            w_L_law_2612 g b L xs Q K18 o0 o1 o2 x3 s642 (bc - mc631) (bs - ms632)
          else
            False))
    else if ((xs (h_ix x3)) &&& (63 : Int32)) = (30 : Int32) then
      o0 = b ∧ vp_in (x3 + (1 : Int32)) L ∧ h_k s o1 = 32 ∧ w_X11_take o1 (xs (h_ix (x3 + (1 : Int32)))) s (fun p650 s649 =>
        o0 = b ∧ vp_in (x3 + (1 : Int32)) L ∧ h_k s649 o2 = 33 ∧ w_X12_take o2 (xs (h_ix (x3 + (1 : Int32)))) s649 (fun p655 s654 =>
          if p650 = p655 then
            w_L_law_2612 g b L xs Q K18 o0 o1 o2 x3 s654 bc bs
          else
            False))
    else if ((xs (h_ix x3)) &&& (63 : Int32)) = (31 : Int32) then
      o0 = b ∧ vp_in (x3 + (1 : Int32)) L ∧ o0 = b ∧ vp_in (x3 + (2 : Int32)) L ∧ h_k s o1 = 32 ∧ w_X11_ofRight o1 (xs (h_ix (x3 + (1 : Int32)))) (xs (h_ix (x3 + (2 : Int32)))) s (fun p664 s663 =>
        o0 = b ∧ vp_in (x3 + (1 : Int32)) L ∧ o0 = b ∧ vp_in (x3 + (2 : Int32)) L ∧ h_k s663 o2 = 33 ∧ w_X12_ofRight o2 (xs (h_ix (x3 + (1 : Int32)))) (xs (h_ix (x3 + (2 : Int32)))) s663 (fun p671 s670 =>
          if p664 = p671 then
            w_L_law_2612 g b L xs Q K18 o0 o1 o2 x3 s670 bc bs
          else
            False))
    else if ((xs (h_ix x3)) &&& (63 : Int32)) = (32 : Int32) then
      o0 = b ∧ vp_in (x3 + (1 : Int32)) L ∧ o0 = b ∧ vp_in (x3 + (2 : Int32)) L ∧ o0 = b ∧ vp_in (x3 + (3 : Int32)) L ∧ o0 = b ∧ vp_in (x3 + (4 : Int32)) L ∧ h_k s o1 = 32 ∧ w_X11_may o1 (xs (h_ix (x3 + (1 : Int32)))) (xs (h_ix (x3 + (2 : Int32)))) (xs (h_ix (x3 + (3 : Int32)))) (xs (h_ix (x3 + (4 : Int32)))) s (fun p684 s683 =>
        o0 = b ∧ vp_in (x3 + (1 : Int32)) L ∧ o0 = b ∧ vp_in (x3 + (2 : Int32)) L ∧ o0 = b ∧ vp_in (x3 + (3 : Int32)) L ∧ o0 = b ∧ vp_in (x3 + (4 : Int32)) L ∧ h_k s683 o2 = 33 ∧ w_X12_may o2 (xs (h_ix (x3 + (1 : Int32)))) (xs (h_ix (x3 + (2 : Int32)))) (xs (h_ix (x3 + (3 : Int32)))) (xs (h_ix (x3 + (4 : Int32)))) s683 (fun p695 s694 =>
          if p684 = p695 then
            w_L_law_2612 g b L xs Q K18 o0 o1 o2 x3 s694 bc bs
          else
            False))
    else if ((xs (h_ix x3)) &&& (63 : Int32)) = (33 : Int32) then
      o0 = b ∧ vp_in (x3 + (1 : Int32)) L ∧ o0 = b ∧ vp_in (x3 + (2 : Int32)) L ∧ o0 = b ∧ vp_in (x3 + (3 : Int32)) L ∧ o0 = b ∧ vp_in (x3 + (4 : Int32)) L ∧ h_k s o1 = 32 ∧ w_X11_why o1 (xs (h_ix (x3 + (1 : Int32)))) (xs (h_ix (x3 + (2 : Int32)))) (xs (h_ix (x3 + (3 : Int32)))) (xs (h_ix (x3 + (4 : Int32)))) s (fun p708 s707 =>
        o0 = b ∧ vp_in (x3 + (1 : Int32)) L ∧ o0 = b ∧ vp_in (x3 + (2 : Int32)) L ∧ o0 = b ∧ vp_in (x3 + (3 : Int32)) L ∧ o0 = b ∧ vp_in (x3 + (4 : Int32)) L ∧ h_k s707 o2 = 33 ∧ w_X12_why o2 (xs (h_ix (x3 + (1 : Int32)))) (xs (h_ix (x3 + (2 : Int32)))) (xs (h_ix (x3 + (3 : Int32)))) (xs (h_ix (x3 + (4 : Int32)))) s707 (fun p719 s718 =>
          if p708 = p719 then
            w_L_law_2612 g b L xs Q K18 o0 o1 o2 x3 s718 bc bs
          else
            False))
    else if ((xs (h_ix x3)) &&& (63 : Int32)) = (34 : Int32) then
      o0 = b ∧ vp_in (x3 + (1 : Int32)) L ∧ o0 = b ∧ vp_in (x3 + (2 : Int32)) L ∧ o0 = b ∧ vp_in (x3 + (3 : Int32)) L ∧ o0 = b ∧ vp_in (x3 + (4 : Int32)) L ∧ h_k s o1 = 32 ∧ w_X11_view o1 (xs (h_ix (x3 + (1 : Int32)))) (xs (h_ix (x3 + (2 : Int32)))) (xs (h_ix (x3 + (3 : Int32)))) (xs (h_ix (x3 + (4 : Int32)))) s (fun p732 s731 =>
        o0 = b ∧ vp_in (x3 + (1 : Int32)) L ∧ o0 = b ∧ vp_in (x3 + (2 : Int32)) L ∧ o0 = b ∧ vp_in (x3 + (3 : Int32)) L ∧ o0 = b ∧ vp_in (x3 + (4 : Int32)) L ∧ h_k s731 o2 = 33 ∧ w_X12_view o2 (xs (h_ix (x3 + (1 : Int32)))) (xs (h_ix (x3 + (2 : Int32)))) (xs (h_ix (x3 + (3 : Int32)))) (xs (h_ix (x3 + (4 : Int32)))) s731 (fun p743 s742 =>
          if p732 = p743 then
            w_L_law_2612 g b L xs Q K18 o0 o1 o2 x3 s742 bc bs
          else
            False))
    else if ((xs (h_ix x3)) &&& (63 : Int32)) = (35 : Int32) then
      o0 = b ∧ vp_in (x3 + (1 : Int32)) L ∧ o0 = b ∧ vp_in (x3 + (2 : Int32)) L ∧ h_k s o1 = 32 ∧ w_X11_rule o1 (xs (h_ix (x3 + (1 : Int32)))) (xs (h_ix (x3 + (2 : Int32)))) s (fun p752 s751 =>
        o0 = b ∧ vp_in (x3 + (1 : Int32)) L ∧ o0 = b ∧ vp_in (x3 + (2 : Int32)) L ∧ h_k s751 o2 = 33 ∧ w_X12_rule o2 (xs (h_ix (x3 + (1 : Int32)))) (xs (h_ix (x3 + (2 : Int32)))) s751 (fun p759 s758 =>
          if p752 = p759 then
            w_L_law_2612 g b L xs Q K18 o0 o1 o2 x3 s758 bc bs
          else
            False))
    else if ((xs (h_ix x3)) &&& (63 : Int32)) = (36 : Int32) then
      o0 = b ∧ vp_in (x3 + (1 : Int32)) L ∧ o0 = b ∧ vp_in (x3 + (2 : Int32)) L ∧ h_k s o1 = 32 ∧ w_X11_read o1 (xs (h_ix (x3 + (1 : Int32)))) (xs (h_ix (x3 + (2 : Int32)))) s (fun p768 s767 =>
        o0 = b ∧ vp_in (x3 + (1 : Int32)) L ∧ o0 = b ∧ vp_in (x3 + (2 : Int32)) L ∧ h_k s767 o2 = 33 ∧ w_X12_read o2 (xs (h_ix (x3 + (1 : Int32)))) (xs (h_ix (x3 + (2 : Int32)))) s767 (fun p775 s774 =>
          if p768 = p775 then
            w_L_law_2612 g b L xs Q K18 o0 o1 o2 x3 s774 bc bs
          else
            False))
    else if ((xs (h_ix x3)) &&& (63 : Int32)) = (37 : Int32) then
      o0 = b ∧ vp_in (x3 + (1 : Int32)) L ∧ o0 = b ∧ vp_in (x3 + (2 : Int32)) L ∧ h_k s o1 = 32 ∧ w_X11_owes o1 (xs (h_ix (x3 + (1 : Int32)))) (xs (h_ix (x3 + (2 : Int32)))) s (fun p784 s783 =>
        o0 = b ∧ vp_in (x3 + (1 : Int32)) L ∧ o0 = b ∧ vp_in (x3 + (2 : Int32)) L ∧ h_k s783 o2 = 33 ∧ w_X12_owes o2 (xs (h_ix (x3 + (1 : Int32)))) (xs (h_ix (x3 + (2 : Int32)))) s783 (fun p791 s790 =>
          if p784 = p791 then
            w_L_law_2612 g b L xs Q K18 o0 o1 o2 x3 s790 bc bs
          else
            False))
    else if ((xs (h_ix x3)) &&& (63 : Int32)) = (38 : Int32) then
      o0 = b ∧ vp_in (x3 + (1 : Int32)) L ∧ o0 = b ∧ vp_in (x3 + (2 : Int32)) L ∧ o0 = b ∧ vp_in (x3 + (3 : Int32)) L ∧ h_k s o1 = 32 ∧ w_X11_pay o1 (xs (h_ix (x3 + (1 : Int32)))) (xs (h_ix (x3 + (2 : Int32)))) (xs (h_ix (x3 + (3 : Int32)))) s (fun p802 s801 =>
        o0 = b ∧ vp_in (x3 + (1 : Int32)) L ∧ o0 = b ∧ vp_in (x3 + (2 : Int32)) L ∧ o0 = b ∧ vp_in (x3 + (3 : Int32)) L ∧ h_k s801 o2 = 33 ∧ w_X12_pay o2 (xs (h_ix (x3 + (1 : Int32)))) (xs (h_ix (x3 + (2 : Int32)))) (xs (h_ix (x3 + (3 : Int32)))) s801 (fun p811 s810 =>
          if p802 = p811 then
            w_L_law_2612 g b L xs Q K18 o0 o1 o2 x3 s810 bc bs
          else
            False))
    else if ((xs (h_ix x3)) &&& (63 : Int32)) = (39 : Int32) then
      o0 = b ∧ vp_in (x3 + (1 : Int32)) L ∧ o0 = b ∧ vp_in (x3 + (2 : Int32)) L ∧ h_k s o1 = 32 ∧ ∃ mc821 ms822 : Nat, mc821 ≤ bc ∧ ms822 ≤ bs ∧ w_X11_steps o1 (xs (h_ix (x3 + (1 : Int32)))) (xs (h_ix (x3 + (2 : Int32)))) s mc821 ms822 (fun p820 s819 =>
        o0 = b ∧ vp_in (x3 + (1 : Int32)) L ∧ o0 = b ∧ vp_in (x3 + (2 : Int32)) L ∧ h_k s819 o2 = 33 ∧ w_X12_steps o2 (xs (h_ix (x3 + (1 : Int32)))) (xs (h_ix (x3 + (2 : Int32)))) s819 (fun p831 s830 =>
          if p820 = p831 then
            w_L_law_2612 g b L xs Q K18 o0 o1 o2 x3 s830 (bc - mc821) (bs - ms822)
          else
            False))
    else if ((xs (h_ix x3)) &&& (63 : Int32)) = (40 : Int32) then
      o0 = b ∧ vp_in (x3 + (1 : Int32)) L ∧ o0 = b ∧ vp_in (x3 + (2 : Int32)) L ∧ o0 = b ∧ vp_in (x3 + (3 : Int32)) L ∧ h_k s o1 = 32 ∧ ∃ mc843 ms844 : Nat, mc843 ≤ bc ∧ ms844 ≤ bs ∧ w_X11_chain o1 (xs (h_ix (x3 + (1 : Int32)))) (xs (h_ix (x3 + (2 : Int32)))) (xs (h_ix (x3 + (3 : Int32)))) s mc843 ms844 (fun p842 s841 =>
        o0 = b ∧ vp_in (x3 + (1 : Int32)) L ∧ o0 = b ∧ vp_in (x3 + (2 : Int32)) L ∧ o0 = b ∧ vp_in (x3 + (3 : Int32)) L ∧ h_k s841 o2 = 33 ∧ w_X12_chain o2 (xs (h_ix (x3 + (1 : Int32)))) (xs (h_ix (x3 + (2 : Int32)))) (xs (h_ix (x3 + (3 : Int32)))) s841 (fun p855 s854 =>
          if p842 = p855 then
            w_L_law_2612 g b L xs Q K18 o0 o1 o2 x3 s854 (bc - mc843) (bs - ms844)
          else
            False))
    else if ((xs (h_ix x3)) &&& (63 : Int32)) = (41 : Int32) then
      o0 = b ∧ vp_in (x3 + (1 : Int32)) L ∧ o0 = b ∧ vp_in (x3 + (2 : Int32)) L ∧ h_k s o1 = 32 ∧ w_X11_quotes o1 (xs (h_ix (x3 + (1 : Int32)))) (xs (h_ix (x3 + (2 : Int32)))) s (fun p864 s863 =>
        o0 = b ∧ vp_in (x3 + (1 : Int32)) L ∧ o0 = b ∧ vp_in (x3 + (2 : Int32)) L ∧ h_k s863 o2 = 33 ∧ w_X12_quotes o2 (xs (h_ix (x3 + (1 : Int32)))) (xs (h_ix (x3 + (2 : Int32)))) s863 (fun p871 s870 =>
          if p864 = p871 then
            w_L_law_2612 g b L xs Q K18 o0 o1 o2 x3 s870 bc bs
          else
            False))
    else if ((xs (h_ix x3)) &&& (63 : Int32)) = (42 : Int32) then
      o0 = b ∧ vp_in (x3 + (1 : Int32)) L ∧ o0 = b ∧ vp_in (x3 + (2 : Int32)) L ∧ o0 = b ∧ vp_in (x3 + (3 : Int32)) L ∧ o0 = b ∧ vp_in (x3 + (4 : Int32)) L ∧ o0 = b ∧ vp_in (x3 + (5 : Int32)) L ∧ h_k s o1 = 32 ∧ ∃ mc887 ms888 : Nat, mc887 ≤ bc ∧ ms888 ≤ bs ∧ w_X11_seek o1 (xs (h_ix (x3 + (1 : Int32)))) (xs (h_ix (x3 + (2 : Int32)))) (xs (h_ix (x3 + (3 : Int32)))) (xs (h_ix (x3 + (4 : Int32)))) (xs (h_ix (x3 + (5 : Int32)))) s mc887 ms888 (fun p886 s885 =>
        o0 = b ∧ vp_in (x3 + (1 : Int32)) L ∧ o0 = b ∧ vp_in (x3 + (2 : Int32)) L ∧ o0 = b ∧ vp_in (x3 + (3 : Int32)) L ∧ o0 = b ∧ vp_in (x3 + (4 : Int32)) L ∧ o0 = b ∧ vp_in (x3 + (5 : Int32)) L ∧ h_k s885 o2 = 33 ∧ w_X12_seek o2 (xs (h_ix (x3 + (1 : Int32)))) (xs (h_ix (x3 + (2 : Int32)))) (xs (h_ix (x3 + (3 : Int32)))) (xs (h_ix (x3 + (4 : Int32)))) (xs (h_ix (x3 + (5 : Int32)))) s885 (fun p903 s902 =>
          if p886 = p903 then
            w_L_law_2612 g b L xs Q K18 o0 o1 o2 x3 s902 (bc - mc887) (bs - ms888)
          else
            False))
    else if ((xs (h_ix x3)) &&& (63 : Int32)) = (43 : Int32) then
      o0 = b ∧ vp_in (x3 + (1 : Int32)) L ∧ o0 = b ∧ vp_in (x3 + (2 : Int32)) L ∧ h_k s o1 = 32 ∧ w_X11_hit o1 (xs (h_ix (x3 + (1 : Int32)))) (xs (h_ix (x3 + (2 : Int32)))) s (fun p912 s911 =>
        o0 = b ∧ vp_in (x3 + (1 : Int32)) L ∧ o0 = b ∧ vp_in (x3 + (2 : Int32)) L ∧ h_k s911 o2 = 33 ∧ w_X12_hit o2 (xs (h_ix (x3 + (1 : Int32)))) (xs (h_ix (x3 + (2 : Int32)))) s911 (fun p919 s918 =>
          if p912 = p919 then
            w_L_law_2612 g b L xs Q K18 o0 o1 o2 x3 s918 bc bs
          else
            False))
    else if ((xs (h_ix x3)) &&& (63 : Int32)) = (44 : Int32) then
      o0 = b ∧ vp_in (x3 + (1 : Int32)) L ∧ h_k s o1 = 32 ∧ w_X11_seal o1 (xs (h_ix (x3 + (1 : Int32)))) s (fun p926 s925 =>
        o0 = b ∧ vp_in (x3 + (1 : Int32)) L ∧ h_k s925 o2 = 33 ∧ w_X12_seal o2 (xs (h_ix (x3 + (1 : Int32)))) s925 (fun p931 s930 =>
          if p926 = p931 then
            w_L_law_2612 g b L xs Q K18 o0 o1 o2 x3 s930 bc bs
          else
            False))
    else if ((xs (h_ix x3)) &&& (63 : Int32)) = (45 : Int32) then
      o0 = b ∧ vp_in (x3 + (1 : Int32)) L ∧ o0 = b ∧ vp_in (x3 + (2 : Int32)) L ∧ o0 = b ∧ vp_in (x3 + (3 : Int32)) L ∧ h_k s o1 = 32 ∧ w_X11_side o1 (xs (h_ix (x3 + (1 : Int32)))) (xs (h_ix (x3 + (2 : Int32)))) (xs (h_ix (x3 + (3 : Int32)))) s (fun p942 s941 =>
        o0 = b ∧ vp_in (x3 + (1 : Int32)) L ∧ o0 = b ∧ vp_in (x3 + (2 : Int32)) L ∧ o0 = b ∧ vp_in (x3 + (3 : Int32)) L ∧ h_k s941 o2 = 33 ∧ w_X12_side o2 (xs (h_ix (x3 + (1 : Int32)))) (xs (h_ix (x3 + (2 : Int32)))) (xs (h_ix (x3 + (3 : Int32)))) s941 (fun p951 s950 =>
          if p942 = p951 then
            w_L_law_2612 g b L xs Q K18 o0 o1 o2 x3 s950 bc bs
          else
            False))
    else if ((xs (h_ix x3)) &&& (63 : Int32)) = (46 : Int32) then
      o0 = b ∧ vp_in (x3 + (1 : Int32)) L ∧ o0 = b ∧ vp_in (x3 + (2 : Int32)) L ∧ o0 = b ∧ vp_in (x3 + (3 : Int32)) L ∧ o0 = b ∧ vp_in (x3 + (4 : Int32)) L ∧ o0 = b ∧ vp_in (x3 + (5 : Int32)) L ∧ o0 = b ∧ vp_in (x3 + (6 : Int32)) L ∧ o0 = b ∧ vp_in (x3 + (7 : Int32)) L ∧ o0 = b ∧ vp_in (x3 + (8 : Int32)) L ∧ h_k s o1 = 32 ∧ w_X11_prove o1 (xs (h_ix (x3 + (1 : Int32)))) (xs (h_ix (x3 + (2 : Int32)))) (xs (h_ix (x3 + (3 : Int32)))) (xs (h_ix (x3 + (4 : Int32)))) (xs (h_ix (x3 + (5 : Int32)))) (xs (h_ix (x3 + (6 : Int32)))) (xs (h_ix (x3 + (7 : Int32)))) (xs (h_ix (x3 + (8 : Int32)))) s (fun p972 s971 =>
        o0 = b ∧ vp_in (x3 + (1 : Int32)) L ∧ o0 = b ∧ vp_in (x3 + (2 : Int32)) L ∧ o0 = b ∧ vp_in (x3 + (3 : Int32)) L ∧ o0 = b ∧ vp_in (x3 + (4 : Int32)) L ∧ o0 = b ∧ vp_in (x3 + (5 : Int32)) L ∧ o0 = b ∧ vp_in (x3 + (6 : Int32)) L ∧ o0 = b ∧ vp_in (x3 + (7 : Int32)) L ∧ o0 = b ∧ vp_in (x3 + (8 : Int32)) L ∧ h_k s971 o2 = 33 ∧ w_X12_prove o2 (xs (h_ix (x3 + (1 : Int32)))) (xs (h_ix (x3 + (2 : Int32)))) (xs (h_ix (x3 + (3 : Int32)))) (xs (h_ix (x3 + (4 : Int32)))) (xs (h_ix (x3 + (5 : Int32)))) (xs (h_ix (x3 + (6 : Int32)))) (xs (h_ix (x3 + (7 : Int32)))) (xs (h_ix (x3 + (8 : Int32)))) s971 (fun p991 s990 =>
          if p972 = p991 then
            w_L_law_2612 g b L xs Q K18 o0 o1 o2 x3 s990 bc bs
          else
            False))
    else if ((xs (h_ix x3)) &&& (63 : Int32)) = (47 : Int32) then
      o0 = b ∧ vp_in (x3 + (1 : Int32)) L ∧ h_k s o1 = 32 ∧ w_X11_stamp o1 (xs (h_ix (x3 + (1 : Int32)))) s (fun p998 s997 =>
        o0 = b ∧ vp_in (x3 + (1 : Int32)) L ∧ h_k s997 o2 = 33 ∧ w_X12_stamp o2 (xs (h_ix (x3 + (1 : Int32)))) s997 (fun p1003 s1002 =>
          if p998 = p1003 then
            w_L_law_2612 g b L xs Q K18 o0 o1 o2 x3 s1002 bc bs
          else
            False))
    else if ((xs (h_ix x3)) &&& (63 : Int32)) = (48 : Int32) then
      o0 = b ∧ vp_in (x3 + (1 : Int32)) L ∧ o0 = b ∧ vp_in (x3 + (2 : Int32)) L ∧ o0 = b ∧ vp_in (x3 + (3 : Int32)) L ∧ h_k s o1 = 32 ∧ w_X11_sheet o1 (xs (h_ix (x3 + (1 : Int32)))) (xs (h_ix (x3 + (2 : Int32)))) (xs (h_ix (x3 + (3 : Int32)))) s (fun p1014 s1013 =>
        o0 = b ∧ vp_in (x3 + (1 : Int32)) L ∧ o0 = b ∧ vp_in (x3 + (2 : Int32)) L ∧ o0 = b ∧ vp_in (x3 + (3 : Int32)) L ∧ h_k s1013 o2 = 33 ∧ w_X12_sheet o2 (xs (h_ix (x3 + (1 : Int32)))) (xs (h_ix (x3 + (2 : Int32)))) (xs (h_ix (x3 + (3 : Int32)))) s1013 (fun p1023 s1022 =>
          if p1014 = p1023 then
            w_L_law_2612 g b L xs Q K18 o0 o1 o2 x3 s1022 bc bs
          else
            False))
    else if ((xs (h_ix x3)) &&& (63 : Int32)) = (49 : Int32) then
      o0 = b ∧ vp_in (x3 + (1 : Int32)) L ∧ h_k s o1 = 32 ∧ w_X11_lose o1 (xs (h_ix (x3 + (1 : Int32)))) s (fun p1030 s1029 =>
        o0 = b ∧ vp_in (x3 + (1 : Int32)) L ∧ h_k s1029 o2 = 33 ∧ w_X12_lose o2 (xs (h_ix (x3 + (1 : Int32)))) s1029 (fun p1035 s1034 =>
          if p1030 = p1035 then
            w_L_law_2612 g b L xs Q K18 o0 o1 o2 x3 s1034 bc bs
          else
            False))
    else if ((xs (h_ix x3)) &&& (63 : Int32)) = (50 : Int32) then
      o0 = b ∧ vp_in (x3 + (1 : Int32)) L ∧ o0 = b ∧ vp_in (x3 + (2 : Int32)) L ∧ o0 = b ∧ vp_in (x3 + (3 : Int32)) L ∧ h_k s o1 = 32 ∧ w_X11_set o1 (xs (h_ix (x3 + (1 : Int32)))) (xs (h_ix (x3 + (2 : Int32)))) (xs (h_ix (x3 + (3 : Int32)))) s (fun p1046 s1045 =>
        o0 = b ∧ vp_in (x3 + (1 : Int32)) L ∧ o0 = b ∧ vp_in (x3 + (2 : Int32)) L ∧ o0 = b ∧ vp_in (x3 + (3 : Int32)) L ∧ h_k s1045 o2 = 33 ∧ w_X12_set o2 (xs (h_ix (x3 + (1 : Int32)))) (xs (h_ix (x3 + (2 : Int32)))) (xs (h_ix (x3 + (3 : Int32)))) s1045 (fun p1055 s1054 =>
          if p1046 = p1055 then
            w_L_law_2612 g b L xs Q K18 o0 o1 o2 x3 s1054 bc bs
          else
            False))
    else if ((xs (h_ix x3)) &&& (63 : Int32)) = (51 : Int32) then
      o0 = b ∧ vp_in (x3 + (1 : Int32)) L ∧ o0 = b ∧ vp_in (x3 + (2 : Int32)) L ∧ o0 = b ∧ vp_in (x3 + (3 : Int32)) L ∧ h_k s o1 = 32 ∧ w_X11_cell o1 (xs (h_ix (x3 + (1 : Int32)))) (xs (h_ix (x3 + (2 : Int32)))) (xs (h_ix (x3 + (3 : Int32)))) s (fun p1066 s1065 =>
        o0 = b ∧ vp_in (x3 + (1 : Int32)) L ∧ o0 = b ∧ vp_in (x3 + (2 : Int32)) L ∧ o0 = b ∧ vp_in (x3 + (3 : Int32)) L ∧ h_k s1065 o2 = 33 ∧ w_X12_cell o2 (xs (h_ix (x3 + (1 : Int32)))) (xs (h_ix (x3 + (2 : Int32)))) (xs (h_ix (x3 + (3 : Int32)))) s1065 (fun p1075 s1074 =>
          if (lg_cmp p1066 p1075) = 0 then
            w_L_law_2612 g b L xs Q K18 o0 o1 o2 x3 s1074 bc bs
          else
            False))
    else if ((xs (h_ix x3)) &&& (63 : Int32)) = (52 : Int32) then
      o0 = b ∧ vp_in (x3 + (1 : Int32)) L ∧ o0 = b ∧ vp_in (x3 + (2 : Int32)) L ∧ o0 = b ∧ vp_in (x3 + (3 : Int32)) L ∧ o0 = b ∧ vp_in (x3 + (4 : Int32)) L ∧ o0 = b ∧ vp_in (x3 + (5 : Int32)) L ∧ h_k s o1 = 32 ∧ w_X11_copy o1 (xs (h_ix (x3 + (1 : Int32)))) (xs (h_ix (x3 + (2 : Int32)))) (xs (h_ix (x3 + (3 : Int32)))) (xs (h_ix (x3 + (4 : Int32)))) (xs (h_ix (x3 + (5 : Int32)))) s (fun p1090 s1089 =>
        o0 = b ∧ vp_in (x3 + (1 : Int32)) L ∧ o0 = b ∧ vp_in (x3 + (2 : Int32)) L ∧ o0 = b ∧ vp_in (x3 + (3 : Int32)) L ∧ o0 = b ∧ vp_in (x3 + (4 : Int32)) L ∧ o0 = b ∧ vp_in (x3 + (5 : Int32)) L ∧ h_k s1089 o2 = 33 ∧ w_X12_copy o2 (xs (h_ix (x3 + (1 : Int32)))) (xs (h_ix (x3 + (2 : Int32)))) (xs (h_ix (x3 + (3 : Int32)))) (xs (h_ix (x3 + (4 : Int32)))) (xs (h_ix (x3 + (5 : Int32)))) s1089 (fun p1103 s1102 =>
          if p1090 = p1103 then
            w_L_law_2612 g b L xs Q K18 o0 o1 o2 x3 s1102 bc bs
          else
            False))
    else if ((xs (h_ix x3)) &&& (63 : Int32)) = (53 : Int32) then
      o0 = b ∧ vp_in (x3 + (1 : Int32)) L ∧ h_k s o1 = 32 ∧ w_X11_tell o1 (xs (h_ix (x3 + (1 : Int32)))) s (fun p1110 s1109 =>
        o0 = b ∧ vp_in (x3 + (1 : Int32)) L ∧ h_k s1109 o2 = 33 ∧ w_X12_tell o2 (xs (h_ix (x3 + (1 : Int32)))) s1109 (fun p1115 s1114 =>
          if p1110 = p1115 then
            w_L_law_2612 g b L xs Q K18 o0 o1 o2 x3 s1114 bc bs
          else
            False))
    else if ((xs (h_ix x3)) &&& (63 : Int32)) = (54 : Int32) then
      o0 = b ∧ vp_in (x3 + (1 : Int32)) L ∧ h_k s o1 = 32 ∧ w_X11_name o1 (xs (h_ix (x3 + (1 : Int32)))) s (fun p1122 s1121 =>
        o0 = b ∧ vp_in (x3 + (1 : Int32)) L ∧ h_k s1121 o2 = 33 ∧ w_X12_name o2 (xs (h_ix (x3 + (1 : Int32)))) s1121 (fun p1127 s1126 =>
          if p1122 = p1127 then
            w_L_law_2612 g b L xs Q K18 o0 o1 o2 x3 s1126 bc bs
          else
            False))
    else if ((xs (h_ix x3)) &&& (63 : Int32)) = (55 : Int32) then
      o0 = b ∧ vp_in (x3 + (1 : Int32)) L ∧ o0 = b ∧ vp_in (x3 + (2 : Int32)) L ∧ h_k s o1 = 32 ∧ w_X11_as o1 (xs (h_ix (x3 + (1 : Int32)))) (xs (h_ix (x3 + (2 : Int32)))) s (fun p1136 s1135 =>
        o0 = b ∧ vp_in (x3 + (1 : Int32)) L ∧ o0 = b ∧ vp_in (x3 + (2 : Int32)) L ∧ h_k s1135 o2 = 33 ∧ w_X12_as o2 (xs (h_ix (x3 + (1 : Int32)))) (xs (h_ix (x3 + (2 : Int32)))) s1135 (fun p1143 s1142 =>
          if p1136 = p1143 then
            w_L_law_2612 g b L xs Q K18 o0 o1 o2 x3 s1142 bc bs
          else
            False))
    else if ((xs (h_ix x3)) &&& (63 : Int32)) = (56 : Int32) then
      h_k s o1 = 32 ∧ w_X11_trace o1 s (fun p1148 s1147 =>
        h_k s1147 o2 = 33 ∧ w_X12_trace o2 s1147 (fun p1151 s1150 =>
          if p1148 = p1151 then
            w_L_law_2612 g b L xs Q K18 o0 o1 o2 x3 s1150 bc bs
          else
            False))
    else if ((xs (h_ix x3)) &&& (63 : Int32)) = (57 : Int32) then
      h_k s o1 = 32 ∧ w_X11_fault o1 s (fun p1156 s1155 =>
        h_k s1155 o2 = 33 ∧ w_X12_fault o2 s1155 (fun p1159 s1158 =>
          if p1156 = p1159 then
            w_L_law_2612 g b L xs Q K18 o0 o1 o2 x3 s1158 bc bs
          else
            False))
    else if ((xs (h_ix x3)) &&& (63 : Int32)) = (58 : Int32) then
      o0 = b ∧ vp_in (x3 + (1 : Int32)) L ∧ h_k s o1 = 32 ∧ w_X11_many o1 (xs (h_ix (x3 + (1 : Int32)))) s (fun p1166 s1165 =>
        o0 = b ∧ vp_in (x3 + (1 : Int32)) L ∧ h_k s1165 o2 = 33 ∧ w_X12_many o2 (xs (h_ix (x3 + (1 : Int32)))) s1165 (fun p1171 s1170 =>
          if p1166 = p1171 then
            w_L_law_2612 g b L xs Q K18 o0 o1 o2 x3 s1170 bc bs
          else
            False))
    else 
      w_L_law_2612 g b L xs Q K18 o0 o1 o2 x3 s bc bs))
set_option maxRecDepth 100000 in
def w_L_law_18 (g : h_G) (b L : Nat) (xs : Nat → Int32) (Q : Int32 → h_S → Prop) : Nat → Nat → Nat → Nat → Int32 → h_S → Nat → Nat → Prop
  | 0, _, _, _, _, _, _, _ => False
  | n + 1, o0, o1, o2, x3, s, bc, bs => w_L_law_18b g b L xs Q (w_L_law_18 g b L xs Q n) o0 o1 o2 x3 s bc bs
set_option maxRecDepth 100000 in
def w_L_law (g : h_G) (b L : Nat) (xs : Nat → Int32) (o0 : Nat) (s : h_S) (mc ms : Nat) (Q : Int32 → h_S → Prop) : Prop :=
  1 ≤ mc ∧ 19 ≤ ms ∧ ∀ q1 : Nat, h_k s q1 = 0 → let s5 : h_S := h_nw s q1 32 19
  let c6 : Nat := mc - 1
  let d7 : Nat := ms - 19
  ∃ mc10 ms11 : Nat, mc10 ≤ c6 ∧ ms11 ≤ d7 ∧ w_X11_init g q1 s5 mc10 ms11 (fun s8 =>
    1 ≤ (c6 - mc10) ∧ 115 ≤ (d7 - ms11) ∧ ∀ q14 : Nat, h_k s8 q14 = 0 → let s18 : h_S := h_nw s8 q14 33 115
    let c19 : Nat := (c6 - mc10) - 1
    let d20 : Nat := (d7 - ms11) - 115
    ∃ mc23 ms24 : Nat, mc23 ≤ c19 ∧ ms24 ≤ d20 ∧ w_X12_init q14 s18 mc23 ms24 (fun s21 =>
      ∃ n, w_L_law_18 g b L xs Q n o0 q1 q14 (0 : Int32) s21 (c19 - mc23) (d20 - ms24)))
