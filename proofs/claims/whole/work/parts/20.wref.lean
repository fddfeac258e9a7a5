set_option maxRecDepth 100000 in
def w_X12_init_752b (Q : h_S → Prop) (K752 : Nat → Int32 → h_S → Nat → Nat → Prop) (o0 : Nat) (x1 : Int32) (s : h_S) (bc bs : Nat) : Prop :=
  if (4 : Int32) ≤ x1 then
    Q s
  else
    h_k s o0 = 33 ∧ ∃ a3, (h_r s o0 110) = some a3 ∧ h_k s a3 = 1 ∧ vp_in x1 (h_n s a3) ∧ let s6 : h_S := h_si s a3 (h_ix x1) (-1 : Int32)
    K752 o0 (x1 + (1 : Int32)) s6 bc bs
set_option maxRecDepth 100000 in
def w_X12_init_752 (Q : h_S → Prop) : Nat → Nat → Int32 → h_S → Nat → Nat → Prop
  | 0, _, _, _, _, _ => False
  | n + 1, o0, x1, s, bc, bs => w_X12_init_752b Q (w_X12_init_752 Q n) o0 x1 s bc bs
set_option maxRecDepth 100000 in
def w_X12_init_731b (Q : h_S → Prop) (K731 : Nat → Int32 → h_S → Nat → Nat → Prop) (o0 : Nat) (x1 : Int32) (s : h_S) (bc bs : Nat) : Prop :=
  if (12 : Int32) ≤ x1 then
    ∃ n, w_X12_init_752 Q n o0 (0 : Int32) s bc bs
  else
    h_k s o0 = 33 ∧ ∃ a3, (h_r s o0 11) = some a3 ∧ h_k s a3 = 1 ∧ vp_in x1 (h_n s a3) ∧ let s6 : h_S := h_si s a3 (h_ix x1) (-1 : Int32)
    K731 o0 (x1 + (1 : Int32)) s6 bc bs
set_option maxRecDepth 100000 in
def w_X12_init_731 (Q : h_S → Prop) : Nat → Nat → Int32 → h_S → Nat → Nat → Prop
  | 0, _, _, _, _, _ => False
  | n + 1, o0, x1, s, bc, bs => w_X12_init_731b Q (w_X12_init_731 Q n) o0 x1 s bc bs
set_option maxRecDepth 100000 in
def w_X12_init (o0 : Nat) (s : h_S) (mc ms : Nat) (Q : h_S → Prop) : Prop :=
  1 ≤ mc ∧ 1201 ≤ ms ∧ ∀ q1 : Nat, h_k s q1 = 0 → let s5 : h_S := h_nw s q1 1 1201
  let c6 : Nat := mc - 1
  let d7 : Nat := ms - 1201
  h_k s5 o0 = 33 ∧ let s9 : h_S := h_sr s5 o0 2 (some q1)
  1 ≤ c6 ∧ 1200 ≤ d7 ∧ ∀ q10 : Nat, h_k s9 q10 = 0 → let s14 : h_S := h_nw s9 q10 1 1200
  let c15 : Nat := c6 - 1
  let d16 : Nat := d7 - 1200
  h_k s14 o0 = 33 ∧ let s18 : h_S := h_sr s14 o0 5 (some q10)
  1 ≤ c15 ∧ 1200 ≤ d16 ∧ ∀ q19 : Nat, h_k s18 q19 = 0 → let s23 : h_S := h_nw s18 q19 1 1200
  let c24 : Nat := c15 - 1
  let d25 : Nat := d16 - 1200
  h_k s23 o0 = 33 ∧ let s27 : h_S := h_sr s23 o0 6 (some q19)
  1 ≤ c24 ∧ 1200 ≤ d25 ∧ ∀ q28 : Nat, h_k s27 q28 = 0 → let s32 : h_S := h_nw s27 q28 1 1200
  let c33 : Nat := c24 - 1
  let d34 : Nat := d25 - 1200
  h_k s32 o0 = 33 ∧ let s36 : h_S := h_sr s32 o0 7 (some q28)
  1 ≤ c33 ∧ 12 ≤ d34 ∧ ∀ q37 : Nat, h_k s36 q37 = 0 → let s41 : h_S := h_nw s36 q37 1 12
  let c42 : Nat := c33 - 1
  let d43 : Nat := d34 - 12
  h_k s41 o0 = 33 ∧ let s45 : h_S := h_sr s41 o0 9 (some q37)
  1 ≤ c42 ∧ 12 ≤ d43 ∧ ∀ q46 : Nat, h_k s45 q46 = 0 → let s50 : h_S := h_nw s45 q46 1 12
  let c51 : Nat := c42 - 1
  let d52 : Nat := d43 - 12
  h_k s50 o0 = 33 ∧ let s54 : h_S := h_sr s50 o0 11 (some q46)
  1 ≤ c51 ∧ 1200 ≤ d52 ∧ ∀ q55 : Nat, h_k s54 q55 = 0 → let s59 : h_S := h_nw s54 q55 1 1200
  let c60 : Nat := c51 - 1
  let d61 : Nat := d52 - 1200
  h_k s59 o0 = 33 ∧ let s63 : h_S := h_sr s59 o0 12 (some q55)
  1 ≤ c60 ∧ 1200 ≤ d61 ∧ ∀ q64 : Nat, h_k s63 q64 = 0 → let s68 : h_S := h_nw s63 q64 1 1200
  let c69 : Nat := c60 - 1
  let d70 : Nat := d61 - 1200
  h_k s68 o0 = 33 ∧ let s72 : h_S := h_sr s68 o0 13 (some q64)
  1 ≤ c69 ∧ 1200 ≤ d70 ∧ ∀ q73 : Nat, h_k s72 q73 = 0 → let s77 : h_S := h_nw s72 q73 1 1200
  let c78 : Nat := c69 - 1
  let d79 : Nat := d70 - 1200
  h_k s77 o0 = 33 ∧ let s81 : h_S := h_sr s77 o0 14 (some q73)
  1 ≤ c78 ∧ 1200 ≤ d79 ∧ ∀ q82 : Nat, h_k s81 q82 = 0 → let s86 : h_S := h_nw s81 q82 1 1200
  let c87 : Nat := c78 - 1
  let d88 : Nat := d79 - 1200
  h_k s86 o0 = 33 ∧ let s90 : h_S := h_sr s86 o0 15 (some q82)
  1 ≤ c87 ∧ 28800 ≤ d88 ∧ ∀ q91 : Nat, h_k s90 q91 = 0 → let s95 : h_S := h_nw s90 q91 1 28800
  let c96 : Nat := c87 - 1
  let d97 : Nat := d88 - 28800
  h_k s95 o0 = 33 ∧ let s99 : h_S := h_sr s95 o0 17 (some q91)
  1 ≤ c96 ∧ 28800 ≤ d97 ∧ ∀ q100 : Nat, h_k s99 q100 = 0 → let s104 : h_S := h_nw s99 q100 1 28800
  let c105 : Nat := c96 - 1
  let d106 : Nat := d97 - 28800
  h_k s104 o0 = 33 ∧ let s108 : h_S := h_sr s104 o0 18 (some q100)
  1 ≤ c105 ∧ 28800 ≤ d106 ∧ ∀ q109 : Nat, h_k s108 q109 = 0 → let s113 : h_S := h_nw s108 q109 1 28800
  let c114 : Nat := c105 - 1
  let d115 : Nat := d106 - 28800
  h_k s113 o0 = 33 ∧ let s117 : h_S := h_sr s113 o0 19 (some q109)
  1 ≤ c114 ∧ 28800 ≤ d115 ∧ ∀ q118 : Nat, h_k s117 q118 = 0 → let s122 : h_S := h_nw s117 q118 1 28800
  let c123 : Nat := c114 - 1
  let d124 : Nat := d115 - 28800
  h_k s122 o0 = 33 ∧ let s126 : h_S := h_sr s122 o0 20 (some q118)
  1 ≤ c123 ∧ 28800 ≤ d124 ∧ ∀ q127 : Nat, h_k s126 q127 = 0 → let s131 : h_S := h_nw s126 q127 1 28800
  let c132 : Nat := c123 - 1
  let d133 : Nat := d124 - 28800
  h_k s131 o0 = 33 ∧ let s135 : h_S := h_sr s131 o0 21 (some q127)
  1 ≤ c132 ∧ 500 ≤ d133 ∧ ∀ q136 : Nat, h_k s135 q136 = 0 → let s140 : h_S := h_nw s135 q136 1 500
  let c141 : Nat := c132 - 1
  let d142 : Nat := d133 - 500
  h_k s140 o0 = 33 ∧ let s144 : h_S := h_sr s140 o0 23 (some q136)
  1 ≤ c141 ∧ 500 ≤ d142 ∧ ∀ q145 : Nat, h_k s144 q145 = 0 → let s149 : h_S := h_nw s144 q145 1 500
  let c150 : Nat := c141 - 1
  let d151 : Nat := d142 - 500
  h_k s149 o0 = 33 ∧ let s153 : h_S := h_sr s149 o0 24 (some q145)
  1 ≤ c150 ∧ 500 ≤ d151 ∧ ∀ q154 : Nat, h_k s153 q154 = 0 → let s158 : h_S := h_nw s153 q154 1 500
  let c159 : Nat := c150 - 1
  let d160 : Nat := d151 - 500
  h_k s158 o0 = 33 ∧ let s162 : h_S := h_sr s158 o0 25 (some q154)
  1 ≤ c159 ∧ 500 ≤ d160 ∧ ∀ q163 : Nat, h_k s162 q163 = 0 → let s167 : h_S := h_nw s162 q163 1 500
  let c168 : Nat := c159 - 1
  let d169 : Nat := d160 - 500
  h_k s167 o0 = 33 ∧ let s171 : h_S := h_sr s167 o0 26 (some q163)
  1 ≤ c168 ∧ 500 ≤ d169 ∧ ∀ q172 : Nat, h_k s171 q172 = 0 → let s176 : h_S := h_nw s171 q172 1 500
  let c177 : Nat := c168 - 1
  let d178 : Nat := d169 - 500
  h_k s176 o0 = 33 ∧ let s180 : h_S := h_sr s176 o0 27 (some q172)
  1 ≤ c177 ∧ 5 ≤ d178 ∧ ∀ q181 : Nat, h_k s180 q181 = 0 → let s185 : h_S := h_nw s180 q181 1 5
  let c186 : Nat := c177 - 1
  let d187 : Nat := d178 - 5
  h_k s185 o0 = 33 ∧ let s189 : h_S := h_sr s185 o0 28 (some q181)
  1 ≤ c186 ∧ 5 ≤ d187 ∧ ∀ q190 : Nat, h_k s189 q190 = 0 → let s194 : h_S := h_nw s189 q190 1 5
  let c195 : Nat := c186 - 1
  let d196 : Nat := d187 - 5
  h_k s194 o0 = 33 ∧ let s198 : h_S := h_sr s194 o0 29 (some q190)
  1 ≤ c195 ∧ 5 ≤ d196 ∧ ∀ q199 : Nat, h_k s198 q199 = 0 → let s203 : h_S := h_nw s198 q199 1 5
  let c204 : Nat := c195 - 1
  let d205 : Nat := d196 - 5
  h_k s203 o0 = 33 ∧ let s207 : h_S := h_sr s203 o0 30 (some q199)
  1 ≤ c204 ∧ 5 ≤ d205 ∧ ∀ q208 : Nat, h_k s207 q208 = 0 → let s212 : h_S := h_nw s207 q208 1 5
  let c213 : Nat := c204 - 1
  let d214 : Nat := d205 - 5
  h_k s212 o0 = 33 ∧ let s216 : h_S := h_sr s212 o0 31 (some q208)
  1 ≤ c213 ∧ 5 ≤ d214 ∧ ∀ q217 : Nat, h_k s216 q217 = 0 → let s221 : h_S := h_nw s216 q217 1 5
  let c222 : Nat := c213 - 1
  let d223 : Nat := d214 - 5
  h_k s221 o0 = 33 ∧ let s225 : h_S := h_sr s221 o0 32 (some q217)
  1 ≤ c222 ∧ 5 ≤ d223 ∧ ∀ q226 : Nat, h_k s225 q226 = 0 → let s230 : h_S := h_nw s225 q226 1 5
  let c231 : Nat := c222 - 1
  let d232 : Nat := d223 - 5
  h_k s230 o0 = 33 ∧ let s234 : h_S := h_sr s230 o0 33 (some q226)
  1 ≤ c231 ∧ 5 ≤ d232 ∧ ∀ q235 : Nat, h_k s234 q235 = 0 → let s239 : h_S := h_nw s234 q235 1 5
  let c240 : Nat := c231 - 1
  let d241 : Nat := d232 - 5
  h_k s239 o0 = 33 ∧ let s243 : h_S := h_sr s239 o0 34 (some q235)
  1 ≤ c240 ∧ 300 ≤ d241 ∧ ∀ q244 : Nat, h_k s243 q244 = 0 → let s248 : h_S := h_nw s243 q244 1 300
  let c249 : Nat := c240 - 1
  let d250 : Nat := d241 - 300
  h_k s248 o0 = 33 ∧ let s252 : h_S := h_sr s248 o0 36 (some q244)
  1 ≤ c249 ∧ 300 ≤ d250 ∧ ∀ q253 : Nat, h_k s252 q253 = 0 → let s257 : h_S := h_nw s252 q253 1 300
  let c258 : Nat := c249 - 1
  let d259 : Nat := d250 - 300
  h_k s257 o0 = 33 ∧ let s261 : h_S := h_sr s257 o0 37 (some q253)
  1 ≤ c258 ∧ 300 ≤ d259 ∧ ∀ q262 : Nat, h_k s261 q262 = 0 → let s266 : h_S := h_nw s261 q262 1 300
  let c267 : Nat := c258 - 1
  let d268 : Nat := d259 - 300
  h_k s266 o0 = 33 ∧ let s270 : h_S := h_sr s266 o0 38 (some q262)
  1 ≤ c267 ∧ 1500 ≤ d268 ∧ ∀ q271 : Nat, h_k s270 q271 = 0 → let s275 : h_S := h_nw s270 q271 1 1500
  let c276 : Nat := c267 - 1
  let d277 : Nat := d268 - 1500
  h_k s275 o0 = 33 ∧ let s279 : h_S := h_sr s275 o0 39 (some q271)
  1 ≤ c276 ∧ 60 ≤ d277 ∧ ∀ q280 : Nat, h_k s279 q280 = 0 → let s284 : h_S := h_nw s279 q280 1 60
  let c285 : Nat := c276 - 1
  let d286 : Nat := d277 - 60
  h_k s284 o0 = 33 ∧ let s288 : h_S := h_sr s284 o0 41 (some q280)
  1 ≤ c285 ∧ 60 ≤ d286 ∧ ∀ q289 : Nat, h_k s288 q289 = 0 → let s293 : h_S := h_nw s288 q289 1 60
  let c294 : Nat := c285 - 1
  let d295 : Nat := d286 - 60
  h_k s293 o0 = 33 ∧ let s297 : h_S := h_sr s293 o0 42 (some q289)
  1 ≤ c294 ∧ 60 ≤ d295 ∧ ∀ q298 : Nat, h_k s297 q298 = 0 → let s302 : h_S := h_nw s297 q298 1 60
  let c303 : Nat := c294 - 1
  let d304 : Nat := d295 - 60
  h_k s302 o0 = 33 ∧ let s306 : h_S := h_sr s302 o0 43 (some q298)
  1 ≤ c303 ∧ 60 ≤ d304 ∧ ∀ q307 : Nat, h_k s306 q307 = 0 → let s311 : h_S := h_nw s306 q307 1 60
  let c312 : Nat := c303 - 1
  let d313 : Nat := d304 - 60
  h_k s311 o0 = 33 ∧ let s315 : h_S := h_sr s311 o0 44 (some q307)
  1 ≤ c312 ∧ 60 ≤ d313 ∧ ∀ q316 : Nat, h_k s315 q316 = 0 → let s320 : h_S := h_nw s315 q316 1 60
  let c321 : Nat := c312 - 1
  let d322 : Nat := d313 - 60
  h_k s320 o0 = 33 ∧ let s324 : h_S := h_sr s320 o0 45 (some q316)
  1 ≤ c321 ∧ 60 ≤ d322 ∧ ∀ q325 : Nat, h_k s324 q325 = 0 → let s329 : h_S := h_nw s324 q325 1 60
  let c330 : Nat := c321 - 1
  let d331 : Nat := d322 - 60
  h_k s329 o0 = 33 ∧ let s333 : h_S := h_sr s329 o0 46 (some q325)
  1 ≤ c330 ∧ 60 ≤ d331 ∧ ∀ q334 : Nat, h_k s333 q334 = 0 → let s338 : h_S := h_nw s333 q334 1 60
  let c339 : Nat := c330 - 1
  let d340 : Nat := d331 - 60
  h_k s338 o0 = 33 ∧ let s342 : h_S := h_sr s338 o0 47 (some q334)
  1 ≤ c339 ∧ 60 ≤ d340 ∧ ∀ q343 : Nat, h_k s342 q343 = 0 → let s347 : h_S := h_nw s342 q343 1 60
  let c348 : Nat := c339 - 1
  let d349 : Nat := d340 - 60
  h_k s347 o0 = 33 ∧ let s351 : h_S := h_sr s347 o0 49 (some q343)
  1 ≤ c348 ∧ 60 ≤ d349 ∧ ∀ q352 : Nat, h_k s351 q352 = 0 → let s356 : h_S := h_nw s351 q352 1 60
  let c357 : Nat := c348 - 1
  let d358 : Nat := d349 - 60
  h_k s356 o0 = 33 ∧ let s360 : h_S := h_sr s356 o0 50 (some q352)
  1 ≤ c357 ∧ 60 ≤ d358 ∧ ∀ q361 : Nat, h_k s360 q361 = 0 → let s365 : h_S := h_nw s360 q361 1 60
  let c366 : Nat := c357 - 1
  let d367 : Nat := d358 - 60
  h_k s365 o0 = 33 ∧ let s369 : h_S := h_sr s365 o0 51 (some q361)
  1 ≤ c366 ∧ 60 ≤ d367 ∧ ∀ q370 : Nat, h_k s369 q370 = 0 → let s374 : h_S := h_nw s369 q370 1 60
  let c375 : Nat := c366 - 1
  let d376 : Nat := d367 - 60
  h_k s374 o0 = 33 ∧ let s378 : h_S := h_sr s374 o0 52 (some q370)
  1 ≤ c375 ∧ 60 ≤ d376 ∧ ∀ q379 : Nat, h_k s378 q379 = 0 → let s383 : h_S := h_nw s378 q379 1 60
  let c384 : Nat := c375 - 1
  let d385 : Nat := d376 - 60
  h_k s383 o0 = 33 ∧ let s387 : h_S := h_sr s383 o0 53 (some q379)
  1 ≤ c384 ∧ 12 ≤ d385 ∧ ∀ q388 : Nat, h_k s387 q388 = 0 → let s392 : h_S := h_nw s387 q388 1 12
  let c393 : Nat := c384 - 1
  let d394 : Nat := d385 - 12
  h_k s392 o0 = 33 ∧ let s396 : h_S := h_sr s392 o0 54 (some q388)
  1 ≤ c393 ∧ 16 ≤ d394 ∧ ∀ q397 : Nat, h_k s396 q397 = 0 → let s401 : h_S := h_nw s396 q397 1 16
  let c402 : Nat := c393 - 1
  let d403 : Nat := d394 - 16
  h_k s401 o0 = 33 ∧ let s405 : h_S := h_sr s401 o0 56 (some q397)
  1 ≤ c402 ∧ 16 ≤ d403 ∧ ∀ q406 : Nat, h_k s405 q406 = 0 → let s410 : h_S := h_nw s405 q406 1 16
  let c411 : Nat := c402 - 1
  let d412 : Nat := d403 - 16
  h_k s410 o0 = 33 ∧ let s414 : h_S := h_sr s410 o0 57 (some q406)
  1 ≤ c411 ∧ 16 ≤ d412 ∧ ∀ q415 : Nat, h_k s414 q415 = 0 → let s419 : h_S := h_nw s414 q415 1 16
  let c420 : Nat := c411 - 1
  let d421 : Nat := d412 - 16
  h_k s419 o0 = 33 ∧ let s423 : h_S := h_sr s419 o0 58 (some q415)
  1 ≤ c420 ∧ 16 ≤ d421 ∧ ∀ q424 : Nat, h_k s423 q424 = 0 → let s428 : h_S := h_nw s423 q424 1 16
  let c429 : Nat := c420 - 1
  let d430 : Nat := d421 - 16
  h_k s428 o0 = 33 ∧ let s432 : h_S := h_sr s428 o0 59 (some q424)
  1 ≤ c429 ∧ 300 ≤ d430 ∧ ∀ q433 : Nat, h_k s432 q433 = 0 → let s437 : h_S := h_nw s432 q433 1 300
  let c438 : Nat := c429 - 1
  let d439 : Nat := d430 - 300
  h_k s437 o0 = 33 ∧ let s441 : h_S := h_sr s437 o0 62 (some q433)
  1 ≤ c438 ∧ 300 ≤ d439 ∧ ∀ q442 : Nat, h_k s441 q442 = 0 → let s446 : h_S := h_nw s441 q442 1 300
  let c447 : Nat := c438 - 1
  let d448 : Nat := d439 - 300
  h_k s446 o0 = 33 ∧ let s450 : h_S := h_sr s446 o0 63 (some q442)
  1 ≤ c447 ∧ 90601 ≤ d448 ∧ ∀ q451 : Nat, h_k s450 q451 = 0 → let s455 : h_S := h_nw s450 q451 1 90601
  let c456 : Nat := c447 - 1
  let d457 : Nat := d448 - 90601
  h_k s455 o0 = 33 ∧ let s459 : h_S := h_sr s455 o0 64 (some q451)
  1 ≤ c456 ∧ 500 ≤ d457 ∧ ∀ q460 : Nat, h_k s459 q460 = 0 → let s464 : h_S := h_nw s459 q460 1 500
  let c465 : Nat := c456 - 1
  let d466 : Nat := d457 - 500
  h_k s464 o0 = 33 ∧ let s468 : h_S := h_sr s464 o0 65 (some q460)
  1 ≤ c465 ∧ 600 ≤ d466 ∧ ∀ q469 : Nat, h_k s468 q469 = 0 → let s473 : h_S := h_nw s468 q469 1 600
  let c474 : Nat := c465 - 1
  let d475 : Nat := d466 - 600
  h_k s473 o0 = 33 ∧ let s477 : h_S := h_sr s473 o0 66 (some q469)
  1 ≤ c474 ∧ 2 ≤ d475 ∧ ∀ q478 : Nat, h_k s477 q478 = 0 → let s482 : h_S := h_nw s477 q478 1 2
  let c483 : Nat := c474 - 1
  let d484 : Nat := d475 - 2
  h_k s482 o0 = 33 ∧ let s486 : h_S := h_sr s482 o0 67 (some q478)
  1 ≤ c483 ∧ 604 ≤ d484 ∧ ∀ q487 : Nat, h_k s486 q487 = 0 → let s491 : h_S := h_nw s486 q487 1 604
  let c492 : Nat := c483 - 1
  let d493 : Nat := d484 - 604
  h_k s491 o0 = 33 ∧ let s495 : h_S := h_sr s491 o0 68 (some q487)
  1 ≤ c492 ∧ 602 ≤ d493 ∧ ∀ q496 : Nat, h_k s495 q496 = 0 → let s500 : h_S := h_nw s495 q496 2 602
  let c501 : Nat := c492 - 1
  let d502 : Nat := d493 - 602
  h_k s500 o0 = 33 ∧ let s504 : h_S := h_sr s500 o0 69 (some q496)
  1 ≤ c501 ∧ 604 ≤ d502 ∧ ∀ q505 : Nat, h_k s504 q505 = 0 → let s509 : h_S := h_nw s504 q505 1 604
  let c510 : Nat := c501 - 1
  let d511 : Nat := d502 - 604
  h_k s509 o0 = 33 ∧ let s513 : h_S := h_sr s509 o0 70 (some q505)
  1 ≤ c510 ∧ 3000 ≤ d511 ∧ ∀ q514 : Nat, h_k s513 q514 = 0 → let s518 : h_S := h_nw s513 q514 1 3000
  let c519 : Nat := c510 - 1
  let d520 : Nat := d511 - 3000
  h_k s518 o0 = 33 ∧ let s522 : h_S := h_sr s518 o0 72 (some q514)
  1 ≤ c519 ∧ 12 ≤ d520 ∧ ∀ q523 : Nat, h_k s522 q523 = 0 → let s527 : h_S := h_nw s522 q523 1 12
  let c528 : Nat := c519 - 1
  let d529 : Nat := d520 - 12
  h_k s527 o0 = 33 ∧ let s531 : h_S := h_sr s527 o0 75 (some q523)
  1 ≤ c528 ∧ 12 ≤ d529 ∧ ∀ q532 : Nat, h_k s531 q532 = 0 → let s536 : h_S := h_nw s531 q532 1 12
  let c537 : Nat := c528 - 1
  let d538 : Nat := d529 - 12
  h_k s536 o0 = 33 ∧ let s540 : h_S := h_sr s536 o0 76 (some q532)
  1 ≤ c537 ∧ 12 ≤ d538 ∧ ∀ q541 : Nat, h_k s540 q541 = 0 → let s545 : h_S := h_nw s540 q541 1 12
  let c546 : Nat := c537 - 1
  let d547 : Nat := d538 - 12
  h_k s545 o0 = 33 ∧ let s549 : h_S := h_sr s545 o0 77 (some q541)
  1 ≤ c546 ∧ 12 ≤ d547 ∧ ∀ q550 : Nat, h_k s549 q550 = 0 → let s554 : h_S := h_nw s549 q550 2 12
  let c555 : Nat := c546 - 1
  let d556 : Nat := d547 - 12
  h_k s554 o0 = 33 ∧ let s558 : h_S := h_sr s554 o0 78 (some q550)
  1 ≤ c555 ∧ 7200 ≤ d556 ∧ ∀ q559 : Nat, h_k s558 q559 = 0 → let s563 : h_S := h_nw s558 q559 1 7200
  let c564 : Nat := c555 - 1
  let d565 : Nat := d556 - 7200
  h_k s563 o0 = 33 ∧ let s567 : h_S := h_sr s563 o0 79 (some q559)
  1 ≤ c564 ∧ 24 ≤ d565 ∧ ∀ q568 : Nat, h_k s567 q568 = 0 → let s572 : h_S := h_nw s567 q568 1 24
  let c573 : Nat := c564 - 1
  let d574 : Nat := d565 - 24
  h_k s572 o0 = 33 ∧ let s576 : h_S := h_sr s572 o0 81 (some q568)
  1 ≤ c573 ∧ 24 ≤ d574 ∧ ∀ q577 : Nat, h_k s576 q577 = 0 → let s581 : h_S := h_nw s576 q577 1 24
  let c582 : Nat := c573 - 1
  let d583 : Nat := d574 - 24
  h_k s581 o0 = 33 ∧ let s585 : h_S := h_sr s581 o0 82 (some q577)
  1 ≤ c582 ∧ 24 ≤ d583 ∧ ∀ q586 : Nat, h_k s585 q586 = 0 → let s590 : h_S := h_nw s585 q586 1 24
  let c591 : Nat := c582 - 1
  let d592 : Nat := d583 - 24
  h_k s590 o0 = 33 ∧ let s594 : h_S := h_sr s590 o0 83 (some q586)
  1 ≤ c591 ∧ 24 ≤ d592 ∧ ∀ q595 : Nat, h_k s594 q595 = 0 → let s599 : h_S := h_nw s594 q595 1 24
  let c600 : Nat := c591 - 1
  let d601 : Nat := d592 - 24
  h_k s599 o0 = 33 ∧ let s603 : h_S := h_sr s599 o0 84 (some q595)
  1 ≤ c600 ∧ 24 ≤ d601 ∧ ∀ q604 : Nat, h_k s603 q604 = 0 → let s608 : h_S := h_nw s603 q604 1 24
  let c609 : Nat := c600 - 1
  let d610 : Nat := d601 - 24
  h_k s608 o0 = 33 ∧ let s612 : h_S := h_sr s608 o0 85 (some q604)
  1 ≤ c609 ∧ 24 ≤ d610 ∧ ∀ q613 : Nat, h_k s612 q613 = 0 → let s617 : h_S := h_nw s612 q613 1 24
  let c618 : Nat := c609 - 1
  let d619 : Nat := d610 - 24
  h_k s617 o0 = 33 ∧ let s621 : h_S := h_sr s617 o0 86 (some q613)
  1 ≤ c618 ∧ 20 ≤ d619 ∧ ∀ q622 : Nat, h_k s621 q622 = 0 → let s626 : h_S := h_nw s621 q622 1 20
  let c627 : Nat := c618 - 1
  let d628 : Nat := d619 - 20
  h_k s626 o0 = 33 ∧ let s630 : h_S := h_sr s626 o0 90 (some q622)
  1 ≤ c627 ∧ 20 ≤ d628 ∧ ∀ q631 : Nat, h_k s630 q631 = 0 → let s635 : h_S := h_nw s630 q631 1 20
  let c636 : Nat := c627 - 1
  let d637 : Nat := d628 - 20
  h_k s635 o0 = 33 ∧ let s639 : h_S := h_sr s635 o0 91 (some q631)
  1 ≤ c636 ∧ 20 ≤ d637 ∧ ∀ q640 : Nat, h_k s639 q640 = 0 → let s644 : h_S := h_nw s639 q640 1 20
  let c645 : Nat := c636 - 1
  let d646 : Nat := d637 - 20
  h_k s644 o0 = 33 ∧ let s648 : h_S := h_sr s644 o0 92 (some q640)
  1 ≤ c645 ∧ 20 ≤ d646 ∧ ∀ q649 : Nat, h_k s648 q649 = 0 → let s653 : h_S := h_nw s648 q649 1 20
  let c654 : Nat := c645 - 1
  let d655 : Nat := d646 - 20
  h_k s653 o0 = 33 ∧ let s657 : h_S := h_sr s653 o0 93 (some q649)
  1 ≤ c654 ∧ 20 ≤ d655 ∧ ∀ q658 : Nat, h_k s657 q658 = 0 → let s662 : h_S := h_nw s657 q658 1 20
  let c663 : Nat := c654 - 1
  let d664 : Nat := d655 - 20
  h_k s662 o0 = 33 ∧ let s666 : h_S := h_sr s662 o0 94 (some q658)
  1 ≤ c663 ∧ 20 ≤ d664 ∧ ∀ q667 : Nat, h_k s666 q667 = 0 → let s671 : h_S := h_nw s666 q667 1 20
  let c672 : Nat := c663 - 1
  let d673 : Nat := d664 - 20
  h_k s671 o0 = 33 ∧ let s675 : h_S := h_sr s671 o0 95 (some q667)
  1 ≤ c672 ∧ 20 ≤ d673 ∧ ∀ q676 : Nat, h_k s675 q676 = 0 → let s680 : h_S := h_nw s675 q676 1 20
  let c681 : Nat := c672 - 1
  let d682 : Nat := d673 - 20
  h_k s680 o0 = 33 ∧ let s684 : h_S := h_sr s680 o0 96 (some q676)
  1 ≤ c681 ∧ 20 ≤ d682 ∧ ∀ q685 : Nat, h_k s684 q685 = 0 → let s689 : h_S := h_nw s684 q685 1 20
  let c690 : Nat := c681 - 1
  let d691 : Nat := d682 - 20
  h_k s689 o0 = 33 ∧ let s693 : h_S := h_sr s689 o0 97 (some q685)
  1 ≤ c690 ∧ 64 ≤ d691 ∧ ∀ q694 : Nat, h_k s693 q694 = 0 → let s698 : h_S := h_nw s693 q694 1 64
  let c699 : Nat := c690 - 1
  let d700 : Nat := d691 - 64
  h_k s698 o0 = 33 ∧ let s702 : h_S := h_sr s698 o0 104 (some q694)
  1 ≤ c699 ∧ 200 ≤ d700 ∧ ∀ q703 : Nat, h_k s702 q703 = 0 → let s707 : h_S := h_nw s702 q703 1 200
  let c708 : Nat := c699 - 1
  let d709 : Nat := d700 - 200
  h_k s707 o0 = 33 ∧ let s711 : h_S := h_sr s707 o0 106 (some q703)
  1 ≤ c708 ∧ 200 ≤ d709 ∧ ∀ q712 : Nat, h_k s711 q712 = 0 → let s716 : h_S := h_nw s711 q712 1 200
  let c717 : Nat := c708 - 1
  let d718 : Nat := d709 - 200
  h_k s716 o0 = 33 ∧ let s720 : h_S := h_sr s716 o0 107 (some q712)
  1 ≤ c717 ∧ 200 ≤ d718 ∧ ∀ q721 : Nat, h_k s720 q721 = 0 → let s725 : h_S := h_nw s720 q721 1 200
  let c726 : Nat := c717 - 1
  let d727 : Nat := d718 - 200
  h_k s725 o0 = 33 ∧ let s729 : h_S := h_sr s725 o0 108 (some q721)
  1 ≤ c726 ∧ 1024 ≤ d727 ∧ ∀ q730 : Nat, h_k s729 q730 = 0 → let s734 : h_S := h_nw s729 q730 1 1024
  let c735 : Nat := c726 - 1
  let d736 : Nat := d727 - 1024
  h_k s734 o0 = 33 ∧ let s738 : h_S := h_sr s734 o0 109 (some q730)
  1 ≤ c735 ∧ 4 ≤ d736 ∧ ∀ q739 : Nat, h_k s738 q739 = 0 → let s743 : h_S := h_nw s738 q739 1 4
  let c744 : Nat := c735 - 1
  let d745 : Nat := d736 - 4
  h_k s743 o0 = 33 ∧ let s747 : h_S := h_sr s743 o0 110 (some q739)
  1 ≤ c744 ∧ 4 ≤ d745 ∧ ∀ q748 : Nat, h_k s747 q748 = 0 → let s752 : h_S := h_nw s747 q748 1 4
  let c753 : Nat := c744 - 1
  let d754 : Nat := d745 - 4
  h_k s752 o0 = 33 ∧ let s756 : h_S := h_sr s752 o0 111 (some q748)
  1 ≤ c753 ∧ 240 ≤ d754 ∧ ∀ q757 : Nat, h_k s756 q757 = 0 → let s761 : h_S := h_nw s756 q757 1 240
  let c762 : Nat := c753 - 1
  let d763 : Nat := d754 - 240
  h_k s761 o0 = 33 ∧ let s765 : h_S := h_sr s761 o0 112 (some q757)
  1 ≤ c762 ∧ 60 ≤ d763 ∧ ∀ q766 : Nat, h_k s765 q766 = 0 → let s770 : h_S := h_nw s765 q766 1 60
  let c771 : Nat := c762 - 1
  let d772 : Nat := d763 - 60
  h_k s770 o0 = 33 ∧ let s774 : h_S := h_sr s770 o0 113 (some q766)
  let s775 : h_S := h_si s774 o0 102 (10 : Int32)
  let s776 : h_S := h_si s775 o0 103 (3 : Int32)
  ∃ n, w_X12_init_731 Q n o0 (0 : Int32) s776 c771 d772
def w_X12_in_18 (Q : Int32 → h_S → Prop) (y0 : Int32) (s : h_S) : Prop :=
  h_bt y0 ∧ Q y0 s
def w_X12_in_17 (Q : Int32 → h_S → Prop) (s : h_S) : Prop :=
  w_X12_in_18 Q (0 : Int32) s
def w_X12_in (l0 : Int64) (l2 : Int64) (l4 : Int64) (s : h_S) (Q : Int32 → h_S → Prop) : Prop :=
  if (lg_cmp l0 l2) < 0 then
    w_X12_in_17 Q s
  else
    if 0 < (lg_cmp l0 l4) then
      w_X12_in_17 Q s
    else
      w_X12_in_18 Q (1 : Int32) s
def w_X12_lost (s : h_S) (Q : Int64 → h_S → Prop) : Prop :=
  Q (-9223372036854775808 : Int64) s
def w_X12_hasBit_14 (Q : Int32 → h_S → Prop) (y0 : Int32) (s : h_S) : Prop :=
  h_bt y0 ∧ Q y0 s
def w_X12_hasBit (x0 : Int32) (x1 : Int32) (s : h_S) (Q : Int32 → h_S → Prop) : Prop :=
  if ((x0 >>> (x1 &&& 31)) &&& (1 : Int32)) = (1 : Int32) then
    w_X12_hasBit_14 Q (1 : Int32) s
  else
    w_X12_hasBit_14 Q (0 : Int32) s
def w_X12_mix (x0 : Int32) (x1 : Int32) (s : h_S) (Q : Int32 → h_S → Prop) : Prop :=
  let v1 : Int32 := ((x0 * (-1640531535 : Int32)) + x1)
  let v2 : Int32 := ((v1 ^^^ (h_ushr v1 (15 : Int32))) * (-2048144789 : Int32))
  Q (v2 ^^^ (h_ushr v2 (13 : Int32))) s
def w_X12_refused (o0 : Nat) (x1 : Int32) (s : h_S) (Q : Int32 → h_S → Prop) : Prop :=
  h_k s o0 = 33 ∧ let s2 : h_S := h_si s o0 0 (0 : Int32)
  Q x1 s2
def w_X12_failed (o0 : Nat) (x1 : Int32) (s : h_S) (Q : Int32 → h_S → Prop) : Prop :=
  h_k s o0 = 33 ∧ let s2 : h_S := h_si s o0 0 x1
  Q ((-10 : Int32) - x1) s2
def w_X12_failedLong (o0 : Nat) (x1 : Int32) (s : h_S) (Q : Int64 → h_S → Prop) : Prop :=
  h_k s o0 = 33 ∧ let s2 : h_S := h_si s o0 0 x1
  w_X12_lost s2 (fun p4 s3 =>
    Q p4 s3)
def w_X12_acted (o0 : Nat) (x1 : Int32) (s : h_S) (Q : Int32 → h_S → Prop) : Prop :=
  h_k s o0 = 33 ∧ let s2 : h_S := h_si s o0 1 ((h_i s o0 1) + (1 : Int32))
  ∃ a3, (h_r s2 o0 2) = some a3 ∧ h_k s2 a3 = 1 ∧ vp_in ((h_i s2 o0 1) - (1 : Int32)) (h_n s2 a3) ∧ w_X12_mix (h_i s2 a3 (h_ix ((h_i s2 o0 1) - (1 : Int32)))) x1 s2 (fun p7 s6 =>
    ∃ a8, (h_r s2 o0 2) = some a8 ∧ h_k s6 a8 = 1 ∧ vp_in (h_i s2 o0 1) (h_n s6 a8) ∧ let s11 : h_S := h_si s6 a8 (h_ix (h_i s2 o0 1)) p7
    Q x1 s11)
def w_X12_noHand_21 (Q : Int32 → h_S → Prop) (y0 : Int32) (s : h_S) : Prop :=
  h_bt y0 ∧ Q y0 s
def w_X12_noHand (o0 : Nat) (x1 : Int32) (s : h_S) (Q : Int32 → h_S → Prop) : Prop :=
  h_k s o0 = 33 ∧ w_X12_in ((x1).toInt64) (0 : Int64) ((((h_i s o0 3)).toInt64) - (1 : Int64)) s (fun p3 s2 =>
    if p3 = 0 then
      w_X12_noHand_21 Q (1 : Int32) s2
    else
      w_X12_noHand_21 Q (0 : Int32) s2)
def w_X12_noMoment_19 (Q : Int32 → h_S → Prop) (y0 : Int32) (s : h_S) : Prop :=
  h_bt y0 ∧ Q y0 s
def w_X12_noMoment (o0 : Nat) (x1 : Int32) (s : h_S) (Q : Int32 → h_S → Prop) : Prop :=
  h_k s o0 = 33 ∧ w_X12_in ((x1).toInt64) (0 : Int64) (((h_i s o0 1)).toInt64) s (fun p3 s2 =>
    if p3 = 0 then
      w_X12_noMoment_19 Q (1 : Int32) s2
    else
      w_X12_noMoment_19 Q (0 : Int32) s2)
def w_X12_hand (o0 : Nat) (s : h_S) (Q : Int32 → h_S → Prop) : Prop :=
  h_k s o0 = 33 ∧ (if (h_i s o0 3) = (8 : Int32) then
    Q (-4 : Int32) s
  else
    let s3 : h_S := h_si s o0 3 ((h_i s o0 3) + (1 : Int32))
    w_X12_acted o0 ((h_i s3 o0 3) - (1 : Int32)) s3 (fun p5 s4 =>
      Q p5 s4))
def w_X12_groupAt_38 (Q : Int32 → h_S → Prop) (K7 : Nat → Int32 → Int32 → Int32 → h_S → Prop) (o0 : Nat) (x1 : Int32) (x2 : Int32) (x3 : Int32) (s : h_S) : Prop :=
  K7 o0 x1 x2 (x3 + (-1 : Int32)) s
def w_X12_groupAt_7b (Q : Int32 → h_S → Prop) (K7 : Nat → Int32 → Int32 → Int32 → h_S → Prop) (o0 : Nat) (x1 : Int32) (x2 : Int32) (x3 : Int32) (s : h_S) : Prop :=
  if x3 < 0 then
    Q (0 : Int32) s
  else
    h_k s o0 = 33 ∧ ∃ a3, (h_r s o0 5) = some a3 ∧ h_k s a3 = 1 ∧ vp_in x3 (h_n s a3) ∧ (if (h_i s a3 (h_ix x3)) = x1 then
      ∃ a7, (h_r s o0 7) = some a7 ∧ h_k s a7 = 1 ∧ vp_in x3 (h_n s a7) ∧ (if x2 < (h_i s a7 (h_ix x3)) then
        w_X12_groupAt_38 Q K7 o0 x1 x2 x3 s
      else
        ∃ a11, (h_r s o0 6) = some a11 ∧ h_k s a11 = 1 ∧ vp_in x3 (h_n s a11) ∧ Q (h_i s a11 (h_ix x3)) s)
    else
      w_X12_groupAt_38 Q K7 o0 x1 x2 x3 s)
def w_X12_groupAt_7 (Q : Int32 → h_S → Prop) : Nat → Nat → Int32 → Int32 → Int32 → h_S → Prop
  | 0, _, _, _, _, _ => False
  | n + 1, o0, x1, x2, x3, s => w_X12_groupAt_7b Q (w_X12_groupAt_7 Q n) o0 x1 x2 x3 s
def w_X12_groupAt (o0 : Nat) (x1 : Int32) (x2 : Int32) (s : h_S) (Q : Int32 → h_S → Prop) : Prop :=
  h_k s o0 = 33 ∧ ∃ n, w_X12_groupAt_7 Q n o0 x1 x2 ((h_i s o0 4) - (1 : Int32)) s
def w_X12_group (o0 : Nat) (x1 : Int32) (x2 : Int32) (s : h_S) (Q : Int32 → h_S → Prop) : Prop :=
  w_X12_in ((x1).toInt64) (0 : Int64) (3 : Int64) s (fun p2 s1 =>
    if p2 = 0 then
      Q (-1 : Int32) s1
    else
      h_k s1 o0 = 33 ∧ w_X12_in ((x2).toInt64) (0 : Int64) ((h_lshl (1 : Int64) (h_i s1 o0 3)) - (1 : Int64)) s1 (fun p6 s5 =>
        if p6 = 0 then
          Q (-2 : Int32) s5
        else
          h_k s5 o0 = 33 ∧ w_X12_groupAt o0 x1 (h_i s5 o0 1) s5 (fun p10 s9 =>
            h_k s9 o0 = 33 ∧ ∃ a12, (h_r s9 o0 5) = some a12 ∧ h_k s9 a12 = 1 ∧ vp_in (h_i s9 o0 4) (h_n s9 a12) ∧ let s15 : h_S := h_si s9 a12 (h_ix (h_i s9 o0 4)) x1
            ∃ a16, (h_r s15 o0 6) = some a16 ∧ h_k s15 a16 = 1 ∧ vp_in (h_i s15 o0 4) (h_n s15 a16) ∧ let s19 : h_S := h_si s15 a16 (h_ix (h_i s15 o0 4)) x2
            ∃ a20, (h_r s19 o0 7) = some a20 ∧ h_k s19 a20 = 1 ∧ vp_in (h_i s19 o0 4) (h_n s19 a20) ∧ let s23 : h_S := h_si s19 a20 (h_ix (h_i s19 o0 4)) ((h_i s19 o0 1) + (1 : Int32))
            let s24 : h_S := h_si s23 o0 4 ((h_i s23 o0 4) + (1 : Int32))
            w_X12_acted o0 p10 s24 (fun p26 s25 =>
              Q p26 s25))))
def w_X12_noWriting_21 (Q : Int32 → h_S → Prop) (y0 : Int32) (s : h_S) : Prop :=
  h_bt y0 ∧ Q y0 s
def w_X12_noWriting (o0 : Nat) (x1 : Int32) (s : h_S) (Q : Int32 → h_S → Prop) : Prop :=
  h_k s o0 = 33 ∧ w_X12_in ((x1).toInt64) (0 : Int64) ((((h_i s o0 8)).toInt64) - (1 : Int64)) s (fun p3 s2 =>
    if p3 = 0 then
      w_X12_noWriting_21 Q (1 : Int32) s2
    else
      w_X12_noWriting_21 Q (0 : Int32) s2)
def w_X12_logOf_31 (Q : Int32 → h_S → Prop) (x3 : Int32) (s : h_S) : Prop :=
  Q x3 s
def w_X12_logOf_7b (Q : Int32 → h_S → Prop) (K7 : Nat → Int32 → Int32 → h_S → Prop) (o0 : Nat) (x2 : Int32) (x3 : Int32) (s : h_S) : Prop :=
  if x3 < 0 then
    w_X12_logOf_31 Q x3 s
  else
    h_k s o0 = 33 ∧ ∃ a3, (h_r s o0 13) = some a3 ∧ h_k s a3 = 1 ∧ vp_in x3 (h_n s a3) ∧ (if (h_i s a3 (h_ix x3)) ≤ x2 then
      w_X12_logOf_31 Q x3 s
    else
      ∃ a7, (h_r s o0 12) = some a7 ∧ h_k s a7 = 1 ∧ vp_in x3 (h_n s a7) ∧ K7 o0 x2 (h_i s a7 (h_ix x3)) s)
def w_X12_logOf_7 (Q : Int32 → h_S → Prop) : Nat → Nat → Int32 → Int32 → h_S → Prop
  | 0, _, _, _, _ => False
  | n + 1, o0, x2, x3, s => w_X12_logOf_7b Q (w_X12_logOf_7 Q n) o0 x2 x3 s
def w_X12_logOf (o0 : Nat) (x1 : Int32) (x2 : Int32) (s : h_S) (Q : Int32 → h_S → Prop) : Prop :=
  h_k s o0 = 33 ∧ ∃ a2, (h_r s o0 11) = some a2 ∧ h_k s a2 = 1 ∧ vp_in x1 (h_n s a2) ∧ ∃ n, w_X12_logOf_7 Q n o0 x2 (h_i s a2 (h_ix x1)) s
def w_X12_writing (o0 : Nat) (x1 : Int32) (s : h_S) (Q : Int32 → h_S → Prop) : Prop :=
  h_k s o0 = 33 ∧ w_X12_noHand o0 x1 s (fun p3 s2 =>
    if p3 = 0 then
      h_k s2 o0 = 33 ∧ (if (h_i s2 o0 8) = (12 : Int32) then
        Q (-4 : Int32) s2
      else
        ∃ a7, (h_r s2 o0 9) = some a7 ∧ h_k s2 a7 = 1 ∧ vp_in (h_i s2 o0 8) (h_n s2 a7) ∧ let s10 : h_S := h_si s2 a7 (h_ix (h_i s2 o0 8)) x1
        let s11 : h_S := h_si s10 o0 8 ((h_i s10 o0 8) + (1 : Int32))
        w_X12_acted o0 ((h_i s11 o0 8) - (1 : Int32)) s11 (fun p13 s12 =>
          Q p13 s12))
    else
      Q (-1 : Int32) s2)
def w_X12_noWord_21 (Q : Int32 → h_S → Prop) (y0 : Int32) (s : h_S) : Prop :=
  h_bt y0 ∧ Q y0 s
def w_X12_noWord (o0 : Nat) (x1 : Int32) (s : h_S) (Q : Int32 → h_S → Prop) : Prop :=
  h_k s o0 = 33 ∧ w_X12_in ((x1).toInt64) (0 : Int64) ((((h_i s o0 22)).toInt64) - (1 : Int64)) s (fun p3 s2 =>
    if p3 = 0 then
      w_X12_noWord_21 Q (1 : Int32) s2
    else
      w_X12_noWord_21 Q (0 : Int32) s2)
def w_X12_enter_68 (Q : h_S → Prop) (o0 : Nat) (x1 : Int32) (y0 : Int32) (y1 : Int32) (t2 : Option Nat) (s : h_S) : Prop :=
  ∃ a1, t2 = some a1 ∧ h_k s a1 = 1 ∧ vp_in y1 (h_n s a1) ∧ let s4 : h_S := h_si s a1 (h_ix y1) y0
  h_k s4 o0 = 33 ∧ ∃ a6, (h_r s4 o0 34) = some a6 ∧ h_k s4 a6 = 1 ∧ vp_in x1 (h_n s4 a6) ∧ let s9 : h_S := h_si s4 a6 (h_ix x1) (0 : Int32)
  Q s9
def w_X12_enter (o0 : Nat) (x1 : Int32) (x2 : Int32) (x3 : Int32) (x4 : Int32) (x5 : Int32) (s : h_S) (Q : h_S → Prop) : Prop :=
  h_k s o0 = 33 ∧ ∃ a2, (h_r s o0 31) = some a2 ∧ h_k s a2 = 1 ∧ vp_in x1 (h_n s a2) ∧ let s5 : h_S := h_si s a2 (h_ix x1) x2
  ∃ a6, (h_r s5 o0 30) = some a6 ∧ h_k s5 a6 = 1 ∧ vp_in x1 (h_n s5 a6) ∧ let s9 : h_S := h_si s5 a6 (h_ix x1) x3
  w_X12_logOf o0 x2 x3 s9 (fun p11 s10 =>
    ∃ a12, (h_r s9 o0 28) = some a12 ∧ h_k s10 a12 = 1 ∧ vp_in x1 (h_n s10 a12) ∧ let s15 : h_S := h_si s10 a12 (h_ix x1) p11
    h_k s15 o0 = 33 ∧ ∃ a17, (h_r s15 o0 29) = some a17 ∧ h_k s15 a17 = 1 ∧ vp_in x1 (h_n s15 a17) ∧ let s20 : h_S := h_si s15 a17 (h_ix x1) (0 : Int32)
    ∃ a21, (h_r s20 o0 32) = some a21 ∧ h_k s20 a21 = 1 ∧ vp_in x1 (h_n s20 a21) ∧ let s24 : h_S := h_si s20 a21 (h_ix x1) x4
    (if (300 : Int32) ≤ (x4 + x5) then
      w_X12_enter_68 Q o0 x1 (300 : Int32) x1 (h_r s24 o0 33) s24
    else
      w_X12_enter_68 Q o0 x1 (x4 + x5) x1 (h_r s24 o0 33) s24))
def w_X12_isDone_33 (Q : Int32 → h_S → Prop) (K4 : Nat → Int32 → Int32 → Int32 → h_S → Prop) (o0 : Nat) (x1 : Int32) (x3 : Int32) (y0 : Int32) (s : h_S) : Prop :=
  K4 o0 x1 y0 (x3 + (1 : Int32)) s
def w_X12_isDone_28 (Q : Int32 → h_S → Prop) (K4 : Nat → Int32 → Int32 → Int32 → h_S → Prop) (o0 : Nat) (x1 : Int32) (x3 : Int32) (s : h_S) : Prop :=
  w_X12_isDone_33 Q K4 o0 x1 x3 (1 : Int32) s
def w_X12_isDone_4b (Q : Int32 → h_S → Prop) (K4 : Nat → Int32 → Int32 → Int32 → h_S → Prop) (o0 : Nat) (x1 : Int32) (x2 : Int32) (x3 : Int32) (s : h_S) : Prop :=
  if x1 < x3 then
    h_bt x2 ∧ Q x2 s
  else
    if x2 = 0 then
      h_k s o0 = 33 ∧ ∃ a4, (h_r s o0 34) = some a4 ∧ h_k s a4 = 1 ∧ vp_in x3 (h_n s a4) ∧ ∃ a7, (h_r s o0 33) = some a7 ∧ h_k s a7 = 1 ∧ vp_in x3 (h_n s a7) ∧ (if (h_i s a4 (h_ix x3)) < (h_i s a7 (h_ix x3)) then
        w_X12_isDone_33 Q K4 o0 x1 x3 (0 : Int32) s
      else
        w_X12_isDone_28 Q K4 o0 x1 x3 s)
    else
      w_X12_isDone_28 Q K4 o0 x1 x3 s
def w_X12_isDone_4 (Q : Int32 → h_S → Prop) : Nat → Nat → Int32 → Int32 → Int32 → h_S → Prop
  | 0, _, _, _, _, _ => False
  | n + 1, o0, x1, x2, x3, s => w_X12_isDone_4b Q (w_X12_isDone_4 Q n) o0 x1 x2 x3 s
def w_X12_isDone (o0 : Nat) (x1 : Int32) (s : h_S) (Q : Int32 → h_S → Prop) : Prop :=
  ∃ n, w_X12_isDone_4 Q n o0 x1 (0 : Int32) (0 : Int32) s
def w_X12_show_155 (Q : h_S → Prop) (K5 : Nat → Int32 → Int32 → Int32 → Int32 → h_S → Prop) (o0 : Nat) (x1 : Int32) (x2 : Int32) (x3 : Int32) (y0 : Int32) (s : h_S) : Prop :=
  K5 o0 x1 x2 (x3 + (-1 : Int32)) y0 s
def w_X12_show_154 (Q : h_S → Prop) (K5 : Nat → Int32 → Int32 → Int32 → Int32 → h_S → Prop) (o0 : Nat) (x1 : Int32) (x2 : Int32) (x3 : Int32) (s : h_S) : Prop :=
  w_X12_show_155 Q K5 o0 x1 x2 x3 (0 : Int32) s
def w_X12_show_134 (Q : h_S → Prop) (K5 : Nat → Int32 → Int32 → Int32 → Int32 → h_S → Prop) (o0 : Nat) (x1 : Int32) (x2 : Int32) (x3 : Int32) (x4 : Int32) (x5 : Int32) (s : h_S) : Prop :=
  if x4 = 0 then
    w_X12_show_154 Q K5 o0 x1 x2 x3 s
  else
    h_k s o0 = 33 ∧ ∃ a3, (h_r s o0 32) = some a3 ∧ h_k s a3 = 1 ∧ vp_in x3 (h_n s a3) ∧ (if x5 < (h_i s a3 (h_ix x3)) then
      w_X12_show_154 Q K5 o0 x1 x2 x3 s
    else
      w_X12_show_155 Q K5 o0 x1 x2 x3 (1 : Int32) s)
def w_X12_show_131 (Q : h_S → Prop) (K5 : Nat → Int32 → Int32 → Int32 → Int32 → h_S → Prop) (o0 : Nat) (x1 : Int32) (x2 : Int32) (x3 : Int32) (x5 : Int32) (s : h_S) : Prop :=
  w_X12_show_134 Q K5 o0 x1 x2 x3 (0 : Int32) x5 s
def w_X12_show_100b (Q : h_S → Prop) (K5 : Nat → Int32 → Int32 → Int32 → Int32 → h_S → Prop) (K100 : Nat → Int32 → Int32 → Int32 → Int32 → Int32 → h_S → Prop) (o0 : Nat) (x1 : Int32) (x2 : Int32) (x3 : Int32) (x5 : Int32) (x6 : Int32) (s : h_S) : Prop :=
  if x2 < x6 then
    w_X12_show_131 Q K5 o0 x1 x2 x3 x5 s
  else
    h_k s o0 = 33 ∧ ∃ a3, (h_r s o0 31) = some a3 ∧ h_k s a3 = 1 ∧ vp_in x6 (h_n s a3) ∧ ∃ a6, (h_r s o0 39) = some a6 ∧ h_k s a6 = 1 ∧ vp_in (((5 : Int32) * x5) + x6) (h_n s a6) ∧ let s9 : h_S := h_si s a6 (h_ix (((5 : Int32) * x5) + x6)) (h_i s a3 (h_ix x6))
    K100 o0 x1 x2 x3 x5 (x6 + (1 : Int32)) s9
def w_X12_show_100 (Q : h_S → Prop) (K5 : Nat → Int32 → Int32 → Int32 → Int32 → h_S → Prop) : Nat → Nat → Int32 → Int32 → Int32 → Int32 → Int32 → h_S → Prop
  | 0, _, _, _, _, _, _, _ => False
  | n + 1, o0, x1, x2, x3, x5, x6, s => w_X12_show_100b Q K5 (w_X12_show_100 Q K5 n) o0 x1 x2 x3 x5 x6 s
def w_X12_show_53 (Q : h_S → Prop) (K5 : Nat → Int32 → Int32 → Int32 → Int32 → h_S → Prop) (o0 : Nat) (x1 : Int32) (x2 : Int32) (x3 : Int32) (x4 : Int32) (x5 : Int32) (y0 : Int32) (y1 : Int32) (y2 : Int32) (t3 : Option Nat) (s : h_S) : Prop :=
  ∃ a1, t3 = some a1 ∧ h_k s a1 = 1 ∧ vp_in y2 (h_n s a1) ∧ let s4 : h_S := h_si s a1 (h_ix y2) (y1 + y0)
  (if x3 = 0 then
    if x4 = 0 then
      w_X12_show_131 Q K5 o0 x1 x2 x3 x5 s4
    else
      h_k s4 o0 = 33 ∧ ∃ a8, (h_r s4 o0 36) = some a8 ∧ h_k s4 a8 = 1 ∧ vp_in x5 (h_n s4 a8) ∧ let s11 : h_S := h_si s4 a8 (h_ix x5) x1
      ∃ a12, (h_r s11 o0 29) = some a12 ∧ h_k s11 a12 = 1 ∧ vp_in (0 : Int32) (h_n s11 a12) ∧ ∃ a15, (h_r s11 o0 37) = some a15 ∧ h_k s11 a15 = 1 ∧ vp_in x5 (h_n s11 a15) ∧ let s18 : h_S := h_si s11 a15 (h_ix x5) ((h_i s11 a12 (h_ix (0 : Int32))) - (1 : Int32))
      ∃ a19, (h_r s18 o0 38) = some a19 ∧ h_k s18 a19 = 1 ∧ vp_in x5 (h_n s18 a19) ∧ let s22 : h_S := h_si s18 a19 (h_ix x5) (x2 + (1 : Int32))
      ∃ n, w_X12_show_100 Q K5 n o0 x1 x2 x3 x5 (0 : Int32) s22
  else
    w_X12_show_134 Q K5 o0 x1 x2 x3 x4 x5 s4)
def w_X12_show_34 (Q : h_S → Prop) (K5 : Nat → Int32 → Int32 → Int32 → Int32 → h_S → Prop) (o0 : Nat) (x1 : Int32) (x2 : Int32) (x3 : Int32) (x5 : Int32) (y0 : Int32) (s : h_S) : Prop :=
  h_k s o0 = 33 ∧ ∃ a2, (h_r s o0 34) = some a2 ∧ h_k s a2 = 1 ∧ vp_in x3 (h_n s a2) ∧ (if y0 = 0 then
    w_X12_show_53 Q K5 o0 x1 x2 x3 y0 x5 (0 : Int32) (h_i s a2 (h_ix x3)) x3 (h_r s o0 34) s
  else
    w_X12_show_53 Q K5 o0 x1 x2 x3 y0 x5 (1 : Int32) (h_i s a2 (h_ix x3)) x3 (h_r s o0 34) s)
def w_X12_show_5b (Q : h_S → Prop) (K5 : Nat → Int32 → Int32 → Int32 → Int32 → h_S → Prop) (o0 : Nat) (x1 : Int32) (x2 : Int32) (x3 : Int32) (x4 : Int32) (s : h_S) : Prop :=
  if x4 = 0 then
    Q s
  else
    h_k s o0 = 33 ∧ ∃ a3, (h_r s o0 34) = some a3 ∧ h_k s a3 = 1 ∧ vp_in x3 (h_n s a3) ∧ ∃ a6, (h_r s o0 33) = some a6 ∧ h_k s a6 = 1 ∧ vp_in x3 (h_n s a6) ∧ (if (h_i s a6 (h_ix x3)) ≤ (h_i s a3 (h_ix x3)) then
      w_X12_show_34 Q K5 o0 x1 x2 x3 (h_i s a3 (h_ix x3)) (0 : Int32) s
    else
      w_X12_show_34 Q K5 o0 x1 x2 x3 (h_i s a3 (h_ix x3)) (1 : Int32) s)
def w_X12_show_5 (Q : h_S → Prop) : Nat → Nat → Int32 → Int32 → Int32 → Int32 → h_S → Prop
  | 0, _, _, _, _, _, _ => False
  | n + 1, o0, x1, x2, x3, x4, s => w_X12_show_5b Q (w_X12_show_5 Q n) o0 x1 x2 x3 x4 s
def w_X12_show (o0 : Nat) (x1 : Int32) (x2 : Int32) (s : h_S) (Q : h_S → Prop) : Prop :=
  ∃ n, w_X12_show_5 Q n o0 x1 x2 x2 (1 : Int32) s
def w_X12_layLog_237 (Q : h_S → Prop) (K21 : Nat → Int32 → h_S → Prop) (o0 : Nat) (x4 : Int32) (s : h_S) : Prop :=
  K21 o0 x4 s
def w_X12_layLog_66 (Q : h_S → Prop) (K21 : Nat → Int32 → h_S → Prop) (o0 : Nat) (x4 : Int32) (s : h_S) : Prop :=
  w_X12_layLog_237 Q K21 o0 (x4 + (-1 : Int32)) s
def w_X12_layLog_157 (Q : h_S → Prop) (K21 : Nat → Int32 → h_S → Prop) (o0 : Nat) (x4 : Int32) (s : h_S) : Prop :=
  w_X12_layLog_237 Q K21 o0 x4 s
def w_X12_layLog_114b (Q : h_S → Prop) (K21 : Nat → Int32 → h_S → Prop) (K114 : Nat → Int32 → Int32 → Int32 → h_S → Prop) (o0 : Nat) (x4 : Int32) (x6 : Int32) (x7 : Int32) (s : h_S) : Prop :=
  h_k s o0 = 33 ∧ ∃ a2, (h_r s o0 19) = some a2 ∧ h_k s a2 = 1 ∧ vp_in x6 (h_n s a2) ∧ (if (h_i s a2 (h_ix x6)) ≤ x7 then
    w_X12_layLog_157 Q K21 o0 x4 s
  else
    w_X12_isDone o0 x4 s (fun p7 s6 =>
      if p7 = 0 then
        h_k s6 o0 = 33 ∧ ∃ a10, (h_r s6 o0 18) = some a10 ∧ h_k s6 a10 = 1 ∧ vp_in x6 (h_n s6 a10) ∧ w_X12_show o0 ((h_i s6 a10 (h_ix x6)) + x7) x4 s6 (fun s13 =>
          K114 o0 x4 x6 (x7 + (1 : Int32)) s13)
      else
        w_X12_layLog_157 Q K21 o0 x4 s6))
def w_X12_layLog_114 (Q : h_S → Prop) (K21 : Nat → Int32 → h_S → Prop) : Nat → Nat → Int32 → Int32 → Int32 → h_S → Prop
  | 0, _, _, _, _, _ => False
  | n + 1, o0, x4, x6, x7, s => w_X12_layLog_114b Q K21 (w_X12_layLog_114 Q K21 n) o0 x4 x6 x7 s
def w_X12_layLog_217 (Q : h_S → Prop) (K21 : Nat → Int32 → h_S → Prop) (o0 : Nat) (x4 : Int32) (x6 : Int32) (y0 : Int32) (y1 : Int32) (y2 : Int32) (u3 : Nat) (s : h_S) : Prop :=
  h_k s o0 = 33 ∧ ∃ a2, (h_r s o0 18) = some a2 ∧ h_k s a2 = 1 ∧ vp_in x6 (h_n s a2) ∧ ∃ a5, (h_r s o0 19) = some a5 ∧ h_k s a5 = 1 ∧ vp_in x6 (h_n s a5) ∧ h_k s u3 = 33 ∧ w_X12_enter u3 y2 y1 y0 (h_i s a2 (h_ix x6)) (h_i s a5 (h_ix x6)) s (fun s9 =>
    w_X12_layLog_237 Q K21 o0 (x4 + (1 : Int32)) s9)
def w_X12_layLog_21b (Q : h_S → Prop) (K21 : Nat → Int32 → h_S → Prop) (o0 : Nat) (x4 : Int32) (s : h_S) : Prop :=
  if x4 < 0 then
    h_k s o0 = 33 ∧ ∃ a3, (h_r s o0 34) = some a3 ∧ h_k s a3 = 1 ∧ vp_in (0 : Int32) (h_n s a3) ∧ let s6 : h_S := h_si s o0 35 (h_i s a3 (h_ix (0 : Int32)))
    Q s6
  else
    h_k s o0 = 33 ∧ ∃ a8, (h_r s o0 28) = some a8 ∧ h_k s a8 = 1 ∧ vp_in x4 (h_n s a8) ∧ (if (h_i s a8 (h_ix x4)) < 0 then
      w_X12_layLog_66 Q K21 o0 x4 s
    else
      ∃ a12, (h_r s o0 29) = some a12 ∧ h_k s a12 = 1 ∧ vp_in x4 (h_n s a12) ∧ ∃ a15, (h_r s o0 15) = some a15 ∧ h_k s a15 = 1 ∧ vp_in (h_i s a8 (h_ix x4)) (h_n s a15) ∧ (if (h_i s a15 (h_ix (h_i s a8 (h_ix x4)))) ≤ (h_i s a12 (h_ix x4)) then
        w_X12_layLog_66 Q K21 o0 x4 s
      else
        w_X12_isDone o0 x4 s (fun p20 s19 =>
          if p20 = 0 then
            h_k s19 o0 = 33 ∧ ∃ a23, (h_r s19 o0 14) = some a23 ∧ h_k s19 a23 = 1 ∧ vp_in (h_i s a8 (h_ix x4)) (h_n s19 a23) ∧ ∃ a26, (h_r s19 o0 29) = some a26 ∧ h_k s19 a26 = 1 ∧ vp_in x4 (h_n s19 a26) ∧ let v29 : Int32 := ((h_i s19 a23 (h_ix (h_i s a8 (h_ix x4)))) + (h_i s19 a26 (h_ix x4)))
            ∃ a30, (h_r s19 o0 29) = some a30 ∧ h_k s19 a30 = 1 ∧ vp_in x4 (h_n s19 a30) ∧ ∃ a33, (h_r s19 o0 29) = some a33 ∧ h_k s19 a33 = 1 ∧ vp_in x4 (h_n s19 a33) ∧ let s36 : h_S := h_si s19 a33 (h_ix x4) ((h_i s19 a30 (h_ix x4)) + (1 : Int32))
            ∃ a37, (h_r s36 o0 17) = some a37 ∧ h_k s36 a37 = 1 ∧ vp_in v29 (h_n s36 a37) ∧ (if (2 : Int32) ≤ (h_i s36 a37 (h_ix v29)) then
              if x4 = (4 : Int32) then
                w_X12_show o0 (-7 : Int32) x4 s36 (fun s55 =>
                  w_X12_layLog_237 Q K21 o0 x4 s55)
              else
                ∃ a42, (h_r s36 o0 20) = some a42 ∧ h_k s36 a42 = 1 ∧ vp_in v29 (h_n s36 a42) ∧ ∃ a45, (h_r s36 o0 17) = some a45 ∧ h_k s36 a45 = 1 ∧ vp_in v29 (h_n s36 a45) ∧ (if (h_i s36 a45 (h_ix v29)) = (2 : Int32) then
                  ∃ a52, (h_r s36 o0 21) = some a52 ∧ h_k s36 a52 = 1 ∧ vp_in v29 (h_n s36 a52) ∧ w_X12_layLog_217 Q K21 o0 x4 v29 (h_i s36 a52 (h_ix v29)) (h_i s36 a42 (h_ix v29)) (x4 + (1 : Int32)) o0 s36
                else
                  ∃ a49, (h_r s36 o0 30) = some a49 ∧ h_k s36 a49 = 1 ∧ vp_in x4 (h_n s36 a49) ∧ w_X12_layLog_217 Q K21 o0 x4 v29 (h_i s36 a49 (h_ix x4)) (h_i s36 a42 (h_ix v29)) (x4 + (1 : Int32)) o0 s36)
            else
              ∃ n, w_X12_layLog_114 Q K21 n o0 x4 v29 (0 : Int32) s36)
          else
            w_X12_layLog_66 Q K21 o0 x4 s19)))
def w_X12_layLog_21 (Q : h_S → Prop) : Nat → Nat → Int32 → h_S → Prop
  | 0, _, _, _ => False
  | n + 1, o0, x4, s => w_X12_layLog_21b Q (w_X12_layLog_21 Q n) o0 x4 s
def w_X12_layLog (o0 : Nat) (x1 : Int32) (x2 : Int32) (x3 : Int32) (s : h_S) (Q : h_S → Prop) : Prop :=
  h_k s o0 = 33 ∧ w_X12_enter o0 (0 : Int32) x2 x3 (0 : Int32) (300 : Int32) s (fun s2 =>
    h_k s2 o0 = 33 ∧ ∃ a5, (h_r s2 o0 28) = some a5 ∧ h_k s2 a5 = 1 ∧ vp_in (0 : Int32) (h_n s2 a5) ∧ let s8 : h_S := h_si s2 a5 (h_ix (0 : Int32)) x1
    ∃ n, w_X12_layLog_21 Q n o0 (0 : Int32) s8)
def w_X12_lay (o0 : Nat) (x1 : Int32) (x2 : Int32) (s : h_S) (Q : h_S → Prop) : Prop :=
  h_k s o0 = 33 ∧ w_X12_logOf o0 x1 x2 s (fun p3 s2 =>
    h_k s2 o0 = 33 ∧ w_X12_layLog o0 p3 x1 x2 s2 (fun s5 =>
      Q s5))
def w_X12_setPiece (o0 : Nat) (x1 : Int32) (x2 : Int32) (x3 : Int32) (x4 : Int32) (x5 : Int32) (x6 : Int32) (s : h_S) (Q : h_S → Prop) : Prop :=
  h_k s o0 = 33 ∧ ∃ a2, (h_r s o0 41) = some a2 ∧ h_k s a2 = 1 ∧ vp_in x1 (h_n s a2) ∧ let s5 : h_S := h_si s a2 (h_ix x1) x2
  ∃ a6, (h_r s5 o0 42) = some a6 ∧ h_k s5 a6 = 1 ∧ vp_in x1 (h_n s5 a6) ∧ let s9 : h_S := h_si s5 a6 (h_ix x1) x3
  ∃ a10, (h_r s9 o0 43) = some a10 ∧ h_k s9 a10 = 1 ∧ vp_in x1 (h_n s9 a10) ∧ let s13 : h_S := h_si s9 a10 (h_ix x1) x4
  ∃ a14, (h_r s13 o0 44) = some a14 ∧ h_k s13 a14 = 1 ∧ vp_in x1 (h_n s13 a14) ∧ let s17 : h_S := h_si s13 a14 (h_ix x1) x5
  ∃ a18, (h_r s17 o0 45) = some a18 ∧ h_k s17 a18 = 1 ∧ vp_in x1 (h_n s17 a18) ∧ let s21 : h_S := h_si s17 a18 (h_ix x1) x6
  Q s21
def w_X12_load_28b (Q : h_S → Prop) (K28 : Nat → Int32 → Int32 → h_S → Prop) (o0 : Nat) (x3 : Int32) (x4 : Int32) (s : h_S) : Prop :=
  h_k s o0 = 33 ∧ (if (h_i s o0 40) ≤ x4 then
    Q s
  else
    ∃ a3, (h_r s o0 14) = some a3 ∧ h_k s a3 = 1 ∧ vp_in x3 (h_n s a3) ∧ ∃ a6, (h_r s o0 17) = some a6 ∧ h_k s a6 = 1 ∧ vp_in ((h_i s a3 (h_ix x3)) + x4) (h_n s a6) ∧ ∃ a9, (h_r s o0 18) = some a9 ∧ h_k s a9 = 1 ∧ vp_in ((h_i s a3 (h_ix x3)) + x4) (h_n s a9) ∧ ∃ a12, (h_r s o0 19) = some a12 ∧ h_k s a12 = 1 ∧ vp_in ((h_i s a3 (h_ix x3)) + x4) (h_n s a12) ∧ ∃ a15, (h_r s o0 20) = some a15 ∧ h_k s a15 = 1 ∧ vp_in ((h_i s a3 (h_ix x3)) + x4) (h_n s a15) ∧ ∃ a18, (h_r s o0 21) = some a18 ∧ h_k s a18 = 1 ∧ vp_in ((h_i s a3 (h_ix x3)) + x4) (h_n s a18) ∧ w_X12_setPiece o0 x4 (h_i s a6 (h_ix ((h_i s a3 (h_ix x3)) + x4))) (h_i s a9 (h_ix ((h_i s a3 (h_ix x3)) + x4))) (h_i s a12 (h_ix ((h_i s a3 (h_ix x3)) + x4))) (h_i s a15 (h_ix ((h_i s a3 (h_ix x3)) + x4))) (h_i s a18 (h_ix ((h_i s a3 (h_ix x3)) + x4))) s (fun s21 =>
      K28 o0 x3 (x4 + (1 : Int32)) s21))
def w_X12_load_28 (Q : h_S → Prop) : Nat → Nat → Int32 → Int32 → h_S → Prop
  | 0, _, _, _, _ => False
  | n + 1, o0, x3, x4, s => w_X12_load_28b Q (w_X12_load_28 Q n) o0 x3 x4 s
def w_X12_load_22 (Q : h_S → Prop) (o0 : Nat) (x3 : Int32) (y0 : Int32) (u1 : Nat) (s : h_S) : Prop :=
  h_k s u1 = 33 ∧ let s2 : h_S := h_si s u1 40 y0
  ∃ n, w_X12_load_28 Q n o0 x3 (0 : Int32) s2
def w_X12_load (o0 : Nat) (x1 : Int32) (x2 : Int32) (s : h_S) (Q : h_S → Prop) : Prop :=
  h_k s o0 = 33 ∧ w_X12_logOf o0 x1 x2 s (fun p3 s2 =>
    if 0 ≤ p3 then
      h_k s2 o0 = 33 ∧ ∃ a6, (h_r s2 o0 15) = some a6 ∧ h_k s2 a6 = 1 ∧ vp_in p3 (h_n s2 a6) ∧ w_X12_load_22 Q o0 p3 (h_i s2 a6 (h_ix p3)) o0 s2
    else
      w_X12_load_22 Q o0 p3 (0 : Int32) o0 s2)
def w_X12_bound_43 (Q : h_S → Prop) (K4 : Nat → Int32 → Int32 → h_S → Prop) (o0 : Nat) (x1 : Int32) (x2 : Int32) (s : h_S) : Prop :=
  h_k s o0 = 33 ∧ ∃ a2, (h_r s o0 47) = some a2 ∧ h_k s a2 = 1 ∧ vp_in x2 (h_n s a2) ∧ let s5 : h_S := h_si s a2 (h_ix x2) x1
  K4 o0 x1 (x2 + (1 : Int32)) s5
def w_X12_bound_19b (Q : h_S → Prop) (K4 : Nat → Int32 → Int32 → h_S → Prop) (K19 : Nat → Int32 → Int32 → h_S → Prop) (o0 : Nat) (x1 : Int32) (x2 : Int32) (s : h_S) : Prop :=
  h_k s o0 = 33 ∧ (if (h_i s o0 35) ≤ x1 then
    w_X12_bound_43 Q K4 o0 x1 x2 s
  else
    ∃ a3, (h_r s o0 37) = some a3 ∧ h_k s a3 = 1 ∧ vp_in x1 (h_n s a3) ∧ (if (h_i s a3 (h_ix x1)) = x2 then
      K19 o0 (x1 + (1 : Int32)) x2 s
    else
      w_X12_bound_43 Q K4 o0 x1 x2 s))
def w_X12_bound_19 (Q : h_S → Prop) (K4 : Nat → Int32 → Int32 → h_S → Prop) : Nat → Nat → Int32 → Int32 → h_S → Prop
  | 0, _, _, _, _ => False
  | n + 1, o0, x1, x2, s => w_X12_bound_19b Q K4 (w_X12_bound_19 Q K4 n) o0 x1 x2 s
def w_X12_bound_4b (Q : h_S → Prop) (K4 : Nat → Int32 → Int32 → h_S → Prop) (o0 : Nat) (x1 : Int32) (x2 : Int32) (s : h_S) : Prop :=
  h_k s o0 = 33 ∧ (if (h_i s o0 40) ≤ x2 then
    Q s
  else
    ∃ a3, (h_r s o0 46) = some a3 ∧ h_k s a3 = 1 ∧ vp_in x2 (h_n s a3) ∧ let s6 : h_S := h_si s a3 (h_ix x2) x1
    ∃ n, w_X12_bound_19 Q K4 n o0 x1 x2 s6)
def w_X12_bound_4 (Q : h_S → Prop) : Nat → Nat → Int32 → Int32 → h_S → Prop
  | 0, _, _, _, _ => False
  | n + 1, o0, x1, x2, s => w_X12_bound_4b Q (w_X12_bound_4 Q n) o0 x1 x2 s
def w_X12_bound (o0 : Nat) (s : h_S) (Q : h_S → Prop) : Prop :=
  ∃ n, w_X12_bound_4 Q n o0 (0 : Int32) (0 : Int32) s
def w_X12_open (o0 : Nat) (x1 : Int32) (s : h_S) (Q : h_S → Prop) : Prop :=
  h_k s o0 = 33 ∧ w_X12_lay o0 x1 (h_i s o0 1) s (fun s2 =>
    h_k s2 o0 = 33 ∧ w_X12_load o0 x1 (h_i s2 o0 1) s2 (fun s5 =>
      h_k s5 o0 = 33 ∧ w_X12_bound o0 s5 (fun s8 =>
        Q s8)))
def w_X12_widen_7b (Q : h_S → Prop) (K7 : Nat → Int32 → Int32 → Int32 → h_S → Prop) (o0 : Nat) (x1 : Int32) (x2 : Int32) (x3 : Int32) (s : h_S) : Prop :=
  if x3 < x1 then
    h_k s o0 = 33 ∧ let s3 : h_S := h_si s o0 40 ((h_i s o0 40) + x2)
    Q s3
  else
    h_k s o0 = 33 ∧ ∃ a5, (h_r s o0 41) = some a5 ∧ h_k s a5 = 1 ∧ vp_in x3 (h_n s a5) ∧ ∃ a8, (h_r s o0 42) = some a8 ∧ h_k s a8 = 1 ∧ vp_in x3 (h_n s a8) ∧ ∃ a11, (h_r s o0 43) = some a11 ∧ h_k s a11 = 1 ∧ vp_in x3 (h_n s a11) ∧ ∃ a14, (h_r s o0 44) = some a14 ∧ h_k s a14 = 1 ∧ vp_in x3 (h_n s a14) ∧ ∃ a17, (h_r s o0 45) = some a17 ∧ h_k s a17 = 1 ∧ vp_in x3 (h_n s a17) ∧ w_X12_setPiece o0 (x3 + x2) (h_i s a5 (h_ix x3)) (h_i s a8 (h_ix x3)) (h_i s a11 (h_ix x3)) (h_i s a14 (h_ix x3)) (h_i s a17 (h_ix x3)) s (fun s20 =>
      h_k s20 o0 = 33 ∧ ∃ a23, (h_r s20 o0 46) = some a23 ∧ h_k s20 a23 = 1 ∧ vp_in x3 (h_n s20 a23) ∧ ∃ a26, (h_r s20 o0 46) = some a26 ∧ h_k s20 a26 = 1 ∧ vp_in (x3 + x2) (h_n s20 a26) ∧ let s29 : h_S := h_si s20 a26 (h_ix (x3 + x2)) (h_i s20 a23 (h_ix x3))
      ∃ a30, (h_r s29 o0 47) = some a30 ∧ h_k s29 a30 = 1 ∧ vp_in x3 (h_n s29 a30) ∧ ∃ a33, (h_r s29 o0 47) = some a33 ∧ h_k s29 a33 = 1 ∧ vp_in (x3 + x2) (h_n s29 a33) ∧ let s36 : h_S := h_si s29 a33 (h_ix (x3 + x2)) (h_i s29 a30 (h_ix x3))
      K7 o0 x1 x2 (x3 + (-1 : Int32)) s36)
def w_X12_widen_7 (Q : h_S → Prop) : Nat → Nat → Int32 → Int32 → Int32 → h_S → Prop
  | 0, _, _, _, _, _ => False
  | n + 1, o0, x1, x2, x3, s => w_X12_widen_7b Q (w_X12_widen_7 Q n) o0 x1 x2 x3 s
def w_X12_widen (o0 : Nat) (x1 : Int32) (x2 : Int32) (s : h_S) (Q : h_S → Prop) : Prop :=
  h_k s o0 = 33 ∧ let v2 : Int32 := ((h_i s o0 40) - (1 : Int32))
  ∃ n, w_X12_widen_7 Q n o0 x1 x2 v2 s
def w_X12_openAt_110 (Q : Int32 → h_S → Prop) (x2 : Int32) (s : h_S) : Prop :=
  Q x2 s
def w_X12_openAt_26 (Q : Int32 → h_S → Prop) (o0 : Nat) (x1 : Int32) (x2 : Int32) (s : h_S) : Prop :=
  h_k s o0 = 33 ∧ (if (h_i s o0 40) ≤ x2 then
    w_X12_openAt_110 Q x2 s
  else
    ∃ a3, (h_r s o0 46) = some a3 ∧ h_k s a3 = 1 ∧ vp_in x2 (h_n s a3) ∧ (if x1 ≤ (h_i s a3 (h_ix x2)) then
      w_X12_openAt_110 Q x2 s
    else
      ∃ a7, (h_r s o0 46) = some a7 ∧ h_k s a7 = 1 ∧ vp_in x2 (h_n s a7) ∧ w_X12_widen o0 x2 (1 : Int32) s (fun s10 =>
        h_k s10 o0 = 33 ∧ ∃ a13, (h_r s10 o0 41) = some a13 ∧ h_k s10 a13 = 1 ∧ vp_in x2 (h_n s10 a13) ∧ ∃ a16, (h_r s10 o0 42) = some a16 ∧ h_k s10 a16 = 1 ∧ vp_in x2 (h_n s10 a16) ∧ ∃ a19, (h_r s10 o0 43) = some a19 ∧ h_k s10 a19 = 1 ∧ vp_in x2 (h_n s10 a19) ∧ ∃ a22, (h_r s10 o0 44) = some a22 ∧ h_k s10 a22 = 1 ∧ vp_in x2 (h_n s10 a22) ∧ ∃ a25, (h_r s10 o0 45) = some a25 ∧ h_k s10 a25 = 1 ∧ vp_in x2 (h_n s10 a25) ∧ w_X12_setPiece o0 (x2 + (1 : Int32)) (h_i s10 a13 (h_ix x2)) ((h_i s10 a16 (h_ix x2)) + (x1 - (h_i s a7 (h_ix x2)))) ((h_i s10 a19 (h_ix x2)) - (x1 - (h_i s a7 (h_ix x2)))) (h_i s10 a22 (h_ix x2)) (h_i s10 a25 (h_ix x2)) s10 (fun s28 =>
          h_k s28 o0 = 33 ∧ ∃ a31, (h_r s28 o0 43) = some a31 ∧ h_k s28 a31 = 1 ∧ vp_in x2 (h_n s28 a31) ∧ let s34 : h_S := h_si s28 a31 (h_ix x2) (x1 - (h_i s a7 (h_ix x2)))
          w_X12_openAt_110 Q (x2 + (1 : Int32)) s34))))
def w_X12_openAt_2b (Q : Int32 → h_S → Prop) (K2 : Nat → Int32 → Int32 → h_S → Prop) (o0 : Nat) (x1 : Int32) (x2 : Int32) (s : h_S) : Prop :=
  h_k s o0 = 33 ∧ (if (h_i s o0 40) ≤ x2 then
    w_X12_openAt_26 Q o0 x1 x2 s
  else
    ∃ a3, (h_r s o0 47) = some a3 ∧ h_k s a3 = 1 ∧ vp_in x2 (h_n s a3) ∧ (if x1 < (h_i s a3 (h_ix x2)) then
      w_X12_openAt_26 Q o0 x1 x2 s
    else
      K2 o0 x1 (x2 + (1 : Int32)) s))
def w_X12_openAt_2 (Q : Int32 → h_S → Prop) : Nat → Nat → Int32 → Int32 → h_S → Prop
  | 0, _, _, _, _ => False
  | n + 1, o0, x1, x2, s => w_X12_openAt_2b Q (w_X12_openAt_2 Q n) o0 x1 x2 s
def w_X12_openAt (o0 : Nat) (x1 : Int32) (s : h_S) (Q : Int32 → h_S → Prop) : Prop :=
  ∃ n, w_X12_openAt_2 Q n o0 x1 (0 : Int32) s
def w_X12_store_89b (Q : Int32 → h_S → Prop) (K89 : Nat → Int32 → h_S → Prop) (o0 : Nat) (x2 : Int32) (s : h_S) : Prop :=
  h_k s o0 = 33 ∧ (if (h_i s o0 40) ≤ x2 then
    Q 1 s
  else
    ∃ a3, (h_r s o0 41) = some a3 ∧ h_k s a3 = 1 ∧ vp_in x2 (h_n s a3) ∧ ∃ a6, (h_r s o0 17) = some a6 ∧ h_k s a6 = 1 ∧ vp_in (h_i s o0 16) (h_n s a6) ∧ let s9 : h_S := h_si s a6 (h_ix (h_i s o0 16)) (h_i s a3 (h_ix x2))
    ∃ a10, (h_r s9 o0 42) = some a10 ∧ h_k s9 a10 = 1 ∧ vp_in x2 (h_n s9 a10) ∧ ∃ a13, (h_r s9 o0 18) = some a13 ∧ h_k s9 a13 = 1 ∧ vp_in (h_i s9 o0 16) (h_n s9 a13) ∧ let s16 : h_S := h_si s9 a13 (h_ix (h_i s9 o0 16)) (h_i s9 a10 (h_ix x2))
    ∃ a17, (h_r s16 o0 43) = some a17 ∧ h_k s16 a17 = 1 ∧ vp_in x2 (h_n s16 a17) ∧ ∃ a20, (h_r s16 o0 19) = some a20 ∧ h_k s16 a20 = 1 ∧ vp_in (h_i s16 o0 16) (h_n s16 a20) ∧ let s23 : h_S := h_si s16 a20 (h_ix (h_i s16 o0 16)) (h_i s16 a17 (h_ix x2))
    ∃ a24, (h_r s23 o0 44) = some a24 ∧ h_k s23 a24 = 1 ∧ vp_in x2 (h_n s23 a24) ∧ ∃ a27, (h_r s23 o0 20) = some a27 ∧ h_k s23 a27 = 1 ∧ vp_in (h_i s23 o0 16) (h_n s23 a27) ∧ let s30 : h_S := h_si s23 a27 (h_ix (h_i s23 o0 16)) (h_i s23 a24 (h_ix x2))
    ∃ a31, (h_r s30 o0 45) = some a31 ∧ h_k s30 a31 = 1 ∧ vp_in x2 (h_n s30 a31) ∧ ∃ a34, (h_r s30 o0 21) = some a34 ∧ h_k s30 a34 = 1 ∧ vp_in (h_i s30 o0 16) (h_n s30 a34) ∧ let s37 : h_S := h_si s30 a34 (h_ix (h_i s30 o0 16)) (h_i s30 a31 (h_ix x2))
    let s38 : h_S := h_si s37 o0 16 ((h_i s37 o0 16) + (1 : Int32))
    K89 o0 (x2 + (1 : Int32)) s38)
def w_X12_store_89 (Q : Int32 → h_S → Prop) : Nat → Nat → Int32 → h_S → Prop
  | 0, _, _, _ => False
  | n + 1, o0, x2, s => w_X12_store_89b Q (w_X12_store_89 Q n) o0 x2 s
def w_X12_store (o0 : Nat) (x1 : Int32) (s : h_S) (Q : Int32 → h_S → Prop) : Prop :=
  h_k s o0 = 33 ∧ (if (h_i s o0 40) ≤ (24 : Int32) then
    ∃ a3, (h_r s o0 11) = some a3 ∧ h_k s a3 = 1 ∧ vp_in x1 (h_n s a3) ∧ ∃ a6, (h_r s o0 12) = some a6 ∧ h_k s a6 = 1 ∧ vp_in (h_i s o0 10) (h_n s a6) ∧ let s9 : h_S := h_si s a6 (h_ix (h_i s o0 10)) (h_i s a3 (h_ix x1))
    ∃ a10, (h_r s9 o0 13) = some a10 ∧ h_k s9 a10 = 1 ∧ vp_in (h_i s9 o0 10) (h_n s9 a10) ∧ let s13 : h_S := h_si s9 a10 (h_ix (h_i s9 o0 10)) ((h_i s9 o0 1) + (1 : Int32))
    ∃ a14, (h_r s13 o0 14) = some a14 ∧ h_k s13 a14 = 1 ∧ vp_in (h_i s13 o0 10) (h_n s13 a14) ∧ let s17 : h_S := h_si s13 a14 (h_ix (h_i s13 o0 10)) (h_i s13 o0 16)
    ∃ a18, (h_r s17 o0 15) = some a18 ∧ h_k s17 a18 = 1 ∧ vp_in (h_i s17 o0 10) (h_n s17 a18) ∧ let s21 : h_S := h_si s17 a18 (h_ix (h_i s17 o0 10)) (h_i s17 o0 40)
    ∃ a22, (h_r s21 o0 11) = some a22 ∧ h_k s21 a22 = 1 ∧ vp_in x1 (h_n s21 a22) ∧ let s25 : h_S := h_si s21 a22 (h_ix x1) (h_i s21 o0 10)
    let s26 : h_S := h_si s25 o0 10 ((h_i s25 o0 10) + (1 : Int32))
    ∃ n, w_X12_store_89 Q n o0 (0 : Int32) s26
  else
    Q 0 s)
def w_X12_come (o0 : Nat) (x1 : Int32) (x2 : Int32) (x3 : Int32) (x4 : Int32) (x5 : Int32) (x6 : Int32) (x7 : Int32) (s : h_S) (Q : Int32 → h_S → Prop) : Prop :=
  h_k s o0 = 33 ∧ w_X12_openAt o0 x2 s (fun p3 s2 =>
    h_k s2 o0 = 33 ∧ w_X12_widen o0 p3 (1 : Int32) s2 (fun s5 =>
      h_k s5 o0 = 33 ∧ w_X12_setPiece o0 p3 x3 x4 x5 x6 x7 s5 (fun s8 =>
        h_k s8 o0 = 33 ∧ w_X12_store o0 x1 s8 (fun p12 s11 =>
          h_bt p12 ∧ Q p12 s11))))
def w_X12_takeOut_365 (Q : h_S → Prop) (K25 : Nat → Int32 → Int32 → Int32 → Int32 → Int32 → Int32 → h_S → Prop) (o0 : Nat) (x1 : Int32) (x3 : Int32) (x4 : Int32) (x5 : Int32) (x6 : Int32) (x7 : Int32) (s : h_S) : Prop :=
  K25 o0 x1 x3 x4 x5 x6 (x7 + (1 : Int32)) s
def w_X12_takeOut_54 (Q : h_S → Prop) (K25 : Nat → Int32 → Int32 → Int32 → Int32 → Int32 → Int32 → h_S → Prop) (o0 : Nat) (x1 : Int32) (x3 : Int32) (x4 : Int32) (x5 : Int32) (x6 : Int32) (x7 : Int32) (s : h_S) : Prop :=
  h_k s o0 = 33 ∧ ∃ a2, (h_r s o0 41) = some a2 ∧ h_k s a2 = 1 ∧ vp_in x7 (h_n s a2) ∧ ∃ a5, (h_r s o0 42) = some a5 ∧ h_k s a5 = 1 ∧ vp_in x7 (h_n s a5) ∧ ∃ a8, (h_r s o0 43) = some a8 ∧ h_k s a8 = 1 ∧ vp_in x7 (h_n s a8) ∧ ∃ a11, (h_r s o0 44) = some a11 ∧ h_k s a11 = 1 ∧ vp_in x7 (h_n s a11) ∧ ∃ a14, (h_r s o0 45) = some a14 ∧ h_k s a14 = 1 ∧ vp_in x7 (h_n s a14) ∧ w_X12_setPiece o0 (x6 + x4) (h_i s a2 (h_ix x7)) (h_i s a5 (h_ix x7)) (h_i s a8 (h_ix x7)) (h_i s a11 (h_ix x7)) (h_i s a14 (h_ix x7)) s (fun s17 =>
    w_X12_takeOut_365 Q K25 o0 x1 x3 (x4 + (1 : Int32)) x5 x6 x7 s17)
def w_X12_takeOut_209 (Q : h_S → Prop) (K25 : Nat → Int32 → Int32 → Int32 → Int32 → Int32 → Int32 → h_S → Prop) (o0 : Nat) (x1 : Int32) (x3 : Int32) (x4 : Int32) (x5 : Int32) (x6 : Int32) (x7 : Int32) (x8 : Int32) (x9 : Int32) (s : h_S) : Prop :=
  h_k s o0 = 33 ∧ ∃ a2, (h_r s o0 41) = some a2 ∧ h_k s a2 = 1 ∧ vp_in x7 (h_n s a2) ∧ ∃ a5, (h_r s o0 49) = some a5 ∧ h_k s a5 = 1 ∧ vp_in (h_i s o0 48) (h_n s a5) ∧ let s8 : h_S := h_si s a5 (h_ix (h_i s o0 48)) (h_i s a2 (h_ix x7))
  ∃ a9, (h_r s8 o0 42) = some a9 ∧ h_k s8 a9 = 1 ∧ vp_in x7 (h_n s8 a9) ∧ ∃ a12, (h_r s8 o0 50) = some a12 ∧ h_k s8 a12 = 1 ∧ vp_in (h_i s8 o0 48) (h_n s8 a12) ∧ let s15 : h_S := h_si s8 a12 (h_ix (h_i s8 o0 48)) ((h_i s8 a9 (h_ix x7)) + x8)
  ∃ a16, (h_r s15 o0 51) = some a16 ∧ h_k s15 a16 = 1 ∧ vp_in (h_i s15 o0 48) (h_n s15 a16) ∧ let s19 : h_S := h_si s15 a16 (h_ix (h_i s15 o0 48)) (x9 - x8)
  ∃ a20, (h_r s19 o0 44) = some a20 ∧ h_k s19 a20 = 1 ∧ vp_in x7 (h_n s19 a20) ∧ ∃ a23, (h_r s19 o0 52) = some a23 ∧ h_k s19 a23 = 1 ∧ vp_in (h_i s19 o0 48) (h_n s19 a23) ∧ let s26 : h_S := h_si s19 a23 (h_ix (h_i s19 o0 48)) (h_i s19 a20 (h_ix x7))
  ∃ a27, (h_r s26 o0 45) = some a27 ∧ h_k s26 a27 = 1 ∧ vp_in x7 (h_n s26 a27) ∧ ∃ a30, (h_r s26 o0 53) = some a30 ∧ h_k s26 a30 = 1 ∧ vp_in (h_i s26 o0 48) (h_n s26 a30) ∧ let s33 : h_S := h_si s26 a30 (h_ix (h_i s26 o0 48)) (h_i s26 a27 (h_ix x7))
  let s34 : h_S := h_si s33 o0 48 ((h_i s33 o0 48) + (1 : Int32))
  ∃ a35, (h_r s34 o0 43) = some a35 ∧ h_k s34 a35 = 1 ∧ vp_in x7 (h_n s34 a35) ∧ (if (h_i s34 a35 (h_ix x7)) ≤ x9 then
    w_X12_takeOut_365 Q K25 o0 x1 x3 x4 x5 x6 x7 s34
  else
    ∃ a39, (h_r s34 o0 41) = some a39 ∧ h_k s34 a39 = 1 ∧ vp_in x7 (h_n s34 a39) ∧ ∃ a42, (h_r s34 o0 42) = some a42 ∧ h_k s34 a42 = 1 ∧ vp_in x7 (h_n s34 a42) ∧ ∃ a45, (h_r s34 o0 43) = some a45 ∧ h_k s34 a45 = 1 ∧ vp_in x7 (h_n s34 a45) ∧ ∃ a48, (h_r s34 o0 44) = some a48 ∧ h_k s34 a48 = 1 ∧ vp_in x7 (h_n s34 a48) ∧ ∃ a51, (h_r s34 o0 45) = some a51 ∧ h_k s34 a51 = 1 ∧ vp_in x7 (h_n s34 a51) ∧ w_X12_setPiece o0 (x6 + x4) (h_i s34 a39 (h_ix x7)) ((h_i s34 a42 (h_ix x7)) + x9) ((h_i s34 a45 (h_ix x7)) - x9) (h_i s34 a48 (h_ix x7)) (h_i s34 a51 (h_ix x7)) s34 (fun s54 =>
      w_X12_takeOut_365 Q K25 o0 x1 x3 (x4 + (1 : Int32)) x5 x6 x7 s54))
def w_X12_takeOut_160 (Q : h_S → Prop) (K25 : Nat → Int32 → Int32 → Int32 → Int32 → Int32 → Int32 → h_S → Prop) (o0 : Nat) (x1 : Int32) (x3 : Int32) (x4 : Int32) (x5 : Int32) (x6 : Int32) (x7 : Int32) (x8 : Int32) (y0 : Int32) (s : h_S) : Prop :=
  if x8 ≤ 0 then
    w_X12_takeOut_209 Q K25 o0 x1 x3 x4 x5 x6 x7 x8 y0 s
  else
    h_k s o0 = 33 ∧ ∃ a3, (h_r s o0 41) = some a3 ∧ h_k s a3 = 1 ∧ vp_in x7 (h_n s a3) ∧ ∃ a6, (h_r s o0 42) = some a6 ∧ h_k s a6 = 1 ∧ vp_in x7 (h_n s a6) ∧ ∃ a9, (h_r s o0 44) = some a9 ∧ h_k s a9 = 1 ∧ vp_in x7 (h_n s a9) ∧ ∃ a12, (h_r s o0 45) = some a12 ∧ h_k s a12 = 1 ∧ vp_in x7 (h_n s a12) ∧ w_X12_setPiece o0 (x6 + x4) (h_i s a3 (h_ix x7)) (h_i s a6 (h_ix x7)) x8 (h_i s a9 (h_ix x7)) (h_i s a12 (h_ix x7)) s (fun s15 =>
      w_X12_takeOut_209 Q K25 o0 x1 x3 (x4 + (1 : Int32)) x5 x6 x7 x8 y0 s15)
def w_X12_takeOut_128 (Q : h_S → Prop) (K25 : Nat → Int32 → Int32 → Int32 → Int32 → Int32 → Int32 → h_S → Prop) (o0 : Nat) (x1 : Int32) (x3 : Int32) (x4 : Int32) (x5 : Int32) (x6 : Int32) (x7 : Int32) (y0 : Int32) (s : h_S) : Prop :=
  h_k s o0 = 33 ∧ ∃ a2, (h_r s o0 47) = some a2 ∧ h_k s a2 = 1 ∧ vp_in x7 (h_n s a2) ∧ (if (h_i s a2 (h_ix x7)) ≤ x3 then
    ∃ a6, (h_r s o0 43) = some a6 ∧ h_k s a6 = 1 ∧ vp_in x7 (h_n s a6) ∧ w_X12_takeOut_160 Q K25 o0 x1 x3 x4 x5 x6 x7 y0 (h_i s a6 (h_ix x7)) s
  else
    ∃ a9, (h_r s o0 46) = some a9 ∧ h_k s a9 = 1 ∧ vp_in x7 (h_n s a9) ∧ w_X12_takeOut_160 Q K25 o0 x1 x3 x4 x5 x6 x7 y0 (x3 - (h_i s a9 (h_ix x7))) s)
def w_X12_takeOut_380b (Q : h_S → Prop) (K380 : Nat → Int32 → Int32 → Int32 → h_S → Prop) (o0 : Nat) (x4 : Int32) (x6 : Int32) (x7 : Int32) (s : h_S) : Prop :=
  if x4 ≤ x7 then
    Q s
  else
    h_k s o0 = 33 ∧ ∃ a3, (h_r s o0 41) = some a3 ∧ h_k s a3 = 1 ∧ vp_in (x6 + x7) (h_n s a3) ∧ ∃ a6, (h_r s o0 42) = some a6 ∧ h_k s a6 = 1 ∧ vp_in (x6 + x7) (h_n s a6) ∧ ∃ a9, (h_r s o0 43) = some a9 ∧ h_k s a9 = 1 ∧ vp_in (x6 + x7) (h_n s a9) ∧ ∃ a12, (h_r s o0 44) = some a12 ∧ h_k s a12 = 1 ∧ vp_in (x6 + x7) (h_n s a12) ∧ ∃ a15, (h_r s o0 45) = some a15 ∧ h_k s a15 = 1 ∧ vp_in (x6 + x7) (h_n s a15) ∧ w_X12_setPiece o0 x7 (h_i s a3 (h_ix (x6 + x7))) (h_i s a6 (h_ix (x6 + x7))) (h_i s a9 (h_ix (x6 + x7))) (h_i s a12 (h_ix (x6 + x7))) (h_i s a15 (h_ix (x6 + x7))) s (fun s18 =>
      K380 o0 x4 x6 (x7 + (1 : Int32)) s18)
def w_X12_takeOut_380 (Q : h_S → Prop) : Nat → Nat → Int32 → Int32 → Int32 → h_S → Prop
  | 0, _, _, _, _, _ => False
  | n + 1, o0, x4, x6, x7, s => w_X12_takeOut_380b Q (w_X12_takeOut_380 Q n) o0 x4 x6 x7 s
def w_X12_takeOut_25b (Q : h_S → Prop) (K25 : Nat → Int32 → Int32 → Int32 → Int32 → Int32 → Int32 → h_S → Prop) (o0 : Nat) (x1 : Int32) (x3 : Int32) (x4 : Int32) (x5 : Int32) (x6 : Int32) (x7 : Int32) (s : h_S) : Prop :=
  if x5 ≤ x7 then
    h_k s o0 = 33 ∧ let s3 : h_S := h_si s o0 40 x4
    ∃ n, w_X12_takeOut_380 Q n o0 x4 x6 (0 : Int32) s3
  else
    h_k s o0 = 33 ∧ ∃ a5, (h_r s o0 47) = some a5 ∧ h_k s a5 = 1 ∧ vp_in x7 (h_n s a5) ∧ (if (h_i s a5 (h_ix x7)) ≤ x1 then
      w_X12_takeOut_54 Q K25 o0 x1 x3 x4 x5 x6 x7 s
    else
      ∃ a9, (h_r s o0 46) = some a9 ∧ h_k s a9 = 1 ∧ vp_in x7 (h_n s a9) ∧ (if (h_i s a9 (h_ix x7)) < x3 then
        ∃ a13, (h_r s o0 46) = some a13 ∧ h_k s a13 = 1 ∧ vp_in x7 (h_n s a13) ∧ (if x1 ≤ (h_i s a13 (h_ix x7)) then
          w_X12_takeOut_128 Q K25 o0 x1 x3 x4 x5 x6 x7 (0 : Int32) s
        else
          ∃ a17, (h_r s o0 46) = some a17 ∧ h_k s a17 = 1 ∧ vp_in x7 (h_n s a17) ∧ w_X12_takeOut_128 Q K25 o0 x1 x3 x4 x5 x6 x7 (x1 - (h_i s a17 (h_ix x7))) s)
      else
        w_X12_takeOut_54 Q K25 o0 x1 x3 x4 x5 x6 x7 s))
def w_X12_takeOut_25 (Q : h_S → Prop) : Nat → Nat → Int32 → Int32 → Int32 → Int32 → Int32 → Int32 → h_S → Prop
  | 0, _, _, _, _, _, _, _, _ => False
  | n + 1, o0, x1, x3, x4, x5, x6, x7, s => w_X12_takeOut_25b Q (w_X12_takeOut_25 Q n) o0 x1 x3 x4 x5 x6 x7 s
def w_X12_takeOut (o0 : Nat) (x1 : Int32) (x2 : Int32) (s : h_S) (Q : h_S → Prop) : Prop :=
  h_k s o0 = 33 ∧ let s2 : h_S := h_si s o0 48 (0 : Int32)
  ∃ n, w_X12_takeOut_25 Q n o0 x1 (x1 + x2) (0 : Int32) (h_i s2 o0 40) (30 : Int32) (0 : Int32) s2
def w_X12_shownThen (o0 : Nat) (x1 : Int32) (s : h_S) (Q : Int32 → h_S → Prop) : Prop :=
  h_k s o0 = 33 ∧ w_X12_lay o0 x1 ((h_i s o0 1) + (1 : Int32)) s (fun s2 =>
    h_k s2 o0 = 33 ∧ Q (h_i s2 o0 35) s2)
def w_X12_noPlaceAhead_28 (Q : Int32 → h_S → Prop) (y0 : Int32) (s : h_S) : Prop :=
  h_bt y0 ∧ Q y0 s
def w_X12_noPlaceAhead (o0 : Nat) (x1 : Int32) (x2 : Int32) (s : h_S) (Q : Int32 → h_S → Prop) : Prop :=
  h_k s o0 = 33 ∧ w_X12_lay o0 x1 (h_i s o0 1) s (fun s2 =>
    h_k s2 o0 = 33 ∧ w_X12_in ((x2).toInt64) (0 : Int64) (((h_i s2 o0 35)).toInt64) s2 (fun p6 s5 =>
      if p6 = 0 then
        w_X12_noPlaceAhead_28 Q (1 : Int32) s5
      else
        w_X12_noPlaceAhead_28 Q (0 : Int32) s5))
def w_X12_noSheet_17 (Q : Int32 → h_S → Prop) (y0 : Int32) (s : h_S) : Prop :=
  h_bt y0 ∧ Q y0 s
def w_X12_noSheet (x0 : Int32) (s : h_S) (Q : Int32 → h_S → Prop) : Prop :=
  w_X12_in ((x0).toInt64) (0 : Int64) (3 : Int64) s (fun p2 s1 =>
    if p2 = 0 then
      w_X12_noSheet_17 Q (1 : Int32) s1
    else
      w_X12_noSheet_17 Q (0 : Int32) s1)
def w_X12_isBeyond_25 (Q : Int32 → h_S → Prop) (y0 : Int32) (s : h_S) : Prop :=
  h_bt y0 ∧ Q y0 s
def w_X12_isBeyond_20 (Q : Int32 → h_S → Prop) (s : h_S) : Prop :=
  w_X12_isBeyond_25 Q (1 : Int32) s
def w_X12_isBeyond (x0 : Int32) (l1 : Int64) (x3 : Int32) (s : h_S) (Q : Int32 → h_S → Prop) : Prop :=
  if x0 < 0 then
    w_X12_isBeyond_20 Q s
  else
    if (lg_cmp l1 (0 : Int64)) < 0 then
      w_X12_isBeyond_20 Q s
    else
      if (lg_cmp (((x0).toInt64) + l1) ((x3).toInt64)) ≤ 0 then
        w_X12_isBeyond_25 Q (0 : Int32) s
      else
        w_X12_isBeyond_20 Q s
def w_X12_barred_95 (Q : Int32 → h_S → Prop) (y0 : Int32) (s : h_S) : Prop :=
  Q y0 s
def w_X12_barred_44 (Q : Int32 → h_S → Prop) (o0 : Nat) (x1 : Int32) (x3 : Int32) (x4 : Int32) (s : h_S) : Prop :=
  h_k s o0 = 33 ∧ ∃ a2, (h_r s o0 110) = some a2 ∧ h_k s a2 = 1 ∧ vp_in x1 (h_n s a2) ∧ (if 0 ≤ (h_i s a2 (h_ix x1)) then
    if 0 ≤ x4 then
      ∃ a7, (h_r s o0 110) = some a7 ∧ h_k s a7 = 1 ∧ vp_in x1 (h_n s a7) ∧ w_X12_isBeyond x3 ((x4).toInt64) (h_i s a7 (h_ix x1)) s (fun p11 s10 =>
        if p11 = 0 then
          w_X12_barred_95 Q (0 : Int32) s10
        else
          h_k s10 o0 = 33 ∧ w_X12_failed o0 (3 : Int32) s10 (fun p15 s14 =>
            w_X12_barred_95 Q p15 s14))
    else
      w_X12_failed o0 (4 : Int32) s (fun p17 s16 =>
        Q p17 s16)
  else
    w_X12_failed o0 (1 : Int32) s (fun p19 s18 =>
      Q p19 s18))
def w_X12_barred (o0 : Nat) (x1 : Int32) (x2 : Int32) (x3 : Int32) (x4 : Int32) (s : h_S) (Q : Int32 → h_S → Prop) : Prop :=
  w_X12_in ((x2).toInt64) (0 : Int64) (2 : Int64) s (fun p2 s1 =>
    if p2 = 0 then
      h_k s1 o0 = 33 ∧ w_X12_refused o0 (-2 : Int32) s1 (fun p17 s16 =>
        Q p17 s16)
    else
      h_k s1 o0 = 33 ∧ ∃ a5, (h_r s1 o0 110) = some a5 ∧ h_k s1 a5 = 1 ∧ vp_in x1 (h_n s1 a5) ∧ (if (h_i s1 a5 (h_ix x1)) < 0 then
        w_X12_barred_44 Q o0 x1 x3 x4 s1
      else
        ∃ a9, (h_r s1 o0 111) = some a9 ∧ h_k s1 a9 = 1 ∧ vp_in x1 (h_n s1 a9) ∧ (if (h_i s1 a9 (h_ix x1)) = x2 then
          w_X12_barred_44 Q o0 x1 x3 x4 s1
        else
          w_X12_failed o0 (2 : Int32) s1 (fun p14 s13 =>
            Q p14 s13))))
def w_X12_put_24 (Q : Int32 → h_S → Prop) (o0 : Nat) (s : h_S) : Prop :=
  h_k s o0 = 33 ∧ w_X12_refused o0 (-1 : Int32) s (fun p3 s2 =>
    Q p3 s2)
def w_X12_put_150 (Q : Int32 → h_S → Prop) (o0 : Nat) (s : h_S) : Prop :=
  h_k s o0 = 33 ∧ w_X12_refused o0 (-4 : Int32) s (fun p3 s2 =>
    Q p3 s2)
def w_X12_put_199 (Q : Int32 → h_S → Prop) (K171 : Nat → Int32 → Int32 → Int32 → Int32 → Int32 → Int32 → Int32 → h_S → Prop) (o0 : Nat) (x1 : Int32) (x3 : Int32) (x5 : Int32) (x6 : Int32) (x8 : Int32) (x10 : Int32) (y0 : Int32) (y1 : Int32) (s : h_S) : Prop :=
  K171 o0 x1 x3 x5 x6 x8 (y1 + y0) (x10 + (1 : Int32)) s
def w_X12_put_211b (Q : Int32 → h_S → Prop) (K211 : Nat → Int32 → Int32 → Int32 → Int32 → Int32 → Int32 → Int32 → h_S → Prop) (o0 : Nat) (x1 : Int32) (x3 : Int32) (x5 : Int32) (x6 : Int32) (x8 : Int32) (x9 : Int32) (x10 : Int32) (s : h_S) : Prop :=
  if x6 ≤ x10 then
    h_k s o0 = 33 ∧ w_X12_acted o0 ((h_i s o0 22) - x6) s (fun p4 s3 =>
      h_k s3 o0 = 33 ∧ w_X12_refused o0 p4 s3 (fun p7 s6 =>
        Q p7 s6))
  else
    h_k s o0 = 33 ∧ ∃ a9, (h_r s o0 112) = some a9 ∧ h_k s a9 = 1 ∧ vp_in ((((60 : Int32) * x3) + x5) + x10) (h_n s a9) ∧ ∃ a12, (h_r s o0 23) = some a12 ∧ h_k s a12 = 1 ∧ vp_in (h_i s o0 22) (h_n s a12) ∧ let s15 : h_S := h_si s a12 (h_ix (h_i s o0 22)) (h_i s a9 (h_ix ((((60 : Int32) * x3) + x5) + x10)))
    ∃ a16, (h_r s15 o0 24) = some a16 ∧ h_k s15 a16 = 1 ∧ vp_in (h_i s15 o0 22) (h_n s15 a16) ∧ let s19 : h_S := h_si s15 a16 (h_ix (h_i s15 o0 22)) x8
    ∃ a20, (h_r s19 o0 25) = some a20 ∧ h_k s19 a20 = 1 ∧ vp_in (h_i s19 o0 22) (h_n s19 a20) ∧ let s23 : h_S := h_si s19 a20 (h_ix (h_i s19 o0 22)) x1
    ∃ a24, (h_r s23 o0 26) = some a24 ∧ h_k s23 a24 = 1 ∧ vp_in (h_i s23 o0 22) (h_n s23 a24) ∧ let s27 : h_S := h_si s23 a24 (h_ix (h_i s23 o0 22)) ((h_i s23 o0 1) + (1 : Int32))
    ∃ a28, (h_r s27 o0 27) = some a28 ∧ h_k s27 a28 = 1 ∧ vp_in (h_i s27 o0 22) (h_n s27 a28) ∧ let s31 : h_S := h_si s27 a28 (h_ix (h_i s27 o0 22)) (x9 + x10)
    let s32 : h_S := h_si s31 o0 22 ((h_i s31 o0 22) + (1 : Int32))
    K211 o0 x1 x3 x5 x6 x8 x9 (x10 + (1 : Int32)) s32
def w_X12_put_211 (Q : Int32 → h_S → Prop) : Nat → Nat → Int32 → Int32 → Int32 → Int32 → Int32 → Int32 → Int32 → h_S → Prop
  | 0, _, _, _, _, _, _, _, _, _ => False
  | n + 1, o0, x1, x3, x5, x6, x8, x9, x10, s => w_X12_put_211b Q (w_X12_put_211 Q n) o0 x1 x3 x5 x6 x8 x9 x10 s
def w_X12_put_171b (Q : Int32 → h_S → Prop) (K171 : Nat → Int32 → Int32 → Int32 → Int32 → Int32 → Int32 → Int32 → h_S → Prop) (o0 : Nat) (x1 : Int32) (x3 : Int32) (x5 : Int32) (x6 : Int32) (x8 : Int32) (x9 : Int32) (x10 : Int32) (s : h_S) : Prop :=
  h_k s o0 = 33 ∧ (if (h_i s o0 22) ≤ x10 then
    ∃ n, w_X12_put_211 Q n o0 x1 x3 x5 x6 x8 x9 (0 : Int32) s
  else
    ∃ a3, (h_r s o0 24) = some a3 ∧ h_k s a3 = 1 ∧ vp_in x10 (h_n s a3) ∧ (if (h_i s a3 (h_ix x10)) = x8 then
      w_X12_put_199 Q K171 o0 x1 x3 x5 x6 x8 x10 (1 : Int32) x9 s
    else
      w_X12_put_199 Q K171 o0 x1 x3 x5 x6 x8 x10 (0 : Int32) x9 s))
def w_X12_put_171 (Q : Int32 → h_S → Prop) : Nat → Nat → Int32 → Int32 → Int32 → Int32 → Int32 → Int32 → Int32 → h_S → Prop
  | 0, _, _, _, _, _, _, _, _, _ => False
  | n + 1, o0, x1, x3, x5, x6, x8, x9, x10, s => w_X12_put_171b Q (w_X12_put_171 Q n) o0 x1 x3 x5 x6 x8 x9 x10 s
def w_X12_put_54b (Q : Int32 → h_S → Prop) (K54 : Nat → Int32 → Int32 → Int32 → Int32 → Int32 → Int32 → h_S → Prop) (o0 : Nat) (x1 : Int32) (x2 : Int32) (x3 : Int32) (x5 : Int32) (x6 : Int32) (x8 : Int32) (s : h_S) : Prop :=
  if x6 ≤ x8 then
    if x6 = 0 then
      h_k s o0 = 33 ∧ w_X12_refused o0 (-2 : Int32) s (fun p17 s16 =>
        Q p17 s16)
    else
      h_k s o0 = 33 ∧ w_X12_open o0 x1 s (fun s4 =>
        h_k s4 o0 = 33 ∧ (if (500 : Int32) < ((h_i s4 o0 22) + x6) then
          w_X12_put_150 Q o0 s4
        else
          w_X12_come o0 x1 x2 (0 : Int32) (h_i s4 o0 22) x6 (-9 : Int32) (-9 : Int32) s4 (fun p9 s8 =>
            if p9 = 0 then
              w_X12_put_150 Q o0 s8
            else
              h_k s8 o0 = 33 ∧ ∃ a12, (h_r s8 o0 9) = some a12 ∧ h_k s8 a12 = 1 ∧ vp_in x1 (h_n s8 a12) ∧ ∃ n, w_X12_put_171 Q n o0 x1 x3 x5 x6 (h_i s8 a12 (h_ix x1)) (0 : Int32) (0 : Int32) s8)))
  else
    h_k s o0 = 33 ∧ ∃ a19, (h_r s o0 112) = some a19 ∧ h_k s a19 = 1 ∧ vp_in ((((60 : Int32) * x3) + x5) + x8) (h_n s a19) ∧ w_X12_in (((h_i s a19 (h_ix ((((60 : Int32) * x3) + x5) + x8)))).toInt64) (1 : Int64) (99 : Int64) s (fun p23 s22 =>
      if p23 = 0 then
        h_k s22 o0 = 33 ∧ w_X12_refused o0 (-2 : Int32) s22 (fun p27 s26 =>
          Q p27 s26)
      else
        K54 o0 x1 x2 x3 x5 x6 (x8 + (1 : Int32)) s22)
def w_X12_put_54 (Q : Int32 → h_S → Prop) : Nat → Nat → Int32 → Int32 → Int32 → Int32 → Int32 → Int32 → h_S → Prop
  | 0, _, _, _, _, _, _, _, _ => False
  | n + 1, o0, x1, x2, x3, x5, x6, x8, s => w_X12_put_54b Q (w_X12_put_54 Q n) o0 x1 x2 x3 x5 x6 x8 s
def w_X12_put (o0 : Nat) (x1 : Int32) (x2 : Int32) (x3 : Int32) (x4 : Int32) (x5 : Int32) (x6 : Int32) (s : h_S) (Q : Int32 → h_S → Prop) : Prop :=
  h_k s o0 = 33 ∧ w_X12_noWriting o0 x1 s (fun p3 s2 =>
    if p3 = 0 then
      w_X12_noSheet x3 s2 (fun p6 s5 =>
        if p6 = 0 then
          h_k s5 o0 = 33 ∧ w_X12_noPlaceAhead o0 x1 x2 s5 (fun p10 s9 =>
            if p10 = 0 then
              h_k s9 o0 = 33 ∧ w_X12_barred o0 x3 x4 x5 x6 s9 (fun p14 s13 =>
                if 0 ≤ p14 then
                  ∃ n, w_X12_put_54 Q n o0 x1 x2 x3 x5 x6 (0 : Int32) s13
                else
                  Q p14 s13)
            else
              w_X12_put_24 Q o0 s9)
        else
          w_X12_put_24 Q o0 s5)
    else
      w_X12_put_24 Q o0 s2)
def w_X12_isThere_36 (Q : Int32 → h_S → Prop) (y0 : Int32) (s : h_S) : Prop :=
  h_bt y0 ∧ Q y0 s
def w_X12_isThere_31 (Q : Int32 → h_S → Prop) (s : h_S) : Prop :=
  w_X12_isThere_36 Q (1 : Int32) s
def w_X12_isThere_35 (Q : Int32 → h_S → Prop) (s : h_S) : Prop :=
  w_X12_isThere_36 Q (0 : Int32) s
def w_X12_isThere (o0 : Nat) (x1 : Int32) (x2 : Int32) (s : h_S) (Q : Int32 → h_S → Prop) : Prop :=
  h_k s o0 = 33 ∧ ∃ a2, (h_r s o0 96) = some a2 ∧ h_k s a2 = 1 ∧ vp_in x1 (h_n s a2) ∧ (if x2 < (h_i s a2 (h_ix x1)) then
    w_X12_isThere_35 Q s
  else
    ∃ a6, (h_r s o0 97) = some a6 ∧ h_k s a6 = 1 ∧ vp_in x1 (h_n s a6) ∧ (if (h_i s a6 (h_ix x1)) = (-9 : Int32) then
      w_X12_isThere_31 Q s
    else
      ∃ a10, (h_r s o0 97) = some a10 ∧ h_k s a10 = 1 ∧ vp_in x1 (h_n s a10) ∧ (if (h_i s a10 (h_ix x1)) ≤ x2 then
        w_X12_isThere_35 Q s
      else
        w_X12_isThere_31 Q s)))
def w_X12_allows_102 (Q : Int32 → h_S → Prop) (y0 : Int32) (s : h_S) : Prop :=
  h_bt y0 ∧ Q y0 s
def w_X12_allows_101 (Q : Int32 → h_S → Prop) (s : h_S) : Prop :=
  w_X12_allows_102 Q (0 : Int32) s
def w_X12_allows_44 (Q : Int32 → h_S → Prop) (o0 : Nat) (x1 : Int32) (x3 : Int32) (x4 : Int32) (y0 : Int32) (s : h_S) : Prop :=
  if y0 = 0 then
    w_X12_allows_101 Q s
  else
    h_k s o0 = 33 ∧ w_X12_isThere o0 x1 x4 s (fun p4 s3 =>
      if p4 = 0 then
        w_X12_allows_101 Q s3
      else
        h_k s3 o0 = 33 ∧ ∃ a7, (h_r s3 o0 93) = some a7 ∧ h_k s3 a7 = 1 ∧ vp_in x1 (h_n s3 a7) ∧ ∃ a10, (h_r s3 o0 94) = some a10 ∧ h_k s3 a10 = 1 ∧ vp_in x1 (h_n s3 a10) ∧ w_X12_in ((x4).toInt64) (((h_i s3 a7 (h_ix x1))).toInt64) (((h_i s3 a10 (h_ix x1))).toInt64) s3 (fun p14 s13 =>
          if p14 = 0 then
            w_X12_allows_101 Q s13
          else
            h_k s13 o0 = 33 ∧ ∃ a17, (h_r s13 o0 92) = some a17 ∧ h_k s13 a17 = 1 ∧ vp_in x1 (h_n s13 a17) ∧ w_X12_hasBit (h_i s13 a17 (h_ix x1)) x3 s13 (fun p21 s20 =>
              if p21 = 0 then
                w_X12_allows_101 Q s20
              else
                w_X12_allows_102 Q (1 : Int32) s20)))
def w_X12_allows (o0 : Nat) (x1 : Int32) (x2 : Int32) (x3 : Int32) (x4 : Int32) (s : h_S) (Q : Int32 → h_S → Prop) : Prop :=
  h_k s o0 = 33 ∧ ∃ a2, (h_r s o0 91) = some a2 ∧ h_k s a2 = 1 ∧ vp_in x1 (h_n s a2) ∧ (if (h_i s a2 (h_ix x1)) < (8 : Int32) then
    w_X12_groupAt o0 (h_i s a2 (h_ix x1)) x4 s (fun p7 s6 =>
      w_X12_hasBit p7 x2 s6 (fun p9 s8 =>
        w_X12_allows_44 Q o0 x1 x3 x4 p9 s8))
  else
    if ((h_i s a2 (h_ix x1)) - (8 : Int32)) = x2 then
      w_X12_allows_44 Q o0 x1 x3 x4 (1 : Int32) s
    else
      w_X12_allows_44 Q o0 x1 x3 x4 (0 : Int32) s)
def w_X12_whyOf_52 (Q : Int32 → h_S → Prop) (K16 : Nat → Int32 → Int32 → Int32 → Int32 → Int32 → h_S → Prop) (o0 : Nat) (x1 : Int32) (x2 : Int32) (x3 : Int32) (x4 : Int32) (x5 : Int32) (s : h_S) : Prop :=
  K16 o0 x1 x2 x3 x4 (x5 + (1 : Int32)) s
def w_X12_whyOf_16b (Q : Int32 → h_S → Prop) (K16 : Nat → Int32 → Int32 → Int32 → Int32 → Int32 → h_S → Prop) (o0 : Nat) (x1 : Int32) (x2 : Int32) (x3 : Int32) (x4 : Int32) (x5 : Int32) (s : h_S) : Prop :=
  h_k s o0 = 33 ∧ (if (h_i s o0 89) ≤ x5 then
    Q (-9 : Int32) s
  else
    ∃ a3, (h_r s o0 90) = some a3 ∧ h_k s a3 = 1 ∧ vp_in x5 (h_n s a3) ∧ (if (h_i s a3 (h_ix x5)) = x2 then
      w_X12_allows o0 x5 x1 x3 x4 s (fun p8 s7 =>
        if p8 = 0 then
          w_X12_whyOf_52 Q K16 o0 x1 x2 x3 x4 x5 s7
        else
          Q x5 s7)
    else
      w_X12_whyOf_52 Q K16 o0 x1 x2 x3 x4 x5 s))
def w_X12_whyOf_16 (Q : Int32 → h_S → Prop) : Nat → Nat → Int32 → Int32 → Int32 → Int32 → Int32 → h_S → Prop
  | 0, _, _, _, _, _, _, _ => False
  | n + 1, o0, x1, x2, x3, x4, x5, s => w_X12_whyOf_16b Q (w_X12_whyOf_16 Q n) o0 x1 x2 x3 x4 x5 s
def w_X12_whyOf (o0 : Nat) (x1 : Int32) (x2 : Int32) (x3 : Int32) (x4 : Int32) (s : h_S) (Q : Int32 → h_S → Prop) : Prop :=
  h_k s o0 = 33 ∧ ∃ a2, (h_r s o0 9) = some a2 ∧ h_k s a2 = 1 ∧ vp_in x2 (h_n s a2) ∧ (if (h_i s a2 (h_ix x2)) = x1 then
    Q (99 : Int32) s
  else
    ∃ n, w_X12_whyOf_16 Q n o0 x1 x2 x3 x4 (0 : Int32) s)
def w_X12_seen_17 (Q : Int32 → h_S → Prop) (s : h_S) : Prop :=
  Q (-1 : Int32) s
def w_X12_seen_47 (Q : Int32 → h_S → Prop) (s : h_S) : Prop :=
  Q (-1 : Int32) s
def w_X12_seen_133 (Q : Int32 → h_S → Prop) (y0 : Int32) (s : h_S) : Prop :=
  Q y0 s
def w_X12_seen_52b (Q : Int32 → h_S → Prop) (K52 : Nat → Int32 → Int32 → Int32 → Int32 → Int32 → h_S → Prop) (o0 : Nat) (x1 : Int32) (x2 : Int32) (x3 : Int32) (x4 : Int32) (x5 : Int32) (s : h_S) : Prop :=
  if (x3 + x4) ≤ x5 then
    h_k s o0 = 33 ∧ w_X12_open o0 x1 s (fun s3 =>
      h_k s3 o0 = 33 ∧ w_X12_come o0 x1 x2 (1 : Int32) x3 x4 (-9 : Int32) (-9 : Int32) s3 (fun p7 s6 =>
        if p7 = 0 then
          w_X12_seen_133 Q (-4 : Int32) s6
        else
          h_k s6 o0 = 33 ∧ w_X12_shownThen o0 x1 s6 (fun p11 s10 =>
            h_k s10 o0 = 33 ∧ w_X12_acted o0 p11 s10 (fun p14 s13 =>
              w_X12_seen_133 Q p14 s13))))
  else
    h_k s o0 = 33 ∧ ∃ a16, (h_r s o0 9) = some a16 ∧ h_k s a16 = 1 ∧ vp_in x1 (h_n s a16) ∧ ∃ a19, (h_r s o0 25) = some a19 ∧ h_k s a19 = 1 ∧ vp_in x5 (h_n s a19) ∧ w_X12_whyOf o0 (h_i s a16 (h_ix x1)) (h_i s a19 (h_ix x5)) (1 : Int32) (h_i s o0 1) s (fun p23 s22 =>
      if p23 = (-9 : Int32) then
        Q (-3 : Int32) s22
      else
        K52 o0 x1 x2 x3 x4 (x5 + (1 : Int32)) s22)
def w_X12_seen_52 (Q : Int32 → h_S → Prop) : Nat → Nat → Int32 → Int32 → Int32 → Int32 → Int32 → h_S → Prop
  | 0, _, _, _, _, _, _, _ => False
  | n + 1, o0, x1, x2, x3, x4, x5, s => w_X12_seen_52b Q (w_X12_seen_52 Q n) o0 x1 x2 x3 x4 x5 s
def w_X12_seen (o0 : Nat) (x1 : Int32) (x2 : Int32) (x3 : Int32) (x4 : Int32) (s : h_S) (Q : Int32 → h_S → Prop) : Prop :=
  h_k s o0 = 33 ∧ w_X12_noWriting o0 x1 s (fun p3 s2 =>
    if p3 = 0 then
      h_k s2 o0 = 33 ∧ w_X12_noPlaceAhead o0 x1 x2 s2 (fun p7 s6 =>
        if p7 = 0 then
          if (1 : Int32) ≤ x4 then
            if x3 < 0 then
              w_X12_seen_47 Q s6
            else
              h_k s6 o0 = 33 ∧ (if (lg_cmp (((x3).toInt64) + ((x4).toInt64)) (((h_i s6 o0 22)).toInt64)) ≤ 0 then
                ∃ n, w_X12_seen_52 Q n o0 x1 x2 x3 x4 x3 s6
              else
                w_X12_seen_47 Q s6)
          else
            Q (-2 : Int32) s6
        else
          w_X12_seen_17 Q s6)
    else
      w_X12_seen_17 Q s2)
def w_X12_isWindow_29 (Q : Int32 → h_S → Prop) (y0 : Int32) (s : h_S) : Prop :=
  h_bt y0 ∧ Q y0 s
def w_X12_isWindow_28 (Q : Int32 → h_S → Prop) (s : h_S) : Prop :=
  w_X12_isWindow_29 Q (0 : Int32) s
def w_X12_isWindow (x0 : Int32) (x1 : Int32) (s : h_S) (Q : Int32 → h_S → Prop) : Prop :=
  w_X12_in ((x0).toInt64) (0 : Int64) (499 : Int64) s (fun p2 s1 =>
    if p2 = 0 then
      w_X12_isWindow_28 Q s1
    else
      w_X12_in ((x1).toInt64) (1 : Int64) (500 : Int64) s1 (fun p5 s4 =>
        if p5 = 0 then
          w_X12_isWindow_28 Q s4
        else
          w_X12_isWindow_29 Q (1 : Int32) s4))
def w_X12_span_34 (Q : Int32 → h_S → Prop) (s : h_S) : Prop :=
  Q (-1 : Int32) s
def w_X12_span_109 (Q : Int32 → h_S → Prop) (y0 : Int32) (s : h_S) : Prop :=
  Q y0 s
def w_X12_span (o0 : Nat) (x1 : Int32) (x2 : Int32) (x3 : Int32) (x4 : Int32) (x5 : Int32) (x6 : Int32) (s : h_S) (Q : Int32 → h_S → Prop) : Prop :=
  h_k s o0 = 33 ∧ w_X12_noWriting o0 x1 s (fun p3 s2 =>
    if p3 = 0 then
      h_k s2 o0 = 33 ∧ w_X12_noWriting o0 x3 s2 (fun p7 s6 =>
        if p7 = 0 then
          h_k s6 o0 = 33 ∧ w_X12_noPlaceAhead o0 x1 x2 s6 (fun p11 s10 =>
            if p11 = 0 then
              h_k s10 o0 = 33 ∧ w_X12_noMoment o0 x4 s10 (fun p15 s14 =>
                if p15 = 0 then
                  w_X12_isWindow x5 x6 s14 (fun p18 s17 =>
                    if p18 = 0 then
                      Q (-2 : Int32) s17
                    else
                      h_k s17 o0 = 33 ∧ ∃ a21, (h_r s17 o0 9) = some a21 ∧ h_k s17 a21 = 1 ∧ vp_in x1 (h_n s17 a21) ∧ w_X12_whyOf o0 (h_i s17 a21 (h_ix x1)) x3 (1 : Int32) (h_i s17 o0 1) s17 (fun p25 s24 =>
                        if p25 = (-9 : Int32) then
                          Q (-3 : Int32) s24
                        else
                          h_k s24 o0 = 33 ∧ w_X12_open o0 x1 s24 (fun s28 =>
                            h_k s28 o0 = 33 ∧ w_X12_come o0 x1 x2 (2 : Int32) x5 x6 x3 x4 s28 (fun p32 s31 =>
                              if p32 = 0 then
                                w_X12_span_109 Q (-4 : Int32) s31
                              else
                                h_k s31 o0 = 33 ∧ w_X12_shownThen o0 x1 s31 (fun p36 s35 =>
                                  h_k s35 o0 = 33 ∧ w_X12_acted o0 p36 s35 (fun p39 s38 =>
                                    w_X12_span_109 Q p39 s38))))))
                else
                  w_X12_span_34 Q s14)
            else
              w_X12_span_34 Q s10)
        else
          w_X12_span_34 Q s6)
    else
      w_X12_span_34 Q s2)
def w_X12_come2_26 (Q : h_S → Prop) (y0 : Int32) (y1 : Int32) (t2 : Option Nat) (s : h_S) : Prop :=
  ∃ a1, t2 = some a1 ∧ h_k s a1 = 1 ∧ vp_in y1 (h_n s a1) ∧ let s4 : h_S := h_si s a1 (h_ix y1) y0
  Q s4
def w_X12_come2 (o0 : Nat) (x1 : Int32) (x2 : Int32) (s : h_S) (Q : h_S → Prop) : Prop :=
  h_k s o0 = 33 ∧ ∃ a2, (h_r s o0 54) = some a2 ∧ h_k s a2 = 1 ∧ vp_in x1 (h_n s a2) ∧ (if (h_i s a2 (h_ix x1)) = (-9 : Int32) then
    w_X12_come2_26 Q x2 x1 (h_r s o0 54) s
  else
    ∃ a6, (h_r s o0 54) = some a6 ∧ h_k s a6 = 1 ∧ vp_in x1 (h_n s a6) ∧ w_X12_come2_26 Q (h_i s a6 (h_ix x1)) x1 (h_r s o0 54) s)
def w_X12_goFrom_137 (Q : h_S → Prop) (K14 : Nat → Int32 → Int32 → Int32 → Int32 → h_S → Prop) (o0 : Nat) (x2 : Int32) (x3 : Int32) (x4 : Int32) (x5 : Int32) (s : h_S) : Prop :=
  K14 o0 x2 x3 x4 (x5 + (1 : Int32)) s
def w_X12_goFrom_84b (Q : h_S → Prop) (K14 : Nat → Int32 → Int32 → Int32 → Int32 → h_S → Prop) (K84 : Nat → Int32 → Int32 → Int32 → Int32 → Int32 → Int32 → h_S → Prop) (o0 : Nat) (x2 : Int32) (x3 : Int32) (x4 : Int32) (x5 : Int32) (x6 : Int32) (x7 : Int32) (s : h_S) : Prop :=
  h_k s o0 = 33 ∧ ∃ a2, (h_r s o0 19) = some a2 ∧ h_k s a2 = 1 ∧ vp_in x6 (h_n s a2) ∧ (if (h_i s a2 (h_ix x6)) ≤ x7 then
    w_X12_goFrom_137 Q K14 o0 x2 x3 x4 x5 s
  else
    ∃ a6, (h_r s o0 17) = some a6 ∧ h_k s a6 = 1 ∧ vp_in x6 (h_n s a6) ∧ (if (h_i s a6 (h_ix x6)) = (1 : Int32) then
      if x3 = 0 then
        ∃ a11, (h_r s o0 18) = some a11 ∧ h_k s a11 = 1 ∧ vp_in x6 (h_n s a11) ∧ ∃ a14, (h_r s o0 25) = some a14 ∧ h_k s a14 = 1 ∧ vp_in ((h_i s a11 (h_ix x6)) + x7) (h_n s a14) ∧ w_X12_come2 o0 (h_i s a14 (h_ix ((h_i s a11 (h_ix x6)) + x7))) x2 s (fun s17 =>
          K84 o0 x2 x3 x4 x5 x6 (x7 + (1 : Int32)) s17)
      else
        w_X12_goFrom_137 Q K14 o0 x2 x3 x4 x5 s
    else
      w_X12_goFrom_137 Q K14 o0 x2 x3 x4 x5 s))
def w_X12_goFrom_84 (Q : h_S → Prop) (K14 : Nat → Int32 → Int32 → Int32 → Int32 → h_S → Prop) : Nat → Nat → Int32 → Int32 → Int32 → Int32 → Int32 → Int32 → h_S → Prop
  | 0, _, _, _, _, _, _, _, _ => False
  | n + 1, o0, x2, x3, x4, x5, x6, x7, s => w_X12_goFrom_84b Q K14 (w_X12_goFrom_84 Q K14 n) o0 x2 x3 x4 x5 x6 x7 s
def w_X12_goFrom_81 (Q : h_S → Prop) (K14 : Nat → Int32 → Int32 → Int32 → Int32 → h_S → Prop) (o0 : Nat) (x2 : Int32) (x3 : Int32) (x4 : Int32) (x5 : Int32) (x6 : Int32) (s : h_S) : Prop :=
  ∃ n, w_X12_goFrom_84 Q K14 n o0 x2 x3 x4 x5 x6 (0 : Int32) s
def w_X12_goFrom_69 (Q : h_S → Prop) (K14 : Nat → Int32 → Int32 → Int32 → Int32 → h_S → Prop) (o0 : Nat) (x2 : Int32) (x3 : Int32) (x4 : Int32) (x5 : Int32) (x6 : Int32) (s : h_S) : Prop :=
  h_k s o0 = 33 ∧ ∃ a2, (h_r s o0 20) = some a2 ∧ h_k s a2 = 1 ∧ vp_in x6 (h_n s a2) ∧ w_X12_come2 o0 (h_i s a2 (h_ix x6)) x2 s (fun s5 =>
    w_X12_goFrom_81 Q K14 o0 x2 x3 x4 x5 x6 s5)
def w_X12_goFrom_143 (Q : h_S → Prop) (s : h_S) : Prop :=
  Q s
def w_X12_goFrom_14b (Q : h_S → Prop) (K14 : Nat → Int32 → Int32 → Int32 → Int32 → h_S → Prop) (o0 : Nat) (x2 : Int32) (x3 : Int32) (x4 : Int32) (x5 : Int32) (s : h_S) : Prop :=
  if x4 < 0 then
    w_X12_goFrom_143 Q s
  else
    h_k s o0 = 33 ∧ ∃ a3, (h_r s o0 15) = some a3 ∧ h_k s a3 = 1 ∧ vp_in x4 (h_n s a3) ∧ (if (h_i s a3 (h_ix x4)) ≤ x5 then
      w_X12_goFrom_143 Q s
    else
      ∃ a7, (h_r s o0 14) = some a7 ∧ h_k s a7 = 1 ∧ vp_in x4 (h_n s a7) ∧ ∃ a10, (h_r s o0 17) = some a10 ∧ h_k s a10 = 1 ∧ vp_in ((h_i s a7 (h_ix x4)) + x5) (h_n s a10) ∧ (if (h_i s a10 (h_ix ((h_i s a7 (h_ix x4)) + x5))) = (3 : Int32) then
        w_X12_goFrom_69 Q K14 o0 x2 x3 x4 x5 ((h_i s a7 (h_ix x4)) + x5) s
      else
        ∃ a14, (h_r s o0 17) = some a14 ∧ h_k s a14 = 1 ∧ vp_in ((h_i s a7 (h_ix x4)) + x5) (h_n s a14) ∧ (if (h_i s a14 (h_ix ((h_i s a7 (h_ix x4)) + x5))) = (2 : Int32) then
          if x3 = 0 then
            w_X12_goFrom_69 Q K14 o0 x2 x3 x4 x5 ((h_i s a7 (h_ix x4)) + x5) s
          else
            w_X12_goFrom_81 Q K14 o0 x2 x3 x4 x5 ((h_i s a7 (h_ix x4)) + x5) s
        else
          w_X12_goFrom_81 Q K14 o0 x2 x3 x4 x5 ((h_i s a7 (h_ix x4)) + x5) s)))
def w_X12_goFrom_14 (Q : h_S → Prop) : Nat → Nat → Int32 → Int32 → Int32 → Int32 → h_S → Prop
  | 0, _, _, _, _, _, _ => False
  | n + 1, o0, x2, x3, x4, x5, s => w_X12_goFrom_14b Q (w_X12_goFrom_14 Q n) o0 x2 x3 x4 x5 s
def w_X12_goFrom (o0 : Nat) (x1 : Int32) (x2 : Int32) (x3 : Int32) (s : h_S) (Q : h_S → Prop) : Prop :=
  h_k s o0 = 33 ∧ w_X12_logOf o0 x1 (h_i s o0 1) s (fun p3 s2 =>
    ∃ n, w_X12_goFrom_14 Q n o0 x2 x3 p3 (0 : Int32) s2)
def w_X12_laySteps_26 (Q : h_S → Prop) (K2 : Nat → Int32 → Int32 → Int32 → h_S → Prop) (o0 : Nat) (x1 : Int32) (x2 : Int32) (x3 : Int32) (y0 : Int32) (y1 : Int32) (t2 : Option Nat) (s : h_S) : Prop :=
  ∃ a1, t2 = some a1 ∧ h_k s a1 = 1 ∧ vp_in y1 (h_n s a1) ∧ let s4 : h_S := h_si s a1 (h_ix y1) y0
  K2 o0 x1 x2 (x3 + (1 : Int32)) s4
def w_X12_laySteps_76 (Q : h_S → Prop) (K35 : Nat → Int32 → Int32 → h_S → Prop) (K46 : Nat → Int32 → Int32 → Int32 → h_S → Prop) (o0 : Nat) (x2 : Int32) (x3 : Int32) (x4 : Int32) (s : h_S) : Prop :=
  K46 o0 x2 x3 (x4 + (1 : Int32)) s
def w_X12_laySteps_46b (Q : h_S → Prop) (K35 : Nat → Int32 → Int32 → h_S → Prop) (K46 : Nat → Int32 → Int32 → Int32 → h_S → Prop) (o0 : Nat) (x2 : Int32) (x3 : Int32) (x4 : Int32) (s : h_S) : Prop :=
  h_k s o0 = 33 ∧ (if (h_i s o0 8) ≤ x4 then
    K35 o0 x2 (x3 + (1 : Int32)) s
  else
    ∃ a3, (h_r s o0 54) = some a3 ∧ h_k s a3 = 1 ∧ vp_in x4 (h_n s a3) ∧ (if (h_i s a3 (h_ix x4)) = x3 then
      w_X12_goFrom o0 x4 (x3 + (1 : Int32)) x2 s (fun s7 =>
        w_X12_laySteps_76 Q K35 K46 o0 x2 x3 x4 s7)
    else
      w_X12_laySteps_76 Q K35 K46 o0 x2 x3 x4 s))
def w_X12_laySteps_46 (Q : h_S → Prop) (K35 : Nat → Int32 → Int32 → h_S → Prop) : Nat → Nat → Int32 → Int32 → Int32 → h_S → Prop
  | 0, _, _, _, _, _ => False
  | n + 1, o0, x2, x3, x4, s => w_X12_laySteps_46b Q K35 (w_X12_laySteps_46 Q K35 n) o0 x2 x3 x4 s
def w_X12_laySteps_35b (Q : h_S → Prop) (K35 : Nat → Int32 → Int32 → h_S → Prop) (o0 : Nat) (x2 : Int32) (x3 : Int32) (s : h_S) : Prop :=
  h_k s o0 = 33 ∧ (if (h_i s o0 8) ≤ x3 then
    Q s
  else
    ∃ n, w_X12_laySteps_46 Q K35 n o0 x2 x3 (0 : Int32) s)
def w_X12_laySteps_35 (Q : h_S → Prop) : Nat → Nat → Int32 → Int32 → h_S → Prop
  | 0, _, _, _, _ => False
  | n + 1, o0, x2, x3, s => w_X12_laySteps_35b Q (w_X12_laySteps_35 Q n) o0 x2 x3 s
def w_X12_laySteps_2b (Q : h_S → Prop) (K2 : Nat → Int32 → Int32 → Int32 → h_S → Prop) (o0 : Nat) (x1 : Int32) (x2 : Int32) (x3 : Int32) (s : h_S) : Prop :=
  h_k s o0 = 33 ∧ (if (h_i s o0 8) ≤ x3 then
    ∃ n, w_X12_laySteps_35 Q n o0 x2 (0 : Int32) s
  else
    if x3 = x1 then
      w_X12_laySteps_26 Q K2 o0 x1 x2 x3 (0 : Int32) x3 (h_r s o0 54) s
    else
      w_X12_laySteps_26 Q K2 o0 x1 x2 x3 (-9 : Int32) x3 (h_r s o0 54) s)
def w_X12_laySteps_2 (Q : h_S → Prop) : Nat → Nat → Int32 → Int32 → Int32 → h_S → Prop
  | 0, _, _, _, _, _ => False
  | n + 1, o0, x1, x2, x3, s => w_X12_laySteps_2b Q (w_X12_laySteps_2 Q n) o0 x1 x2 x3 s
def w_X12_laySteps (o0 : Nat) (x1 : Int32) (x2 : Int32) (s : h_S) (Q : h_S → Prop) : Prop :=
  ∃ n, w_X12_laySteps_2 Q n o0 x1 x2 (0 : Int32) s
def w_X12_live_25 (Q : Int32 → h_S → Prop) (s : h_S) : Prop :=
  Q (-1 : Int32) s
def w_X12_live_125 (Q : Int32 → h_S → Prop) (y0 : Int32) (s : h_S) : Prop :=
  Q y0 s
def w_X12_live (o0 : Nat) (x1 : Int32) (x2 : Int32) (x3 : Int32) (x4 : Int32) (x5 : Int32) (s : h_S) (Q : Int32 → h_S → Prop) : Prop :=
  h_k s o0 = 33 ∧ w_X12_noWriting o0 x1 s (fun p3 s2 =>
    if p3 = 0 then
      h_k s2 o0 = 33 ∧ w_X12_noWriting o0 x3 s2 (fun p7 s6 =>
        if p7 = 0 then
          h_k s6 o0 = 33 ∧ w_X12_noPlaceAhead o0 x1 x2 s6 (fun p11 s10 =>
            if p11 = 0 then
              w_X12_isWindow x4 x5 s10 (fun p14 s13 =>
                if p14 = 0 then
                  Q (-2 : Int32) s13
                else
                  h_k s13 o0 = 33 ∧ ∃ a17, (h_r s13 o0 9) = some a17 ∧ h_k s13 a17 = 1 ∧ vp_in x1 (h_n s13 a17) ∧ w_X12_whyOf o0 (h_i s13 a17 (h_ix x1)) x3 (1 : Int32) (h_i s13 o0 1) s13 (fun p21 s20 =>
                    if p21 = (-9 : Int32) then
                      Q (-3 : Int32) s20
                    else
                      h_k s20 o0 = 33 ∧ w_X12_laySteps o0 x3 (1 : Int32) s20 (fun s24 =>
                        h_k s24 o0 = 33 ∧ ∃ a27, (h_r s24 o0 54) = some a27 ∧ h_k s24 a27 = 1 ∧ vp_in x1 (h_n s24 a27) ∧ (if (h_i s24 a27 (h_ix x1)) < 0 then
                          w_X12_open o0 x1 s24 (fun s31 =>
                            h_k s31 o0 = 33 ∧ w_X12_come o0 x1 x2 (3 : Int32) x4 x5 x3 (-9 : Int32) s31 (fun p35 s34 =>
                              if p35 = 0 then
                                w_X12_live_125 Q (-4 : Int32) s34
                              else
                                h_k s34 o0 = 33 ∧ w_X12_shownThen o0 x1 s34 (fun p39 s38 =>
                                  h_k s38 o0 = 33 ∧ w_X12_acted o0 p39 s38 (fun p42 s41 =>
                                    w_X12_live_125 Q p42 s41))))
                        else
                          ∃ a43, (h_r s24 o0 54) = some a43 ∧ h_k s24 a43 = 1 ∧ vp_in x1 (h_n s24 a43) ∧ Q ((-100 : Int32) - (h_i s24 a43 (h_ix x1))) s24))))
            else
              w_X12_live_25 Q s10)
        else
          w_X12_live_25 Q s6)
    else
      w_X12_live_25 Q s2)
def w_X12_noPlaces_57 (Q : Int32 → h_S → Prop) (y0 : Int32) (s : h_S) : Prop :=
  Q y0 s
def w_X12_noPlaces (o0 : Nat) (x1 : Int32) (x2 : Int32) (x3 : Int32) (s : h_S) (Q : Int32 → h_S → Prop) : Prop :=
  h_k s o0 = 33 ∧ w_X12_noWriting o0 x1 s (fun p3 s2 =>
    if p3 = 0 then
      h_k s2 o0 = 33 ∧ w_X12_open o0 x1 s2 (fun s6 =>
        h_k s6 o0 = 33 ∧ w_X12_in ((x2).toInt64) (0 : Int64) ((((h_i s6 o0 35)).toInt64) - (1 : Int64)) s6 (fun p10 s9 =>
          if p10 = 0 then
            w_X12_noPlaces_57 Q (-1 : Int32) s9
          else
            h_k s9 o0 = 33 ∧ w_X12_in ((x3).toInt64) (1 : Int64) ((((h_i s9 o0 35) - x2)).toInt64) s9 (fun p14 s13 =>
              if p14 = 0 then
                w_X12_noPlaces_57 Q (-2 : Int32) s13
              else
                w_X12_noPlaces_57 Q (0 : Int32) s13)))
    else
      Q (-1 : Int32) s2)
def w_X12_cut_45 (Q : Int32 → h_S → Prop) (y0 : Int32) (s : h_S) : Prop :=
  Q y0 s
def w_X12_cut (o0 : Nat) (x1 : Int32) (x2 : Int32) (x3 : Int32) (s : h_S) (Q : Int32 → h_S → Prop) : Prop :=
  h_k s o0 = 33 ∧ w_X12_noPlaces o0 x1 x2 x3 s (fun p3 s2 =>
    if 0 ≤ p3 then
      h_k s2 o0 = 33 ∧ w_X12_takeOut o0 x2 x3 s2 (fun s6 =>
        h_k s6 o0 = 33 ∧ w_X12_store o0 x1 s6 (fun p10 s9 =>
          if p10 = 0 then
            w_X12_cut_45 Q (-4 : Int32) s9
          else
            h_k s9 o0 = 33 ∧ w_X12_shownThen o0 x1 s9 (fun p14 s13 =>
              h_k s13 o0 = 33 ∧ w_X12_acted o0 p14 s13 (fun p17 s16 =>
                w_X12_cut_45 Q p17 s16))))
    else
      Q p3 s2)
def w_X12_layRow_28b (Q : h_S → Prop) (K28 : Nat → Int32 → Int32 → h_S → Prop) (o0 : Nat) (x1 : Int32) (x2 : Int32) (s : h_S) : Prop :=
  h_k s o0 = 33 ∧ (if (h_i s o0 40) ≤ x2 then
    w_X12_layLog o0 (h_i s o0 10) x1 (h_i s o0 1) s (fun s3 =>
      h_k s3 o0 = 33 ∧ w_X12_bound o0 s3 (fun s6 =>
        Q s6))
  else
    ∃ a8, (h_r s o0 41) = some a8 ∧ h_k s a8 = 1 ∧ vp_in x2 (h_n s a8) ∧ ∃ a11, (h_r s o0 17) = some a11 ∧ h_k s a11 = 1 ∧ vp_in ((h_i s o0 16) + x2) (h_n s a11) ∧ let s14 : h_S := h_si s a11 (h_ix ((h_i s o0 16) + x2)) (h_i s a8 (h_ix x2))
    ∃ a15, (h_r s14 o0 42) = some a15 ∧ h_k s14 a15 = 1 ∧ vp_in x2 (h_n s14 a15) ∧ ∃ a18, (h_r s14 o0 18) = some a18 ∧ h_k s14 a18 = 1 ∧ vp_in ((h_i s14 o0 16) + x2) (h_n s14 a18) ∧ let s21 : h_S := h_si s14 a18 (h_ix ((h_i s14 o0 16) + x2)) (h_i s14 a15 (h_ix x2))
    ∃ a22, (h_r s21 o0 43) = some a22 ∧ h_k s21 a22 = 1 ∧ vp_in x2 (h_n s21 a22) ∧ ∃ a25, (h_r s21 o0 19) = some a25 ∧ h_k s21 a25 = 1 ∧ vp_in ((h_i s21 o0 16) + x2) (h_n s21 a25) ∧ let s28 : h_S := h_si s21 a25 (h_ix ((h_i s21 o0 16) + x2)) (h_i s21 a22 (h_ix x2))
    ∃ a29, (h_r s28 o0 44) = some a29 ∧ h_k s28 a29 = 1 ∧ vp_in x2 (h_n s28 a29) ∧ ∃ a32, (h_r s28 o0 20) = some a32 ∧ h_k s28 a32 = 1 ∧ vp_in ((h_i s28 o0 16) + x2) (h_n s28 a32) ∧ let s35 : h_S := h_si s28 a32 (h_ix ((h_i s28 o0 16) + x2)) (h_i s28 a29 (h_ix x2))
    ∃ a36, (h_r s35 o0 45) = some a36 ∧ h_k s35 a36 = 1 ∧ vp_in x2 (h_n s35 a36) ∧ ∃ a39, (h_r s35 o0 21) = some a39 ∧ h_k s35 a39 = 1 ∧ vp_in ((h_i s35 o0 16) + x2) (h_n s35 a39) ∧ let s42 : h_S := h_si s35 a39 (h_ix ((h_i s35 o0 16) + x2)) (h_i s35 a36 (h_ix x2))
    K28 o0 x1 (x2 + (1 : Int32)) s42)
def w_X12_layRow_28 (Q : h_S → Prop) : Nat → Nat → Int32 → Int32 → h_S → Prop
  | 0, _, _, _, _ => False
  | n + 1, o0, x1, x2, s => w_X12_layRow_28b Q (w_X12_layRow_28 Q n) o0 x1 x2 s
def w_X12_layRow (o0 : Nat) (x1 : Int32) (s : h_S) (Q : h_S → Prop) : Prop :=
  h_k s o0 = 33 ∧ ∃ a2, (h_r s o0 14) = some a2 ∧ h_k s a2 = 1 ∧ vp_in (h_i s o0 10) (h_n s a2) ∧ let s5 : h_S := h_si s a2 (h_ix (h_i s o0 10)) (h_i s o0 16)
  ∃ a6, (h_r s5 o0 15) = some a6 ∧ h_k s5 a6 = 1 ∧ vp_in (h_i s5 o0 10) (h_n s5 a6) ∧ let s9 : h_S := h_si s5 a6 (h_ix (h_i s5 o0 10)) (h_i s5 o0 40)
  ∃ n, w_X12_layRow_28 Q n o0 x1 (0 : Int32) s9
def w_X12_move_30 (Q : Int32 → h_S → Prop) (s : h_S) : Prop :=
  Q (-1 : Int32) s
def w_X12_move_186 (Q : Int32 → h_S → Prop) (y0 : Int32) (s : h_S) : Prop :=
  Q y0 s
def w_X12_move_102b (Q : Int32 → h_S → Prop) (K102 : Nat → Int32 → Int32 → Int32 → h_S → Prop) (o0 : Nat) (x1 : Int32) (x6 : Int32) (x7 : Int32) (s : h_S) : Prop :=
  h_k s o0 = 33 ∧ (if (h_i s o0 48) ≤ x7 then
    w_X12_store o0 x1 s (fun p4 s3 =>
      if p4 = 0 then
        w_X12_move_186 Q (-4 : Int32) s3
      else
        h_k s3 o0 = 33 ∧ w_X12_acted o0 (h_i s o0 40) s3 (fun p8 s7 =>
          w_X12_move_186 Q p8 s7))
  else
    ∃ a9, (h_r s o0 49) = some a9 ∧ h_k s a9 = 1 ∧ vp_in x7 (h_n s a9) ∧ ∃ a12, (h_r s o0 50) = some a12 ∧ h_k s a12 = 1 ∧ vp_in x7 (h_n s a12) ∧ ∃ a15, (h_r s o0 51) = some a15 ∧ h_k s a15 = 1 ∧ vp_in x7 (h_n s a15) ∧ ∃ a18, (h_r s o0 52) = some a18 ∧ h_k s a18 = 1 ∧ vp_in x7 (h_n s a18) ∧ ∃ a21, (h_r s o0 53) = some a21 ∧ h_k s a21 = 1 ∧ vp_in x7 (h_n s a21) ∧ w_X12_setPiece o0 (x6 + x7) (h_i s a9 (h_ix x7)) (h_i s a12 (h_ix x7)) (h_i s a15 (h_ix x7)) (h_i s a18 (h_ix x7)) (h_i s a21 (h_ix x7)) s (fun s24 =>
      K102 o0 x1 x6 (x7 + (1 : Int32)) s24))
def w_X12_move_102 (Q : Int32 → h_S → Prop) : Nat → Nat → Int32 → Int32 → Int32 → h_S → Prop
  | 0, _, _, _, _, _ => False
  | n + 1, o0, x1, x6, x7, s => w_X12_move_102b Q (w_X12_move_102 Q n) o0 x1 x6 x7 s
def w_X12_move_84 (Q : Int32 → h_S → Prop) (o0 : Nat) (x1 : Int32) (y0 : Int32) (u1 : Nat) (s : h_S) : Prop :=
  h_k s u1 = 33 ∧ w_X12_openAt u1 y0 s (fun p3 s2 =>
    h_k s2 o0 = 33 ∧ w_X12_widen o0 p3 (h_i s2 o0 48) s2 (fun s5 =>
      ∃ n, w_X12_move_102 Q n o0 x1 p3 (0 : Int32) s5))
def w_X12_move_57 (Q : Int32 → h_S → Prop) (o0 : Nat) (x1 : Int32) (x2 : Int32) (x3 : Int32) (x4 : Int32) (s : h_S) : Prop :=
  h_k s o0 = 33 ∧ w_X12_takeOut o0 x2 x3 s (fun s2 =>
    h_k s2 o0 = 33 ∧ w_X12_layRow o0 x1 s2 (fun s5 =>
      if x4 ≤ x2 then
        w_X12_move_84 Q o0 x1 x4 o0 s5
      else
        w_X12_move_84 Q o0 x1 (x4 - x3) o0 s5))
def w_X12_move (o0 : Nat) (x1 : Int32) (x2 : Int32) (x3 : Int32) (x4 : Int32) (s : h_S) (Q : Int32 → h_S → Prop) : Prop :=
  h_k s o0 = 33 ∧ w_X12_noPlaces o0 x1 x2 x3 s (fun p3 s2 =>
    if p3 = (-1 : Int32) then
      w_X12_move_30 Q s2
    else
      h_k s2 o0 = 33 ∧ w_X12_in ((x4).toInt64) (0 : Int64) (((h_i s2 o0 35)).toInt64) s2 (fun p7 s6 =>
        if p7 = 0 then
          w_X12_move_30 Q s6
        else
          if 0 ≤ p3 then
            if x4 ≤ x2 then
              w_X12_move_57 Q o0 x1 x2 x3 x4 s6
            else
              if (x2 + x3) ≤ x4 then
                w_X12_move_57 Q o0 x1 x2 x3 x4 s6
              else
                Q (-3 : Int32) s6
          else
            Q p3 s6))
def w_X12_again_16 (Q : Int32 → h_S → Prop) (s : h_S) : Prop :=
  Q (-1 : Int32) s
def w_X12_again (o0 : Nat) (x1 : Int32) (x2 : Int32) (s : h_S) (Q : Int32 → h_S → Prop) : Prop :=
  h_k s o0 = 33 ∧ w_X12_noWriting o0 x1 s (fun p3 s2 =>
    if p3 = 0 then
      h_k s2 o0 = 33 ∧ w_X12_noMoment o0 x2 s2 (fun p7 s6 =>
        if p7 = 0 then
          h_k s6 o0 = 33 ∧ w_X12_load o0 x1 x2 s6 (fun s10 =>
            h_k s10 o0 = 33 ∧ w_X12_store o0 x1 s10 (fun p14 s13 =>
              h_k s13 o0 = 33 ∧ w_X12_acted o0 (h_i s13 o0 40) s13 (fun p17 s16 =>
                Q p17 s16)))
        else
          w_X12_again_16 Q s6)
    else
      w_X12_again_16 Q s2)
def w_X12_length_16 (Q : Int32 → h_S → Prop) (s : h_S) : Prop :=
  Q (-1 : Int32) s
def w_X12_length (o0 : Nat) (x1 : Int32) (x2 : Int32) (s : h_S) (Q : Int32 → h_S → Prop) : Prop :=
  h_k s o0 = 33 ∧ w_X12_noWriting o0 x1 s (fun p3 s2 =>
    if p3 = 0 then
      h_k s2 o0 = 33 ∧ w_X12_noMoment o0 x2 s2 (fun p7 s6 =>
        if p7 = 0 then
          h_k s6 o0 = 33 ∧ w_X12_lay o0 x1 x2 s6 (fun s10 =>
            h_k s10 o0 = 33 ∧ Q (h_i s10 o0 35) s10)
        else
          w_X12_length_16 Q s6)
    else
      w_X12_length_16 Q s2)
def w_X12_shown_16 (Q : Int32 → h_S → Prop) (s : h_S) : Prop :=
  Q (-1 : Int32) s
def w_X12_shown_50 (Q : Int32 → h_S → Prop) (y0 : Int32) (s : h_S) : Prop :=
  Q y0 s
def w_X12_shown (o0 : Nat) (x1 : Int32) (x2 : Int32) (x3 : Int32) (s : h_S) (Q : Int32 → h_S → Prop) : Prop :=
  h_k s o0 = 33 ∧ w_X12_noWriting o0 x1 s (fun p3 s2 =>
    if p3 = 0 then
      h_k s2 o0 = 33 ∧ w_X12_noMoment o0 x2 s2 (fun p7 s6 =>
        if p7 = 0 then
          h_k s6 o0 = 33 ∧ w_X12_lay o0 x1 x2 s6 (fun s10 =>
            h_k s10 o0 = 33 ∧ w_X12_in ((x3).toInt64) (0 : Int64) ((((h_i s10 o0 35)).toInt64) - (1 : Int64)) s10 (fun p14 s13 =>
              if p14 = 0 then
                w_X12_shown_50 Q (-1 : Int32) s13
              else
                h_k s13 o0 = 33 ∧ ∃ a17, (h_r s13 o0 36) = some a17 ∧ h_k s13 a17 = 1 ∧ vp_in x3 (h_n s13 a17) ∧ w_X12_shown_50 Q (h_i s13 a17 (h_ix x3)) s13))
        else
          w_X12_shown_16 Q s6)
    else
      w_X12_shown_16 Q s2)
def w_X12_pieces (o0 : Nat) (x1 : Int32) (s : h_S) (Q : Int32 → h_S → Prop) : Prop :=
  h_k s o0 = 33 ∧ w_X12_noWriting o0 x1 s (fun p3 s2 =>
    if p3 = 0 then
      h_k s2 o0 = 33 ∧ w_X12_load o0 x1 (h_i s2 o0 1) s2 (fun s6 =>
        h_k s6 o0 = 33 ∧ Q (h_i s6 o0 40) s6)
    else
      Q (-1 : Int32) s2)
def w_X12_piece (o0 : Nat) (x1 : Int32) (x2 : Int32) (x3 : Int32) (s : h_S) (Q : Int32 → h_S → Prop) : Prop :=
  h_k s o0 = 33 ∧ w_X12_noWriting o0 x1 s (fun p3 s2 =>
    if p3 = 0 then
      h_k s2 o0 = 33 ∧ w_X12_load o0 x1 (h_i s2 o0 1) s2 (fun s6 =>
        h_k s6 o0 = 33 ∧ w_X12_in ((x2).toInt64) (0 : Int64) ((((h_i s6 o0 40)).toInt64) - (1 : Int64)) s6 (fun p10 s9 =>
          if p10 = 0 then
            Q (-1 : Int32) s9
          else
            if x3 = (0 : Int32) then
              h_k s9 o0 = 33 ∧ ∃ a14, (h_r s9 o0 41) = some a14 ∧ h_k s9 a14 = 1 ∧ vp_in x2 (h_n s9 a14) ∧ Q (h_i s9 a14 (h_ix x2)) s9
            else if x3 = (1 : Int32) then
              h_k s9 o0 = 33 ∧ ∃ a19, (h_r s9 o0 42) = some a19 ∧ h_k s9 a19 = 1 ∧ vp_in x2 (h_n s9 a19) ∧ Q (h_i s9 a19 (h_ix x2)) s9
            else if x3 = (2 : Int32) then
              h_k s9 o0 = 33 ∧ ∃ a24, (h_r s9 o0 43) = some a24 ∧ h_k s9 a24 = 1 ∧ vp_in x2 (h_n s9 a24) ∧ Q (h_i s9 a24 (h_ix x2)) s9
            else if x3 = (3 : Int32) then
              h_k s9 o0 = 33 ∧ ∃ a29, (h_r s9 o0 44) = some a29 ∧ h_k s9 a29 = 1 ∧ vp_in x2 (h_n s9 a29) ∧ Q (h_i s9 a29 (h_ix x2)) s9
            else if x3 = (4 : Int32) then
              h_k s9 o0 = 33 ∧ ∃ a34, (h_r s9 o0 45) = some a34 ∧ h_k s9 a34 = 1 ∧ vp_in x2 (h_n s9 a34) ∧ Q (h_i s9 a34 (h_ix x2)) s9
            else 
              Q (-2 : Int32) s9))
    else
      Q (-1 : Int32) s2)
def w_X12_word (o0 : Nat) (x1 : Int32) (x2 : Int32) (s : h_S) (Q : Int32 → h_S → Prop) : Prop :=
  h_k s o0 = 33 ∧ w_X12_noWord o0 x1 s (fun p3 s2 =>
    if p3 = 0 then
      if x2 = (0 : Int32) then
        h_k s2 o0 = 33 ∧ ∃ a7, (h_r s2 o0 23) = some a7 ∧ h_k s2 a7 = 1 ∧ vp_in x1 (h_n s2 a7) ∧ Q (h_i s2 a7 (h_ix x1)) s2
      else if x2 = (1 : Int32) then
        h_k s2 o0 = 33 ∧ ∃ a12, (h_r s2 o0 24) = some a12 ∧ h_k s2 a12 = 1 ∧ vp_in x1 (h_n s2 a12) ∧ Q (h_i s2 a12 (h_ix x1)) s2
      else if x2 = (2 : Int32) then
        h_k s2 o0 = 33 ∧ ∃ a17, (h_r s2 o0 25) = some a17 ∧ h_k s2 a17 = 1 ∧ vp_in x1 (h_n s2 a17) ∧ Q (h_i s2 a17 (h_ix x1)) s2
      else if x2 = (3 : Int32) then
        h_k s2 o0 = 33 ∧ ∃ a22, (h_r s2 o0 26) = some a22 ∧ h_k s2 a22 = 1 ∧ vp_in x1 (h_n s2 a22) ∧ Q (h_i s2 a22 (h_ix x1)) s2
      else if x2 = (4 : Int32) then
        h_k s2 o0 = 33 ∧ ∃ a27, (h_r s2 o0 27) = some a27 ∧ h_k s2 a27 = 1 ∧ vp_in x1 (h_n s2 a27) ∧ Q (h_i s2 a27 (h_ix x1)) s2
      else 
        Q (-2 : Int32) s2
    else
      Q (-1 : Int32) s2)
def w_X12_noVersion_21 (Q : Int32 → h_S → Prop) (y0 : Int32) (s : h_S) : Prop :=
  h_bt y0 ∧ Q y0 s
def w_X12_noVersion (o0 : Nat) (x1 : Int32) (s : h_S) (Q : Int32 → h_S → Prop) : Prop :=
  h_k s o0 = 33 ∧ w_X12_in ((x1).toInt64) (0 : Int64) ((((h_i s o0 55)).toInt64) - (1 : Int64)) s (fun p3 s2 =>
    if p3 = 0 then
      w_X12_noVersion_21 Q (1 : Int32) s2
    else
      w_X12_noVersion_21 Q (0 : Int32) s2)
def w_X12_layVersion (o0 : Nat) (x1 : Int32) (s : h_S) (Q : h_S → Prop) : Prop :=
  h_k s o0 = 33 ∧ ∃ a2, (h_r s o0 56) = some a2 ∧ h_k s a2 = 1 ∧ vp_in x1 (h_n s a2) ∧ ∃ a5, (h_r s o0 57) = some a5 ∧ h_k s a5 = 1 ∧ vp_in x1 (h_n s a5) ∧ w_X12_lay o0 (h_i s a2 (h_ix x1)) (h_i s a5 (h_ix x1)) s (fun s8 =>
    Q s8)
def w_X12_version (o0 : Nat) (x1 : Int32) (s : h_S) (Q : Int32 → h_S → Prop) : Prop :=
  h_k s o0 = 33 ∧ w_X12_noWriting o0 x1 s (fun p3 s2 =>
    if p3 = 0 then
      h_k s2 o0 = 33 ∧ (if (h_i s2 o0 55) = (16 : Int32) then
        Q (-4 : Int32) s2
      else
        ∃ a7, (h_r s2 o0 56) = some a7 ∧ h_k s2 a7 = 1 ∧ vp_in (h_i s2 o0 55) (h_n s2 a7) ∧ let s10 : h_S := h_si s2 a7 (h_ix (h_i s2 o0 55)) x1
        ∃ a11, (h_r s10 o0 57) = some a11 ∧ h_k s10 a11 = 1 ∧ vp_in (h_i s10 o0 55) (h_n s10 a11) ∧ let s14 : h_S := h_si s10 a11 (h_ix (h_i s10 o0 55)) ((h_i s10 o0 1) + (1 : Int32))
        ∃ a15, (h_r s14 o0 58) = some a15 ∧ h_k s14 a15 = 1 ∧ vp_in (h_i s14 o0 55) (h_n s14 a15) ∧ let s18 : h_S := h_si s14 a15 (h_ix (h_i s14 o0 55)) (-9 : Int32)
        ∃ a19, (h_r s18 o0 59) = some a19 ∧ h_k s18 a19 = 1 ∧ vp_in (h_i s18 o0 55) (h_n s18 a19) ∧ let s22 : h_S := h_si s18 a19 (h_ix (h_i s18 o0 55)) (-9 : Int32)
        let s23 : h_S := h_si s22 o0 55 ((h_i s22 o0 55) + (1 : Int32))
        w_X12_acted o0 ((h_i s23 o0 55) - (1 : Int32)) s23 (fun p25 s24 =>
          Q p25 s24))
    else
      Q (-1 : Int32) s2)
def w_X12_give (o0 : Nat) (x1 : Int32) (s : h_S) (Q : Int32 → h_S → Prop) : Prop :=
  h_k s o0 = 33 ∧ w_X12_noVersion o0 x1 s (fun p3 s2 =>
    if p3 = 0 then
      h_k s2 o0 = 33 ∧ ∃ a6, (h_r s2 o0 58) = some a6 ∧ h_k s2 a6 = 1 ∧ vp_in x1 (h_n s2 a6) ∧ (if (h_i s2 a6 (h_ix x1)) < 0 then
        ∃ a10, (h_r s2 o0 58) = some a10 ∧ h_k s2 a10 = 1 ∧ vp_in x1 (h_n s2 a10) ∧ let s13 : h_S := h_si s2 a10 (h_ix x1) ((h_i s2 o0 1) + (1 : Int32))
        w_X12_layVersion o0 x1 s13 (fun s14 =>
          h_k s14 o0 = 33 ∧ w_X12_acted o0 (h_i s14 o0 35) s14 (fun p18 s17 =>
            Q p18 s17))
      else
        Q (-3 : Int32) s2)
    else
      Q (-1 : Int32) s2)
def w_X12_back_28 (Q : Int32 → h_S → Prop) (s : h_S) : Prop :=
  Q (-3 : Int32) s
def w_X12_back (o0 : Nat) (x1 : Int32) (s : h_S) (Q : Int32 → h_S → Prop) : Prop :=
  h_k s o0 = 33 ∧ w_X12_noVersion o0 x1 s (fun p3 s2 =>
    if p3 = 0 then
      h_k s2 o0 = 33 ∧ ∃ a6, (h_r s2 o0 58) = some a6 ∧ h_k s2 a6 = 1 ∧ vp_in x1 (h_n s2 a6) ∧ (if (h_i s2 a6 (h_ix x1)) < 0 then
        w_X12_back_28 Q s2
      else
        ∃ a10, (h_r s2 o0 59) = some a10 ∧ h_k s2 a10 = 1 ∧ vp_in x1 (h_n s2 a10) ∧ (if (h_i s2 a10 (h_ix x1)) < 0 then
          ∃ a14, (h_r s2 o0 59) = some a14 ∧ h_k s2 a14 = 1 ∧ vp_in x1 (h_n s2 a14) ∧ let s17 : h_S := h_si s2 a14 (h_ix x1) ((h_i s2 o0 1) + (1 : Int32))
          w_X12_layVersion o0 x1 s17 (fun s18 =>
            h_k s18 o0 = 33 ∧ w_X12_acted o0 (h_i s18 o0 35) s18 (fun p22 s21 =>
              Q p22 s21))
        else
          w_X12_back_28 Q s2))
    else
      Q (-1 : Int32) s2)
def w_X12_about_47 (Q : Int32 → h_S → Prop) (K20 : Nat → Int32 → Int32 → Int32 → Int32 → h_S → Prop) (o0 : Nat) (x1 : Int32) (x2 : Int32) (x4 : Int32) (y0 : Int32) (y1 : Int32) (s : h_S) : Prop :=
  K20 o0 x1 x2 (y1 + y0) (x4 + (1 : Int32)) s
def w_X12_about_119 (Q : Int32 → h_S → Prop) (y0 : Int32) (s : h_S) : Prop :=
  Q y0 s
def w_X12_about_20b (Q : Int32 → h_S → Prop) (K20 : Nat → Int32 → Int32 → Int32 → Int32 → h_S → Prop) (o0 : Nat) (x1 : Int32) (x2 : Int32) (x3 : Int32) (x4 : Int32) (s : h_S) : Prop :=
  h_k s o0 = 33 ∧ (if (h_i s o0 35) ≤ x4 then
    if x2 = (0 : Int32) then
      ∃ a4, (h_r s o0 59) = some a4 ∧ h_k s a4 = 1 ∧ vp_in x1 (h_n s a4) ∧ (if (h_i s a4 (h_ix x1)) < 0 then
        ∃ a8, (h_r s o0 58) = some a8 ∧ h_k s a8 = 1 ∧ vp_in x1 (h_n s a8) ∧ (if (h_i s a8 (h_ix x1)) < 0 then
          w_X12_about_119 Q (0 : Int32) s
        else
          w_X12_about_119 Q (1 : Int32) s)
      else
        w_X12_about_119 Q (2 : Int32) s)
    else if x2 = (1 : Int32) then
      ∃ a13, (h_r s o0 56) = some a13 ∧ h_k s a13 = 1 ∧ vp_in x1 (h_n s a13) ∧ Q (h_i s a13 (h_ix x1)) s
    else if x2 = (2 : Int32) then
      ∃ a17, (h_r s o0 57) = some a17 ∧ h_k s a17 = 1 ∧ vp_in x1 (h_n s a17) ∧ Q (h_i s a17 (h_ix x1)) s
    else if x2 = (3 : Int32) then
      Q (h_i s o0 35) s
    else if x2 = (4 : Int32) then
      Q x3 s
    else 
      Q (-2 : Int32) s
  else
    ∃ a23, (h_r s o0 36) = some a23 ∧ h_k s a23 = 1 ∧ vp_in x4 (h_n s a23) ∧ (if (h_i s a23 (h_ix x4)) = (-7 : Int32) then
      w_X12_about_47 Q K20 o0 x1 x2 x4 (1 : Int32) x3 s
    else
      w_X12_about_47 Q K20 o0 x1 x2 x4 (0 : Int32) x3 s))
def w_X12_about_20 (Q : Int32 → h_S → Prop) : Nat → Nat → Int32 → Int32 → Int32 → Int32 → h_S → Prop
  | 0, _, _, _, _, _, _ => False
  | n + 1, o0, x1, x2, x3, x4, s => w_X12_about_20b Q (w_X12_about_20 Q n) o0 x1 x2 x3 x4 s
def w_X12_about (o0 : Nat) (x1 : Int32) (x2 : Int32) (s : h_S) (Q : Int32 → h_S → Prop) : Prop :=
  h_k s o0 = 33 ∧ w_X12_noVersion o0 x1 s (fun p3 s2 =>
    if p3 = 0 then
      h_k s2 o0 = 33 ∧ w_X12_layVersion o0 x1 s2 (fun s6 =>
        ∃ n, w_X12_about_20 Q n o0 x1 x2 (0 : Int32) (0 : Int32) s6)
    else
      Q (-1 : Int32) s2)
def w_X12_at_41 (Q : Int32 → h_S → Prop) (y0 : Int32) (s : h_S) : Prop :=
  Q y0 s
def w_X12_at (o0 : Nat) (x1 : Int32) (x2 : Int32) (s : h_S) (Q : Int32 → h_S → Prop) : Prop :=
  h_k s o0 = 33 ∧ w_X12_noVersion o0 x1 s (fun p3 s2 =>
    if p3 = 0 then
      h_k s2 o0 = 33 ∧ w_X12_layVersion o0 x1 s2 (fun s6 =>
        h_k s6 o0 = 33 ∧ w_X12_in ((x2).toInt64) (0 : Int64) ((((h_i s6 o0 35)).toInt64) - (1 : Int64)) s6 (fun p10 s9 =>
          if p10 = 0 then
            w_X12_at_41 Q (-1 : Int32) s9
          else
            h_k s9 o0 = 33 ∧ ∃ a13, (h_r s9 o0 36) = some a13 ∧ h_k s9 a13 = 1 ∧ vp_in x2 (h_n s9 a13) ∧ w_X12_at_41 Q (h_i s9 a13 (h_ix x2)) s9))
    else
      Q (-1 : Int32) s2)
def w_X12_takeOne_60 (Q : h_S → Prop) (K12 : Nat → Int32 → Int32 → h_S → Prop) (o0 : Nat) (x2 : Int32) (x3 : Int32) (s : h_S) : Prop :=
  K12 o0 x2 (x3 + (1 : Int32)) s
def w_X12_takeOne_35 (Q : h_S → Prop) (K12 : Nat → Int32 → Int32 → h_S → Prop) (o0 : Nat) (x2 : Int32) (x3 : Int32) (s : h_S) : Prop :=
  h_k s o0 = 33 ∧ ∃ a2, (h_r s o0 36) = some a2 ∧ h_k s a2 = 1 ∧ vp_in x3 (h_n s a2) ∧ ∃ a5, (h_r s o0 62) = some a5 ∧ h_k s a5 = 1 ∧ vp_in (h_i s o0 60) (h_n s a5) ∧ let s8 : h_S := h_si s a5 (h_ix (h_i s o0 60)) (h_i s a2 (h_ix x3))
  let s9 : h_S := h_si s8 o0 60 ((h_i s8 o0 60) + (1 : Int32))
  w_X12_takeOne_60 Q K12 o0 x2 x3 s9
def w_X12_takeOne_12b (Q : h_S → Prop) (K12 : Nat → Int32 → Int32 → h_S → Prop) (o0 : Nat) (x2 : Int32) (x3 : Int32) (s : h_S) : Prop :=
  h_k s o0 = 33 ∧ (if (h_i s o0 35) ≤ x3 then
    Q s
  else
    if x2 = 0 then
      ∃ a4, (h_r s o0 36) = some a4 ∧ h_k s a4 = 1 ∧ vp_in x3 (h_n s a4) ∧ (if (h_i s a4 (h_ix x3)) = (-7 : Int32) then
        w_X12_takeOne_60 Q K12 o0 x2 x3 s
      else
        w_X12_takeOne_35 Q K12 o0 x2 x3 s)
    else
      w_X12_takeOne_35 Q K12 o0 x2 x3 s)
def w_X12_takeOne_12 (Q : h_S → Prop) : Nat → Nat → Int32 → Int32 → h_S → Prop
  | 0, _, _, _, _ => False
  | n + 1, o0, x2, x3, s => w_X12_takeOne_12b Q (w_X12_takeOne_12 Q n) o0 x2 x3 s
def w_X12_takeOne (o0 : Nat) (x1 : Int32) (x2 : Int32) (s : h_S) (Q : h_S → Prop) : Prop :=
  h_k s o0 = 33 ∧ w_X12_layVersion o0 x1 s (fun s2 =>
    h_k s2 o0 = 33 ∧ let s5 : h_S := h_si s2 o0 60 (0 : Int32)
    ∃ n, w_X12_takeOne_12 Q n o0 x2 (0 : Int32) s5)
def w_X12_takeTwo_60 (Q : h_S → Prop) (K12 : Nat → Int32 → Int32 → h_S → Prop) (o0 : Nat) (x2 : Int32) (x3 : Int32) (s : h_S) : Prop :=
  K12 o0 x2 (x3 + (1 : Int32)) s
def w_X12_takeTwo_35 (Q : h_S → Prop) (K12 : Nat → Int32 → Int32 → h_S → Prop) (o0 : Nat) (x2 : Int32) (x3 : Int32) (s : h_S) : Prop :=
  h_k s o0 = 33 ∧ ∃ a2, (h_r s o0 36) = some a2 ∧ h_k s a2 = 1 ∧ vp_in x3 (h_n s a2) ∧ ∃ a5, (h_r s o0 63) = some a5 ∧ h_k s a5 = 1 ∧ vp_in (h_i s o0 61) (h_n s a5) ∧ let s8 : h_S := h_si s a5 (h_ix (h_i s o0 61)) (h_i s a2 (h_ix x3))
  let s9 : h_S := h_si s8 o0 61 ((h_i s8 o0 61) + (1 : Int32))
  w_X12_takeTwo_60 Q K12 o0 x2 x3 s9
def w_X12_takeTwo_12b (Q : h_S → Prop) (K12 : Nat → Int32 → Int32 → h_S → Prop) (o0 : Nat) (x2 : Int32) (x3 : Int32) (s : h_S) : Prop :=
  h_k s o0 = 33 ∧ (if (h_i s o0 35) ≤ x3 then
    Q s
  else
    if x2 = 0 then
      ∃ a4, (h_r s o0 36) = some a4 ∧ h_k s a4 = 1 ∧ vp_in x3 (h_n s a4) ∧ (if (h_i s a4 (h_ix x3)) = (-7 : Int32) then
        w_X12_takeTwo_60 Q K12 o0 x2 x3 s
      else
        w_X12_takeTwo_35 Q K12 o0 x2 x3 s)
    else
      w_X12_takeTwo_35 Q K12 o0 x2 x3 s)
def w_X12_takeTwo_12 (Q : h_S → Prop) : Nat → Nat → Int32 → Int32 → h_S → Prop
  | 0, _, _, _, _ => False
  | n + 1, o0, x2, x3, s => w_X12_takeTwo_12b Q (w_X12_takeTwo_12 Q n) o0 x2 x3 s
def w_X12_takeTwo (o0 : Nat) (x1 : Int32) (x2 : Int32) (s : h_S) (Q : h_S → Prop) : Prop :=
  h_k s o0 = 33 ∧ w_X12_layVersion o0 x1 s (fun s2 =>
    h_k s2 o0 = 33 ∧ let s5 : h_S := h_si s2 o0 61 (0 : Int32)
    ∃ n, w_X12_takeTwo_12 Q n o0 x2 (0 : Int32) s5)
def w_X12_layShared_142 (Q : h_S → Prop) (K5 : Nat → Int32 → h_S → Prop) (K14 : Nat → Int32 → Int32 → h_S → Prop) (o0 : Nat) (x1 : Int32) (x2 : Int32) (x3 : Int32) (s : h_S) : Prop :=
  h_k s o0 = 33 ∧ ∃ a2, (h_r s o0 64) = some a2 ∧ h_k s a2 = 1 ∧ vp_in (((301 : Int32) * x1) + x2) (h_n s a2) ∧ let s5 : h_S := h_si s a2 (h_ix (((301 : Int32) * x1) + x2)) x3
  K14 o0 x1 (x2 + (-1 : Int32)) s5
def w_X12_layShared_141 (Q : h_S → Prop) (K5 : Nat → Int32 → h_S → Prop) (K14 : Nat → Int32 → Int32 → h_S → Prop) (o0 : Nat) (x1 : Int32) (x2 : Int32) (y0 : Int32) (s : h_S) : Prop :=
  w_X12_layShared_142 Q K5 K14 o0 x1 x2 y0 s
def w_X12_layShared_99 (Q : h_S → Prop) (K5 : Nat → Int32 → h_S → Prop) (K14 : Nat → Int32 → Int32 → h_S → Prop) (o0 : Nat) (x1 : Int32) (x2 : Int32) (x4 : Int32) (x5 : Int32) (y0 : Int32) (s : h_S) : Prop :=
  if y0 = 0 then
    if x4 ≤ x5 then
      w_X12_layShared_141 Q K5 K14 o0 x1 x2 x5 s
    else
      w_X12_layShared_141 Q K5 K14 o0 x1 x2 x4 s
  else
    h_k s o0 = 33 ∧ ∃ a4, (h_r s o0 64) = some a4 ∧ h_k s a4 = 1 ∧ vp_in ((((301 : Int32) * (x1 + (1 : Int32))) + x2) + (1 : Int32)) (h_n s a4) ∧ w_X12_layShared_141 Q K5 K14 o0 x1 x2 ((1 : Int32) + (h_i s a4 (h_ix ((((301 : Int32) * (x1 + (1 : Int32))) + x2) + (1 : Int32))))) s
def w_X12_layShared_98 (Q : h_S → Prop) (K5 : Nat → Int32 → h_S → Prop) (K14 : Nat → Int32 → Int32 → h_S → Prop) (o0 : Nat) (x1 : Int32) (x2 : Int32) (x4 : Int32) (x5 : Int32) (s : h_S) : Prop :=
  w_X12_layShared_99 Q K5 K14 o0 x1 x2 x4 x5 (0 : Int32) s
def w_X12_layShared_14b (Q : h_S → Prop) (K5 : Nat → Int32 → h_S → Prop) (K14 : Nat → Int32 → Int32 → h_S → Prop) (o0 : Nat) (x1 : Int32) (x2 : Int32) (s : h_S) : Prop :=
  if x2 < 0 then
    K5 o0 (x1 + (-1 : Int32)) s
  else
    h_k s o0 = 33 ∧ (if (h_i s o0 60) ≤ x1 then
      w_X12_layShared_142 Q K5 K14 o0 x1 x2 (0 : Int32) s
    else
      if (h_i s o0 61) ≤ x2 then
        w_X12_layShared_142 Q K5 K14 o0 x1 x2 (0 : Int32) s
      else
        ∃ a5, (h_r s o0 64) = some a5 ∧ h_k s a5 = 1 ∧ vp_in (((301 : Int32) * (x1 + (1 : Int32))) + x2) (h_n s a5) ∧ let v8 : Int32 := (h_i s a5 (h_ix (((301 : Int32) * (x1 + (1 : Int32))) + x2)))
        ∃ a9, (h_r s o0 64) = some a9 ∧ h_k s a9 = 1 ∧ vp_in ((((301 : Int32) * x1) + x2) + (1 : Int32)) (h_n s a9) ∧ let v12 : Int32 := (h_i s a9 (h_ix ((((301 : Int32) * x1) + x2) + (1 : Int32))))
        ∃ a13, (h_r s o0 62) = some a13 ∧ h_k s a13 = 1 ∧ vp_in x1 (h_n s a13) ∧ ∃ a16, (h_r s o0 63) = some a16 ∧ h_k s a16 = 1 ∧ vp_in x2 (h_n s a16) ∧ (if (h_i s a13 (h_ix x1)) = (h_i s a16 (h_ix x2)) then
          ∃ a20, (h_r s o0 62) = some a20 ∧ h_k s a20 = 1 ∧ vp_in x1 (h_n s a20) ∧ (if (h_i s a20 (h_ix x1)) = (-7 : Int32) then
            w_X12_layShared_98 Q K5 K14 o0 x1 x2 v8 v12 s
          else
            w_X12_layShared_99 Q K5 K14 o0 x1 x2 v8 v12 (1 : Int32) s)
        else
          w_X12_layShared_98 Q K5 K14 o0 x1 x2 v8 v12 s))
def w_X12_layShared_14 (Q : h_S → Prop) (K5 : Nat → Int32 → h_S → Prop) : Nat → Nat → Int32 → Int32 → h_S → Prop
  | 0, _, _, _, _ => False
  | n + 1, o0, x1, x2, s => w_X12_layShared_14b Q K5 (w_X12_layShared_14 Q K5 n) o0 x1 x2 s
def w_X12_layShared_5b (Q : h_S → Prop) (K5 : Nat → Int32 → h_S → Prop) (o0 : Nat) (x1 : Int32) (s : h_S) : Prop :=
  if x1 < 0 then
    Q s
  else
    h_k s o0 = 33 ∧ ∃ n, w_X12_layShared_14 Q K5 n o0 x1 (h_i s o0 61) s
def w_X12_layShared_5 (Q : h_S → Prop) : Nat → Nat → Int32 → h_S → Prop
  | 0, _, _, _ => False
  | n + 1, o0, x1, s => w_X12_layShared_5b Q (w_X12_layShared_5 Q n) o0 x1 s
def w_X12_layShared (o0 : Nat) (s : h_S) (Q : h_S → Prop) : Prop :=
  h_k s o0 = 33 ∧ ∃ n, w_X12_layShared_5 Q n o0 (h_i s o0 60) s
def w_X12_inCommon_60 (Q : Int32 → h_S → Prop) (K26 : Nat → Int32 → Int32 → h_S → Prop) (o0 : Nat) (x1 : Int32) (x2 : Int32) (s : h_S) : Prop :=
  K26 o0 x1 (x2 + (1 : Int32)) s
def w_X12_inCommon_119 (Q : Int32 → h_S → Prop) (K68 : Nat → Int32 → Int32 → h_S → Prop) (o0 : Nat) (x1 : Int32) (x2 : Int32) (s : h_S) : Prop :=
  K68 o0 x1 (x2 + (1 : Int32)) s
def w_X12_inCommon_68b (Q : Int32 → h_S → Prop) (K68 : Nat → Int32 → Int32 → h_S → Prop) (o0 : Nat) (x1 : Int32) (x2 : Int32) (s : h_S) : Prop :=
  h_k s o0 = 33 ∧ (if (h_i s o0 61) ≤ x2 then
    Q x1 s
  else
    ∃ a3, (h_r s o0 63) = some a3 ∧ h_k s a3 = 1 ∧ vp_in x2 (h_n s a3) ∧ (if (h_i s a3 (h_ix x2)) = (-7 : Int32) then
      w_X12_inCommon_119 Q K68 o0 x1 x2 s
    else
      ∃ a7, (h_r s o0 63) = some a7 ∧ h_k s a7 = 1 ∧ vp_in x2 (h_n s a7) ∧ ∃ a10, (h_r s o0 65) = some a10 ∧ h_k s a10 = 1 ∧ vp_in (h_i s a7 (h_ix x2)) (h_n s a10) ∧ (if (h_i s a10 (h_ix (h_i s a7 (h_ix x2)))) ≤ 0 then
        w_X12_inCommon_119 Q K68 o0 x1 x2 s
      else
        ∃ a14, (h_r s o0 63) = some a14 ∧ h_k s a14 = 1 ∧ vp_in x2 (h_n s a14) ∧ ∃ a17, (h_r s o0 65) = some a17 ∧ h_k s a17 = 1 ∧ vp_in (h_i s a14 (h_ix x2)) (h_n s a17) ∧ ∃ a20, (h_r s o0 65) = some a20 ∧ h_k s a20 = 1 ∧ vp_in (h_i s a14 (h_ix x2)) (h_n s a20) ∧ let s23 : h_S := h_si s a20 (h_ix (h_i s a14 (h_ix x2))) ((h_i s a17 (h_ix (h_i s a14 (h_ix x2)))) - (1 : Int32))
        w_X12_inCommon_119 Q K68 o0 (x1 + (1 : Int32)) x2 s23)))
def w_X12_inCommon_68 (Q : Int32 → h_S → Prop) : Nat → Nat → Int32 → Int32 → h_S → Prop
  | 0, _, _, _, _ => False
  | n + 1, o0, x1, x2, s => w_X12_inCommon_68b Q (w_X12_inCommon_68 Q n) o0 x1 x2 s
def w_X12_inCommon_26b (Q : Int32 → h_S → Prop) (K26 : Nat → Int32 → Int32 → h_S → Prop) (o0 : Nat) (x1 : Int32) (x2 : Int32) (s : h_S) : Prop :=
  h_k s o0 = 33 ∧ (if (h_i s o0 60) ≤ x2 then
    ∃ n, w_X12_inCommon_68 Q n o0 x1 (0 : Int32) s
  else
    ∃ a3, (h_r s o0 62) = some a3 ∧ h_k s a3 = 1 ∧ vp_in x2 (h_n s a3) ∧ (if (h_i s a3 (h_ix x2)) = (-7 : Int32) then
      w_X12_inCommon_60 Q K26 o0 x1 x2 s
    else
      ∃ a7, (h_r s o0 62) = some a7 ∧ h_k s a7 = 1 ∧ vp_in x2 (h_n s a7) ∧ ∃ a10, (h_r s o0 65) = some a10 ∧ h_k s a10 = 1 ∧ vp_in (h_i s a7 (h_ix x2)) (h_n s a10) ∧ ∃ a13, (h_r s o0 65) = some a13 ∧ h_k s a13 = 1 ∧ vp_in (h_i s a7 (h_ix x2)) (h_n s a13) ∧ let s16 : h_S := h_si s a13 (h_ix (h_i s a7 (h_ix x2))) ((h_i s a10 (h_ix (h_i s a7 (h_ix x2)))) + (1 : Int32))
      w_X12_inCommon_60 Q K26 o0 x1 x2 s16))
def w_X12_inCommon_26 (Q : Int32 → h_S → Prop) : Nat → Nat → Int32 → Int32 → h_S → Prop
  | 0, _, _, _, _ => False
  | n + 1, o0, x1, x2, s => w_X12_inCommon_26b Q (w_X12_inCommon_26 Q n) o0 x1 x2 s
def w_X12_inCommon_4b (Q : Int32 → h_S → Prop) (K4 : Nat → Int32 → Int32 → h_S → Prop) (o0 : Nat) (x1 : Int32) (x2 : Int32) (s : h_S) : Prop :=
  if (500 : Int32) ≤ x2 then
    ∃ n, w_X12_inCommon_26 Q n o0 x1 (0 : Int32) s
  else
    h_k s o0 = 33 ∧ ∃ a3, (h_r s o0 65) = some a3 ∧ h_k s a3 = 1 ∧ vp_in x2 (h_n s a3) ∧ let s6 : h_S := h_si s a3 (h_ix x2) (0 : Int32)
    K4 o0 x1 (x2 + (1 : Int32)) s6
def w_X12_inCommon_4 (Q : Int32 → h_S → Prop) : Nat → Nat → Int32 → Int32 → h_S → Prop
  | 0, _, _, _, _ => False
  | n + 1, o0, x1, x2, s => w_X12_inCommon_4b Q (w_X12_inCommon_4 Q n) o0 x1 x2 s
def w_X12_inCommon (o0 : Nat) (s : h_S) (Q : Int32 → h_S → Prop) : Prop :=
  ∃ n, w_X12_inCommon_4 Q n o0 (0 : Int32) (0 : Int32) s
def w_X12_compare_16 (Q : Int32 → h_S → Prop) (s : h_S) : Prop :=
  Q (-1 : Int32) s
def w_X12_compare_103 (Q : Int32 → h_S → Prop) (y0 : Int32) (s : h_S) : Prop :=
  Q y0 s
def w_X12_compare (o0 : Nat) (x1 : Int32) (x2 : Int32) (x3 : Int32) (s : h_S) (Q : Int32 → h_S → Prop) : Prop :=
  h_k s o0 = 33 ∧ w_X12_noVersion o0 x1 s (fun p3 s2 =>
    if p3 = 0 then
      h_k s2 o0 = 33 ∧ w_X12_noVersion o0 x2 s2 (fun p7 s6 =>
        if p7 = 0 then
          w_X12_in ((x3).toInt64) (0 : Int64) (3 : Int64) s6 (fun p10 s9 =>
            if p10 = 0 then
              Q (-2 : Int32) s9
            else
              h_k s9 o0 = 33 ∧ w_X12_takeOne o0 x1 (1 : Int32) s9 (fun s13 =>
                h_k s13 o0 = 33 ∧ w_X12_takeTwo o0 x2 (1 : Int32) s13 (fun s16 =>
                  h_k s16 o0 = 33 ∧ w_X12_layShared o0 s16 (fun s19 =>
                    h_k s19 o0 = 33 ∧ ∃ a22, (h_r s19 o0 64) = some a22 ∧ h_k s19 a22 = 1 ∧ vp_in (0 : Int32) (h_n s19 a22) ∧ let v25 : Int32 := (h_i s19 a22 (h_ix (0 : Int32)))
                    (if x3 = 0 then
                      w_X12_compare_103 Q v25 s19
                    else
                      if x3 = (1 : Int32) then
                        w_X12_compare_103 Q ((h_i s19 o0 60) - v25) s19
                      else
                        if x3 = (2 : Int32) then
                          w_X12_compare_103 Q ((h_i s19 o0 61) - v25) s19
                        else
                          w_X12_inCommon o0 s19 (fun p30 s29 =>
                            w_X12_compare_103 Q (p30 - v25) s29))))))
        else
          w_X12_compare_16 Q s6)
    else
      w_X12_compare_16 Q s2)
def w_X12_layWay_174 (Q : h_S → Prop) (K59 : Nat → Int32 → Int32 → Int32 → h_S → Prop) (K85 : Nat → Int32 → Int32 → Int32 → Int32 → h_S → Prop) (o0 : Nat) (x1 : Int32) (x4 : Int32) (x5 : Int32) (y0 : Int32) (y1 : Int32) (s : h_S) : Prop :=
  K85 o0 x1 (y1 + y0) x4 x5 s
def w_X12_layWay_161 (Q : h_S → Prop) (K59 : Nat → Int32 → Int32 → Int32 → h_S → Prop) (K85 : Nat → Int32 → Int32 → Int32 → Int32 → h_S → Prop) (o0 : Nat) (x1 : Int32) (x3 : Int32) (x4 : Int32) (y0 : Int32) (s : h_S) : Prop :=
  if y0 = 0 then
    w_X12_layWay_174 Q K59 K85 o0 x1 x4 y0 (0 : Int32) x3 s
  else
    w_X12_layWay_174 Q K59 K85 o0 x1 x4 y0 (1 : Int32) x3 s
def w_X12_layWay_156 (Q : h_S → Prop) (K59 : Nat → Int32 → Int32 → Int32 → h_S → Prop) (K85 : Nat → Int32 → Int32 → Int32 → Int32 → h_S → Prop) (o0 : Nat) (x1 : Int32) (x3 : Int32) (x4 : Int32) (s : h_S) : Prop :=
  w_X12_layWay_161 Q K59 K85 o0 x1 x3 x4 (1 : Int32) s
def w_X12_layWay_160 (Q : h_S → Prop) (K59 : Nat → Int32 → Int32 → Int32 → h_S → Prop) (K85 : Nat → Int32 → Int32 → Int32 → Int32 → h_S → Prop) (o0 : Nat) (x1 : Int32) (x3 : Int32) (x4 : Int32) (s : h_S) : Prop :=
  w_X12_layWay_161 Q K59 K85 o0 x1 x3 x4 (0 : Int32) s
def w_X12_layWay_267 (Q : h_S → Prop) (K59 : Nat → Int32 → Int32 → Int32 → h_S → Prop) (o0 : Nat) (x1 : Int32) (x4 : Int32) (y0 : Int32) (y1 : Int32) (s : h_S) : Prop :=
  K59 o0 x1 (y1 + y0) (x4 + (1 : Int32)) s
def w_X12_layWay_255 (Q : h_S → Prop) (K59 : Nat → Int32 → Int32 → Int32 → h_S → Prop) (o0 : Nat) (x1 : Int32) (x3 : Int32) (x4 : Int32) (x6 : Int32) (y0 : Int32) (y1 : Int32) (t2 : Option Nat) (s : h_S) : Prop :=
  ∃ a1, t2 = some a1 ∧ h_k s a1 = 2 ∧ vp_in y1 (h_n s a1) ∧ h_bt y0 ∧ let s5 : h_S := h_si s a1 (h_ix y1) y0
  (if x6 = 0 then
    w_X12_layWay_267 Q K59 o0 x1 x4 (0 : Int32) x3 s5
  else
    w_X12_layWay_267 Q K59 o0 x1 x4 (1 : Int32) x3 s5)
def w_X12_layWay_231 (Q : h_S → Prop) (K59 : Nat → Int32 → Int32 → Int32 → h_S → Prop) (o0 : Nat) (x1 : Int32) (x3 : Int32) (x4 : Int32) (y0 : Int32) (s : h_S) : Prop :=
  h_k s o0 = 33 ∧ (if y0 = 0 then
    w_X12_layWay_255 Q K59 o0 x1 x3 x4 y0 (1 : Int32) (((301 : Int32) * x1) + x4) (h_r s o0 69) s
  else
    w_X12_layWay_255 Q K59 o0 x1 x3 x4 y0 (0 : Int32) (((301 : Int32) * x1) + x4) (h_r s o0 69) s)
def w_X12_layWay_230 (Q : h_S → Prop) (K59 : Nat → Int32 → Int32 → Int32 → h_S → Prop) (o0 : Nat) (x1 : Int32) (x3 : Int32) (x4 : Int32) (s : h_S) : Prop :=
  w_X12_layWay_231 Q K59 o0 x1 x3 x4 (0 : Int32) s
def w_X12_layWay_85b (Q : h_S → Prop) (K59 : Nat → Int32 → Int32 → Int32 → h_S → Prop) (K85 : Nat → Int32 → Int32 → Int32 → Int32 → h_S → Prop) (o0 : Nat) (x1 : Int32) (x3 : Int32) (x4 : Int32) (x5 : Int32) (s : h_S) : Prop :=
  if x5 = 0 then
    h_k s o0 = 33 ∧ ∃ a3, (h_r s o0 70) = some a3 ∧ h_k s a3 = 1 ∧ vp_in (((302 : Int32) * x1) + x4) (h_n s a3) ∧ let s6 : h_S := h_si s a3 (h_ix (((302 : Int32) * x1) + x4)) x3
    (if (h_i s6 o0 60) ≤ x4 then
      w_X12_layWay_230 Q K59 o0 x1 x3 x4 s6
    else
      if (h_i s6 o0 61) ≤ x3 then
        w_X12_layWay_230 Q K59 o0 x1 x3 x4 s6
      else
        ∃ a9, (h_r s6 o0 62) = some a9 ∧ h_k s6 a9 = 1 ∧ vp_in x4 (h_n s6 a9) ∧ ∃ a12, (h_r s6 o0 63) = some a12 ∧ h_k s6 a12 = 1 ∧ vp_in x3 (h_n s6 a12) ∧ (if (h_i s6 a9 (h_ix x4)) = (h_i s6 a12 (h_ix x3)) then
          w_X12_layWay_231 Q K59 o0 x1 x3 x4 (1 : Int32) s6
        else
          w_X12_layWay_230 Q K59 o0 x1 x3 x4 s6))
  else
    h_k s o0 = 33 ∧ (if (h_i s o0 61) ≤ x3 then
      w_X12_layWay_160 Q K59 K85 o0 x1 x3 x4 s
    else
      if x4 = (h_i s o0 60) then
        w_X12_layWay_156 Q K59 K85 o0 x1 x3 x4 s
      else
        ∃ a19, (h_r s o0 62) = some a19 ∧ h_k s a19 = 1 ∧ vp_in x4 (h_n s a19) ∧ ∃ a22, (h_r s o0 63) = some a22 ∧ h_k s a22 = 1 ∧ vp_in x3 (h_n s a22) ∧ (if (h_i s a19 (h_ix x4)) = (h_i s a22 (h_ix x3)) then
          w_X12_layWay_160 Q K59 K85 o0 x1 x3 x4 s
        else
          ∃ a26, (h_r s o0 64) = some a26 ∧ h_k s a26 = 1 ∧ vp_in (((301 : Int32) * (x4 + (1 : Int32))) + x3) (h_n s a26) ∧ ∃ a29, (h_r s o0 64) = some a29 ∧ h_k s a29 = 1 ∧ vp_in ((((301 : Int32) * x4) + x3) + (1 : Int32)) (h_n s a29) ∧ (if (h_i s a29 (h_ix ((((301 : Int32) * x4) + x3) + (1 : Int32)))) ≤ (h_i s a26 (h_ix (((301 : Int32) * (x4 + (1 : Int32))) + x3))) then
            w_X12_layWay_160 Q K59 K85 o0 x1 x3 x4 s
          else
            w_X12_layWay_156 Q K59 K85 o0 x1 x3 x4 s)))
def w_X12_layWay_85 (Q : h_S → Prop) (K59 : Nat → Int32 → Int32 → Int32 → h_S → Prop) : Nat → Nat → Int32 → Int32 → Int32 → Int32 → h_S → Prop
  | 0, _, _, _, _, _, _ => False
  | n + 1, o0, x1, x3, x4, x5, s => w_X12_layWay_85b Q K59 (w_X12_layWay_85 Q K59 n) o0 x1 x3 x4 x5 s
def w_X12_layWay_59b (Q : h_S → Prop) (K59 : Nat → Int32 → Int32 → Int32 → h_S → Prop) (o0 : Nat) (x1 : Int32) (x3 : Int32) (x4 : Int32) (s : h_S) : Prop :=
  h_k s o0 = 33 ∧ (if (h_i s o0 60) < x4 then
    Q s
  else
    ∃ a3, (h_r s o0 68) = some a3 ∧ h_k s a3 = 1 ∧ vp_in (((302 : Int32) * x1) + x4) (h_n s a3) ∧ let s6 : h_S := h_si s a3 (h_ix (((302 : Int32) * x1) + x4)) x3
    ∃ n, w_X12_layWay_85 Q K59 n o0 x1 x3 x4 (1 : Int32) s6)
def w_X12_layWay_59 (Q : h_S → Prop) : Nat → Nat → Int32 → Int32 → Int32 → h_S → Prop
  | 0, _, _, _, _, _ => False
  | n + 1, o0, x1, x3, x4, s => w_X12_layWay_59b Q (w_X12_layWay_59 Q n) o0 x1 x3 x4 s
def w_X12_layWay_22b (Q : h_S → Prop) (K22 : Nat → Int32 → Int32 → h_S → Prop) (o0 : Nat) (x1 : Int32) (x3 : Int32) (s : h_S) : Prop :=
  h_k s o0 = 33 ∧ (if (h_i s o0 61) ≤ x3 then
    ∃ n, w_X12_layWay_59 Q n o0 x1 (0 : Int32) (0 : Int32) s
  else
    ∃ a3, (h_r s o0 63) = some a3 ∧ h_k s a3 = 1 ∧ vp_in x3 (h_n s a3) ∧ ∃ a6, (h_r s o0 66) = some a6 ∧ h_k s a6 = 1 ∧ vp_in (((300 : Int32) * x1) + x3) (h_n s a6) ∧ let s9 : h_S := h_si s a6 (h_ix (((300 : Int32) * x1) + x3)) (h_i s a3 (h_ix x3))
    K22 o0 x1 (x3 + (1 : Int32)) s9)
def w_X12_layWay_22 (Q : h_S → Prop) : Nat → Nat → Int32 → Int32 → h_S → Prop
  | 0, _, _, _, _ => False
  | n + 1, o0, x1, x3, s => w_X12_layWay_22b Q (w_X12_layWay_22 Q n) o0 x1 x3 s
def w_X12_layWay (o0 : Nat) (x1 : Int32) (x2 : Int32) (s : h_S) (Q : h_S → Prop) : Prop :=
  h_k s o0 = 33 ∧ w_X12_takeTwo o0 x2 (0 : Int32) s (fun s2 =>
    h_k s2 o0 = 33 ∧ w_X12_layShared o0 s2 (fun s5 =>
      h_k s5 o0 = 33 ∧ ∃ a8, (h_r s5 o0 67) = some a8 ∧ h_k s5 a8 = 1 ∧ vp_in x1 (h_n s5 a8) ∧ let s11 : h_S := h_si s5 a8 (h_ix x1) (h_i s5 o0 61)
      ∃ n, w_X12_layWay_22 Q n o0 x1 (0 : Int32) s11))
def w_X12_joinRow_3b (Q : h_S → Prop) (K3 : Nat → Int32 → Int32 → Int32 → h_S → Prop) (o0 : Nat) (x1 : Int32) (x3 : Int32) (x4 : Int32) (s : h_S) : Prop :=
  if x3 ≤ x4 then
    Q s
  else
    h_k s o0 = 33 ∧ ∃ a3, (h_r s o0 66) = some a3 ∧ h_k s a3 = 1 ∧ vp_in (((300 : Int32) * x1) + x4) (h_n s a3) ∧ ∃ a6, (h_r s o0 72) = some a6 ∧ h_k s a6 = 1 ∧ vp_in (h_i s o0 71) (h_n s a6) ∧ let s9 : h_S := h_si s a6 (h_ix (h_i s o0 71)) (h_i s a3 (h_ix (((300 : Int32) * x1) + x4)))
    let s10 : h_S := h_si s9 o0 71 ((h_i s9 o0 71) + (1 : Int32))
    K3 o0 x1 x3 (x4 + (1 : Int32)) s10
def w_X12_joinRow_3 (Q : h_S → Prop) : Nat → Nat → Int32 → Int32 → Int32 → h_S → Prop
  | 0, _, _, _, _, _ => False
  | n + 1, o0, x1, x3, x4, s => w_X12_joinRow_3b Q (w_X12_joinRow_3 Q n) o0 x1 x3 x4 s
def w_X12_joinRow (o0 : Nat) (x1 : Int32) (x2 : Int32) (x3 : Int32) (s : h_S) (Q : h_S → Prop) : Prop :=
  ∃ n, w_X12_joinRow_3 Q n o0 x1 x3 x2 s
def w_X12_compareRows_79 (Q : Int32 → h_S → Prop) (y0 : Int32) (s : h_S) : Prop :=
  Q y0 s
def w_X12_compareRows_57 (Q : Int32 → h_S → Prop) (x2 : Int32) (x4 : Int32) (x5 : Int32) (x6 : Int32) (s : h_S) : Prop :=
  if x2 ≤ x5 then
    if x4 ≤ x6 then
      w_X12_compareRows_79 Q (0 : Int32) s
    else
      w_X12_compareRows_79 Q (-1 : Int32) s
  else
    w_X12_compareRows_79 Q (1 : Int32) s
def w_X12_compareRows_6b (Q : Int32 → h_S → Prop) (K6 : Nat → Int32 → Int32 → Int32 → Int32 → h_S → Prop) (o0 : Nat) (x2 : Int32) (x4 : Int32) (x5 : Int32) (x6 : Int32) (s : h_S) : Prop :=
  if x2 ≤ x5 then
    w_X12_compareRows_57 Q x2 x4 x5 x6 s
  else
    if x4 ≤ x6 then
      w_X12_compareRows_57 Q x2 x4 x5 x6 s
    else
      h_k s o0 = 33 ∧ ∃ a4, (h_r s o0 66) = some a4 ∧ h_k s a4 = 1 ∧ vp_in x5 (h_n s a4) ∧ ∃ a7, (h_r s o0 66) = some a7 ∧ h_k s a7 = 1 ∧ vp_in ((300 : Int32) + x6) (h_n s a7) ∧ let v10 : Int32 := ((h_i s a4 (h_ix x5)) - (h_i s a7 (h_ix ((300 : Int32) + x6))))
      (if v10 = 0 then
        K6 o0 x2 x4 (x5 + (1 : Int32)) (x6 + (1 : Int32)) s
      else
        Q v10 s)
def w_X12_compareRows_6 (Q : Int32 → h_S → Prop) : Nat → Nat → Int32 → Int32 → Int32 → Int32 → h_S → Prop
  | 0, _, _, _, _, _, _ => False
  | n + 1, o0, x2, x4, x5, x6, s => w_X12_compareRows_6b Q (w_X12_compareRows_6 Q n) o0 x2 x4 x5 x6 s
def w_X12_compareRows (o0 : Nat) (x1 : Int32) (x2 : Int32) (x3 : Int32) (x4 : Int32) (s : h_S) (Q : Int32 → h_S → Prop) : Prop :=
  ∃ n, w_X12_compareRows_6 Q n o0 x2 x4 x1 x3 s
def w_X12_keepClash_201 (Q : h_S → Prop) (o0 : Nat) (s : h_S) : Prop :=
  h_k s o0 = 33 ∧ let s2 : h_S := h_si s o0 73 ((h_i s o0 73) + (1 : Int32))
  Q s2
def w_X12_keepClash_148b (Q : h_S → Prop) (K148 : Nat → Int32 → Int32 → Int32 → Int32 → Int32 → h_S → Prop) (o0 : Nat) (x1 : Int32) (x6 : Int32) (x9 : Int32) (x10 : Int32) (x11 : Int32) (s : h_S) : Prop :=
  if x10 ≤ x11 then
    w_X12_keepClash_201 Q o0 s
  else
    h_k s o0 = 33 ∧ ∃ a3, (h_r s o0 76) = some a3 ∧ h_k s a3 = 1 ∧ vp_in x6 (h_n s a3) ∧ ∃ a6, (h_r s o0 66) = some a6 ∧ h_k s a6 = 1 ∧ vp_in (((300 : Int32) * ((1 : Int32) - x1)) + x11) (h_n s a6) ∧ ∃ a9, (h_r s o0 79) = some a9 ∧ h_k s a9 = 1 ∧ vp_in (((((600 : Int32) * x6) + (h_i s a3 (h_ix x6))) + x11) - x9) (h_n s a9) ∧ let s12 : h_S := h_si s a9 (h_ix (((((600 : Int32) * x6) + (h_i s a3 (h_ix x6))) + x11) - x9)) (h_i s a6 (h_ix (((300 : Int32) * ((1 : Int32) - x1)) + x11)))
    K148 o0 x1 x6 x9 x10 (x11 + (1 : Int32)) s12
def w_X12_keepClash_148 (Q : h_S → Prop) : Nat → Nat → Int32 → Int32 → Int32 → Int32 → Int32 → h_S → Prop
  | 0, _, _, _, _, _, _, _ => False
  | n + 1, o0, x1, x6, x9, x10, x11, s => w_X12_keepClash_148b Q (w_X12_keepClash_148 Q n) o0 x1 x6 x9 x10 x11 s
def w_X12_keepClash_130 (Q : h_S → Prop) (o0 : Nat) (x1 : Int32) (x6 : Int32) (x9 : Int32) (y0 : Int32) (s : h_S) : Prop :=
  h_k s o0 = 33 ∧ ∃ a2, (h_r s o0 77) = some a2 ∧ h_k s a2 = 1 ∧ vp_in x6 (h_n s a2) ∧ let s5 : h_S := h_si s a2 (h_ix x6) (y0 - x9)
  ∃ n, w_X12_keepClash_148 Q n o0 x1 x6 x9 y0 x9 s5
def w_X12_keepClash_118 (Q : h_S → Prop) (o0 : Nat) (x1 : Int32) (x3 : Int32) (x5 : Int32) (x6 : Int32) (y0 : Int32) (s : h_S) : Prop :=
  if x1 = 0 then
    w_X12_keepClash_130 Q o0 x1 x6 y0 x5 s
  else
    w_X12_keepClash_130 Q o0 x1 x6 y0 x3 s
def w_X12_keepClash_65b (Q : h_S → Prop) (K65 : Nat → Int32 → Int32 → Int32 → Int32 → Int32 → Int32 → Int32 → Int32 → Int32 → h_S → Prop) (o0 : Nat) (x1 : Int32) (x2 : Int32) (x3 : Int32) (x4 : Int32) (x5 : Int32) (x6 : Int32) (x7 : Int32) (x8 : Int32) (x9 : Int32) (s : h_S) : Prop :=
  if x8 ≤ x9 then
    if x1 = 0 then
      w_X12_keepClash_118 Q o0 x1 x3 x5 x6 x4 s
    else
      w_X12_keepClash_118 Q o0 x1 x3 x5 x6 x2 s
  else
    h_k s o0 = 33 ∧ ∃ a4, (h_r s o0 66) = some a4 ∧ h_k s a4 = 1 ∧ vp_in (((300 : Int32) * x1) + x9) (h_n s a4) ∧ ∃ a7, (h_r s o0 79) = some a7 ∧ h_k s a7 = 1 ∧ vp_in ((((600 : Int32) * x6) + x9) - x7) (h_n s a7) ∧ let s10 : h_S := h_si s a7 (h_ix ((((600 : Int32) * x6) + x9) - x7)) (h_i s a4 (h_ix (((300 : Int32) * x1) + x9)))
    K65 o0 x1 x2 x3 x4 x5 x6 x7 x8 (x9 + (1 : Int32)) s10
def w_X12_keepClash_65 (Q : h_S → Prop) : Nat → Nat → Int32 → Int32 → Int32 → Int32 → Int32 → Int32 → Int32 → Int32 → Int32 → h_S → Prop
  | 0, _, _, _, _, _, _, _, _, _, _, _ => False
  | n + 1, o0, x1, x2, x3, x4, x5, x6, x7, x8, x9, s => w_X12_keepClash_65b Q (w_X12_keepClash_65 Q n) o0 x1 x2 x3 x4 x5 x6 x7 x8 x9 s
def w_X12_keepClash_47 (Q : h_S → Prop) (o0 : Nat) (x1 : Int32) (x2 : Int32) (x3 : Int32) (x4 : Int32) (x5 : Int32) (x6 : Int32) (x7 : Int32) (y0 : Int32) (s : h_S) : Prop :=
  h_k s o0 = 33 ∧ ∃ a2, (h_r s o0 76) = some a2 ∧ h_k s a2 = 1 ∧ vp_in x6 (h_n s a2) ∧ let s5 : h_S := h_si s a2 (h_ix x6) (y0 - x7)
  ∃ n, w_X12_keepClash_65 Q n o0 x1 x2 x3 x4 x5 x6 x7 y0 x7 s5
def w_X12_keepClash_35 (Q : h_S → Prop) (o0 : Nat) (x1 : Int32) (x2 : Int32) (x3 : Int32) (x4 : Int32) (x5 : Int32) (x6 : Int32) (y0 : Int32) (s : h_S) : Prop :=
  if x1 = 0 then
    w_X12_keepClash_47 Q o0 x1 x2 x3 x4 x5 x6 y0 x3 s
  else
    w_X12_keepClash_47 Q o0 x1 x2 x3 x4 x5 x6 y0 x5 s
def w_X12_keepClash (o0 : Nat) (x1 : Int32) (x2 : Int32) (x3 : Int32) (x4 : Int32) (x5 : Int32) (s : h_S) (Q : h_S → Prop) : Prop :=
  h_k s o0 = 33 ∧ (if (12 : Int32) ≤ ((h_i s o0 74) + (h_i s o0 73)) then
    w_X12_keepClash_201 Q o0 s
  else
    let v3 : Int32 := ((h_i s o0 74) + (h_i s o0 73))
    (if x1 = 0 then
      w_X12_keepClash_35 Q o0 x1 x2 x3 x4 x5 v3 x2 s
    else
      w_X12_keepClash_35 Q o0 x1 x2 x3 x4 x5 v3 x4 s))
def w_X12_joinAhead_171 (Q : h_S → Prop) (s : h_S) : Prop :=
  Q s
def w_X12_joinAhead_79 (Q : h_S → Prop) (o0 : Nat) (x2 : Int32) (x3 : Int32) (s : h_S) : Prop :=
  h_k s o0 = 33 ∧ w_X12_joinRow o0 (0 : Int32) x2 x3 s (fun s2 =>
    w_X12_joinAhead_171 Q s2)
def w_X12_joinAhead_168 (Q : h_S → Prop) (y0 : Int32) (y1 : Int32) (y2 : Int32) (u3 : Nat) (s : h_S) : Prop :=
  h_k s u3 = 33 ∧ w_X12_joinRow u3 y2 y1 y0 s (fun s2 =>
    w_X12_joinAhead_171 Q s2)
def w_X12_joinAhead_157 (Q : h_S → Prop) (x3 : Int32) (x5 : Int32) (x7 : Int32) (y0 : Int32) (y1 : Int32) (u2 : Nat) (s : h_S) : Prop :=
  if x7 = 0 then
    w_X12_joinAhead_168 Q x5 y0 y1 u2 s
  else
    w_X12_joinAhead_168 Q x3 y0 y1 u2 s
def w_X12_joinAhead_138 (Q : h_S → Prop) (o0 : Nat) (x2 : Int32) (x3 : Int32) (x4 : Int32) (x5 : Int32) (x7 : Int32) (y0 : Int32) (y1 : Int32) (y2 : Int32) (u3 : Nat) (s : h_S) : Prop :=
  h_k s u3 = 33 ∧ w_X12_joinRow u3 y2 y1 y0 s (fun s2 =>
    if x7 = 0 then
      w_X12_joinAhead_157 Q x3 x5 x7 x4 ((1 : Int32) - x7) o0 s2
    else
      w_X12_joinAhead_157 Q x3 x5 x7 x2 ((1 : Int32) - x7) o0 s2)
def w_X12_joinAhead_127 (Q : h_S → Prop) (o0 : Nat) (x2 : Int32) (x3 : Int32) (x4 : Int32) (x5 : Int32) (x7 : Int32) (y0 : Int32) (y1 : Int32) (u2 : Nat) (s : h_S) : Prop :=
  if x7 = 0 then
    w_X12_joinAhead_138 Q o0 x2 x3 x4 x5 x7 x3 y0 y1 u2 s
  else
    w_X12_joinAhead_138 Q o0 x2 x3 x4 x5 x7 x5 y0 y1 u2 s
def w_X12_joinAhead_99 (Q : h_S → Prop) (o0 : Nat) (x2 : Int32) (x3 : Int32) (x4 : Int32) (x5 : Int32) (y0 : Int32) (s : h_S) : Prop :=
  h_k s o0 = 33 ∧ w_X12_keepClash o0 y0 x2 x3 x4 x5 s (fun s2 =>
    if y0 = 0 then
      w_X12_joinAhead_127 Q o0 x2 x3 x4 x5 y0 x2 y0 o0 s2
    else
      w_X12_joinAhead_127 Q o0 x2 x3 x4 x5 y0 x4 y0 o0 s2)
def w_X12_joinAhead (o0 : Nat) (x1 : Int32) (s : h_S) (Q : h_S → Prop) : Prop :=
  h_k s o0 = 33 ∧ ∃ a2, (h_r s o0 68) = some a2 ∧ h_k s a2 = 1 ∧ vp_in x1 (h_n s a2) ∧ ∃ a5, (h_r s o0 70) = some a5 ∧ h_k s a5 = 1 ∧ vp_in x1 (h_n s a5) ∧ ∃ a8, (h_r s o0 68) = some a8 ∧ h_k s a8 = 1 ∧ vp_in ((302 : Int32) + x1) (h_n s a8) ∧ let v11 : Int32 := (h_i s a8 (h_ix ((302 : Int32) + x1)))
  ∃ a12, (h_r s o0 70) = some a12 ∧ h_k s a12 = 1 ∧ vp_in ((302 : Int32) + x1) (h_n s a12) ∧ let v15 : Int32 := (h_i s a12 (h_ix ((302 : Int32) + x1)))
  w_X12_compareRows o0 (h_i s a2 (h_ix x1)) (h_i s a5 (h_ix x1)) v11 v15 s (fun p17 s16 =>
    if (h_i s a2 (h_ix x1)) = (h_i s a5 (h_ix x1)) then
      h_k s16 o0 = 33 ∧ w_X12_joinRow o0 (1 : Int32) v11 v15 s16 (fun s23 =>
        w_X12_joinAhead_171 Q s23)
    else
      if v11 = v15 then
        w_X12_joinAhead_79 Q o0 (h_i s a2 (h_ix x1)) (h_i s a5 (h_ix x1)) s16
      else
        if p17 = 0 then
          w_X12_joinAhead_79 Q o0 (h_i s a2 (h_ix x1)) (h_i s a5 (h_ix x1)) s16
        else
          if 0 ≤ p17 then
            w_X12_joinAhead_99 Q o0 (h_i s a2 (h_ix x1)) (h_i s a5 (h_ix x1)) v11 v15 (1 : Int32) s16
          else
            w_X12_joinAhead_99 Q o0 (h_i s a2 (h_ix x1)) (h_i s a5 (h_ix x1)) v11 v15 (0 : Int32) s16)
def w_X12_piecesOfJoined_104 (Q : Int32 → h_S → Prop) (K9 : Nat → Int32 → Int32 → h_S → Prop) (o0 : Nat) (x1 : Int32) (x2 : Int32) (s : h_S) : Prop :=
  K9 o0 x1 (x2 + (1 : Int32)) s
def w_X12_piecesOfJoined_92 (Q : Int32 → h_S → Prop) (K9 : Nat → Int32 → Int32 → h_S → Prop) (o0 : Nat) (x1 : Int32) (x2 : Int32) (s : h_S) : Prop :=
  h_k s o0 = 33 ∧ ∃ a2, (h_r s o0 43) = some a2 ∧ h_k s a2 = 1 ∧ vp_in (x1 - (1 : Int32)) (h_n s a2) ∧ ∃ a5, (h_r s o0 43) = some a5 ∧ h_k s a5 = 1 ∧ vp_in (x1 - (1 : Int32)) (h_n s a5) ∧ let s8 : h_S := h_si s a5 (h_ix (x1 - (1 : Int32))) ((h_i s a2 (h_ix (x1 - (1 : Int32)))) + (1 : Int32))
  w_X12_piecesOfJoined_104 Q K9 o0 x1 x2 s8
def w_X12_piecesOfJoined_56 (Q : Int32 → h_S → Prop) (K9 : Nat → Int32 → Int32 → h_S → Prop) (o0 : Nat) (x2 : Int32) (x3 : Int32) (y0 : Int32) (y1 : Int32) (s : h_S) : Prop :=
  if (24 : Int32) < (y1 + y0) then
    w_X12_piecesOfJoined_104 Q K9 o0 (y1 + y0) x2 s
  else
    if x3 = 0 then
      h_k s o0 = 33 ∧ ∃ a4, (h_r s o0 72) = some a4 ∧ h_k s a4 = 1 ∧ vp_in x2 (h_n s a4) ∧ w_X12_setPiece o0 ((y1 + y0) - (1 : Int32)) (1 : Int32) (h_i s a4 (h_ix x2)) (0 : Int32) (-9 : Int32) (-9 : Int32) s (fun s7 =>
        h_k s7 o0 = 33 ∧ let s10 : h_S := h_si s7 o0 40 (y1 + y0)
        w_X12_piecesOfJoined_92 Q K9 o0 (y1 + y0) x2 s10)
    else
      w_X12_piecesOfJoined_92 Q K9 o0 (y1 + y0) x2 s
def w_X12_piecesOfJoined_45 (Q : Int32 → h_S → Prop) (K9 : Nat → Int32 → Int32 → h_S → Prop) (o0 : Nat) (x1 : Int32) (x2 : Int32) (y0 : Int32) (s : h_S) : Prop :=
  if y0 = 0 then
    w_X12_piecesOfJoined_56 Q K9 o0 x2 y0 (1 : Int32) x1 s
  else
    w_X12_piecesOfJoined_56 Q K9 o0 x2 y0 (0 : Int32) x1 s
def w_X12_piecesOfJoined_44 (Q : Int32 → h_S → Prop) (K9 : Nat → Int32 → Int32 → h_S → Prop) (o0 : Nat) (x1 : Int32) (x2 : Int32) (s : h_S) : Prop :=
  w_X12_piecesOfJoined_45 Q K9 o0 x1 x2 (0 : Int32) s
def w_X12_piecesOfJoined_9b (Q : Int32 → h_S → Prop) (K9 : Nat → Int32 → Int32 → h_S → Prop) (o0 : Nat) (x1 : Int32) (x2 : Int32) (s : h_S) : Prop :=
  h_k s o0 = 33 ∧ (if (h_i s o0 71) ≤ x2 then
    Q x1 s
  else
    if x2 ≤ 0 then
      w_X12_piecesOfJoined_44 Q K9 o0 x1 x2 s
    else
      ∃ a4, (h_r s o0 72) = some a4 ∧ h_k s a4 = 1 ∧ vp_in x2 (h_n s a4) ∧ ∃ a7, (h_r s o0 72) = some a7 ∧ h_k s a7 = 1 ∧ vp_in (x2 - (1 : Int32)) (h_n s a7) ∧ (if (h_i s a4 (h_ix x2)) = ((h_i s a7 (h_ix (x2 - (1 : Int32)))) + (1 : Int32)) then
        w_X12_piecesOfJoined_45 Q K9 o0 x1 x2 (1 : Int32) s
      else
        w_X12_piecesOfJoined_44 Q K9 o0 x1 x2 s))
def w_X12_piecesOfJoined_9 (Q : Int32 → h_S → Prop) : Nat → Nat → Int32 → Int32 → h_S → Prop
  | 0, _, _, _, _ => False
  | n + 1, o0, x1, x2, s => w_X12_piecesOfJoined_9b Q (w_X12_piecesOfJoined_9 Q n) o0 x1 x2 s
def w_X12_piecesOfJoined (o0 : Nat) (s : h_S) (Q : Int32 → h_S → Prop) : Prop :=
  h_k s o0 = 33 ∧ let s2 : h_S := h_si s o0 40 (0 : Int32)
  ∃ n, w_X12_piecesOfJoined_9 Q n o0 (0 : Int32) (0 : Int32) s2
def w_X12_join_24 (Q : Int32 → h_S → Prop) (s : h_S) : Prop :=
  Q (-1 : Int32) s
def w_X12_join_131 (Q : Int32 → h_S → Prop) (K57 : Nat → Int32 → Int32 → h_S → Prop) (o0 : Nat) (x1 : Int32) (x4 : Int32) (s : h_S) : Prop :=
  K57 o0 x1 (x4 + (1 : Int32)) s
def w_X12_join_169 (Q : Int32 → h_S → Prop) (s : h_S) : Prop :=
  Q (-4 : Int32) s
def w_X12_join_198b (Q : Int32 → h_S → Prop) (K198 : Nat → Int32 → h_S → Prop) (o0 : Nat) (x4 : Int32) (s : h_S) : Prop :=
  h_k s o0 = 33 ∧ (if ((h_i s o0 74) + (h_i s o0 73)) ≤ x4 then
    let s3 : h_S := h_si s o0 74 ((h_i s o0 74) + (h_i s o0 73))
    w_X12_store o0 (h_i s3 o0 8) s3 (fun p5 s4 =>
      h_k s4 o0 = 33 ∧ let s7 : h_S := h_si s4 o0 8 ((h_i s4 o0 8) + (1 : Int32))
      w_X12_acted o0 ((h_i s7 o0 8) - (1 : Int32)) s7 (fun p9 s8 =>
        Q p9 s8))
  else
    ∃ a10, (h_r s o0 75) = some a10 ∧ h_k s a10 = 1 ∧ vp_in x4 (h_n s a10) ∧ let s13 : h_S := h_si s a10 (h_ix x4) (h_i s o0 8)
    K198 o0 (x4 + (1 : Int32)) s13)
def w_X12_join_198 (Q : Int32 → h_S → Prop) : Nat → Nat → Int32 → h_S → Prop
  | 0, _, _, _ => False
  | n + 1, o0, x4, s => w_X12_join_198b Q (w_X12_join_198 Q n) o0 x4 s
def w_X12_join_57b (Q : Int32 → h_S → Prop) (K57 : Nat → Int32 → Int32 → h_S → Prop) (o0 : Nat) (x1 : Int32) (x4 : Int32) (s : h_S) : Prop :=
  h_k s o0 = 33 ∧ (if (h_i s o0 60) < x4 then
    if (h_i s o0 8) = (12 : Int32) then
      w_X12_join_169 Q s
    else
      w_X12_piecesOfJoined o0 s (fun p5 s4 =>
        if (24 : Int32) < p5 then
          w_X12_join_169 Q s4
        else
          h_k s4 o0 = 33 ∧ (if ((h_i s4 o0 74) + (h_i s4 o0 73)) ≤ (12 : Int32) then
            ∃ a9, (h_r s4 o0 56) = some a9 ∧ h_k s4 a9 = 1 ∧ vp_in x1 (h_n s4 a9) ∧ ∃ a12, (h_r s4 o0 9) = some a12 ∧ h_k s4 a12 = 1 ∧ vp_in (h_i s4 a9 (h_ix x1)) (h_n s4 a12) ∧ ∃ a15, (h_r s4 o0 9) = some a15 ∧ h_k s4 a15 = 1 ∧ vp_in (h_i s4 o0 8) (h_n s4 a15) ∧ let s18 : h_S := h_si s4 a15 (h_ix (h_i s4 o0 8)) (h_i s4 a12 (h_ix (h_i s4 a9 (h_ix x1))))
            ∃ n, w_X12_join_198 Q n o0 (h_i s18 o0 74) s18
          else
            w_X12_join_169 Q s4))
  else
    w_X12_joinAhead o0 x4 s (fun s19 =>
      h_k s19 o0 = 33 ∧ (if (h_i s19 o0 60) ≤ x4 then
        w_X12_join_131 Q K57 o0 x1 x4 s19
      else
        ∃ a23, (h_r s19 o0 69) = some a23 ∧ h_k s19 a23 = 2 ∧ vp_in x4 (h_n s19 a23) ∧ (if (h_i s19 a23 (h_ix x4)) = 0 then
          ∃ a27, (h_r s19 o0 69) = some a27 ∧ h_k s19 a27 = 2 ∧ vp_in ((301 : Int32) + x4) (h_n s19 a27) ∧ (if (h_i s19 a27 (h_ix ((301 : Int32) + x4))) = 0 then
            ∃ a31, (h_r s19 o0 62) = some a31 ∧ h_k s19 a31 = 1 ∧ vp_in x4 (h_n s19 a31) ∧ ∃ a34, (h_r s19 o0 72) = some a34 ∧ h_k s19 a34 = 1 ∧ vp_in (h_i s19 o0 71) (h_n s19 a34) ∧ let s37 : h_S := h_si s19 a34 (h_ix (h_i s19 o0 71)) (h_i s19 a31 (h_ix x4))
            let s38 : h_S := h_si s37 o0 71 ((h_i s37 o0 71) + (1 : Int32))
            w_X12_join_131 Q K57 o0 x1 x4 s38
          else
            w_X12_join_131 Q K57 o0 x1 x4 s19)
        else
          w_X12_join_131 Q K57 o0 x1 x4 s19))))
def w_X12_join_57 (Q : Int32 → h_S → Prop) : Nat → Nat → Int32 → Int32 → h_S → Prop
  | 0, _, _, _, _ => False
  | n + 1, o0, x1, x4, s => w_X12_join_57b Q (w_X12_join_57 Q n) o0 x1 x4 s
def w_X12_join (o0 : Nat) (x1 : Int32) (x2 : Int32) (x3 : Int32) (s : h_S) (Q : Int32 → h_S → Prop) : Prop :=
  h_k s o0 = 33 ∧ w_X12_noVersion o0 x1 s (fun p3 s2 =>
    if p3 = 0 then
      h_k s2 o0 = 33 ∧ w_X12_noVersion o0 x2 s2 (fun p7 s6 =>
        if p7 = 0 then
          h_k s6 o0 = 33 ∧ w_X12_noVersion o0 x3 s6 (fun p11 s10 =>
            if p11 = 0 then
              h_k s10 o0 = 33 ∧ w_X12_takeOne o0 x3 (0 : Int32) s10 (fun s14 =>
                h_k s14 o0 = 33 ∧ w_X12_layWay o0 (0 : Int32) x1 s14 (fun s17 =>
                  h_k s17 o0 = 33 ∧ w_X12_layWay o0 (1 : Int32) x2 s17 (fun s20 =>
                    h_k s20 o0 = 33 ∧ let s23 : h_S := h_si s20 o0 71 (0 : Int32)
                    let s24 : h_S := h_si s23 o0 73 (0 : Int32)
                    ∃ n, w_X12_join_57 Q n o0 x1 (0 : Int32) s24)))
            else
              w_X12_join_24 Q s10)
        else
          w_X12_join_24 Q s6)
    else
      w_X12_join_24 Q s2)
def w_X12_clash_83 (Q : Int32 → h_S → Prop) (y0 : Int32) (s : h_S) : Prop :=
  Q y0 s
def w_X12_clash (o0 : Nat) (x1 : Int32) (x2 : Int32) (s : h_S) (Q : Int32 → h_S → Prop) : Prop :=
  h_k s o0 = 33 ∧ w_X12_in ((x1).toInt64) (0 : Int64) ((((h_i s o0 74)).toInt64) - (1 : Int64)) s (fun p3 s2 =>
    if p3 = 0 then
      Q (-1 : Int32) s2
    else
      if x2 = (0 : Int32) then
        h_k s2 o0 = 33 ∧ ∃ a7, (h_r s2 o0 75) = some a7 ∧ h_k s2 a7 = 1 ∧ vp_in x1 (h_n s2 a7) ∧ Q (h_i s2 a7 (h_ix x1)) s2
      else if x2 = (1 : Int32) then
        h_k s2 o0 = 33 ∧ ∃ a12, (h_r s2 o0 76) = some a12 ∧ h_k s2 a12 = 1 ∧ vp_in x1 (h_n s2 a12) ∧ Q (h_i s2 a12 (h_ix x1)) s2
      else if x2 = (2 : Int32) then
        h_k s2 o0 = 33 ∧ ∃ a17, (h_r s2 o0 77) = some a17 ∧ h_k s2 a17 = 1 ∧ vp_in x1 (h_n s2 a17) ∧ Q (h_i s2 a17 (h_ix x1)) s2
      else if x2 = (3 : Int32) then
        h_k s2 o0 = 33 ∧ ∃ a22, (h_r s2 o0 78) = some a22 ∧ h_k s2 a22 = 2 ∧ vp_in x1 (h_n s2 a22) ∧ (if (h_i s2 a22 (h_ix x1)) = 0 then
          w_X12_clash_83 Q (0 : Int32) s2
        else
          w_X12_clash_83 Q (1 : Int32) s2)
      else 
        Q (-2 : Int32) s2)
def w_X12_standsAt_75 (Q : Int32 → h_S → Prop) (K34 : Nat → Int32 → Int32 → Int32 → Int32 → Int32 → h_S → Prop) (o0 : Nat) (x1 : Int32) (x2 : Int32) (x3 : Int32) (x5 : Int32) (y0 : Int32) (s : h_S) : Prop :=
  K34 o0 x1 x2 x3 y0 (x5 + (1 : Int32)) s
def w_X12_standsAt_83 (Q : Int32 → h_S → Prop) (x4 : Int32) (s : h_S) : Prop :=
  h_bt x4 ∧ Q x4 s
def w_X12_standsAt_34b (Q : Int32 → h_S → Prop) (K34 : Nat → Int32 → Int32 → Int32 → Int32 → Int32 → h_S → Prop) (o0 : Nat) (x1 : Int32) (x2 : Int32) (x3 : Int32) (x4 : Int32) (x5 : Int32) (s : h_S) : Prop :=
  if x3 ≤ x5 then
    w_X12_standsAt_83 Q x4 s
  else
    if x4 = 0 then
      w_X12_standsAt_83 Q x4 s
    else
      h_k s o0 = 33 ∧ ∃ a4, (h_r s o0 36) = some a4 ∧ h_k s a4 = 1 ∧ vp_in (x2 + x5) (h_n s a4) ∧ ∃ a7, (h_r s o0 79) = some a7 ∧ h_k s a7 = 1 ∧ vp_in (((600 : Int32) * x1) + x5) (h_n s a7) ∧ (if (h_i s a4 (h_ix (x2 + x5))) = (h_i s a7 (h_ix (((600 : Int32) * x1) + x5))) then
        w_X12_standsAt_75 Q K34 o0 x1 x2 x3 x5 (1 : Int32) s
      else
        w_X12_standsAt_75 Q K34 o0 x1 x2 x3 x5 (0 : Int32) s)
def w_X12_standsAt_34 (Q : Int32 → h_S → Prop) : Nat → Nat → Int32 → Int32 → Int32 → Int32 → Int32 → h_S → Prop
  | 0, _, _, _, _, _, _, _ => False
  | n + 1, o0, x1, x2, x3, x4, x5, s => w_X12_standsAt_34b Q (w_X12_standsAt_34 Q n) o0 x1 x2 x3 x4 x5 s
def w_X12_standsAt_29 (Q : Int32 → h_S → Prop) (o0 : Nat) (x1 : Int32) (x2 : Int32) (x3 : Int32) (y0 : Int32) (s : h_S) : Prop :=
  ∃ n, w_X12_standsAt_34 Q n o0 x1 x2 x3 y0 (0 : Int32) s
def w_X12_standsAt (o0 : Nat) (x1 : Int32) (x2 : Int32) (s : h_S) (Q : Int32 → h_S → Prop) : Prop :=
  h_k s o0 = 33 ∧ ∃ a2, (h_r s o0 76) = some a2 ∧ h_k s a2 = 1 ∧ vp_in x1 (h_n s a2) ∧ ∃ a5, (h_r s o0 77) = some a5 ∧ h_k s a5 = 1 ∧ vp_in x1 (h_n s a5) ∧ let v8 : Int32 := ((h_i s a2 (h_ix x1)) + (h_i s a5 (h_ix x1)))
  (if (h_i s o0 35) < (x2 + v8) then
    w_X12_standsAt_29 Q o0 x1 x2 v8 (0 : Int32) s
  else
    w_X12_standsAt_29 Q o0 x1 x2 v8 (1 : Int32) s)
def w_X12_settle_157 (Q : Int32 → h_S → Prop) (o0 : Nat) (x1 : Int32) (x3 : Int32) (x5 : Int32) (y0 : Int32) (s : h_S) : Prop :=
  h_k s o0 = 33 ∧ w_X12_takeOut o0 x5 y0 s (fun s2 =>
    h_k s2 o0 = 33 ∧ w_X12_store o0 x3 s2 (fun p6 s5 =>
      if p6 = 0 then
        Q (-4 : Int32) s5
      else
        h_k s5 o0 = 33 ∧ ∃ a9, (h_r s5 o0 78) = some a9 ∧ h_k s5 a9 = 2 ∧ vp_in x1 (h_n s5 a9) ∧ let s12 : h_S := h_si s5 a9 (h_ix x1) (1 : Int32)
        w_X12_acted o0 y0 s12 (fun p14 s13 =>
          Q p14 s13)))
def w_X12_settle_115 (Q : Int32 → h_S → Prop) (o0 : Nat) (x1 : Int32) (x2 : Int32) (x3 : Int32) (y0 : Int32) (s : h_S) : Prop :=
  if x2 = 0 then
    h_k s o0 = 33 ∧ ∃ a15, (h_r s o0 77) = some a15 ∧ h_k s a15 = 1 ∧ vp_in x1 (h_n s a15) ∧ w_X12_settle_157 Q o0 x1 x3 y0 (h_i s a15 (h_ix x1)) s
  else
    if x2 = (1 : Int32) then
      h_k s o0 = 33 ∧ ∃ a11, (h_r s o0 76) = some a11 ∧ h_k s a11 = 1 ∧ vp_in x1 (h_n s a11) ∧ w_X12_settle_157 Q o0 x1 x3 y0 (h_i s a11 (h_ix x1)) s
    else
      h_k s o0 = 33 ∧ ∃ a4, (h_r s o0 76) = some a4 ∧ h_k s a4 = 1 ∧ vp_in x1 (h_n s a4) ∧ ∃ a7, (h_r s o0 77) = some a7 ∧ h_k s a7 = 1 ∧ vp_in x1 (h_n s a7) ∧ w_X12_settle_157 Q o0 x1 x3 y0 ((h_i s a4 (h_ix x1)) + (h_i s a7 (h_ix x1))) s
def w_X12_settle_85 (Q : Int32 → h_S → Prop) (o0 : Nat) (x1 : Int32) (x2 : Int32) (x3 : Int32) (x4 : Int32) (s : h_S) : Prop :=
  h_k s o0 = 33 ∧ (if x4 = (h_i s o0 35) then
    Q (-3 : Int32) s
  else
    if x2 = 0 then
      ∃ a4, (h_r s o0 76) = some a4 ∧ h_k s a4 = 1 ∧ vp_in x1 (h_n s a4) ∧ w_X12_settle_115 Q o0 x1 x2 x3 (x4 + (h_i s a4 (h_ix x1))) s
    else
      w_X12_settle_115 Q o0 x1 x2 x3 x4 s)
def w_X12_settle_60b (Q : Int32 → h_S → Prop) (K60 : Nat → Int32 → Int32 → Int32 → Int32 → h_S → Prop) (o0 : Nat) (x1 : Int32) (x2 : Int32) (x3 : Int32) (x4 : Int32) (s : h_S) : Prop :=
  h_k s o0 = 33 ∧ (if (h_i s o0 35) ≤ x4 then
    w_X12_settle_85 Q o0 x1 x2 x3 x4 s
  else
    w_X12_standsAt o0 x1 x4 s (fun p4 s3 =>
      if p4 = 0 then
        K60 o0 x1 x2 x3 (x4 + (1 : Int32)) s3
      else
        w_X12_settle_85 Q o0 x1 x2 x3 x4 s3))
def w_X12_settle_60 (Q : Int32 → h_S → Prop) : Nat → Nat → Int32 → Int32 → Int32 → Int32 → h_S → Prop
  | 0, _, _, _, _, _, _ => False
  | n + 1, o0, x1, x2, x3, x4, s => w_X12_settle_60b Q (w_X12_settle_60 Q n) o0 x1 x2 x3 x4 s
def w_X12_settle (o0 : Nat) (x1 : Int32) (x2 : Int32) (s : h_S) (Q : Int32 → h_S → Prop) : Prop :=
  h_k s o0 = 33 ∧ w_X12_in ((x1).toInt64) (0 : Int64) ((((h_i s o0 74)).toInt64) - (1 : Int64)) s (fun p3 s2 =>
    if p3 = 0 then
      Q (-1 : Int32) s2
    else
      w_X12_in ((x2).toInt64) (0 : Int64) (2 : Int64) s2 (fun p6 s5 =>
        if p6 = 0 then
          Q (-2 : Int32) s5
        else
          h_k s5 o0 = 33 ∧ ∃ a9, (h_r s5 o0 78) = some a9 ∧ h_k s5 a9 = 2 ∧ vp_in x1 (h_n s5 a9) ∧ (if (h_i s5 a9 (h_ix x1)) = 0 then
            ∃ a13, (h_r s5 o0 75) = some a13 ∧ h_k s5 a13 = 1 ∧ vp_in x1 (h_n s5 a13) ∧ w_X12_open o0 (h_i s5 a13 (h_ix x1)) s5 (fun s16 =>
              ∃ n, w_X12_settle_60 Q n o0 x1 x2 (h_i s5 a13 (h_ix x1)) (0 : Int32) s16)
          else
            Q (-3 : Int32) s5)))
def w_X12_noLink_21 (Q : Int32 → h_S → Prop) (y0 : Int32) (s : h_S) : Prop :=
  h_bt y0 ∧ Q y0 s
def w_X12_noLink (o0 : Nat) (x1 : Int32) (s : h_S) (Q : Int32 → h_S → Prop) : Prop :=
  h_k s o0 = 33 ∧ w_X12_in ((x1).toInt64) (0 : Int64) ((((h_i s o0 80)).toInt64) - (1 : Int64)) s (fun p3 s2 =>
    if p3 = 0 then
      w_X12_noLink_21 Q (1 : Int32) s2
    else
      w_X12_noLink_21 Q (0 : Int32) s2)
def w_X12_areWords_23 (Q : Int32 → h_S → Prop) (y0 : Int32) (s : h_S) : Prop :=
  h_bt y0 ∧ Q y0 s
def w_X12_areWords_22 (Q : Int32 → h_S → Prop) (s : h_S) : Prop :=
  w_X12_areWords_23 Q (0 : Int32) s
def w_X12_areWords (o0 : Nat) (x1 : Int32) (x2 : Int32) (s : h_S) (Q : Int32 → h_S → Prop) : Prop :=
  if x1 < 0 then
    w_X12_areWords_22 Q s
  else
    h_k s o0 = 33 ∧ (if 0 < (lg_cmp (((x1).toInt64) + ((x2).toInt64)) (((h_i s o0 22)).toInt64)) then
      w_X12_areWords_22 Q s
    else
      w_X12_areWords_23 Q (1 : Int32) s)
def w_X12_areAlike_53 (Q : Int32 → h_S → Prop) (K16 : Nat → Int32 → Int32 → Int32 → Int32 → Int32 → h_S → Prop) (o0 : Nat) (x1 : Int32) (x2 : Int32) (x3 : Int32) (x6 : Int32) (y0 : Int32) (s : h_S) : Prop :=
  K16 o0 x1 x2 x3 y0 (x6 + (1 : Int32)) s
def w_X12_areAlike_61 (Q : Int32 → h_S → Prop) (x5 : Int32) (s : h_S) : Prop :=
  h_bt x5 ∧ Q x5 s
def w_X12_areAlike_16b (Q : Int32 → h_S → Prop) (K16 : Nat → Int32 → Int32 → Int32 → Int32 → Int32 → h_S → Prop) (o0 : Nat) (x1 : Int32) (x2 : Int32) (x3 : Int32) (x5 : Int32) (x6 : Int32) (s : h_S) : Prop :=
  if x2 ≤ x6 then
    w_X12_areAlike_61 Q x5 s
  else
    if x5 = 0 then
      w_X12_areAlike_61 Q x5 s
    else
      h_k s o0 = 33 ∧ ∃ a4, (h_r s o0 23) = some a4 ∧ h_k s a4 = 1 ∧ vp_in (x1 + x6) (h_n s a4) ∧ ∃ a7, (h_r s o0 23) = some a7 ∧ h_k s a7 = 1 ∧ vp_in (x3 + x6) (h_n s a7) ∧ (if (h_i s a4 (h_ix (x1 + x6))) = (h_i s a7 (h_ix (x3 + x6))) then
        w_X12_areAlike_53 Q K16 o0 x1 x2 x3 x6 (1 : Int32) s
      else
        w_X12_areAlike_53 Q K16 o0 x1 x2 x3 x6 (0 : Int32) s)
def w_X12_areAlike_16 (Q : Int32 → h_S → Prop) : Nat → Nat → Int32 → Int32 → Int32 → Int32 → Int32 → h_S → Prop
  | 0, _, _, _, _, _, _, _ => False
  | n + 1, o0, x1, x2, x3, x5, x6, s => w_X12_areAlike_16b Q (w_X12_areAlike_16 Q n) o0 x1 x2 x3 x5 x6 s
def w_X12_areAlike_11 (Q : Int32 → h_S → Prop) (o0 : Nat) (x1 : Int32) (x2 : Int32) (x3 : Int32) (y0 : Int32) (s : h_S) : Prop :=
  ∃ n, w_X12_areAlike_16 Q n o0 x1 x2 x3 y0 (0 : Int32) s
def w_X12_areAlike (o0 : Nat) (x1 : Int32) (x2 : Int32) (x3 : Int32) (x4 : Int32) (s : h_S) (Q : Int32 → h_S → Prop) : Prop :=
  if x2 = x4 then
    w_X12_areAlike_11 Q o0 x1 x2 x3 (1 : Int32) s
  else
    w_X12_areAlike_11 Q o0 x1 x2 x3 (0 : Int32) s
def w_X12_link_28 (Q : Int32 → h_S → Prop) (o0 : Nat) (s : h_S) : Prop :=
  h_k s o0 = 33 ∧ w_X12_refused o0 (-2 : Int32) s (fun p3 s2 =>
    Q p3 s2)
def w_X12_link_72 (Q : Int32 → h_S → Prop) (o0 : Nat) (s : h_S) : Prop :=
  h_k s o0 = 33 ∧ w_X12_refused o0 (-1 : Int32) s (fun p3 s2 =>
    Q p3 s2)
def w_X12_link_250 (Q : Int32 → h_S → Prop) (o0 : Nat) (y0 : Int32) (y1 : Int32) (t2 : Option Nat) (s : h_S) : Prop :=
  ∃ a1, t2 = some a1 ∧ h_k s a1 = 1 ∧ vp_in y1 (h_n s a1) ∧ let s4 : h_S := h_si s a1 (h_ix y1) y0
  h_k s4 o0 = 33 ∧ let s6 : h_S := h_si s4 o0 80 ((h_i s4 o0 80) + (1 : Int32))
  w_X12_acted o0 ((h_i s6 o0 80) - (1 : Int32)) s6 (fun p8 s7 =>
    h_k s7 o0 = 33 ∧ w_X12_refused o0 p8 s7 (fun p11 s10 =>
      Q p11 s10))
def w_X12_link_229 (Q : Int32 → h_S → Prop) (o0 : Nat) (x1 : Int32) (x4 : Int32) (y0 : Int32) (y1 : Int32) (t2 : Option Nat) (s : h_S) : Prop :=
  ∃ a1, t2 = some a1 ∧ h_k s a1 = 1 ∧ vp_in y1 (h_n s a1) ∧ let s4 : h_S := h_si s a1 (h_ix y1) y0
  h_k s4 o0 = 33 ∧ (if x1 = (2 : Int32) then
    w_X12_link_250 Q o0 x4 (h_i s4 o0 80) (h_r s4 o0 86) s4
  else
    w_X12_link_250 Q o0 (-9 : Int32) (h_i s4 o0 80) (h_r s4 o0 86) s4)
def w_X12_link_203 (Q : Int32 → h_S → Prop) (o0 : Nat) (x1 : Int32) (x4 : Int32) (x5 : Int32) (y0 : Int32) (y1 : Int32) (t2 : Option Nat) (s : h_S) : Prop :=
  ∃ a1, t2 = some a1 ∧ h_k s a1 = 1 ∧ vp_in y1 (h_n s a1) ∧ let s4 : h_S := h_si s a1 (h_ix y1) y0
  h_k s4 o0 = 33 ∧ (if x1 = (2 : Int32) then
    ∃ a7, (h_r s4 o0 83) = some a7 ∧ h_k s4 a7 = 1 ∧ vp_in x4 (h_n s4 a7) ∧ w_X12_link_229 Q o0 x1 x4 (h_i s4 a7 (h_ix x4)) (h_i s4 o0 80) (h_r s4 o0 85) s4
  else
    w_X12_link_229 Q o0 x1 x4 x5 (h_i s4 o0 80) (h_r s4 o0 85) s4)
def w_X12_link_132 (Q : Int32 → h_S → Prop) (o0 : Nat) (x1 : Int32) (x2 : Int32) (x3 : Int32) (x4 : Int32) (x5 : Int32) (s : h_S) : Prop :=
  h_k s o0 = 33 ∧ (if (h_i s o0 80) = (24 : Int32) then
    w_X12_refused o0 (-4 : Int32) s (fun p20 s19 =>
      Q p20 s19)
  else
    ∃ a3, (h_r s o0 81) = some a3 ∧ h_k s a3 = 1 ∧ vp_in (h_i s o0 80) (h_n s a3) ∧ let s6 : h_S := h_si s a3 (h_ix (h_i s o0 80)) x1
    ∃ a7, (h_r s6 o0 82) = some a7 ∧ h_k s6 a7 = 1 ∧ vp_in (h_i s6 o0 80) (h_n s6 a7) ∧ let s10 : h_S := h_si s6 a7 (h_ix (h_i s6 o0 80)) x2
    ∃ a11, (h_r s10 o0 83) = some a11 ∧ h_k s10 a11 = 1 ∧ vp_in (h_i s10 o0 80) (h_n s10 a11) ∧ let s14 : h_S := h_si s10 a11 (h_ix (h_i s10 o0 80)) x3
    (if x1 = (2 : Int32) then
      ∃ a16, (h_r s14 o0 82) = some a16 ∧ h_k s14 a16 = 1 ∧ vp_in x4 (h_n s14 a16) ∧ w_X12_link_203 Q o0 x1 x4 x5 (h_i s14 a16 (h_ix x4)) (h_i s14 o0 80) (h_r s14 o0 84) s14
    else
      w_X12_link_203 Q o0 x1 x4 x5 x4 (h_i s14 o0 80) (h_r s14 o0 84) s14))
def w_X12_link_107 (Q : Int32 → h_S → Prop) (o0 : Nat) (x1 : Int32) (x2 : Int32) (x3 : Int32) (x4 : Int32) (x5 : Int32) (s : h_S) : Prop :=
  if x1 = (4 : Int32) then
    h_k s o0 = 33 ∧ w_X12_areAlike o0 x2 x3 x4 x5 s (fun p4 s3 =>
      if p4 = 0 then
        w_X12_link_132 Q o0 x1 x2 x3 x4 x5 s3
      else
        h_k s3 o0 = 33 ∧ w_X12_refused o0 (-3 : Int32) s3 (fun p8 s7 =>
          Q p8 s7))
  else
    w_X12_link_132 Q o0 x1 x2 x3 x4 x5 s
def w_X12_link_78 (Q : Int32 → h_S → Prop) (o0 : Nat) (x1 : Int32) (x2 : Int32) (x3 : Int32) (x4 : Int32) (x5 : Int32) (s : h_S) : Prop :=
  if x1 = (2 : Int32) then
    h_k s o0 = 33 ∧ ∃ a3, (h_r s o0 81) = some a3 ∧ h_k s a3 = 1 ∧ vp_in x4 (h_n s a3) ∧ w_X12_in (((h_i s a3 (h_ix x4))).toInt64) (1 : Int64) (2 : Int64) s (fun p7 s6 =>
      if p7 = 0 then
        h_k s6 o0 = 33 ∧ w_X12_failed o0 (2 : Int32) s6 (fun p11 s10 =>
          Q p11 s10)
      else
        w_X12_link_107 Q o0 x1 x2 x3 x4 x5 s6)
  else
    w_X12_link_107 Q o0 x1 x2 x3 x4 x5 s
def w_X12_link_35 (Q : Int32 → h_S → Prop) (o0 : Nat) (x1 : Int32) (x2 : Int32) (x3 : Int32) (x4 : Int32) (x5 : Int32) (s : h_S) : Prop :=
  h_k s o0 = 33 ∧ w_X12_areWords o0 x2 x3 s (fun p3 s2 =>
    if p3 = 0 then
      w_X12_link_72 Q o0 s2
    else
      if x1 = (2 : Int32) then
        h_k s2 o0 = 33 ∧ w_X12_noLink o0 x4 s2 (fun p12 s11 =>
          if p12 = 0 then
            w_X12_link_78 Q o0 x1 x2 x3 x4 x5 s11
          else
            w_X12_link_72 Q o0 s11)
      else
        h_k s2 o0 = 33 ∧ w_X12_areWords o0 x4 x5 s2 (fun p8 s7 =>
          if p8 = 0 then
            w_X12_link_72 Q o0 s7
          else
            w_X12_link_78 Q o0 x1 x2 x3 x4 x5 s7))
def w_X12_link (o0 : Nat) (x1 : Int32) (x2 : Int32) (x3 : Int32) (x4 : Int32) (x5 : Int32) (s : h_S) (Q : Int32 → h_S → Prop) : Prop :=
  w_X12_in ((x1).toInt64) (0 : Int64) (4 : Int64) s (fun p2 s1 =>
    if p2 = 0 then
      w_X12_link_28 Q o0 s1
    else
      if x3 < (1 : Int32) then
        w_X12_link_28 Q o0 s1
      else
        if x1 = (2 : Int32) then
          w_X12_link_35 Q o0 x1 x2 x3 x4 x5 s1
        else
          if (1 : Int32) ≤ x5 then
            w_X12_link_35 Q o0 x1 x2 x3 x4 x5 s1
          else
            w_X12_link_28 Q o0 s1)
def w_X12_ofLink (o0 : Nat) (x1 : Int32) (x2 : Int32) (s : h_S) (Q : Int32 → h_S → Prop) : Prop :=
  h_k s o0 = 33 ∧ w_X12_noLink o0 x1 s (fun p3 s2 =>
    if p3 = 0 then
      if x2 = (0 : Int32) then
        h_k s2 o0 = 33 ∧ ∃ a7, (h_r s2 o0 81) = some a7 ∧ h_k s2 a7 = 1 ∧ vp_in x1 (h_n s2 a7) ∧ Q (h_i s2 a7 (h_ix x1)) s2
      else if x2 = (1 : Int32) then
        h_k s2 o0 = 33 ∧ ∃ a12, (h_r s2 o0 82) = some a12 ∧ h_k s2 a12 = 1 ∧ vp_in x1 (h_n s2 a12) ∧ Q (h_i s2 a12 (h_ix x1)) s2
      else if x2 = (2 : Int32) then
        h_k s2 o0 = 33 ∧ ∃ a17, (h_r s2 o0 83) = some a17 ∧ h_k s2 a17 = 1 ∧ vp_in x1 (h_n s2 a17) ∧ Q (h_i s2 a17 (h_ix x1)) s2
      else if x2 = (3 : Int32) then
        h_k s2 o0 = 33 ∧ ∃ a22, (h_r s2 o0 84) = some a22 ∧ h_k s2 a22 = 1 ∧ vp_in x1 (h_n s2 a22) ∧ Q (h_i s2 a22 (h_ix x1)) s2
      else if x2 = (4 : Int32) then
        h_k s2 o0 = 33 ∧ ∃ a27, (h_r s2 o0 85) = some a27 ∧ h_k s2 a27 = 1 ∧ vp_in x1 (h_n s2 a27) ∧ Q (h_i s2 a27 (h_ix x1)) s2
      else if x2 = (5 : Int32) then
        h_k s2 o0 = 33 ∧ ∃ a32, (h_r s2 o0 86) = some a32 ∧ h_k s2 a32 = 1 ∧ vp_in x1 (h_n s2 a32) ∧ Q (h_i s2 a32 (h_ix x1)) s2
      else 
        Q (-2 : Int32) s2
    else
      Q (-1 : Int32) s2)
def w_X12_findPart_179 (Q : Int32 → h_S → Prop) (K53 : Nat → Int32 → Int32 → Int32 → Int32 → Int32 → h_S → Prop) (o0 : Nat) (x3 : Int32) (x4 : Int32) (x5 : Int32) (x6 : Int32) (x7 : Int32) (s : h_S) : Prop :=
  K53 o0 x3 x4 x5 x6 x7 s
def w_X12_findPart_170 (Q : Int32 → h_S → Prop) (K53 : Nat → Int32 → Int32 → Int32 → Int32 → Int32 → h_S → Prop) (o0 : Nat) (x3 : Int32) (x4 : Int32) (x5 : Int32) (x6 : Int32) (x7 : Int32) (s : h_S) : Prop :=
  w_X12_findPart_179 Q K53 o0 x3 x4 x5 (x6 + (1 : Int32)) x7 s
def w_X12_findPart_149 (Q : Int32 → h_S → Prop) (K53 : Nat → Int32 → Int32 → Int32 → Int32 → Int32 → h_S → Prop) (o0 : Nat) (x3 : Int32) (x4 : Int32) (x5 : Int32) (x6 : Int32) (x7 : Int32) (x8 : Int32) (s : h_S) : Prop :=
  if x6 = x3 then
    h_k s o0 = 33 ∧ let s3 : h_S := h_si s o0 87 x8
    let s4 : h_S := h_si s3 o0 88 (x7 - x8)
    w_X12_findPart_170 Q K53 o0 x3 x4 x5 x6 x7 s4
  else
    w_X12_findPart_170 Q K53 o0 x3 x4 x5 x6 x7 s
def w_X12_findPart_101b (Q : Int32 → h_S → Prop) (K53 : Nat → Int32 → Int32 → Int32 → Int32 → Int32 → h_S → Prop) (K101 : Nat → Int32 → Int32 → Int32 → Int32 → Int32 → Int32 → h_S → Prop) (o0 : Nat) (x3 : Int32) (x4 : Int32) (x5 : Int32) (x6 : Int32) (x7 : Int32) (x8 : Int32) (s : h_S) : Prop :=
  h_k s o0 = 33 ∧ (if (h_i s o0 35) ≤ x7 then
    w_X12_findPart_149 Q K53 o0 x3 x4 x5 x6 x7 x8 s
  else
    ∃ a3, (h_r s o0 36) = some a3 ∧ h_k s a3 = 1 ∧ vp_in x7 (h_n s a3) ∧ ∃ a6, (h_r s o0 36) = some a6 ∧ h_k s a6 = 1 ∧ vp_in (x7 - (1 : Int32)) (h_n s a6) ∧ (if (h_i s a3 (h_ix x7)) = ((h_i s a6 (h_ix (x7 - (1 : Int32)))) + (1 : Int32)) then
      ∃ a10, (h_r s o0 36) = some a10 ∧ h_k s a10 = 1 ∧ vp_in x7 (h_n s a10) ∧ (if x5 < (h_i s a10 (h_ix x7)) then
        w_X12_findPart_149 Q K53 o0 x3 x4 x5 x6 x7 x8 s
      else
        K101 o0 x3 x4 x5 x6 (x7 + (1 : Int32)) x8 s)
    else
      w_X12_findPart_149 Q K53 o0 x3 x4 x5 x6 x7 x8 s))
def w_X12_findPart_101 (Q : Int32 → h_S → Prop) (K53 : Nat → Int32 → Int32 → Int32 → Int32 → Int32 → h_S → Prop) : Nat → Nat → Int32 → Int32 → Int32 → Int32 → Int32 → Int32 → h_S → Prop
  | 0, _, _, _, _, _, _, _, _ => False
  | n + 1, o0, x3, x4, x5, x6, x7, x8, s => w_X12_findPart_101b Q K53 (w_X12_findPart_101 Q K53 n) o0 x3 x4 x5 x6 x7 x8 s
def w_X12_findPart_176 (Q : Int32 → h_S → Prop) (K53 : Nat → Int32 → Int32 → Int32 → Int32 → Int32 → h_S → Prop) (o0 : Nat) (x3 : Int32) (x4 : Int32) (x5 : Int32) (x6 : Int32) (x7 : Int32) (s : h_S) : Prop :=
  w_X12_findPart_179 Q K53 o0 x3 x4 x5 x6 (x7 + (1 : Int32)) s
def w_X12_findPart_53b (Q : Int32 → h_S → Prop) (K53 : Nat → Int32 → Int32 → Int32 → Int32 → Int32 → h_S → Prop) (o0 : Nat) (x3 : Int32) (x4 : Int32) (x5 : Int32) (x6 : Int32) (x7 : Int32) (s : h_S) : Prop :=
  h_k s o0 = 33 ∧ (if (h_i s o0 35) ≤ x7 then
    Q x6 s
  else
    ∃ a3, (h_r s o0 36) = some a3 ∧ h_k s a3 = 1 ∧ vp_in x7 (h_n s a3) ∧ (if (h_i s a3 (h_ix x7)) = (-7 : Int32) then
      w_X12_findPart_176 Q K53 o0 x3 x4 x5 x6 x7 s
    else
      ∃ a7, (h_r s o0 36) = some a7 ∧ h_k s a7 = 1 ∧ vp_in x7 (h_n s a7) ∧ w_X12_in (((h_i s a7 (h_ix x7))).toInt64) ((x4).toInt64) ((x5).toInt64) s (fun p11 s10 =>
        if p11 = 0 then
          w_X12_findPart_176 Q K53 o0 x3 x4 x5 x6 x7 s10
        else
          ∃ n, w_X12_findPart_101 Q K53 n o0 x3 x4 x5 x6 (x7 + (1 : Int32)) x7 s10)))
def w_X12_findPart_53 (Q : Int32 → h_S → Prop) : Nat → Nat → Int32 → Int32 → Int32 → Int32 → Int32 → h_S → Prop
  | 0, _, _, _, _, _, _, _ => False
  | n + 1, o0, x3, x4, x5, x6, x7, s => w_X12_findPart_53b Q (w_X12_findPart_53 Q n) o0 x3 x4 x5 x6 x7 s
def w_X12_findPart_42 (Q : Int32 → h_S → Prop) (o0 : Nat) (x3 : Int32) (x4 : Int32) (y0 : Int32) (y1 : Int32) (s : h_S) : Prop :=
  ∃ n, w_X12_findPart_53 Q n o0 x3 x4 ((y1 + y0) - (1 : Int32)) (0 : Int32) (0 : Int32) s
def w_X12_findPart_19 (Q : Int32 → h_S → Prop) (o0 : Nat) (x1 : Int32) (x2 : Int32) (x3 : Int32) (y0 : Int32) (s : h_S) : Prop :=
  if x2 = 0 then
    h_k s o0 = 33 ∧ ∃ a7, (h_r s o0 83) = some a7 ∧ h_k s a7 = 1 ∧ vp_in x1 (h_n s a7) ∧ w_X12_findPart_42 Q o0 x3 y0 (h_i s a7 (h_ix x1)) y0 s
  else
    h_k s o0 = 33 ∧ ∃ a3, (h_r s o0 85) = some a3 ∧ h_k s a3 = 1 ∧ vp_in x1 (h_n s a3) ∧ w_X12_findPart_42 Q o0 x3 y0 (h_i s a3 (h_ix x1)) y0 s
def w_X12_findPart (o0 : Nat) (x1 : Int32) (x2 : Int32) (x3 : Int32) (s : h_S) (Q : Int32 → h_S → Prop) : Prop :=
  if x2 = 0 then
    h_k s o0 = 33 ∧ ∃ a7, (h_r s o0 82) = some a7 ∧ h_k s a7 = 1 ∧ vp_in x1 (h_n s a7) ∧ w_X12_findPart_19 Q o0 x1 x2 x3 (h_i s a7 (h_ix x1)) s
  else
    h_k s o0 = 33 ∧ ∃ a3, (h_r s o0 84) = some a3 ∧ h_k s a3 = 1 ∧ vp_in x1 (h_n s a3) ∧ w_X12_findPart_19 Q o0 x1 x2 x3 (h_i s a3 (h_ix x1)) s
def w_X12_ends_16 (Q : Int32 → h_S → Prop) (s : h_S) : Prop :=
  Q (-1 : Int32) s
def w_X12_ends (o0 : Nat) (x1 : Int32) (x2 : Int32) (x3 : Int32) (s : h_S) (Q : Int32 → h_S → Prop) : Prop :=
  h_k s o0 = 33 ∧ w_X12_noLink o0 x1 s (fun p3 s2 =>
    if p3 = 0 then
      h_k s2 o0 = 33 ∧ w_X12_noVersion o0 x3 s2 (fun p7 s6 =>
        if p7 = 0 then
          w_X12_in ((x2).toInt64) (0 : Int64) (1 : Int64) s6 (fun p10 s9 =>
            if p10 = 0 then
              Q (-2 : Int32) s9
            else
              h_k s9 o0 = 33 ∧ w_X12_layVersion o0 x3 s9 (fun s13 =>
                h_k s13 o0 = 33 ∧ w_X12_findPart o0 x1 x2 (-1 : Int32) s13 (fun p17 s16 =>
                  Q p17 s16)))
        else
          w_X12_ends_16 Q s6)
    else
      w_X12_ends_16 Q s2)
def w_X12_part_21 (Q : Int32 → h_S → Prop) (s : h_S) : Prop :=
  Q (-1 : Int32) s
def w_X12_part_46 (Q : Int32 → h_S → Prop) (s : h_S) : Prop :=
  Q (-2 : Int32) s
def w_X12_part_103 (Q : Int32 → h_S → Prop) (y0 : Int32) (s : h_S) : Prop :=
  Q y0 s
def w_X12_part (o0 : Nat) (x1 : Int32) (x2 : Int32) (x3 : Int32) (x4 : Int32) (x5 : Int32) (s : h_S) (Q : Int32 → h_S → Prop) : Prop :=
  h_k s o0 = 33 ∧ w_X12_noLink o0 x1 s (fun p3 s2 =>
    if p3 = 0 then
      h_k s2 o0 = 33 ∧ w_X12_noVersion o0 x3 s2 (fun p7 s6 =>
        if p7 = 0 then
          if 0 ≤ x4 then
            w_X12_in ((x2).toInt64) (0 : Int64) (1 : Int64) s6 (fun p11 s10 =>
              if p11 = 0 then
                w_X12_part_46 Q s10
              else
                w_X12_in ((x5).toInt64) (0 : Int64) (2 : Int64) s10 (fun p14 s13 =>
                  if p14 = 0 then
                    w_X12_part_46 Q s13
                  else
                    h_k s13 o0 = 33 ∧ w_X12_layVersion o0 x3 s13 (fun s17 =>
                      h_k s17 o0 = 33 ∧ w_X12_findPart o0 x1 x2 x4 s17 (fun p21 s20 =>
                        if x4 < p21 then
                          if x5 = 0 then
                            h_k s20 o0 = 33 ∧ w_X12_part_103 Q (h_i s20 o0 87) s20
                          else
                            if x5 = (1 : Int32) then
                              h_k s20 o0 = 33 ∧ ∃ a27, (h_r s20 o0 36) = some a27 ∧ h_k s20 a27 = 1 ∧ vp_in (h_i s20 o0 87) (h_n s20 a27) ∧ w_X12_part_103 Q (h_i s20 a27 (h_ix (h_i s20 o0 87))) s20
                            else
                              h_k s20 o0 = 33 ∧ w_X12_part_103 Q (h_i s20 o0 88) s20
                        else
                          Q (-1 : Int32) s20))))
          else
            w_X12_part_21 Q s6
        else
          w_X12_part_21 Q s6)
    else
      w_X12_part_21 Q s2)
def w_X12_linksOf_80 (Q : Int32 → h_S → Prop) (K4 : Nat → Int32 → Int32 → Int32 → h_S → Prop) (o0 : Nat) (x1 : Int32) (x3 : Int32) (y0 : Int32) (y1 : Int32) (s : h_S) : Prop :=
  K4 o0 x1 (y1 + y0) (x3 + (1 : Int32)) s
def w_X12_linksOf_75 (Q : Int32 → h_S → Prop) (K4 : Nat → Int32 → Int32 → Int32 → h_S → Prop) (o0 : Nat) (x1 : Int32) (x3 : Int32) (y0 : Int32) (s : h_S) : Prop :=
  w_X12_linksOf_80 Q K4 o0 x1 x3 (1 : Int32) y0 s
def w_X12_linksOf_4b (Q : Int32 → h_S → Prop) (K4 : Nat → Int32 → Int32 → Int32 → h_S → Prop) (o0 : Nat) (x1 : Int32) (x2 : Int32) (x3 : Int32) (s : h_S) : Prop :=
  h_k s o0 = 33 ∧ (if (h_i s o0 80) ≤ x3 then
    Q x2 s
  else
    ∃ a3, (h_r s o0 82) = some a3 ∧ h_k s a3 = 1 ∧ vp_in x3 (h_n s a3) ∧ ∃ a6, (h_r s o0 82) = some a6 ∧ h_k s a6 = 1 ∧ vp_in x3 (h_n s a6) ∧ ∃ a9, (h_r s o0 83) = some a9 ∧ h_k s a9 = 1 ∧ vp_in x3 (h_n s a9) ∧ w_X12_in ((x1).toInt64) (((h_i s a3 (h_ix x3))).toInt64) (((((h_i s a6 (h_ix x3)) + (h_i s a9 (h_ix x3)))).toInt64) - (1 : Int64)) s (fun p13 s12 =>
      if p13 = 0 then
        h_k s12 o0 = 33 ∧ ∃ a16, (h_r s12 o0 84) = some a16 ∧ h_k s12 a16 = 1 ∧ vp_in x3 (h_n s12 a16) ∧ ∃ a19, (h_r s12 o0 84) = some a19 ∧ h_k s12 a19 = 1 ∧ vp_in x3 (h_n s12 a19) ∧ ∃ a22, (h_r s12 o0 85) = some a22 ∧ h_k s12 a22 = 1 ∧ vp_in x3 (h_n s12 a22) ∧ w_X12_in ((x1).toInt64) (((h_i s12 a16 (h_ix x3))).toInt64) (((((h_i s12 a19 (h_ix x3)) + (h_i s12 a22 (h_ix x3)))).toInt64) - (1 : Int64)) s12 (fun p26 s25 =>
          if p26 = 0 then
            w_X12_linksOf_80 Q K4 o0 x1 x3 (0 : Int32) x2 s25
          else
            w_X12_linksOf_75 Q K4 o0 x1 x3 x2 s25)
      else
        w_X12_linksOf_75 Q K4 o0 x1 x3 x2 s12))
def w_X12_linksOf_4 (Q : Int32 → h_S → Prop) : Nat → Nat → Int32 → Int32 → Int32 → h_S → Prop
  | 0, _, _, _, _, _ => False
  | n + 1, o0, x1, x2, x3, s => w_X12_linksOf_4b Q (w_X12_linksOf_4 Q n) o0 x1 x2 x3 s
def w_X12_linksOf (o0 : Nat) (x1 : Int32) (s : h_S) (Q : Int32 → h_S → Prop) : Prop :=
  ∃ n, w_X12_linksOf_4 Q n o0 x1 (0 : Int32) (0 : Int32) s
def w_X12_noRight_21 (Q : Int32 → h_S → Prop) (y0 : Int32) (s : h_S) : Prop :=
  h_bt y0 ∧ Q y0 s
def w_X12_noRight (o0 : Nat) (x1 : Int32) (s : h_S) (Q : Int32 → h_S → Prop) : Prop :=
  h_k s o0 = 33 ∧ w_X12_in ((x1).toInt64) (0 : Int64) ((((h_i s o0 89)).toInt64) - (1 : Int64)) s (fun p3 s2 =>
    if p3 = 0 then
      w_X12_noRight_21 Q (1 : Int32) s2
    else
      w_X12_noRight_21 Q (0 : Int32) s2)
def w_X12_useOf_31 (Q : Int32 → h_S → Prop) (y0 : Int32) (s : h_S) : Prop :=
  Q y0 s
def w_X12_useOf (x0 : Int32) (s : h_S) (Q : Int32 → h_S → Prop) : Prop :=
  if x0 = (114 : Int32) then
    w_X12_useOf_31 Q (0 : Int32) s
  else
    if x0 = (113 : Int32) then
      w_X12_useOf_31 Q (1 : Int32) s
    else
      if x0 = (108 : Int32) then
        w_X12_useOf_31 Q (2 : Int32) s
      else
        w_X12_useOf_31 Q (-1 : Int32) s
def w_X12_readText_282 (Q : Int32 → h_S → Prop) (K23 : Nat → Int32 → Int32 → Int32 → Int32 → Int32 → h_S → Prop) (o0 : Nat) (x1 : Int32) (x2 : Int32) (x3 : Int32) (x4 : Int32) (x5 : Int32) (s : h_S) : Prop :=
  K23 o0 x1 x2 x3 x4 (x5 + (1 : Int32)) s
def w_X12_readText_279 (Q : Int32 → h_S → Prop) (x5 : Int32) (s : h_S) : Prop :=
  Q x5 s
def w_X12_readText_240 (Q : Int32 → h_S → Prop) (K23 : Nat → Int32 → Int32 → Int32 → Int32 → Int32 → h_S → Prop) (o0 : Nat) (x1 : Int32) (x2 : Int32) (x3 : Int32) (x4 : Int32) (x5 : Int32) (x6 : Int32) (x7 : Int32) (s : h_S) : Prop :=
  if x3 = (4 : Int32) then
    if x7 = 0 then
      w_X12_readText_279 Q x5 s
    else
      if (4 : Int32) ≤ x4 then
        w_X12_readText_279 Q x5 s
      else
        h_k s o0 = 33 ∧ let s5 : h_S := h_si s o0 101 ((((10 : Int32) * (h_i s o0 101)) + x6) - (48 : Int32))
        w_X12_readText_282 Q K23 o0 x1 x2 x3 (x4 + (1 : Int32)) x5 s5
  else
    w_X12_readText_279 Q x5 s
def w_X12_readText_215 (Q : Int32 → h_S → Prop) (K23 : Nat → Int32 → Int32 → Int32 → Int32 → Int32 → h_S → Prop) (o0 : Nat) (x1 : Int32) (x2 : Int32) (x3 : Int32) (x4 : Int32) (x5 : Int32) (x6 : Int32) (x7 : Int32) (s : h_S) : Prop :=
  if x3 = (3 : Int32) then
    if x6 = (45 : Int32) then
      if x4 ≤ 0 then
        w_X12_readText_240 Q K23 o0 x1 x2 x3 x4 x5 x6 x7 s
      else
        w_X12_readText_282 Q K23 o0 x1 x2 (4 : Int32) (0 : Int32) x5 s
    else
      w_X12_readText_240 Q K23 o0 x1 x2 x3 x4 x5 x6 x7 s
  else
    w_X12_readText_240 Q K23 o0 x1 x2 x3 x4 x5 x6 x7 s
def w_X12_readText_176 (Q : Int32 → h_S → Prop) (K23 : Nat → Int32 → Int32 → Int32 → Int32 → Int32 → h_S → Prop) (o0 : Nat) (x1 : Int32) (x2 : Int32) (x3 : Int32) (x4 : Int32) (x5 : Int32) (x6 : Int32) (x7 : Int32) (s : h_S) : Prop :=
  if x3 = (3 : Int32) then
    if x7 = 0 then
      w_X12_readText_215 Q K23 o0 x1 x2 x3 x4 x5 x6 x7 s
    else
      if (4 : Int32) ≤ x4 then
        w_X12_readText_215 Q K23 o0 x1 x2 x3 x4 x5 x6 x7 s
      else
        h_k s o0 = 33 ∧ let s5 : h_S := h_si s o0 100 ((((10 : Int32) * (h_i s o0 100)) + x6) - (48 : Int32))
        w_X12_readText_282 Q K23 o0 x1 x2 x3 (x4 + (1 : Int32)) x5 s5
  else
    w_X12_readText_215 Q K23 o0 x1 x2 x3 x4 x5 x6 x7 s
def w_X12_readText_149 (Q : Int32 → h_S → Prop) (K23 : Nat → Int32 → Int32 → Int32 → Int32 → Int32 → h_S → Prop) (o0 : Nat) (x1 : Int32) (x2 : Int32) (x3 : Int32) (x4 : Int32) (x5 : Int32) (x6 : Int32) (x7 : Int32) (s : h_S) : Prop :=
  if x3 = (2 : Int32) then
    if x6 = (64 : Int32) then
      h_k s o0 = 33 ∧ (if (h_i s o0 99) ≤ 0 then
        w_X12_readText_176 Q K23 o0 x1 x2 x3 x4 x5 x6 x7 s
      else
        w_X12_readText_282 Q K23 o0 x1 x2 (3 : Int32) (0 : Int32) x5 s)
    else
      w_X12_readText_176 Q K23 o0 x1 x2 x3 x4 x5 x6 x7 s
  else
    w_X12_readText_176 Q K23 o0 x1 x2 x3 x4 x5 x6 x7 s
def w_X12_readText_111 (Q : Int32 → h_S → Prop) (K23 : Nat → Int32 → Int32 → Int32 → Int32 → Int32 → h_S → Prop) (o0 : Nat) (x1 : Int32) (x2 : Int32) (x3 : Int32) (x4 : Int32) (x5 : Int32) (x6 : Int32) (x7 : Int32) (x8 : Int32) (s : h_S) : Prop :=
  if x3 = (2 : Int32) then
    if x8 < 0 then
      w_X12_readText_149 Q K23 o0 x1 x2 x3 x4 x5 x6 x7 s
    else
      h_k s o0 = 33 ∧ w_X12_hasBit (h_i s o0 99) x8 s (fun p5 s4 =>
        if p5 = 0 then
          h_k s4 o0 = 33 ∧ let s8 : h_S := h_si s4 o0 99 ((h_i s4 o0 99) ||| ((1 : Int32) <<< (x8 &&& 31)))
          w_X12_readText_282 Q K23 o0 x1 x2 x3 x4 x5 s8
        else
          w_X12_readText_149 Q K23 o0 x1 x2 x3 x4 x5 x6 x7 s4)
  else
    w_X12_readText_149 Q K23 o0 x1 x2 x3 x4 x5 x6 x7 s
def w_X12_readText_94 (Q : Int32 → h_S → Prop) (K23 : Nat → Int32 → Int32 → Int32 → Int32 → Int32 → h_S → Prop) (o0 : Nat) (x1 : Int32) (x2 : Int32) (x3 : Int32) (x4 : Int32) (x5 : Int32) (x6 : Int32) (x7 : Int32) (x8 : Int32) (s : h_S) : Prop :=
  if x3 = (1 : Int32) then
    if x6 = (58 : Int32) then
      w_X12_readText_282 Q K23 o0 x1 x2 (2 : Int32) x4 x5 s
    else
      w_X12_readText_111 Q K23 o0 x1 x2 x3 x4 x5 x6 x7 x8 s
  else
    w_X12_readText_111 Q K23 o0 x1 x2 x3 x4 x5 x6 x7 x8 s
def w_X12_readText_303 (Q : Int32 → h_S → Prop) (y0 : Int32) (s : h_S) : Prop :=
  Q y0 s
def w_X12_readText_302 (Q : Int32 → h_S → Prop) (x2 : Int32) (s : h_S) : Prop :=
  w_X12_readText_303 Q x2 s
def w_X12_readText_23b (Q : Int32 → h_S → Prop) (K23 : Nat → Int32 → Int32 → Int32 → Int32 → Int32 → h_S → Prop) (o0 : Nat) (x1 : Int32) (x2 : Int32) (x3 : Int32) (x4 : Int32) (x5 : Int32) (s : h_S) : Prop :=
  if x2 ≤ x5 then
    if x3 = (4 : Int32) then
      if x4 ≤ 0 then
        w_X12_readText_302 Q x2 s
      else
        w_X12_readText_303 Q (-1 : Int32) s
    else
      w_X12_readText_302 Q x2 s
  else
    h_k s o0 = 33 ∧ ∃ a5, (h_r s o0 112) = some a5 ∧ h_k s a5 = 1 ∧ vp_in (x1 + x5) (h_n s a5) ∧ w_X12_in (((h_i s a5 (h_ix (x1 + x5)))).toInt64) (48 : Int64) (57 : Int64) s (fun p9 s8 =>
      w_X12_useOf (h_i s a5 (h_ix (x1 + x5))) s8 (fun p11 s10 =>
        if x3 = 0 then
          w_X12_in (((h_i s a5 (h_ix (x1 + x5)))).toInt64) (48 : Int64) (51 : Int64) s10 (fun p14 s13 =>
            if p14 = 0 then
              w_X12_readText_94 Q K23 o0 x1 x2 x3 x4 x5 (h_i s a5 (h_ix (x1 + x5))) p9 p11 s13
            else
              h_k s13 o0 = 33 ∧ let s17 : h_S := h_si s13 o0 98 ((h_i s a5 (h_ix (x1 + x5))) - (48 : Int32))
              w_X12_readText_282 Q K23 o0 x1 x2 (1 : Int32) x4 x5 s17)
        else
          w_X12_readText_94 Q K23 o0 x1 x2 x3 x4 x5 (h_i s a5 (h_ix (x1 + x5))) p9 p11 s10))
def w_X12_readText_23 (Q : Int32 → h_S → Prop) : Nat → Nat → Int32 → Int32 → Int32 → Int32 → Int32 → h_S → Prop
  | 0, _, _, _, _, _, _, _ => False
  | n + 1, o0, x1, x2, x3, x4, x5, s => w_X12_readText_23b Q (w_X12_readText_23 Q n) o0 x1 x2 x3 x4 x5 s
def w_X12_readText (o0 : Nat) (x1 : Int32) (x2 : Int32) (s : h_S) (Q : Int32 → h_S → Prop) : Prop :=
  h_k s o0 = 33 ∧ let s2 : h_S := h_si s o0 99 (0 : Int32)
  let s3 : h_S := h_si s2 o0 100 (0 : Int32)
  let s4 : h_S := h_si s3 o0 101 (0 : Int32)
  ∃ n, w_X12_readText_23 Q n o0 x1 x2 (0 : Int32) (0 : Int32) (0 : Int32) s4
def w_X12_addRight (o0 : Nat) (x1 : Int32) (x2 : Int32) (x3 : Int32) (x4 : Int32) (x5 : Int32) (x6 : Int32) (s : h_S) (Q : h_S → Prop) : Prop :=
  h_k s o0 = 33 ∧ ∃ a2, (h_r s o0 90) = some a2 ∧ h_k s a2 = 1 ∧ vp_in (h_i s o0 89) (h_n s a2) ∧ let s5 : h_S := h_si s a2 (h_ix (h_i s o0 89)) x1
  ∃ a6, (h_r s5 o0 91) = some a6 ∧ h_k s5 a6 = 1 ∧ vp_in (h_i s5 o0 89) (h_n s5 a6) ∧ let s9 : h_S := h_si s5 a6 (h_ix (h_i s5 o0 89)) x2
  ∃ a10, (h_r s9 o0 92) = some a10 ∧ h_k s9 a10 = 1 ∧ vp_in (h_i s9 o0 89) (h_n s9 a10) ∧ let s13 : h_S := h_si s9 a10 (h_ix (h_i s9 o0 89)) x3
  ∃ a14, (h_r s13 o0 93) = some a14 ∧ h_k s13 a14 = 1 ∧ vp_in (h_i s13 o0 89) (h_n s13 a14) ∧ let s17 : h_S := h_si s13 a14 (h_ix (h_i s13 o0 89)) x4
  ∃ a18, (h_r s17 o0 94) = some a18 ∧ h_k s17 a18 = 1 ∧ vp_in (h_i s17 o0 89) (h_n s17 a18) ∧ let s21 : h_S := h_si s17 a18 (h_ix (h_i s17 o0 89)) x5
  ∃ a22, (h_r s21 o0 95) = some a22 ∧ h_k s21 a22 = 1 ∧ vp_in (h_i s21 o0 89) (h_n s21 a22) ∧ let s25 : h_S := h_si s21 a22 (h_ix (h_i s21 o0 89)) x6
  ∃ a26, (h_r s25 o0 96) = some a26 ∧ h_k s25 a26 = 1 ∧ vp_in (h_i s25 o0 89) (h_n s25 a26) ∧ let s29 : h_S := h_si s25 a26 (h_ix (h_i s25 o0 89)) ((h_i s25 o0 1) + (1 : Int32))
  ∃ a30, (h_r s29 o0 97) = some a30 ∧ h_k s29 a30 = 1 ∧ vp_in (h_i s29 o0 89) (h_n s29 a30) ∧ let s33 : h_S := h_si s29 a30 (h_ix (h_i s29 o0 89)) (-9 : Int32)
  let s34 : h_S := h_si s33 o0 89 ((h_i s33 o0 89) + (1 : Int32))
  Q s34
def w_X12_right_15 (Q : Int32 → h_S → Prop) (o0 : Nat) (s : h_S) : Prop :=
  h_k s o0 = 33 ∧ w_X12_refused o0 (-1 : Int32) s (fun p3 s2 =>
    Q p3 s2)
def w_X12_right (o0 : Nat) (x1 : Int32) (x2 : Int32) (x3 : Int32) (x4 : Int32) (x5 : Int32) (s : h_S) (Q : Int32 → h_S → Prop) : Prop :=
  h_k s o0 = 33 ∧ w_X12_noWriting o0 x1 s (fun p3 s2 =>
    if p3 = 0 then
      w_X12_noSheet x2 s2 (fun p6 s5 =>
        if p6 = 0 then
          h_k s5 o0 = 33 ∧ w_X12_barred o0 x2 x3 x4 x5 s5 (fun p10 s9 =>
            if 0 ≤ p10 then
              h_k s9 o0 = 33 ∧ w_X12_readText o0 (((60 : Int32) * x2) + x4) x5 s9 (fun p14 s13 =>
                if p14 < 0 then
                  h_k s13 o0 = 33 ∧ (if (h_i s13 o0 89) = (20 : Int32) then
                    w_X12_refused o0 (-4 : Int32) s13 (fun p27 s26 =>
                      Q p27 s26)
                  else
                    w_X12_addRight o0 x1 (h_i s13 o0 98) (h_i s13 o0 99) (h_i s13 o0 100) (h_i s13 o0 101) (-9 : Int32) s13 (fun s18 =>
                      h_k s18 o0 = 33 ∧ w_X12_acted o0 ((h_i s18 o0 89) - (1 : Int32)) s18 (fun p22 s21 =>
                        h_k s21 o0 = 33 ∧ w_X12_refused o0 p22 s21 (fun p25 s24 =>
                          Q p25 s24))))
                else
                  h_k s13 o0 = 33 ∧ w_X12_refused o0 ((-100 : Int32) - p14) s13 (fun p30 s29 =>
                    Q p30 s29))
            else
              Q p10 s9)
        else
          w_X12_right_15 Q o0 s5)
    else
      w_X12_right_15 Q o0 s2)
def w_X12_lend_24 (Q : Int32 → h_S → Prop) (s : h_S) : Prop :=
  Q (-1 : Int32) s
def w_X12_lend (o0 : Nat) (x1 : Int32) (x2 : Int32) (x3 : Int32) (s : h_S) (Q : Int32 → h_S → Prop) : Prop :=
  h_k s o0 = 33 ∧ w_X12_noRight o0 x1 s (fun p3 s2 =>
    if p3 = 0 then
      h_k s2 o0 = 33 ∧ w_X12_noHand o0 x2 s2 (fun p7 s6 =>
        if p7 = 0 then
          h_k s6 o0 = 33 ∧ w_X12_noHand o0 x3 s6 (fun p11 s10 =>
            if p11 = 0 then
              if x2 = x3 then
                Q (-2 : Int32) s10
              else
                h_k s10 o0 = 33 ∧ w_X12_allows o0 x1 x2 (2 : Int32) (h_i s10 o0 1) s10 (fun p16 s15 =>
                  if p16 = 0 then
                    Q (-3 : Int32) s15
                  else
                    h_k s15 o0 = 33 ∧ (if (h_i s15 o0 89) = (20 : Int32) then
                      Q (-4 : Int32) s15
                    else
                      ∃ a20, (h_r s15 o0 90) = some a20 ∧ h_k s15 a20 = 1 ∧ vp_in x1 (h_n s15 a20) ∧ ∃ a23, (h_r s15 o0 92) = some a23 ∧ h_k s15 a23 = 1 ∧ vp_in x1 (h_n s15 a23) ∧ ∃ a26, (h_r s15 o0 93) = some a26 ∧ h_k s15 a26 = 1 ∧ vp_in x1 (h_n s15 a26) ∧ ∃ a29, (h_r s15 o0 94) = some a29 ∧ h_k s15 a29 = 1 ∧ vp_in x1 (h_n s15 a29) ∧ w_X12_addRight o0 (h_i s15 a20 (h_ix x1)) ((8 : Int32) + x3) ((h_i s15 a23 (h_ix x1)) &&& (3 : Int32)) (h_i s15 a26 (h_ix x1)) (h_i s15 a29 (h_ix x1)) x1 s15 (fun s32 =>
                        h_k s32 o0 = 33 ∧ w_X12_acted o0 ((h_i s32 o0 89) - (1 : Int32)) s32 (fun p36 s35 =>
                          Q p36 s35))))
            else
              w_X12_lend_24 Q s10)
        else
          w_X12_lend_24 Q s6)
    else
      w_X12_lend_24 Q s2)
def w_X12_take_105 (Q : Int32 → h_S → Prop) (K42 : Nat → Int32 → Int32 → h_S → Prop) (o0 : Nat) (x2 : Int32) (x3 : Int32) (s : h_S) : Prop :=
  K42 o0 x2 (x3 + (1 : Int32)) s
def w_X12_take_42b (Q : Int32 → h_S → Prop) (K42 : Nat → Int32 → Int32 → h_S → Prop) (o0 : Nat) (x2 : Int32) (x3 : Int32) (s : h_S) : Prop :=
  h_k s o0 = 33 ∧ (if (h_i s o0 89) ≤ x3 then
    w_X12_acted o0 x2 s (fun p4 s3 =>
      Q p4 s3)
  else
    ∃ a5, (h_r s o0 95) = some a5 ∧ h_k s a5 = 1 ∧ vp_in x3 (h_n s a5) ∧ (if (h_i s a5 (h_ix x3)) < 0 then
      w_X12_take_105 Q K42 o0 x2 x3 s
    else
      ∃ a9, (h_r s o0 97) = some a9 ∧ h_k s a9 = 1 ∧ vp_in x3 (h_n s a9) ∧ (if (h_i s a9 (h_ix x3)) = (-9 : Int32) then
        ∃ a13, (h_r s o0 95) = some a13 ∧ h_k s a13 = 1 ∧ vp_in x3 (h_n s a13) ∧ ∃ a16, (h_r s o0 97) = some a16 ∧ h_k s a16 = 1 ∧ vp_in (h_i s a13 (h_ix x3)) (h_n s a16) ∧ (if (h_i s a16 (h_ix (h_i s a13 (h_ix x3)))) = ((h_i s o0 1) + (1 : Int32)) then
          ∃ a20, (h_r s o0 97) = some a20 ∧ h_k s a20 = 1 ∧ vp_in x3 (h_n s a20) ∧ let s23 : h_S := h_si s a20 (h_ix x3) ((h_i s o0 1) + (1 : Int32))
          w_X12_take_105 Q K42 o0 (x2 + (1 : Int32)) x3 s23
        else
          w_X12_take_105 Q K42 o0 x2 x3 s)
      else
        w_X12_take_105 Q K42 o0 x2 x3 s)))
def w_X12_take_42 (Q : Int32 → h_S → Prop) : Nat → Nat → Int32 → Int32 → h_S → Prop
  | 0, _, _, _, _ => False
  | n + 1, o0, x2, x3, s => w_X12_take_42b Q (w_X12_take_42 Q n) o0 x2 x3 s
def w_X12_take (o0 : Nat) (x1 : Int32) (s : h_S) (Q : Int32 → h_S → Prop) : Prop :=
  h_k s o0 = 33 ∧ w_X12_noRight o0 x1 s (fun p3 s2 =>
    if p3 = 0 then
      h_k s2 o0 = 33 ∧ ∃ a6, (h_r s2 o0 97) = some a6 ∧ h_k s2 a6 = 1 ∧ vp_in x1 (h_n s2 a6) ∧ (if (h_i s2 a6 (h_ix x1)) = (-9 : Int32) then
        ∃ a10, (h_r s2 o0 97) = some a10 ∧ h_k s2 a10 = 1 ∧ vp_in x1 (h_n s2 a10) ∧ let s13 : h_S := h_si s2 a10 (h_ix x1) ((h_i s2 o0 1) + (1 : Int32))
        ∃ n, w_X12_take_42 Q n o0 (1 : Int32) (x1 + (1 : Int32)) s13
      else
        Q (-3 : Int32) s2)
    else
      Q (-1 : Int32) s2)
def w_X12_ofRight_110 (Q : Int32 → h_S → Prop) (y0 : Int32) (s : h_S) : Prop :=
  Q y0 s
def w_X12_ofRight (o0 : Nat) (x1 : Int32) (x2 : Int32) (s : h_S) (Q : Int32 → h_S → Prop) : Prop :=
  h_k s o0 = 33 ∧ w_X12_noRight o0 x1 s (fun p3 s2 =>
    if p3 = 0 then
      if x2 = (0 : Int32) then
        h_k s2 o0 = 33 ∧ ∃ a7, (h_r s2 o0 90) = some a7 ∧ h_k s2 a7 = 1 ∧ vp_in x1 (h_n s2 a7) ∧ Q (h_i s2 a7 (h_ix x1)) s2
      else if x2 = (1 : Int32) then
        h_k s2 o0 = 33 ∧ ∃ a12, (h_r s2 o0 91) = some a12 ∧ h_k s2 a12 = 1 ∧ vp_in x1 (h_n s2 a12) ∧ Q (h_i s2 a12 (h_ix x1)) s2
      else if x2 = (2 : Int32) then
        h_k s2 o0 = 33 ∧ ∃ a17, (h_r s2 o0 92) = some a17 ∧ h_k s2 a17 = 1 ∧ vp_in x1 (h_n s2 a17) ∧ Q (h_i s2 a17 (h_ix x1)) s2
      else if x2 = (3 : Int32) then
        h_k s2 o0 = 33 ∧ ∃ a22, (h_r s2 o0 93) = some a22 ∧ h_k s2 a22 = 1 ∧ vp_in x1 (h_n s2 a22) ∧ Q (h_i s2 a22 (h_ix x1)) s2
      else if x2 = (4 : Int32) then
        h_k s2 o0 = 33 ∧ ∃ a27, (h_r s2 o0 94) = some a27 ∧ h_k s2 a27 = 1 ∧ vp_in x1 (h_n s2 a27) ∧ Q (h_i s2 a27 (h_ix x1)) s2
      else if x2 = (5 : Int32) then
        h_k s2 o0 = 33 ∧ ∃ a32, (h_r s2 o0 95) = some a32 ∧ h_k s2 a32 = 1 ∧ vp_in x1 (h_n s2 a32) ∧ Q (h_i s2 a32 (h_ix x1)) s2
      else if x2 = (6 : Int32) then
        h_k s2 o0 = 33 ∧ ∃ a37, (h_r s2 o0 97) = some a37 ∧ h_k s2 a37 = 1 ∧ vp_in x1 (h_n s2 a37) ∧ (if (h_i s2 a37 (h_ix x1)) = (-9 : Int32) then
          w_X12_ofRight_110 Q (1 : Int32) s2
        else
          w_X12_ofRight_110 Q (0 : Int32) s2)
      else 
        Q (-2 : Int32) s2
    else
      Q (-1 : Int32) s2)
def w_X12_why_25 (Q : Int32 → h_S → Prop) (s : h_S) : Prop :=
  Q (-1 : Int32) s
def w_X12_why_53 (Q : Int32 → h_S → Prop) (y0 : Int32) (s : h_S) : Prop :=
  Q y0 s
def w_X12_why (o0 : Nat) (x1 : Int32) (x2 : Int32) (x3 : Int32) (x4 : Int32) (s : h_S) (Q : Int32 → h_S → Prop) : Prop :=
  h_k s o0 = 33 ∧ w_X12_noHand o0 x1 s (fun p3 s2 =>
    if p3 = 0 then
      h_k s2 o0 = 33 ∧ w_X12_noWriting o0 x2 s2 (fun p7 s6 =>
        if p7 = 0 then
          h_k s6 o0 = 33 ∧ w_X12_noMoment o0 x4 s6 (fun p11 s10 =>
            if p11 = 0 then
              w_X12_in ((x3).toInt64) (0 : Int64) (2 : Int64) s10 (fun p14 s13 =>
                if p14 = 0 then
                  w_X12_why_53 Q (-2 : Int32) s13
                else
                  h_k s13 o0 = 33 ∧ w_X12_whyOf o0 x1 x2 x3 x4 s13 (fun p18 s17 =>
                    w_X12_why_53 Q p18 s17))
            else
              w_X12_why_25 Q s10)
        else
          w_X12_why_25 Q s6)
    else
      w_X12_why_25 Q s2)
def w_X12_may_33 (Q : Int32 → h_S → Prop) (y0 : Int32) (s : h_S) : Prop :=
  Q y0 s
def w_X12_may (o0 : Nat) (x1 : Int32) (x2 : Int32) (x3 : Int32) (x4 : Int32) (s : h_S) (Q : Int32 → h_S → Prop) : Prop :=
  h_k s o0 = 33 ∧ w_X12_why o0 x1 x2 x3 x4 s (fun p3 s2 =>
    if p3 = (-9 : Int32) then
      w_X12_may_33 Q (0 : Int32) s2
    else
      if 0 ≤ p3 then
        w_X12_may_33 Q (1 : Int32) s2
      else
        w_X12_may_33 Q p3 s2)
def w_X12_isOpen_88 (Q : Int32 → h_S → Prop) (y0 : Int32) (s : h_S) : Prop :=
  h_bt y0 ∧ Q y0 s
def w_X12_isOpen_83 (Q : Int32 → h_S → Prop) (s : h_S) : Prop :=
  w_X12_isOpen_88 Q (1 : Int32) s
def w_X12_isOpen_87 (Q : Int32 → h_S → Prop) (s : h_S) : Prop :=
  w_X12_isOpen_88 Q (0 : Int32) s
def w_X12_isOpen_51 (Q : Int32 → h_S → Prop) (o0 : Nat) (x1 : Int32) (x3 : Int32) (x4 : Int32) (y0 : Int32) (s : h_S) : Prop :=
  h_k s o0 = 33 ∧ ∃ a2, (h_r s o0 9) = some a2 ∧ h_k s a2 = 1 ∧ vp_in x4 (h_n s a2) ∧ (if (h_i s a2 (h_ix x4)) = x1 then
    w_X12_isOpen_83 Q s
  else
    if y0 = 0 then
      w_X12_isOpen_87 Q s
    else
      w_X12_whyOf o0 x1 x4 (0 : Int32) x3 s (fun p8 s7 =>
        if p8 = (-9 : Int32) then
          w_X12_isOpen_87 Q s7
        else
          w_X12_isOpen_83 Q s7))
def w_X12_isOpen_46 (Q : Int32 → h_S → Prop) (o0 : Nat) (x1 : Int32) (x3 : Int32) (x4 : Int32) (s : h_S) : Prop :=
  w_X12_isOpen_51 Q o0 x1 x3 x4 (1 : Int32) s
def w_X12_isOpen_50 (Q : Int32 → h_S → Prop) (o0 : Nat) (x1 : Int32) (x3 : Int32) (x4 : Int32) (s : h_S) : Prop :=
  w_X12_isOpen_51 Q o0 x1 x3 x4 (0 : Int32) s
def w_X12_isOpen (o0 : Nat) (x1 : Int32) (x2 : Int32) (x3 : Int32) (s : h_S) (Q : Int32 → h_S → Prop) : Prop :=
  h_k s o0 = 33 ∧ ∃ a2, (h_r s o0 56) = some a2 ∧ h_k s a2 = 1 ∧ vp_in x2 (h_n s a2) ∧ ∃ a5, (h_r s o0 58) = some a5 ∧ h_k s a5 = 1 ∧ vp_in x2 (h_n s a5) ∧ (if (h_i s a5 (h_ix x2)) < 0 then
    w_X12_isOpen_50 Q o0 x1 x3 (h_i s a2 (h_ix x2)) s
  else
    ∃ a9, (h_r s o0 58) = some a9 ∧ h_k s a9 = 1 ∧ vp_in x2 (h_n s a9) ∧ (if x3 < (h_i s a9 (h_ix x2)) then
      w_X12_isOpen_50 Q o0 x1 x3 (h_i s a2 (h_ix x2)) s
    else
      ∃ a13, (h_r s o0 59) = some a13 ∧ h_k s a13 = 1 ∧ vp_in x2 (h_n s a13) ∧ (if (h_i s a13 (h_ix x2)) < 0 then
        w_X12_isOpen_46 Q o0 x1 x3 (h_i s a2 (h_ix x2)) s
      else
        ∃ a17, (h_r s o0 59) = some a17 ∧ h_k s a17 = 1 ∧ vp_in x2 (h_n s a17) ∧ (if (h_i s a17 (h_ix x2)) ≤ x3 then
          w_X12_isOpen_50 Q o0 x1 x3 (h_i s a2 (h_ix x2)) s
        else
          w_X12_isOpen_46 Q o0 x1 x3 (h_i s a2 (h_ix x2)) s))))
def w_X12_isRead_29 (Q : Int32 → h_S → Prop) (y0 : Int32) (s : h_S) : Prop :=
  h_bt y0 ∧ Q y0 s
def w_X12_isRead_28 (Q : Int32 → h_S → Prop) (s : h_S) : Prop :=
  w_X12_isRead_29 Q (0 : Int32) s
def w_X12_isRead (o0 : Nat) (x1 : Int32) (x2 : Int32) (x3 : Int32) (s : h_S) (Q : Int32 → h_S → Prop) : Prop :=
  if x2 = (-7 : Int32) then
    w_X12_isRead_28 Q s
  else
    h_k s o0 = 33 ∧ ∃ a3, (h_r s o0 25) = some a3 ∧ h_k s a3 = 1 ∧ vp_in x2 (h_n s a3) ∧ w_X12_whyOf o0 x1 (h_i s a3 (h_ix x2)) (0 : Int32) x3 s (fun p7 s6 =>
      if p7 = (-9 : Int32) then
        w_X12_isRead_28 Q s6
      else
        w_X12_isRead_29 Q (1 : Int32) s6)
def w_X12_view_25 (Q : Int32 → h_S → Prop) (s : h_S) : Prop :=
  Q (-1 : Int32) s
def w_X12_view_102 (Q : Int32 → h_S → Prop) (y0 : Int32) (s : h_S) : Prop :=
  Q y0 s
def w_X12_view_100 (Q : Int32 → h_S → Prop) (s : h_S) : Prop :=
  w_X12_view_102 Q (-7 : Int32) s
def w_X12_view (o0 : Nat) (x1 : Int32) (x2 : Int32) (x3 : Int32) (x4 : Int32) (s : h_S) (Q : Int32 → h_S → Prop) : Prop :=
  h_k s o0 = 33 ∧ w_X12_noHand o0 x1 s (fun p3 s2 =>
    if p3 = 0 then
      h_k s2 o0 = 33 ∧ w_X12_noVersion o0 x2 s2 (fun p7 s6 =>
        if p7 = 0 then
          h_k s6 o0 = 33 ∧ w_X12_noMoment o0 x4 s6 (fun p11 s10 =>
            if p11 = 0 then
              h_k s10 o0 = 33 ∧ w_X12_layVersion o0 x2 s10 (fun s14 =>
                h_k s14 o0 = 33 ∧ w_X12_in ((x3).toInt64) (0 : Int64) ((((h_i s14 o0 35)).toInt64) - (1 : Int64)) s14 (fun p18 s17 =>
                  if p18 = 0 then
                    Q (-1 : Int32) s17
                  else
                    h_k s17 o0 = 33 ∧ ∃ a21, (h_r s17 o0 57) = some a21 ∧ h_k s17 a21 = 1 ∧ vp_in x2 (h_n s17 a21) ∧ (if (h_i s17 a21 (h_ix x2)) ≤ x4 then
                      ∃ a25, (h_r s17 o0 36) = some a25 ∧ h_k s17 a25 = 1 ∧ vp_in x3 (h_n s17 a25) ∧ w_X12_isOpen o0 x1 x2 x4 s17 (fun p29 s28 =>
                        if p29 = 0 then
                          w_X12_view_100 Q s28
                        else
                          h_k s28 o0 = 33 ∧ w_X12_isRead o0 x1 (h_i s17 a25 (h_ix x3)) x4 s28 (fun p33 s32 =>
                            if p33 = 0 then
                              w_X12_view_100 Q s32
                            else
                              w_X12_view_102 Q (h_i s17 a25 (h_ix x3)) s32))
                    else
                      Q (-3 : Int32) s17)))
            else
              w_X12_view_25 Q s10)
        else
          w_X12_view_25 Q s6)
    else
      w_X12_view_25 Q s2)
def w_X12_rule_24 (Q : Int32 → h_S → Prop) (s : h_S) : Prop :=
  Q (-2 : Int32) s
def w_X12_rule (o0 : Nat) (x1 : Int32) (x2 : Int32) (s : h_S) (Q : Int32 → h_S → Prop) : Prop :=
  w_X12_in ((x1).toInt64) (0 : Int64) (99 : Int64) s (fun p2 s1 =>
    if p2 = 0 then
      w_X12_rule_24 Q s1
    else
      w_X12_in ((x2).toInt64) (0 : Int64) (10 : Int64) s1 (fun p5 s4 =>
        if p5 = 0 then
          w_X12_rule_24 Q s4
        else
          h_k s4 o0 = 33 ∧ let v8 : Int32 := (((100 : Int32) * (h_i s4 o0 102)) + (h_i s4 o0 103))
          let s9 : h_S := h_si s4 o0 102 x1
          let s10 : h_S := h_si s9 o0 103 x2
          w_X12_acted o0 v8 s10 (fun p12 s11 =>
            Q p12 s11)))
def w_X12_read_16 (Q : Int32 → h_S → Prop) (s : h_S) : Prop :=
  Q (-1 : Int32) s
def w_X12_read_190 (Q : Int32 → h_S → Prop) (K56 : Nat → Int32 → Int32 → Int32 → Int32 → Int32 → Int32 → h_S → Prop) (o0 : Nat) (x1 : Int32) (x3 : Int32) (x4 : Int32) (x5 : Int32) (x6 : Int32) (x7 : Int32) (s : h_S) : Prop :=
  K56 o0 x1 x3 x4 x5 x6 (x7 + (1 : Int32)) s
def w_X12_read_152 (Q : Int32 → h_S → Prop) (K56 : Nat → Int32 → Int32 → Int32 → Int32 → Int32 → Int32 → h_S → Prop) (o0 : Nat) (x1 : Int32) (x3 : Int32) (x4 : Int32) (x5 : Int32) (x6 : Int32) (x7 : Int32) (x9 : Int32) (x10 : Int32) (y0 : Int32) (y1 : Int32) (t2 : Option Nat) (s : h_S) : Prop :=
  ∃ a1, t2 = some a1 ∧ h_k s a1 = 1 ∧ vp_in (y1 + y0) (h_n s a1) ∧ ∃ a4, t2 = some a4 ∧ h_k s a4 = 1 ∧ vp_in (y1 + y0) (h_n s a4) ∧ let s7 : h_S := h_si s a4 (h_ix (y1 + y0)) ((h_i s a1 (h_ix (y1 + y0))) + x10)
  h_k s7 o0 = 33 ∧ ∃ a9, (h_r s7 o0 104) = some a9 ∧ h_k s7 a9 = 1 ∧ vp_in (((8 : Int32) * x1) + x9) (h_n s7 a9) ∧ ∃ a12, (h_r s7 o0 104) = some a12 ∧ h_k s7 a12 = 1 ∧ vp_in (((8 : Int32) * x1) + x9) (h_n s7 a12) ∧ let s15 : h_S := h_si s7 a12 (h_ix (((8 : Int32) * x1) + x9)) ((h_i s7 a9 (h_ix (((8 : Int32) * x1) + x9))) + ((h_i s7 o0 102) - x10))
  w_X12_read_190 Q K56 o0 x1 x3 x4 x5 (x6 + (h_i s15 o0 102)) x7 s15
def w_X12_read_150 (Q : Int32 → h_S → Prop) (K56 : Nat → Int32 → Int32 → Int32 → Int32 → Int32 → Int32 → h_S → Prop) (o0 : Nat) (x1 : Int32) (x3 : Int32) (x4 : Int32) (x5 : Int32) (x6 : Int32) (x7 : Int32) (x9 : Int32) (x10 : Int32) (y0 : Int32) (t1 : Option Nat) (s : h_S) : Prop :=
  w_X12_read_152 Q K56 o0 x1 x3 x4 x5 x6 x7 x9 x10 x9 y0 t1 s
def w_X12_read_212 (Q : Int32 → h_S → Prop) (y0 : Int32) (s : h_S) : Prop :=
  Q y0 s
def w_X12_read_196 (Q : Int32 → h_S → Prop) (o0 : Nat) (x5 : Int32) (x6 : Int32) (s : h_S) : Prop :=
  if x5 = 0 then
    w_X12_read_212 Q (-3 : Int32) s
  else
    h_k s o0 = 33 ∧ w_X12_acted o0 x6 s (fun p4 s3 =>
      w_X12_read_212 Q p4 s3)
def w_X12_read_56b (Q : Int32 → h_S → Prop) (K56 : Nat → Int32 → Int32 → Int32 → Int32 → Int32 → Int32 → h_S → Prop) (o0 : Nat) (x1 : Int32) (x3 : Int32) (x4 : Int32) (x5 : Int32) (x6 : Int32) (x7 : Int32) (s : h_S) : Prop :=
  h_k s o0 = 33 ∧ (if (h_i s o0 35) ≤ x7 then
    w_X12_read_196 Q o0 x5 x6 s
  else
    if x3 = 0 then
      w_X12_read_196 Q o0 x5 x6 s
    else
      ∃ a4, (h_r s o0 36) = some a4 ∧ h_k s a4 = 1 ∧ vp_in x7 (h_n s a4) ∧ w_X12_isRead o0 x1 (h_i s a4 (h_ix x7)) (h_i s o0 1) s (fun p8 s7 =>
        if p8 = 0 then
          w_X12_read_190 Q K56 o0 x1 x3 x4 x5 x6 x7 s7
        else
          h_k s7 o0 = 33 ∧ ∃ a11, (h_r s7 o0 24) = some a11 ∧ h_k s7 a11 = 1 ∧ vp_in (h_i s a4 (h_ix x7)) (h_n s7 a11) ∧ let v14 : Int32 := (h_i s7 a11 (h_ix (h_i s a4 (h_ix x7))))
          (if v14 = x1 then
            w_X12_read_190 Q K56 o0 x1 x3 x4 (x5 + (1 : Int32)) x6 x7 s7
          else
            let v17 : Int32 := (((h_i s7 o0 102) * (h_i s7 o0 103)) / (10 : Int32))
            (if x4 = v14 then
              w_X12_read_150 Q K56 o0 x1 x3 x4 (x5 + (1 : Int32)) x6 x7 v14 v17 ((8 : Int32) * x1) (h_r s7 o0 104) s7
            else
              if x4 = x1 then
                w_X12_read_150 Q K56 o0 x1 x3 x4 (x5 + (1 : Int32)) x6 x7 v14 v17 ((8 : Int32) * x1) (h_r s7 o0 104) s7
              else
                w_X12_read_152 Q K56 o0 x1 x3 x4 (x5 + (1 : Int32)) x6 x7 v14 v17 x4 ((8 : Int32) * x1) (h_r s7 o0 104) s7))))
def w_X12_read_56 (Q : Int32 → h_S → Prop) : Nat → Nat → Int32 → Int32 → Int32 → Int32 → Int32 → Int32 → h_S → Prop
  | 0, _, _, _, _, _, _, _, _ => False
  | n + 1, o0, x1, x3, x4, x5, x6, x7, s => w_X12_read_56b Q (w_X12_read_56 Q n) o0 x1 x3 x4 x5 x6 x7 s
def w_X12_read (o0 : Nat) (x1 : Int32) (x2 : Int32) (s : h_S) (Q : Int32 → h_S → Prop) : Prop :=
  h_k s o0 = 33 ∧ w_X12_noHand o0 x1 s (fun p3 s2 =>
    if p3 = 0 then
      h_k s2 o0 = 33 ∧ w_X12_noVersion o0 x2 s2 (fun p7 s6 =>
        if p7 = 0 then
          h_k s6 o0 = 33 ∧ w_X12_layVersion o0 x2 s6 (fun s10 =>
            h_k s10 o0 = 33 ∧ w_X12_isOpen o0 x1 x2 (h_i s10 o0 1) s10 (fun p14 s13 =>
              h_k s13 o0 = 33 ∧ ∃ a16, (h_r s13 o0 56) = some a16 ∧ h_k s13 a16 = 1 ∧ vp_in x2 (h_n s13 a16) ∧ ∃ a19, (h_r s13 o0 9) = some a19 ∧ h_k s13 a19 = 1 ∧ vp_in (h_i s13 a16 (h_ix x2)) (h_n s13 a19) ∧ let v22 : Int32 := (h_i s13 a19 (h_ix (h_i s13 a16 (h_ix x2))))
              ∃ n, w_X12_read_56 Q n o0 x1 p14 v22 (0 : Int32) (0 : Int32) (0 : Int32) s13))
        else
          w_X12_read_16 Q s6)
    else
      w_X12_read_16 Q s2)
def w_X12_owes_31 (Q : Int32 → h_S → Prop) (y0 : Int32) (s : h_S) : Prop :=
  Q y0 s
def w_X12_owes_16 (Q : Int32 → h_S → Prop) (s : h_S) : Prop :=
  w_X12_owes_31 Q (-1 : Int32) s
def w_X12_owes (o0 : Nat) (x1 : Int32) (x2 : Int32) (s : h_S) (Q : Int32 → h_S → Prop) : Prop :=
  h_k s o0 = 33 ∧ w_X12_noHand o0 x1 s (fun p3 s2 =>
    if p3 = 0 then
      h_k s2 o0 = 33 ∧ w_X12_noHand o0 x2 s2 (fun p7 s6 =>
        if p7 = 0 then
          h_k s6 o0 = 33 ∧ ∃ a10, (h_r s6 o0 104) = some a10 ∧ h_k s6 a10 = 1 ∧ vp_in (((8 : Int32) * x1) + x2) (h_n s6 a10) ∧ w_X12_owes_31 Q (h_i s6 a10 (h_ix (((8 : Int32) * x1) + x2))) s6
        else
          w_X12_owes_16 Q s6)
    else
      w_X12_owes_16 Q s2)
def w_X12_pay_16 (Q : Int32 → h_S → Prop) (s : h_S) : Prop :=
  Q (-1 : Int32) s
def w_X12_pay (o0 : Nat) (x1 : Int32) (x2 : Int32) (x3 : Int32) (s : h_S) (Q : Int32 → h_S → Prop) : Prop :=
  h_k s o0 = 33 ∧ w_X12_noHand o0 x1 s (fun p3 s2 =>
    if p3 = 0 then
      h_k s2 o0 = 33 ∧ w_X12_noHand o0 x2 s2 (fun p7 s6 =>
        if p7 = 0 then
          if (1 : Int32) ≤ x3 then
            h_k s6 o0 = 33 ∧ ∃ a11, (h_r s6 o0 104) = some a11 ∧ h_k s6 a11 = 1 ∧ vp_in (((8 : Int32) * x1) + x2) (h_n s6 a11) ∧ (if x3 ≤ (h_i s6 a11 (h_ix (((8 : Int32) * x1) + x2))) then
              ∃ a15, (h_r s6 o0 104) = some a15 ∧ h_k s6 a15 = 1 ∧ vp_in (((8 : Int32) * x1) + x2) (h_n s6 a15) ∧ ∃ a18, (h_r s6 o0 104) = some a18 ∧ h_k s6 a18 = 1 ∧ vp_in (((8 : Int32) * x1) + x2) (h_n s6 a18) ∧ let s21 : h_S := h_si s6 a18 (h_ix (((8 : Int32) * x1) + x2)) ((h_i s6 a15 (h_ix (((8 : Int32) * x1) + x2))) - x3)
              ∃ a22, (h_r s21 o0 104) = some a22 ∧ h_k s21 a22 = 1 ∧ vp_in (((8 : Int32) * x1) + x2) (h_n s21 a22) ∧ w_X12_acted o0 (h_i s21 a22 (h_ix (((8 : Int32) * x1) + x2))) s21 (fun p26 s25 =>
                Q p26 s25)
            else
              Q (-3 : Int32) s6)
          else
            Q (-2 : Int32) s6
        else
          w_X12_pay_16 Q s6)
    else
      w_X12_pay_16 Q s2)
def w_X12_noChain_52 (Q : Int32 → h_S → Prop) (y0 : Int32) (s : h_S) : Prop :=
  Q y0 s
def w_X12_noChain (o0 : Nat) (x1 : Int32) (x2 : Int32) (s : h_S) (Q : Int32 → h_S → Prop) : Prop :=
  h_k s o0 = 33 ∧ w_X12_noVersion o0 x1 s (fun p3 s2 =>
    if p3 = 0 then
      h_k s2 o0 = 33 ∧ w_X12_layVersion o0 x1 s2 (fun s6 =>
        h_k s6 o0 = 33 ∧ w_X12_in ((x2).toInt64) (0 : Int64) ((((h_i s6 o0 35)).toInt64) - (1 : Int64)) s6 (fun p10 s9 =>
          if p10 = 0 then
            w_X12_noChain_52 Q (-1 : Int32) s9
          else
            h_k s9 o0 = 33 ∧ ∃ a13, (h_r s9 o0 36) = some a13 ∧ h_k s9 a13 = 1 ∧ vp_in x2 (h_n s9 a13) ∧ (if (h_i s9 a13 (h_ix x2)) = (-7 : Int32) then
              w_X12_noChain_52 Q (-3 : Int32) s9
            else
              w_X12_noChain_52 Q (0 : Int32) s9)))
    else
      Q (-1 : Int32) s2)
def w_X12_chainMany_40 (Q : Int32 → h_S → Prop) (y0 : Int32) (s : h_S) : Prop :=
  Q y0 s
def w_X12_chainMany (o0 : Nat) (x1 : Int32) (s : h_S) (Q : Int32 → h_S → Prop) : Prop :=
  h_k s o0 = 33 ∧ ∃ a2, (h_r s o0 38) = some a2 ∧ h_k s a2 = 1 ∧ vp_in x1 (h_n s a2) ∧ ∃ a5, (h_r s o0 39) = some a5 ∧ h_k s a5 = 1 ∧ vp_in ((((5 : Int32) * x1) + (h_i s a2 (h_ix x1))) - (1 : Int32)) (h_n s a5) ∧ ∃ a8, (h_r s o0 36) = some a8 ∧ h_k s a8 = 1 ∧ vp_in x1 (h_n s a8) ∧ ∃ a11, (h_r s o0 25) = some a11 ∧ h_k s a11 = 1 ∧ vp_in (h_i s a8 (h_ix x1)) (h_n s a11) ∧ (if (h_i s a5 (h_ix ((((5 : Int32) * x1) + (h_i s a2 (h_ix x1))) - (1 : Int32)))) = (h_i s a11 (h_ix (h_i s a8 (h_ix x1)))) then
    w_X12_chainMany_40 Q (h_i s a2 (h_ix x1)) s
  else
    w_X12_chainMany_40 Q ((h_i s a2 (h_ix x1)) + (1 : Int32)) s)
def w_X12_steps_20 (Q : Int32 → h_S → Prop) (y0 : Int32) (s : h_S) : Prop :=
  Q y0 s
def w_X12_steps (o0 : Nat) (x1 : Int32) (x2 : Int32) (s : h_S) (Q : Int32 → h_S → Prop) : Prop :=
  h_k s o0 = 33 ∧ w_X12_noChain o0 x1 x2 s (fun p3 s2 =>
    if 0 ≤ p3 then
      h_k s2 o0 = 33 ∧ w_X12_chainMany o0 x2 s2 (fun p7 s6 =>
        w_X12_steps_20 Q p7 s6)
    else
      w_X12_steps_20 Q p3 s2)
def w_X12_chain_69 (Q : Int32 → h_S → Prop) (y0 : Int32) (s : h_S) : Prop :=
  Q y0 s
def w_X12_chain (o0 : Nat) (x1 : Int32) (x2 : Int32) (x3 : Int32) (s : h_S) (Q : Int32 → h_S → Prop) : Prop :=
  h_k s o0 = 33 ∧ w_X12_noChain o0 x1 x2 s (fun p3 s2 =>
    if 0 ≤ p3 then
      h_k s2 o0 = 33 ∧ w_X12_chainMany o0 x2 s2 (fun p7 s6 =>
        w_X12_in ((x3).toInt64) (0 : Int64) (((p7).toInt64) - (1 : Int64)) s6 (fun p9 s8 =>
          if p9 = 0 then
            Q (-1 : Int32) s8
          else
            h_k s8 o0 = 33 ∧ ∃ a12, (h_r s8 o0 38) = some a12 ∧ h_k s8 a12 = 1 ∧ vp_in x2 (h_n s8 a12) ∧ (if (h_i s8 a12 (h_ix x2)) ≤ x3 then
              ∃ a16, (h_r s8 o0 36) = some a16 ∧ h_k s8 a16 = 1 ∧ vp_in x2 (h_n s8 a16) ∧ ∃ a19, (h_r s8 o0 25) = some a19 ∧ h_k s8 a19 = 1 ∧ vp_in (h_i s8 a16 (h_ix x2)) (h_n s8 a19) ∧ w_X12_chain_69 Q (h_i s8 a19 (h_ix (h_i s8 a16 (h_ix x2)))) s8
            else
              ∃ a22, (h_r s8 o0 39) = some a22 ∧ h_k s8 a22 = 1 ∧ vp_in (((5 : Int32) * x2) + x3) (h_n s8 a22) ∧ w_X12_chain_69 Q (h_i s8 a22 (h_ix (((5 : Int32) * x2) + x3))) s8)))
    else
      Q p3 s2)
def w_X12_quotes_16 (Q : Int32 → h_S → Prop) (s : h_S) : Prop :=
  Q (-1 : Int32) s
def w_X12_quotes (o0 : Nat) (x1 : Int32) (x2 : Int32) (s : h_S) (Q : Int32 → h_S → Prop) : Prop :=
  h_k s o0 = 33 ∧ w_X12_noWriting o0 x1 s (fun p3 s2 =>
    if p3 = 0 then
      h_k s2 o0 = 33 ∧ w_X12_noWriting o0 x2 s2 (fun p7 s6 =>
        if p7 = 0 then
          h_k s6 o0 = 33 ∧ w_X12_laySteps o0 x1 (0 : Int32) s6 (fun s10 =>
            h_k s10 o0 = 33 ∧ ∃ a13, (h_r s10 o0 54) = some a13 ∧ h_k s10 a13 = 1 ∧ vp_in x2 (h_n s10 a13) ∧ Q (h_i s10 a13 (h_ix x2)) s10)
        else
          w_X12_quotes_16 Q s6)
    else
      w_X12_quotes_16 Q s2)
def w_X12_keepHit_157 (Q : h_S → Prop) (s : h_S) : Prop :=
  Q s
def w_X12_keepHit_72b (Q : h_S → Prop) (K72 : Nat → Int32 → Int32 → Int32 → Int32 → Int32 → h_S → Prop) (o0 : Nat) (x1 : Int32) (x2 : Int32) (x3 : Int32) (x4 : Int32) (x5 : Int32) (s : h_S) : Prop :=
  if x5 ≤ x4 then
    h_k s o0 = 33 ∧ ∃ a3, (h_r s o0 106) = some a3 ∧ h_k s a3 = 1 ∧ vp_in x4 (h_n s a3) ∧ let s6 : h_S := h_si s a3 (h_ix x4) x1
    ∃ a7, (h_r s6 o0 107) = some a7 ∧ h_k s6 a7 = 1 ∧ vp_in x4 (h_n s6 a7) ∧ let s10 : h_S := h_si s6 a7 (h_ix x4) x2
    ∃ a11, (h_r s10 o0 108) = some a11 ∧ h_k s10 a11 = 1 ∧ vp_in x4 (h_n s10 a11) ∧ let s14 : h_S := h_si s10 a11 (h_ix x4) x3
    w_X12_keepHit_157 Q s14
  else
    h_k s o0 = 33 ∧ ∃ a16, (h_r s o0 106) = some a16 ∧ h_k s a16 = 1 ∧ vp_in (x5 - (1 : Int32)) (h_n s a16) ∧ ∃ a19, (h_r s o0 106) = some a19 ∧ h_k s a19 = 1 ∧ vp_in x5 (h_n s a19) ∧ let s22 : h_S := h_si s a19 (h_ix x5) (h_i s a16 (h_ix (x5 - (1 : Int32))))
    ∃ a23, (h_r s22 o0 107) = some a23 ∧ h_k s22 a23 = 1 ∧ vp_in (x5 - (1 : Int32)) (h_n s22 a23) ∧ ∃ a26, (h_r s22 o0 107) = some a26 ∧ h_k s22 a26 = 1 ∧ vp_in x5 (h_n s22 a26) ∧ let s29 : h_S := h_si s22 a26 (h_ix x5) (h_i s22 a23 (h_ix (x5 - (1 : Int32))))
    ∃ a30, (h_r s29 o0 108) = some a30 ∧ h_k s29 a30 = 1 ∧ vp_in (x5 - (1 : Int32)) (h_n s29 a30) ∧ ∃ a33, (h_r s29 o0 108) = some a33 ∧ h_k s29 a33 = 1 ∧ vp_in x5 (h_n s29 a33) ∧ let s36 : h_S := h_si s29 a33 (h_ix x5) (h_i s29 a30 (h_ix (x5 - (1 : Int32))))
    K72 o0 x1 x2 x3 x4 (x5 + (-1 : Int32)) s36
def w_X12_keepHit_72 (Q : h_S → Prop) : Nat → Nat → Int32 → Int32 → Int32 → Int32 → Int32 → h_S → Prop
  | 0, _, _, _, _, _, _, _ => False
  | n + 1, o0, x1, x2, x3, x4, x5, s => w_X12_keepHit_72b Q (w_X12_keepHit_72 Q n) o0 x1 x2 x3 x4 x5 s
def w_X12_keepHit_61 (Q : h_S → Prop) (o0 : Nat) (x1 : Int32) (x2 : Int32) (x3 : Int32) (x4 : Int32) (y0 : Int32) (u1 : Nat) (s : h_S) : Prop :=
  h_k s u1 = 33 ∧ let s2 : h_S := h_si s u1 105 y0
  h_k s2 o0 = 33 ∧ let v4 : Int32 := ((h_i s2 o0 105) - (1 : Int32))
  ∃ n, w_X12_keepHit_72 Q n o0 x1 x2 x3 x4 v4 s2
def w_X12_keepHit_30 (Q : h_S → Prop) (o0 : Nat) (x1 : Int32) (x2 : Int32) (x3 : Int32) (x4 : Int32) (s : h_S) : Prop :=
  if (200 : Int32) ≤ x4 then
    w_X12_keepHit_157 Q s
  else
    h_k s o0 = 33 ∧ (if (200 : Int32) ≤ (h_i s o0 105) then
      w_X12_keepHit_61 Q o0 x1 x2 x3 x4 (200 : Int32) o0 s
    else
      w_X12_keepHit_61 Q o0 x1 x2 x3 x4 ((h_i s o0 105) + (1 : Int32)) o0 s)
def w_X12_keepHit_6b (Q : h_S → Prop) (K6 : Nat → Int32 → Int32 → Int32 → Int32 → h_S → Prop) (o0 : Nat) (x1 : Int32) (x2 : Int32) (x3 : Int32) (x4 : Int32) (s : h_S) : Prop :=
  if x4 ≤ 0 then
    w_X12_keepHit_30 Q o0 x1 x2 x3 x4 s
  else
    h_k s o0 = 33 ∧ ∃ a3, (h_r s o0 108) = some a3 ∧ h_k s a3 = 1 ∧ vp_in (x4 - (1 : Int32)) (h_n s a3) ∧ (if x3 ≤ (h_i s a3 (h_ix (x4 - (1 : Int32)))) then
      w_X12_keepHit_30 Q o0 x1 x2 x3 x4 s
    else
      K6 o0 x1 x2 x3 (x4 + (-1 : Int32)) s)
def w_X12_keepHit_6 (Q : h_S → Prop) : Nat → Nat → Int32 → Int32 → Int32 → Int32 → h_S → Prop
  | 0, _, _, _, _, _, _ => False
  | n + 1, o0, x1, x2, x3, x4, s => w_X12_keepHit_6b Q (w_X12_keepHit_6 Q n) o0 x1 x2 x3 x4 s
def w_X12_keepHit (o0 : Nat) (x1 : Int32) (x2 : Int32) (x3 : Int32) (s : h_S) (Q : h_S → Prop) : Prop :=
  h_k s o0 = 33 ∧ ∃ n, w_X12_keepHit_6 Q n o0 x1 x2 x3 (h_i s o0 105) s
def w_X12_isHit_89 (Q : Int32 → h_S → Prop) (K21 : Nat → Int32 → Int32 → Int32 → Int32 → Int32 → Int32 → h_S → Prop) (o0 : Nat) (x1 : Int32) (x2 : Int32) (x3 : Int32) (x4 : Int32) (x6 : Int32) (y0 : Int32) (s : h_S) : Prop :=
  K21 o0 x1 x2 x3 x4 y0 (x6 + (1 : Int32)) s
def w_X12_isHit_88 (Q : Int32 → h_S → Prop) (K21 : Nat → Int32 → Int32 → Int32 → Int32 → Int32 → Int32 → h_S → Prop) (o0 : Nat) (x1 : Int32) (x2 : Int32) (x3 : Int32) (x4 : Int32) (x6 : Int32) (s : h_S) : Prop :=
  w_X12_isHit_89 Q K21 o0 x1 x2 x3 x4 x6 (0 : Int32) s
def w_X12_isHit_97 (Q : Int32 → h_S → Prop) (x5 : Int32) (s : h_S) : Prop :=
  h_bt x5 ∧ Q x5 s
def w_X12_isHit_21b (Q : Int32 → h_S → Prop) (K21 : Nat → Int32 → Int32 → Int32 → Int32 → Int32 → Int32 → h_S → Prop) (o0 : Nat) (x1 : Int32) (x2 : Int32) (x3 : Int32) (x4 : Int32) (x5 : Int32) (x6 : Int32) (s : h_S) : Prop :=
  if x4 ≤ x6 then
    w_X12_isHit_97 Q x5 s
  else
    if x5 = 0 then
      w_X12_isHit_97 Q x5 s
    else
      h_k s o0 = 33 ∧ ∃ a4, (h_r s o0 36) = some a4 ∧ h_k s a4 = 1 ∧ vp_in (x2 + x6) (h_n s a4) ∧ (if (h_i s a4 (h_ix (x2 + x6))) = (-7 : Int32) then
        w_X12_isHit_88 Q K21 o0 x1 x2 x3 x4 x6 s
      else
        ∃ a8, (h_r s o0 23) = some a8 ∧ h_k s a8 = 1 ∧ vp_in (h_i s a4 (h_ix (x2 + x6))) (h_n s a8) ∧ ∃ a11, (h_r s o0 112) = some a11 ∧ h_k s a11 = 1 ∧ vp_in (x3 + x6) (h_n s a11) ∧ (if (h_i s a8 (h_ix (h_i s a4 (h_ix (x2 + x6))))) = (h_i s a11 (h_ix (x3 + x6))) then
          w_X12_isRead o0 x1 (h_i s a4 (h_ix (x2 + x6))) (h_i s o0 1) s (fun p16 s15 =>
            if p16 = 0 then
              w_X12_isHit_88 Q K21 o0 x1 x2 x3 x4 x6 s15
            else
              w_X12_isHit_89 Q K21 o0 x1 x2 x3 x4 x6 (1 : Int32) s15)
        else
          w_X12_isHit_88 Q K21 o0 x1 x2 x3 x4 x6 s))
def w_X12_isHit_21 (Q : Int32 → h_S → Prop) : Nat → Nat → Int32 → Int32 → Int32 → Int32 → Int32 → Int32 → h_S → Prop
  | 0, _, _, _, _, _, _, _, _ => False
  | n + 1, o0, x1, x2, x3, x4, x5, x6, s => w_X12_isHit_21b Q (w_X12_isHit_21 Q n) o0 x1 x2 x3 x4 x5 x6 s
def w_X12_isHit_16 (Q : Int32 → h_S → Prop) (o0 : Nat) (x1 : Int32) (x2 : Int32) (x3 : Int32) (x4 : Int32) (y0 : Int32) (s : h_S) : Prop :=
  ∃ n, w_X12_isHit_21 Q n o0 x1 x2 x3 x4 y0 (0 : Int32) s
def w_X12_isHit (o0 : Nat) (x1 : Int32) (x2 : Int32) (x3 : Int32) (x4 : Int32) (s : h_S) (Q : Int32 → h_S → Prop) : Prop :=
  h_k s o0 = 33 ∧ (if (h_i s o0 35) < (x2 + x4) then
    w_X12_isHit_16 Q o0 x1 x2 x3 x4 (0 : Int32) s
  else
    w_X12_isHit_16 Q o0 x1 x2 x3 x4 (1 : Int32) s)
def w_X12_seek_15 (Q : Int32 → h_S → Prop) (o0 : Nat) (s : h_S) : Prop :=
  h_k s o0 = 33 ∧ w_X12_refused o0 (-1 : Int32) s (fun p3 s2 =>
    Q p3 s2)
def w_X12_seek_146 (Q : Int32 → h_S → Prop) (K64 : Nat → Int32 → Int32 → Int32 → Int32 → Int32 → Int32 → h_S → Prop) (K96 : Nat → Int32 → Int32 → Int32 → Int32 → Int32 → Int32 → Int32 → h_S → Prop) (o0 : Nat) (x1 : Int32) (x2 : Int32) (x4 : Int32) (x5 : Int32) (x7 : Int32) (x8 : Int32) (x9 : Int32) (s : h_S) : Prop :=
  K96 o0 x1 x2 x4 x5 x7 x8 (x9 + (1 : Int32)) s
def w_X12_seek_152 (Q : Int32 → h_S → Prop) (K64 : Nat → Int32 → Int32 → Int32 → Int32 → Int32 → Int32 → h_S → Prop) (o0 : Nat) (x1 : Int32) (x2 : Int32) (x4 : Int32) (x5 : Int32) (x7 : Int32) (x8 : Int32) (s : h_S) : Prop :=
  K64 o0 x1 x2 x4 x5 x7 (x8 + (1 : Int32)) s
def w_X12_seek_96b (Q : Int32 → h_S → Prop) (K64 : Nat → Int32 → Int32 → Int32 → Int32 → Int32 → Int32 → h_S → Prop) (K96 : Nat → Int32 → Int32 → Int32 → Int32 → Int32 → Int32 → Int32 → h_S → Prop) (o0 : Nat) (x1 : Int32) (x2 : Int32) (x4 : Int32) (x5 : Int32) (x7 : Int32) (x8 : Int32) (x9 : Int32) (s : h_S) : Prop :=
  h_k s o0 = 33 ∧ (if (h_i s o0 35) ≤ x9 then
    w_X12_seek_152 Q K64 o0 x1 x2 x4 x5 x7 x8 s
  else
    w_X12_isHit o0 x1 x9 (((60 : Int32) * x2) + x4) x5 s (fun p4 s3 =>
      if p4 = 0 then
        w_X12_seek_146 Q K64 K96 o0 x1 x2 x4 x5 x7 x8 x9 s3
      else
        h_k s3 o0 = 33 ∧ ∃ a7, (h_r s3 o0 36) = some a7 ∧ h_k s3 a7 = 1 ∧ vp_in x9 (h_n s3 a7) ∧ w_X12_linksOf o0 (h_i s3 a7 (h_ix x9)) s3 (fun p11 s10 =>
          h_k s10 o0 = 33 ∧ w_X12_keepHit o0 x8 x9 p11 s10 (fun s13 =>
            w_X12_seek_146 Q K64 K96 o0 x1 x2 x4 x5 (x7 + (1 : Int32)) x8 x9 s13))))
def w_X12_seek_96 (Q : Int32 → h_S → Prop) (K64 : Nat → Int32 → Int32 → Int32 → Int32 → Int32 → Int32 → h_S → Prop) : Nat → Nat → Int32 → Int32 → Int32 → Int32 → Int32 → Int32 → Int32 → h_S → Prop
  | 0, _, _, _, _, _, _, _, _, _ => False
  | n + 1, o0, x1, x2, x4, x5, x7, x8, x9, s => w_X12_seek_96b Q K64 (w_X12_seek_96 Q K64 n) o0 x1 x2 x4 x5 x7 x8 x9 s
def w_X12_seek_64b (Q : Int32 → h_S → Prop) (K64 : Nat → Int32 → Int32 → Int32 → Int32 → Int32 → Int32 → h_S → Prop) (o0 : Nat) (x1 : Int32) (x2 : Int32) (x4 : Int32) (x5 : Int32) (x7 : Int32) (x8 : Int32) (s : h_S) : Prop :=
  h_k s o0 = 33 ∧ (if (h_i s o0 55) ≤ x8 then
    w_X12_refused o0 x7 s (fun p4 s3 =>
      Q p4 s3)
  else
    w_X12_isOpen o0 x1 x8 (h_i s o0 1) s (fun p6 s5 =>
      if p6 = 0 then
        w_X12_seek_152 Q K64 o0 x1 x2 x4 x5 x7 x8 s5
      else
        h_k s5 o0 = 33 ∧ w_X12_layVersion o0 x8 s5 (fun s9 =>
          ∃ n, w_X12_seek_96 Q K64 n o0 x1 x2 x4 x5 x7 x8 (0 : Int32) s9)))
def w_X12_seek_64 (Q : Int32 → h_S → Prop) : Nat → Nat → Int32 → Int32 → Int32 → Int32 → Int32 → Int32 → h_S → Prop
  | 0, _, _, _, _, _, _, _, _ => False
  | n + 1, o0, x1, x2, x4, x5, x7, x8, s => w_X12_seek_64b Q (w_X12_seek_64 Q n) o0 x1 x2 x4 x5 x7 x8 s
def w_X12_seek (o0 : Nat) (x1 : Int32) (x2 : Int32) (x3 : Int32) (x4 : Int32) (x5 : Int32) (s : h_S) (Q : Int32 → h_S → Prop) : Prop :=
  h_k s o0 = 33 ∧ w_X12_noHand o0 x1 s (fun p3 s2 =>
    if p3 = 0 then
      w_X12_noSheet x2 s2 (fun p6 s5 =>
        if p6 = 0 then
          h_k s5 o0 = 33 ∧ w_X12_barred o0 x2 x3 x4 x5 s5 (fun p10 s9 =>
            if 0 ≤ p10 then
              if x5 = 0 then
                h_k s9 o0 = 33 ∧ w_X12_refused o0 (-2 : Int32) s9 (fun p17 s16 =>
                  Q p17 s16)
              else
                h_k s9 o0 = 33 ∧ let s14 : h_S := h_si s9 o0 105 (0 : Int32)
                ∃ n, w_X12_seek_64 Q n o0 x1 x2 x4 x5 (0 : Int32) (0 : Int32) s14
            else
              Q p10 s9)
        else
          w_X12_seek_15 Q o0 s5)
    else
      w_X12_seek_15 Q o0 s2)
def w_X12_hit (o0 : Nat) (x1 : Int32) (x2 : Int32) (s : h_S) (Q : Int32 → h_S → Prop) : Prop :=
  h_k s o0 = 33 ∧ w_X12_in ((x1).toInt64) (0 : Int64) ((((h_i s o0 105)).toInt64) - (1 : Int64)) s (fun p3 s2 =>
    if p3 = 0 then
      Q (-1 : Int32) s2
    else
      if x2 = (0 : Int32) then
        h_k s2 o0 = 33 ∧ ∃ a7, (h_r s2 o0 106) = some a7 ∧ h_k s2 a7 = 1 ∧ vp_in x1 (h_n s2 a7) ∧ Q (h_i s2 a7 (h_ix x1)) s2
      else if x2 = (1 : Int32) then
        h_k s2 o0 = 33 ∧ ∃ a12, (h_r s2 o0 107) = some a12 ∧ h_k s2 a12 = 1 ∧ vp_in x1 (h_n s2 a12) ∧ Q (h_i s2 a12 (h_ix x1)) s2
      else if x2 = (2 : Int32) then
        h_k s2 o0 = 33 ∧ ∃ a17, (h_r s2 o0 108) = some a17 ∧ h_k s2 a17 = 1 ∧ vp_in x1 (h_n s2 a17) ∧ Q (h_i s2 a17 (h_ix x1)) s2
      else 
        Q (-2 : Int32) s2)
def w_X12_layTree_64 (Q : h_S → Prop) (K2 : Nat → Int32 → Int32 → h_S → Prop) (o0 : Nat) (x1 : Int32) (x2 : Int32) (y0 : Int32) (y1 : Int32) (t2 : Option Nat) (s : h_S) : Prop :=
  ∃ a1, t2 = some a1 ∧ h_k s a1 = 1 ∧ vp_in y1 (h_n s a1) ∧ let s4 : h_S := h_si s a1 (h_ix y1) y0
  K2 o0 x1 (x2 + (1 : Int32)) s4
def w_X12_layTree_63 (Q : h_S → Prop) (K2 : Nat → Int32 → Int32 → h_S → Prop) (o0 : Nat) (x1 : Int32) (x2 : Int32) (y0 : Int32) (t1 : Option Nat) (s : h_S) : Prop :=
  w_X12_layTree_64 Q K2 o0 x1 x2 (0 : Int32) y0 t1 s
def w_X12_layTree_75b (Q : h_S → Prop) (K75 : Nat → Int32 → h_S → Prop) (o0 : Nat) (x2 : Int32) (s : h_S) : Prop :=
  if x2 ≤ 0 then
    Q s
  else
    h_k s o0 = 33 ∧ ∃ a3, (h_r s o0 109) = some a3 ∧ h_k s a3 = 1 ∧ vp_in ((2 : Int32) * x2) (h_n s a3) ∧ ∃ a6, (h_r s o0 109) = some a6 ∧ h_k s a6 = 1 ∧ vp_in (((2 : Int32) * x2) + (1 : Int32)) (h_n s a6) ∧ w_X12_mix (h_i s a3 (h_ix ((2 : Int32) * x2))) (h_i s a6 (h_ix (((2 : Int32) * x2) + (1 : Int32)))) s (fun p10 s9 =>
      ∃ a11, (h_r s o0 109) = some a11 ∧ h_k s9 a11 = 1 ∧ vp_in x2 (h_n s9 a11) ∧ let s14 : h_S := h_si s9 a11 (h_ix x2) p10
      K75 o0 (x2 + (-1 : Int32)) s14)
def w_X12_layTree_75 (Q : h_S → Prop) : Nat → Nat → Int32 → h_S → Prop
  | 0, _, _, _ => False
  | n + 1, o0, x2, s => w_X12_layTree_75b Q (w_X12_layTree_75 Q n) o0 x2 s
def w_X12_layTree_2b (Q : h_S → Prop) (K2 : Nat → Int32 → Int32 → h_S → Prop) (o0 : Nat) (x1 : Int32) (x2 : Int32) (s : h_S) : Prop :=
  if (512 : Int32) ≤ x2 then
    ∃ n, w_X12_layTree_75 Q n o0 (511 : Int32) s
  else
    h_k s o0 = 33 ∧ (if (h_i s o0 22) ≤ x2 then
      w_X12_layTree_63 Q K2 o0 x1 x2 ((512 : Int32) + x2) (h_r s o0 109) s
    else
      ∃ a4, (h_r s o0 26) = some a4 ∧ h_k s a4 = 1 ∧ vp_in x2 (h_n s a4) ∧ (if x1 < (h_i s a4 (h_ix x2)) then
        w_X12_layTree_63 Q K2 o0 x1 x2 ((512 : Int32) + x2) (h_r s o0 109) s
      else
        ∃ a8, (h_r s o0 24) = some a8 ∧ h_k s a8 = 1 ∧ vp_in x2 (h_n s a8) ∧ ∃ a11, (h_r s o0 23) = some a11 ∧ h_k s a11 = 1 ∧ vp_in x2 (h_n s a11) ∧ w_X12_mix (h_i s a8 (h_ix x2)) (h_i s a11 (h_ix x2)) s (fun p15 s14 =>
          h_k s14 o0 = 33 ∧ ∃ a17, (h_r s14 o0 26) = some a17 ∧ h_k s14 a17 = 1 ∧ vp_in x2 (h_n s14 a17) ∧ w_X12_mix p15 (h_i s14 a17 (h_ix x2)) s14 (fun p21 s20 =>
            w_X12_layTree_64 Q K2 o0 x1 x2 p21 ((512 : Int32) + x2) (h_r s o0 109) s20))))
def w_X12_layTree_2 (Q : h_S → Prop) : Nat → Nat → Int32 → Int32 → h_S → Prop
  | 0, _, _, _, _ => False
  | n + 1, o0, x1, x2, s => w_X12_layTree_2b Q (w_X12_layTree_2 Q n) o0 x1 x2 s
def w_X12_layTree (o0 : Nat) (x1 : Int32) (s : h_S) (Q : h_S → Prop) : Prop :=
  ∃ n, w_X12_layTree_2 Q n o0 x1 (0 : Int32) s
def w_X12_seal (o0 : Nat) (x1 : Int32) (s : h_S) (Q : Int32 → h_S → Prop) : Prop :=
  h_k s o0 = 33 ∧ w_X12_noMoment o0 x1 s (fun p3 s2 =>
    if p3 = 0 then
      h_k s2 o0 = 33 ∧ w_X12_layTree o0 x1 s2 (fun s6 =>
        h_k s6 o0 = 33 ∧ ∃ a9, (h_r s6 o0 109) = some a9 ∧ h_k s6 a9 = 1 ∧ vp_in (1 : Int32) (h_n s6 a9) ∧ Q (h_i s6 a9 (h_ix (1 : Int32))) s6)
    else
      Q (0 : Int32) s2)
def w_X12_sideOf (o0 : Nat) (x1 : Int32) (x2 : Int32) (s : h_S) (Q : Int32 → h_S → Prop) : Prop :=
  h_k s o0 = 33 ∧ ∃ a2, (h_r s o0 109) = some a2 ∧ h_k s a2 = 1 ∧ vp_in ((((512 : Int32) + x1) >>> (x2 &&& 31)) ^^^ (1 : Int32)) (h_n s a2) ∧ Q (h_i s a2 (h_ix ((((512 : Int32) + x1) >>> (x2 &&& 31)) ^^^ (1 : Int32)))) s
def w_X12_side_28 (Q : Int32 → h_S → Prop) (s : h_S) : Prop :=
  Q (0 : Int32) s
def w_X12_side (o0 : Nat) (x1 : Int32) (x2 : Int32) (x3 : Int32) (s : h_S) (Q : Int32 → h_S → Prop) : Prop :=
  h_k s o0 = 33 ∧ w_X12_noWord o0 x1 s (fun p3 s2 =>
    if p3 = 0 then
      h_k s2 o0 = 33 ∧ w_X12_noMoment o0 x2 s2 (fun p7 s6 =>
        if p7 = 0 then
          w_X12_in ((x3).toInt64) (0 : Int64) (8 : Int64) s6 (fun p10 s9 =>
            if p10 = 0 then
              w_X12_side_28 Q s9
            else
              h_k s9 o0 = 33 ∧ w_X12_layTree o0 x2 s9 (fun s13 =>
                h_k s13 o0 = 33 ∧ w_X12_sideOf o0 x1 x3 s13 (fun p17 s16 =>
                  Q p17 s16)))
        else
          w_X12_side_28 Q s6)
    else
      w_X12_side_28 Q s2)
def w_X12_prove_29 (Q : Int32 → h_S → Prop) (o0 : Nat) (s : h_S) : Prop :=
  h_k s o0 = 33 ∧ w_X12_refused o0 (-1 : Int32) s (fun p3 s2 =>
    Q p3 s2)
def w_X12_prove_151 (Q : Int32 → h_S → Prop) (K78 : Nat → Int32 → Int32 → Int32 → Int32 → Int32 → h_S → Prop) (o0 : Nat) (x1 : Int32) (x6 : Int32) (x8 : Int32) (x11 : Int32) (y0 : Int32) (s : h_S) : Prop :=
  K78 o0 x1 x6 x8 y0 (x11 + (1 : Int32)) s
def w_X12_prove_176 (Q : Int32 → h_S → Prop) (y0 : Int32) (u1 : Nat) (s : h_S) : Prop :=
  h_k s u1 = 33 ∧ w_X12_refused u1 y0 s (fun p3 s2 =>
    Q p3 s2)
def w_X12_prove_78b (Q : Int32 → h_S → Prop) (K78 : Nat → Int32 → Int32 → Int32 → Int32 → Int32 → h_S → Prop) (o0 : Nat) (x1 : Int32) (x6 : Int32) (x8 : Int32) (x10 : Int32) (x11 : Int32) (s : h_S) : Prop :=
  if (9 : Int32) ≤ x11 then
    h_k s o0 = 33 ∧ ∃ a3, (h_r s o0 109) = some a3 ∧ h_k s a3 = 1 ∧ vp_in (1 : Int32) (h_n s a3) ∧ (if x10 = (h_i s a3 (h_ix (1 : Int32))) then
      w_X12_prove_176 Q (1 : Int32) o0 s
    else
      w_X12_prove_176 Q (0 : Int32) o0 s)
  else
    h_k s o0 = 33 ∧ ∃ a8, (h_r s o0 112) = some a8 ∧ h_k s a8 = 1 ∧ vp_in ((((60 : Int32) * x6) + x8) + x11) (h_n s a8) ∧ let v11 : Int32 := (h_i s a8 (h_ix ((((60 : Int32) * x6) + x8) + x11)))
    w_X12_sideOf o0 x1 x11 s (fun p13 s12 =>
      if v11 = p13 then
        if ((x1 >>> (x11 &&& 31)) &&& (1 : Int32)) = 0 then
          w_X12_mix x10 v11 s12 (fun p19 s18 =>
            w_X12_prove_151 Q K78 o0 x1 x6 x8 x11 p19 s18)
        else
          w_X12_mix v11 x10 s12 (fun p17 s16 =>
            w_X12_prove_151 Q K78 o0 x1 x6 x8 x11 p17 s16)
      else
        h_k s12 o0 = 33 ∧ w_X12_refused o0 ((-100 : Int32) - x11) s12 (fun p22 s21 =>
          Q p22 s21))
def w_X12_prove_78 (Q : Int32 → h_S → Prop) : Nat → Nat → Int32 → Int32 → Int32 → Int32 → Int32 → h_S → Prop
  | 0, _, _, _, _, _, _, _ => False
  | n + 1, o0, x1, x6, x8, x10, x11, s => w_X12_prove_78b Q (w_X12_prove_78 Q n) o0 x1 x6 x8 x10 x11 s
def w_X12_prove (o0 : Nat) (x1 : Int32) (x2 : Int32) (x3 : Int32) (x4 : Int32) (x5 : Int32) (x6 : Int32) (x7 : Int32) (x8 : Int32) (s : h_S) (Q : Int32 → h_S → Prop) : Prop :=
  w_X12_in ((x1).toInt64) (0 : Int64) (499 : Int64) s (fun p2 s1 =>
    if p2 = 0 then
      w_X12_prove_29 Q o0 s1
    else
      h_k s1 o0 = 33 ∧ w_X12_noMoment o0 x5 s1 (fun p6 s5 =>
        if p6 = 0 then
          w_X12_noSheet x6 s5 (fun p9 s8 =>
            if p9 = 0 then
              h_k s8 o0 = 33 ∧ w_X12_barred o0 x6 x7 x8 (9 : Int32) s8 (fun p13 s12 =>
                if 0 ≤ p13 then
                  h_k s12 o0 = 33 ∧ w_X12_layTree o0 x5 s12 (fun s16 =>
                    w_X12_mix x2 x3 s16 (fun p19 s18 =>
                      w_X12_mix p19 x4 s18 (fun p21 s20 =>
                        ∃ n, w_X12_prove_78 Q n o0 x1 x6 x8 p21 (0 : Int32) s20)))
                else
                  Q p13 s12)
            else
              w_X12_prove_29 Q o0 s8)
        else
          w_X12_prove_29 Q o0 s5))
def w_X12_stamp_18 (Q : Int32 → h_S → Prop) (y0 : Int32) (s : h_S) : Prop :=
  Q y0 s
def w_X12_stamp (o0 : Nat) (x1 : Int32) (s : h_S) (Q : Int32 → h_S → Prop) : Prop :=
  h_k s o0 = 33 ∧ w_X12_noMoment o0 x1 s (fun p3 s2 =>
    if p3 = 0 then
      h_k s2 o0 = 33 ∧ ∃ a6, (h_r s2 o0 2) = some a6 ∧ h_k s2 a6 = 1 ∧ vp_in x1 (h_n s2 a6) ∧ w_X12_stamp_18 Q (h_i s2 a6 (h_ix x1)) s2
    else
      w_X12_stamp_18 Q (0 : Int32) s2)
def w_X12_sheet_31 (Q : Int32 → h_S → Prop) (o0 : Nat) (s : h_S) : Prop :=
  h_k s o0 = 33 ∧ w_X12_refused o0 (-2 : Int32) s (fun p3 s2 =>
    Q p3 s2)
def w_X12_sheet_65b (Q : Int32 → h_S → Prop) (K65 : Nat → Int32 → Int32 → Int32 → h_S → Prop) (o0 : Nat) (x1 : Int32) (x3 : Int32) (x4 : Int32) (s : h_S) : Prop :=
  if x3 ≤ x4 then
    h_k s o0 = 33 ∧ w_X12_refused o0 (1 : Int32) s (fun p4 s3 =>
      Q p4 s3)
  else
    h_k s o0 = 33 ∧ ∃ a6, (h_r s o0 112) = some a6 ∧ h_k s a6 = 1 ∧ vp_in (((60 : Int32) * x1) + x4) (h_n s a6) ∧ let s9 : h_S := h_si s a6 (h_ix (((60 : Int32) * x1) + x4)) (0 : Int32)
    K65 o0 x1 x3 (x4 + (1 : Int32)) s9
def w_X12_sheet_65 (Q : Int32 → h_S → Prop) : Nat → Nat → Int32 → Int32 → Int32 → h_S → Prop
  | 0, _, _, _, _, _ => False
  | n + 1, o0, x1, x3, x4, s => w_X12_sheet_65b Q (w_X12_sheet_65 Q n) o0 x1 x3 x4 s
def w_X12_sheet (o0 : Nat) (x1 : Int32) (x2 : Int32) (x3 : Int32) (s : h_S) (Q : Int32 → h_S → Prop) : Prop :=
  w_X12_noSheet x1 s (fun p2 s1 =>
    if p2 = 0 then
      w_X12_in ((x2).toInt64) (0 : Int64) (2 : Int64) s1 (fun p5 s4 =>
        if p5 = 0 then
          w_X12_sheet_31 Q o0 s4
        else
          if x3 ≤ (60 : Int32) then
            if 0 ≤ x3 then
              h_k s4 o0 = 33 ∧ ∃ a10, (h_r s4 o0 110) = some a10 ∧ h_k s4 a10 = 1 ∧ vp_in x1 (h_n s4 a10) ∧ let s13 : h_S := h_si s4 a10 (h_ix x1) x3
              ∃ a14, (h_r s13 o0 111) = some a14 ∧ h_k s13 a14 = 1 ∧ vp_in x1 (h_n s13 a14) ∧ let s17 : h_S := h_si s13 a14 (h_ix x1) x2
              ∃ n, w_X12_sheet_65 Q n o0 x1 x3 (0 : Int32) s17
            else
              h_k s4 o0 = 33 ∧ w_X12_failed o0 (4 : Int32) s4 (fun p20 s19 =>
                Q p20 s19)
          else
            w_X12_sheet_31 Q o0 s4)
    else
      h_k s1 o0 = 33 ∧ w_X12_refused o0 (-1 : Int32) s1 (fun p23 s22 =>
        Q p23 s22))
def w_X12_lose_23 (Q : Int32 → h_S → Prop) (o0 : Nat) (x1 : Int32) (y0 : Int32) (s : h_S) : Prop :=
  h_k s o0 = 33 ∧ ∃ a2, (h_r s o0 110) = some a2 ∧ h_k s a2 = 1 ∧ vp_in x1 (h_n s a2) ∧ let s5 : h_S := h_si s a2 (h_ix x1) (-1 : Int32)
  Q y0 s5
def w_X12_lose (o0 : Nat) (x1 : Int32) (s : h_S) (Q : Int32 → h_S → Prop) : Prop :=
  w_X12_noSheet x1 s (fun p2 s1 =>
    if p2 = 0 then
      h_k s1 o0 = 33 ∧ ∃ a5, (h_r s1 o0 110) = some a5 ∧ h_k s1 a5 = 1 ∧ vp_in x1 (h_n s1 a5) ∧ (if 0 ≤ (h_i s1 a5 (h_ix x1)) then
        w_X12_lose_23 Q o0 x1 (1 : Int32) s1
      else
        w_X12_lose_23 Q o0 x1 (0 : Int32) s1)
    else
      Q (-1 : Int32) s1)
def w_X12_noCell_36 (Q : Int32 → h_S → Prop) (y0 : Int32) (s : h_S) : Prop :=
  Q y0 s
def w_X12_noCell (o0 : Nat) (x1 : Int32) (x2 : Int32) (s : h_S) (Q : Int32 → h_S → Prop) : Prop :=
  h_k s o0 = 33 ∧ ∃ a2, (h_r s o0 110) = some a2 ∧ h_k s a2 = 1 ∧ vp_in x1 (h_n s a2) ∧ (if 0 ≤ (h_i s a2 (h_ix x1)) then
    ∃ a6, (h_r s o0 110) = some a6 ∧ h_k s a6 = 1 ∧ vp_in x1 (h_n s a6) ∧ w_X12_in ((x2).toInt64) (0 : Int64) ((((h_i s a6 (h_ix x1))).toInt64) - (1 : Int64)) s (fun p10 s9 =>
      if p10 = 0 then
        w_X12_noCell_36 Q (3 : Int32) s9
      else
        w_X12_noCell_36 Q (0 : Int32) s9)
  else
    w_X12_noCell_36 Q (1 : Int32) s)
def w_X12_set_73 (Q : Int32 → h_S → Prop) (o0 : Nat) (y0 : Int32) (y1 : Int32) (t2 : Option Nat) (s : h_S) : Prop :=
  ∃ a1, t2 = some a1 ∧ h_k s a1 = 1 ∧ vp_in y1 (h_n s a1) ∧ let s4 : h_S := h_si s a1 (h_ix y1) y0
  h_k s4 o0 = 33 ∧ w_X12_refused o0 (1 : Int32) s4 (fun p7 s6 =>
    Q p7 s6)
def w_X12_set (o0 : Nat) (x1 : Int32) (x2 : Int32) (x3 : Int32) (s : h_S) (Q : Int32 → h_S → Prop) : Prop :=
  w_X12_noSheet x1 s (fun p2 s1 =>
    if p2 = 0 then
      h_k s1 o0 = 33 ∧ w_X12_noCell o0 x1 x2 s1 (fun p6 s5 =>
        if p6 ≤ 0 then
          h_k s5 o0 = 33 ∧ ∃ a9, (h_r s5 o0 111) = some a9 ∧ h_k s5 a9 = 1 ∧ vp_in x1 (h_n s5 a9) ∧ (if (h_i s5 a9 (h_ix x1)) = 0 then
            w_X12_set_73 Q o0 ((x3).toInt8.toInt32) (((60 : Int32) * x1) + x2) (h_r s5 o0 112) s5
          else
            ∃ a13, (h_r s5 o0 111) = some a13 ∧ h_k s5 a13 = 1 ∧ vp_in x1 (h_n s5 a13) ∧ (if (h_i s5 a13 (h_ix x1)) = (1 : Int32) then
              w_X12_set_73 Q o0 ((x3).toInt16.toInt32) (((60 : Int32) * x1) + x2) (h_r s5 o0 112) s5
            else
              w_X12_set_73 Q o0 x3 (((60 : Int32) * x1) + x2) (h_r s5 o0 112) s5))
        else
          h_k s5 o0 = 33 ∧ w_X12_noCell o0 x1 x2 s5 (fun p19 s18 =>
            h_k s18 o0 = 33 ∧ w_X12_failed o0 p19 s18 (fun p22 s21 =>
              Q p22 s21)))
    else
      h_k s1 o0 = 33 ∧ w_X12_refused o0 (-1 : Int32) s1 (fun p25 s24 =>
        Q p25 s24))
def w_X12_cell_24 (Q : Int64 → h_S → Prop) (s : h_S) : Prop :=
  w_X12_lost s (fun p2 s1 =>
    Q p2 s1)
def w_X12_cell_87 (Q : Int64 → h_S → Prop) (m0 : Int64) (s : h_S) : Prop :=
  Q m0 s
def w_X12_cell_53 (Q : Int64 → h_S → Prop) (o0 : Nat) (x1 : Int32) (x2 : Int32) (s : h_S) : Prop :=
  h_k s o0 = 33 ∧ w_X12_noCell o0 x1 x2 s (fun p3 s2 =>
    if p3 ≤ 0 then
      h_k s2 o0 = 33 ∧ ∃ a6, (h_r s2 o0 112) = some a6 ∧ h_k s2 a6 = 1 ∧ vp_in (((60 : Int32) * x1) + x2) (h_n s2 a6) ∧ w_X12_cell_87 Q (((h_i s2 a6 (h_ix (((60 : Int32) * x1) + x2)))).toInt64) s2
    else
      h_k s2 o0 = 33 ∧ w_X12_noCell o0 x1 x2 s2 (fun p11 s10 =>
        h_k s10 o0 = 33 ∧ w_X12_failedLong o0 p11 s10 (fun p14 s13 =>
          w_X12_cell_87 Q p14 s13)))
def w_X12_cell (o0 : Nat) (x1 : Int32) (x2 : Int32) (x3 : Int32) (s : h_S) (Q : Int64 → h_S → Prop) : Prop :=
  h_k s o0 = 33 ∧ let s2 : h_S := h_si s o0 0 (0 : Int32)
  w_X12_noSheet x1 s2 (fun p4 s3 =>
    if p4 = 0 then
      w_X12_in ((x3).toInt64) (0 : Int64) (2 : Int64) s3 (fun p7 s6 =>
        if p7 = 0 then
          w_X12_cell_24 Q s6
        else
          h_k s6 o0 = 33 ∧ ∃ a10, (h_r s6 o0 110) = some a10 ∧ h_k s6 a10 = 1 ∧ vp_in x1 (h_n s6 a10) ∧ (if (h_i s6 a10 (h_ix x1)) < 0 then
            w_X12_cell_53 Q o0 x1 x2 s6
          else
            ∃ a14, (h_r s6 o0 111) = some a14 ∧ h_k s6 a14 = 1 ∧ vp_in x1 (h_n s6 a14) ∧ (if (h_i s6 a14 (h_ix x1)) = x3 then
              w_X12_cell_53 Q o0 x1 x2 s6
            else
              w_X12_failedLong o0 (2 : Int32) s6 (fun p19 s18 =>
                Q p19 s18))))
    else
      w_X12_cell_24 Q s3)
def w_X12_copy_14 (Q : Int32 → h_S → Prop) (o0 : Nat) (s : h_S) : Prop :=
  h_k s o0 = 33 ∧ w_X12_refused o0 (-1 : Int32) s (fun p3 s2 =>
    Q p3 s2)
def w_X12_copy_38 (Q : Int32 → h_S → Prop) (o0 : Nat) (s : h_S) : Prop :=
  h_k s o0 = 33 ∧ w_X12_failed o0 (1 : Int32) s (fun p3 s2 =>
    Q p3 s2)
def w_X12_copy_98 (Q : Int32 → h_S → Prop) (o0 : Nat) (s : h_S) : Prop :=
  h_k s o0 = 33 ∧ w_X12_failed o0 (3 : Int32) s (fun p3 s2 =>
    Q p3 s2)
def w_X12_copy_144b (Q : Int32 → h_S → Prop) (K144 : Nat → Int32 → Int32 → Int32 → Int32 → h_S → Prop) (o0 : Nat) (x3 : Int32) (x4 : Int32) (x5 : Int32) (x6 : Int32) (s : h_S) : Prop :=
  if x5 ≤ x6 then
    h_k s o0 = 33 ∧ w_X12_refused o0 x5 s (fun p4 s3 =>
      Q p4 s3)
  else
    h_k s o0 = 33 ∧ ∃ a6, (h_r s o0 113) = some a6 ∧ h_k s a6 = 1 ∧ vp_in x6 (h_n s a6) ∧ ∃ a9, (h_r s o0 112) = some a9 ∧ h_k s a9 = 1 ∧ vp_in ((((60 : Int32) * x3) + x4) + x6) (h_n s a9) ∧ let s12 : h_S := h_si s a9 (h_ix ((((60 : Int32) * x3) + x4) + x6)) (h_i s a6 (h_ix x6))
    K144 o0 x3 x4 x5 (x6 + (1 : Int32)) s12
def w_X12_copy_144 (Q : Int32 → h_S → Prop) : Nat → Nat → Int32 → Int32 → Int32 → Int32 → h_S → Prop
  | 0, _, _, _, _, _, _ => False
  | n + 1, o0, x3, x4, x5, x6, s => w_X12_copy_144b Q (w_X12_copy_144 Q n) o0 x3 x4 x5 x6 s
def w_X12_copy_107b (Q : Int32 → h_S → Prop) (K107 : Nat → Int32 → Int32 → Int32 → Int32 → Int32 → Int32 → h_S → Prop) (o0 : Nat) (x1 : Int32) (x2 : Int32) (x3 : Int32) (x4 : Int32) (x5 : Int32) (x6 : Int32) (s : h_S) : Prop :=
  if x5 ≤ x6 then
    ∃ n, w_X12_copy_144 Q n o0 x3 x4 x5 (0 : Int32) s
  else
    h_k s o0 = 33 ∧ ∃ a3, (h_r s o0 112) = some a3 ∧ h_k s a3 = 1 ∧ vp_in ((((60 : Int32) * x1) + x2) + x6) (h_n s a3) ∧ ∃ a6, (h_r s o0 113) = some a6 ∧ h_k s a6 = 1 ∧ vp_in x6 (h_n s a6) ∧ let s9 : h_S := h_si s a6 (h_ix x6) (h_i s a3 (h_ix ((((60 : Int32) * x1) + x2) + x6)))
    K107 o0 x1 x2 x3 x4 x5 (x6 + (1 : Int32)) s9
def w_X12_copy_107 (Q : Int32 → h_S → Prop) : Nat → Nat → Int32 → Int32 → Int32 → Int32 → Int32 → Int32 → h_S → Prop
  | 0, _, _, _, _, _, _, _, _ => False
  | n + 1, o0, x1, x2, x3, x4, x5, x6, s => w_X12_copy_107b Q (w_X12_copy_107 Q n) o0 x1 x2 x3 x4 x5 x6 s
def w_X12_copy (o0 : Nat) (x1 : Int32) (x2 : Int32) (x3 : Int32) (x4 : Int32) (x5 : Int32) (s : h_S) (Q : Int32 → h_S → Prop) : Prop :=
  w_X12_noSheet x1 s (fun p2 s1 =>
    if p2 = 0 then
      w_X12_noSheet x3 s1 (fun p5 s4 =>
        if p5 = 0 then
          h_k s4 o0 = 33 ∧ ∃ a8, (h_r s4 o0 110) = some a8 ∧ h_k s4 a8 = 1 ∧ vp_in x1 (h_n s4 a8) ∧ (if (h_i s4 a8 (h_ix x1)) < 0 then
            w_X12_copy_38 Q o0 s4
          else
            ∃ a12, (h_r s4 o0 110) = some a12 ∧ h_k s4 a12 = 1 ∧ vp_in x3 (h_n s4 a12) ∧ (if 0 ≤ (h_i s4 a12 (h_ix x3)) then
              ∃ a16, (h_r s4 o0 111) = some a16 ∧ h_k s4 a16 = 1 ∧ vp_in x1 (h_n s4 a16) ∧ ∃ a19, (h_r s4 o0 111) = some a19 ∧ h_k s4 a19 = 1 ∧ vp_in x3 (h_n s4 a19) ∧ (if (h_i s4 a16 (h_ix x1)) = (h_i s4 a19 (h_ix x3)) then
                ∃ a23, (h_r s4 o0 110) = some a23 ∧ h_k s4 a23 = 1 ∧ vp_in x1 (h_n s4 a23) ∧ w_X12_isBeyond x2 ((x5).toInt64) (h_i s4 a23 (h_ix x1)) s4 (fun p27 s26 =>
                  if p27 = 0 then
                    h_k s26 o0 = 33 ∧ ∃ a30, (h_r s26 o0 110) = some a30 ∧ h_k s26 a30 = 1 ∧ vp_in x3 (h_n s26 a30) ∧ w_X12_isBeyond x4 ((x5).toInt64) (h_i s26 a30 (h_ix x3)) s26 (fun p34 s33 =>
                      if p34 = 0 then
                        ∃ n, w_X12_copy_107 Q n o0 x1 x2 x3 x4 x5 (0 : Int32) s33
                      else
                        w_X12_copy_98 Q o0 s33)
                  else
                    w_X12_copy_98 Q o0 s26)
              else
                w_X12_failed o0 (2 : Int32) s4 (fun p37 s36 =>
                  Q p37 s36))
            else
              w_X12_copy_38 Q o0 s4))
        else
          w_X12_copy_14 Q o0 s4)
    else
      w_X12_copy_14 Q o0 s1)
def w_X12_traced (o0 : Nat) (x1 : Int32) (s : h_S) (Q : h_S → Prop) : Prop :=
  h_k s o0 = 33 ∧ let s2 : h_S := h_si s o0 114 (((31 : Int32) * (h_i s o0 114)) + x1)
  Q s2
def w_X12_tell_149 (Q : Int32 → h_S → Prop) (y0 : Int32) (s : h_S) : Prop :=
  Q y0 s
def w_X12_tell_82 (Q : Int32 → h_S → Prop) (o0 : Nat) (x1 : Int32) (x2 : Int32) (s : h_S) : Prop :=
  h_k s o0 = 33 ∧ ∃ a2, (h_r s o0 83) = some a2 ∧ h_k s a2 = 1 ∧ vp_in x1 (h_n s a2) ∧ (if x2 = 0 then
    w_X12_tell_149 Q (h_i s a2 (h_ix x1)) s
  else
    if x2 = (1 : Int32) then
      ∃ a12, (h_r s o0 85) = some a12 ∧ h_k s a12 = 1 ∧ vp_in x1 (h_n s a12) ∧ w_X12_tell_149 Q ((h_i s a2 (h_ix x1)) + (h_i s a12 (h_ix x1))) s
    else
      if x2 = (2 : Int32) then
        ∃ a9, (h_r s o0 85) = some a9 ∧ h_k s a9 = 1 ∧ vp_in x1 (h_n s a9) ∧ w_X12_tell_149 Q (((2 : Int32) * (h_i s a2 (h_ix x1))) + (h_i s a9 (h_ix x1))) s
      else
        if x2 = (3 : Int32) then
          w_X12_tell_149 Q ((h_i s a2 (h_ix x1)) + (100 : Int32)) s
        else
          w_X12_tell_149 Q (((2 : Int32) * (h_i s a2 (h_ix x1))) + (100 : Int32)) s)
def w_X12_tell_77 (Q : Int32 → h_S → Prop) (o0 : Nat) (x1 : Int32) (x2 : Int32) (s : h_S) : Prop :=
  h_k s o0 = 33 ∧ w_X12_traced o0 (1 : Int32) s (fun s2 =>
    w_X12_tell_82 Q o0 x1 x2 s2)
def w_X12_tell_62 (Q : Int32 → h_S → Prop) (o0 : Nat) (x1 : Int32) (x2 : Int32) (s : h_S) : Prop :=
  h_k s o0 = 33 ∧ w_X12_traced o0 (1 : Int32) s (fun s2 =>
    if x2 = (2 : Int32) then
      w_X12_tell_77 Q o0 x1 x2 s2
    else
      if x2 = (4 : Int32) then
        w_X12_tell_77 Q o0 x1 x2 s2
      else
        w_X12_tell_82 Q o0 x1 x2 s2)
def w_X12_tell_52 (Q : Int32 → h_S → Prop) (o0 : Nat) (x1 : Int32) (x2 : Int32) (s : h_S) : Prop :=
  if x2 ≤ (2 : Int32) then
    w_X12_tell_62 Q o0 x1 x2 s
  else
    h_k s o0 = 33 ∧ w_X12_traced o0 (4 : Int32) s (fun s3 =>
      w_X12_tell_62 Q o0 x1 x2 s3)
def w_X12_tell_42 (Q : Int32 → h_S → Prop) (o0 : Nat) (x1 : Int32) (x2 : Int32) (s : h_S) : Prop :=
  if x2 = (4 : Int32) then
    h_k s o0 = 33 ∧ w_X12_traced o0 (5 : Int32) s (fun s3 =>
      w_X12_tell_52 Q o0 x1 x2 s3)
  else
    w_X12_tell_52 Q o0 x1 x2 s
def w_X12_tell_37 (Q : Int32 → h_S → Prop) (o0 : Nat) (x1 : Int32) (x2 : Int32) (s : h_S) : Prop :=
  h_k s o0 = 33 ∧ w_X12_traced o0 (2 : Int32) s (fun s2 =>
    w_X12_tell_42 Q o0 x1 x2 s2)
def w_X12_tell_27 (Q : Int32 → h_S → Prop) (o0 : Nat) (x1 : Int32) (x2 : Int32) (s : h_S) : Prop :=
  if x2 = (1 : Int32) then
    w_X12_tell_37 Q o0 x1 x2 s
  else
    if x2 = (2 : Int32) then
      w_X12_tell_37 Q o0 x1 x2 s
    else
      w_X12_tell_42 Q o0 x1 x2 s
def w_X12_tell (o0 : Nat) (x1 : Int32) (s : h_S) (Q : Int32 → h_S → Prop) : Prop :=
  h_k s o0 = 33 ∧ w_X12_noLink o0 x1 s (fun p3 s2 =>
    if p3 = 0 then
      h_k s2 o0 = 33 ∧ ∃ a6, (h_r s2 o0 81) = some a6 ∧ h_k s2 a6 = 1 ∧ vp_in x1 (h_n s2 a6) ∧ (if (h_i s2 a6 (h_ix x1)) = (2 : Int32) then
        w_X12_traced o0 (3 : Int32) s2 (fun s10 =>
          w_X12_tell_27 Q o0 x1 (h_i s2 a6 (h_ix x1)) s10)
      else
        w_X12_tell_27 Q o0 x1 (h_i s2 a6 (h_ix x1)) s2)
    else
      Q (-1 : Int32) s2)
def w_X12_name_47 (Q : Int32 → h_S → Prop) (y0 : Int32) (s : h_S) : Prop :=
  Q y0 s
def w_X12_name_28 (Q : Int32 → h_S → Prop) (o0 : Nat) (x1 : Int32) (y0 : Int32) (u1 : Nat) (s : h_S) : Prop :=
  h_k s u1 = 33 ∧ w_X12_traced u1 y0 s (fun s2 =>
    h_k s2 o0 = 33 ∧ ∃ a5, (h_r s2 o0 81) = some a5 ∧ h_k s2 a5 = 1 ∧ vp_in x1 (h_n s2 a5) ∧ (if (h_i s2 a5 (h_ix x1)) = (4 : Int32) then
      w_X12_name_47 Q (40 : Int32) s2
    else
      w_X12_name_47 Q x1 s2))
def w_X12_name (o0 : Nat) (x1 : Int32) (s : h_S) (Q : Int32 → h_S → Prop) : Prop :=
  h_k s o0 = 33 ∧ w_X12_noLink o0 x1 s (fun p3 s2 =>
    if p3 = 0 then
      h_k s2 o0 = 33 ∧ ∃ a6, (h_r s2 o0 81) = some a6 ∧ h_k s2 a6 = 1 ∧ vp_in x1 (h_n s2 a6) ∧ (if (h_i s2 a6 (h_ix x1)) = (4 : Int32) then
        w_X12_name_28 Q o0 x1 (7 : Int32) o0 s2
      else
        w_X12_name_28 Q o0 x1 (6 : Int32) o0 s2)
    else
      Q (-1 : Int32) s2)
def w_X12_as_94 (Q : Int32 → h_S → Prop) (y0 : Int32) (s : h_S) : Prop :=
  Q y0 s
def w_X12_as_74 (Q : Int32 → h_S → Prop) (o0 : Nat) (y0 : Int32) (s : h_S) : Prop :=
  if y0 = 0 then
    h_k s o0 = 33 ∧ w_X12_failed o0 (2 : Int32) s (fun p4 s3 =>
      w_X12_as_94 Q p4 s3)
  else
    h_k s o0 = 33 ∧ w_X12_refused o0 (1 : Int32) s (fun p7 s6 =>
      w_X12_as_94 Q p7 s6)
def w_X12_as_69 (Q : Int32 → h_S → Prop) (o0 : Nat) (s : h_S) : Prop :=
  w_X12_as_74 Q o0 (1 : Int32) s
def w_X12_as_73 (Q : Int32 → h_S → Prop) (o0 : Nat) (s : h_S) : Prop :=
  w_X12_as_74 Q o0 (0 : Int32) s
def w_X12_as_59 (Q : Int32 → h_S → Prop) (o0 : Nat) (x2 : Int32) (x3 : Int32) (s : h_S) : Prop :=
  if x2 = (3 : Int32) then
    if x3 = (4 : Int32) then
      w_X12_as_69 Q o0 s
    else
      w_X12_as_73 Q o0 s
  else
    w_X12_as_73 Q o0 s
def w_X12_as (o0 : Nat) (x1 : Int32) (x2 : Int32) (s : h_S) (Q : Int32 → h_S → Prop) : Prop :=
  h_k s o0 = 33 ∧ w_X12_noLink o0 x1 s (fun p3 s2 =>
    if p3 = 0 then
      w_X12_in ((x2).toInt64) (0 : Int64) (4 : Int64) s2 (fun p6 s5 =>
        if p6 = 0 then
          h_k s5 o0 = 33 ∧ w_X12_refused o0 (-2 : Int32) s5 (fun p18 s17 =>
            Q p18 s17)
        else
          h_k s5 o0 = 33 ∧ ∃ a9, (h_r s5 o0 81) = some a9 ∧ h_k s5 a9 = 1 ∧ vp_in x1 (h_n s5 a9) ∧ (if x2 = 0 then
            w_X12_as_69 Q o0 s5
          else
            if x2 = (h_i s5 a9 (h_ix x1)) then
              w_X12_as_69 Q o0 s5
            else
              if x2 = (1 : Int32) then
                if (h_i s5 a9 (h_ix x1)) = (2 : Int32) then
                  w_X12_as_69 Q o0 s5
                else
                  w_X12_as_59 Q o0 x2 (h_i s5 a9 (h_ix x1)) s5
              else
                w_X12_as_59 Q o0 x2 (h_i s5 a9 (h_ix x1)) s5))
    else
      h_k s2 o0 = 33 ∧ w_X12_refused o0 (-1 : Int32) s2 (fun p21 s20 =>
        Q p21 s20))
def w_X12_trace (o0 : Nat) (s : h_S) (Q : Int32 → h_S → Prop) : Prop :=
  h_k s o0 = 33 ∧ Q (h_i s o0 114) s
def w_X12_fault (o0 : Nat) (s : h_S) (Q : Int32 → h_S → Prop) : Prop :=
  h_k s o0 = 33 ∧ Q (h_i s o0 0) s
def w_X12_many (o0 : Nat) (x1 : Int32) (s : h_S) (Q : Int32 → h_S → Prop) : Prop :=
  if x1 = (0 : Int32) then
    h_k s o0 = 33 ∧ Q (h_i s o0 1) s
  else if x1 = (1 : Int32) then
    h_k s o0 = 33 ∧ Q (h_i s o0 3) s
  else if x1 = (2 : Int32) then
    h_k s o0 = 33 ∧ Q (h_i s o0 8) s
  else if x1 = (3 : Int32) then
    h_k s o0 = 33 ∧ Q (h_i s o0 22) s
  else if x1 = (4 : Int32) then
    h_k s o0 = 33 ∧ Q (h_i s o0 55) s
  else if x1 = (5 : Int32) then
    h_k s o0 = 33 ∧ Q (h_i s o0 80) s
  else if x1 = (6 : Int32) then
    h_k s o0 = 33 ∧ Q (h_i s o0 89) s
  else if x1 = (7 : Int32) then
    h_k s o0 = 33 ∧ Q (h_i s o0 74) s
  else if x1 = (8 : Int32) then
    h_k s o0 = 33 ∧ Q (h_i s o0 105) s
  else 
    Q (-2 : Int32) s
