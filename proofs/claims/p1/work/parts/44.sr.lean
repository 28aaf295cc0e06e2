/-! THE REFERENCE'S PLACE: object 320, its rows 321 to 363, its words (PRINTED by wip/whole/gensr.py) -/
def srR : Nat → Nat := fun k => match k with
  | 1 => 321
  | 2 => 322
  | 33 => 323
  | 34 => 324
  | 35 => 325
  | 36 => 326
  | 37 => 327
  | 38 => 328
  | 39 => 329
  | 40 => 330
  | 41 => 331
  | 42 => 332
  | 43 => 333
  | 44 => 334
  | 45 => 335
  | 46 => 336
  | 47 => 337
  | 48 => 338
  | 52 => 339
  | 53 => 340
  | 54 => 341
  | 56 => 342
  | 57 => 343
  | 58 => 344
  | 59 => 345
  | 60 => 346
  | 61 => 347
  | 62 => 348
  | 63 => 349
  | 64 => 350
  | 65 => 351
  | 68 => 352
  | 70 => 353
  | 71 => 354
  | 72 => 355
  | 73 => 356
  | 74 => 357
  | 75 => 358
  | 76 => 359
  | 79 => 360
  | 80 => 361
  | 81 => 362
  | 83 => 363
  | _ => 0
def srK : Nat → Nat := fun a => match a with
  | 321 => 13
  | 322 => 14
  | 323 => 14
  | 324 => 14
  | 325 => 14
  | 326 => 14
  | 327 => 14
  | 328 => 14
  | 329 => 14
  | 330 => 15
  | 331 => 14
  | 332 => 14
  | 333 => 14
  | 334 => 14
  | 335 => 14
  | 336 => 14
  | 337 => 14
  | 338 => 15
  | 339 => 13
  | 340 => 14
  | 341 => 16
  | 342 => 14
  | 343 => 15
  | 344 => 14
  | 345 => 14
  | 346 => 14
  | 347 => 14
  | 348 => 14
  | 349 => 16
  | 350 => 14
  | 351 => 14
  | 352 => 14
  | 353 => 16
  | 354 => 14
  | 355 => 15
  | 356 => 14
  | 357 => 13
  | 358 => 14
  | 359 => 14
  | 360 => 13
  | 361 => 14
  | 362 => 15
  | 363 => 13
  | _ => 12
def srZ : Nat → Nat := fun a => match a with
  | 321 => 700
  | 322 => 5
  | 323 => 3000
  | 324 => 3000
  | 325 => 3000
  | 326 => 3000
  | 327 => 3000
  | 328 => 3000
  | 329 => 3000
  | 330 => 3000
  | 331 => 3000
  | 332 => 3000
  | 333 => 3000
  | 334 => 3000
  | 335 => 3000
  | 336 => 3000
  | 337 => 3000
  | 338 => 3000
  | 339 => 352000
  | 340 => 4400
  | 341 => 4400
  | 342 => 471
  | 343 => 8
  | 344 => 4000
  | 345 => 4000
  | 346 => 4000
  | 347 => 400
  | 348 => 400
  | 349 => 400
  | 350 => 13000
  | 351 => 13000
  | 352 => 8000
  | 353 => 4000
  | 354 => 83000
  | 355 => 34000
  | 356 => 184
  | 357 => 30000
  | 358 => 400
  | 359 => 400
  | 360 => 80
  | 361 => 4668
  | 362 => 252
  | 363 => 80
  | _ => 0
def srL : Nat → Int64 := fun k => match k with
  | 13 => 1038484
  | 14 => 11312755
  | 15 => 257683
  | 16 => 918640
  | 17 => 4164
  | 18 => 286309
  | 19 => 286474
  | 20 => 1037755
  | 21 => 33798580
  | 22 => 26216
  | 23 => 1166741
  | 24 => 229
  | 25 => 11745
  | 26 => 12859
  | 27 => 1020584
  | 28 => 10620950253
  | 29 => 637945088
  | 30 => 1543120751558
  | 31 => 569
  | 32 => 20763
  | _ => 0
def SRp (K Z : Nat → Nat) (R : Nat → Option Nat) (L : Nat → Int64) : Prop := (∀ a, 320 ≤ a → a < 364 → K a = srK a) ∧ (∀ a, 321 ≤ a → a < 364 → Z a = srZ a) ∧ (∀ k, k < 84 → srR k ≠ 0 → R k = some (srR k)) ∧ (∀ k, 13 ≤ k → k < 33 → L k = srL k)
def SR (h : mxH) : Prop := SRp (hpK h) (hpZ h) (hpR h 320) (hpL h 320)
section MXSR
variable {h : mxH}
theorem sr_k (s : SR h) : hpK h 320 = 12 := s.1 320 (by decide) (by decide)
theorem sr_r1 (s : SR h) : hpR h 320 1 = some 321 := s.2.2.1 1 (by decide) (by decide)
theorem sr_k321 (s : SR h) : hpK h 321 = 13 := s.1 321 (by decide) (by decide)
theorem sr_z321 (s : SR h) : hpZ h 321 = 700 := s.2.1 321 (by decide) (by decide)
theorem sr_r2 (s : SR h) : hpR h 320 2 = some 322 := s.2.2.1 2 (by decide) (by decide)
theorem sr_k322 (s : SR h) : hpK h 322 = 14 := s.1 322 (by decide) (by decide)
theorem sr_z322 (s : SR h) : hpZ h 322 = 5 := s.2.1 322 (by decide) (by decide)
theorem sr_r33 (s : SR h) : hpR h 320 33 = some 323 := s.2.2.1 33 (by decide) (by decide)
theorem sr_k323 (s : SR h) : hpK h 323 = 14 := s.1 323 (by decide) (by decide)
theorem sr_z323 (s : SR h) : hpZ h 323 = 3000 := s.2.1 323 (by decide) (by decide)
theorem sr_r34 (s : SR h) : hpR h 320 34 = some 324 := s.2.2.1 34 (by decide) (by decide)
theorem sr_k324 (s : SR h) : hpK h 324 = 14 := s.1 324 (by decide) (by decide)
theorem sr_z324 (s : SR h) : hpZ h 324 = 3000 := s.2.1 324 (by decide) (by decide)
theorem sr_r35 (s : SR h) : hpR h 320 35 = some 325 := s.2.2.1 35 (by decide) (by decide)
theorem sr_k325 (s : SR h) : hpK h 325 = 14 := s.1 325 (by decide) (by decide)
theorem sr_z325 (s : SR h) : hpZ h 325 = 3000 := s.2.1 325 (by decide) (by decide)
theorem sr_r36 (s : SR h) : hpR h 320 36 = some 326 := s.2.2.1 36 (by decide) (by decide)
theorem sr_k326 (s : SR h) : hpK h 326 = 14 := s.1 326 (by decide) (by decide)
theorem sr_z326 (s : SR h) : hpZ h 326 = 3000 := s.2.1 326 (by decide) (by decide)
theorem sr_r37 (s : SR h) : hpR h 320 37 = some 327 := s.2.2.1 37 (by decide) (by decide)
theorem sr_k327 (s : SR h) : hpK h 327 = 14 := s.1 327 (by decide) (by decide)
theorem sr_z327 (s : SR h) : hpZ h 327 = 3000 := s.2.1 327 (by decide) (by decide)
theorem sr_r38 (s : SR h) : hpR h 320 38 = some 328 := s.2.2.1 38 (by decide) (by decide)
theorem sr_k328 (s : SR h) : hpK h 328 = 14 := s.1 328 (by decide) (by decide)
theorem sr_z328 (s : SR h) : hpZ h 328 = 3000 := s.2.1 328 (by decide) (by decide)
theorem sr_r39 (s : SR h) : hpR h 320 39 = some 329 := s.2.2.1 39 (by decide) (by decide)
theorem sr_k329 (s : SR h) : hpK h 329 = 14 := s.1 329 (by decide) (by decide)
theorem sr_z329 (s : SR h) : hpZ h 329 = 3000 := s.2.1 329 (by decide) (by decide)
theorem sr_r40 (s : SR h) : hpR h 320 40 = some 330 := s.2.2.1 40 (by decide) (by decide)
theorem sr_k330 (s : SR h) : hpK h 330 = 15 := s.1 330 (by decide) (by decide)
theorem sr_z330 (s : SR h) : hpZ h 330 = 3000 := s.2.1 330 (by decide) (by decide)
theorem sr_r41 (s : SR h) : hpR h 320 41 = some 331 := s.2.2.1 41 (by decide) (by decide)
theorem sr_k331 (s : SR h) : hpK h 331 = 14 := s.1 331 (by decide) (by decide)
theorem sr_z331 (s : SR h) : hpZ h 331 = 3000 := s.2.1 331 (by decide) (by decide)
theorem sr_r42 (s : SR h) : hpR h 320 42 = some 332 := s.2.2.1 42 (by decide) (by decide)
theorem sr_k332 (s : SR h) : hpK h 332 = 14 := s.1 332 (by decide) (by decide)
theorem sr_z332 (s : SR h) : hpZ h 332 = 3000 := s.2.1 332 (by decide) (by decide)
theorem sr_r43 (s : SR h) : hpR h 320 43 = some 333 := s.2.2.1 43 (by decide) (by decide)
theorem sr_k333 (s : SR h) : hpK h 333 = 14 := s.1 333 (by decide) (by decide)
theorem sr_z333 (s : SR h) : hpZ h 333 = 3000 := s.2.1 333 (by decide) (by decide)
theorem sr_r44 (s : SR h) : hpR h 320 44 = some 334 := s.2.2.1 44 (by decide) (by decide)
theorem sr_k334 (s : SR h) : hpK h 334 = 14 := s.1 334 (by decide) (by decide)
theorem sr_z334 (s : SR h) : hpZ h 334 = 3000 := s.2.1 334 (by decide) (by decide)
theorem sr_r45 (s : SR h) : hpR h 320 45 = some 335 := s.2.2.1 45 (by decide) (by decide)
theorem sr_k335 (s : SR h) : hpK h 335 = 14 := s.1 335 (by decide) (by decide)
theorem sr_z335 (s : SR h) : hpZ h 335 = 3000 := s.2.1 335 (by decide) (by decide)
theorem sr_r46 (s : SR h) : hpR h 320 46 = some 336 := s.2.2.1 46 (by decide) (by decide)
theorem sr_k336 (s : SR h) : hpK h 336 = 14 := s.1 336 (by decide) (by decide)
theorem sr_z336 (s : SR h) : hpZ h 336 = 3000 := s.2.1 336 (by decide) (by decide)
theorem sr_r47 (s : SR h) : hpR h 320 47 = some 337 := s.2.2.1 47 (by decide) (by decide)
theorem sr_k337 (s : SR h) : hpK h 337 = 14 := s.1 337 (by decide) (by decide)
theorem sr_z337 (s : SR h) : hpZ h 337 = 3000 := s.2.1 337 (by decide) (by decide)
theorem sr_r48 (s : SR h) : hpR h 320 48 = some 338 := s.2.2.1 48 (by decide) (by decide)
theorem sr_k338 (s : SR h) : hpK h 338 = 15 := s.1 338 (by decide) (by decide)
theorem sr_z338 (s : SR h) : hpZ h 338 = 3000 := s.2.1 338 (by decide) (by decide)
theorem sr_r52 (s : SR h) : hpR h 320 52 = some 339 := s.2.2.1 52 (by decide) (by decide)
theorem sr_k339 (s : SR h) : hpK h 339 = 13 := s.1 339 (by decide) (by decide)
theorem sr_z339 (s : SR h) : hpZ h 339 = 352000 := s.2.1 339 (by decide) (by decide)
theorem sr_r53 (s : SR h) : hpR h 320 53 = some 340 := s.2.2.1 53 (by decide) (by decide)
theorem sr_k340 (s : SR h) : hpK h 340 = 14 := s.1 340 (by decide) (by decide)
theorem sr_z340 (s : SR h) : hpZ h 340 = 4400 := s.2.1 340 (by decide) (by decide)
theorem sr_r54 (s : SR h) : hpR h 320 54 = some 341 := s.2.2.1 54 (by decide) (by decide)
theorem sr_k341 (s : SR h) : hpK h 341 = 16 := s.1 341 (by decide) (by decide)
theorem sr_z341 (s : SR h) : hpZ h 341 = 4400 := s.2.1 341 (by decide) (by decide)
theorem sr_r56 (s : SR h) : hpR h 320 56 = some 342 := s.2.2.1 56 (by decide) (by decide)
theorem sr_k342 (s : SR h) : hpK h 342 = 14 := s.1 342 (by decide) (by decide)
theorem sr_z342 (s : SR h) : hpZ h 342 = 471 := s.2.1 342 (by decide) (by decide)
theorem sr_r57 (s : SR h) : hpR h 320 57 = some 343 := s.2.2.1 57 (by decide) (by decide)
theorem sr_k343 (s : SR h) : hpK h 343 = 15 := s.1 343 (by decide) (by decide)
theorem sr_z343 (s : SR h) : hpZ h 343 = 8 := s.2.1 343 (by decide) (by decide)
theorem sr_r58 (s : SR h) : hpR h 320 58 = some 344 := s.2.2.1 58 (by decide) (by decide)
theorem sr_k344 (s : SR h) : hpK h 344 = 14 := s.1 344 (by decide) (by decide)
theorem sr_z344 (s : SR h) : hpZ h 344 = 4000 := s.2.1 344 (by decide) (by decide)
theorem sr_r59 (s : SR h) : hpR h 320 59 = some 345 := s.2.2.1 59 (by decide) (by decide)
theorem sr_k345 (s : SR h) : hpK h 345 = 14 := s.1 345 (by decide) (by decide)
theorem sr_z345 (s : SR h) : hpZ h 345 = 4000 := s.2.1 345 (by decide) (by decide)
theorem sr_r60 (s : SR h) : hpR h 320 60 = some 346 := s.2.2.1 60 (by decide) (by decide)
theorem sr_k346 (s : SR h) : hpK h 346 = 14 := s.1 346 (by decide) (by decide)
theorem sr_z346 (s : SR h) : hpZ h 346 = 4000 := s.2.1 346 (by decide) (by decide)
theorem sr_r61 (s : SR h) : hpR h 320 61 = some 347 := s.2.2.1 61 (by decide) (by decide)
theorem sr_k347 (s : SR h) : hpK h 347 = 14 := s.1 347 (by decide) (by decide)
theorem sr_z347 (s : SR h) : hpZ h 347 = 400 := s.2.1 347 (by decide) (by decide)
theorem sr_r62 (s : SR h) : hpR h 320 62 = some 348 := s.2.2.1 62 (by decide) (by decide)
theorem sr_k348 (s : SR h) : hpK h 348 = 14 := s.1 348 (by decide) (by decide)
theorem sr_z348 (s : SR h) : hpZ h 348 = 400 := s.2.1 348 (by decide) (by decide)
theorem sr_r63 (s : SR h) : hpR h 320 63 = some 349 := s.2.2.1 63 (by decide) (by decide)
theorem sr_k349 (s : SR h) : hpK h 349 = 16 := s.1 349 (by decide) (by decide)
theorem sr_z349 (s : SR h) : hpZ h 349 = 400 := s.2.1 349 (by decide) (by decide)
theorem sr_r64 (s : SR h) : hpR h 320 64 = some 350 := s.2.2.1 64 (by decide) (by decide)
theorem sr_k350 (s : SR h) : hpK h 350 = 14 := s.1 350 (by decide) (by decide)
theorem sr_z350 (s : SR h) : hpZ h 350 = 13000 := s.2.1 350 (by decide) (by decide)
theorem sr_r65 (s : SR h) : hpR h 320 65 = some 351 := s.2.2.1 65 (by decide) (by decide)
theorem sr_k351 (s : SR h) : hpK h 351 = 14 := s.1 351 (by decide) (by decide)
theorem sr_z351 (s : SR h) : hpZ h 351 = 13000 := s.2.1 351 (by decide) (by decide)
theorem sr_r68 (s : SR h) : hpR h 320 68 = some 352 := s.2.2.1 68 (by decide) (by decide)
theorem sr_k352 (s : SR h) : hpK h 352 = 14 := s.1 352 (by decide) (by decide)
theorem sr_z352 (s : SR h) : hpZ h 352 = 8000 := s.2.1 352 (by decide) (by decide)
theorem sr_r70 (s : SR h) : hpR h 320 70 = some 353 := s.2.2.1 70 (by decide) (by decide)
theorem sr_k353 (s : SR h) : hpK h 353 = 16 := s.1 353 (by decide) (by decide)
theorem sr_z353 (s : SR h) : hpZ h 353 = 4000 := s.2.1 353 (by decide) (by decide)
theorem sr_r71 (s : SR h) : hpR h 320 71 = some 354 := s.2.2.1 71 (by decide) (by decide)
theorem sr_k354 (s : SR h) : hpK h 354 = 14 := s.1 354 (by decide) (by decide)
theorem sr_z354 (s : SR h) : hpZ h 354 = 83000 := s.2.1 354 (by decide) (by decide)
theorem sr_r72 (s : SR h) : hpR h 320 72 = some 355 := s.2.2.1 72 (by decide) (by decide)
theorem sr_k355 (s : SR h) : hpK h 355 = 15 := s.1 355 (by decide) (by decide)
theorem sr_z355 (s : SR h) : hpZ h 355 = 34000 := s.2.1 355 (by decide) (by decide)
theorem sr_r73 (s : SR h) : hpR h 320 73 = some 356 := s.2.2.1 73 (by decide) (by decide)
theorem sr_k356 (s : SR h) : hpK h 356 = 14 := s.1 356 (by decide) (by decide)
theorem sr_z356 (s : SR h) : hpZ h 356 = 184 := s.2.1 356 (by decide) (by decide)
theorem sr_r74 (s : SR h) : hpR h 320 74 = some 357 := s.2.2.1 74 (by decide) (by decide)
theorem sr_k357 (s : SR h) : hpK h 357 = 13 := s.1 357 (by decide) (by decide)
theorem sr_z357 (s : SR h) : hpZ h 357 = 30000 := s.2.1 357 (by decide) (by decide)
theorem sr_r75 (s : SR h) : hpR h 320 75 = some 358 := s.2.2.1 75 (by decide) (by decide)
theorem sr_k358 (s : SR h) : hpK h 358 = 14 := s.1 358 (by decide) (by decide)
theorem sr_z358 (s : SR h) : hpZ h 358 = 400 := s.2.1 358 (by decide) (by decide)
theorem sr_r76 (s : SR h) : hpR h 320 76 = some 359 := s.2.2.1 76 (by decide) (by decide)
theorem sr_k359 (s : SR h) : hpK h 359 = 14 := s.1 359 (by decide) (by decide)
theorem sr_z359 (s : SR h) : hpZ h 359 = 400 := s.2.1 359 (by decide) (by decide)
theorem sr_r79 (s : SR h) : hpR h 320 79 = some 360 := s.2.2.1 79 (by decide) (by decide)
theorem sr_k360 (s : SR h) : hpK h 360 = 13 := s.1 360 (by decide) (by decide)
theorem sr_z360 (s : SR h) : hpZ h 360 = 80 := s.2.1 360 (by decide) (by decide)
theorem sr_r80 (s : SR h) : hpR h 320 80 = some 361 := s.2.2.1 80 (by decide) (by decide)
theorem sr_k361 (s : SR h) : hpK h 361 = 14 := s.1 361 (by decide) (by decide)
theorem sr_z361 (s : SR h) : hpZ h 361 = 4668 := s.2.1 361 (by decide) (by decide)
theorem sr_r81 (s : SR h) : hpR h 320 81 = some 362 := s.2.2.1 81 (by decide) (by decide)
theorem sr_k362 (s : SR h) : hpK h 362 = 15 := s.1 362 (by decide) (by decide)
theorem sr_z362 (s : SR h) : hpZ h 362 = 252 := s.2.1 362 (by decide) (by decide)
theorem sr_r83 (s : SR h) : hpR h 320 83 = some 363 := s.2.2.1 83 (by decide) (by decide)
theorem sr_k363 (s : SR h) : hpK h 363 = 13 := s.1 363 (by decide) (by decide)
theorem sr_z363 (s : SR h) : hpZ h 363 = 80 := s.2.1 363 (by decide) (by decide)
theorem sr_l13 (s : SR h) : hpL h 320 13 = 1038484 := s.2.2.2 13 (by decide) (by decide)
theorem sr_l14 (s : SR h) : hpL h 320 14 = 11312755 := s.2.2.2 14 (by decide) (by decide)
theorem sr_l15 (s : SR h) : hpL h 320 15 = 257683 := s.2.2.2 15 (by decide) (by decide)
theorem sr_l16 (s : SR h) : hpL h 320 16 = 918640 := s.2.2.2 16 (by decide) (by decide)
theorem sr_l17 (s : SR h) : hpL h 320 17 = 4164 := s.2.2.2 17 (by decide) (by decide)
theorem sr_l18 (s : SR h) : hpL h 320 18 = 286309 := s.2.2.2 18 (by decide) (by decide)
theorem sr_l19 (s : SR h) : hpL h 320 19 = 286474 := s.2.2.2 19 (by decide) (by decide)
theorem sr_l20 (s : SR h) : hpL h 320 20 = 1037755 := s.2.2.2 20 (by decide) (by decide)
theorem sr_l21 (s : SR h) : hpL h 320 21 = 33798580 := s.2.2.2 21 (by decide) (by decide)
theorem sr_l22 (s : SR h) : hpL h 320 22 = 26216 := s.2.2.2 22 (by decide) (by decide)
theorem sr_l23 (s : SR h) : hpL h 320 23 = 1166741 := s.2.2.2 23 (by decide) (by decide)
theorem sr_l24 (s : SR h) : hpL h 320 24 = 229 := s.2.2.2 24 (by decide) (by decide)
theorem sr_l25 (s : SR h) : hpL h 320 25 = 11745 := s.2.2.2 25 (by decide) (by decide)
theorem sr_l26 (s : SR h) : hpL h 320 26 = 12859 := s.2.2.2 26 (by decide) (by decide)
theorem sr_l27 (s : SR h) : hpL h 320 27 = 1020584 := s.2.2.2 27 (by decide) (by decide)
theorem sr_l28 (s : SR h) : hpL h 320 28 = 10620950253 := s.2.2.2 28 (by decide) (by decide)
theorem sr_l29 (s : SR h) : hpL h 320 29 = 637945088 := s.2.2.2 29 (by decide) (by decide)
theorem sr_l30 (s : SR h) : hpL h 320 30 = 1543120751558 := s.2.2.2 30 (by decide) (by decide)
theorem sr_l31 (s : SR h) : hpL h 320 31 = 569 := s.2.2.2 31 (by decide) (by decide)
theorem sr_l32 (s : SR h) : hpL h 320 32 = 20763 := s.2.2.2 32 (by decide) (by decide)
theorem SR.sI {a k : Nat} {v : Int32} (s : SR h) : SR (hsI h a k v) := s
theorem hpL_sLr {a k b : Nat} {v : Int64} (hb : b ≠ a) : hpL (hsL h a k v) b = hpL h b := by show hpL (hrL h a _) b = _; rw [hpL_rL, if_neg hb]
theorem SR.sL {a k : Nat} {v : Int64} (s : SR h) (ha : 320 ≠ a) : SR (hsL h a k v) := by
  show SRp (hpK h) (hpZ h) (hpR h 320) (hpL (hsL h a k v) 320)
  rw [hpL_sLr ha]; exact s
end MXSR
/-! ARITHMETIC: rows for simp, that turn machine ints into numbers -/
theorem nI_lit (n : Nat) : (OfNat.ofNat n : Int32) = nI n := rfl
theorem vpT {n N : Nat} (h : n < N) (hN : N < 2 ^ 31) : vp_in (nI n) N ↔ True := iff_true_intro (vp_in_nI h hN)
theorem nI_neg1 {n : Nat} (h : n < 2 ^ 31) : (nI n = (-1 : Int32)) ↔ False := by
  refine ⟨fun e => ?_, False.elim⟩
  have := congrArg Int32.toInt e
  rw [nI_toInt h] at this
  have e2 : ((-1 : Int32)).toInt = -1 := rfl
  rw [e2] at this
  omega
theorem cl0 : (0 : Int32).toNatClampNeg = 0 := rfl
theorem mx_xKI2 {Y : mxY} {d : Nat} {As : List Value} {h h' : mxH} {v : Int32} (k : mx_SM Y d As h (mx_xct (.inl (some (.int v))) h')) {P : Int32 → mxH → Prop} {X : String → mxH → Prop} (hp : P v h') : mx_SM Y d As h (mx_KI P X) := mx_xKI (r := .inl none) k hp
theorem mx_xKL2 {Y : mxY} {d : Nat} {As : List Value} {h h' : mxH} {v : Int64} (k : mx_SM Y d As h (mx_xct (.inl (some (.long v))) h')) {P : Int64 → mxH → Prop} {X : String → mxH → Prop} (hp : P v h') : mx_SM Y d As h (mx_KL P X) := mx_xKL (r := .inl none) k hp
