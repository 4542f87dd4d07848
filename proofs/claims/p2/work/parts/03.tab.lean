noncomputable def ev_o0 {α : Type} (cf : Nat → List Value → ev_W → Option ev_R) (fin : Option Value → ev_W → Nat → Option α) : List (List (ev_O α)) := [[ev_ild 1 0, ev_ild 2 1, ev_cmp 5 9 (fun x y => Nat.blt (ev_sg x) (ev_sg y)), ev_no, ev_no, ev_ild 6 0, ev_jmp 10, ev_no, ev_no, ev_ild 10 1, ev_rti fin]]
noncomputable def ev_o1 {α : Type} (cf : Nat → List Value → ev_W → Option ev_R) (fin : Option Value → ev_W → Nat → Option α) : List (List (ev_O α)) := [[ev_ald 1 0, ev_get 4 3 3, ev_no, ev_no, ev_get 7 4 0, ev_no, ev_no, ev_ald 8 0, ev_get 11 3 2, ev_no, ev_no, ev_cmp 14 22 (fun x y => Nat.beq (ev_bits x) (ev_bits y)), ev_no, ev_no, ev_no, ev_no],
  [ev_no, ev_dup 18, ev_no, ev_no, ev_no, ev_no, ev_rtv fin]]
noncomputable def ev_o2 {α : Type} (cf : Nat → List Value → ev_W → Option ev_R) (fin : Option Value → ev_W → Nat → Option α) : List (List (ev_O α)) := [[ev_ald 1 0, ev_get 4 3 0, ev_no, ev_no, ev_ald 5 0, ev_get 8 3 3, ev_no, ev_no, ev_get 11 4 2, ev_no, ev_no, ev_cmp 14 18 (fun x y => Nat.beq (ev_bits x) (ev_bits y)), ev_no, ev_no, ev_psh 15 (.int (Int32.ofInt 1)), ev_jmp 19],
  [ev_no, ev_no, ev_psh 19 (.int (Int32.ofInt 0)), ev_rtz fin]]
noncomputable def ev_o3 {α : Type} (cf : Nat → List Value → ev_W → Option ev_R) (fin : Option Value → ev_W → Nat → Option α) : List (List (ev_O α)) := [[ev_ald 1 0, ev_ald 2 1, ev_ptf 5 3 3 1, ev_no, ev_no, ev_ald 6 0, ev_obj 9, ev_no, ev_no, ev_ald 10 0, ev_psh 11 (.int (Int32.ofInt (-1))), ev_ptf 14 3 1 0, ev_no, ev_no, ev_ald 15 0, ev_ald 16 0],
  [ev_get 19 3 3, ev_no, ev_no, ev_get 22 4 0, ev_no, ev_no, ev_ptf 25 3 2 0, ev_no, ev_no, ev_rtv fin]]
noncomputable def ev_o4 {α : Type} (cf : Nat → List Value → ev_W → Option ev_R) (fin : Option Value → ev_W → Nat → Option α) : List (List (ev_O α)) := [[ev_ald 1 0, ev_inr cf 4 1 1 3, ev_no, ev_no, ev_ald 5 0, ev_get 8 3 0, ev_no, ev_no, ev_ist 9 1, ev_ild 10 1, ev_ald 11 0, ev_get 14 3 3, ev_no, ev_no, ev_get 17 4 2, ev_no],
  [ev_no, ev_cmp 20 28 (fun x y => Nat.blt (ev_sg x) (ev_sg y)), ev_no, ev_no, ev_no, ev_no, ev_no, ev_dup 24, ev_no, ev_no, ev_no, ev_no, ev_ald 29 0, ev_get 32 3 3, ev_no, ev_no],
  [ev_get 35 4 1, ev_no, ev_no, ev_ast 36 2, ev_ild 37 1, ev_ald 38 2, ev_aln 39, ev_cmp 42 50 (fun x y => Nat.blt (ev_sg x) (ev_sg y)), ev_no, ev_no, ev_no, ev_no, ev_no, ev_dup 46, ev_no, ev_no],
  [ev_no, ev_no, ev_ald 51 0, ev_ild 52 1, ev_psh 53 (.int (Int32.ofInt 1)), ev_bin 54 (fun x y => x + y), ev_ptf 57 3 0 0, ev_no, ev_no, ev_ald 58 2, ev_ald 59 0, ev_ild 60 1, ev_dx1 61, ev_ptf 64 3 1 0, ev_no, ev_no],
  [ev_ldq 65, ev_rta fin]]
noncomputable def ev_o5 {α : Type} (cf : Nat → List Value → ev_W → Option ev_R) (fin : Option Value → ev_W → Nat → Option α) : List (List (ev_O α)) := [[ev_ild 1 3, ev_ald 2 2, ev_aln 3, ev_cmp 6 11 (fun x y => !Nat.beq (ev_bits x) (ev_bits y)), ev_no, ev_no, ev_ald 7 0, ev_inr cf 10 9 1 4, ev_no, ev_no, ev_ast 11 2, ev_ald 12 2, ev_ild 13 3, ev_ald 14 1, ev_stq 15 20, ev_ald 16 0],
  [ev_ild 17 3, ev_psh 18 (.int (Int32.ofInt 1)), ev_bin 19 (fun x y => x + y), ev_ptf 22 4 2 0, ev_no, ev_no, ev_rtv fin]]
noncomputable def ev_o6 {α : Type} (cf : Nat → List Value → ev_W → Option ev_R) (fin : Option Value → ev_W → Nat → Option α) : List (List (ev_O α)) := [[ev_ald 1 0, ev_dup 2, ev_get 5 4 0, ev_no, ev_no, ev_psh 6 (.int (Int32.ofInt 1)), ev_bin 7 (fun x y => x + y), ev_ptf 10 4 0 0, ev_no, ev_no, ev_ald 11 0, ev_ald 12 1, ev_ald 13 0, ev_get 16 4 1, ev_no, ev_no],
  [ev_ald 17 0, ev_get 20 4 2, ev_no, ev_no, ev_inr cf 23 5 4 4, ev_no, ev_no, ev_psh 24 (.int (Int32.ofInt 1)), ev_rtz fin]]
noncomputable def ev_o7 {α : Type} (cf : Nat → List Value → ev_W → Option ev_R) (fin : Option Value → ev_W → Nat → Option α) : List (List (ev_O α)) := [[ev_ald 1 0, ev_dup 2, ev_get 5 4 0, ev_no, ev_no, ev_psh 6 (.int (Int32.ofInt 1)), ev_bin 7 (fun x y => x + y), ev_ptf 10 4 0 0, ev_no, ev_no, ev_ald 11 0, ev_get 14 4 1, ev_no, ev_no, ev_ast 15 1, ev_ald 16 0],
  [ev_get 19 4 2, ev_no, ev_no, ev_ist 20 2, ev_ald 21 0, ev_psh 22 (.int (Int32.ofInt 0)), ev_dx1 23, ev_ptf 26 4 2 0, ev_no, ev_no, ev_ist 27 3, ev_ild 28 3, ev_ild 29 2, ev_cmp 32 42 (fun x y => Nat.ble (ev_sg y) (ev_sg x)), ev_no, ev_no],
  [ev_ald 33 1, ev_ild 34 3, ev_psh 35 .null, ev_stq 36 20, ev_inc 39 3 (Int32.ofInt 1), ev_no, ev_no, ev_jmp 27, ev_no, ev_no, ev_rtv fin]]
noncomputable def ev_o8 {α : Type} (cf : Nat → List Value → ev_W → Option ev_R) (fin : Option Value → ev_W → Nat → Option α) : List (List (ev_O α)) := [[ev_ald 1 0, ev_get 4 4 1, ev_no, ev_no, ev_aln 5, ev_ist 6 2, ev_ild 7 2, ev_cm0 10 20 (fun x => Nat.blt (ev_sg 0) (ev_sg x)), ev_no, ev_no, ev_ald 11 0, ev_get 14 4 1, ev_no, ev_no, ev_gst 17 1, ev_no],
  [ev_no, ev_acm 45 20, ev_no, ev_no, ev_ild 21 2, ev_ild 22 1, ev_ild 23 2, ev_bin 24 (fun x y => x - y), ev_ild 25 2, ev_psh 26 (.int (Int32.ofInt 1)), ev_bin 27 (fun x y => x >>> (y &&& 31)), ev_no, ev_no, ev_no, ev_ist 31 3, ev_ald 32 0],
  [ev_ald 33 0, ev_get 36 4 1, ev_no, ev_no, ev_ild 37 3, ev_no, ev_no, ev_no, ev_dx1 41, ev_ptf 44 4 1 1, ev_no, ev_no, ev_rta fin, ev_ald 46 0, ev_psh 48 (.int (Int8.ofInt 10).toInt32), ev_no],
  [ev_ild 49 1, ev_inv cf 52 0 2, ev_no, ev_no, ev_nwa 55 2 .null, ev_no, ev_no, ev_dx1 56, ev_ptf 59 4 1 1, ev_no, ev_no, ev_rta fin]]
noncomputable def ev_o9 {α : Type} (cf : Nat → List Value → ev_W → Option ev_R) (fin : Option Value → ev_W → Nat → Option α) : List (List (ev_O α)) := [[ev_ald 1 0, ev_ald 2 0, ev_get 5 4 2, ev_no, ev_no, ev_psh 6 (.int (Int32.ofInt 1)), ev_bin 7 (fun x y => x + y), ev_inr cf 10 8 2 4, ev_no, ev_no, ev_rta fin]]
noncomputable def ev_o10 {α : Type} (cf : Nat → List Value → ev_W → Option ev_R) (fin : Option Value → ev_W → Nat → Option α) : List (List (ev_O α)) := [[ev_ald 1 0, ev_ini cf 4 14 1, ev_no, ev_no, ev_ald 5 0, ev_gst 8 1, ev_no, ev_no, ev_ptf 11 4 1 1, ev_no, ev_no, ev_rtv fin]]
noncomputable def ev_o11 {α : Type} (cf : Nat → List Value → ev_W → Option ev_R) (fin : Option Value → ev_W → Nat → Option α) : List (List (ev_O α)) := [[ev_new 3 3 4 [.int 0, .int 0, .int 0, .null], ev_no, ev_no, ev_dup 4, ev_ald 5 0, ev_ini cf 8 3 2, ev_no, ev_no, ev_rta fin]]
noncomputable def ev_o12 {α : Type} (cf : Nat → List Value → ev_W → Option ev_R) (fin : Option Value → ev_W → Nat → Option α) : List (List (ev_O α)) := [[ev_ald 1 0, ev_get 4 4 2, ev_no, ev_no, ev_rti fin]]
noncomputable def ev_o13 {α : Type} (cf : Nat → List Value → ev_W → Option ev_R) (fin : Option Value → ev_W → Nat → Option α) : List (List (ev_O α)) := [[ev_ald 1 0, ev_obj 4, ev_no, ev_no, ev_rtv fin]]
noncomputable def ev_o14 {α : Type} (cf : Nat → List Value → ev_W → Option ev_R) (fin : Option Value → ev_W → Nat → Option α) : List (List (ev_O α)) := [[ev_ald 1 0, ev_ini cf 4 13 1, ev_no, ev_no, ev_ald 5 0, ev_psh 6 (.int (Int32.ofInt 0)), ev_ptf 9 4 0 0, ev_no, ev_no, ev_rtv fin]]
noncomputable def ev_o15 {α : Type} (cf : Nat → List Value → ev_W → Option ev_R) (fin : Option Value → ev_W → Nat → Option α) : List (List (ev_O α)) := [[ev_ald 1 1, ev_ald 2 0, ev_inr cf 5 26 1 15, ev_no, ev_no, ev_i2l 6, ev_ptf 9 16 0 3, ev_no, ev_no, ev_jmp 15, ev_no, ev_no, ev_ast 13 2, ev_psh 14 (.int (Int32.ofInt 1)), ev_rti fin, ev_psh 16 (.int (Int32.ofInt 0))],
  [ev_rti fin]]
noncomputable def ev_o16 {α : Type} (cf : Nat → List Value → ev_W → Option ev_R) (fin : Option Value → ev_W → Nat → Option α) : List (List (ev_O α)) := [[ev_new 3 15 16 [.null, .null, .null, .null, .null, .null, .null, .null, .null, .null, .null, .null, .int 0, .int 0, .int 0, .int 0], ev_no, ev_no, ev_dup 4, ev_ini cf 7 29 1, ev_no, ev_no, ev_ast 8 1, ev_new 11 18 12 [.int 0, .null, .int 0, .null, .null, .null, .null, .int 0, .int 0, .null, .null, .long 0], ev_no, ev_no, ev_dup 12, ev_ini cf 15 45 1, ev_no, ev_no, ev_ast 16 2],
  [ev_new 19 16 2 [.long 0, .null], ev_no, ev_no, ev_dup 20, ev_ini cf 23 36 1, ev_no, ev_no, ev_ast 24 3, ev_psh 25 (.int (Int32.ofInt 0)), ev_ist 27 4, ev_no, ev_ild 29 4, ev_no, ev_ald 30 0, ev_aln 31, ev_psh 32 (.int (Int32.ofInt 4))],
  [ev_bin 33 (fun x y => x - y), ev_cmp 36 903 (fun x y => Nat.blt (ev_sg y) (ev_sg x)), ev_no, ev_no, ev_ald 37 0, ev_ild 39 4, ev_no, ev_ldi 40 0, ev_psh 42 (.int (Int8.ofInt 31).toInt32), ev_no, ev_bin 43 (fun x y => x &&& y), ev_tsw [160, 229, 257, 270, 286, 326, 339, 395, 447, 463, 491, 519, 532, 572, 612, 640, 653, 681, 709, 722, 774, 802, 830, 843, 871, 884], ev_no, ev_no, ev_no, ev_no],
  [ev_no, ev_no, ev_no, ev_no, ev_no, ev_no, ev_no, ev_no, ev_no, ev_no, ev_no, ev_no, ev_no, ev_no, ev_no, ev_no],
  [ev_no, ev_no, ev_no, ev_no, ev_no, ev_no, ev_no, ev_no, ev_no, ev_no, ev_no, ev_no, ev_no, ev_no, ev_no, ev_no],
  [ev_no, ev_no, ev_no, ev_no, ev_no, ev_no, ev_no, ev_no, ev_no, ev_no, ev_no, ev_no, ev_no, ev_no, ev_no, ev_no],
  [ev_no, ev_no, ev_no, ev_no, ev_no, ev_no, ev_no, ev_no, ev_no, ev_no, ev_no, ev_no, ev_no, ev_no, ev_no, ev_no],
  [ev_no, ev_no, ev_no, ev_no, ev_no, ev_no, ev_no, ev_no, ev_no, ev_no, ev_no, ev_no, ev_no, ev_no, ev_no, ev_no],
  [ev_no, ev_no, ev_no, ev_no, ev_no, ev_no, ev_no, ev_no, ev_no, ev_no, ev_no, ev_no, ev_no, ev_no, ev_no, ev_no],
  [ev_no, ev_no, ev_no, ev_no, ev_no, ev_no, ev_no, ev_no, ev_no, ev_no, ev_no, ev_no, ev_no, ev_no, ev_no, ev_no],
  [ev_ald 161 1, ev_ald 162 0, ev_ild 164 4, ev_no, ev_psh 165 (.int (Int32.ofInt 1)), ev_bin 166 (fun x y => x + y), ev_ldi 167 0, ev_ald 168 0, ev_ild 170 4, ev_no, ev_psh 171 (.int (Int32.ofInt 2)), ev_bin 172 (fun x y => x + y), ev_ldi 173 0, ev_ald 174 3, ev_inv cf 177 17 4, ev_no],
  [ev_no, ev_ist 179 5, ev_no, ev_ald 180 2, ev_ald 181 0, ev_ild 183 4, ev_no, ev_psh 184 (.int (Int32.ofInt 1)), ev_bin 185 (fun x y => x + y), ev_ldi 186 0, ev_ald 187 0, ev_ild 189 4, ev_no, ev_psh 190 (.int (Int32.ofInt 2)), ev_bin 191 (fun x y => x + y), ev_ldi 192 0],
  [ev_inr cf 195 51 3 18, ev_no, ev_no, ev_ist 197 6, ev_no, ev_ald 198 2, ev_inr cf 201 52 1 18, ev_no, ev_no, ev_ild 203 5, ev_no, ev_cmp 206 208 (fun x y => Nat.beq (ev_bits x) (ev_bits y)), ev_no, ev_no, ev_psh 207 (.int (Int32.ofInt 0)), ev_rtz fin],
  [ev_ild 210 5, ev_no, ev_cm0 213 226 (fun x => !Nat.beq (ev_bits x) (ev_bits 0)), ev_no, ev_no, ev_ald 214 3, ev_get 217 16 0, ev_no, ev_no, ev_ild 219 6, ev_no, ev_i2l 220, ev_lcm 221, ev_cm0 224 226 (fun x => Nat.beq (ev_bits x) (ev_bits 0)), ev_no, ev_no],
  [ev_psh 225 (.int (Int32.ofInt 0)), ev_rtz fin, ev_jmp 897, ev_no, ev_no, ev_ald 230 1, ev_ald 231 0, ev_ild 233 4, ev_no, ev_psh 234 (.int (Int32.ofInt 1)), ev_bin 235 (fun x y => x + y), ev_ldi 236 0, ev_ald 237 3, ev_inv cf 240 18 3, ev_no, ev_no],
  [ev_ist 242 5, ev_no, ev_ald 243 2, ev_ald 244 0, ev_ild 246 4, ev_no, ev_psh 247 (.int (Int32.ofInt 1)), ev_bin 248 (fun x y => x + y), ev_ldi 249 0, ev_inr cf 252 54 2 18, ev_no, ev_no, ev_ist 254 6, ev_no, ev_jmp 897, ev_no],
  [ev_no, ev_ald 258 1, ev_no, ev_no, ev_no, ev_drop 262, ev_ald 263 2, ev_no, ev_no, ev_no, ev_drop 267, ev_jmp 897, ev_no, ev_no, ev_ald 271 1, ev_ald 272 3],
  [ev_inv cf 275 15 2, ev_no, ev_no, ev_ist 277 5, ev_no, ev_ald 278 2, ev_inr cf 281 41 1 18, ev_no, ev_no, ev_ist 283 6, ev_no, ev_jmp 897, ev_no, ev_no, ev_ald 287 1, ev_ald 288 0],
  [ev_ild 290 4, ev_no, ev_psh 291 (.int (Int32.ofInt 1)), ev_bin 292 (fun x y => x + y), ev_ldi 293 0, ev_ald 294 0, ev_ild 296 4, ev_no, ev_psh 297 (.int (Int32.ofInt 2)), ev_bin 298 (fun x y => x + y), ev_ldi 299 0, ev_ald 300 3, ev_no, ev_no, ev_no, ev_ist 305 5],
  [ev_no, ev_ald 306 2, ev_ald 307 0, ev_ild 309 4, ev_no, ev_psh 310 (.int (Int32.ofInt 1)), ev_bin 311 (fun x y => x + y), ev_ldi 312 0, ev_ald 313 0, ev_ild 315 4, ev_no, ev_psh 316 (.int (Int32.ofInt 2)), ev_bin 317 (fun x y => x + y), ev_ldi 318 0, ev_no, ev_no],
  [ev_no, ev_ist 323 6, ev_no, ev_jmp 897, ev_no, ev_no, ev_ald 327 1, ev_no, ev_no, ev_no, ev_drop 331, ev_ald 332 2, ev_no, ev_no, ev_no, ev_drop 336],
  [ev_jmp 897, ev_no, ev_no, ev_ald 340 1, ev_ald 341 0, ev_ild 343 4, ev_no, ev_psh 344 (.int (Int32.ofInt 1)), ev_bin 345 (fun x y => x + y), ev_ldi 346 0, ev_ald 347 0, ev_ild 349 4, ev_no, ev_psh 350 (.int (Int32.ofInt 2)), ev_bin 351 (fun x y => x + y), ev_ldi 352 0],
  [ev_cm0 355 359 (fun x => Nat.beq (ev_bits x) (ev_bits 0)), ev_no, ev_no, ev_psh 356 (.int (Int32.ofInt 1)), ev_jmp 360, ev_no, ev_no, ev_psh 360 (.int (Int32.ofInt 0)), ev_ald 361 3, ev_no, ev_no, ev_no, ev_ist 366 5, ev_no, ev_ald 367 2, ev_ald 368 0],
  [ev_ild 370 4, ev_no, ev_psh 371 (.int (Int32.ofInt 1)), ev_bin 372 (fun x y => x + y), ev_ldi 373 0, ev_ald 374 0, ev_ild 376 4, ev_no, ev_psh 377 (.int (Int32.ofInt 2)), ev_bin 378 (fun x y => x + y), ev_ldi 379 0, ev_cm0 382 386 (fun x => Nat.beq (ev_bits x) (ev_bits 0)), ev_no, ev_no, ev_psh 383 (.int (Int32.ofInt 1)), ev_jmp 387],
  [ev_no, ev_no, ev_psh 387 (.int (Int32.ofInt 0)), ev_no, ev_no, ev_no, ev_ist 392 6, ev_no, ev_jmp 897, ev_no, ev_no, ev_ald 396 1, ev_ald 397 0, ev_ild 399 4, ev_no, ev_psh 400 (.int (Int32.ofInt 1))],
  [ev_bin 401 (fun x y => x + y), ev_ldi 402 0, ev_ald 403 0, ev_ild 405 4, ev_no, ev_psh 406 (.int (Int32.ofInt 2)), ev_bin 407 (fun x y => x + y), ev_ldi 408 0, ev_ald 409 0, ev_ild 411 4, ev_no, ev_psh 412 (.int (Int32.ofInt 3)), ev_bin 413 (fun x y => x + y), ev_ldi 414 0, ev_ald 415 3, ev_no],
  [ev_no, ev_no, ev_ist 420 5, ev_no, ev_ald 421 2, ev_ald 422 0, ev_ild 424 4, ev_no, ev_psh 425 (.int (Int32.ofInt 1)), ev_bin 426 (fun x y => x + y), ev_ldi 427 0, ev_ald 428 0, ev_ild 430 4, ev_no, ev_psh 431 (.int (Int32.ofInt 2)), ev_bin 432 (fun x y => x + y)],
  [ev_ldi 433 0, ev_ald 434 0, ev_ild 436 4, ev_no, ev_psh 437 (.int (Int32.ofInt 3)), ev_bin 438 (fun x y => x + y), ev_ldi 439 0, ev_no, ev_no, ev_no, ev_ist 444 6, ev_no, ev_jmp 897, ev_no, ev_no, ev_ald 448 1],
  [ev_ald 449 3, ev_no, ev_no, ev_no, ev_ist 454 5, ev_no, ev_ald 455 2, ev_no, ev_no, ev_no, ev_ist 460 6, ev_no, ev_jmp 897, ev_no, ev_no, ev_ald 464 1],
  [ev_ald 465 0, ev_ild 467 4, ev_no, ev_psh 468 (.int (Int32.ofInt 1)), ev_bin 469 (fun x y => x + y), ev_ldi 470 0, ev_ald 471 3, ev_no, ev_no, ev_no, ev_ist 476 5, ev_no, ev_ald 477 2, ev_ald 478 0, ev_ild 480 4, ev_no],
  [ev_psh 481 (.int (Int32.ofInt 1)), ev_bin 482 (fun x y => x + y), ev_ldi 483 0, ev_no, ev_no, ev_no, ev_ist 488 6, ev_no, ev_jmp 897, ev_no, ev_no, ev_ald 492 1, ev_ald 493 0, ev_ild 495 4, ev_no, ev_psh 496 (.int (Int32.ofInt 1))],
  [ev_bin 497 (fun x y => x + y), ev_ldi 498 0, ev_ald 499 3, ev_no, ev_no, ev_no, ev_ist 504 5, ev_no, ev_ald 505 2, ev_ald 506 0, ev_ild 508 4, ev_no, ev_psh 509 (.int (Int32.ofInt 1)), ev_bin 510 (fun x y => x + y), ev_ldi 511 0, ev_no],
  [ev_no, ev_no, ev_ist 516 6, ev_no, ev_jmp 897, ev_no, ev_no, ev_ald 520 1, ev_no, ev_no, ev_no, ev_drop 524, ev_ald 525 2, ev_no, ev_no, ev_no],
  [ev_drop 529, ev_jmp 897, ev_no, ev_no, ev_ald 533 1, ev_ald 534 0, ev_ild 536 4, ev_no, ev_psh 537 (.int (Int32.ofInt 1)), ev_bin 538 (fun x y => x + y), ev_ldi 539 0, ev_ald 540 0, ev_ild 542 4, ev_no, ev_psh 543 (.int (Int32.ofInt 2)), ev_bin 544 (fun x y => x + y)],
  [ev_ldi 545 0, ev_ald 546 3, ev_no, ev_no, ev_no, ev_ist 551 5, ev_no, ev_ald 552 2, ev_ald 553 0, ev_ild 555 4, ev_no, ev_psh 556 (.int (Int32.ofInt 1)), ev_bin 557 (fun x y => x + y), ev_ldi 558 0, ev_ald 559 0, ev_ild 561 4],
  [ev_no, ev_psh 562 (.int (Int32.ofInt 2)), ev_bin 563 (fun x y => x + y), ev_ldi 564 0, ev_no, ev_no, ev_no, ev_ist 569 6, ev_no, ev_jmp 897, ev_no, ev_no, ev_ald 573 1, ev_ald 574 0, ev_ild 576 4, ev_no],
  [ev_psh 577 (.int (Int32.ofInt 1)), ev_bin 578 (fun x y => x + y), ev_ldi 579 0, ev_ald 580 0, ev_ild 582 4, ev_no, ev_psh 583 (.int (Int32.ofInt 2)), ev_bin 584 (fun x y => x + y), ev_ldi 585 0, ev_ald 586 3, ev_no, ev_no, ev_no, ev_ist 591 5, ev_no, ev_ald 592 2],
  [ev_ald 593 0, ev_ild 595 4, ev_no, ev_psh 596 (.int (Int32.ofInt 1)), ev_bin 597 (fun x y => x + y), ev_ldi 598 0, ev_ald 599 0, ev_ild 601 4, ev_no, ev_psh 602 (.int (Int32.ofInt 2)), ev_bin 603 (fun x y => x + y), ev_ldi 604 0, ev_no, ev_no, ev_no, ev_ist 609 6],
  [ev_no, ev_jmp 897, ev_no, ev_no, ev_ald 613 1, ev_ald 614 0, ev_ild 616 4, ev_no, ev_psh 617 (.int (Int32.ofInt 1)), ev_bin 618 (fun x y => x + y), ev_ldi 619 0, ev_ald 620 3, ev_no, ev_no, ev_no, ev_ist 625 5],
  [ev_no, ev_ald 626 2, ev_ald 627 0, ev_ild 629 4, ev_no, ev_psh 630 (.int (Int32.ofInt 1)), ev_bin 631 (fun x y => x + y), ev_ldi 632 0, ev_no, ev_no, ev_no, ev_ist 637 6, ev_no, ev_jmp 897, ev_no, ev_no],
  [ev_ald 641 1, ev_no, ev_no, ev_no, ev_drop 645, ev_ald 646 2, ev_no, ev_no, ev_no, ev_drop 650, ev_jmp 897, ev_no, ev_no, ev_ald 654 1, ev_ald 655 0, ev_ild 657 4],
  [ev_no, ev_psh 658 (.int (Int32.ofInt 1)), ev_bin 659 (fun x y => x + y), ev_ldi 660 0, ev_ald 661 3, ev_no, ev_no, ev_no, ev_ist 666 5, ev_no, ev_ald 667 2, ev_ald 668 0, ev_ild 670 4, ev_no, ev_psh 671 (.int (Int32.ofInt 1)), ev_bin 672 (fun x y => x + y)],
  [ev_ldi 673 0, ev_no, ev_no, ev_no, ev_ist 678 6, ev_no, ev_jmp 897, ev_no, ev_no, ev_ald 682 1, ev_ald 683 0, ev_ild 685 4, ev_no, ev_psh 686 (.int (Int32.ofInt 1)), ev_bin 687 (fun x y => x + y), ev_ldi 688 0],
  [ev_ald 689 3, ev_no, ev_no, ev_no, ev_ist 694 5, ev_no, ev_ald 695 2, ev_ald 696 0, ev_ild 698 4, ev_no, ev_psh 699 (.int (Int32.ofInt 1)), ev_bin 700 (fun x y => x + y), ev_ldi 701 0, ev_no, ev_no, ev_no],
  [ev_ist 706 6, ev_no, ev_jmp 897, ev_no, ev_no, ev_ald 710 1, ev_no, ev_no, ev_no, ev_no, ev_ald 715 2, ev_no, ev_no, ev_no, ev_no, ev_jmp 897],
  [ev_no, ev_no, ev_ald 723 1, ev_ald 724 0, ev_ild 726 4, ev_no, ev_psh 727 (.int (Int32.ofInt 1)), ev_bin 728 (fun x y => x + y), ev_ldi 729 0, ev_ald 730 0, ev_ild 732 4, ev_no, ev_psh 733 (.int (Int32.ofInt 2)), ev_bin 734 (fun x y => x + y), ev_ldi 735 0, ev_ald 736 0],
  [ev_ild 738 4, ev_no, ev_psh 739 (.int (Int32.ofInt 3)), ev_bin 740 (fun x y => x + y), ev_ldi 741 0, ev_ald 742 3, ev_no, ev_no, ev_no, ev_ist 747 5, ev_no, ev_ald 748 2, ev_ald 749 0, ev_ild 751 4, ev_no, ev_psh 752 (.int (Int32.ofInt 1))],
  [ev_bin 753 (fun x y => x + y), ev_ldi 754 0, ev_ald 755 0, ev_ild 757 4, ev_no, ev_psh 758 (.int (Int32.ofInt 2)), ev_bin 759 (fun x y => x + y), ev_ldi 760 0, ev_ald 761 0, ev_ild 763 4, ev_no, ev_psh 764 (.int (Int32.ofInt 3)), ev_bin 765 (fun x y => x + y), ev_ldi 766 0, ev_no, ev_no],
  [ev_no, ev_ist 771 6, ev_no, ev_jmp 897, ev_no, ev_no, ev_ald 775 1, ev_ald 776 0, ev_ild 778 4, ev_no, ev_psh 779 (.int (Int32.ofInt 1)), ev_bin 780 (fun x y => x + y), ev_ldi 781 0, ev_ald 782 3, ev_no, ev_no],
  [ev_no, ev_ist 787 5, ev_no, ev_ald 788 2, ev_ald 789 0, ev_ild 791 4, ev_no, ev_psh 792 (.int (Int32.ofInt 1)), ev_bin 793 (fun x y => x + y), ev_ldi 794 0, ev_no, ev_no, ev_no, ev_ast 799 6, ev_no, ev_jmp 897],
  [ev_no, ev_no, ev_ald 803 1, ev_ald 804 0, ev_ild 806 4, ev_no, ev_psh 807 (.int (Int32.ofInt 1)), ev_bin 808 (fun x y => x + y), ev_ldi 809 0, ev_ald 810 3, ev_no, ev_no, ev_no, ev_ist 815 5, ev_no, ev_ald 816 2],
  [ev_ald 817 0, ev_ild 819 4, ev_no, ev_psh 820 (.int (Int32.ofInt 1)), ev_bin 821 (fun x y => x + y), ev_ldi 822 0, ev_no, ev_no, ev_no, ev_ist 827 6, ev_no, ev_jmp 897, ev_no, ev_no, ev_ald 831 1, ev_inr cf 834 23 1 15],
  [ev_no, ev_no, ev_drop 835, ev_ald 836 2, ev_inr cf 839 40 1 18, ev_no, ev_no, ev_drop 840, ev_jmp 897, ev_no, ev_no, ev_ald 844 1, ev_ald 845 0, ev_ild 847 4, ev_no, ev_psh 848 (.int (Int32.ofInt 1))],
  [ev_bin 849 (fun x y => x + y), ev_ldi 850 0, ev_ald 851 3, ev_no, ev_no, ev_no, ev_ist 856 5, ev_no, ev_ald 857 2, ev_ald 858 0, ev_ild 860 4, ev_no, ev_psh 861 (.int (Int32.ofInt 1)), ev_bin 862 (fun x y => x + y), ev_ldi 863 0, ev_no],
  [ev_no, ev_no, ev_ist 868 6, ev_no, ev_jmp 897, ev_no, ev_no, ev_ald 872 1, ev_no, ev_no, ev_no, ev_drop 876, ev_ald 877 2, ev_no, ev_no, ev_no],
  [ev_drop 881, ev_jmp 897, ev_no, ev_no, ev_ald 885 1, ev_no, ev_no, ev_no, ev_no, ev_ald 890 2, ev_no, ev_no, ev_no, ev_no, ev_jmp 897, ev_no],
  [ev_no, ev_inc 900 4 (Int32.ofInt 4), ev_no, ev_no, ev_jmp 27, ev_no, ev_no, ev_psh 904 (.int (Int32.ofInt 1)), ev_rtz fin]]
noncomputable def ev_o17 {α : Type} (cf : Nat → List Value → ev_W → Option ev_R) (fin : Option Value → ev_W → Nat → Option α) : List (List (ev_O α)) := [[ev_ald 1 3, ev_ald 2 0, ev_ild 3 1, ev_ild 4 2, ev_inr cf 7 32 3 15, ev_no, ev_no, ev_i2l 8, ev_ptf 11 16 0 3, ev_no, ev_no, ev_jmp 22, ev_no, ev_no, ev_ast 16 4, ev_no],
  [ev_psh 17 (.int (Int32.ofInt 1)), ev_rti fin, ev_ast 20 4, ev_no, ev_psh 21 (.int (Int32.ofInt 2)), ev_rti fin, ev_psh 23 (.int (Int32.ofInt 0)), ev_rti fin]]
noncomputable def ev_o18 {α : Type} (cf : Nat → List Value → ev_W → Option ev_R) (fin : Option Value → ev_W → Nat → Option α) : List (List (ev_O α)) := [[ev_ald 1 2, ev_ald 2 0, ev_ild 3 1, ev_inr cf 6 35 2 15, ev_no, ev_no, ev_i2l 7, ev_ptf 10 16 0 3, ev_no, ev_no, ev_jmp 19, ev_no, ev_no, ev_ast 14 3, ev_psh 15 (.int (Int32.ofInt 1)), ev_rti fin],
  [ev_ast 17 3, ev_psh 18 (.int (Int32.ofInt 2)), ev_rti fin, ev_psh 20 (.int (Int32.ofInt 0)), ev_rti fin]]
noncomputable def ev_o19 {α : Type} (cf : Nat → List Value → ev_W → Option ev_R) (fin : Option Value → ev_W → Nat → Option α) : List (List (ev_O α)) := [[ev_ald 1 0, ev_get 4 5 0, ev_no, ev_no, ev_ald 5 0, ev_get 8 5 2, ev_no, ev_no, ev_ild 9 1, ev_inv cf 12 31 3, ev_no, ev_no, ev_ald 13 0, ev_get 16 5 1, ev_no, ev_no],
  [ev_ald 17 0, ev_get 20 5 2, ev_no, ev_no, ev_ild 21 2, ev_inv cf 24 31 3, ev_no, ev_no, ev_ald 25 0, ev_dup 26, ev_get 29 5 2, ev_no, ev_no, ev_psh 30 (.int (Int32.ofInt 1)), ev_bin 31 (fun x y => x + y), ev_ptf 34 5 2 0],
  [ev_no, ev_no, ev_ald 35 0, ev_get 38 5 2, ev_no, ev_no, ev_rti fin]]
noncomputable def ev_o20 {α : Type} (cf : Nat → List Value → ev_W → Option ev_R) (fin : Option Value → ev_W → Nat → Option α) : List (List (ev_O α)) := [[ev_ald 1 0, ev_get 4 5 2, ev_no, ev_no, ev_ist 5 1, ev_ald 6 0, ev_psh 7 (.int (Int32.ofInt 0)), ev_ptf 10 5 2 0, ev_no, ev_no, ev_ild 11 1, ev_rti fin]]
noncomputable def ev_o21 {α : Type} (cf : Nat → List Value → ev_W → Option ev_R) (fin : Option Value → ev_W → Nat → Option α) : List (List (ev_O α)) := [[ev_ald 1 0, ev_obj 4, ev_no, ev_no, ev_ald 5 0, ev_psh 7 (.int (Int8.ofInt 12).toInt32), ev_no, ev_nwa 9 0 (.int 0), ev_no, ev_ptf 12 5 0 1, ev_no, ev_no, ev_ald 13 0, ev_psh 15 (.int (Int8.ofInt 12).toInt32), ev_no, ev_nwa 17 0 (.int 0)],
  [ev_no, ev_ptf 20 5 1 1, ev_no, ev_no, ev_rtv fin]]
noncomputable def ev_o22 {α : Type} (cf : Nat → List Value → ev_W → Option ev_R) (fin : Option Value → ev_W → Nat → Option α) : List (List (ev_O α)) := [[ev_ild 1 1, ev_cm0 4 16 (fun x => Nat.blt (ev_sg x) (ev_sg 0)), ev_no, ev_no, ev_ild 5 1, ev_ald 6 0, ev_aln 7, ev_cmp 10 16 (fun x y => Nat.ble (ev_sg y) (ev_sg x)), ev_no, ev_no, ev_ald 11 0, ev_ild 12 1, ev_ldi 13 0, ev_jmp 17, ev_no, ev_no],
  [ev_ild 17 2, ev_rti fin]]
noncomputable def ev_o23 {α : Type} (cf : Nat → List Value → ev_W → Option ev_R) (fin : Option Value → ev_W → Nat → Option α) : List (List (ev_O α)) := [[ev_ald 1 0, ev_inr cf 4 34 1 15, ev_no, ev_no, ev_ald 5 0, ev_get 8 15 5, ev_no, ev_no, ev_ald 9 0, ev_get 12 15 0, ev_no, ev_no, ev_inr cf 15 73 2 14, ev_no, ev_no, ev_rti fin]]
noncomputable def ev_o24 {α : Type} (cf : Nat → List Value → ev_W → Option ev_R) (fin : Option Value → ev_W → Nat → Option α) : List (List (ev_O α)) := [[ev_ald 1 0, ev_get 4 15 1, ev_no, ev_no, ev_get 7 5 2, ev_no, ev_no, ev_psh 9 (.int (Int8.ofInt 12).toInt32), ev_no, ev_cmp 12 23 (fun x y => Nat.blt (ev_sg x) (ev_sg y)), ev_no, ev_no, ev_no, ev_no, ev_no, ev_dup 16],
  [ev_no, ev_no, ev_no, ev_no, ev_no, ev_no, ev_no, ev_rtv fin]]
noncomputable def ev_o25 {α : Type} (cf : Nat → List Value → ev_W → Option ev_R) (fin : Option Value → ev_W → Nat → Option α) : List (List (ev_O α)) := [[ev_ild 1 0, ev_cm0 4 32 (fun x => Nat.blt (ev_sg x) (ev_sg 0)), ev_no, ev_no, ev_ild 5 0, ev_psh 8 (.int (Int16.ofInt 556).toInt32), ev_no, ev_no, ev_cmp 11 32 (fun x y => Nat.ble (ev_sg y) (ev_sg x)), ev_no, ev_no, ev_ild 12 0, ev_psh 14 (.int (Int8.ofInt 10).toInt32), ev_no, ev_div 15 (fun x y => x / y), ev_psh 17 (.int (Int8.ofInt 10).toInt32)],
  [ev_no, ev_div 18 (fun x y => x - x / y * y), ev_psh 20 (.int (Int8.ofInt 6).toInt32), ev_no, ev_cmp 23 32 (fun x y => Nat.ble (ev_sg y) (ev_sg x)), ev_no, ev_no, ev_ild 24 0, ev_psh 26 (.int (Int8.ofInt 10).toInt32), ev_no, ev_div 27 (fun x y => x - x / y * y), ev_psh 29 (.int (Int8.ofInt 6).toInt32), ev_no, ev_cmp 32 43 (fun x y => Nat.blt (ev_sg x) (ev_sg y)), ev_no, ev_no],
  [ev_no, ev_no, ev_no, ev_dup 36, ev_no, ev_no, ev_no, ev_no, ev_no, ev_no, ev_no, ev_rtv fin]]
noncomputable def ev_o26 {α : Type} (cf : Nat → List Value → ev_W → Option ev_R) (fin : Option Value → ev_W → Nat → Option α) : List (List (ev_O α)) := [[ev_ald 1 0, ev_get 4 15 12, ev_no, ev_no, ev_psh 6 (.int (Int8.ofInt 50).toInt32), ev_no, ev_cmp 9 19 (fun x y => Nat.blt (ev_sg x) (ev_sg y)), ev_no, ev_no, ev_no, ev_no, ev_no, ev_dup 13, ev_no, ev_no, ev_no],
  [ev_no, ev_no, ev_no, ev_ald 20 0, ev_inr cf 23 34 1 15, ev_no, ev_no, ev_ald 24 0, ev_get 27 15 3, ev_no, ev_no, ev_get 30 12 5, ev_no, ev_no, ev_psh 32 (.int (Int8.ofInt 60).toInt32), ev_no],
  [ev_cmp 35 45 (fun x y => Nat.ble (ev_sg x) (ev_sg y)), ev_no, ev_no, ev_no, ev_no, ev_no, ev_dup 39, ev_no, ev_no, ev_no, ev_no, ev_no, ev_no, ev_ald 46 0, ev_get 49 15 5, ev_no],
  [ev_no, ev_ald 50 0, ev_get 53 15 0, ev_no, ev_no, ev_inr cf 56 73 2 14, ev_no, ev_no, ev_cm0 59 69 (fun x => Nat.ble (ev_sg x) (ev_sg 0)), ev_no, ev_no, ev_no, ev_no, ev_no, ev_dup 63, ev_no],
  [ev_no, ev_no, ev_no, ev_no, ev_no, ev_ald 70 0, ev_dup 71, ev_get 74 15 12, ev_no, ev_no, ev_psh 75 (.int (Int32.ofInt 1)), ev_bin 76 (fun x y => x + y), ev_ptf 79 15 12 0, ev_no, ev_no, ev_ald 80 0],
  [ev_get 83 15 2, ev_no, ev_no, ev_ald 84 0, ev_get 87 15 3, ev_no, ev_no, ev_inr cf 90 65 2 12, ev_no, ev_no, ev_ald 91 0, ev_get 94 15 1, ev_no, ev_no, ev_inr cf 97 20 1 5, ev_no],
  [ev_no, ev_drop 98, ev_ald 99 0, ev_inr cf 102 33 1 15, ev_no, ev_no, ev_ald 103 0, ev_get 106 15 12, ev_no, ev_no, ev_rti fin]]
noncomputable def ev_o27 {α : Type} (cf : Nat → List Value → ev_W → Option ev_R) (fin : Option Value → ev_W → Nat → Option α) : List (List (ev_O α)) := [[ev_psh 1 (.int (Int32.ofInt 0)), ev_ist 2 3, ev_ild 3 3, ev_ild 4 2, ev_cmp 7 31 (fun x y => Nat.ble (ev_sg y) (ev_sg x)), ev_no, ev_no, ev_ild 8 3, ev_ald 9 0, ev_aln 10, ev_cmp 13 31 (fun x y => Nat.ble (ev_sg y) (ev_sg x)), ev_no, ev_no, ev_ild 14 3, ev_ald 15 1, ev_aln 16],
  [ev_cmp 19 31 (fun x y => Nat.ble (ev_sg y) (ev_sg x)), ev_no, ev_no, ev_ald 20 1, ev_ild 21 3, ev_ald 22 0, ev_ild 23 3, ev_ldi 24 0, ev_sti 25 0 (fun x => x), ev_inc 28 3 (Int32.ofInt 1), ev_no, ev_no, ev_jmp 2, ev_no, ev_no, ev_rtv fin]]
noncomputable def ev_o28 {α : Type} (cf : Nat → List Value → ev_W → Option ev_R) (fin : Option Value → ev_W → Nat → Option α) : List (List (ev_O α)) := [[ev_psh 1 (.int (Int32.ofInt 0)), ev_ist 2 2, ev_ild 3 2, ev_ald 4 0, ev_aln 5, ev_cmp 8 18 (fun x y => Nat.ble (ev_sg y) (ev_sg x)), ev_no, ev_no, ev_ald 9 0, ev_ild 10 2, ev_ild 11 1, ev_sti 12 0 (fun x => x), ev_inc 15 2 (Int32.ofInt 1), ev_no, ev_no, ev_jmp 2],
  [ev_no, ev_no, ev_rtv fin]]
noncomputable def ev_o29 {α : Type} (cf : Nat → List Value → ev_W → Option ev_R) (fin : Option Value → ev_W → Nat → Option α) : List (List (ev_O α)) := [[ev_ald 1 0, ev_obj 4, ev_no, ev_no, ev_ald 5 0, ev_new 8 9 2 [.null, .int 0], ev_no, ev_no, ev_dup 9, ev_ini cf 12 60 1, ev_no, ev_no, ev_ptf 15 15 0 1, ev_no, ev_no, ev_ald 16 0],
  [ev_new 19 5 3 [.null, .null, .int 0], ev_no, ev_no, ev_dup 20, ev_ini cf 23 21 1, ev_no, ev_no, ev_ptf 26 15 1 1, ev_no, ev_no, ev_ald 27 0, ev_new 30 12 6 [.null, .null, .null, .null, .null, .int 0], ev_no, ev_no, ev_dup 31, ev_ini cf 34 68 1],
  [ev_no, ev_no, ev_ptf 37 15 2 1, ev_no, ev_no, ev_ald 38 0, ev_new 41 12 6 [.null, .null, .null, .null, .null, .int 0], ev_no, ev_no, ev_dup 42, ev_ini cf 45 68 1, ev_no, ev_no, ev_ptf 48 15 3 1, ev_no, ev_no],
  [ev_ald 49 0, ev_new 52 14 1 [.null], ev_no, ev_no, ev_dup 53, ev_ini cf 56 75 1, ev_no, ev_no, ev_ptf 59 15 4 1, ev_no, ev_no, ev_ald 60 0, ev_new 63 14 1 [.null], ev_no, ev_no, ev_dup 64],
  [ev_ini cf 67 75 1, ev_no, ev_no, ev_ptf 70 15 5 1, ev_no, ev_no, ev_ald 71 0, ev_new 74 13 4 [.null, .null, .null, .int 0], ev_no, ev_no, ev_dup 75, ev_ini cf 78 72 1, ev_no, ev_no, ev_ptf 81 15 6 1, ev_no],
  [ev_no, ev_ald 82 0, ev_new 85 8 6 [.null, .null, .null, .null, .null, .int 0], ev_no, ev_no, ev_dup 86, ev_ini cf 89 57 1, ev_no, ev_no, ev_ptf 92 15 7 1, ev_no, ev_no, ev_ald 93 0, ev_new 96 7 3 [.null, .int 0, .int 0], ev_no, ev_no],
  [ev_dup 97, ev_ini cf 100 56 1, ev_no, ev_no, ev_ptf 103 15 8 1, ev_no, ev_no, ev_ald 104 0, ev_new 107 7 3 [.null, .int 0, .int 0], ev_no, ev_no, ev_dup 108, ev_ini cf 111 56 1, ev_no, ev_no, ev_ptf 114 15 9 1],
  [ev_no, ev_no, ev_ald 115 0, ev_new 118 10 3 [.null, .null, .null], ev_no, ev_no, ev_dup 119, ev_ini cf 122 62 1, ev_no, ev_no, ev_ptf 125 15 10 1, ev_no, ev_no, ev_ald 126 0, ev_new 129 11 9 [.null, .null, .null, .null, .null, .int 0, .int 0, .int 0, .int 0], ev_no],
  [ev_no, ev_dup 130, ev_ini cf 133 63 1, ev_no, ev_no, ev_ptf 136 15 11 1, ev_no, ev_no, ev_rtv fin]]
noncomputable def ev_o30 {α : Type} (cf : Nat → List Value → ev_W → Option ev_R) (fin : Option Value → ev_W → Nat → Option α) : List (List (ev_O α)) := [[ev_ild 1 0, ev_ild 2 1, ev_bin 3 (fun x y => x >>> (y &&& 31)), ev_psh 4 (.int (Int32.ofInt 1)), ev_bin 5 (fun x y => x &&& y), ev_cm0 8 12 (fun x => Nat.beq (ev_bits x) (ev_bits 0)), ev_no, ev_no, ev_psh 9 (.int (Int32.ofInt 1)), ev_jmp 13, ev_no, ev_no, ev_psh 13 (.int (Int32.ofInt 0)), ev_rtz fin]]
noncomputable def ev_o31 {α : Type} (cf : Nat → List Value → ev_W → Option ev_R) (fin : Option Value → ev_W → Nat → Option α) : List (List (ev_O α)) := [[ev_ild 1 1, ev_cm0 4 14 (fun x => Nat.blt (ev_sg x) (ev_sg 0)), ev_no, ev_no, ev_ild 5 1, ev_ald 6 0, ev_aln 7, ev_cmp 10 14 (fun x y => Nat.ble (ev_sg y) (ev_sg x)), ev_no, ev_no, ev_ald 11 0, ev_ild 12 1, ev_ild 13 2, ev_sti 14 0 (fun x => x), ev_rtv fin]]
noncomputable def ev_o32 {α : Type} (cf : Nat → List Value → ev_W → Option ev_R) (fin : Option Value → ev_W → Nat → Option α) : List (List (ev_O α)) := [[ev_ild 1 1, ev_inv cf 4 25 1, ev_no, ev_no, ev_ild 5 2, ev_psh 6 (.int (Int32.ofInt 1)), ev_cmp 9 15 (fun x y => Nat.blt (ev_sg x) (ev_sg y)), ev_no, ev_no, ev_ild 10 2, ev_psh 12 (.int (Int8.ofInt 9).toInt32), ev_no, ev_cmp 15 25 (fun x y => Nat.ble (ev_sg x) (ev_sg y)), ev_no, ev_no, ev_no],
  [ev_no, ev_no, ev_dup 19, ev_no, ev_no, ev_no, ev_no, ev_no, ev_no, ev_ald 26 0, ev_inr cf 29 24 1 15, ev_no, ev_no, ev_ald 30 0, ev_get 33 15 1, ev_no],
  [ev_no, ev_ild 34 1, ev_ild 35 2, ev_inr cf 38 19 3 5, ev_no, ev_no, ev_rti fin]]
noncomputable def ev_o33 {α : Type} (cf : Nat → List Value → ev_W → Option ev_R) (fin : Option Value → ev_W → Nat → Option α) : List (List (ev_O α)) := [[ev_ald 1 0, ev_get 4 15 4, ev_no, ev_no, ev_ald 5 0, ev_get 8 15 2, ev_no, ev_no, ev_ald 9 0, ev_get 12 15 12, ev_no, ev_no, ev_inr cf 15 74 3 14, ev_no, ev_no, ev_ald 16 0],
  [ev_psh 17 (.int (Int32.ofInt 0)), ev_ptf 20 15 14 2, ev_no, ev_no, ev_ald 21 0, ev_psh 22 (.int (Int32.ofInt 0)), ev_ptf 25 15 15 2, ev_no, ev_no, ev_rtv fin]]
noncomputable def ev_o34 {α : Type} (cf : Nat → List Value → ev_W → Option ev_R) (fin : Option Value → ev_W → Nat → Option α) : List (List (ev_O α)) := [[ev_ald 1 0, ev_get 4 15 3, ev_no, ev_no, ev_ald 5 0, ev_get 8 15 2, ev_no, ev_no, ev_inr cf 11 65 2 12, ev_no, ev_no, ev_ald 12 0, ev_get 15 15 3, ev_no, ev_no, ev_ald 16 0],
  [ev_get 19 15 1, ev_no, ev_no, ev_ald 20 0, ev_get 23 15 12, ev_no, ev_no, ev_psh 24 (.int (Int32.ofInt 1)), ev_bin 25 (fun x y => x + y), ev_ald 26 0, ev_get 29 15 0, ev_no, ev_no, ev_inr cf 32 71 4 12, ev_no, ev_no],
  [ev_ald 33 0, ev_get 36 15 5, ev_no, ev_no, ev_ald 37 0, ev_get 40 15 3, ev_no, ev_no, ev_ald 41 0, ev_get 44 15 12, ev_no, ev_no, ev_psh 45 (.int (Int32.ofInt 1)), ev_bin 46 (fun x y => x + y), ev_inr cf 49 74 3 14, ev_no],
  [ev_no, ev_rtv fin]]
noncomputable def ev_o35 {α : Type} (cf : Nat → List Value → ev_W → Option ev_R) (fin : Option Value → ev_W → Nat → Option α) : List (List (ev_O α)) := [[ev_ild 1 1, ev_inv cf 4 25 1, ev_no, ev_no, ev_ald 5 0, ev_inr cf 8 24 1 15, ev_no, ev_no, ev_ald 9 0, ev_get 12 15 1, ev_no, ev_no, ev_ild 13 1, ev_psh 14 (.int (Int32.ofInt 0)), ev_inr cf 17 19 3 5, ev_no],
  [ev_no, ev_rti fin]]
noncomputable def ev_o36 {α : Type} (cf : Nat → List Value → ev_W → Option ev_R) (fin : Option Value → ev_W → Nat → Option α) : List (List (ev_O α)) := [[ev_ald 1 0, ev_obj 4, ev_no, ev_no, ev_rtv fin]]
noncomputable def ev_o37 {α : Type} (cf : Nat → List Value → ev_W → Option ev_R) (fin : Option Value → ev_W → Nat → Option α) : List (List (ev_O α)) := [[ev_ald 1 0, ev_get 4 17 2, ev_no, ev_no, ev_ild 5 1, ev_cmp 8 20 (fun x y => Nat.blt (ev_sg y) (ev_sg x)), ev_no, ev_no, ev_ild 9 1, ev_ald 10 0, ev_get 13 17 3, ev_no, ev_no, ev_cmp 16 20 (fun x y => Nat.ble (ev_sg y) (ev_sg x)), ev_no, ev_no],
  [ev_psh 17 (.int (Int32.ofInt 1)), ev_jmp 21, ev_no, ev_no, ev_psh 21 (.int (Int32.ofInt 0)), ev_rtz fin]]
noncomputable def ev_o38 {α : Type} (cf : Nat → List Value → ev_W → Option ev_R) (fin : Option Value → ev_W → Nat → Option α) : List (List (ev_O α)) := [[ev_ald 1 0, ev_obj 4, ev_no, ev_no, ev_ald 5 0, ev_psh 8 (.int (Int16.ofInt 1000).toInt32), ev_no, ev_no, ev_ptf 11 17 3 0, ev_no, ev_no, ev_rtv fin]]
noncomputable def ev_o39 {α : Type} (cf : Nat → List Value → ev_W → Option ev_R) (fin : Option Value → ev_W → Nat → Option α) : List (List (ev_O α)) := [[ev_ald 1 0, ev_ald 2 1, ev_ild 3 2, ev_psh 4 (.int (Int32.ofInt 0)), ev_inr cf 7 53 4 18, ev_no, ev_no, ev_ast 8 3, ev_psh 9 (.int (Int32.ofInt 0)), ev_ist 11 4, ev_no, ev_psh 12 (.int (Int32.ofInt 0)), ev_ist 14 5, ev_no, ev_ild 16 5, ev_no],
  [ev_psh 18 (.int (Int8.ofInt 6).toInt32), ev_no, ev_cmp 21 143 (fun x y => Nat.ble (ev_sg y) (ev_sg x)), ev_no, ev_no, ev_psh 22 (.int (Int32.ofInt 0)), ev_ist 24 6, ev_no, ev_psh 25 (.int (Int32.ofInt 0)), ev_ist 27 7, ev_no, ev_ild 29 7, ev_no, ev_psh 31 (.int (Int8.ofInt 6).toInt32), ev_no, ev_cmp 34 122 (fun x y => Nat.ble (ev_sg y) (ev_sg x))],
  [ev_no, ev_no, ev_psh 35 (.int (Int32.ofInt 0)), ev_ist 37 8, ev_no, ev_psh 38 (.int (Int32.ofInt 0)), ev_ist 40 9, ev_no, ev_ild 42 9, ev_no, ev_psh 44 (.int (Int8.ofInt 6).toInt32), ev_no, ev_cmp 47 100 (fun x y => Nat.ble (ev_sg y) (ev_sg x)), ev_no, ev_no, ev_ald 48 0],
  [ev_get 51 18 8, ev_no, ev_no, ev_ild 53 7, ev_no, ev_bin 54 (fun x y => x >>> (y &&& 31)), ev_psh 55 (.int (Int32.ofInt 1)), ev_bin 56 (fun x y => x &&& y), ev_psh 57 (.int (Int32.ofInt 1)), ev_cmp 60 100 (fun x y => !Nat.beq (ev_bits x) (ev_bits y)), ev_no, ev_no, ev_ild 62 8, ev_no, ev_ald 63 3, ev_psh 65 (.int (Int8.ofInt 36).toInt32)],
  [ev_no, ev_ild 67 5, ev_no, ev_bin 68 (fun x y => x * y), ev_psh 70 (.int (Int8.ofInt 6).toInt32), ev_no, ev_ald 71 0, ev_get 74 18 1, ev_no, ev_no, ev_ild 76 7, ev_no, ev_ldi 77 0, ev_bin 78 (fun x y => x * y), ev_bin 79 (fun x y => x + y), ev_ild 81 9],
  [ev_no, ev_bin 82 (fun x y => x + y), ev_ldi 83 1, ev_cm0 86 90 (fun x => Nat.beq (ev_bits x) (ev_bits 0)), ev_no, ev_no, ev_psh 87 (.int (Int32.ofInt 1)), ev_jmp 91, ev_no, ev_no, ev_psh 91 (.int (Int32.ofInt 0)), ev_bin 92 (fun x y => x + y), ev_ist 94 8, ev_no, ev_inc 97 9 (Int32.ofInt 1), ev_no],
  [ev_no, ev_jmp 40, ev_no, ev_no, ev_ild 102 6, ev_no, ev_ild 104 8, ev_no, ev_psh 105 (.int (Int32.ofInt 1)), ev_cmp 108 112 (fun x y => Nat.ble (ev_sg x) (ev_sg y)), ev_no, ev_no, ev_psh 109 (.int (Int32.ofInt 1)), ev_jmp 113, ev_no, ev_no],
  [ev_psh 113 (.int (Int32.ofInt 0)), ev_bin 114 (fun x y => x ||| y), ev_ist 116 6, ev_no, ev_inc 119 7 (Int32.ofInt 1), ev_no, ev_no, ev_jmp 27, ev_no, ev_no, ev_ild 124 4, ev_no, ev_ild 126 6, ev_no, ev_cm0 129 133 (fun x => Nat.beq (ev_bits x) (ev_bits 0)), ev_no],
  [ev_no, ev_psh 130 (.int (Int32.ofInt 1)), ev_jmp 134, ev_no, ev_no, ev_psh 134 (.int (Int32.ofInt 0)), ev_bin 135 (fun x y => x + y), ev_ist 137 4, ev_no, ev_inc 140 5 (Int32.ofInt 1), ev_no, ev_no, ev_jmp 14, ev_no, ev_no, ev_ild 145 4],
  [ev_no, ev_rti fin]]
noncomputable def ev_o40 {α : Type} (cf : Nat → List Value → ev_W → Option ev_R) (fin : Option Value → ev_W → Nat → Option α) : List (List (ev_O α)) := [[ev_ald 1 0, ev_psh 2 (.int (Int32.ofInt 0)), ev_ptf 5 18 0 0, ev_no, ev_no, ev_ald 6 0, ev_ald 7 0, ev_inr cf 10 42 1 18, ev_no, ev_no, ev_ald 11 0, ev_get 14 18 2, ev_no, ev_no, ev_psh 15 (.int (Int32.ofInt 1)), ev_bin 16 (fun x y => x + y)],
  [ev_inr cf 19 39 3 18, ev_no, ev_no, ev_rti fin]]
noncomputable def ev_o41 {α : Type} (cf : Nat → List Value → ev_W → Option ev_R) (fin : Option Value → ev_W → Nat → Option α) : List (List (ev_O α)) := [[ev_ald 1 0, ev_psh 2 (.int (Int32.ofInt 0)), ev_ptf 5 18 0 0, ev_no, ev_no, ev_ald 6 0, ev_inr cf 9 42 1 18, ev_no, ev_no, ev_ast 10 1, ev_ald 11 0, ev_get 14 18 2, ev_no, ev_no, ev_psh 16 (.int (Int8.ofInt 50).toInt32), ev_no],
  [ev_cmp 19 42 (fun x y => Nat.beq (ev_bits x) (ev_bits y)), ev_no, ev_no, ev_ald 20 1, ev_inr cf 23 12 1 4, ev_no, ev_no, ev_psh 25 (.int (Int8.ofInt 60).toInt32), ev_no, ev_cmp 28 42 (fun x y => Nat.blt (ev_sg y) (ev_sg x)), ev_no, ev_no, ev_ald 29 0, ev_ald 30 1, ev_ald 31 0, ev_get 34 18 2],
  [ev_no, ev_no, ev_psh 35 (.int (Int32.ofInt 1)), ev_bin 36 (fun x y => x + y), ev_inr cf 39 39 3 18, ev_no, ev_no, ev_cm0 42 48 (fun x => Nat.ble (ev_sg x) (ev_sg 0)), ev_no, ev_no, ev_ald 43 0, ev_psh 44 (.int (Int32.ofInt 1)), ev_no, ev_no, ev_no, ev_rti fin],
  [ev_ald 49 0, ev_get 52 18 3, ev_no, ev_no, ev_inr cf 55 7 1 4, ev_no, ev_no, ev_ald 56 1, ev_inr cf 59 11 1 4, ev_no, ev_no, ev_ast 60 2, ev_ald 61 2, ev_inr cf 66 2 1 3, ev_no, ev_no],
  [ev_no, ev_no, ev_cm0 69 91 (fun x => Nat.beq (ev_bits x) (ev_bits 0)), ev_no, ev_no, ev_ald 70 2, ev_inr cf 75 4 1 3, ev_no, ev_no, ev_no, ev_no, ev_cst 78 20, ev_no, ev_no, ev_ast 79 3, ev_ald 80 0],
  [ev_get 83 18 3, ev_no, ev_no, ev_ald 84 3, ev_inr cf 87 6 2 4, ev_no, ev_no, ev_drop 88, ev_jmp 60, ev_no, ev_no, ev_ald 92 0, ev_get 95 18 4, ev_no, ev_no, ev_inr cf 98 7 1 4],
  [ev_no, ev_no, ev_ald 99 0, ev_dup 100, ev_get 103 18 2, ev_no, ev_no, ev_psh 104 (.int (Int32.ofInt 1)), ev_bin 105 (fun x y => x + y), ev_ptf 108 18 2 0, ev_no, ev_no, ev_ald 109 0, ev_inr cf 112 44 1 18, ev_no, ev_no],
  [ev_ald 113 0, ev_get 116 18 2, ev_no, ev_no, ev_rti fin]]
noncomputable def ev_o42 {α : Type} (cf : Nat → List Value → ev_W → Option ev_R) (fin : Option Value → ev_W → Nat → Option α) : List (List (ev_O α)) := [[ev_new 3 4 3 [.int 0, .null, .int 0], ev_no, ev_no, ev_dup 4, ev_ini cf 7 10 1, ev_no, ev_no, ev_ast 8 1, ev_ald 9 0, ev_get 12 18 2, ev_no, ev_no, ev_psh 13 (.int (Int32.ofInt 1)), ev_bin 14 (fun x y => x + y), ev_ist 15 2, ev_ald 16 0],
  [ev_get 19 18 3, ev_no, ev_no, ev_inr cf 22 11 1 4, ev_no, ev_no, ev_ast 23 3, ev_ald 24 3, ev_inr cf 29 2 1 3, ev_no, ev_no, ev_no, ev_no, ev_cm0 32 102 (fun x => Nat.beq (ev_bits x) (ev_bits 0)), ev_no, ev_no],
  [ev_ald 33 3, ev_inr cf 38 4 1 3, ev_no, ev_no, ev_no, ev_no, ev_cst 41 20, ev_no, ev_no, ev_ast 43 4, ev_no, ev_new 46 17 4 [.int 0, .int 0, .int 0, .int 0], ev_no, ev_no, ev_dup 47, ev_ini cf 50 38 1],
  [ev_no, ev_no, ev_ast 52 5, ev_no, ev_ald 54 5, ev_no, ev_ald 56 4, ev_no, ev_get 59 17 0, ev_no, ev_no, ev_ptf 62 17 0 0, ev_no, ev_no, ev_ald 64 5, ev_no],
  [ev_ald 66 4, ev_no, ev_get 69 17 1, ev_no, ev_no, ev_ptf 72 17 1 0, ev_no, ev_no, ev_ald 74 5, ev_no, ev_ald 76 4, ev_no, ev_get 79 17 2, ev_no, ev_no, ev_ptf 82 17 2 0],
  [ev_no, ev_no, ev_ald 84 5, ev_no, ev_ald 86 4, ev_no, ev_get 89 17 3, ev_no, ev_no, ev_ptf 92 17 3 0, ev_no, ev_no, ev_ald 93 1, ev_ald 95 5, ev_no, ev_inr cf 98 6 2 4],
  [ev_no, ev_no, ev_drop 99, ev_jmp 23, ev_no, ev_no, ev_ald 103 0, ev_get 106 18 4, ev_no, ev_no, ev_inr cf 109 11 1 4, ev_no, ev_no, ev_ast 110 3, ev_ald 111 3, ev_inr cf 116 2 1 3],
  [ev_no, ev_no, ev_no, ev_no, ev_cm0 119 306 (fun x => Nat.beq (ev_bits x) (ev_bits 0)), ev_no, ev_no, ev_ald 120 3, ev_inr cf 125 4 1 3, ev_no, ev_no, ev_no, ev_no, ev_cst 128 0, ev_no, ev_no],
  [ev_ast 130 4, ev_no, ev_psh 131 (.int (Int32.ofInt 0)), ev_ist 133 5, ev_no, ev_ald 134 1, ev_inr cf 137 11 1 4, ev_no, ev_no, ev_ast 139 6, ev_no, ev_ald 141 6, ev_no, ev_inr cf 146 2 1 3, ev_no, ev_no],
  [ev_no, ev_no, ev_cm0 149 248 (fun x => Nat.beq (ev_bits x) (ev_bits 0)), ev_no, ev_no, ev_ald 151 6, ev_no, ev_inr cf 156 4 1 3, ev_no, ev_no, ev_no, ev_no, ev_cst 159 20, ev_no, ev_no, ev_ast 161 7],
  [ev_no, ev_ald 163 7, ev_no, ev_ild 164 2, ev_inr cf 167 37 2 17, ev_no, ev_no, ev_cm0 170 173 (fun x => !Nat.beq (ev_bits x) (ev_bits 0)), ev_no, ev_no, ev_jmp 139, ev_no, ev_no, ev_ald 175 4, ev_no, ev_psh 176 (.int (Int32.ofInt 1))],
  [ev_ldi 177 0, ev_cm0 180 206 (fun x => !Nat.beq (ev_bits x) (ev_bits 0)), ev_no, ev_no, ev_ald 181 0, ev_ald 183 7, ev_no, ev_get 186 17 0, ev_no, ev_no, ev_inr cf 189 50 2 18, ev_no, ev_no, ev_ald 190 0, ev_ald 192 4, ev_no],
  [ev_psh 193 (.int (Int32.ofInt 0)), ev_ldi 194 0, ev_inr cf 197 50 2 18, ev_no, ev_no, ev_cmp 200 206 (fun x y => !Nat.beq (ev_bits x) (ev_bits y)), ev_no, ev_no, ev_ald 202 7, ev_no, ev_ild 203 2, ev_ptf 206 17 3 0, ev_no, ev_no, ev_ald 208 4, ev_no],
  [ev_psh 209 (.int (Int32.ofInt 1)), ev_ldi 210 0, ev_cm0 213 245 (fun x => Nat.ble (ev_sg x) (ev_sg 0)), ev_no, ev_no, ev_ald 215 7, ev_no, ev_get 218 17 0, ev_no, ev_no, ev_ald 220 4, ev_no, ev_psh 221 (.int (Int32.ofInt 0)), ev_ldi 222 0, ev_cmp 225 245 (fun x y => !Nat.beq (ev_bits x) (ev_bits y)), ev_no],
  [ev_no, ev_ald 227 7, ev_no, ev_ald 229 7, ev_no, ev_get 232 17 1, ev_no, ev_no, ev_ald 234 4, ev_no, ev_psh 235 (.int (Int32.ofInt 1)), ev_ldi 236 0, ev_no, ev_no, ev_no, ev_ptf 242 17 1 0],
  [ev_no, ev_no, ev_psh 243 (.int (Int32.ofInt 1)), ev_ist 245 5, ev_no, ev_jmp 139, ev_no, ev_no, ev_ald 250 4, ev_no, ev_psh 251 (.int (Int32.ofInt 1)), ev_ldi 252 0, ev_cm0 255 110 (fun x => Nat.beq (ev_bits x) (ev_bits 0)), ev_no, ev_no, ev_ild 257 5],
  [ev_no, ev_cm0 260 263 (fun x => Nat.beq (ev_bits x) (ev_bits 0)), ev_no, ev_no, ev_jmp 110, ev_no, ev_no, ev_new 266 17 4 [.int 0, .int 0, .int 0, .int 0], ev_no, ev_no, ev_dup 267, ev_ini cf 270 38 1, ev_no, ev_no, ev_ast 272 6, ev_no],
  [ev_ald 274 6, ev_no, ev_ald 276 4, ev_no, ev_psh 277 (.int (Int32.ofInt 0)), ev_ldi 278 0, ev_ptf 281 17 0 0, ev_no, ev_no, ev_ald 283 6, ev_no, ev_ald 285 4, ev_no, ev_psh 286 (.int (Int32.ofInt 1)), ev_ldi 287 0, ev_ptf 290 17 1 0],
  [ev_no, ev_no, ev_ald 292 6, ev_no, ev_ild 293 2, ev_ptf 296 17 2 0, ev_no, ev_no, ev_ald 297 1, ev_ald 299 6, ev_no, ev_inr cf 302 6 2 4, ev_no, ev_no, ev_drop 303, ev_jmp 110],
  [ev_no, ev_no, ev_ald 307 1, ev_rta fin]]
noncomputable def ev_o43 {α : Type} (cf : Nat → List Value → ev_W → Option ev_R) (fin : Option Value → ev_W → Nat → Option α) : List (List (ev_O α)) := [[ev_ild 1 1, ev_cm0 4 11 (fun x => !Nat.beq (ev_bits x) (ev_bits 0)), ev_no, ev_no, ev_ild 5 0, ev_psh 7 (.int (Int8.ofInt 100).toInt32), ev_no, ev_div 8 (fun x y => x / y), ev_jmp 30, ev_no, ev_no, ev_ild 12 1, ev_psh 13 (.int (Int32.ofInt 1)), ev_cmp 16 26 (fun x y => !Nat.beq (ev_bits x) (ev_bits y)), ev_no, ev_no],
  [ev_ild 17 0, ev_psh 19 (.int (Int8.ofInt 10).toInt32), ev_no, ev_div 20 (fun x y => x / y), ev_psh 22 (.int (Int8.ofInt 10).toInt32), ev_no, ev_div 23 (fun x y => x - x / y * y), ev_jmp 30, ev_no, ev_no, ev_ild 27 0, ev_psh 29 (.int (Int8.ofInt 10).toInt32), ev_no, ev_div 30 (fun x y => x - x / y * y), ev_rti fin]]
noncomputable def ev_o44 {α : Type} (cf : Nat → List Value → ev_W → Option ev_R) (fin : Option Value → ev_W → Nat → Option α) : List (List (ev_O α)) := [[ev_ald 1 0, ev_psh 2 .null, ev_ptf 5 18 9 1, ev_no, ev_no, ev_ald 6 0, ev_psh 7 .null, ev_ptf 10 18 10 1, ev_no, ev_no, ev_rtv fin]]
noncomputable def ev_o45 {α : Type} (cf : Nat → List Value → ev_W → Option ev_R) (fin : Option Value → ev_W → Nat → Option α) : List (List (ev_O α)) := [[ev_ald 1 0, ev_obj 4, ev_no, ev_no, ev_ald 5 0, ev_psh 7 (.int (Int8.ofInt 6).toInt32), ev_no, ev_nwa 9 0 (.int 0), ev_no, ev_dup 10, ev_psh 11 (.int (Int32.ofInt 0)), ev_psh 12 (.int (Int32.ofInt 0)), ev_sti 13 0 (fun x => x), ev_dup 14, ev_psh 15 (.int (Int32.ofInt 1)), ev_psh 16 (.int (Int32.ofInt 1))],
  [ev_sti 17 0 (fun x => x), ev_dup 18, ev_psh 19 (.int (Int32.ofInt 2)), ev_psh 20 (.int (Int32.ofInt 2)), ev_sti 21 0 (fun x => x), ev_dup 22, ev_psh 23 (.int (Int32.ofInt 3)), ev_psh 24 (.int (Int32.ofInt 3)), ev_sti 25 0 (fun x => x), ev_dup 26, ev_psh 27 (.int (Int32.ofInt 4)), ev_psh 28 (.int (Int32.ofInt 4)), ev_sti 29 0 (fun x => x), ev_dup 30, ev_psh 31 (.int (Int32.ofInt 5)), ev_psh 32 (.int (Int32.ofInt 5))],
  [ev_sti 33 0 (fun x => x), ev_ptf 36 18 1 1, ev_no, ev_no, ev_ald 37 0, ev_new 40 4 3 [.int 0, .null, .int 0], ev_no, ev_no, ev_dup 41, ev_ini cf 44 10 1, ev_no, ev_no, ev_ptf 47 18 3 1, ev_no, ev_no, ev_ald 48 0],
  [ev_new 51 4 3 [.int 0, .null, .int 0], ev_no, ev_no, ev_dup 52, ev_ini cf 55 10 1, ev_no, ev_no, ev_ptf 58 18 4 1, ev_no, ev_no, ev_ald 59 0, ev_new 62 4 3 [.int 0, .null, .int 0], ev_no, ev_no, ev_dup 63, ev_ini cf 66 10 1],
  [ev_no, ev_no, ev_ptf 69 18 5 1, ev_no, ev_no, ev_ald 70 0, ev_new 73 4 3 [.int 0, .null, .int 0], ev_no, ev_no, ev_dup 74, ev_ini cf 77 10 1, ev_no, ev_no, ev_ptf 80 18 6 1, ev_no, ev_no],
  [ev_ald 81 0, ev_psh 82 (.int (Int32.ofInt (-1))), ev_ptf 85 18 7 0, ev_no, ev_no, ev_rtv fin]]
noncomputable def ev_o46 {α : Type} (cf : Nat → List Value → ev_W → Option ev_R) (fin : Option Value → ev_W → Nat → Option α) : List (List (ev_O α)) := [[ev_ild 1 0, ev_ild 2 1, ev_cmp 5 14 (fun x y => Nat.blt (ev_sg x) (ev_sg y)), ev_no, ev_no, ev_ild 6 0, ev_ild 7 2, ev_cmp 10 14 (fun x y => Nat.blt (ev_sg y) (ev_sg x)), ev_no, ev_no, ev_psh 11 (.int (Int32.ofInt 1)), ev_jmp 15, ev_no, ev_no, ev_psh 15 (.int (Int32.ofInt 0)), ev_rtz fin]]
noncomputable def ev_o47 {α : Type} (cf : Nat → List Value → ev_W → Option ev_R) (fin : Option Value → ev_W → Nat → Option α) : List (List (ev_O α)) := [[ev_ild 1 0, ev_psh 2 (.int (Int32.ofInt 0)), ev_psh 5 (.int (Int16.ofInt 555).toInt32), ev_no, ev_no, ev_inv cf 8 46 3, ev_no, ev_no, ev_cm0 11 45 (fun x => Nat.beq (ev_bits x) (ev_bits 0)), ev_no, ev_no, ev_ild 12 0, ev_psh 13 (.int (Int32.ofInt 0)), ev_inv cf 16 43 2, ev_no, ev_no],
  [ev_psh 18 (.int (Int8.ofInt 6).toInt32), ev_no, ev_cmp 21 45 (fun x y => Nat.ble (ev_sg y) (ev_sg x)), ev_no, ev_no, ev_ild 22 0, ev_psh 23 (.int (Int32.ofInt 1)), ev_inv cf 26 43 2, ev_no, ev_no, ev_psh 28 (.int (Int8.ofInt 6).toInt32), ev_no, ev_cmp 31 45 (fun x y => Nat.ble (ev_sg y) (ev_sg x)), ev_no, ev_no, ev_ild 32 0],
  [ev_psh 33 (.int (Int32.ofInt 2)), ev_inv cf 36 43 2, ev_no, ev_no, ev_psh 38 (.int (Int8.ofInt 6).toInt32), ev_no, ev_cmp 41 45 (fun x y => Nat.ble (ev_sg y) (ev_sg x)), ev_no, ev_no, ev_psh 42 (.int (Int32.ofInt 1)), ev_jmp 46, ev_no, ev_no, ev_psh 46 (.int (Int32.ofInt 0)), ev_rtz fin]]
noncomputable def ev_o48 {α : Type} (cf : Nat → List Value → ev_W → Option ev_R) (fin : Option Value → ev_W → Nat → Option α) : List (List (ev_O α)) := [[ev_psh 1 (.int (Int32.ofInt 4)), ev_nwa 3 0 (.int 0), ev_no, ev_dup 4, ev_psh 5 (.int (Int32.ofInt 0)), ev_psh 7 (.int (Int8.ofInt 9).toInt32), ev_no, ev_sti 8 0 (fun x => x), ev_dup 9, ev_psh 10 (.int (Int32.ofInt 1)), ev_psh 12 (.int (Int8.ofInt 9).toInt32), ev_no, ev_sti 13 0 (fun x => x), ev_dup 14, ev_psh 15 (.int (Int32.ofInt 2)), ev_psh 17 (.int (Int8.ofInt 9).toInt32)],
  [ev_no, ev_sti 18 0 (fun x => x), ev_dup 19, ev_psh 20 (.int (Int32.ofInt 3)), ev_psh 22 (.int (Int8.ofInt 9).toInt32), ev_no, ev_sti 23 0 (fun x => x), ev_rta fin]]
noncomputable def ev_o49 {α : Type} (cf : Nat → List Value → ev_W → Option ev_R) (fin : Option Value → ev_W → Nat → Option α) : List (List (ev_O α)) := [[ev_psh 1 (.int (Int32.ofInt 0)), ev_ist 2 3, ev_psh 3 (.int (Int32.ofInt 0)), ev_ist 5 4, ev_no, ev_ild 7 4, ev_no, ev_psh 8 (.int (Int32.ofInt 3)), ev_cmp 11 55 (fun x y => Nat.ble (ev_sg y) (ev_sg x)), ev_no, ev_no, ev_ild 12 1, ev_ild 14 4, ev_no, ev_inv cf 17 43 2, ev_no],
  [ev_no, ev_ist 19 5, ev_no, ev_psh 21 (.int (Int8.ofInt 6).toInt32), ev_no, ev_ild 22 3, ev_bin 23 (fun x y => x * y), ev_ild 25 5, ev_no, ev_psh 27 (.int (Int8.ofInt 6).toInt32), ev_no, ev_cmp 30 40 (fun x y => Nat.ble (ev_sg y) (ev_sg x)), ev_no, ev_no, ev_ald 31 0, ev_get 34 18 1],
  [ev_no, ev_no, ev_ild 36 5, ev_no, ev_ldi 37 0, ev_jmp 47, ev_no, ev_no, ev_ald 41 2, ev_ild 43 5, ev_no, ev_psh 45 (.int (Int8.ofInt 6).toInt32), ev_no, ev_bin 46 (fun x y => x - y), ev_ldi 47 0, ev_bin 48 (fun x y => x + y)],
  [ev_ist 49 3, ev_inc 52 4 (Int32.ofInt 1), ev_no, ev_no, ev_jmp 5, ev_no, ev_no, ev_ild 56 3, ev_rti fin]]
noncomputable def ev_o50 {α : Type} (cf : Nat → List Value → ev_W → Option ev_R) (fin : Option Value → ev_W → Nat → Option α) : List (List (ev_O α)) := [[ev_ald 1 0, ev_ild 2 1, ev_inv cf 5 48 0, ev_no, ev_no, ev_inr cf 8 49 3 18, ev_no, ev_no, ev_rti fin]]
noncomputable def ev_o51 {α : Type} (cf : Nat → List Value → ev_W → Option ev_R) (fin : Option Value → ev_W → Nat → Option α) : List (List (ev_O α)) := [[ev_ald 1 0, ev_psh 2 (.int (Int32.ofInt 0)), ev_ptf 5 18 0 0, ev_no, ev_no, ev_ild 6 1, ev_inv cf 9 47 1, ev_no, ev_no, ev_cm0 12 22 (fun x => Nat.beq (ev_bits x) (ev_bits 0)), ev_no, ev_no, ev_ild 13 2, ev_psh 14 (.int (Int32.ofInt 1)), ev_psh 16 (.int (Int8.ofInt 9).toInt32), ev_no],
  [ev_inv cf 19 46 3, ev_no, ev_no, ev_cm0 22 28 (fun x => !Nat.beq (ev_bits x) (ev_bits 0)), ev_no, ev_no, ev_ald 23 0, ev_psh 24 (.int (Int32.ofInt 1)), ev_no, ev_no, ev_no, ev_rti fin, ev_ald 29 0, ev_get 32 18 4, ev_no, ev_no],
  [ev_inr cf 35 12 1 4, ev_no, ev_no, ev_psh 37 (.int (Int8.ofInt 12).toInt32), ev_no, ev_cmp 40 46 (fun x y => !Nat.beq (ev_bits x) (ev_bits y)), ev_no, ev_no, ev_ald 41 0, ev_psh 42 (.int (Int32.ofInt 2)), ev_no, ev_no, ev_no, ev_rti fin, ev_ald 47 0, ev_get 50 18 4],
  [ev_no, ev_no, ev_psh 51 (.int (Int32.ofInt 2)), ev_nwa 53 0 (.int 0), ev_no, ev_dup 54, ev_psh 55 (.int (Int32.ofInt 0)), ev_ild 56 1, ev_sti 57 0 (fun x => x), ev_dup 58, ev_psh 59 (.int (Int32.ofInt 1)), ev_ild 60 2, ev_sti 61 0 (fun x => x), ev_inr cf 64 6 2 4, ev_no, ev_no],
  [ev_drop 65, ev_ald 66 0, ev_get 69 18 4, ev_no, ev_no, ev_inr cf 72 12 1 4, ev_no, ev_no, ev_rti fin]]
noncomputable def ev_o52 {α : Type} (cf : Nat → List Value → ev_W → Option ev_R) (fin : Option Value → ev_W → Nat → Option α) : List (List (ev_O α)) := [[ev_ald 1 0, ev_get 4 18 0, ev_no, ev_no, ev_rti fin]]
noncomputable def ev_o53 {α : Type} (cf : Nat → List Value → ev_W → Option ev_R) (fin : Option Value → ev_W → Nat → Option α) : List (List (ev_O α)) := [[ev_psh 3 (.int (Int16.ofInt 216).toInt32), ev_no, ev_no, ev_nwa 5 1 (.int 0), ev_no, ev_ast 7 4, ev_no, ev_ald 8 1, ev_inr cf 11 11 1 4, ev_no, ev_no, ev_ast 13 5, ev_no, ev_ald 15 5, ev_no, ev_inr cf 20 2 1 3],
  [ev_no, ev_no, ev_no, ev_no, ev_cm0 23 69 (fun x => Nat.beq (ev_bits x) (ev_bits 0)), ev_no, ev_no, ev_ald 25 5, ev_no, ev_inr cf 30 4 1 3, ev_no, ev_no, ev_no, ev_no, ev_cst 33 20, ev_no],
  [ev_no, ev_ast 35 6, ev_no, ev_ald 37 6, ev_no, ev_ild 38 2, ev_inr cf 41 37 2 17, ev_no, ev_no, ev_cm0 44 66 (fun x => Nat.beq (ev_bits x) (ev_bits 0)), ev_no, ev_no, ev_ald 46 6, ev_no, ev_get 49 17 1, ev_no],
  [ev_no, ev_ild 50 3, ev_cmp 53 66 (fun x y => Nat.blt (ev_sg x) (ev_sg y)), ev_no, ev_no, ev_ald 55 4, ev_no, ev_ald 56 0, ev_ald 58 6, ev_no, ev_get 61 17 0, ev_no, ev_no, ev_inr cf 64 50 2 18, ev_no, ev_no],
  [ev_psh 65 (.int (Int32.ofInt 1)), ev_sti 66 1 (fun x => vp_nar .boolean x), ev_jmp 13, ev_no, ev_no, ev_ald 71 4, ev_no, ev_rta fin]]
noncomputable def ev_o54 {α : Type} (cf : Nat → List Value → ev_W → Option ev_R) (fin : Option Value → ev_W → Nat → Option α) : List (List (ev_O α)) := [[ev_ald 1 0, ev_psh 2 (.int (Int32.ofInt 0)), ev_ptf 5 18 0 0, ev_no, ev_no, ev_ild 6 1, ev_inv cf 9 47 1, ev_no, ev_no, ev_cm0 12 18 (fun x => !Nat.beq (ev_bits x) (ev_bits 0)), ev_no, ev_no, ev_ald 13 0, ev_psh 14 (.int (Int32.ofInt 1)), ev_no, ev_no],
  [ev_no, ev_rti fin, ev_ald 19 0, ev_get 22 18 4, ev_no, ev_no, ev_inr cf 25 12 1 4, ev_no, ev_no, ev_psh 27 (.int (Int8.ofInt 12).toInt32), ev_no, ev_cmp 30 36 (fun x y => !Nat.beq (ev_bits x) (ev_bits y)), ev_no, ev_no, ev_ald 31 0, ev_psh 32 (.int (Int32.ofInt 2))],
  [ev_no, ev_no, ev_no, ev_rti fin, ev_ald 37 0, ev_get 40 18 4, ev_no, ev_no, ev_psh 41 (.int (Int32.ofInt 2)), ev_nwa 43 0 (.int 0), ev_no, ev_dup 44, ev_psh 45 (.int (Int32.ofInt 0)), ev_ild 46 1, ev_sti 47 0 (fun x => x), ev_dup 48],
  [ev_psh 49 (.int (Int32.ofInt 1)), ev_psh 50 (.int (Int32.ofInt 0)), ev_sti 51 0 (fun x => x), ev_inr cf 54 6 2 4, ev_no, ev_no, ev_drop 55, ev_ald 56 0, ev_get 59 18 4, ev_no, ev_no, ev_inr cf 62 12 1 4, ev_no, ev_no, ev_rti fin]]
noncomputable def ev_o55 {α : Type} (cf : Nat → List Value → ev_W → Option ev_R) (fin : Option Value → ev_W → Nat → Option α) : List (List (ev_O α)) := [[ev_ald 1 0, ev_obj 4, ev_no, ev_no, ev_ald 5 0, ev_psh 7 (.int (Int8.ofInt 10).toInt32), ev_no, ev_nwa 9 0 (.int 0), ev_no, ev_ptf 12 6 0 1, ev_no, ev_no, ev_rtv fin]]
noncomputable def ev_o56 {α : Type} (cf : Nat → List Value → ev_W → Option ev_R) (fin : Option Value → ev_W → Nat → Option α) : List (List (ev_O α)) := [[ev_ald 1 0, ev_obj 4, ev_no, ev_no, ev_ald 5 0, ev_psh 8 (.int (Int16.ofInt 556).toInt32), ev_no, ev_no, ev_nwa 10 0 (.int 0), ev_no, ev_ptf 13 7 0 1, ev_no, ev_no, ev_rtv fin]]
noncomputable def ev_o57 {α : Type} (cf : Nat → List Value → ev_W → Option ev_R) (fin : Option Value → ev_W → Nat → Option α) : List (List (ev_O α)) := [[ev_ald 1 0, ev_obj 4, ev_no, ev_no, ev_ald 5 0, ev_psh 8 (.int (Int16.ofInt 648).toInt32), ev_no, ev_no, ev_nwa 10 0 (.int 0), ev_no, ev_ptf 13 8 0 1, ev_no, ev_no, ev_ald 14 0, ev_psh 17 (.int (Int16.ofInt 648).toInt32), ev_no],
  [ev_no, ev_nwa 19 0 (.int 0), ev_no, ev_ptf 22 8 1 1, ev_no, ev_no, ev_ald 23 0, ev_psh 26 (.int (Int16.ofInt 648).toInt32), ev_no, ev_no, ev_nwa 28 0 (.int 0), ev_no, ev_ptf 31 8 2 1, ev_no, ev_no, ev_ald 32 0],
  [ev_psh 35 (.int (Int16.ofInt 648).toInt32), ev_no, ev_no, ev_nwa 37 0 (.int 0), ev_no, ev_ptf 40 8 3 1, ev_no, ev_no, ev_ald 41 0, ev_new 44 6 2 [.null, .int 0], ev_no, ev_no, ev_dup 45, ev_ini cf 48 55 1, ev_no, ev_no],
  [ev_ptf 51 8 4 1, ev_no, ev_no, ev_rtv fin]]
noncomputable def ev_o58 {α : Type} (cf : Nat → List Value → ev_W → Option ev_R) (fin : Option Value → ev_W → Nat → Option α) : List (List (ev_O α)) := [[ev_ald 1 0, ev_get 4 9 0, ev_no, ev_no, ev_ild 5 1, ev_psh 6 (.int (Int32.ofInt 0)), ev_inv cf 9 22 3, ev_no, ev_no, ev_rti fin]]
noncomputable def ev_o59 {α : Type} (cf : Nat → List Value → ev_W → Option ev_R) (fin : Option Value → ev_W → Nat → Option α) : List (List (ev_O α)) := [[ev_ald 1 0, ev_ild 2 1, ev_psh 4 (.int (Int8.ofInt 100).toInt32), ev_no, ev_div 5 (fun x y => x / y), ev_inr cf 8 58 2 9, ev_no, ev_no, ev_psh 10 (.int (Int8.ofInt 100).toInt32), ev_no, ev_bin 11 (fun x y => x * y), ev_ald 12 0, ev_ild 13 1, ev_psh 15 (.int (Int8.ofInt 10).toInt32), ev_no, ev_div 16 (fun x y => x / y)],
  [ev_psh 18 (.int (Int8.ofInt 10).toInt32), ev_no, ev_div 19 (fun x y => x - x / y * y), ev_inr cf 22 58 2 9, ev_no, ev_no, ev_psh 24 (.int (Int8.ofInt 10).toInt32), ev_no, ev_bin 25 (fun x y => x * y), ev_bin 26 (fun x y => x + y), ev_ald 27 0, ev_ild 28 1, ev_psh 30 (.int (Int8.ofInt 10).toInt32), ev_no, ev_div 31 (fun x y => x - x / y * y), ev_inr cf 34 58 2 9],
  [ev_no, ev_no, ev_bin 35 (fun x y => x + y), ev_rti fin]]
noncomputable def ev_o60 {α : Type} (cf : Nat → List Value → ev_W → Option ev_R) (fin : Option Value → ev_W → Nat → Option α) : List (List (ev_O α)) := [[ev_ald 1 0, ev_obj 4, ev_no, ev_no, ev_ald 5 0, ev_psh 7 (.int (Int8.ofInt 6).toInt32), ev_no, ev_nwa 9 0 (.int 0), ev_no, ev_ptf 12 9 0 1, ev_no, ev_no, ev_ald 13 0, ev_inr cf 16 61 1 9, ev_no, ev_no],
  [ev_rtv fin]]
noncomputable def ev_o61 {α : Type} (cf : Nat → List Value → ev_W → Option ev_R) (fin : Option Value → ev_W → Nat → Option α) : List (List (ev_O α)) := [[ev_psh 1 (.int (Int32.ofInt 0)), ev_ist 2 1, ev_ild 3 1, ev_ald 4 0, ev_get 7 9 0, ev_no, ev_no, ev_aln 8, ev_cmp 11 24 (fun x y => Nat.ble (ev_sg y) (ev_sg x)), ev_no, ev_no, ev_ald 12 0, ev_get 15 9 0, ev_no, ev_no, ev_ild 16 1],
  [ev_ild 17 1, ev_sti 18 0 (fun x => x), ev_inc 21 1 (Int32.ofInt 1), ev_no, ev_no, ev_jmp 2, ev_no, ev_no, ev_rtv fin]]
noncomputable def ev_o62 {α : Type} (cf : Nat → List Value → ev_W → Option ev_R) (fin : Option Value → ev_W → Nat → Option α) : List (List (ev_O α)) := [[ev_ald 1 0, ev_obj 4, ev_no, ev_no, ev_ald 5 0, ev_psh 8 (.int (Int16.ofInt 556).toInt32), ev_no, ev_no, ev_nwa 10 0 (.int 0), ev_no, ev_ptf 13 10 0 1, ev_no, ev_no, ev_ald 14 0, ev_psh 17 (.int (Int16.ofInt 556).toInt32), ev_no],
  [ev_no, ev_nwa 19 0 (.int 0), ev_no, ev_ptf 22 10 1 1, ev_no, ev_no, ev_ald 23 0, ev_psh 26 (.int (Int16.ofInt 556).toInt32), ev_no, ev_no, ev_nwa 28 0 (.int 0), ev_no, ev_ptf 31 10 2 1, ev_no, ev_no, ev_rtv fin]]
noncomputable def ev_o63 {α : Type} (cf : Nat → List Value → ev_W → Option ev_R) (fin : Option Value → ev_W → Nat → Option α) : List (List (ev_O α)) := [[ev_ald 1 0, ev_obj 4, ev_no, ev_no, ev_ald 5 0, ev_psh 6 (.int (Int32.ofInt 3)), ev_nwa 8 0 (.int 0), ev_no, ev_ptf 11 11 0 1, ev_no, ev_no, ev_ald 12 0, ev_psh 13 (.int (Int32.ofInt 3)), ev_nwa 15 0 (.int 0), ev_no, ev_ptf 18 11 1 1],
  [ev_no, ev_no, ev_ald 19 0, ev_psh 22 (.int (Int16.ofInt 1296).toInt32), ev_no, ev_no, ev_nwa 24 0 (.int 0), ev_no, ev_ptf 27 11 2 1, ev_no, ev_no, ev_ald 28 0, ev_new 31 6 2 [.null, .int 0], ev_no, ev_no, ev_dup 32],
  [ev_ini cf 35 55 1, ev_no, ev_no, ev_ptf 38 11 3 1, ev_no, ev_no, ev_ald 39 0, ev_new 42 6 2 [.null, .int 0], ev_no, ev_no, ev_dup 43, ev_ini cf 46 55 1, ev_no, ev_no, ev_ptf 49 11 4 1, ev_no],
  [ev_no, ev_ald 50 0, ev_psh 51 (.int (Int32.ofInt (-1))), ev_ptf 54 11 7 0, ev_no, ev_no, ev_rtv fin]]
noncomputable def ev_o64 {α : Type} (cf : Nat → List Value → ev_W → Option ev_R) (fin : Option Value → ev_W → Nat → Option α) : List (List (ev_O α)) := [[ev_ald 1 0, ev_ild 2 1, ev_inr cf 5 70 2 12, ev_no, ev_no, ev_ist 7 5, ev_no, ev_ild 9 5, ev_no, ev_psh 10 (.int (Int32.ofInt (-1))), ev_cmp 13 37 (fun x y => Nat.beq (ev_bits x) (ev_bits y)), ev_no, ev_no, ev_ald 14 0, ev_get 17 12 2, ev_no],
  [ev_no, ev_ild 19 5, ev_no, ev_ild 20 3, ev_ald 21 0, ev_get 24 12 2, ev_no, ev_no, ev_ild 26 5, ev_no, ev_psh 27 (.int (Int32.ofInt 0)), ev_inv cf 30 22 3, ev_no, ev_no, ev_no, ev_no],
  [ev_no, ev_inv cf 36 31 3, ev_no, ev_no, ev_rtv fin, ev_ald 38 0, ev_get 41 12 0, ev_no, ev_no, ev_ald 42 0, ev_get 45 12 5, ev_no, ev_no, ev_ild 46 1, ev_inv cf 49 31 3, ev_no],
  [ev_no, ev_ald 50 0, ev_get 53 12 1, ev_no, ev_no, ev_ald 54 0, ev_get 57 12 5, ev_no, ev_no, ev_ild 58 2, ev_inv cf 61 31 3, ev_no, ev_no, ev_ald 62 0, ev_get 65 12 2, ev_no],
  [ev_no, ev_ald 66 0, ev_get 69 12 5, ev_no, ev_no, ev_ild 70 3, ev_inv cf 73 31 3, ev_no, ev_no, ev_ald 74 0, ev_get 77 12 3, ev_no, ev_no, ev_ald 78 0, ev_get 81 12 5, ev_no],
  [ev_no, ev_ild 83 4, ev_no, ev_inv cf 86 31 3, ev_no, ev_no, ev_ald 87 0, ev_get 90 12 4, ev_no, ev_no, ev_ald 91 0, ev_get 94 12 5, ev_no, ev_no, ev_psh 95 (.int (Int32.ofInt (-1))), ev_inv cf 98 31 3],
  [ev_no, ev_no, ev_ald 99 0, ev_dup 100, ev_get 103 12 5, ev_no, ev_no, ev_psh 104 (.int (Int32.ofInt 1)), ev_bin 105 (fun x y => x + y), ev_ptf 108 12 5 0, ev_no, ev_no, ev_rtv fin]]
noncomputable def ev_o65 {α : Type} (cf : Nat → List Value → ev_W → Option ev_R) (fin : Option Value → ev_W → Nat → Option α) : List (List (ev_O α)) := [[ev_ald 1 0, ev_ald 2 1, ev_get 5 12 5, ev_no, ev_no, ev_ptf 8 12 5 0, ev_no, ev_no, ev_ald 9 1, ev_get 12 12 0, ev_no, ev_no, ev_ald 13 0, ev_get 16 12 0, ev_no, ev_no],
  [ev_ald 17 0, ev_get 20 12 5, ev_no, ev_no, ev_inv cf 23 27 3, ev_no, ev_no, ev_ald 24 1, ev_get 27 12 1, ev_no, ev_no, ev_ald 28 0, ev_get 31 12 1, ev_no, ev_no, ev_ald 32 0],
  [ev_get 35 12 5, ev_no, ev_no, ev_inv cf 38 27 3, ev_no, ev_no, ev_ald 39 1, ev_get 42 12 2, ev_no, ev_no, ev_ald 43 0, ev_get 46 12 2, ev_no, ev_no, ev_ald 47 0, ev_get 50 12 5],
  [ev_no, ev_no, ev_inv cf 53 27 3, ev_no, ev_no, ev_ald 54 1, ev_get 57 12 3, ev_no, ev_no, ev_ald 58 0, ev_get 61 12 3, ev_no, ev_no, ev_ald 62 0, ev_get 65 12 5, ev_no],
  [ev_no, ev_inv cf 68 27 3, ev_no, ev_no, ev_ald 69 1, ev_get 72 12 4, ev_no, ev_no, ev_ald 73 0, ev_get 76 12 4, ev_no, ev_no, ev_ald 77 0, ev_get 80 12 5, ev_no, ev_no],
  [ev_inv cf 83 27 3, ev_no, ev_no, ev_rtv fin]]
noncomputable def ev_o66 {α : Type} (cf : Nat → List Value → ev_W → Option ev_R) (fin : Option Value → ev_W → Nat → Option α) : List (List (ev_O α)) := [[ev_psh 1 (.int (Int32.ofInt 0)), ev_ist 2 3, ev_ild 3 3, ev_ald 4 0, ev_get 7 12 5, ev_no, ev_no, ev_cmp 10 46 (fun x y => Nat.ble (ev_sg y) (ev_sg x)), ev_no, ev_no, ev_ald 11 0, ev_ild 12 3, ev_inr cf 15 69 2 12, ev_no, ev_no, ev_cm0 18 40 (fun x => Nat.beq (ev_bits x) (ev_bits 0))],
  [ev_no, ev_no, ev_ald 19 0, ev_get 22 12 1, ev_no, ev_no, ev_ild 23 3, ev_psh 24 (.int (Int32.ofInt (-1))), ev_inv cf 27 22 3, ev_no, ev_no, ev_ild 28 1, ev_cmp 31 40 (fun x y => !Nat.beq (ev_bits x) (ev_bits y)), ev_no, ev_no, ev_ald 32 0],
  [ev_get 35 12 4, ev_no, ev_no, ev_ild 36 3, ev_ild 37 2, ev_inv cf 40 31 3, ev_no, ev_no, ev_inc 43 3 (Int32.ofInt 1), ev_no, ev_no, ev_jmp 2, ev_no, ev_no, ev_rtv fin]]
noncomputable def ev_o67 {α : Type} (cf : Nat → List Value → ev_W → Option ev_R) (fin : Option Value → ev_W → Nat → Option α) : List (List (ev_O α)) := [[ev_ald 1 0, ev_get 4 12 3, ev_no, ev_no, ev_ild 5 1, ev_psh 6 (.int (Int32.ofInt 0)), ev_inv cf 9 22 3, ev_no, ev_no, ev_ild 10 2, ev_cmp 13 38 (fun x y => Nat.blt (ev_sg y) (ev_sg x)), ev_no, ev_no, ev_ald 14 0, ev_ild 15 1, ev_inr cf 18 69 2 12],
  [ev_no, ev_no, ev_cm0 21 34 (fun x => !Nat.beq (ev_bits x) (ev_bits 0)), ev_no, ev_no, ev_ild 22 2, ev_ald 23 0, ev_get 26 12 4, ev_no, ev_no, ev_ild 27 1, ev_psh 28 (.int (Int32.ofInt 0)), ev_inv cf 31 22 3, ev_no, ev_no, ev_cmp 34 38 (fun x y => Nat.ble (ev_sg y) (ev_sg x))],
  [ev_no, ev_no, ev_psh 35 (.int (Int32.ofInt 1)), ev_jmp 39, ev_no, ev_no, ev_psh 39 (.int (Int32.ofInt 0)), ev_rtz fin]]
noncomputable def ev_o68 {α : Type} (cf : Nat → List Value → ev_W → Option ev_R) (fin : Option Value → ev_W → Nat → Option α) : List (List (ev_O α)) := [[ev_ald 1 0, ev_obj 4, ev_no, ev_no, ev_ald 5 0, ev_psh 7 (.int (Int8.ofInt 72).toInt32), ev_no, ev_nwa 9 0 (.int 0), ev_no, ev_ptf 12 12 0 1, ev_no, ev_no, ev_ald 13 0, ev_psh 15 (.int (Int8.ofInt 72).toInt32), ev_no, ev_nwa 17 0 (.int 0)],
  [ev_no, ev_ptf 20 12 1 1, ev_no, ev_no, ev_ald 21 0, ev_psh 23 (.int (Int8.ofInt 72).toInt32), ev_no, ev_nwa 25 0 (.int 0), ev_no, ev_ptf 28 12 2 1, ev_no, ev_no, ev_ald 29 0, ev_psh 31 (.int (Int8.ofInt 72).toInt32), ev_no, ev_nwa 33 0 (.int 0)],
  [ev_no, ev_ptf 36 12 3 1, ev_no, ev_no, ev_ald 37 0, ev_psh 39 (.int (Int8.ofInt 72).toInt32), ev_no, ev_nwa 41 0 (.int 0), ev_no, ev_ptf 44 12 4 1, ev_no, ev_no, ev_rtv fin]]
noncomputable def ev_o69 {α : Type} (cf : Nat → List Value → ev_W → Option ev_R) (fin : Option Value → ev_W → Nat → Option α) : List (List (ev_O α)) := [[ev_ald 1 0, ev_get 4 12 4, ev_no, ev_no, ev_ild 5 1, ev_psh 6 (.int (Int32.ofInt 0)), ev_inv cf 9 22 3, ev_no, ev_no, ev_psh 10 (.int (Int32.ofInt (-1))), ev_cmp 13 17 (fun x y => !Nat.beq (ev_bits x) (ev_bits y)), ev_no, ev_no, ev_psh 14 (.int (Int32.ofInt 1)), ev_jmp 18, ev_no],
  [ev_no, ev_psh 18 (.int (Int32.ofInt 0)), ev_rtz fin]]
noncomputable def ev_o70 {α : Type} (cf : Nat → List Value → ev_W → Option ev_R) (fin : Option Value → ev_W → Nat → Option α) : List (List (ev_O α)) := [[ev_psh 1 (.int (Int32.ofInt 0)), ev_ist 2 2, ev_ild 3 2, ev_ald 4 0, ev_get 7 12 5, ev_no, ev_no, ev_cmp 10 39 (fun x y => Nat.ble (ev_sg y) (ev_sg x)), ev_no, ev_no, ev_ald 11 0, ev_ild 12 2, ev_inr cf 15 69 2 12, ev_no, ev_no, ev_cm0 18 33 (fun x => Nat.beq (ev_bits x) (ev_bits 0))],
  [ev_no, ev_no, ev_ald 19 0, ev_get 22 12 0, ev_no, ev_no, ev_ild 23 2, ev_psh 24 (.int (Int32.ofInt (-1))), ev_inv cf 27 22 3, ev_no, ev_no, ev_ild 28 1, ev_cmp 31 33 (fun x y => !Nat.beq (ev_bits x) (ev_bits y)), ev_no, ev_no, ev_ild 32 2],
  [ev_rti fin, ev_inc 36 2 (Int32.ofInt 1), ev_no, ev_no, ev_jmp 2, ev_no, ev_no, ev_psh 40 (.int (Int32.ofInt (-1))), ev_rti fin]]
noncomputable def ev_o71 {α : Type} (cf : Nat → List Value → ev_W → Option ev_R) (fin : Option Value → ev_W → Nat → Option α) : List (List (ev_O α)) := [[ev_psh 1 (.int (Int32.ofInt 0)), ev_ist 3 4, ev_no, ev_ild 5 4, ev_no, ev_ald 6 1, ev_get 9 5 2, ev_no, ev_no, ev_cmp 12 76 (fun x y => Nat.ble (ev_sg y) (ev_sg x)), ev_no, ev_no, ev_ald 13 1, ev_get 16 5 0, ev_no, ev_no],
  [ev_ild 18 4, ev_no, ev_psh 19 (.int (Int32.ofInt 0)), ev_inv cf 22 22 3, ev_no, ev_no, ev_ist 24 5, ev_no, ev_ald 25 1, ev_get 28 5 1, ev_no, ev_no, ev_ild 30 4, ev_no, ev_psh 31 (.int (Int32.ofInt 0)), ev_inv cf 34 22 3],
  [ev_no, ev_no, ev_ist 36 6, ev_no, ev_ild 38 6, ev_no, ev_cm0 41 55 (fun x => !Nat.beq (ev_bits x) (ev_bits 0)), ev_no, ev_no, ev_ald 42 0, ev_ald 43 3, ev_ild 45 5, ev_no, ev_inr cf 48 59 2 9, ev_no, ev_no],
  [ev_ild 49 2, ev_inr cf 52 66 3 12, ev_no, ev_no, ev_jmp 70, ev_no, ev_no, ev_ald 56 0, ev_ild 58 5, ev_no, ev_ald 59 3, ev_ild 61 5, ev_no, ev_inr cf 64 59 2 9, ev_no, ev_no],
  [ev_ild 66 6, ev_no, ev_ild 67 2, ev_inr cf 70 64 5 12, ev_no, ev_no, ev_inc 73 4 (Int32.ofInt 1), ev_no, ev_no, ev_jmp 3, ev_no, ev_no, ev_rtv fin]]
noncomputable def ev_o72 {α : Type} (cf : Nat → List Value → ev_W → Option ev_R) (fin : Option Value → ev_W → Nat → Option α) : List (List (ev_O α)) := [[ev_ald 1 0, ev_obj 4, ev_no, ev_no, ev_ald 5 0, ev_psh 6 (.int (Int32.ofInt 3)), ev_nwa 8 0 (.int 0), ev_no, ev_ptf 11 13 0 1, ev_no, ev_no, ev_ald 12 0, ev_psh 13 (.int (Int32.ofInt 3)), ev_nwa 15 0 (.int 0), ev_no, ev_ptf 18 13 1 1],
  [ev_no, ev_no, ev_ald 19 0, ev_psh 20 (.int (Int32.ofInt 3)), ev_nwa 22 0 (.int 0), ev_no, ev_ptf 25 13 2 1, ev_no, ev_no, ev_rtv fin]]
noncomputable def ev_o73 {α : Type} (cf : Nat → List Value → ev_W → Option ev_R) (fin : Option Value → ev_W → Nat → Option α) : List (List (ev_O α)) := [[ev_psh 1 (.int (Int32.ofInt 0)), ev_ist 2 2, ev_psh 3 (.int (Int32.ofInt 0)), ev_ist 4 3, ev_ild 5 3, ev_psh 7 (.int (Int8.ofInt 6).toInt32), ev_no, ev_cmp 10 28 (fun x y => Nat.ble (ev_sg y) (ev_sg x)), ev_no, ev_no, ev_ald 11 0, ev_ild 12 3, ev_ald 13 1, ev_inr cf 16 76 3 14, ev_no, ev_no],
  [ev_cm0 19 22 (fun x => Nat.beq (ev_bits x) (ev_bits 0)), ev_no, ev_no, ev_inc 22 2 (Int32.ofInt 1), ev_no, ev_no, ev_inc 25 3 (Int32.ofInt 1), ev_no, ev_no, ev_jmp 4, ev_no, ev_no, ev_ild 29 2, ev_rti fin]]
noncomputable def ev_o74 {α : Type} (cf : Nat → List Value → ev_W → Option ev_R) (fin : Option Value → ev_W → Nat → Option α) : List (List (ev_O α)) := [[ev_ald 1 0, ev_get 4 14 0, ev_no, ev_no, ev_psh 5 (.int (Int32.ofInt 0)), ev_inv cf 8 28 2, ev_no, ev_no, ev_psh 9 (.int (Int32.ofInt 0)), ev_ist 10 3, ev_ild 11 3, ev_ald 12 1, ev_get 15 12 5, ev_no, ev_no, ev_cmp 18 78 (fun x y => Nat.ble (ev_sg y) (ev_sg x))],
  [ev_no, ev_no, ev_ald 19 1, ev_ild 20 3, ev_ild 21 2, ev_inr cf 24 67 3 12, ev_no, ev_no, ev_cm0 27 72 (fun x => Nat.beq (ev_bits x) (ev_bits 0)), ev_no, ev_no, ev_ald 28 1, ev_get 31 12 1, ev_no, ev_no, ev_ild 32 3],
  [ev_psh 33 (.int (Int32.ofInt 0)), ev_inv cf 36 22 3, ev_no, ev_no, ev_ist 38 4, ev_no, ev_ild 40 4, ev_no, ev_psh 42 (.int (Int8.ofInt 10).toInt32), ev_no, ev_div 43 (fun x y => x / y), ev_ist 45 5, ev_no, ev_ald 46 0, ev_get 49 14 0, ev_no],
  [ev_no, ev_ild 51 5, ev_no, ev_ald 52 0, ev_get 55 14 0, ev_no, ev_no, ev_ild 57 5, ev_no, ev_psh 58 (.int (Int32.ofInt 0)), ev_inv cf 61 22 3, ev_no, ev_no, ev_psh 62 (.int (Int32.ofInt 1)), ev_ild 64 4, ev_no],
  [ev_psh 66 (.int (Int8.ofInt 10).toInt32), ev_no, ev_div 67 (fun x y => x - x / y * y), ev_bin 68 (fun x y => x <<< (y &&& 31)), ev_bin 69 (fun x y => x ||| y), ev_inv cf 72 31 3, ev_no, ev_no, ev_inc 75 3 (Int32.ofInt 1), ev_no, ev_no, ev_jmp 10, ev_no, ev_no, ev_rtv fin]]
noncomputable def ev_o75 {α : Type} (cf : Nat → List Value → ev_W → Option ev_R) (fin : Option Value → ev_W → Nat → Option α) : List (List (ev_O α)) := [[ev_ald 1 0, ev_obj 4, ev_no, ev_no, ev_ald 5 0, ev_psh 7 (.int (Int8.ofInt 56).toInt32), ev_no, ev_nwa 9 0 (.int 0), ev_no, ev_ptf 12 14 0 1, ev_no, ev_no, ev_rtv fin]]
noncomputable def ev_o76 {α : Type} (cf : Nat → List Value → ev_W → Option ev_R) (fin : Option Value → ev_W → Nat → Option α) : List (List (ev_O α)) := [[ev_psh 1 (.int (Int32.ofInt 0)), ev_ist 2 3, ev_ild 3 3, ev_psh 5 (.int (Int8.ofInt 6).toInt32), ev_no, ev_cmp 8 56 (fun x y => Nat.ble (ev_sg y) (ev_sg x)), ev_no, ev_no, ev_ild 9 1, ev_psh 11 (.int (Int8.ofInt 10).toInt32), ev_no, ev_bin 12 (fun x y => x * y), ev_ald 13 2, ev_ild 14 3, ev_inr cf 17 58 2 9, ev_no],
  [ev_no, ev_bin 18 (fun x y => x + y), ev_ist 20 4, ev_no, ev_ald 21 2, ev_get 24 9 1, ev_no, ev_no, ev_ild 25 3, ev_inv cf 28 30 2, ev_no, ev_no, ev_cm0 31 50 (fun x => Nat.beq (ev_bits x) (ev_bits 0)), ev_no, ev_no, ev_ald 32 0],
  [ev_get 35 14 0, ev_no, ev_no, ev_ild 37 4, ev_no, ev_psh 38 (.int (Int32.ofInt 0)), ev_inv cf 41 22 3, ev_no, ev_no, ev_no, ev_no, ev_no, ev_psh 45 (.int (Int32.ofInt 1)), ev_cmp 48 50 (fun x y => Nat.ble (ev_sg x) (ev_sg y)), ev_no, ev_no],
  [ev_psh 49 (.int (Int32.ofInt 1)), ev_rtz fin, ev_inc 53 3 (Int32.ofInt 1), ev_no, ev_no, ev_jmp 2, ev_no, ev_no, ev_psh 57 (.int (Int32.ofInt 0)), ev_rtz fin]]
noncomputable def ev_tabs {α : Type} (cf : Nat → List Value → ev_W → Option ev_R) (fin : Option Value → ev_W → Nat → Option α) : List (List Value × List (List (ev_O α))) := [([], ev_o0 cf fin),
  ([], ev_o1 cf fin),
  ([], ev_o2 cf fin),
  ([], ev_o3 cf fin),
  ([.retAddr 0, .retAddr 0], ev_o4 cf fin),
  ([], ev_o5 cf fin),
  ([], ev_o6 cf fin),
  ([.retAddr 0, .retAddr 0, .retAddr 0], ev_o7 cf fin),
  ([.retAddr 0, .retAddr 0], ev_o8 cf fin),
  ([], ev_o9 cf fin),
  ([], ev_o10 cf fin),
  ([], ev_o11 cf fin),
  ([], ev_o12 cf fin),
  ([], ev_o13 cf fin),
  ([], ev_o14 cf fin),
  ([.retAddr 0], ev_o15 cf fin),
  ([.retAddr 0, .retAddr 0, .retAddr 0, .retAddr 0, .retAddr 0, .retAddr 0], ev_o16 cf fin),
  ([.retAddr 0], ev_o17 cf fin),
  ([.retAddr 0], ev_o18 cf fin),
  ([], ev_o19 cf fin),
  ([.retAddr 0], ev_o20 cf fin),
  ([], ev_o21 cf fin),
  ([], ev_o22 cf fin),
  ([], ev_o23 cf fin),
  ([], ev_o24 cf fin),
  ([], ev_o25 cf fin),
  ([], ev_o26 cf fin),
  ([.retAddr 0], ev_o27 cf fin),
  ([.retAddr 0], ev_o28 cf fin),
  ([], ev_o29 cf fin),
  ([], ev_o30 cf fin),
  ([], ev_o31 cf fin),
  ([], ev_o32 cf fin),
  ([], ev_o33 cf fin),
  ([], ev_o34 cf fin),
  ([], ev_o35 cf fin),
  ([], ev_o36 cf fin),
  ([], ev_o37 cf fin),
  ([], ev_o38 cf fin),
  ([.retAddr 0, .retAddr 0, .retAddr 0, .retAddr 0, .retAddr 0, .retAddr 0, .retAddr 0], ev_o39 cf fin),
  ([], ev_o40 cf fin),
  ([.retAddr 0, .retAddr 0, .retAddr 0], ev_o41 cf fin),
  ([.retAddr 0, .retAddr 0, .retAddr 0, .retAddr 0, .retAddr 0, .retAddr 0, .retAddr 0], ev_o42 cf fin),
  ([], ev_o43 cf fin),
  ([], ev_o44 cf fin),
  ([], ev_o45 cf fin),
  ([], ev_o46 cf fin),
  ([], ev_o47 cf fin),
  ([], ev_o48 cf fin),
  ([.retAddr 0, .retAddr 0, .retAddr 0], ev_o49 cf fin),
  ([], ev_o50 cf fin),
  ([], ev_o51 cf fin),
  ([], ev_o52 cf fin),
  ([.retAddr 0, .retAddr 0, .retAddr 0], ev_o53 cf fin),
  ([], ev_o54 cf fin),
  ([], ev_o55 cf fin),
  ([], ev_o56 cf fin),
  ([], ev_o57 cf fin),
  ([], ev_o58 cf fin),
  ([], ev_o59 cf fin),
  ([], ev_o60 cf fin),
  ([.retAddr 0], ev_o61 cf fin),
  ([], ev_o62 cf fin),
  ([], ev_o63 cf fin),
  ([.retAddr 0], ev_o64 cf fin),
  ([], ev_o65 cf fin),
  ([.retAddr 0], ev_o66 cf fin),
  ([], ev_o67 cf fin),
  ([], ev_o68 cf fin),
  ([], ev_o69 cf fin),
  ([.retAddr 0], ev_o70 cf fin),
  ([.retAddr 0, .retAddr 0, .retAddr 0], ev_o71 cf fin),
  ([], ev_o72 cf fin),
  ([.retAddr 0, .retAddr 0], ev_o73 cf fin),
  ([.retAddr 0, .retAddr 0, .retAddr 0], ev_o74 cf fin),
  ([], ev_o75 cf fin),
  ([.retAddr 0, .retAddr 0], ev_o76 cf fin)]
/-- calls, d deep at most -/
noncomputable def ev_call (d : Nat) : Nat → List Value → ev_W → Option ev_R := Nat.rec (motive := fun _ => Nat → List Value → ev_W → Option ev_R) (fun _ _ _ => none) (fun _ ih y vs w => ev_oc (ev_at (ev_tabs ih (fun r w n => some (r, w, n))) y) fun M => ev_run M.2 (fun _ _ _ _ _ => none) 100000 0 (vs ++ M.1) [] w 0) d
def ev_y_Lib_Math_max_name : Nat := 0
def ev_y_yJx35411_checkForComodification_da8c8 : Nat := 1
def ev_y_yJx35411_hasNext_aae02 : Nat := 2
def ev_y_yJx35411_init_45d68 : Nat := 3
def ev_y_yJx35411_next_0502b : Nat := 4
def ev_y_yJx4a65c_add_72be8 : Nat := 5
def ev_y_yJx4a65c_add_9ea2d : Nat := 6
def ev_y_yJx4a65c_clear_da8c8 : Nat := 7
def ev_y_yJx4a65c_grow_92f84 : Nat := 8
def ev_y_yJx4a65c_grow_d5877 : Nat := 9
def ev_y_yJx4a65c_init_da8c8 : Nat := 10
def ev_y_yJx4a65c_iterator_32c93 : Nat := 11
def ev_y_yJx4a65c_size_8abf5 : Nat := 12
def ev_y_yJxa1e45_init_da8c8 : Nat := 13
def ev_y_yJxc12de_init_da8c8 : Nat := 14
def ev_y_yL_commit : Nat := 15
def ev_y_yL_law : Nat := 16
def ev_y_yL_tell : Nat := 17
def ev_y_yL_unsay : Nat := 18
def ev_y_yX0_add : Nat := 19
def ev_y_yX0_empty : Nat := 20
def ev_y_yX0_init : Nat := 21
def ev_y_yX10_at : Nat := 22
def ev_y_yX10_broken : Nat := 23
def ev_y_yX10_checkBatchRoom : Nat := 24
def ev_y_yX10_checkTriple : Nat := 25
def ev_y_yX10_commit : Nat := 26
def ev_y_yX10_copy : Nat := 27
def ev_y_yX10_fill : Nat := 28
def ev_y_yX10_init : Nat := 29
def ev_y_yX10_isIn : Nat := 30
def ev_y_yX10_put : Nat := 31
def ev_y_yX10_tell : Nat := 32
def ev_y_yX10_toldChanged : Nat := 33
def ev_y_yX10_tryBatch : Nat := 34
def ev_y_yX10_unsay : Nat := 35
def ev_y_yX11_init : Nat := 36
def ev_y_yX12_holds : Nat := 37
def ev_y_yX12_init : Nat := 38
def ev_y_yX13_broken : Nat := 39
def ev_y_yX13_broken_ : Nat := 40
def ev_y_yX13_commit : Nat := 41
def ev_y_yX13_committed : Nat := 42
def ev_y_yX13_digit : Nat := 43
def ev_y_yX13_forget : Nat := 44
def ev_y_yX13_init : Nat := 45
def ev_y_yX13_is : Nat := 46
def ev_y_yX13_isTriple : Nat := 47
def ev_y_yX13_newBinding : Nat := 48
def ev_y_yX13_place : Nat := 49
def ev_y_yX13_place_ : Nat := 50
def ev_y_yX13_tell : Nat := 51
def ev_y_yX13_thrown : Nat := 52
def ev_y_yX13_told : Nat := 53
def ev_y_yX13_unsay : Nat := 54
def ev_y_yX1_init : Nat := 55
def ev_y_yX2_init : Nat := 56
def ev_y_yX3_init : Nat := 57
def ev_y_yX4_headOf : Nat := 58
def ev_y_yX4_headsOf : Nat := 59
def ev_y_yX4_init : Nat := 60
def ev_y_yX4_separate : Nat := 61
def ev_y_yX5_init : Nat := 62
def ev_y_yX6_init : Nat := 63
def ev_y_yX7_begin : Nat := 64
def ev_y_yX7_copyFrom : Nat := 65
def ev_y_yX7_end : Nat := 66
def ev_y_yX7_holdsIn : Nat := 67
def ev_y_yX7_init : Nat := 68
def ev_y_yX7_isOpen : Nat := 69
def ev_y_yX7_openRowOf : Nat := 70
def ev_y_yX7_take : Nat := 71
def ev_y_yX8_init : Nat := 72
def ev_y_yX9_brokenHeads : Nat := 73
def ev_y_yX9_gather : Nat := 74
def ev_y_yX9_init : Nat := 75
def ev_y_yX9_isBrokenFor : Nat := 76
