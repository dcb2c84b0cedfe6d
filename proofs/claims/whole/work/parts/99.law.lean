/-! ===== from the law's entry ===== -/
def zM0 : zM := (fun _ _ => 0, fun _ _ => 0, fun _ _ => zNul, 0)
def zfl : List Cond := flatC (Jvm.Cond.and given_1 narrow_1)
def zkL : List (Nat × Nat) := [(10, 68), (12, 280), (12, 282), (12, 163), (12, 284), (12, 286), (12, 334), (12, 165), (12, 166), (12, 167), (12, 169), (12, 171), (12, 173), (12, 174), (12, 176), (12, 178), (12, 180), (12, 336), (12, 262), (12, 276), (12, 278)]
def ztm (i : Nat) : Term := .string (zcn (zkL.getD i (0, 0)).1) (zkL.getD i (0, 0)).2
def zp1 : List Nat := [100, 208, 219, 230, 243, 258, 271, 284, 300, 316, 333, 353, 372, 391, 416, 438, 460, 483, 506, 531, 557]
theorem zf1_a : ((List.range 21).all fun i => decide (zfl[zp1.getD i 0]? = some (Cond.exactly (ztm i) "java/lang/String"))) = true := by decide +kernel
theorem zf1 : ∀ i, i < znS → Cond.exactly (ztm i) "java/lang/String" ∈ zfl := fun i hi => List.mem_of_getElem? (of_decide_eq_true (List.all_eq_true.mp zf1_a i (List.mem_range.mpr hi)))
def zp2 : List Nat := [101, 209, 220, 231, 244, 259, 272, 285, 301, 317, 334, 354, 373, 392, 417, 439, 461, 484, 507, 532, 558]
theorem zf2_a : ((List.range 21).all fun i => decide (zfl[zp2.getD i 0]? = some (Cond.eq (.field (ztm i) "java/lang/String" "coder" "B") (.int 0)))) = true := by decide +kernel
theorem zf2 : ∀ i, i < znS → Cond.eq (.field (ztm i) "java/lang/String" "coder" "B") (.int 0) ∈ zfl := fun i hi => List.mem_of_getElem? (of_decide_eq_true (List.all_eq_true.mp zf2_a i (List.mem_range.mpr hi)))
def zp3 : List Nat := [102, 210, 221, 232, 245, 260, 273, 286, 302, 318, 335, 355, 374, 393, 418, 440, 462, 485, 508, 533, 559]
theorem zf3_a : ((List.range 21).all fun i => decide (zfl[zp3.getD i 0]? = some (Cond.arrayOf (.field (ztm i) "java/lang/String" "value" "[B") .byte))) = true := by decide +kernel
theorem zf3 : ∀ i, i < znS → Cond.arrayOf (.field (ztm i) "java/lang/String" "value" "[B") .byte ∈ zfl := fun i hi => List.mem_of_getElem? (of_decide_eq_true (List.all_eq_true.mp zf3_a i (List.mem_range.mpr hi)))
def zp4 : List Nat := [103, 211, 222, 233, 246, 261, 274, 287, 303, 319, 336, 356, 375, 394, 419, 441, 463, 486, 509, 534, 560]
theorem zf4_a : ((List.range 21).all fun i => decide (zfl[zp4.getD i 0]? = some (Cond.eq (.length (.field (ztm i) "java/lang/String" "value" "[B")) (.int (Int32.ofNat (zleL.getD i 0)))))) = true := by decide +kernel
theorem zf4 : ∀ i, i < znS → Cond.eq (.length (.field (ztm i) "java/lang/String" "value" "[B")) (.int (Int32.ofNat (zleL.getD i 0))) ∈ zfl := fun i hi => List.mem_of_getElem? (of_decide_eq_true (List.all_eq_true.mp zf4_a i (List.mem_range.mpr hi)))
theorem zf5_0 : ((List.range 104).all fun j => decide (zfl[104 + j]? = some (Cond.eq (.elem (.field (ztm 0) "java/lang/String" "value" "[B") (.int (Int32.ofNat j))) (.int ((zbyL.getD 0 []).getD j 0))))) = true := by decide +kernel
theorem zf5_1 : ((List.range 6).all fun j => decide (zfl[212 + j]? = some (Cond.eq (.elem (.field (ztm 1) "java/lang/String" "value" "[B") (.int (Int32.ofNat j))) (.int ((zbyL.getD 1 []).getD j 0))))) = true := by decide +kernel
theorem zf5_2 : ((List.range 5).all fun j => decide (zfl[223 + j]? = some (Cond.eq (.elem (.field (ztm 2) "java/lang/String" "value" "[B") (.int (Int32.ofNat j))) (.int ((zbyL.getD 2 []).getD j 0))))) = true := by decide +kernel
theorem zf5_3 : ((List.range 6).all fun j => decide (zfl[234 + j]? = some (Cond.eq (.elem (.field (ztm 3) "java/lang/String" "value" "[B") (.int (Int32.ofNat j))) (.int ((zbyL.getD 3 []).getD j 0))))) = true := by decide +kernel
theorem zf5_4 : ((List.range 7).all fun j => decide (zfl[247 + j]? = some (Cond.eq (.elem (.field (ztm 4) "java/lang/String" "value" "[B") (.int (Int32.ofNat j))) (.int ((zbyL.getD 4 []).getD j 0))))) = true := by decide +kernel
theorem zf5_5 : ((List.range 4).all fun j => decide (zfl[262 + j]? = some (Cond.eq (.elem (.field (ztm 5) "java/lang/String" "value" "[B") (.int (Int32.ofNat j))) (.int ((zbyL.getD 5 []).getD j 0))))) = true := by decide +kernel
theorem zf5_6 : ((List.range 3).all fun j => decide (zfl[275 + j]? = some (Cond.eq (.elem (.field (ztm 6) "java/lang/String" "value" "[B") (.int (Int32.ofNat j))) (.int ((zbyL.getD 6 []).getD j 0))))) = true := by decide +kernel
theorem zf5_7 : ((List.range 5).all fun j => decide (zfl[288 + j]? = some (Cond.eq (.elem (.field (ztm 7) "java/lang/String" "value" "[B") (.int (Int32.ofNat j))) (.int ((zbyL.getD 7 []).getD j 0))))) = true := by decide +kernel
theorem zf5_8 : ((List.range 4).all fun j => decide (zfl[304 + j]? = some (Cond.eq (.elem (.field (ztm 8) "java/lang/String" "value" "[B") (.int (Int32.ofNat j))) (.int ((zbyL.getD 8 []).getD j 0))))) = true := by decide +kernel
theorem zf5_9 : ((List.range 4).all fun j => decide (zfl[320 + j]? = some (Cond.eq (.elem (.field (ztm 9) "java/lang/String" "value" "[B") (.int (Int32.ofNat j))) (.int ((zbyL.getD 9 []).getD j 0))))) = true := by decide +kernel
theorem zf5_10 : ((List.range 6).all fun j => decide (zfl[337 + j]? = some (Cond.eq (.elem (.field (ztm 10) "java/lang/String" "value" "[B") (.int (Int32.ofNat j))) (.int ((zbyL.getD 10 []).getD j 0))))) = true := by decide +kernel
theorem zf5_11 : ((List.range 4).all fun j => decide (zfl[357 + j]? = some (Cond.eq (.elem (.field (ztm 11) "java/lang/String" "value" "[B") (.int (Int32.ofNat j))) (.int ((zbyL.getD 11 []).getD j 0))))) = true := by decide +kernel
theorem zf5_12 : ((List.range 3).all fun j => decide (zfl[376 + j]? = some (Cond.eq (.elem (.field (ztm 12) "java/lang/String" "value" "[B") (.int (Int32.ofNat j))) (.int ((zbyL.getD 12 []).getD j 0))))) = true := by decide +kernel
theorem zf5_13 : ((List.range 8).all fun j => decide (zfl[395 + j]? = some (Cond.eq (.elem (.field (ztm 13) "java/lang/String" "value" "[B") (.int (Int32.ofNat j))) (.int ((zbyL.getD 13 []).getD j 0))))) = true := by decide +kernel
theorem zf5_14 : ((List.range 4).all fun j => decide (zfl[420 + j]? = some (Cond.eq (.elem (.field (ztm 14) "java/lang/String" "value" "[B") (.int (Int32.ofNat j))) (.int ((zbyL.getD 14 []).getD j 0))))) = true := by decide +kernel
theorem zf5_15 : ((List.range 3).all fun j => decide (zfl[442 + j]? = some (Cond.eq (.elem (.field (ztm 15) "java/lang/String" "value" "[B") (.int (Int32.ofNat j))) (.int ((zbyL.getD 15 []).getD j 0))))) = true := by decide +kernel
theorem zf5_16 : ((List.range 3).all fun j => decide (zfl[464 + j]? = some (Cond.eq (.elem (.field (ztm 16) "java/lang/String" "value" "[B") (.int (Int32.ofNat j))) (.int ((zbyL.getD 16 []).getD j 0))))) = true := by decide +kernel
theorem zf5_17 : ((List.range 2).all fun j => decide (zfl[487 + j]? = some (Cond.eq (.elem (.field (ztm 17) "java/lang/String" "value" "[B") (.int (Int32.ofNat j))) (.int ((zbyL.getD 17 []).getD j 0))))) = true := by decide +kernel
theorem zf5_18 : ((List.range 3).all fun j => decide (zfl[510 + j]? = some (Cond.eq (.elem (.field (ztm 18) "java/lang/String" "value" "[B") (.int (Int32.ofNat j))) (.int ((zbyL.getD 18 []).getD j 0))))) = true := by decide +kernel
theorem zf5_19 : ((List.range 3).all fun j => decide (zfl[535 + j]? = some (Cond.eq (.elem (.field (ztm 19) "java/lang/String" "value" "[B") (.int (Int32.ofNat j))) (.int ((zbyL.getD 19 []).getD j 0))))) = true := by decide +kernel
theorem zf5_20 : ((List.range 2).all fun j => decide (zfl[561 + j]? = some (Cond.eq (.elem (.field (ztm 20) "java/lang/String" "value" "[B") (.int (Int32.ofNat j))) (.int ((zbyL.getD 20 []).getD j 0))))) = true := by decide +kernel
theorem zf5 : ∀ i, i < znS → ∀ j, j < zleL.getD i 0 → Cond.eq (.elem (.field (ztm i) "java/lang/String" "value" "[B") (.int (Int32.ofNat j))) (.int ((zbyL.getD i []).getD j 0)) ∈ zfl := by
  intro i hi j hj
  have hi2 : i < 21 := hi
  rcases (show i = 0 ∨ i = 1 ∨ i = 2 ∨ i = 3 ∨ i = 4 ∨ i = 5 ∨ i = 6 ∨ i = 7 ∨ i = 8 ∨ i = 9 ∨ i = 10 ∨ i = 11 ∨ i = 12 ∨ i = 13 ∨ i = 14 ∨ i = 15 ∨ i = 16 ∨ i = 17 ∨ i = 18 ∨ i = 19 ∨ i = 20 by omega) with rfl | rfl | rfl | rfl | rfl | rfl | rfl | rfl | rfl | rfl | rfl | rfl | rfl | rfl | rfl | rfl | rfl | rfl | rfl | rfl | rfl
  · exact List.mem_of_getElem? (of_decide_eq_true (List.all_eq_true.mp zf5_0 j (List.mem_range.mpr hj)))
  · exact List.mem_of_getElem? (of_decide_eq_true (List.all_eq_true.mp zf5_1 j (List.mem_range.mpr hj)))
  · exact List.mem_of_getElem? (of_decide_eq_true (List.all_eq_true.mp zf5_2 j (List.mem_range.mpr hj)))
  · exact List.mem_of_getElem? (of_decide_eq_true (List.all_eq_true.mp zf5_3 j (List.mem_range.mpr hj)))
  · exact List.mem_of_getElem? (of_decide_eq_true (List.all_eq_true.mp zf5_4 j (List.mem_range.mpr hj)))
  · exact List.mem_of_getElem? (of_decide_eq_true (List.all_eq_true.mp zf5_5 j (List.mem_range.mpr hj)))
  · exact List.mem_of_getElem? (of_decide_eq_true (List.all_eq_true.mp zf5_6 j (List.mem_range.mpr hj)))
  · exact List.mem_of_getElem? (of_decide_eq_true (List.all_eq_true.mp zf5_7 j (List.mem_range.mpr hj)))
  · exact List.mem_of_getElem? (of_decide_eq_true (List.all_eq_true.mp zf5_8 j (List.mem_range.mpr hj)))
  · exact List.mem_of_getElem? (of_decide_eq_true (List.all_eq_true.mp zf5_9 j (List.mem_range.mpr hj)))
  · exact List.mem_of_getElem? (of_decide_eq_true (List.all_eq_true.mp zf5_10 j (List.mem_range.mpr hj)))
  · exact List.mem_of_getElem? (of_decide_eq_true (List.all_eq_true.mp zf5_11 j (List.mem_range.mpr hj)))
  · exact List.mem_of_getElem? (of_decide_eq_true (List.all_eq_true.mp zf5_12 j (List.mem_range.mpr hj)))
  · exact List.mem_of_getElem? (of_decide_eq_true (List.all_eq_true.mp zf5_13 j (List.mem_range.mpr hj)))
  · exact List.mem_of_getElem? (of_decide_eq_true (List.all_eq_true.mp zf5_14 j (List.mem_range.mpr hj)))
  · exact List.mem_of_getElem? (of_decide_eq_true (List.all_eq_true.mp zf5_15 j (List.mem_range.mpr hj)))
  · exact List.mem_of_getElem? (of_decide_eq_true (List.all_eq_true.mp zf5_16 j (List.mem_range.mpr hj)))
  · exact List.mem_of_getElem? (of_decide_eq_true (List.all_eq_true.mp zf5_17 j (List.mem_range.mpr hj)))
  · exact List.mem_of_getElem? (of_decide_eq_true (List.all_eq_true.mp zf5_18 j (List.mem_range.mpr hj)))
  · exact List.mem_of_getElem? (of_decide_eq_true (List.all_eq_true.mp zf5_19 j (List.mem_range.mpr hj)))
  · exact List.mem_of_getElem? (of_decide_eq_true (List.all_eq_true.mp zf5_20 j (List.mem_range.mpr hj)))
def zp6_0 : List (Nat × Nat × Nat) := [(0, 1, 218), (0, 2, 228), (0, 3, 240), (0, 4, 254), (0, 5, 266), (0, 6, 278), (0, 7, 293), (0, 8, 308), (0, 9, 324), (0, 10, 343), (0, 11, 361), (0, 12, 379), (0, 13, 403), (0, 14, 424), (0, 15, 445), (0, 16, 467), (0, 17, 489), (0, 18, 513), (0, 19, 538), (0, 20, 563), (1, 2, 229), (1, 3, 241), (1, 4, 255), (1, 5, 267), (1, 6, 279), (1, 7, 294), (1, 8, 309), (1, 9, 325), (1, 10, 344), (1, 11, 362)]
theorem zf6_0 : (zp6_0.all fun q => decide (zfl[q.2.2]? = some (Cond.not (Cond.eq (ztm q.1) (ztm q.2.1))))) = true := by decide +kernel
def zp6_1 : List (Nat × Nat × Nat) := [(1, 12, 380), (1, 13, 404), (1, 14, 425), (1, 15, 446), (1, 16, 468), (1, 17, 490), (1, 18, 514), (1, 19, 539), (1, 20, 564), (2, 3, 242), (2, 4, 256), (2, 5, 268), (2, 6, 280), (2, 7, 295), (2, 8, 310), (2, 9, 326), (2, 10, 345), (2, 11, 363), (2, 12, 381), (2, 13, 405), (2, 14, 426), (2, 15, 447), (2, 16, 469), (2, 17, 491), (2, 18, 515), (2, 19, 540), (2, 20, 565), (3, 4, 257), (3, 5, 269), (3, 6, 281)]
theorem zf6_1 : (zp6_1.all fun q => decide (zfl[q.2.2]? = some (Cond.not (Cond.eq (ztm q.1) (ztm q.2.1))))) = true := by decide +kernel
def zp6_2 : List (Nat × Nat × Nat) := [(3, 7, 296), (3, 8, 311), (3, 9, 327), (3, 10, 346), (3, 11, 364), (3, 12, 382), (3, 13, 406), (3, 14, 427), (3, 15, 448), (3, 16, 470), (3, 17, 492), (3, 18, 516), (3, 19, 541), (3, 20, 566), (4, 5, 270), (4, 6, 282), (4, 7, 297), (4, 8, 312), (4, 9, 328), (4, 10, 347), (4, 11, 365), (4, 12, 383), (4, 13, 407), (4, 14, 428), (4, 15, 449), (4, 16, 471), (4, 17, 493), (4, 18, 517), (4, 19, 542), (4, 20, 567)]
theorem zf6_2 : (zp6_2.all fun q => decide (zfl[q.2.2]? = some (Cond.not (Cond.eq (ztm q.1) (ztm q.2.1))))) = true := by decide +kernel
def zp6_3 : List (Nat × Nat × Nat) := [(5, 6, 283), (5, 7, 298), (5, 8, 313), (5, 9, 329), (5, 10, 348), (5, 11, 366), (5, 12, 384), (5, 13, 408), (5, 14, 429), (5, 15, 450), (5, 16, 472), (5, 17, 494), (5, 18, 518), (5, 19, 543), (5, 20, 568), (6, 7, 299), (6, 8, 314), (6, 9, 330), (6, 10, 349), (6, 11, 367), (6, 12, 385), (6, 13, 409), (6, 14, 430), (6, 15, 451), (6, 16, 473), (6, 17, 495), (6, 18, 519), (6, 19, 544), (6, 20, 569), (7, 8, 315)]
theorem zf6_3 : (zp6_3.all fun q => decide (zfl[q.2.2]? = some (Cond.not (Cond.eq (ztm q.1) (ztm q.2.1))))) = true := by decide +kernel
def zp6_4 : List (Nat × Nat × Nat) := [(7, 9, 331), (7, 10, 350), (7, 11, 368), (7, 12, 386), (7, 13, 410), (7, 14, 431), (7, 15, 452), (7, 16, 474), (7, 17, 496), (7, 18, 520), (7, 19, 545), (7, 20, 570), (8, 9, 332), (8, 10, 351), (8, 11, 369), (8, 12, 387), (8, 13, 411), (8, 14, 432), (8, 15, 453), (8, 16, 475), (8, 17, 497), (8, 18, 521), (8, 19, 546), (8, 20, 571), (9, 10, 352), (9, 11, 370), (9, 12, 388), (9, 13, 412), (9, 14, 433), (9, 15, 454)]
theorem zf6_4 : (zp6_4.all fun q => decide (zfl[q.2.2]? = some (Cond.not (Cond.eq (ztm q.1) (ztm q.2.1))))) = true := by decide +kernel
def zp6_5 : List (Nat × Nat × Nat) := [(9, 16, 476), (9, 17, 498), (9, 18, 522), (9, 19, 547), (9, 20, 572), (10, 11, 371), (10, 12, 389), (10, 13, 413), (10, 14, 434), (10, 15, 455), (10, 16, 477), (10, 17, 499), (10, 18, 523), (10, 19, 548), (10, 20, 573), (11, 12, 390), (11, 13, 414), (11, 14, 435), (11, 15, 456), (11, 16, 478), (11, 17, 500), (11, 18, 524), (11, 19, 549), (11, 20, 574), (12, 13, 415), (12, 14, 436), (12, 15, 457), (12, 16, 479), (12, 17, 501), (12, 18, 525)]
theorem zf6_5 : (zp6_5.all fun q => decide (zfl[q.2.2]? = some (Cond.not (Cond.eq (ztm q.1) (ztm q.2.1))))) = true := by decide +kernel
def zp6_6 : List (Nat × Nat × Nat) := [(12, 19, 550), (12, 20, 575), (13, 14, 437), (13, 15, 458), (13, 16, 480), (13, 17, 502), (13, 18, 526), (13, 19, 551), (13, 20, 576), (14, 15, 459), (14, 16, 481), (14, 17, 503), (14, 18, 527), (14, 19, 552), (14, 20, 577), (15, 16, 482), (15, 17, 504), (15, 18, 528), (15, 19, 553), (15, 20, 578), (16, 17, 505), (16, 18, 529), (16, 19, 554), (16, 20, 579), (17, 18, 530), (17, 19, 555), (17, 20, 580), (18, 19, 556), (18, 20, 581), (19, 20, 582)]
theorem zf6_6 : (zp6_6.all fun q => decide (zfl[q.2.2]? = some (Cond.not (Cond.eq (ztm q.1) (ztm q.2.1))))) = true := by decide +kernel
def zp6 : List (Nat × Nat × Nat) := zp6_0 ++ zp6_1 ++ zp6_2 ++ zp6_3 ++ zp6_4 ++ zp6_5 ++ zp6_6
theorem zf6_all : ∀ q ∈ zp6, Cond.not (Cond.eq (ztm q.1) (ztm q.2.1)) ∈ zfl := by
  intro q hq
  have h : (zp6.all fun q => decide (zfl[q.2.2]? = some (Cond.not (Cond.eq (ztm q.1) (ztm q.2.1))))) = true := by
    unfold zp6
    simp only [List.all_append, Bool.and_eq_true]
    exact ⟨⟨⟨⟨⟨⟨zf6_0, zf6_1⟩, zf6_2⟩, zf6_3⟩, zf6_4⟩, zf6_5⟩, zf6_6⟩
  exact List.mem_of_getElem? (of_decide_eq_true (List.all_eq_true.mp h q hq))
theorem zf6_cov : ∀ i, i < 21 → ∀ j, j < 21 → i ≠ j → (zp6.any fun q => (Nat.beq q.1 i && Nat.beq q.2.1 j) || (Nat.beq q.1 j && Nat.beq q.2.1 i)) = true := by decide +kernel
theorem zf6 : ∀ i, i < znS → ∀ j, j < znS → i ≠ j → Cond.not (Cond.eq (ztm i) (ztm j)) ∈ zfl ∨ Cond.not (Cond.eq (ztm j) (ztm i)) ∈ zfl := by
  intro i hi j hj hij
  obtain ⟨q, hq, h⟩ := List.any_eq_true.mp (zf6_cov i hi j hj hij)
  have h2 := zf6_all q hq
  rw [Bool.or_eq_true, Bool.and_eq_true, Bool.and_eq_true] at h
  rcases h with ⟨h3, h4⟩ | ⟨h3, h4⟩
  · rw [Nat.eq_of_beq_eq_true h3, Nat.eq_of_beq_eq_true h4] at h2
    exact Or.inl h2
  · rw [Nat.eq_of_beq_eq_true h3, Nat.eq_of_beq_eq_true h4] at h2
    exact Or.inr h2
def zst4 (j : Nat) : Term := .static (zgs (j + 1)).1 (zgs (j + 1)).2.1 (zgs (j + 1)).2.2
theorem zf7 : ∀ j, j < 4 → Cond.arrayOf (zst4 j) .int ∈ zfl ∧ Cond.eq (.length (zst4 j)) (.int (Int32.ofNat (zsaL.getD j []).length)) ∈ zfl ∧ ∀ k, k < (zsaL.getD j []).length → Cond.eq (.elem (zst4 j) (.int (Int32.ofNat k))) (.int ((zsaL.getD j []).getD k 0)) ∈ zfl := by decide +kernel
theorem zf8 : Cond.eq (.static (zgs 0).1 (zgs 0).2.1 (zgs 0).2.2) (.int 1) ∈ zfl ∧ Cond.isRef (.static (zgs 12).1 (zgs 12).2.1 (zgs 12).2.2) ∈ zfl := by decide +kernel
theorem zf9 : (∀ a, a < 5 → Cond.laysStatic (zgs a).1 (zgs a).2.1 (zgs a).2.2 ∈ lw_tbl) ∧ Cond.laysStatic (zgs 12).1 (zgs 12).2.1 (zgs 12).2.2 ∈ lw_tbl := by decide +kernel
theorem zf10 : (∀ a, a < 5 → Cond.initialized (zgs a).1 ∈ lw_tbl) ∧ Cond.initialized (zgs 12).1 ∈ lw_tbl := by decide +kernel
theorem zf11 : ∀ q ∈ zSL, ztm (q.2.2.1 - 1) = .string (zcn q.1) q.2.1 ∧ Cond.stringRef (zcn q.1) q.2.1 (ztxL.getD (q.2.2.1 - 1) "") ∈ lw_tbl ∧ q.2.2.1 - 1 < znS := by
  intro q hq
  have h := List.all_eq_true.mp zSL_ok q hq
  simp only [decide_eq_true_eq] at h
  have h2 : (zSL.all fun q => decide (ztm (q.2.2.1 - 1) = .string (zcn q.1) q.2.1) && Nat.blt (q.2.2.1 - 1) znS) = true := by decide +kernel
  have h3 := List.all_eq_true.mp h2 q hq
  simp only [Bool.and_eq_true, decide_eq_true_eq] at h3
  exact ⟨h3.1, List.mem_of_getElem? h, Nat.le_of_ble_eq_true h3.2⟩
theorem zf12 : ∀ q ∈ zNM, zNw q ∈ lw_tbl := by
  intro q hq
  have h := List.all_eq_true.mp zNM_ok q hq
  simp only [decide_eq_true_eq] at h
  exact List.mem_of_getElem? h
theorem zclass_of {args : Array Value} {s : State} {t : FieldType} (h : (Cond.arrayClass t).before args s = true) : ∃ cA, s.vm.findClass ("[" ++ t.toString) = some cA ∧ ArrOfT s cA t := by
  obtain ⟨c, k, comp, h1, h2, h3⟩ := Cond.arrayClass_spec h
  exact ⟨c, h1, fun n z => ⟨fun k h => (by cases h), k, h2, comp, h3⟩⟩
theorem zKt_of {args : Array Value} {s : State} (hts : ∀ w ∈ lw_tbl, w.before args s = true) : ∃ dA : Nat → ClassId, zKt dA s := by
  have hz : ∀ w ∈ zbig, w.before args s = true := fun w hw => hts w (List.mem_filter.mp hw).1
  have h : ∀ k, ∃ cA, 20 ≤ k → k ≤ 27 → ArrOfT s cA (zty k) ∧ va_RA s cA (zty k) := by
    intro k
    by_cases hk : 20 ≤ k ∧ k ≤ 27
    · rcases (show k = 20 ∨ k = 21 ∨ k = 22 ∨ k = 23 ∨ k = 24 ∨ k = 25 ∨ k = 26 ∨ k = 27 by omega) with rfl | rfl | rfl | rfl | rfl | rfl | rfl | rfl
      · obtain ⟨cA, h1, h2⟩ := zclass_of (hz _ zarr_in.1)
        exact ⟨cA, fun _ _ => ⟨h2, h1⟩⟩
      · obtain ⟨cA, h1, h2⟩ := zclass_of (hz _ zarr_in.2.1)
        exact ⟨cA, fun _ _ => ⟨h2, h1⟩⟩
      · obtain ⟨cA, h1, h2⟩ := zclass_of (hz _ zarr_in.2.2.1)
        exact ⟨cA, fun _ _ => ⟨h2, h1⟩⟩
      · obtain ⟨cA, h1, h2⟩ := zclass_of (hz _ zarr_in.2.2.2)
        exact ⟨cA, fun _ _ => ⟨h2, h1⟩⟩
      · obtain ⟨comp, c, k, h1, h2, h3, h4, h5⟩ := arrayOverA_spec (hts _ zover_in.1)
        exact ⟨c, fun _ _ => ⟨fun n z => ⟨fun k h => (by cases h), k, h3, comp, h4⟩, h5⟩⟩
      · obtain ⟨comp, c, k, h1, h2, h3, h4, h5⟩ := Cond.arrayOver_spec (hts _ zover_in.2.1)
        exact ⟨c, fun _ _ => ⟨fun n z => ⟨fun k h => (by cases h), k, h3, comp, h4⟩, k, comp, h3, h4, h1, h5⟩⟩
      · obtain ⟨comp, c, k, h1, h2, h3, h4, h5⟩ := Cond.arrayOver_spec (hts _ zover_in.2.2.1)
        exact ⟨c, fun _ _ => ⟨fun n z => ⟨fun k h => (by cases h), k, h3, comp, h4⟩, k, comp, h3, h4, h1, h5⟩⟩
      · obtain ⟨comp, c, k, h1, h2, h3, h4, h5⟩ := Cond.arrayOver_spec (hts _ zover_in.2.2.2)
        exact ⟨c, fun _ _ => ⟨fun n z => ⟨fun k h => (by cases h), k, h3, comp, h4⟩, k, comp, h3, h4, h1, h5⟩⟩
    · exact ⟨0, fun h1 h2 => absurd ⟨h1, h2⟩ hk⟩
  exact ⟨fun k => Classical.choose (h k), fun k h1 h2 => Classical.choose_spec (h k) h1 h2⟩
theorem zKc_of {args : Array Value} {s : State} (hts : ∀ w ∈ lw_tbl, w.before args s = true) : ∃ D : va_G, zKc D s := by
  have hz : ∀ w ∈ zbig, w.before args s = true := fun w hw => hts w (List.mem_filter.mp hw).1
  have h : ∀ c, ∃ q : ClassId × (Nat → Nat), c < 13 → u_Kn s (zcn c) (zcT c) (znf c) q.1 q.2 := by
    intro c
    by_cases hc : c < 13
    · obtain ⟨cC, iS, hK⟩ := u_known (C := zcn c) (T := zcT c) (N := znf c) (n := znf c) hz (zP_in hc) (hz _ (zK_in hc))
      exact ⟨(cC, iS), fun _ => hK⟩
    · exact ⟨(0, fun _ => 0), fun h => absurd h hc⟩
  exact ⟨(fun c => (Classical.choose (h c)).1, fun c => (Classical.choose (h c)).2), fun c hc => Classical.choose_spec (h c) hc⟩
theorem zX_of {args : Array Value} {s : State} (hts : ∀ w ∈ lw_tbl, w.before args s = true) (hgv : ∀ w ∈ zfl, w.before args s = true) {b L : Nat} {xs : Nat → Int32} (hX : va_X b L xs s s.heap) (hbl : b < s.heap.size) : ∃ ad : Nat → Nat, ad 70 = b ∧ zX s.heap.size ad (xs, L) s s.heap ∧ zT ad s := by
  have hA : ∀ a : Nat, a < s.heap.size → ¬ (fun q : Nat => s.heap.size ≤ q) a := fun a h => Nat.not_le.mpr h
  obtain ⟨adK, adV, hS, hSe⟩ := vk_Sof (N := znS) (tm := ztm) (len := zleL) (byt := zbyL) (A := fun q => s.heap.size ≤ q) (by decide +kernel) (fun i hi => hgv _ (zf1 i hi)) (fun i hi => hgv _ (zf2 i hi)) (fun i hi => hgv _ (zf3 i hi)) (fun i hi => hgv _ (zf4 i hi)) (fun i hi j hj => hgv _ (zf5 i hi j hj)) (fun i j hi hj hij => (zf6 i hi j hj hij).imp (hgv _) (hgv _)) hA
  have hst : ∀ j, ∃ t : Nat, j < 4 → (zst4 j).eval args s none [] s = some (.ref t) ∧ va_T .int t (zsaL.getD j []).length (fun k => .int ((zsaL.getD j []).getD k 0)) (fun q => s.heap.size ≤ q) s s.heap := by
    intro j
    by_cases hj : j < 4
    · obtain ⟨g1, g2, g3⟩ := zf7 j hj
      obtain ⟨t, h1, h2⟩ := va_Tof (N := (zsaL.getD j []).length) (f := fun k => .int ((zsaL.getD j []).getD k 0)) (A := fun q => s.heap.size ≤ q) (by
        have : ∀ j, j < 4 → (zsaL.getD j []).length < 2 ^ 31 := by decide +kernel
        exact this j hj) (hgv _ g1) (va_eqt (hgv _ g2)) (fun k hk => va_eqt (hgv _ (g3 k hk))) hA
      exact ⟨t, fun _ => ⟨h1, h2⟩⟩
    · exact ⟨0, fun h => absurd h hj⟩
  obtain ⟨adS, hadS⟩ := Classical.axiomOfChoice hst
  have hq := va_Zqof (C := (zgs 12).1) (n := (zgs 12).2.1) (d := (zgs 12).2.2) (A := fun q => s.heap.size ≤ q) (hts _ zf9.2) (hts _ zf10.2) (hgv _ zf8.2) hA
  obtain ⟨fl, ft, hfm⟩ : ∃ fl ft : Nat, va_Z (zgs 12).1 (zgs 12).2.1 (zgs 12).2.2 (if fl = 0 then .null else .ref ft) (fun q => s.heap.size ≤ q) s s.heap := by
    rcases hq with h | ⟨t, h⟩
    · exact ⟨0, 0, h⟩
    · exact ⟨1, t, h⟩
  refine ⟨fun k => if k < 30 then adK k else if k < 60 then adV (k - 30) else if k < 64 then adS (k - 60) else if k = 70 then b else if k = 71 then fl else ft, rfl, ⟨?_, ?_, ?_, ?_, ?_, ?_⟩, ?_, ?_, ?_⟩
  · refine ⟨fun i hi => ?_, fun i j hi hj h => ?_⟩
    · have h1 := hS.1 i hi
      have hi2 : i < 21 := hi
      dsimp only
      rw [if_pos (show i < 30 by omega), if_neg (show ¬ 30 + i < 30 by omega), if_pos (show 30 + i < 60 by omega), show 30 + i - 30 = i by omega]
      exact h1
    · have hi2 : i < 21 := hi
      have hj2 : j < 21 := hj
      dsimp only at h
      rw [if_pos (show i < 30 by omega), if_pos (show j < 30 by omega)] at h
      exact hS.2 i j hi hj h
  · intro j hj
    dsimp only
    rw [if_neg (show ¬ 60 + j < 30 by omega), if_neg (show ¬ 60 + j < 60 by omega), if_pos (show 60 + j < 64 by omega), show 60 + j - 60 = j by omega]
    have h1 := (hadS j hj).2
    have e1 : zxn (xs, L) (60 + j) = (zsaL.getD j []).length := by
      unfold zxn
      rw [zbqf (show 60 + j ≠ 70 by omega), Nat.ble_eq_true_of_le (show 60 ≤ 60 + j by omega), show 60 + j - 60 = j by omega]
      rfl
    have e2 : (fun k => Value.int (zxf (xs, L) (60 + j) k)) = fun k => .int ((zsaL.getD j []).getD k 0) := by
      funext k
      unfold zxf
      rw [zbqf (show 60 + j ≠ 70 by omega), Nat.ble_eq_true_of_le (show 60 ≤ 60 + j by omega), show 60 + j - 60 = j by omega]
      rfl
    rw [e1, e2]
    exact h1
  · obtain ⟨scr, h1, h2, h3, h4, h5⟩ := hX
    exact ⟨scr, h1, h2, h3, Nat.le_of_eq h4.symm, by rw [h4], h5, Nat.not_le.mpr hbl⟩
  · intro a h1 h2
    obtain ⟨j, rfl⟩ : ∃ j, a = j + 1 := ⟨a - 1, by omega⟩
    dsimp only
    rw [if_neg (show ¬ 59 + (j + 1) < 30 by omega), if_neg (show ¬ 59 + (j + 1) < 60 by omega), if_pos (show 59 + (j + 1) < 64 by omega), show 59 + (j + 1) - 60 = j by omega]
    exact va_Zof (hts _ (zf9.1 (j + 1) (by omega))) (hts _ (zf10.1 (j + 1) (by omega))) (hadS j (by omega)).1 hA
  · exact va_Zof (hts _ (zf9.1 0 (by omega))) (hts _ (zf10.1 0 (by omega))) (va_eqi (hgv _ zf8.1)) hA
  · exact hfm
  · intro q hq
    obtain ⟨g1, g2, g3⟩ := zf11 q hq
    have g4 : q.2.2.1 - 1 < 21 := g3
    dsimp only
    rw [if_pos (show q.2.2.1 - 1 < 30 by omega)]
    have h1 := hSe _ g3
    rw [g1] at h1
    exact vk_R.of (hts _ g2) h1
  · intro q hq
    exact va_Nw.of rfl (hts _ (zf12 q hq))
  · exact ⟨by have h := hts _ zover_in.1; exact h, va_AO.of (hts _ zover_in.2.1), va_AO.of (hts _ zover_in.2.2.1), va_AO.of (hts _ zover_in.2.2.2)⟩
def R_law : String := "ThroneSaleLaw"
def lw_P (b : Addr) (xs : List Int32) (args : Array Value) (s : State) : Prop := args = #[.ref b] ∧ s.IntsAt b xs ∧ xs.length ≤ 3072 ∧ (Jvm.Cond.and given_1 narrow_1).before args s = true
def lw_Q (_ : Array Value) (s : State) (o : Outcome) (t : State) : Prop := o = .returned (some (.int 1)) ∧ Framed s o t [] 600000 7302250
def lw_Z (below : List Frame) (a : Array Value) (s : State) : State → Prop := fun t => ∃ o, t.status = .running ∧ Ended t below o ∧ lw_Q a s o t
/-- the law's own end, with 1 on the stack, nothing written that was there before, its room as the claim has it -/
theorem lw_ret {p : Program} {l : Launch} {e : Env} {s : State} {m : MethodId} {below : List Frame} {meth : Method} {c : Code} {b : Nat} (hx : p.tables.exec = Jvm.exec) (hb : c.code = code) (hr : meth.sig.returnType = ret) (hlocks : meth.locks = false) {pc : Nat} {H : Heap} {ls : Array Slot} (hdg : decode code pc = .ok (.ireturn, 1)) : W p l e room_1 s m #[Value.ref b] below meth c H [] 600000 7302250 (lw_Z below #[Value.ref b] s) (F0 m pc ls [.int 1]) := by
  intro T hT X
  obtain ⟨fs, hret, hrun, hended, hW, hframe⟩ := X.leave (v := some (.int 1)) (hlocks := hlocks) (fun h => by rw [hr] at h; cases h)
  have hmeth' : T.vm.method? m = some meth := X.method'
  refine ⟨T.setFrames fs, ?_, .returned (some (.int 1)), hrun, hended, rfl, ⟨_, rfl⟩, hW, hframe⟩
  jvm_step X.here [X.here.top, hx, hb, hdg, hmeth', hr, ret, narrow_b1]
  (try refine ⟨rfl, ?_⟩); (try refine ⟨rfl, ?_⟩)
  first | (intro acts; rw [hret _ acts rfl rfl rfl]) | rw [hret _ _ rfl rfl rfl]
  exact Steps.refl _
/-- what holds at the law's entry: the machine, the code, the tables' words (any of lw_tbl by 'hts w (by decide +kernel)'), the script of L ints xs at the cell b, what the Statement gives of the start (any of its parts by flat_of_before) -/
def lw_At (p : Program) (s : State) (m : MethodId) (meth : Method) (c : Code) (b L : Nat) (xs : Nat → Int32) : Prop :=
  p.tables.exec = Jvm.exec ∧ c.code = code ∧ meth.sig.returnType = ret ∧ c.maxLocals = 4 ∧ s.vm.findClass R_law = some m.cls ∧ (∀ w ∈ lw_tbl, w.before #[Value.ref b] s = true) ∧ va_X b L xs s s.heap ∧ b < s.heap.size ∧ meth.locks = false ∧ (Jvm.Cond.and given_1 narrow_1).before #[Value.ref b] s = true
theorem zss_505 : zss 505 = 20013 := by decide +kernel
/-- the law's end, if the small machine ends with 1 -/
theorem zstart {p : Program} {e : Env} {s : State} {m : MethodId} {below : List Frame} {meth : Method} {c : Code} (l : Launch) {b L : Nat} {xs : Nat → Int32} (C0 : lw_At p s m meth c b L xs) {n d : Nat} (hd : d ≤ 800) {o : zO} (hrun : zrun (xs, L) n d 0 (0, zloc (zml 0) [.retAddr 70], [], zM0) = some o) (ho : o.1 = some (.int 1)) (hsz : o.2.2.2.2 ≤ 505) : W p l e room_1 s m #[Value.ref b] below meth c s.heap [] 0 0 (lw_Z below #[Value.ref b] s) (entryFrame m ([Value.ref b] : List Value).toArray 4) := by
  obtain ⟨hx, hb, hr, hml, hcl, hts, hX, hbl, hlk, hgv⟩ := C0
  have hz : ∀ w ∈ zbig, w.before #[Value.ref b] s = true := fun w hw => hts w (List.mem_filter.mp hw).1
  obtain ⟨D, hK⟩ := zKc_of hts
  obtain ⟨dA, hKt⟩ := zKt_of hts
  obtain ⟨ad, h70, hZX, hZT⟩ := zX_of hts (fun w hw => flat_of_before _ hgv w hw) hX hbl
  have C1 : zCx p s m #[Value.ref b] meth c room_1 s.heap.size ad dA D (xs, L) (d + 1) 0 := ⟨hx, hb, hml, hcl, hz, hK, hKt, hZX, hZT, Nat.le_refl _, fun h => absurd h (by decide), by show d + 1 ≤ 2048; omega, by show 100 * (d + 1) ≤ 84000; omega, by decide⟩
  have hss : zss o.2.2.2.2 ≤ 20013 := by rw [← zss_505]; exact zss_mono hsz
  have hret : zRet p l e room_1 s m #[Value.ref b] below meth c (lw_Z below #[Value.ref b] s) s.heap.size ad dA D 0 0 o := by
    intro H locs mls pc i st aux X ls gs hW hS hdg hst hg
    rcases (zst_ret hst).2 with ⟨rfl, x, rfl, -, h1⟩ | ⟨-, x, -, -, h1⟩ | ⟨-, v, -, -, h1, h2⟩ | ⟨-, -, -, h1⟩
    · rw [ho] at h1
      cases h1
      refine va_forget hS.2.2 (W.widen (cells := o.2.2.2.2 - 0) (slots := zss o.2.2.2.2 - zss 0) (k := 600000) (n := 7302250) (by omega) (by omega) ?_)
      exact lw_ret hx hb hr hlk hdg
    · rw [ho] at h1
      cases h1
    · rw [ho] at h1
      cases h1
      rcases h2 with ⟨a, h2⟩ | ⟨a, h2⟩ <;> cases h2
    · rw [ho] at h1
      cases h1
  have h := zsound l s.heap.size ad dA D n d 0 _ o hrun C1 (z0 := 0) (Nat.zero_le _) (by show o.2.2.2.2 - 0 ≤ 600000; omega) (by show zss o.2.2.2.2 - zss 0 ≤ 7302250; omega) hret
  have h3 : (zargs [Value.retAddr 70]).length ≤ zml 0 := by decide
  have hl := lv_entry ([Value.retAddr 70].map (ztr s.heap.size ad)) (n := zml 0) (by rw [zsl_len]; exact h3)
  have hE : ([Value.ref b] : List Value) = [Value.retAddr 70].map (ztr s.heap.size ad) := by
    rw [← h70]; rfl
  rw [show entryFrame m ([Value.ref b] : List Value).toArray 4 = entryFrame m ([Value.retAddr 70].map (ztr s.heap.size ad)).toArray 4 from congrArg (fun q => entryFrame m (List.toArray q) 4) hE, lg_entry_eq]
  rw [show zml 0 = 4 from rfl] at hl
  generalize (lg_sl ([Value.retAddr 70].map (ztr s.heap.size ad)) ++ List.replicate (4 - (lg_sl ([Value.retAddr 70].map (ztr s.heap.size ad))).length) Slot.unset).toArray = mls at hl ⊢
  have hlv : zLv s.heap.size ad 4 (zloc 4 [Value.retAddr 70]) mls := ⟨hl.1, hl.2.1, fun q hq => by
    obtain ⟨k, hk, rfl⟩ := zll_mem.mp hq
    have h9 := zargs_sub (base := s.heap.size) (ad := ad) [Value.retAddr 70] _ 0 k hk
    rw [Nat.zero_add] at h9
    exact hl.2.2 _ h9⟩
  exact h s.heap [] mls ⟨rfl, fun a ha => absurd ha (Nat.not_lt_zero _)⟩ va_S.rf hlv
