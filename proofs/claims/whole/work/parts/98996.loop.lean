/-! ===== the law's loop ===== -/
theorem zC_sz {X : (Nat → Int32) × Nat} {d z : Nat} {as : List Value} {M : zM} {o : zO} (h : zC X d z as M = some o) : M.2.2.2 ≤ o.2.2.2.2 := by
  obtain ⟨n, hn⟩ := zR_to X h
  exact zrun_sz _ _ _ _ _ hn
theorem zi_460 {X : (Nat → Int32) × Nat} {d z : Nat} {as : List Value} {M M1 : zM} {v : Option Value} (hI : INV M) (h : zC X d z as M = some (v, M1)) : zis M1 460 12 := by
  have h1 := zC_sz h
  have h2 := hI.1.1
  exact ⟨show 460 < M1.2.2.2 by dsimp only at h1; omega, by decide +kernel⟩
theorem bnd_some {α β : Type} {e : Option α} {o : α} {f : α → Option β} (h : e = some o) : e.bind f = f o := by rw [h]; rfl
/-- one word of the script done, and on to the next -/
def lpQ (X : (Nat → Int32) × Nat) (d p : Nat) (x3 : Int32) (M : zM) : Prop := ∃ M2, INV M2 ∧ zR X (d + 41) 0 (p, [.retAddr 70, .ref 0, .ref 460, .int x3], [], M) = zR X (d + 41) 0 (18, [.retAddr 70, .ref 0, .ref 460, .int (x3 + 6)], [], M2)
theorem lp_180 {X : (Nat → Int32) × Nat} {d : Nat} {x3 : Int32} {M : zM} (hI : INV M) (q1 : vp_in (x3 + 1) (zxn X 70)) (q2 : vp_in (x3 + 2) (zxn X 70)) (q3 : vp_in (x3 + 3) (zxn X 70)) (q4 : vp_in (x3 + 4) (zxn X 70)) (q5 : vp_in (x3 + 5) (zxn X 70)) : lpQ X d 180 x3 M := by
  obtain ⟨v, M1, M2, h1, h2, h3⟩ := o_feed (X := X) (d := d + 30) (x1 := zxf X 70 (Int32.toNatClampNeg (x3 + 1))) (x2 := zxf X 70 (Int32.toNatClampNeg (x3 + 2))) (x3 := zxf X 70 (Int32.toNatClampNeg (x3 + 3))) (x4 := zxf X 70 (Int32.toNatClampNeg (x3 + 4))) (x5 := zxf X 70 (Int32.toNatClampNeg (x3 + 5))) hI
  refine ⟨M2, h3, ?_⟩
  refine (b0_180 (X := X) (d := d + 40) 70 0 460 x3 M (by decide) (by decide) q1 q2 q3 q4 q5 (zis_q hI.1 zq_0)).trans ?_
  refine (bnd_some h1).trans ?_
  refine (b0_209 (X := X) (d := d + 40) 70 0 460 x3 v M1 (by decide) (by decide) q1 q2 q3 q4 q5 (zi_460 hI h1)).trans ?_
  refine (bnd_some h2).trans ?_
  refine (b0_238 (X := X) (d := d + 41) 70 0 460 x3 v v M2).trans ?_
  rw [if_pos rfl]
  exact b0_1009 70 0 460 x3 M2
theorem lp_243 {X : (Nat → Int32) × Nat} {d : Nat} {x3 : Int32} {M : zM} (hI : INV M) (q1 : vp_in (x3 + 1) (zxn X 70)) (q2 : vp_in (x3 + 2) (zxn X 70)) (q3 : vp_in (x3 + 3) (zxn X 70)) (q4 : vp_in (x3 + 4) (zxn X 70)) (q5 : vp_in (x3 + 5) (zxn X 70)) : lpQ X d 243 x3 M := by
  obtain ⟨v, M1, M2, h1, h2, h3⟩ := o_end (X := X) (d := d + 30) (x := zxf X 70 (Int32.toNatClampNeg (x3 + 1))) hI
  refine ⟨M2, h3, ?_⟩
  refine (b0_243 (X := X) (d := d + 40) 70 0 460 x3 M (by decide) (by decide) q1 (zis_q hI.1 zq_0)).trans ?_
  refine (bnd_some h1).trans ?_
  refine (b0_252 (X := X) (d := d + 40) 70 0 460 x3 v M1 (by decide) (by decide) q1 (zi_460 hI h1)).trans ?_
  refine (bnd_some h2).trans ?_
  refine (b0_261 (X := X) (d := d + 41) 70 0 460 x3 v v M2).trans ?_
  rw [if_pos rfl]
  exact b0_1009 70 0 460 x3 M2
theorem lp_266 {X : (Nat → Int32) × Nat} {d : Nat} {x3 : Int32} {M : zM} (hI : INV M) (q1 : vp_in (x3 + 1) (zxn X 70)) (q2 : vp_in (x3 + 2) (zxn X 70)) (q3 : vp_in (x3 + 3) (zxn X 70)) (q4 : vp_in (x3 + 4) (zxn X 70)) (q5 : vp_in (x3 + 5) (zxn X 70)) : lpQ X d 266 x3 M := by
  obtain ⟨v, M1, M2, h1, h2, h3⟩ := o_empire (X := X) (d := d + 0)  hI
  refine ⟨M2, h3, ?_⟩
  refine (b0_266 (X := X) (d := d + 40) 70 0 460 x3 M (zis_q hI.1 zq_0)).trans ?_
  refine (bnd_some h1).trans ?_
  refine (b0_270 (X := X) (d := d + 40) 70 0 460 x3 v M1 (zi_460 hI h1)).trans ?_
  refine (bnd_some h2).trans ?_
  refine (b0_274 (X := X) (d := d + 41) 70 0 460 x3 v v M2).trans ?_
  rw [if_pos rfl]
  exact b0_1009 70 0 460 x3 M2
theorem lp_279 {X : (Nat → Int32) × Nat} {d : Nat} {x3 : Int32} {M : zM} (hI : INV M) (q1 : vp_in (x3 + 1) (zxn X 70)) (q2 : vp_in (x3 + 2) (zxn X 70)) (q3 : vp_in (x3 + 3) (zxn X 70)) (q4 : vp_in (x3 + 4) (zxn X 70)) (q5 : vp_in (x3 + 5) (zxn X 70)) : lpQ X d 279 x3 M := by
  obtain ⟨v, M1, M2, h1, h2, h3⟩ := o_rule (X := X) (d := d + 0)  hI
  refine ⟨M2, h3, ?_⟩
  refine (b0_279 (X := X) (d := d + 40) 70 0 460 x3 M (zis_q hI.1 zq_0)).trans ?_
  refine (bnd_some h1).trans ?_
  refine (b0_283 (X := X) (d := d + 40) 70 0 460 x3 v M1 (zi_460 hI h1)).trans ?_
  refine (bnd_some h2).trans ?_
  refine (b0_287 (X := X) (d := d + 41) 70 0 460 x3 v v M2).trans ?_
  rw [if_pos rfl]
  exact b0_1009 70 0 460 x3 M2
theorem lp_292 {X : (Nat → Int32) × Nat} {d : Nat} {x3 : Int32} {M : zM} (hI : INV M) (q1 : vp_in (x3 + 1) (zxn X 70)) (q2 : vp_in (x3 + 2) (zxn X 70)) (q3 : vp_in (x3 + 3) (zxn X 70)) (q4 : vp_in (x3 + 4) (zxn X 70)) (q5 : vp_in (x3 + 5) (zxn X 70)) : lpQ X d 292 x3 M := by
  obtain ⟨v, M1, M2, h1, h2, h3⟩ := o_force (X := X) (d := d + 30) (x := zxf X 70 (Int32.toNatClampNeg (x3 + 1))) hI
  refine ⟨M2, h3, ?_⟩
  refine (b0_292 (X := X) (d := d + 40) 70 0 460 x3 M (by decide) (by decide) q1 (zis_q hI.1 zq_0)).trans ?_
  refine (bnd_some h1).trans ?_
  refine (b0_301 (X := X) (d := d + 40) 70 0 460 x3 v M1 (by decide) (by decide) q1 (zi_460 hI h1)).trans ?_
  refine (bnd_some h2).trans ?_
  refine (b0_310 (X := X) (d := d + 41) 70 0 460 x3 v v M2).trans ?_
  rw [if_pos rfl]
  exact b0_1009 70 0 460 x3 M2
theorem lp_315 {X : (Nat → Int32) × Nat} {d : Nat} {x3 : Int32} {M : zM} (hI : INV M) (q1 : vp_in (x3 + 1) (zxn X 70)) (q2 : vp_in (x3 + 2) (zxn X 70)) (q3 : vp_in (x3 + 3) (zxn X 70)) (q4 : vp_in (x3 + 4) (zxn X 70)) (q5 : vp_in (x3 + 5) (zxn X 70)) : lpQ X d 315 x3 M := by
  obtain ⟨v, M1, M2, h1, h2, h3⟩ := o_band (X := X) (d := d + 30) (x := zxf X 70 (Int32.toNatClampNeg (x3 + 1))) (w := zxf X 70 (Int32.toNatClampNeg (x3 + 2))) hI
  refine ⟨M2, h3, ?_⟩
  refine (b0_315 (X := X) (d := d + 40) 70 0 460 x3 M (by decide) (by decide) q1 q2 (zis_q hI.1 zq_0)).trans ?_
  refine (bnd_some h1).trans ?_
  refine (b0_329 (X := X) (d := d + 40) 70 0 460 x3 v M1 (by decide) (by decide) q1 q2 (zi_460 hI h1)).trans ?_
  refine (bnd_some h2).trans ?_
  refine (b0_343 (X := X) (d := d + 41) 70 0 460 x3 v v M2).trans ?_
  rw [if_pos rfl]
  exact b0_1009 70 0 460 x3 M2
theorem lp_348 {X : (Nat → Int32) × Nat} {d : Nat} {x3 : Int32} {M : zM} (hI : INV M) (q1 : vp_in (x3 + 1) (zxn X 70)) (q2 : vp_in (x3 + 2) (zxn X 70)) (q3 : vp_in (x3 + 3) (zxn X 70)) (q4 : vp_in (x3 + 4) (zxn X 70)) (q5 : vp_in (x3 + 5) (zxn X 70)) : lpQ X d 348 x3 M := by
  obtain ⟨v, M1, M2, h1, h2, h3⟩ := o_bidder (X := X) (d := d + 30) (x := zxf X 70 (Int32.toNatClampNeg (x3 + 1))) (w := zxf X 70 (Int32.toNatClampNeg (x3 + 2))) hI
  refine ⟨M2, h3, ?_⟩
  refine (b0_348 (X := X) (d := d + 40) 70 0 460 x3 M (by decide) (by decide) q1 q2 (zis_q hI.1 zq_0)).trans ?_
  refine (bnd_some h1).trans ?_
  refine (b0_362 (X := X) (d := d + 40) 70 0 460 x3 v M1 (by decide) (by decide) q1 q2 (zi_460 hI h1)).trans ?_
  refine (bnd_some h2).trans ?_
  refine (b0_376 (X := X) (d := d + 41) 70 0 460 x3 v v M2).trans ?_
  rw [if_pos rfl]
  exact b0_1009 70 0 460 x3 M2
theorem lp_381 {X : (Nat → Int32) × Nat} {d : Nat} {x3 : Int32} {M : zM} (hI : INV M) (q1 : vp_in (x3 + 1) (zxn X 70)) (q2 : vp_in (x3 + 2) (zxn X 70)) (q3 : vp_in (x3 + 3) (zxn X 70)) (q4 : vp_in (x3 + 4) (zxn X 70)) (q5 : vp_in (x3 + 5) (zxn X 70)) : lpQ X d 381 x3 M := by
  obtain ⟨v, M1, M2, h1, h2, h3⟩ := o_general (X := X) (d := d + 30) (x := zxf X 70 (Int32.toNatClampNeg (x3 + 1))) (w := zxf X 70 (Int32.toNatClampNeg (x3 + 2))) hI
  refine ⟨M2, h3, ?_⟩
  refine (b0_381 (X := X) (d := d + 40) 70 0 460 x3 M (by decide) (by decide) q1 q2 (zis_q hI.1 zq_0)).trans ?_
  refine (bnd_some h1).trans ?_
  refine (b0_395 (X := X) (d := d + 40) 70 0 460 x3 v M1 (by decide) (by decide) q1 q2 (zi_460 hI h1)).trans ?_
  refine (bnd_some h2).trans ?_
  refine (b0_409 (X := X) (d := d + 41) 70 0 460 x3 v v M2).trans ?_
  rw [if_pos rfl]
  exact b0_1009 70 0 460 x3 M2
theorem lp_414 {X : (Nat → Int32) × Nat} {d : Nat} {x3 : Int32} {M : zM} (hI : INV M) (q1 : vp_in (x3 + 1) (zxn X 70)) (q2 : vp_in (x3 + 2) (zxn X 70)) (q3 : vp_in (x3 + 3) (zxn X 70)) (q4 : vp_in (x3 + 4) (zxn X 70)) (q5 : vp_in (x3 + 5) (zxn X 70)) : lpQ X d 414 x3 M := by
  obtain ⟨v, M1, M2, h1, h2, h3⟩ := o_day (X := X) (d := d + 30)  hI
  refine ⟨M2, h3, ?_⟩
  refine (b0_414 (X := X) (d := d + 40) 70 0 460 x3 M (zis_q hI.1 zq_0)).trans ?_
  refine (bnd_some h1).trans ?_
  refine (b0_418 (X := X) (d := d + 40) 70 0 460 x3 v M1 (zi_460 hI h1)).trans ?_
  refine (bnd_some h2).trans ?_
  refine (b0_422 (X := X) (d := d + 41) 70 0 460 x3 v v M2).trans ?_
  rw [if_pos rfl]
  exact b0_1009 70 0 460 x3 M2
theorem lp_427 {X : (Nat → Int32) × Nat} {d : Nat} {x3 : Int32} {M : zM} (hI : INV M) (q1 : vp_in (x3 + 1) (zxn X 70)) (q2 : vp_in (x3 + 2) (zxn X 70)) (q3 : vp_in (x3 + 3) (zxn X 70)) (q4 : vp_in (x3 + 4) (zxn X 70)) (q5 : vp_in (x3 + 5) (zxn X 70)) : lpQ X d 427 x3 M := by
  obtain ⟨v, M1, M2, h1, h2, h3⟩ := o_sell (X := X) (d := d + 30)  hI
  refine ⟨M2, h3, ?_⟩
  refine (b0_427 (X := X) (d := d + 40) 70 0 460 x3 M (zis_q hI.1 zq_0)).trans ?_
  refine (bnd_some h1).trans ?_
  refine (b0_431 (X := X) (d := d + 40) 70 0 460 x3 v M1 (zi_460 hI h1)).trans ?_
  refine (bnd_some h2).trans ?_
  refine (b0_435 (X := X) (d := d + 41) 70 0 460 x3 v v M2).trans ?_
  rw [if_pos rfl]
  exact b0_1009 70 0 460 x3 M2
theorem lp_440 {X : (Nat → Int32) × Nat} {d : Nat} {x3 : Int32} {M : zM} (hI : INV M) (q1 : vp_in (x3 + 1) (zxn X 70)) (q2 : vp_in (x3 + 2) (zxn X 70)) (q3 : vp_in (x3 + 3) (zxn X 70)) (q4 : vp_in (x3 + 4) (zxn X 70)) (q5 : vp_in (x3 + 5) (zxn X 70)) : lpQ X d 440 x3 M := by
  obtain ⟨v, M1, M2, h1, h2, h3⟩ := o_bribe (X := X) (d := d + 30) (x := zxf X 70 (Int32.toNatClampNeg (x3 + 1))) hI
  refine ⟨M2, h3, ?_⟩
  refine (b0_440 (X := X) (d := d + 40) 70 0 460 x3 M (by decide) (by decide) q1 (zis_q hI.1 zq_0)).trans ?_
  refine (bnd_some h1).trans ?_
  refine (b0_449 (X := X) (d := d + 40) 70 0 460 x3 v M1 (by decide) (by decide) q1 (zi_460 hI h1)).trans ?_
  refine (bnd_some h2).trans ?_
  refine (b0_458 (X := X) (d := d + 41) 70 0 460 x3 v v M2).trans ?_
  rw [if_pos rfl]
  exact b0_1009 70 0 460 x3 M2
theorem lp_463 {X : (Nat → Int32) × Nat} {d : Nat} {x3 : Int32} {M : zM} (hI : INV M) (q1 : vp_in (x3 + 1) (zxn X 70)) (q2 : vp_in (x3 + 2) (zxn X 70)) (q3 : vp_in (x3 + 3) (zxn X 70)) (q4 : vp_in (x3 + 4) (zxn X 70)) (q5 : vp_in (x3 + 5) (zxn X 70)) : lpQ X d 463 x3 M := by
  obtain ⟨v, M1, M2, h1, h2, h3⟩ := o_thin (X := X) (d := d + 30)  hI
  refine ⟨M2, h3, ?_⟩
  refine (b0_463 (X := X) (d := d + 40) 70 0 460 x3 M (zis_q hI.1 zq_0)).trans ?_
  refine (bnd_some h1).trans ?_
  refine (b0_467 (X := X) (d := d + 40) 70 0 460 x3 v M1 (zi_460 hI h1)).trans ?_
  refine (bnd_some h2).trans ?_
  refine (b0_471 (X := X) (d := d + 41) 70 0 460 x3 v v M2).trans ?_
  rw [if_pos rfl]
  exact b0_1009 70 0 460 x3 M2
theorem lp_476 {X : (Nat → Int32) × Nat} {d : Nat} {x3 : Int32} {M : zM} (hI : INV M) (q1 : vp_in (x3 + 1) (zxn X 70)) (q2 : vp_in (x3 + 2) (zxn X 70)) (q3 : vp_in (x3 + 3) (zxn X 70)) (q4 : vp_in (x3 + 4) (zxn X 70)) (q5 : vp_in (x3 + 5) (zxn X 70)) : lpQ X d 476 x3 M := by
  obtain ⟨v, M1, M2, h1, h2, h3⟩ := o_kill (X := X) (d := d + 30)  hI
  refine ⟨M2, h3, ?_⟩
  refine (b0_476 (X := X) (d := d + 40) 70 0 460 x3 M (zis_q hI.1 zq_0)).trans ?_
  refine (bnd_some h1).trans ?_
  refine (b0_480 (X := X) (d := d + 40) 70 0 460 x3 v M1 (zi_460 hI h1)).trans ?_
  refine (bnd_some h2).trans ?_
  refine (b0_484 (X := X) (d := d + 41) 70 0 460 x3 v v M2).trans ?_
  rw [if_pos rfl]
  exact b0_1009 70 0 460 x3 M2
theorem lp_489 {X : (Nat → Int32) × Nat} {d : Nat} {x3 : Int32} {M : zM} (hI : INV M) (q1 : vp_in (x3 + 1) (zxn X 70)) (q2 : vp_in (x3 + 2) (zxn X 70)) (q3 : vp_in (x3 + 3) (zxn X 70)) (q4 : vp_in (x3 + 4) (zxn X 70)) (q5 : vp_in (x3 + 5) (zxn X 70)) : lpQ X d 489 x3 M := by
  obtain ⟨v, M1, M2, h1, h2, h3⟩ := o_undo (X := X) (d := d + 30)  hI
  refine ⟨M2, h3, ?_⟩
  refine (b0_489 (X := X) (d := d + 40) 70 0 460 x3 M (zis_q hI.1 zq_0)).trans ?_
  refine (bnd_some h1).trans ?_
  refine (b0_493 (X := X) (d := d + 40) 70 0 460 x3 v M1 (zi_460 hI h1)).trans ?_
  refine (bnd_some h2).trans ?_
  refine (b0_497 (X := X) (d := d + 41) 70 0 460 x3 v v M2).trans ?_
  rw [if_pos rfl]
  exact b0_1009 70 0 460 x3 M2
theorem lp_502 {X : (Nat → Int32) × Nat} {d : Nat} {x3 : Int32} {M : zM} (hI : INV M) (q1 : vp_in (x3 + 1) (zxn X 70)) (q2 : vp_in (x3 + 2) (zxn X 70)) (q3 : vp_in (x3 + 3) (zxn X 70)) (q4 : vp_in (x3 + 4) (zxn X 70)) (q5 : vp_in (x3 + 5) (zxn X 70)) : lpQ X d 502 x3 M := by
  obtain ⟨v, M1, M2, h1, h2, h3⟩ := o_sale (X := X) (d := d + 30) (x := zxf X 70 (Int32.toNatClampNeg (x3 + 1))) hI
  refine ⟨M2, h3, ?_⟩
  refine (b0_502 (X := X) (d := d + 40) 70 0 460 x3 M (by decide) (by decide) q1 (zis_q hI.1 zq_0)).trans ?_
  refine (bnd_some h1).trans ?_
  refine (b0_511 (X := X) (d := d + 40) 70 0 460 x3 v M1 (by decide) (by decide) q1 (zi_460 hI h1)).trans ?_
  refine (bnd_some h2).trans ?_
  refine (b0_520 (X := X) (d := d + 41) 70 0 460 x3 v v M2).trans ?_
  rw [if_pos rfl]
  exact b0_1009 70 0 460 x3 M2
theorem lp_525 {X : (Nat → Int32) × Nat} {d : Nat} {x3 : Int32} {M : zM} (hI : INV M) (q1 : vp_in (x3 + 1) (zxn X 70)) (q2 : vp_in (x3 + 2) (zxn X 70)) (q3 : vp_in (x3 + 3) (zxn X 70)) (q4 : vp_in (x3 + 4) (zxn X 70)) (q5 : vp_in (x3 + 5) (zxn X 70)) : lpQ X d 525 x3 M := by
  obtain ⟨v, M1, M2, h1, h2, h3⟩ := o_ahead (X := X) (d := d + 30) (x := zxf X 70 (Int32.toNatClampNeg (x3 + 1))) (w := zxf X 70 (Int32.toNatClampNeg (x3 + 2))) hI
  refine ⟨M2, h3, ?_⟩
  refine (b0_525 (X := X) (d := d + 40) 70 0 460 x3 M (by decide) (by decide) q1 q2 (zis_q hI.1 zq_0)).trans ?_
  refine (bnd_some h1).trans ?_
  refine (b0_539 (X := X) (d := d + 40) 70 0 460 x3 v M1 (by decide) (by decide) q1 q2 (zi_460 hI h1)).trans ?_
  refine (bnd_some h2).trans ?_
  refine (b0_553 (X := X) (d := d + 41) 70 0 460 x3 v v M2).trans ?_
  rw [if_pos rfl]
  exact b0_1009 70 0 460 x3 M2
theorem lp_558 {X : (Nat → Int32) × Nat} {d : Nat} {x3 : Int32} {M : zM} (hI : INV M) (q1 : vp_in (x3 + 1) (zxn X 70)) (q2 : vp_in (x3 + 2) (zxn X 70)) (q3 : vp_in (x3 + 3) (zxn X 70)) (q4 : vp_in (x3 + 4) (zxn X 70)) (q5 : vp_in (x3 + 5) (zxn X 70)) : lpQ X d 558 x3 M := by
  obtain ⟨v, M1, M2, h1, h2, h3⟩ := o_fall (X := X) (d := d + 30) (x := zxf X 70 (Int32.toNatClampNeg (x3 + 1))) hI
  refine ⟨M2, h3, ?_⟩
  refine (b0_558 (X := X) (d := d + 40) 70 0 460 x3 M (by decide) (by decide) q1 (zis_q hI.1 zq_0)).trans ?_
  refine (bnd_some h1).trans ?_
  refine (b0_567 (X := X) (d := d + 40) 70 0 460 x3 v M1 (by decide) (by decide) q1 (zi_460 hI h1)).trans ?_
  refine (bnd_some h2).trans ?_
  refine (b0_576 (X := X) (d := d + 41) 70 0 460 x3 v v M2).trans ?_
  rw [if_pos rfl]
  exact b0_1009 70 0 460 x3 M2
theorem lp_581 {X : (Nat → Int32) × Nat} {d : Nat} {x3 : Int32} {M : zM} (hI : INV M) (q1 : vp_in (x3 + 1) (zxn X 70)) (q2 : vp_in (x3 + 2) (zxn X 70)) (q3 : vp_in (x3 + 3) (zxn X 70)) (q4 : vp_in (x3 + 4) (zxn X 70)) (q5 : vp_in (x3 + 5) (zxn X 70)) : lpQ X d 581 x3 M := by
  obtain ⟨v, M1, M2, h1, h2, h3⟩ := o_reign (X := X) (d := d + 30) (x := zxf X 70 (Int32.toNatClampNeg (x3 + 1))) (w := zxf X 70 (Int32.toNatClampNeg (x3 + 2))) hI
  refine ⟨M2, h3, ?_⟩
  refine (b0_581 (X := X) (d := d + 40) 70 0 460 x3 M (by decide) (by decide) q1 q2 (zis_q hI.1 zq_0)).trans ?_
  refine (bnd_some h1).trans ?_
  refine (b0_595 (X := X) (d := d + 40) 70 0 460 x3 v M1 (by decide) (by decide) q1 q2 (zi_460 hI h1)).trans ?_
  refine (bnd_some h2).trans ?_
  refine (b0_609 (X := X) (d := d + 41) 70 0 460 x3 v v M2).trans ?_
  rw [if_pos rfl]
  exact b0_1009 70 0 460 x3 M2
theorem lp_614 {X : (Nat → Int32) × Nat} {d : Nat} {x3 : Int32} {M : zM} (hI : INV M) (q1 : vp_in (x3 + 1) (zxn X 70)) (q2 : vp_in (x3 + 2) (zxn X 70)) (q3 : vp_in (x3 + 3) (zxn X 70)) (q4 : vp_in (x3 + 4) (zxn X 70)) (q5 : vp_in (x3 + 5) (zxn X 70)) : lpQ X d 614 x3 M := by
  obtain ⟨v, M1, M2, h1, h2, h3⟩ := o_bribes (X := X) (d := d + 30) (x := zxf X 70 (Int32.toNatClampNeg (x3 + 1))) hI
  refine ⟨M2, h3, ?_⟩
  refine (b0_614 (X := X) (d := d + 40) 70 0 460 x3 M (by decide) (by decide) q1 (zis_q hI.1 zq_0)).trans ?_
  refine (bnd_some h1).trans ?_
  refine (b0_623 (X := X) (d := d + 40) 70 0 460 x3 v M1 (by decide) (by decide) q1 (zi_460 hI h1)).trans ?_
  refine (bnd_some h2).trans ?_
  refine (b0_632 (X := X) (d := d + 41) 70 0 460 x3 v v M2).trans ?_
  rw [if_pos rfl]
  exact b0_1009 70 0 460 x3 M2
theorem lp_637 {X : (Nat → Int32) × Nat} {d : Nat} {x3 : Int32} {M : zM} (hI : INV M) (q1 : vp_in (x3 + 1) (zxn X 70)) (q2 : vp_in (x3 + 2) (zxn X 70)) (q3 : vp_in (x3 + 3) (zxn X 70)) (q4 : vp_in (x3 + 4) (zxn X 70)) (q5 : vp_in (x3 + 5) (zxn X 70)) : lpQ X d 637 x3 M := by
  obtain ⟨v, M1, M2, h1, h2, h3⟩ := o_way (X := X) (d := d + 30) (x := zxf X 70 (Int32.toNatClampNeg (x3 + 1))) (y := zxf X 70 (Int32.toNatClampNeg (x3 + 2))) (w := zxf X 70 (Int32.toNatClampNeg (x3 + 3))) hI
  refine ⟨M2, h3, ?_⟩
  refine (b0_637 (X := X) (d := d + 40) 70 0 460 x3 M (by decide) (by decide) q1 q2 q3 (zis_q hI.1 zq_0)).trans ?_
  refine (bnd_some h1).trans ?_
  refine (b0_656 (X := X) (d := d + 40) 70 0 460 x3 v M1 (by decide) (by decide) q1 q2 q3 (zi_460 hI h1)).trans ?_
  refine (bnd_some h2).trans ?_
  refine (b0_675 (X := X) (d := d + 41) 70 0 460 x3 v v M2).trans ?_
  rw [if_pos rfl]
  exact b0_1009 70 0 460 x3 M2
theorem lp_680 {X : (Nat → Int32) × Nat} {d : Nat} {x3 : Int32} {M : zM} (hI : INV M) (q1 : vp_in (x3 + 1) (zxn X 70)) (q2 : vp_in (x3 + 2) (zxn X 70)) (q3 : vp_in (x3 + 3) (zxn X 70)) (q4 : vp_in (x3 + 4) (zxn X 70)) (q5 : vp_in (x3 + 5) (zxn X 70)) : lpQ X d 680 x3 M := by
  obtain ⟨v, M1, M2, h1, h2, h3⟩ := o_first (X := X) (d := d + 30) (x := zxf X 70 (Int32.toNatClampNeg (x3 + 1))) hI
  refine ⟨M2, h3, ?_⟩
  refine (b0_680 (X := X) (d := d + 40) 70 0 460 x3 M (by decide) (by decide) q1 (zis_q hI.1 zq_0)).trans ?_
  refine (bnd_some h1).trans ?_
  refine (b0_689 (X := X) (d := d + 40) 70 0 460 x3 v M1 (by decide) (by decide) q1 (zi_460 hI h1)).trans ?_
  refine (bnd_some h2).trans ?_
  refine (b0_698 (X := X) (d := d + 41) 70 0 460 x3 v v M2).trans ?_
  rw [if_pos rfl]
  exact b0_1009 70 0 460 x3 M2
theorem lp_703 {X : (Nat → Int32) × Nat} {d : Nat} {x3 : Int32} {M : zM} (hI : INV M) (q1 : vp_in (x3 + 1) (zxn X 70)) (q2 : vp_in (x3 + 2) (zxn X 70)) (q3 : vp_in (x3 + 3) (zxn X 70)) (q4 : vp_in (x3 + 4) (zxn X 70)) (q5 : vp_in (x3 + 5) (zxn X 70)) : lpQ X d 703 x3 M := by
  obtain ⟨v, M1, M2, h1, h2, h3⟩ := o_rests (X := X) (d := d + 30) (x := zxf X 70 (Int32.toNatClampNeg (x3 + 1))) hI
  refine ⟨M2, h3, ?_⟩
  refine (b0_703 (X := X) (d := d + 40) 70 0 460 x3 M (by decide) (by decide) q1 (zis_q hI.1 zq_0)).trans ?_
  refine (bnd_some h1).trans ?_
  refine (b0_712 (X := X) (d := d + 40) 70 0 460 x3 v M1 (by decide) (by decide) q1 (zi_460 hI h1)).trans ?_
  refine (bnd_some h2).trans ?_
  refine (b0_721 (X := X) (d := d + 41) 70 0 460 x3 v v M2).trans ?_
  rw [if_pos rfl]
  exact b0_1009 70 0 460 x3 M2
theorem lp_726 {X : (Nat → Int32) × Nat} {d : Nat} {x3 : Int32} {M : zM} (hI : INV M) (q1 : vp_in (x3 + 1) (zxn X 70)) (q2 : vp_in (x3 + 2) (zxn X 70)) (q3 : vp_in (x3 + 3) (zxn X 70)) (q4 : vp_in (x3 + 4) (zxn X 70)) (q5 : vp_in (x3 + 5) (zxn X 70)) : lpQ X d 726 x3 M := by
  obtain ⟨v, M1, M2, h1, h2, h3⟩ := o_holds (X := X) (d := d + 30) (x := zxf X 70 (Int32.toNatClampNeg (x3 + 1))) hI
  refine ⟨M2, h3, ?_⟩
  refine (b0_726 (X := X) (d := d + 40) 70 0 460 x3 M (by decide) (by decide) q1 (zis_q hI.1 zq_0)).trans ?_
  refine (bnd_some h1).trans ?_
  refine (b0_735 (X := X) (d := d + 40) 70 0 460 x3 v M1 (by decide) (by decide) q1 (zi_460 hI h1)).trans ?_
  refine (bnd_some h2).trans ?_
  refine (b0_744 (X := X) (d := d + 41) 70 0 460 x3 v v M2).trans ?_
  rw [if_pos rfl]
  exact b0_1009 70 0 460 x3 M2
theorem lp_749 {X : (Nat → Int32) × Nat} {d : Nat} {x3 : Int32} {M : zM} (hI : INV M) (q1 : vp_in (x3 + 1) (zxn X 70)) (q2 : vp_in (x3 + 2) (zxn X 70)) (q3 : vp_in (x3 + 3) (zxn X 70)) (q4 : vp_in (x3 + 4) (zxn X 70)) (q5 : vp_in (x3 + 5) (zxn X 70)) : lpQ X d 749 x3 M := by
  obtain ⟨v, M1, M2, h1, h2, h3⟩ := o_halves (X := X) (d := d + 30) (x := zxf X 70 (Int32.toNatClampNeg (x3 + 1))) hI
  refine ⟨M2, h3, ?_⟩
  refine (b0_749 (X := X) (d := d + 40) 70 0 460 x3 M (by decide) (by decide) q1 (zis_q hI.1 zq_0)).trans ?_
  refine (bnd_some h1).trans ?_
  refine (b0_758 (X := X) (d := d + 40) 70 0 460 x3 v M1 (by decide) (by decide) q1 (zi_460 hI h1)).trans ?_
  refine (bnd_some h2).trans ?_
  refine (b0_767 (X := X) (d := d + 41) 70 0 460 x3 v v M2).trans ?_
  rw [if_pos rfl]
  exact b0_1009 70 0 460 x3 M2
theorem lp_772 {X : (Nat → Int32) × Nat} {d : Nat} {x3 : Int32} {M : zM} (hI : INV M) (q1 : vp_in (x3 + 1) (zxn X 70)) (q2 : vp_in (x3 + 2) (zxn X 70)) (q3 : vp_in (x3 + 3) (zxn X 70)) (q4 : vp_in (x3 + 4) (zxn X 70)) (q5 : vp_in (x3 + 5) (zxn X 70)) : lpQ X d 772 x3 M := by
  obtain ⟨v, M1, M2, h1, h2, h3⟩ := o_thinnest (X := X) (d := d + 30) (x := zxf X 70 (Int32.toNatClampNeg (x3 + 1))) hI
  refine ⟨M2, h3, ?_⟩
  refine (b0_772 (X := X) (d := d + 40) 70 0 460 x3 M (by decide) (by decide) q1 (zis_q hI.1 zq_0)).trans ?_
  refine (bnd_some h1).trans ?_
  refine (b0_781 (X := X) (d := d + 40) 70 0 460 x3 v M1 (by decide) (by decide) q1 (zi_460 hI h1)).trans ?_
  refine (bnd_some h2).trans ?_
  refine (b0_790 (X := X) (d := d + 41) 70 0 460 x3 v v M2).trans ?_
  rw [if_pos rfl]
  exact b0_1009 70 0 460 x3 M2
theorem lp_795 {X : (Nat → Int32) × Nat} {d : Nat} {x3 : Int32} {M : zM} (hI : INV M) (q1 : vp_in (x3 + 1) (zxn X 70)) (q2 : vp_in (x3 + 2) (zxn X 70)) (q3 : vp_in (x3 + 3) (zxn X 70)) (q4 : vp_in (x3 + 4) (zxn X 70)) (q5 : vp_in (x3 + 5) (zxn X 70)) : lpQ X d 795 x3 M := by
  obtain ⟨v, M1, M2, h1, h2, h3⟩ := o_log (X := X) (d := d + 30) (x := zxf X 70 (Int32.toNatClampNeg (x3 + 1))) (w := zxf X 70 (Int32.toNatClampNeg (x3 + 2))) hI
  refine ⟨M2, h3, ?_⟩
  refine (b0_795 (X := X) (d := d + 40) 70 0 460 x3 M (by decide) (by decide) q1 q2 (zis_q hI.1 zq_0)).trans ?_
  refine (bnd_some h1).trans ?_
  refine (b0_809 (X := X) (d := d + 40) 70 0 460 x3 v M1 (by decide) (by decide) q1 q2 (zi_460 hI h1)).trans ?_
  refine (bnd_some h2).trans ?_
  refine (b0_823 (X := X) (d := d + 41) 70 0 460 x3 v v M2).trans ?_
  rw [if_pos rfl]
  exact b0_1009 70 0 460 x3 M2
theorem lp_828 {X : (Nat → Int32) × Nat} {d : Nat} {x3 : Int32} {M : zM} (hI : INV M) (q1 : vp_in (x3 + 1) (zxn X 70)) (q2 : vp_in (x3 + 2) (zxn X 70)) (q3 : vp_in (x3 + 3) (zxn X 70)) (q4 : vp_in (x3 + 4) (zxn X 70)) (q5 : vp_in (x3 + 5) (zxn X 70)) : lpQ X d 828 x3 M := by
  obtain ⟨v, M1, M2, h1, h2, h3⟩ := o_ruled (X := X) (d := d + 30) (x := zxf X 70 (Int32.toNatClampNeg (x3 + 1))) hI
  refine ⟨M2, h3, ?_⟩
  refine (b0_828 (X := X) (d := d + 40) 70 0 460 x3 M (by decide) (by decide) q1 (zis_q hI.1 zq_0)).trans ?_
  refine (bnd_some h1).trans ?_
  refine (b0_837 (X := X) (d := d + 40) 70 0 460 x3 v M1 (by decide) (by decide) q1 (zi_460 hI h1)).trans ?_
  refine (bnd_some h2).trans ?_
  refine (b0_846 (X := X) (d := d + 41) 70 0 460 x3 v v M2).trans ?_
  rw [if_pos rfl]
  exact b0_1009 70 0 460 x3 M2
theorem lp_851 {X : (Nat → Int32) × Nat} {d : Nat} {x3 : Int32} {M : zM} (hI : INV M) (q1 : vp_in (x3 + 1) (zxn X 70)) (q2 : vp_in (x3 + 2) (zxn X 70)) (q3 : vp_in (x3 + 3) (zxn X 70)) (q4 : vp_in (x3 + 4) (zxn X 70)) (q5 : vp_in (x3 + 5) (zxn X 70)) : lpQ X d 851 x3 M := by
  obtain ⟨v, M1, M2, h1, h2, h3⟩ := o_look (X := X) (d := d + 30) (x := zxf X 70 (Int32.toNatClampNeg (x3 + 1))) hI
  refine ⟨M2, h3, ?_⟩
  refine (b0_851 (X := X) (d := d + 40) 70 0 460 x3 M (by decide) (by decide) q1 (zis_q hI.1 zq_0)).trans ?_
  refine (bnd_some h1).trans ?_
  refine (b0_860 (X := X) (d := d + 40) 70 0 460 x3 v M1 (by decide) (by decide) q1 (zi_460 hI h1)).trans ?_
  refine (bnd_some h2).trans ?_
  refine (b0_869 (X := X) (d := d + 41) 70 0 460 x3 v v M2).trans ?_
  rw [if_pos rfl]
  exact b0_1009 70 0 460 x3 M2
theorem lp_874 {X : (Nat → Int32) × Nat} {d : Nat} {x3 : Int32} {M : zM} (hI : INV M) (q1 : vp_in (x3 + 1) (zxn X 70)) (q2 : vp_in (x3 + 2) (zxn X 70)) (q3 : vp_in (x3 + 3) (zxn X 70)) (q4 : vp_in (x3 + 4) (zxn X 70)) (q5 : vp_in (x3 + 5) (zxn X 70)) : lpQ X d 874 x3 M := by
  obtain ⟨v, M1, M2, h1, h2, h3⟩ := o_seed (X := X) (d := d + 30) (x := zxf X 70 (Int32.toNatClampNeg (x3 + 1))) hI
  refine ⟨M2, h3, ?_⟩
  refine (b0_874 (X := X) (d := d + 40) 70 0 460 x3 M (by decide) (by decide) q1 (zis_q hI.1 zq_0)).trans ?_
  refine (bnd_some h1).trans ?_
  refine (b0_883 (X := X) (d := d + 40) 70 0 460 x3 v M1 (by decide) (by decide) q1 (zi_460 hI h1)).trans ?_
  refine (bnd_some h2).trans ?_
  refine (b0_892 (X := X) (d := d + 41) 70 0 460 x3 v v M2).trans ?_
  rw [if_pos rfl]
  exact b0_1009 70 0 460 x3 M2
theorem lp_897 {X : (Nat → Int32) × Nat} {d : Nat} {x3 : Int32} {M : zM} (hI : INV M) (q1 : vp_in (x3 + 1) (zxn X 70)) (q2 : vp_in (x3 + 2) (zxn X 70)) (q3 : vp_in (x3 + 3) (zxn X 70)) (q4 : vp_in (x3 + 4) (zxn X 70)) (q5 : vp_in (x3 + 5) (zxn X 70)) : lpQ X d 897 x3 M := by
  obtain ⟨v, M1, M2, h1, h2, h3⟩ := o_reigns (X := X) (d := d + 30) (m := zxf X 70 (Int32.toNatClampNeg (x3 + 1))) (b := zxf X 70 (Int32.toNatClampNeg (x3 + 2))) (w := zxf X 70 (Int32.toNatClampNeg (x3 + 3))) hI
  refine ⟨M2, h3, ?_⟩
  refine (b0_897 (X := X) (d := d + 40) 70 0 460 x3 M (by decide) (by decide) q1 q2 q3 (zis_q hI.1 zq_0)).trans ?_
  refine (bnd_some h1).trans ?_
  refine (b0_916 (X := X) (d := d + 40) 70 0 460 x3 v M1 (by decide) (by decide) q1 q2 q3 (zi_460 hI h1)).trans ?_
  refine (bnd_some h2).trans ?_
  refine (b0_935 (X := X) (d := d + 41) 70 0 460 x3 v v M2).trans ?_
  rw [if_pos rfl]
  exact b0_1009 70 0 460 x3 M2
theorem lp_940 {X : (Nat → Int32) × Nat} {d : Nat} {x3 : Int32} {M : zM} (hI : INV M) (q1 : vp_in (x3 + 1) (zxn X 70)) (q2 : vp_in (x3 + 2) (zxn X 70)) (q3 : vp_in (x3 + 3) (zxn X 70)) (q4 : vp_in (x3 + 4) (zxn X 70)) (q5 : vp_in (x3 + 5) (zxn X 70)) : lpQ X d 940 x3 M := by
  obtain ⟨v, M1, M2, h1, h2, h3⟩ := o_count (X := X) (d := d + 30) (x := zxf X 70 (Int32.toNatClampNeg (x3 + 1))) hI
  refine ⟨M2, h3, ?_⟩
  refine (b0_940 (X := X) (d := d + 40) 70 0 460 x3 M (by decide) (by decide) q1 (zis_q hI.1 zq_0)).trans ?_
  refine (bnd_some h1).trans ?_
  refine (b0_949 (X := X) (d := d + 40) 70 0 460 x3 v M1 (by decide) (by decide) q1 (zi_460 hI h1)).trans ?_
  refine (bnd_some h2).trans ?_
  refine (b0_958 (X := X) (d := d + 41) 70 0 460 x3 v v M2).trans ?_
  rw [if_pos rfl]
  exact b0_1009 70 0 460 x3 M2
theorem lp_963 {X : (Nat → Int32) × Nat} {d : Nat} {x3 : Int32} {M : zM} (hI : INV M) (q1 : vp_in (x3 + 1) (zxn X 70)) (q2 : vp_in (x3 + 2) (zxn X 70)) (q3 : vp_in (x3 + 3) (zxn X 70)) (q4 : vp_in (x3 + 4) (zxn X 70)) (q5 : vp_in (x3 + 5) (zxn X 70)) : lpQ X d 963 x3 M := by
  obtain ⟨v, M1, M2, h1, h2, h3⟩ := o_image (X := X) (d := d + 30) (x := zxf X 70 (Int32.toNatClampNeg (x3 + 1))) hI
  refine ⟨M2, h3, ?_⟩
  refine (b0_963 (X := X) (d := d + 40) 70 0 460 x3 M (by decide) (by decide) q1 (zis_q hI.1 zq_0)).trans ?_
  refine (bnd_some h1).trans ?_
  refine (b0_972 (X := X) (d := d + 40) 70 0 460 x3 v M1 (by decide) (by decide) q1 (zi_460 hI h1)).trans ?_
  refine (bnd_some h2).trans ?_
  refine (b0_981 (X := X) (d := d + 41) 70 0 460 x3 v v M2).trans ?_
  rw [if_pos rfl]
  exact b0_1009 70 0 460 x3 M2
theorem lp_986 {X : (Nat → Int32) × Nat} {d : Nat} {x3 : Int32} {M : zM} (hI : INV M) (q1 : vp_in (x3 + 1) (zxn X 70)) (q2 : vp_in (x3 + 2) (zxn X 70)) (q3 : vp_in (x3 + 3) (zxn X 70)) (q4 : vp_in (x3 + 4) (zxn X 70)) (q5 : vp_in (x3 + 5) (zxn X 70)) : lpQ X d 986 x3 M := by
  obtain ⟨v, M1, M2, h1, h2, h3⟩ := o_back (X := X) (d := d + 30) (x := zxf X 70 (Int32.toNatClampNeg (x3 + 1))) hI
  refine ⟨M2, h3, ?_⟩
  refine (b0_986 (X := X) (d := d + 40) 70 0 460 x3 M (by decide) (by decide) q1 (zis_q hI.1 zq_0)).trans ?_
  refine (bnd_some h1).trans ?_
  refine (b0_995 (X := X) (d := d + 40) 70 0 460 x3 v M1 (by decide) (by decide) q1 (zi_460 hI h1)).trans ?_
  refine (bnd_some h2).trans ?_
  refine (b0_1004 (X := X) (d := d + 41) 70 0 460 x3 v v M2).trans ?_
  rw [if_pos rfl]
  exact b0_1009 70 0 460 x3 M2
def lpT : List Nat := [180, 243, 266, 279, 292, 315, 348, 381, 414, 427, 440, 463, 476, 489, 502, 525, 558, 581, 614, 637, 680, 703, 726, 749, 772, 795, 828, 851, 874, 897, 940, 963, 986]
theorem zsw_t : ∀ k, k < 64 → zsw 33 976 0 32 #[147, 210, 233, 246, 259, 282, 315, 348, 381, 394, 407, 430, 443, 456, 469, 492, 525, 548, 581, 604, 647, 670, 693, 716, 739, 762, 795, 818, 841, 864, 907, 930, 953] (Int32.ofNat k) = lpT.getD k 1009 := by decide +kernel
theorem lp_all {X : (Nat → Int32) × Nat} {d : Nat} {x3 : Int32} {M : zM} (hI : INV M) (q1 : vp_in (x3 + 1) (zxn X 70)) (q2 : vp_in (x3 + 2) (zxn X 70)) (q3 : vp_in (x3 + 3) (zxn X 70)) (q4 : vp_in (x3 + 4) (zxn X 70)) (q5 : vp_in (x3 + 5) (zxn X 70)) : ∀ k, lpQ X d (lpT.getD k 1009) x3 M
  | 0 => lp_180 hI q1 q2 q3 q4 q5
  | 1 => lp_243 hI q1 q2 q3 q4 q5
  | 2 => lp_266 hI q1 q2 q3 q4 q5
  | 3 => lp_279 hI q1 q2 q3 q4 q5
  | 4 => lp_292 hI q1 q2 q3 q4 q5
  | 5 => lp_315 hI q1 q2 q3 q4 q5
  | 6 => lp_348 hI q1 q2 q3 q4 q5
  | 7 => lp_381 hI q1 q2 q3 q4 q5
  | 8 => lp_414 hI q1 q2 q3 q4 q5
  | 9 => lp_427 hI q1 q2 q3 q4 q5
  | 10 => lp_440 hI q1 q2 q3 q4 q5
  | 11 => lp_463 hI q1 q2 q3 q4 q5
  | 12 => lp_476 hI q1 q2 q3 q4 q5
  | 13 => lp_489 hI q1 q2 q3 q4 q5
  | 14 => lp_502 hI q1 q2 q3 q4 q5
  | 15 => lp_525 hI q1 q2 q3 q4 q5
  | 16 => lp_558 hI q1 q2 q3 q4 q5
  | 17 => lp_581 hI q1 q2 q3 q4 q5
  | 18 => lp_614 hI q1 q2 q3 q4 q5
  | 19 => lp_637 hI q1 q2 q3 q4 q5
  | 20 => lp_680 hI q1 q2 q3 q4 q5
  | 21 => lp_703 hI q1 q2 q3 q4 q5
  | 22 => lp_726 hI q1 q2 q3 q4 q5
  | 23 => lp_749 hI q1 q2 q3 q4 q5
  | 24 => lp_772 hI q1 q2 q3 q4 q5
  | 25 => lp_795 hI q1 q2 q3 q4 q5
  | 26 => lp_828 hI q1 q2 q3 q4 q5
  | 27 => lp_851 hI q1 q2 q3 q4 q5
  | 28 => lp_874 hI q1 q2 q3 q4 q5
  | 29 => lp_897 hI q1 q2 q3 q4 q5
  | 30 => lp_940 hI q1 q2 q3 q4 q5
  | 31 => lp_963 hI q1 q2 q3 q4 q5
  | 32 => lp_986 hI q1 q2 q3 q4 q5
  | _ + 33 => ⟨M, hI, b0_1009 70 0 460 x3 M⟩
theorem and63 (v : Int32) : ∃ b, b < 64 ∧ v &&& 63 = Int32.ofNat b := by
  refine ⟨(v.toInt % 64).toNat, by omega, ?_⟩
  apply Int32.toInt_inj.1
  rw [Int32.toInt_ofNat_of_lt (by omega)]
  have h : (v &&& 63).toBitVec.toNat = v.toBitVec.toNat % 64 := by
    rw [Int32.toBitVec_and, BitVec.toNat_and]
    exact Nat.and_two_pow_sub_one_eq_mod _ 6
  show (v &&& 63).toBitVec.toInt = ((v.toBitVec.toInt % 64).toNat : Int)
  have := v.toBitVec.isLt
  rw [BitVec.toInt_eq_toNat_cond, BitVec.toInt_eq_toNat_cond, h]
  split <;> split <;> omega
theorem sub6 {L i : Nat} (hL : L ≤ 3072) (hi : i < 1000000) : (Int32.ofNat L - 6 < Int32.ofNat i) ↔ L < i + 6 := by
  rw [Int32.lt_iff_toInt_lt, Int32.toInt_sub, Int32.toInt_ofNat_of_lt (by omega), Int32.toInt_ofNat_of_lt (by omega), show (6 : Int32).toInt = 6 from rfl, Int.bmod_def]
  omega
theorem of_add (i k : Nat) : Int32.ofNat i + Int32.ofNat k = Int32.ofNat (i + k) := by rw [Int32.ofNat_add]
/-- from any place of the script to its end: the answer is 1 -/
theorem lp_run {X : (Nat → Int32) × Nat} {d : Nat} (hL : X.2 ≤ 3072) : ∀ (n i : Nat) (M : zM), i < 100000 → X.2 ≤ i + n → INV M → ∃ M2, INV M2 ∧ zR X (d + 41) 0 (18, [.retAddr 70, .ref 0, .ref 460, .int (Int32.ofNat i)], [], M) = some (some (.int 1), M2) := by
  intro n
  induction n with
  | zero =>
    intro i M hi h hI
    refine ⟨M, hI, (b0_18 70 0 460 _ M (Or.inr rfl)).trans ?_⟩
    show (if Int32.ofNat X.2 - 6 < Int32.ofNat i then _ else _) = _
    rw [if_pos ((sub6 hL (by omega)).mpr (by omega))]
    exact b0_1015 70 0 460 _ M (Or.inr rfl)
  | succ n ih =>
    intro i M hi h hI
    by_cases c : X.2 < i + 6
    · refine ⟨M, hI, (b0_18 70 0 460 _ M (Or.inr rfl)).trans ?_⟩
      show (if Int32.ofNat X.2 - 6 < Int32.ofNat i then _ else _) = _
      rw [if_pos ((sub6 hL (by omega)).mpr c)]
      exact b0_1015 70 0 460 _ M (Or.inr rfl)
    · have hv : ∀ k, k < 6 → vp_in (Int32.ofNat i + Int32.ofNat k) (zxn X 70) := fun k hk => by
        rw [of_add]
        show vp_in (Int32.ofNat (i + k)) X.2
        exact vp_of (by omega) (by omega)
      have hv0 : vp_in (Int32.ofNat i) (zxn X 70) := by
        show vp_in (Int32.ofNat i) X.2
        exact vp_of (by omega) (by omega)
      obtain ⟨k, hk, ek⟩ := and63 (zxf X 70 (Int32.toNatClampNeg (Int32.ofNat i)))
      obtain ⟨M2, h2, e2⟩ := lp_all (X := X) (d := d) (x3 := Int32.ofNat i) hI (hv 1 (by omega)) (hv 2 (by omega)) (hv 3 (by omega)) (hv 4 (by omega)) (hv 5 (by omega)) k
      obtain ⟨M3, h3, e3⟩ := ih (i + 6) M2 (by omega) (by omega) h2
      refine ⟨M3, h3, (b0_18 70 0 460 _ M (Or.inr rfl)).trans ?_⟩
      show (if Int32.ofNat X.2 - 6 < Int32.ofNat i then _ else _) = _
      rw [if_neg (fun e => c ((sub6 hL (by omega)).mp e))]
      refine (b0_27 70 0 460 _ M (by decide) (by decide) hv0).trans ?_
      rw [ek, zsw_t k hk]
      refine e2.trans ?_
      rw [show Int32.ofNat i + 6 = Int32.ofNat (i + 6) from of_add i 6]
      exact e3
/-- the whole law: it answers 1, and 505 cells were made -/
theorem lp_law {xs : Nat → Int32} {L : Nat} (hL : L ≤ 3072) : ∃ n o, zrun (xs, L) n 800 0 (0, zloc (zml 0) [.retAddr 70], [], ((fun _ _ => 0, fun _ _ => 0, fun _ _ => zNul, 0) : zM)) = some o ∧ o.1 = some (.int 1) ∧ o.2.2.2.2 ≤ 505 := by
  obtain ⟨M, h1, h2⟩ := ini_r (xs, L)
  obtain ⟨M2, h3, h4⟩ := lp_run (X := (xs, L)) (d := 759) hL L 0 M (by omega) (by show L ≤ 0 + L; omega) (ini_INV h1)
  obtain ⟨n, hn⟩ := zR_to (xs, L) (h2.trans h4)
  exact ⟨n, _, hn, rfl, Nat.le_of_eq h3.1.1⟩
