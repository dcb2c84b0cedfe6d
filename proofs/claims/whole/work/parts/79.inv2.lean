/-! ===== calls that leave it standing ===== -/
theorem hrea : ∀ k, k < 4 → zqk (168 + 73 * k) 6 = true := by decide +kernel
theorem agR_rf {N : zM} : agR N N := ⟨rfl, rfl, fun _ _ _ _ => rfl⟩
theorem agR_eq {N N' : zM} (h : ∀ c, 460 ≤ c → N'.1 c = N.1 c) : agR N N' := ⟨by rw [h 460 (by omega)], by rw [h 460 (by omega)], fun c hc j _ => by rw [h c (by unfold car at hc; omega)]⟩
theorem ldR_ag {k : Nat} {M M' : zM} (hk : k < 4) (h4 : M'.1 504 k = M.1 504 k) (h2 : ∀ j, j < 2200 → M'.1 502 j = M.1 502 j) : agR (ldR k M) (ldR k M') := by
  have hoff : ∀ c, car c → offR c + zln c ≤ 490 := by
    intro c hc
    have : ∀ c, c < 500 → carb c = true → offR c + zln c ≤ 490 := by decide +kernel
    exact this c (by unfold car at hc; omega) (carb_iff.mpr hc)
  refine ⟨?_, ?_, fun c hc j hj => ?_⟩
  · exact h4
  · show M'.1 502 (550 * k + 22) = M.1 502 (550 * k + 22)
    exact h2 _ (by omega)
  · have := hoff c hc
    have hcb := carb_iff.mpr hc
    have hne : ¬ c = 460 := fun e => by rw [e] at hcb; cases hcb
    show (if c = 460 then _ else if carb c = true then M'.1 502 (550 * k + offR c + j) else _) = (if c = 460 then _ else if carb c = true then M.1 502 (550 * k + offR c + j) else _)
    rw [if_neg hne, if_neg hne, if_pos hcb, if_pos hcb, h2 _ (by omega)]
theorem INV_D {M M' : zM} (h : zfr 114 150 M M') (hI : INV M) : INV M' := by
  obtain ⟨hG, hT, rl, h1, h2, h3, h4, h5⟩ := hI
  have c : ∀ a, a < 114 ∨ 150 ≤ a → M'.1 a = M.1 a := fun a ha => (h.2 a ha).1
  refine ⟨zfr_G h hG, ?_, rl, h1, rsD_c (fun a ha => c a (by omega)) h1.1 h2, ?_, iRl_c hG zq_39 (fun a q1 q2 => c a (by omega)) h.1 (agR_eq (fun a ha => c a (by omega))) h4, fun k hk => ?_⟩
  · unfold iTp
    rw [c 1 (by omega), c 2 (by omega), c 460 (by omega), c 485 (by omega)]
    exact hT
  · exact ⟨by rw [c 460 (by omega)]; exact h3.1, fun i hi => ruR_q (c 488 (by omega)) (c 489 (by omega)) (c 490 (by omega)) (c 491 (by omega)) (c 486 (by omega)) (c 487 (by omega)) (h3.2 i hi)⟩
  · obtain ⟨q1, q2⟩ := h5 k hk
    rw [c 113 (by omega), c 503 (by omega)]
    refine ⟨q1, q2.imp id (fun q => ⟨q.1, ?_⟩)⟩
    exact iRl_c hG (hrea k hk) (fun a u1 u2 => c a (by omega)) h.1 (ldR_ag hk (by rw [c 504 (by omega)]) (fun j _ => by rw [c 502 (by omega)])) q.2
theorem agR_rsm {M M' : zM} (h : rsm M M') : agR M M' := by
  refine ⟨h.1.2.2.1 25 (by omega) (by omega) (by omega), h.1.2.2.1 55 (by omega) (by omega) (by omega), fun c hc j hj => ?_⟩
  by_cases e1 : c = 461
  · subst e1
    rw [zl_461] at hj
    exact h.2.1 j hj
  · by_cases e2 : c = 462
    · subst e2
      rw [zl_462] at hj
      exact h.2.2 j hj
    · unfold car at hc
      rw [zwk_c h.1 (by omega) (by omega) (by omega)]
theorem INV_R {M M' : zM} (h : rsm M M') (hI : INV M) : INV M' := by
  obtain ⟨hG, hT, rl, h1, h2, h3, h4, h5⟩ := hI
  have c : ∀ a, a < 460 ∨ a = 485 ∨ a = 503 ∨ a = 504 → M'.1 a = M.1 a := fun a ha => zwk_c h.1 (by omega) (by omega) (by omega)
  refine ⟨zwk_G h.1 hG, ?_, rl, h1, rsD_c (fun a ha => c a (by omega)) h1.1 h2, rsR_w h.1 h3, iRl_c hG zq_39 (fun a q1 q2 => c a (by omega)) h.1.1 (agR_rsm h) h4, fun k hk => ?_⟩
  · unfold iTp
    rw [c 1 (by omega), c 2 (by omega), h.1.2.2.1 26 (by omega) (by omega) (by omega), h.1.2.2.1 35 (by omega) (by omega) (by omega), c 485 (by omega)]
    exact hT
  · obtain ⟨q1, q2⟩ := h5 k hk
    rw [c 113 (by omega), c 503 (by omega)]
    refine ⟨q1, q2.imp id (fun q => ⟨q.1, ?_⟩)⟩
    exact iRl_c hG (hrea k hk) (fun a u1 u2 => c a (by omega)) h.1.1 (ldR_ag hk (by rw [c 504 (by omega)]) (fun j hj => h.1.2.2.2.2 j hj)) q.2
/-- both calls answer alike, and it stands again -/
def zOp2 (X : (Nat → Int32) × Nat) (d a b : Nat) (as : List Value) (M : zM) : Prop := ∃ v M1 M2, zC X d a (.ref 0 :: as) M = some (some (.int v), M1) ∧ zC X d b (.ref 460 :: as) M1 = some (some (.int v), M2) ∧ INV M2
/-- what a call may start from -/
def cx (rl : zRul) (g : zLg) (i x : Nat) (M : zM) : Prop := zGE M ∧ okM M ∧ okRs rl ∧ rsD M rl ∧ rsR M rl ∧ emD 40 M = emR M ∧ aD 40 67 M = aR M ∧ okX (emR M) ∧ okRd 40 M ∧ (emR M 0 0 = 1 → okT (emR M) ∧ okN (emR M)) ∧ (¬ emR M 0 0 = 1 → emR M 0 4 = 0) ∧ okA (emR M) (aR M) ∧ i ≤ rl.1 ∧ M.1 39 2 = rv i ∧ M.1 461 17 = rv i ∧ x < 2147483648 ∧ M.1 39 3 = Int32.ofNat x ∧ M.1 461 16 = Int32.ofNat x ∧ okL g ∧ lgD M g ∧ lgR M g
theorem INV_cx {M : zM} (h : INV M) : ∃ rl g i x, cx rl g i x M := by
  obtain ⟨hG, hT, rl, h1, h2, h3, ⟨⟨a1, a2, a3, a4, a5, a6, a7⟩, ⟨b1, b2⟩, ⟨i, c1, c2, c3⟩, ⟨x, d1, d2, d3⟩, e1, ⟨g, g1, g2, g3⟩, -⟩, h5⟩ := h
  refine ⟨rl, g, i, x, hG, ⟨hG, a2, a3⟩, h1, h2, h3, a1, ?_, a4, a5, a6, a7, b2, c1, c2, c3, d1, d2, d3, g1, g2, g3⟩
  rw [← b1, ← a1]
theorem cx_D {M M' : zM} {rl : zRul} {g : zLg} {i x : Nat} (h : zfr 114 150 M M') (hc : cx rl g i x M) : cx rl g i x M' ∧ emR M' = emR M ∧ aR M' = aR M := by
  have c : ∀ a, a < 114 ∨ 150 ≤ a → M'.1 a = M.1 a := fun a ha => (h.2 a ha).1
  obtain ⟨q1, q2, q3, q4, q5, q6, q7, q8, q9, q10, q11, q12, q13, q14, q15, q16, q17, q18, q19, q20, q21⟩ := hc
  have em : emR M' = emR M := emR_ag q2.2.1 (agR_eq (fun a ha => c a (by omega)))
  have hst : ∀ n, stR n M' = stR n M := fun n => by unfold stR; rw [c 461 (by omega), c 462 (by omega)]
  have ea : aR M' = aR M := by
    show stR (nD (emR M')) M' = _
    rw [em, hst]
  have emd : emD 40 M' = emD 40 M := zfr_em h (by omega)
  have ead : aD 40 67 M' = aD 40 67 M := by
    show stD (nD (emD 40 M')) 67 M' = _
    rw [emd]
    exact zfr_st h (by omega)
  refine ⟨⟨zfr_G h q1, ⟨zfr_G h q1, by rw [em]; exact q2.2.1, fun a ha => by rw [c 470 (by omega)]; exact q2.2.2 a ha⟩, q3, rsD_c (fun a ha => c a (by omega)) q3.1 q4, ⟨by rw [c 460 (by omega)]; exact q5.1, fun i hi => ruR_q (c 488 (by omega)) (c 489 (by omega)) (c 490 (by omega)) (c 491 (by omega)) (c 486 (by omega)) (c 487 (by omega)) (q5.2 i hi)⟩, by rw [emd, em]; exact q6, by rw [ead, ea]; exact q7, by rw [em]; exact q8, ?_, by rw [em]; exact q10, by rw [em]; exact q11, by rw [em, ea]; exact q12, q13, by rw [c 39 (by omega)]; exact q14, by rw [c 461 (by omega)]; exact q15, q16, by rw [c 39 (by omega)]; exact q17, by rw [c 461 (by omega)]; exact q18, q19, lgD_c (c 39 (by omega)) (c 70 (by omega)) (c 71 (by omega)) q20, ?_⟩, em, ea⟩
  · unfold okRd
    rw [c (40 + 1) (by omega), c (40 + 12) (by omega), c (40 + 13) (by omega), c (40 + 14) (by omega)]
    exact q9
  · unfold lgR
    rw [c 461 (by omega), c 471 (by omega), c 472 (by omega)]
    exact q21
/-- a question: the class may use its working cells, the reference its own -/
theorem opQ {X : (Nat → Int32) × Nat} {d a b : Nat} {as : List Value} {M : zM} {v : Int32} (hI : INV M) (hD : ∃ M1, zC X d a (.ref 0 :: as) M = some (some (.int v), M1) ∧ zfr 114 150 M M1) (hR : ∀ M1, zfr 114 150 M M1 → INV M1 → ∃ M2, zC X d b (.ref 460 :: as) M1 = some (some (.int v), M2) ∧ rsm M1 M2) : zOp2 X d a b as M := by
  obtain ⟨M1, h1, h2⟩ := hD
  have hI1 := INV_D h2 hI
  obtain ⟨M2, h3, h4⟩ := hR M1 h2 hI1
  exact ⟨v, M1, M2, h1, h3, INV_R h4 hI1⟩
theorem o_holds {X : (Nat → Int32) × Nat} {d : Nat} {x : Int32} {M : zM} (hI : INV M) : zOp2 X (d + 10) 122 225 [.int x] M := by
  obtain ⟨rl, g, i, x0, hc⟩ := INV_cx hI
  obtain ⟨q1, q2, q3, q4, q5, q6, q7, q8, q9, q10, q11, q12, q13, q14, q15, q16, q17, q18, q19, q20, q21⟩ := id hc
  refine opQ (v := pHolds (emR M) (aR M) x) hI ?_ (fun M1 hf hI1 => ?_)
  · have h := s122 (X := X) (d := d + 4) (x := x) q1 (by rw [q6]; exact q2.2.1) (by rw [q6, q7]; exact q12)
    rw [q6, q7] at h
    exact h
  · obtain ⟨⟨p1, p2, p3, p4, p5, p6, p7, p8, p9, p10, p11, p12, p13, p14, p15, p16, p17, p18, p19, p20, p21⟩, em, ea⟩ := cx_D hf hc
    have h := r225 (X := X) (d := d + 4) (x := x) p2 p12
    rw [em, ea] at h
    exact h
theorem o_thinnest {X : (Nat → Int32) × Nat} {d : Nat} {x : Int32} {M : zM} (hI : INV M) : zOp2 X (d + 10) 124 226 [.int x] M := by
  obtain ⟨rl, g, i, x0, hc⟩ := INV_cx hI
  obtain ⟨q1, q2, q3, q4, q5, q6, q7, q8, q9, q10, q11, q12, q13, q14, q15, q16, q17, q18, q19, q20, q21⟩ := id hc
  refine opQ (v := pThinnest (emR M) (aR M) x) hI ?_ (fun M1 hf hI1 => ?_)
  · have h := s124 (X := X) (d := d + 4) (x := x) q1 (by rw [q6]; exact q2.2.1) (by rw [q6, q7]; exact q12)
    rw [q6, q7] at h
    exact h
  · obtain ⟨⟨p1, p2, p3, p4, p5, p6, p7, p8, p9, p10, p11, p12, p13, p14, p15, p16, p17, p18, p19, p20, p21⟩, em, ea⟩ := cx_D hf hc
    have h := r226 (X := X) (d := d + 4) (x := x) p2 p12
    rw [em, ea] at h
    exact h
theorem o_ahead {X : (Nat → Int32) × Nat} {d : Nat} {x w : Int32} {M : zM} (hI : INV M) : zOp2 X (d + 10) 115 214 [.int x, .int w] M := by
  obtain ⟨rl, g, i, x0, hc⟩ := INV_cx hI
  obtain ⟨q1, q2, q3, q4, q5, q6, q7, q8, q9, q10, q11, q12, q13, q14, q15, q16, q17, q18, q19, q20, q21⟩ := id hc
  refine opQ (v := pAhead (emR M) (aR M) x w) hI ?_ (fun M1 hf hI1 => ?_)
  · have h := s115 (X := X) (d := d + 5) (x := x) (w := w) q1 (by rw [q6]; exact q2.2.1) (by rw [q6, q7]; exact q12)
    rw [q6, q7] at h
    exact h
  · obtain ⟨⟨p1, p2, p3, p4, p5, p6, p7, p8, p9, p10, p11, p12, p13, p14, p15, p16, p17, p18, p19, p20, p21⟩, em, ea⟩ := cx_D hf hc
    have h := r214 (X := X) (d := d + 4) (x := x) (w := w) p2 p12
    rw [em, ea] at h
    exact h
theorem o_fall {X : (Nat → Int32) × Nat} {d : Nat} {x : Int32} {M : zM} (hI : INV M) : zOp2 X (d + 10) 116 216 [.int x] M := by
  obtain ⟨rl, g, i, x0, hc⟩ := INV_cx hI
  obtain ⟨q1, q2, q3, q4, q5, q6, q7, q8, q9, q10, q11, q12, q13, q14, q15, q16, q17, q18, q19, q20, q21⟩ := id hc
  refine opQ (v := pFall (emR M) (aR M) x) hI ?_ (fun M1 hf hI1 => ?_)
  · have h := s116 (X := X) (d := d + 5) (x := x) q1 (by rw [q6]; exact q2.2.1) (by rw [q6, q7]; exact q12)
    rw [q6, q7] at h
    exact h
  · obtain ⟨⟨p1, p2, p3, p4, p5, p6, p7, p8, p9, p10, p11, p12, p13, p14, p15, p16, p17, p18, p19, p20, p21⟩, em, ea⟩ := cx_D hf hc
    have h := r216 (X := X) (d := d + 4) (x := x) p2 p12
    rw [em, ea] at h
    exact h
theorem o_reign {X : (Nat → Int32) × Nat} {d : Nat} {x w : Int32} {M : zM} (hI : INV M) : zOp2 X (d + 10) 117 217 [.int x, .int w] M := by
  obtain ⟨rl, g, i, x0, hc⟩ := INV_cx hI
  obtain ⟨q1, q2, q3, q4, q5, q6, q7, q8, q9, q10, q11, q12, q13, q14, q15, q16, q17, q18, q19, q20, q21⟩ := id hc
  refine opQ (v := pReign (emR M) (aR M) x w) hI ?_ (fun M1 hf hI1 => ?_)
  · have h := s117 (X := X) (d := d + 3) (x := x) (w := w) q1 (by rw [q6]; exact q2.2.1) (by rw [q6]; exact fun h => (q10 h).1) (by rw [q6]; exact q11)
    rw [q6, q7] at h
    exact h
  · obtain ⟨⟨p1, p2, p3, p4, p5, p6, p7, p8, p9, p10, p11, p12, p13, p14, p15, p16, p17, p18, p19, p20, p21⟩, em, ea⟩ := cx_D hf hc
    have h := r217 (X := X) (d := d + 4) (x := x) (w := w) p2 p12 (fun h => (p10 h).1) p11
    rw [em, ea] at h
    exact h
theorem o_bribes {X : (Nat → Int32) × Nat} {d : Nat} {x : Int32} {M : zM} (hI : INV M) : zOp2 X (d + 10) 118 218 [.int x] M := by
  obtain ⟨rl, g, i, x0, hc⟩ := INV_cx hI
  obtain ⟨q1, q2, q3, q4, q5, q6, q7, q8, q9, q10, q11, q12, q13, q14, q15, q16, q17, q18, q19, q20, q21⟩ := id hc
  refine opQ (v := pBribes (emR M) (aR M) x) hI ?_ (fun M1 hf hI1 => ?_)
  · have h := s118 (X := X) (d := d + 3) (x := x) q1 (by rw [q6]; exact q2.2.1) (by rw [q6]; exact q8) (by rw [q6, q7]; exact q12)
    rw [q6, q7] at h
    exact h
  · obtain ⟨⟨p1, p2, p3, p4, p5, p6, p7, p8, p9, p10, p11, p12, p13, p14, p15, p16, p17, p18, p19, p20, p21⟩, em, ea⟩ := cx_D hf hc
    have h := r218 (X := X) (d := d + 4) (x := x) p2 p12
    rw [em, ea] at h
    exact h
theorem o_reigns {X : (Nat → Int32) × Nat} {d : Nat} {m b w : Int32} {M : zM} (hI : INV M) : zOp2 X (d + 10) 129 236 [.int m, .int b, .int w] M := by
  obtain ⟨rl, g, i, x0, hc⟩ := INV_cx hI
  obtain ⟨q1, q2, q3, q4, q5, q6, q7, q8, q9, q10, q11, q12, q13, q14, q15, q16, q17, q18, q19, q20, q21⟩ := id hc
  refine opQ (v := pReigns (emR M) (aR M) x0 m b w) hI ?_ (fun M1 hf hI1 => ?_)
  · have h := s129 (X := X) (d := d + 3) (x := x0) (m := m) (b := b) (w := w) q1 (by rw [q6]; exact q2.2.1) (by rw [q6]; exact fun h => (q10 h).1) (by rw [q6]; exact q11) q16 q17
    rw [q6, q7] at h
    exact h
  · obtain ⟨⟨p1, p2, p3, p4, p5, p6, p7, p8, p9, p10, p11, p12, p13, p14, p15, p16, p17, p18, p19, p20, p21⟩, em, ea⟩ := cx_D hf hc
    have h := r236 (X := X) (d := d + 4) (x := x0) (m := m) (b := b) (w := w) p2 p12 (fun h => (p10 h).1) p11 p16 p18
    rw [em, ea] at h
    exact h
theorem o_halves {X : (Nat → Int32) × Nat} {d : Nat} {x : Int32} {M : zM} (hI : INV M) : zOp2 X (d + 10) 123 228 [.int x] M := by
  obtain ⟨rl, g, i, x0, hc⟩ := INV_cx hI
  obtain ⟨q1, q2, q3, q4, q5, q6, q7, q8, q9, q10, q11, q12, q13, q14, q15, q16, q17, q18, q19, q20, q21⟩ := id hc
  refine opQ (v := pHalves (emR M) (aR M) x) hI ?_ (fun M1 hf hI1 => ?_)
  · have h := s123 (X := X) (d := d + 8) (x := x) q1 (by rw [q6]; exact q2.2.1) (by rw [q6]; exact q8)
    rw [q6, q7] at h
    exact h
  · obtain ⟨⟨p1, p2, p3, p4, p5, p6, p7, p8, p9, p10, p11, p12, p13, p14, p15, p16, p17, p18, p19, p20, p21⟩, em, ea⟩ := cx_D hf hc
    have h := r228 (X := X) (d := d + 8) (x := x) p1 p2.2.1 p8
    rw [em, ea] at h
    exact ⟨M1, h, rsm_rf⟩
theorem o_rests {X : (Nat → Int32) × Nat} {d : Nat} {x : Int32} {M : zM} (hI : INV M) : zOp2 X (d + 10) 121 224 [.int x] M := by
  obtain ⟨rl, g, i, x0, hc⟩ := INV_cx hI
  obtain ⟨q1, q2, q3, q4, q5, q6, q7, q8, q9, q10, q11, q12, q13, q14, q15, q16, q17, q18, q19, q20, q21⟩ := id hc
  refine opQ (v := pRests (emR M) (aR M) x) hI ?_ (fun M1 hf hI1 => ?_)
  · have h := s121 (X := X) (d := d + 6) (x := x) q1 (by rw [q6]; exact q2.2.1)
    rw [q6, q7] at h
    exact h
  · obtain ⟨⟨p1, p2, p3, p4, p5, p6, p7, p8, p9, p10, p11, p12, p13, p14, p15, p16, p17, p18, p19, p20, p21⟩, em, ea⟩ := cx_D hf hc
    have h := r224 (X := X) (d := d + 6) (x := x) p2
    rw [em, ea] at h
    exact h
theorem o_first {X : (Nat → Int32) × Nat} {d : Nat} {x : Int32} {M : zM} (hI : INV M) : zOp2 X (d + 10) 120 221 [.int x] M := by
  obtain ⟨rl, g, i, x0, hc⟩ := INV_cx hI
  obtain ⟨q1, q2, q3, q4, q5, q6, q7, q8, q9, q10, q11, q12, q13, q14, q15, q16, q17, q18, q19, q20, q21⟩ := id hc
  refine opQ (v := pFirst (emR M) (aR M) x) hI ?_ (fun M1 hf hI1 => ?_)
  · have h := s120 (X := X) (d := d + 7) (x := x) q1 (by rw [q6]; exact q2.2.1)
    rw [q6, q7] at h
    exact h
  · obtain ⟨⟨p1, p2, p3, p4, p5, p6, p7, p8, p9, p10, p11, p12, p13, p14, p15, p16, p17, p18, p19, p20, p21⟩, em, ea⟩ := cx_D hf hc
    have h := r221 (X := X) (d := d + 7) (x := x) p2
    rw [em, ea] at h
    exact ⟨M1, h, rsm_rf⟩
theorem o_ruled {X : (Nat → Int32) × Nat} {d : Nat} {x : Int32} {M : zM} (hI : INV M) : zOp2 X (d + 10) 126 231 [.int x] M := by
  obtain ⟨rl, g, i, x0, hc⟩ := INV_cx hI
  obtain ⟨q1, q2, q3, q4, q5, q6, q7, q8, q9, q10, q11, q12, q13, q14, q15, q16, q17, q18, q19, q20, q21⟩ := id hc
  refine opQ (v := pRuled (emR M) rl g x) hI ?_ (fun M1 hf hI1 => ?_)
  · have h := s126 (X := X) (d := d + 4) (x := x) q1 (by rw [q6]; exact q2.2.1) (by rw [q6]; exact fun h => (q10 h).1) q19 q20 q3 q4
    rw [q6] at h
    exact h
  · obtain ⟨⟨p1, p2, p3, p4, p5, p6, p7, p8, p9, p10, p11, p12, p13, p14, p15, p16, p17, p18, p19, p20, p21⟩, em, ea⟩ := cx_D hf hc
    have h := r231 (X := X) (d := d + 2) (x := x) p2 (fun h => (p10 h).1) p19 p21 p3 p5
    rw [em] at h
    exact h
theorem o_look {X : (Nat → Int32) × Nat} {d : Nat} {x : Int32} {M : zM} (hI : INV M) : zOp2 X (d + 10) 127 233 [.int x] M := by
  obtain ⟨rl, g, i, x0, hc⟩ := INV_cx hI
  obtain ⟨q1, q2, q3, q4, q5, q6, q7, q8, q9, q10, q11, q12, q13, q14, q15, q16, q17, q18, q19, q20, q21⟩ := id hc
  refine opQ (v := pLook (emR M) rl g x) hI ?_ (fun M1 hf hI1 => ?_)
  · have h := s127 (X := X) (d := d + 4) (x := x) q1 (by rw [q6]; exact q2.2.1) (by rw [q6]; exact fun h => (q10 h).1) q19 q20 q3 q4
    rw [q6] at h
    exact h
  · obtain ⟨⟨p1, p2, p3, p4, p5, p6, p7, p8, p9, p10, p11, p12, p13, p14, p15, p16, p17, p18, p19, p20, p21⟩, em, ea⟩ := cx_D hf hc
    have h := r233 (X := X) (d := d + 2) (x := x) p2 (fun h => (p10 h).1) p19 p21 p3 p5
    rw [em] at h
    exact h
theorem o_sale {X : (Nat → Int32) × Nat} {d : Nat} {x : Int32} {M : zM} (hI : INV M) : zOp2 X (d + 10) 114 213 [.int x] M := by
  obtain ⟨rl, g, i, x0, hc⟩ := INV_cx hI
  obtain ⟨q1, q2, q3, q4, q5, q6, q7, q8, q9, q10, q11, q12, q13, q14, q15, q16, q17, q18, q19, q20, q21⟩ := id hc
  refine opQ (v := pSl (emR M) (aR M) (pRl rl.2 i) x) hI ?_ (fun M1 hf hI1 => ?_)
  · have h := s114 (X := X) (d := d + 6) (x := x) q1 (by rw [q6]; exact q2.2.1) (by rw [q6]; exact fun h => (q10 h).1) q3 q4 q13 q14
    rw [q6, q7] at h
    exact h
  · obtain ⟨⟨p1, p2, p3, p4, p5, p6, p7, p8, p9, p10, p11, p12, p13, p14, p15, p16, p17, p18, p19, p20, p21⟩, em, ea⟩ := cx_D hf hc
    have h := r213 (X := X) (d := d + 3) (x := x) p2 (fun h => (p10 h).1) p3 p5 p13 p15
    rw [em, ea] at h
    exact h
theorem o_way {X : (Nat → Int32) × Nat} {d : Nat} {x y w : Int32} {M : zM} (hI : INV M) : zOp2 X (d + 10) 119 219 [.int x, .int y, .int w] M := by
  obtain ⟨rl, g, i, x0, hc⟩ := INV_cx hI
  obtain ⟨q1, q2, q3, q4, q5, q6, q7, q8, q9, q10, q11, q12, q13, q14, q15, q16, q17, q18, q19, q20, q21⟩ := id hc
  refine opQ (v := pWay (emR M) x y w) hI ?_ (fun M1 hf hI1 => ?_)
  · have h := s119 (X := X) (d := d + 8) (x := x) (y := y) (w := w) q1 (by rw [q6]; exact q2.2.1) (by rw [q6]; exact fun h => (q10 (tld q2.2.1 h)).2) q9
    rw [q6] at h
    exact ⟨M, h, zfr_rf⟩
  · obtain ⟨⟨p1, p2, p3, p4, p5, p6, p7, p8, p9, p10, p11, p12, p13, p14, p15, p16, p17, p18, p19, p20, p21⟩, em, ea⟩ := cx_D hf hc
    have h := r219 (X := X) (d := d + 9) (x := x) (y := y) (w := w) p2 (fun h => (p10 (tld p2.2.1 h)).2)
    rw [em] at h
    exact ⟨M1, h, rsm_rf⟩
theorem o_band {X : (Nat → Int32) × Nat} {d : Nat} {x w : Int32} {M : zM} (hI : INV M) : zOp2 X (d + 10) 105 185 [.int x, .int w] M := by
  obtain ⟨rl, g, i, x0, hc⟩ := INV_cx hI
  obtain ⟨q1, q2, q3, q4, q5, q6, q7, q8, q9, q10, q11, q12, q13, q14, q15, q16, q17, q18, q19, q20, q21⟩ := id hc
  refine opQ (v := pAsk 3 ((emR M) 0 1) (fun b => [emR M 4 b, emR M 5 b, emR M 6 b, pBit (aR M 7) b]) (-1) x w) hI ?_ (fun M1 hf hI1 => ?_)
  · have h := s105 (X := X) (d := d + 9) (x := x) (w := w) q1 (by rw [q6]; exact q2.2.1)
    rw [q6, q7] at h
    exact ⟨M, h, zfr_rf⟩
  · obtain ⟨⟨p1, p2, p3, p4, p5, p6, p7, p8, p9, p10, p11, p12, p13, p14, p15, p16, p17, p18, p19, p20, p21⟩, em, ea⟩ := cx_D hf hc
    have h := r185 (X := X) (d := d + 9) (x := x) (w := w) p2
    rw [em, ea] at h
    exact ⟨M1, h, rsm_rf⟩
theorem o_bidder {X : (Nat → Int32) × Nat} {d : Nat} {x w : Int32} {M : zM} (hI : INV M) : zOp2 X (d + 10) 106 186 [.int x, .int w] M := by
  obtain ⟨rl, g, i, x0, hc⟩ := INV_cx hI
  obtain ⟨q1, q2, q3, q4, q5, q6, q7, q8, q9, q10, q11, q12, q13, q14, q15, q16, q17, q18, q19, q20, q21⟩ := id hc
  refine opQ (v := pAsk 2 ((emR M) 0 4) (fun b => [aR M (10 + b), emR M 14 b, if aR M 3 = Int32.ofNat b then 1 else 0]) (-1) x w) hI ?_ (fun M1 hf hI1 => ?_)
  · have h := s106 (X := X) (d := d + 9) (x := x) (w := w) q1 (by rw [q6]; exact q2.2.1)
    rw [q6, q7] at h
    exact ⟨M, h, zfr_rf⟩
  · obtain ⟨⟨p1, p2, p3, p4, p5, p6, p7, p8, p9, p10, p11, p12, p13, p14, p15, p16, p17, p18, p19, p20, p21⟩, em, ea⟩ := cx_D hf hc
    have h := r186 (X := X) (d := d + 8) (x := x) (w := w) p2
    rw [em, ea] at h
    exact ⟨M1, h, rsm_rf⟩
theorem o_general {X : (Nat → Int32) × Nat} {d : Nat} {x w : Int32} {M : zM} (hI : INV M) : zOp2 X (d + 10) 107 187 [.int x, .int w] M := by
  obtain ⟨rl, g, i, x0, hc⟩ := INV_cx hI
  obtain ⟨q1, q2, q3, q4, q5, q6, q7, q8, q9, q10, q11, q12, q13, q14, q15, q16, q17, q18, q19, q20, q21⟩ := id hc
  refine opQ (v := pAsk 5 ((emR M) 0 2) (fun b => [emR M 7 b, emR M 8 b, emR M 9 b, pBit (aR M 8) b, pBit (aR M 9) b, pComes (emR M) (aR M) b]) (-2) x w) hI ?_ (fun M1 hf hI1 => ?_)
  · have h := s107 (X := X) (d := d + 7) (x := x) (w := w) q1 (by rw [q6]; exact q2.2.1)
    rw [q6, q7] at h
    exact ⟨M, h, zfr_rf⟩
  · obtain ⟨⟨p1, p2, p3, p4, p5, p6, p7, p8, p9, p10, p11, p12, p13, p14, p15, p16, p17, p18, p19, p20, p21⟩, em, ea⟩ := cx_D hf hc
    have h := r187 (X := X) (d := d + 8) (x := x) (w := w) p2
    rw [em, ea] at h
    exact ⟨M1, h, rsm_rf⟩
