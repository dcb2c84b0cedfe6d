/-! ===== acts: what stands after them ===== -/
/-- what an act may change in the class -/
def fD (M M1 : zM) : Prop := zGE M1 ∧ (∀ c, (c < 67 ∨ c = 70 ∨ c = 71 ∨ (112 ≤ c ∧ c < 114) ∨ 150 ≤ c) → c ≠ 39 → M1.1 c = M.1 c) ∧ (∀ k, k ≠ 5 → M1.1 39 k = M.1 39 k) ∧ ∀ c, c ≠ 69 → M1.2.2.1 c = M.2.2.1 c
/-- .. in the reference -/
def fR (M M1 : zM) : Prop := M1.2.2 = M.2.2 ∧ (∀ c, c < 460 ∨ (463 ≤ c ∧ c < 494) ∨ 503 ≤ c → M1.1 c = M.1 c) ∧ (∀ k, ¬ (47 ≤ k ∧ k ≤ 51) → ¬ (55 ≤ k ∧ k ≤ 57) → ¬ 64 ≤ k → M1.1 460 k = M.1 460 k) ∧ (∀ k, k < 18 → (∀ i, i < 10 → prm i ≠ k) → M1.1 461 k = M.1 461 k) ∧ ∀ k, k < 2200 → M1.1 502 k = M.1 502 k
theorem fR_tr {M M1 M2 : zM} (h : fR M M1) (h2 : fR M1 M2) : fR M M2 := ⟨h2.1.trans h.1, fun c hc => (h2.2.1 c hc).trans (h.2.1 c hc), fun k a b c => (h2.2.2.1 k a b c).trans (h.2.2.1 k a b c), fun k a b => (h2.2.2.2.1 k a b).trans (h.2.2.2.1 k a b), fun k a => (h2.2.2.2.2 k a).trans (h.2.2.2.2 k a)⟩
theorem fR_s {M M1 : zM} (h : zfs M M1) : fR M M1 := ⟨h.1.1, fun c hc => zfs_c h (by omega), fun k _ _ _ => by rw [zfs_c h (show 460 < 461 ∨ 463 ≤ 460 by decide)], fun k _ a => h.2 k a, fun k _ => by rw [zfs_c h (show 502 < 461 ∨ 463 ≤ 502 by decide)]⟩
theorem fR_k {M M1 : zM} (h : fk M M1) : fR M M1 := ⟨by rw [h.1], fun c hc => h.2.1 c (by omega) (by omega), fun k _ b _ => h.2.2 k (by omega) (by omega) (by omega), fun k _ _ => by rw [h.2.1 461 (by decide) (by decide)], fun k _ => by rw [h.2.1 502 (by decide) (by decide)]⟩
theorem fR_r {M M1 : zM} (h : rsm M M1) : fR M M1 := ⟨h.1.1, fun c hc => zwk_c h.1 (by omega) (by omega) (by omega), fun k a b c => h.1.2.2.1 k a (by omega) c, fun k a _ => h.2.1 k a, fun k a => h.1.2.2.2.2 k a⟩
theorem iRl_c2 {nr r : Nat} {M M' N N' : zM} (hG : zGE M) (hr : zqk r 6 = true) (h1 : ∀ c, r ≤ c → c < r + 73 → M'.1 c = M.1 c) (h2 : M'.2.2.1 (r + 30) = M.2.2.1 (r + 30)) (h3 : agR N N') (h : iRl nr r M N) : iRl nr r M' N' := by
  obtain ⟨a, b, c, d, e, f, ⟨p, p1, p2, p3, p4⟩⟩ := iRl_c (M' := (M'.1, M.2)) hG hr h1 rfl h3 h
  refine ⟨a, b, c, d, e, f, ⟨p, p1, p2, p3, fun j hj => ?_⟩⟩
  obtain ⟨q1, q2⟩ := p4 j hj
  refine ⟨?_, q2⟩
  rw [h2]
  exact q1
theorem INV_A {M M1 M2 : zM} {A : zA} {q : Nat} (hI : INV M) (hD : fD M M1) (hR : fR M1 M2) (hs1 : stD (nD (emR M)) 67 M1 = A) (hs2 : stR (nD (emR M)) M2 = A) (hA : okA (emR M) A) (hq : q ≤ 20) (h51 : M1.1 39 5 = Int32.ofNat q) (h52 : M2.1 460 55 = Int32.ofNat q) (hp : ∀ j, j < q → stD (nD (emR M)) (M1.2.2.1 69 j) M1 = pastR (nD (emR M)) M2 j ∧ okA (emR M) (pastR (nD (emR M)) M2 j)) : INV M2 := by
  obtain ⟨hG, hT, rl, h1, h2, h3, h4, h5⟩ := hI
  obtain ⟨d1, d2, d3, d4⟩ := hD
  obtain ⟨r1, r2, r3, r4, r5⟩ := hR
  have hG2 : zGE M2 := zGE_of d1 r1
  -- cells that stand
  have c : ∀ a, (a < 67 ∨ a = 70 ∨ a = 71 ∨ (112 ≤ a ∧ a < 114) ∨ (150 ≤ a ∧ a < 460) ∨ (463 ≤ a ∧ a < 494) ∨ 503 ≤ a) → a ≠ 39 → M2.1 a = M.1 a := fun a ha h39 => by
    rw [r2 a (by omega), d2 a (by omega) h39]
  have c39 : ∀ k, k ≠ 5 → M2.1 39 k = M.1 39 k := fun k hk => by rw [r2 39 (by omega), d3 k hk]
  have c460 : ∀ k, ¬ (47 ≤ k ∧ k ≤ 51) → ¬ (55 ≤ k ∧ k ≤ 57) → ¬ 64 ≤ k → M2.1 460 k = M.1 460 k := fun k u1 u2 u3 => by rw [r3 k u1 u2 u3, d2 460 (by omega) (by omega)]
  have c461 : ∀ k, k < 18 → (∀ i, i < 10 → prm i ≠ k) → M2.1 461 k = M.1 461 k := fun k u1 u2 => by rw [r4 k u1 u2, d2 461 (by omega) (by omega)]
  have cr : ∀ a, a ≠ 69 → M2.2.2.1 a = M.2.2.1 a := fun a ha => by rw [r1, d4 a ha]
  have np : ∀ k, k < 18 → (k = 1 ∨ k = 2 ∨ k = 3 ∨ k = 4 ∨ k = 5 ∨ k = 15 ∨ k = 16 ∨ k = 17) → ∀ i, i < 10 → prm i ≠ k := by decide
  have hcarry : ∀ k, (k = 1 ∨ k = 2 ∨ k = 3 ∨ k = 4 ∨ k = 5 ∨ k = 15 ∨ k = 16 ∨ k = 17) → M2.1 461 k = M.1 461 k := fun k hk => c461 k (by omega) (np k (by omega) hk)
  -- the empire
  obtain ⟨⟨a1, a2, a3, a4, a5, a6, a7⟩, ⟨b1, b2⟩, ⟨i, e1, e2, e3⟩, ⟨x, f1, f2, f3⟩, j1, ⟨g, g1, g2, g3⟩, -⟩ := h4
  have em : emR M2 = emR M := by
    have hrc : ∀ r, r < 16 → rcn r = 0 ∨ (463 ≤ rcn r ∧ rcn r ≤ 493) := by decide
    have k25 := c460 25 (by omega) (by omega) (by omega)
    have hct : ∀ r, rct M2 r = rct M r := fun r => by unfold rct; rw [k25, hcarry 2 (by omega), hcarry 3 (by omega), hcarry 4 (by omega)]
    funext r j
    unfold emR
    rw [hct, k25, hcarry 1 (by omega), hcarry 2 (by omega), hcarry 3 (by omega), hcarry 4 (by omega), hcarry 5 (by omega), c 470 (by omega) (by omega), c 493 (by omega) (by omega)]
    by_cases q : r < 16
    · rw [c (rcn r) (by have := hrc r q; omega) (by have := hrc r q; omega)]
    · rw [if_neg q, if_neg q]
  have ea : aR M2 = A := by
    show stR (nD (emR M2)) M2 = A
    rw [em, hs2]
  have emd : emD 40 M2 = emD 40 M := by
    funext s j
    unfold emD
    rw [c (40 + 1) (by omega) (by omega), c (40 + 12) (by omega) (by omega), c (40 + 13) (by omega) (by omega), c (40 + 14) (by omega) (by omega)]
    by_cases q0 : s = 0
    · rw [if_pos q0, if_pos q0]
    · rw [if_neg q0, if_neg q0]
      by_cases q1 : s < 16
      · rw [if_pos q1, if_pos q1, c (40 + 2 + s) (by omega) (by omega)]
      · rw [if_neg q1, if_neg q1]
        by_cases q2 : s < 24
        · rw [if_pos q2, if_pos q2, c (40 + 3 + s) (by omega) (by omega)]
        · rw [if_neg q2, if_neg q2]
  have stm : ∀ n s, s + 1 < 460 → stD n s M2 = stD n s M1 := fun n s hs => stD_cells (r2 s (by omega)) (r2 (s + 1) (by omega))
  refine ⟨hG2, ?_, rl, h1, rsD_c (fun a ha => c a (by omega) (by omega)) h1.1 h2, ⟨by rw [c460 30 (by omega) (by omega) (by omega)]; exact h3.1, fun i hi => ruR_q (c 488 (by omega) (by omega)) (c 489 (by omega) (by omega)) (c 490 (by omega) (by omega)) (c 491 (by omega) (by omega)) (c 486 (by omega) (by omega)) (c 487 (by omega) (by omega)) (h3.2 i hi)⟩, ?_, fun k hk => ?_⟩
  · unfold iTp
    rw [c 1 (by omega) (by omega), c 2 (by omega) (by omega), c460 26 (by omega) (by omega) (by omega), c460 35 (by omega) (by omega) (by omega), c 485 (by omega) (by omega)]
    exact hT
  · refine ⟨⟨by rw [emd, em]; exact a1, by rw [em]; exact a2, fun a ha => by rw [c 470 (by omega) (by omega)]; exact a3 a ha, by rw [em]; exact a4, ?_, by rw [em]; exact a6, by rw [em]; exact a7⟩, ⟨?_, by rw [em, ea]; exact hA⟩, ⟨i, e1, by rw [c39 2 (by omega)]; exact e2, by rw [hcarry 17 (by omega)]; exact e3⟩, ⟨x, f1, by rw [c39 3 (by omega)]; exact f2, by rw [hcarry 16 (by omega)]; exact f3⟩, by rw [c (39 + 5) (by omega) (by omega), hcarry 1 (by omega)]; exact j1, ⟨g, g1, ?_, ?_⟩, ⟨q, hq, by rw [r2 39 (by omega)]; exact h51, h52, fun j hj => ?_⟩⟩
    · unfold okRd
      rw [c (39 + 1 + 1) (by omega) (by omega), c (39 + 1 + 12) (by omega) (by omega), c (39 + 1 + 13) (by omega) (by omega), c (39 + 1 + 14) (by omega) (by omega)]
      exact a5
    · rw [em, ea]
      exact (stm _ 67 (by omega)).trans hs1
    · unfold lgDr
      rw [c39 8 (by omega), c (39 + 31) (by omega) (by omega), c (39 + 32) (by omega) (by omega)]
      exact g2
    · unfold lgR
      rw [hcarry 15 (by omega), c 471 (by omega) (by omega), c 472 (by omega) (by omega)]
      exact g3
    · obtain ⟨u1, u2⟩ := hp j hj
      obtain ⟨jj, v1, v2⟩ := past_c d1 (i := j) (by omega)
      rw [em]
      refine ⟨?_, u2⟩
      rw [r1]
      rw [← u1]
      show stD _ (M1.2.2.1 69 j) M2 = _
      rw [v2]
      exact stm _ _ (by omega)
  · obtain ⟨q1, q2⟩ := h5 k hk
    rw [c 113 (by omega) (by omega), c 503 (by omega) (by omega)]
    refine ⟨q1, q2.imp id (fun q => ⟨q.1, ?_⟩)⟩
    exact iRl_c2 hG (hrea k hk) (fun a u1 u2 => c a (by omega) (by omega)) (cr _ (by omega)) (ldR_ag hk (by rw [c 504 (by omega) (by omega)]) (fun j hj => by rw [r5 j hj, d2 502 (by omega) (by omega)])) q.2
/-- the past, as both hold it -/
theorem INV_p {M : zM} (h : INV M) : ∃ p, p ≤ 20 ∧ M.1 39 5 = Int32.ofNat p ∧ M.1 460 55 = Int32.ofNat p ∧ ∀ j, j < p → stD (nD (emR M)) (M.2.2.1 69 j) M = pastR (nD (emR M)) M j ∧ okA (emR M) (pastR (nD (emR M)) M j) := by
  obtain ⟨hG, hT, rl, h1, h2, h3, ⟨-, -, -, -, -, -, h⟩, h5⟩ := h
  exact h
theorem fD_cx {M M1 : zM} {rl : zRul} {g : zLg} {i x : Nat} (hD : fD M M1) (hc : cx rl g i x M) : okM M1 ∧ emR M1 = emR M ∧ (∀ n, stR n M1 = stR n M) ∧ rsR M1 rl ∧ M1.1 461 17 = rv i ∧ (∀ n j, pastR n M1 j = pastR n M j) ∧ ∀ c, 460 ≤ c → M1.1 c = M.1 c := by
  have c : ∀ a, 460 ≤ a → M1.1 a = M.1 a := fun a ha => hD.2.1 a (by omega) (by omega)
  obtain ⟨q1, q2, q3, q4, q5, q6, q7, q8, q9, q10, q11, q12, q13, q14, q15, q16, q17, q18, q19, q20, q21⟩ := hc
  have em : emR M1 = emR M := emR_ag q2.2.1 (agR_eq c)
  refine ⟨⟨hD.1, by rw [em]; exact q2.2.1, fun a ha => by rw [c 470 (by omega)]; exact q2.2.2 a ha⟩, em, fun n => by unfold stR; rw [c 461 (by omega), c 462 (by omega)], ⟨by rw [c 460 (by omega)]; exact q5.1, fun i hi => ruR_q (c 488 (by omega)) (c 489 (by omega)) (c 490 (by omega)) (c 491 (by omega)) (c 486 (by omega)) (c 487 (by omega)) (q5.2 i hi)⟩, by rw [c 461 (by omega)]; exact q15, fun n j => by unfold pastR; rw [c 497 (by omega)], c⟩
theorem pRemN_le (p : Nat) (hp : p ≤ 20) : pRemN p ≤ 20 := by unfold pRemN; split <;> omega
/-- an act that both remember -/
theorem opA {X : (Nat → Int32) × Nat} {d a b : Nat} {as : List Value} {M : zM} {v : Int32} {A : zA} (hI : INV M) (hA : okA (emR M) A) (hD : ∀ p, p ≤ 20 → M.1 39 5 = Int32.ofNat p → ∃ M1, zC X d a (.ref 0 :: as) M = some (some (.int v), M1) ∧ fD M M1 ∧ stD (nD (emR M)) 67 M1 = A ∧ M1.1 39 5 = Int32.ofNat (pRemN p) ∧ ∀ j, j < pRemN p → stD (nD (emR M)) (M1.2.2.1 69 j) M1 = pRem p (fun j => stD (nD (emR M)) (M.2.2.1 69 j) M) (aR M) j) (hR : ∀ p M1, p ≤ 20 → fD M M1 → M1.1 460 55 = Int32.ofNat p → ∃ M2, zC X d b (.ref 460 :: as) M1 = some (some (.int v), M2) ∧ fR M1 M2 ∧ stR (nD (emR M)) M2 = A ∧ M2.1 460 55 = Int32.ofNat (pRemN p) ∧ ∀ j, j < pRemN p → pastR (nD (emR M)) M2 j = pRem p (fun j => pastR (nD (emR M)) M j) (aR M) j) : zOp2 X d a b as M := by
  obtain ⟨p, p1, p2, p3, p4⟩ := INV_p hI
  obtain ⟨rl, g, i, x, hc⟩ := INV_cx hI
  obtain ⟨q1, q2, q3, q4, q5, q6, q7, q8, q9, q10, q11, q12, -⟩ := id hc
  obtain ⟨M1, h1, h2, h3, h4, h5⟩ := hD p p1 p2
  obtain ⟨-, -, -, -, -, -, c⟩ := fD_cx h2 hc
  obtain ⟨M2, w1, w2, w3, w4, w5⟩ := hR p M1 p1 h2 (by rw [c 460 (by omega)]; exact p3)
  refine ⟨v, M1, M2, h1, w1, INV_A hI h2 w2 h3 w3 hA (pRemN_le p p1) h4 w4 (fun j hj => ?_)⟩
  rw [h5 j hj, w5 j hj]
  unfold pRemN at hj
  unfold pRem
  by_cases c1 : p < 20
  · rw [if_pos c1] at hj
    rw [if_pos c1, if_pos c1]
    by_cases c2 : j = p
    · rw [if_pos c2, if_pos c2]
      exact ⟨rfl, q12⟩
    · rw [if_neg c2, if_neg c2]
      exact p4 j (by omega)
  · rw [if_neg c1] at hj
    rw [if_neg c1, if_neg c1]
    by_cases c2 : j = 19
    · rw [if_pos c2, if_pos c2]
      exact ⟨rfl, q12⟩
    · rw [if_neg c2, if_neg c2]
      exact p4 (j + 1) (by omega)
