/-! ===== day, sell, bribe, thin, kill ===== -/
theorem act_D {X : (Nat → Int32) × Nat} {d n p : Nat} {M : zM} (hG : zGE M) (hn : n ≤ 4) (hp : p ≤ 20) (h5 : M.1 39 5 = Int32.ofNat p) : ∃ Ma, zC X (d + 1) 54 [.ref 39] M = some (none, Ma) ∧ zGE Ma ∧ emD 40 Ma = emD 40 M ∧ (∀ c, (40 ≤ c ∧ c < 72) ∨ 112 ≤ c → Ma.1 c = M.1 c) ∧ ∀ Mb, zfr 67 69 Ma Mb → fD M Mb ∧ Mb.1 39 5 = Int32.ofNat (pRemN p) ∧ ∀ j, j < pRemN p → stD n (Mb.2.2.1 69 j) Mb = pRem p (fun j => stD n (M.2.2.1 69 j) M) (stD n 67 M) j := by
  obtain ⟨Ma, q1, ⟨f1, f2, f3, f4⟩, q3, q4⟩ := s54 (X := X) (d := d) (n := n) hG hn hp h5
  have em : emD 40 Ma = emD 40 M := by
    funext s j
    unfold emD
    rw [f2 (40 + 1) (by omega) (by omega), f2 (40 + 12) (by omega) (by omega), f2 (40 + 13) (by omega) (by omega), f2 (40 + 14) (by omega) (by omega)]
    by_cases q0 : s = 0
    · rw [if_pos q0, if_pos q0]
    · rw [if_neg q0, if_neg q0]
      by_cases q1 : s < 16
      · rw [if_pos q1, if_pos q1, f2 (40 + 2 + s) (by omega) (by omega)]
      · rw [if_neg q1, if_neg q1]
        by_cases q2 : s < 24
        · rw [if_pos q2, if_pos q2, f2 (40 + 3 + s) (by omega) (by omega)]
        · rw [if_neg q2, if_neg q2]
  refine ⟨Ma, q1, f1, em, fun c hc => f2 c (by omega) (by omega), fun Mb h => ⟨⟨zfr_G h f1, fun c hc h39 => by rw [(h.2 c (by omega)).1]; exact f2 c (by omega) h39, fun k hk => by rw [(h.2 39 (by omega)).1]; exact f3 k hk, fun c hc => by rw [h.1]; exact f4 c hc⟩, by rw [(h.2 39 (by omega)).1]; exact q3, fun j hj => ?_⟩⟩
  rw [← q4 j hj, h.1]
  have := pRemN_le p hp
  obtain ⟨b, hb, hrb⟩ := past_c f1 (i := j) (by omega)
  rw [hrb]
  exact stD_cells (h.2 _ (by omega)).1 (h.2 _ (by omega)).1
theorem act_R {X : (Nat → Int32) × Nat} {d n p : Nat} {M : zM} (hM : okM M) (hn : n ≤ 4) (hp : p ≤ 20) (h5 : M.1 460 55 = Int32.ofNat p) : ∃ Ma, zC X (d + 2) 203 [.ref 460] M = some (none, Ma) ∧ okM Ma ∧ emR Ma = emR M ∧ (∀ n, stR n Ma = stR n M) ∧ Ma.1 461 = M.1 461 ∧ Ma.1 462 = M.1 462 ∧ Ma.1 469 = M.1 469 ∧ Ma.1 460 47 = M.1 460 47 ∧ ∀ Mb, zfs Ma Mb → fR M Mb ∧ Mb.1 460 55 = Int32.ofNat (pRemN p) ∧ ∀ j, j < pRemN p → pastR n Mb j = pRem p (fun j => pastR n M j) (stR n M) j := by
  obtain ⟨Ma, q1, q2, q3, q4⟩ := r203 (X := X) (d := d) (n := n) hM.1 hn hp h5
  have e61 := q2.2.1 461 (by decide) (by decide)
  have e62 := q2.2.1 462 (by decide) (by decide)
  have e70 := q2.2.1 470 (by decide) (by decide)
  have e25 := q2.2.2 25 (by decide) (by decide) (by decide)
  have em : emR Ma = emR M := by
    have hrc : ∀ r, r < 16 → rcn r = 0 ∨ (463 ≤ rcn r ∧ rcn r ≤ 493) := by decide
    have hct : ∀ r, rct Ma r = rct M r := fun r => by unfold rct; rw [e25, e61]
    funext r j
    unfold emR
    rw [hct, e25, e61, e70, q2.2.1 493 (by decide) (by decide)]
    by_cases g : r < 16
    · rw [q2.2.1 (rcn r) (by have := hrc r g; omega) (by have := hrc r g; omega)]
    · rw [if_neg g, if_neg g]
  refine ⟨Ma, q1, ⟨zGE_of hM.1 (by rw [q2.1]), by rw [em]; exact hM.2.1, fun a ha => by rw [e70]; exact hM.2.2 a ha⟩, em, fun n => by unfold stR; rw [e61, e62], e61, e62, q2.2.1 469 (by decide) (by decide), q2.2.2 47 (by decide) (by decide) (by decide), fun Mb h => ⟨fR_tr (fR_k q2) (fR_s h), by rw [zfs_c h (show 460 < 461 ∨ 463 ≤ 460 by decide)]; exact q3, fun j hj => ?_⟩⟩
  rw [← q4 j hj]
  unfold pastR
  rw [zfs_c h (show 497 < 461 ∨ 463 ≤ 497 by decide)]
theorem pGo_1 {E : zE} {A : zA} : pGo E A 1 = A 1 := by
  have p1 : pPay E A 1 = A 1 := by
    unfold pPay
    split
    · split
      · rfl
      · split
        · rw [zu_n (by decide), zu_n (by omega), zu_n (by decide)]
        · rfl
    · rfl
  unfold pGo
  try dsimp only
  rw [zu_n (by decide)]
  have h1 : (bif pBS A then pLv E (pPay E A) (nG E) else A) 1 = A 1 := by
    cases pBS A
    · rfl
    · show pLv E (pPay E A) (nG E) 1 = A 1
      rw [pLv_k (by decide), p1]
  split
  · exact h1
  · rw [pCm_k (by decide) (by decide) (by decide), h1]
theorem o_day {X : (Nat → Int32) × Nat} {d : Nat} {M : zM} (hI : INV M) : zOp2 X (d + 10) 108 205 [] M := by
  obtain ⟨rl, g, i, x0, hc⟩ := INV_cx hI
  obtain ⟨q1, q2, q3, q4, q5, q6, q7, q8, q9, q10, q11, q12, -⟩ := id hc
  obtain ⟨hn4, -⟩ := okR_D q2.2.1
  obtain ⟨o1, ⟨dq, dq1, dq2⟩, o3⟩ := id q12
  have e2 : M.1 67 2 = Int32.ofNat dq := by rw [← dq2, ← q7]; exact (stD_f (by decide)).symm
  have hs67 : stD (nD (emR M)) 67 M = aR M := by rw [← q7, ← q6]
  by_cases c0 : emR M 0 0 = 0
  · refine opQ (v := -2) hI ⟨M, ?_, zfr_rf⟩ (fun M1 hf hI1 => ⟨M1, ?_, rsm_rf⟩)
    · show zR X (d + 10) 108 (0, [.ref 0], [], M) = _
      rw [t108_0 _ q1, s11 q1 zq_40 (by rw [q6]; exact q2.2.1), Option.bind_some, q6]
      dsimp only [zps]
      rw [t108_10 _ _ q1, if_pos c0, if_pos rfl]
    · show zR X (d + 10) 205 (0, [.ref 460], [], M1) = _
      have h0 : M1.1 460 25 = 0 := by rw [(hf.2 460 (by omega)).1]; exact c0
      rw [t205_0 _ (zfr_G hf q1), if_pos h0]
  · by_cases c1 : dq = 999
    · refine opQ (v := -2) hI ⟨M, ?_, zfr_rf⟩ (fun M1 hf hI1 => ⟨M1, ?_, rsm_rf⟩)
      · show zR X (d + 10) 108 (0, [.ref 0], [], M) = _
        rw [t108_0 _ q1, s11 q1 zq_40 (by rw [q6]; exact q2.2.1), Option.bind_some, q6]
        dsimp only [zps]
        rw [t108_10 _ _ q1, if_neg c0, if_neg (by decide), e2, c1, if_neg (by decide)]
      · show zR X (d + 10) 205 (0, [.ref 460], [], M1) = _
        have h0 : ¬ M1.1 460 25 = 0 := by rw [(hf.2 460 (by omega)).1]; exact c0
        have h6 : M1.1 461 6 = Int32.ofNat 999 := by rw [(hf.2 461 (by omega)).1, ← c1]; exact dq2
        rw [t205_0 _ (zfr_G hf q1), if_neg h0, h6, if_neg (by decide)]
    · refine opA (v := pGo (emR M) (aR M) 3) (A := pGo (emR M) (aR M)) hI ⟨okR_go o1, ⟨dq + 1, by omega, by rw [pGo_2, dq2, of_succ]⟩, by rw [pGo_1]; exact o3⟩ (fun p p1 p2 => ?_) (fun p M1 p1 hfD p2 => ?_)
      · show ∃ M1, zR X (d + 10) 108 (0, [.ref 0], [], M) = some (some (.int _), M1) ∧ _
        obtain ⟨Ma, a1, a2, a3, a4, a5⟩ := act_D (X := X) (d := d + 8) (n := nD (emR M)) q1 hn4 p1 p2
        have sta : stD (nD (emR M)) 67 Ma = aR M := by rw [← hs67]; exact stD_cells (a4 67 (by omega)) (a4 68 (by omega))
        obtain ⟨Mb, b1, b2, b3⟩ := s78 (X := X) (d := d + 6) (n := nD (emR M)) (s := 67) (e := 40) a2 zq_67 zq_40 (by rw [a3, q6]; exact Nat.le_refl _) (by omega) (by rw [a3, q6]; exact q2.2.1) (by rw [a3, q6, sta]; exact o1)
        rw [a3, q6, sta] at b3
        obtain ⟨c1', c2', c3'⟩ := a5 Mb b2
        rw [hs67] at c3'
        refine ⟨Mb, ?_, c1', b3, c2', c3'⟩
        have er : Mb.1 67 3 = pGo (emR M) (aR M) 3 := by rw [← b3]; exact (stD_f (by decide)).symm
        rw [t108_0 _ q1, s11 q1 zq_40 (by rw [q6]; exact q2.2.1), Option.bind_some, q6]
        dsimp only [zps]
        rw [t108_10 _ _ q1, if_neg c0, if_neg (by decide), e2, if_pos (by rw [show (999 : Int32) = Int32.ofNat 999 from rfl, of_lt (by omega) (by omega)]; omega), a1, Option.bind_some]
        dsimp only [zps]
        rw [t108_39 _ a2, b1, Option.bind_some]
        dsimp only [zps]
        rw [t108_56 _ (zfr_G b2 a2), er]
      · show ∃ M2, zR X (d + 10) 205 (0, [.ref 460], [], M1) = some (some (.int _), M2) ∧ _
        obtain ⟨u1, u2, u3, u4, u5, u6, u7⟩ := fD_cx hfD hc
        obtain ⟨Ma, a1, a2, a3, a4, a5, a6, a7, a8, a9⟩ := act_R (X := X) (d := d + 7) (n := nD (emR M)) u1 hn4 p1 p2
        have sta : stR (nD (emR M)) Ma = aR M := by rw [a4, u3]
        obtain ⟨Mb, b1, b2, b3⟩ := r199 (X := X) (d := d + 5) (n := nD (emR M)) (M := Ma) a2.1 (by rw [a3, u2]; exact Nat.le_refl _) a2.2.1 a2.2.2 (by rw [a3, u2, sta]; exact o1) (by rw [sta, dq2]; exact ne_m1 (by omega))
        rw [a3, u2, sta] at b3
        obtain ⟨w1, w2, w3⟩ := a9 Mb b2
        rw [u3] at w3
        simp only [u6] at w3
        have h0 : ¬ M1.1 460 25 = 0 := by rw [u7 460 (by omega)]; exact c0
        have h6 : M1.1 461 6 = Int32.ofNat dq := by rw [u7 461 (by omega)]; exact dq2
        have er : Mb.1 461 7 = pGo (emR M) (aR M) 3 := by rw [← b3]; rfl
        refine ⟨Mb, ?_, w1, b3, w2, w3⟩
        rw [t205_0 _ u1.1, if_neg h0, h6, if_pos (by rw [show (999 : Int32) = Int32.ofNat 999 from rfl, of_inj (by omega) (by omega)]; exact c1), a1, Option.bind_some]
        dsimp only [zps]
        rw [t205_27 _ a2.1, b1, Option.bind_some]
        dsimp only [zps]
        rw [t205_31 _ (zfs_G b2 a2.1), er]
theorem o_thin {X : (Nat → Int32) × Nat} {d : Nat} {M : zM} (hI : INV M) : zOp2 X (d + 10) 111 209 [] M := by
  obtain ⟨rl, g, i, x0, hc⟩ := INV_cx hI
  obtain ⟨q1, q2, q3, q4, q5, q6, q7, q8, q9, q10, q11, q12, -⟩ := id hc
  obtain ⟨hn4, -⟩ := okR_D q2.2.1
  obtain ⟨o1, o2, ⟨f, f1, f2, f3⟩⟩ := id q12
  have hs67 : stD (nD (emR M)) 67 M = aR M := by rw [← q7, ← q6]
  have t10 : (10 : Int32) = Int32.ofNat 10 := rfl
  by_cases c0 : emR M 0 0 = 0
  · refine opQ (v := -1) hI ⟨M, ?_, zfr_rf⟩ (fun M1 hf hI1 => ⟨M1, ?_, rsm_rf⟩)
    · show zR X (d + 10) 111 (0, [.ref 0], [], M) = _
      rw [t111_0 _ q1, s11 q1 zq_40 (by rw [q6]; exact q2.2.1), Option.bind_some, q6]
      dsimp only [zps]
      rw [t111_10 _ _ q1, if_pos c0, if_pos rfl]
    · show zR X (d + 10) 209 (0, [.ref 460], [], M1) = _
      have h0 : M1.1 460 25 = 0 := by rw [(hf.2 460 (by omega)).1]; exact c0
      rw [t209_0 _ (zfr_G hf q1), if_pos h0]
  · by_cases c1 : f = 1
    · have hle : stD (nD (emR M)) 67 M 1 ≤ 10 := by rw [hs67, f3, c1]; decide
      refine opQ (v := -1) hI ⟨M, ?_, zfr_rf⟩ (fun M1 hf hI1 => ⟨M1, ?_, rsm_rf⟩)
      · show zR X (d + 10) 111 (0, [.ref 0], [], M) = _
        rw [t111_0 _ q1, s11 q1 zq_40 (by rw [q6]; exact q2.2.1), Option.bind_some, q6]
        dsimp only [zps]
        rw [t111_10 _ _ q1, if_neg c0, if_neg (by decide), s74 (n := nD (emR M)) q1 zq_67, if_pos hle, Option.bind_some]
        dsimp only [zps]
        rw [t111_23 _ _ q1, if_neg (by decide)]
      · show zR X (d + 10) 209 (0, [.ref 460], [], M1) = _
        have h0 : ¬ M1.1 460 25 = 0 := by rw [(hf.2 460 (by omega)).1]; exact c0
        have h6 : M1.1 461 11 = Int32.ofNat 10 := by rw [(hf.2 461 (by omega)).1, show (10 : Nat) = 10 * f by omega]; exact f3
        rw [t209_0 _ (zfr_G hf q1), if_neg h0, h6, if_neg (by decide)]
    · have hnle : ¬ stD (nD (emR M)) 67 M 1 ≤ 10 := by rw [hs67, f3, t10, of_le (by omega) (by omega)]; omega
      have hpos : ¬ aR M 1 - 10 ≤ 0 := by rw [f3, t10, of_sub (by omega), show (0 : Int32) = Int32.ofNat 0 from rfl, of_le (by omega) (by omega)]; omega
      refine opA (v := pThin (aR M) 0) (A := pThin (aR M)) hI ⟨?_, ?_, ⟨f - 1, by omega, by omega, ?_⟩⟩ (fun p p1 p2 => ?_) (fun p M1 p1 hfD p2 => ?_)
      · unfold pThin; rw [zu_n (by decide), zu_n (by decide)]; exact o1
      · unfold pThin; rw [zu_n (by decide), zu_n (by decide)]; exact o2
      · unfold pThin; rw [zu_s, f3, t10, of_sub (by omega)]; congr 1; omega
      · show ∃ M1, zR X (d + 10) 111 (0, [.ref 0], [], M) = some (some (.int _), M1) ∧ _
        obtain ⟨Ma, a1, a2, a3, a4, a5⟩ := act_D (X := X) (d := d + 8) (n := nD (emR M)) q1 hn4 p1 p2
        have sta : stD (nD (emR M)) 67 Ma = aR M := by rw [← hs67]; exact stD_cells (a4 67 (by omega)) (a4 68 (by omega))
        obtain ⟨Mb, b1, b2, b3⟩ := s75 (X := X) (d := d + 9) (n := nD (emR M)) (s := 67) a2 zq_67 (by rw [sta]; exact hpos)
        rw [sta] at b3
        obtain ⟨c1', c2', c3'⟩ := a5 Mb b2
        rw [hs67] at c3'
        refine ⟨Mb, ?_, c1', b3, c2', c3'⟩
        have er : Mb.1 67 0 = pThin (aR M) 0 := by rw [← b3]; exact (stD_f (by decide)).symm
        rw [t111_0 _ q1, s11 q1 zq_40 (by rw [q6]; exact q2.2.1), Option.bind_some, q6]
        dsimp only [zps]
        rw [t111_10 _ _ q1, if_neg c0, if_neg (by decide), s74 (n := nD (emR M)) q1 zq_67, if_neg hnle, Option.bind_some]
        dsimp only [zps]
        rw [t111_23 _ _ q1, if_pos (by decide), a1, Option.bind_some]
        dsimp only [zps]
        rw [t111_35 _ a2, b1, Option.bind_some]
        dsimp only [zps]
        rw [t111_45 _ (zfr_G b2 a2), er]
      · show ∃ M2, zR X (d + 10) 209 (0, [.ref 460], [], M1) = some (some (.int _), M2) ∧ _
        obtain ⟨u1, u2, u3, u4, u5, u6, u7⟩ := fD_cx hfD hc
        obtain ⟨Ma, a1, a2, a3, a4, a5, a6, a7, a8, a9⟩ := act_R (X := X) (d := d + 7) (n := nD (emR M)) u1 hn4 p1 p2
        have sta : stR (nD (emR M)) Ma = aR M := by rw [a4, u3]
        obtain ⟨Mb, b1, b2, b3⟩ := r208 (X := X) (d := d + 9) (n := nD (emR M)) (M := Ma) a2.1 (by rw [sta]; exact hpos)
        rw [sta] at b3
        obtain ⟨w1, w2, w3⟩ := a9 Mb b2
        rw [u3] at w3
        simp only [u6] at w3
        have h0 : ¬ M1.1 460 25 = 0 := by rw [u7 460 (by omega)]; exact c0
        have h6 : M1.1 461 11 = Int32.ofNat (10 * f) := by rw [u7 461 (by omega)]; exact f3
        have er : Mb.1 461 0 = pThin (aR M) 0 := by rw [← b3]; rfl
        refine ⟨Mb, ?_, w1, b3, w2, w3⟩
        rw [t209_0 _ u1.1, if_neg h0, h6, if_pos (by rw [t10, of_inj (by omega) (by omega)]; omega), a1, Option.bind_some]
        dsimp only [zps]
        rw [t209_25 _ a2.1, b1, Option.bind_some]
        dsimp only [zps]
        rw [t209_29 _ (zfs_G b2 a2.1), er]
