/-! ===== whom to bribe: the reference ===== -/
theorem pBr_end {E : zE} {A : zA} {v : Nat} (hn : nN E ≤ 4) (hv : pCn (pFree A) (nN E) = Int32.ofNat v) (hv2 : v < 2 ^ nN E) : ∀ m c, c + m = 2 ^ nN E → v + 1 ≤ c → pBr E A (2 ^ nN E) = pBr E A c := by
  have hpw : 2 ^ nN E ≤ 2 ^ 4 := Nat.pow_le_pow_right (by omega) hn
  intro m
  induction m with
  | zero => intro c h h2; rw [show c = 2 ^ nN E by omega]
  | succ m ih =>
    intro c h h2
    rw [ih (c + 1) (by omega) (by omega), pBr, if_neg]
    intro h3
    unfold pOkB at h3
    rw [Bool.and_eq_true] at h3
    have h4 := (bitsk (f := pFree A) (k := nN E) (c := c) hn (by omega)).2 h3.1
    rw [hv, of_le (by omega) (by omega)] at h4
    omega
theorem r218 {X : (Nat → Int32) × Nat} {d : Nat} {x : Int32} {M : zM} (hM : okM M) (hA : okA (emR M) (aR M)) : ∃ M', zC X (d + 6) 218 [.ref 460, .int x] M = some (some (.int (pBribes (emR M) (aR M) x)), M') ∧ rsm M M' := by
  show ∃ M', zR X (d + 6) 218 (0, [.ref 460, .int x, zjk, zjk, zjk, zjk, zjk, zjk, zjk], [], M) = some (some (.int _), M') ∧ _
  have hG := hM.1
  obtain ⟨hn, hc⟩ := okR_N hM.2.1
  have hn4 := (okR_D hM.2.1).1
  have h3 : aR M 3 = M.1 461 7 := rfl
  have h0 : aR M 0 = M.1 461 0 := rfl
  obtain ⟨qd, hq1, hq2⟩ := hA.2.1
  have hpw : 2 ^ nN (emR M) ≤ 2 ^ 4 := Nat.pow_le_pow_right (by omega) hn
  obtain ⟨v, hv2, hv⟩ := pCn_r (f := pFree (aR M)) hn
  unfold pBribes
  rw [h3, t218_0 _ _ _ _ _ _ _ _ _ hG]
  by_cases c3 : M.1 461 7 = -1
  · rw [if_pos c3, if_pos c3]
    exact ⟨M, rfl, rsm_rf⟩
  · rw [if_neg c3, if_neg c3, r135i (y := 0) (z := 1) (a := 0) (b := 1) hG rfl rfl, Option.bind_some]
    dsimp only [zps]
    rw [t218_18 _ _ _ _ _ _ _ _ _ _ hG]
    by_cases cx : x < 0 ∨ 1 < x
    · rw [if_pos cx, if_pos cx, if_neg (by decide)]
      exact ⟨M, rfl, rsm_rf⟩
    · rw [if_neg cx, if_neg cx, if_pos (by decide)]
      have hfin : pBr (emR M) (aR M) (2 ^ nN (emR M)) = pBr (emR M) (aR M) (v + 1) := pBr_end hn hv hv2 (2 ^ nN (emR M) - (v + 1)) (v + 1) (by omega) (by omega)
      rw [hfin]
      have loop : ∀ m c v7 v8 M1, c + m = v + 1 → zwk M M1 → kp M M1 → (∀ k, k < 18 → M1.1 461 k = M.1 461 k) → (∀ k, k < 4 → M1.1 462 k = M.1 462 k) → ∃ M', zR X (d + 6) 218 (76, [.ref 460, .int x, .int (Int32.ofNat v), .int (pBr (emR M) (aR M) c).1, .int (pBr (emR M) (aR M) c).2.1, .int (pBr (emR M) (aR M) c).2.2, .int (Int32.ofNat c), v7, v8], [], M1) = some (some (.int (if x = 0 then (pBr (emR M) (aR M) (v + 1)).1 else (pBr (emR M) (aR M) (v + 1)).2.1)), M') ∧ rsm M M' := by
        intro m
        induction m with
        | zero =>
          intro c v7 v8 M1 hm hf hk a1 a2
          rw [t218_76 _ _ _ _ _ _ _ _ _ (zwk_G hf hG), if_pos (by rw [of_lt (by omega) (by omega)]; omega), show c = v + 1 by omega]
          refine ⟨M1, ?_, hf, a1, a2⟩
          by_cases cw : x = 0
          · rw [if_neg (not_not_intro cw), if_pos cw]
          · rw [if_pos cw, if_neg cw]
        | succ m ih =>
          intro c v7 v8 M1 hm hf hk a1 a2
          have hG1 := zwk_G hf hG
          have hM1 := zwk_M hf hM
          have em := zwk_em hf
          have est : stR (nD (emR M)) M1 = aR M := kp_st hn4 a1 a2
          have e4 : M1.1 461 4 = Int32.ofNat (nN (emR M)) := by rw [a1 4 (by omega)]; exact hc
          have e0 : M1.1 461 0 = aR M 0 := by rw [a1 0 (by omega)]; rfl
          have e13 : M1.1 461 13 = aR M 8 := by rw [a1 13 (by omega)]; rfl
          rw [t218_76 _ _ _ _ _ _ _ _ _ hG1, if_neg (by rw [of_lt (by omega) (by omega)]; omega)]
          have sums : ∀ m k, k + m = nN (emR M) → zR X (d + 6) 218 (88, [.ref 460, .int x, .int (Int32.ofNat v), .int (pBr (emR M) (aR M) c).1, .int (pBr (emR M) (aR M) c).2.1, .int (pBr (emR M) (aR M) c).2.2, .int (Int32.ofNat c), .int (pPr (emR M) c k), .int (Int32.ofNat k)], [], M1) = zR X (d + 6) 218 (88, [.ref 460, .int x, .int (Int32.ofNat v), .int (pBr (emR M) (aR M) c).1, .int (pBr (emR M) (aR M) c).2.1, .int (pBr (emR M) (aR M) c).2.2, .int (Int32.ofNat c), .int (pPr (emR M) c (nN (emR M))), .int (Int32.ofNat (nN (emR M)))], [], M1) := by
            intro m
            induction m with
            | zero => intro k hk; rw [show k = nN (emR M) by omega]
            | succ m ih2 =>
              intro k hk
              rw [← ih2 (k + 1) (by omega), t218_88 _ _ _ _ _ _ _ _ _ hG1, e4, if_neg (by rw [of_le (by omega) (by omega)]; omega), r136 hG1, Option.bind_some]
              dsimp only [zps]
              rw [t218_108 _ _ _ _ _ _ _ _ _ _ _ hG1 (fun _ => vp_of (by omega) (by omega)), of_succ, toNat_of (by omega), pPr]
              cases hb : pb (Int32.ofNat c) k
              · rw [cond_false, cond_false, if_pos rfl, Int32.add_zero]
              · have e9 : M1.1 469 k = emR M 9 k := by rw [zwk_c hf (a := 469) (by decide) (by decide) (by decide)]; exact (emR_N (Or.inr (Or.inr rfl)) (by omega)).symm
                rw [cond_true, cond_true, if_neg (by decide), e9]
          have s0 := sums (nN (emR M)) 0 (by omega)
          have s0' : zR X (d + 6) 218 (88, [.ref 460, .int x, .int (Int32.ofNat v), .int (pBr (emR M) (aR M) c).1, .int (pBr (emR M) (aR M) c).2.1, .int (pBr (emR M) (aR M) c).2.2, .int (Int32.ofNat c), .int 0, .int 0], [], M1) = _ := s0
          have hst : pBr (emR M) (aR M) (c + 1) = if pOkB (emR M) (aR M) c = true then (if (pBr (emR M) (aR M) c).2.1 < Int32.ofNat (pBi (emR M) (aR M) c) ∨ (Int32.ofNat (pBi (emR M) (aR M) c) = (pBr (emR M) (aR M) c).2.1 ∧ pPr (emR M) c (nN (emR M)) < (pBr (emR M) (aR M) c).2.2) then (Int32.ofNat c, Int32.ofNat (pBi (emR M) (aR M) c), pPr (emR M) c (nN (emR M))) else pBr (emR M) (aR M) c) else pBr (emR M) (aR M) c := rfl
          have hb := bitsk (f := pFree (aR M)) (k := nN (emR M)) (c := c) hn (by omega)
          rw [hv] at hb
          rw [s0', t218_88 _ _ _ _ _ _ _ _ _ hG1, e4, if_pos (Int32.le_refl _), e0, e13, of_succ]
          by_cases c1 : Int32.ofNat c &&& (Int32.ofNat v ^^^ -1) = 0
          · have hal := hb.1.mp c1
            rw [if_neg (not_not_intro c1)]
            by_cases c2 : aR M 0 < pPr (emR M) c (nN (emR M))
            · have hko : ¬ pOkB (emR M) (aR M) c = true := by
                unfold pOkB
                rw [hal, Bool.true_and, decide_eq_true_eq]
                exact Int32.not_le.mpr c2
              rw [if_neg hko] at hst
              rw [if_pos c2, ← hst]
              exact ih (c + 1) _ _ M1 (by omega) hf hk a1 a2
            · have hko : pOkB (emR M) (aR M) c = true := by
                unfold pOkB
                rw [hal, Bool.true_and, decide_eq_true_eq]
                exact Int32.not_lt.mp c2
              rw [if_pos hko] at hst
              have z2 : zfs M1 (zsI (zsI M1 461 0 (aR M 0 - pPr (emR M) c (nN (emR M)))) 461 13 (aR M 8 ||| Int32.ofNat c)) := zfs_I (i := 8) (zfs_I (i := 0) zfs_rf (by decide)) (by decide)
              have hf2 := zwk_tr hf (zwk_s z2)
              have est2 : stR (nD (emR M)) (zsI (zsI M1 461 0 (aR M 0 - pPr (emR M) c (nN (emR M)))) 461 13 (aR M 8 ||| Int32.ofNat c)) = pBuy (aR M) (pPr (emR M) c (nN (emR M))) c := by
                refine (stR_I (k := 8) (M := zsI M1 461 0 (aR M 0 - pPr (emR M) c (nN (emR M)))) (by decide)).trans ?_
                refine (congrArg (fun q => zu q 8 _) (stR_I (k := 0) (M := M1) (by decide))).trans ?_
                rw [est]
                rfl
              obtain ⟨M3, q1, q2, q3, q4, q5, q6, q7⟩ := r215w (X := X) (d := d) (k := 200) (q := qd) (K := M) (M := zsI (zsI M1 461 0 (aR M 0 - pPr (emR M) c (nN (emR M)))) 461 13 (aR M 8 ||| Int32.ofNat c)) hM hf2 (by rw [est2]; unfold pBuy; rw [zu_n (by decide), zu_n (by decide)]; exact hA.1) (by rw [est2]; unfold pBuy; rw [zu_n (by decide), zu_n (by decide)]; exact hq2) (by omega) (by omega)
              rw [est2] at q1
              have hbi : pDays (emR M) (pBuy (aR M) (pPr (emR M) c (nN (emR M))) c) 200 = pBi (emR M) (aR M) c := rfl
              rw [hbi] at q1
              have hk3 : kp M M3 := kp_w (kp_w hk (zfs_c z2 (by decide))) q3
              obtain ⟨M4, y1, y2, y3, y4, y5, y6⟩ := r212 (X := X) (d := d + 3) (K := M) (M := M3) (zwk_G q2 hG) q2 hk3
              rw [if_neg c2, show (200 : Int32) = Int32.ofNat 200 from rfl, q1, Option.bind_some]
              dsimp only [zps]
              rw [t218_181 _ _ _ _ _ _ _ _ _ _ (zwk_G q2 hG), y1, Option.bind_some]
              dsimp only [zps]
              rw [t218_187 _ _ _ _ _ _ _ _ _ (zwk_G y2 hG), of_succ]
              have h9 := ih (c + 1) (.int (pPr (emR M) c (nN (emR M)))) (.int (Int32.ofNat (pBi (emR M) (aR M) c))) M4 (by omega) y2 y6 y3 y4
              by_cases g1 : (pBr (emR M) (aR M) c).2.1 < Int32.ofNat (pBi (emR M) (aR M) c)
              · rw [if_pos (Or.inl g1)] at hst
                rw [if_pos g1]
                rw [hst] at h9
                exact h9
              · rw [if_neg g1]
                by_cases g2 : Int32.ofNat (pBi (emR M) (aR M) c) = (pBr (emR M) (aR M) c).2.1
                · rw [if_neg (not_not_intro g2)]
                  by_cases g3 : (pBr (emR M) (aR M) c).2.2 ≤ pPr (emR M) c (nN (emR M))
                  · rw [if_neg (by intro h; rcases h with h | h; exact g1 h; exact Int32.not_lt.mpr g3 h.2)] at hst
                    rw [if_pos g3, ← hst]
                    exact h9
                  · rw [if_pos (Or.inr ⟨g2, Int32.not_le.mp g3⟩)] at hst
                    rw [if_neg g3]
                    rw [hst] at h9
                    exact h9
                · rw [if_neg (by intro h; rcases h with h | h; exact g1 h; exact g2 h.1)] at hst
                  rw [if_pos g2, ← hst]
                  exact h9
          · have hko : ¬ pOkB (emR M) (aR M) c = true := by
              unfold pOkB
              intro h
              rw [Bool.and_eq_true] at h
              exact c1 (hb.1.mpr h.1)
            rw [if_neg hko] at hst
            rw [if_pos c1, ← hst]
            exact ih (c + 1) _ _ M1 (by omega) hf hk a1 a2
      have cans : ∀ m k, k + m = nN (emR M) → ∃ M', zR X (d + 6) 218 (27, [.ref 460, .int x, .int (pCn (pFree (aR M)) k), .int (Int32.ofNat k), zjk, zjk, zjk, zjk, zjk], [], M) = some (some (.int (if x = 0 then (pBr (emR M) (aR M) (v + 1)).1 else (pBr (emR M) (aR M) (v + 1)).2.1)), M') ∧ rsm M M' := by
        intro m
        induction m with
        | zero =>
          intro k hk
          obtain ⟨M1, w1, w2, w3, w4, w5, w6⟩ := r211 (X := X) (d := d + 3) hG
          rw [t218_27 _ _ _ _ _ _ _ _ _ hG, hc, if_pos (by rw [of_le (by omega) (by omega)]; omega), w1, Option.bind_some]
          dsimp only [zps]
          rw [t218_73 _ _ _ _ _ _ _ _ _ (zwk_G w2 hG), show k = nN (emR M) by omega, hv]
          exact loop (v + 1) 0 zjk zjk M1 (by omega) w2 w6 (fun k _ => by rw [w3]) (fun k _ => by rw [w4])
        | succ m ih =>
          intro k hk
          have h9 := ih (k + 1) (by omega)
          rw [t218_27 _ _ _ _ _ _ _ _ _ hG, hc, if_neg (by rw [of_le (by omega) (by omega)]; omega), r197 (n := nD (emR M)) hG, Option.bind_some]
          dsimp only [zps]
          rw [t218_43 _ _ _ _ _ _ _ _ _ _ _ hG, of_succ]
          rw [pCn] at h9
          cases hF : pFree (stR (nD (emR M)) M) k
          · rw [cond_false, if_pos rfl, Int32.or_zero]
            rw [show pFree (aR M) k = false from hF] at h9
            exact h9
          · rw [cond_true, if_neg (by decide)]
            rw [show pFree (aR M) k = true from hF] at h9
            exact h9
      exact cans (nN (emR M)) 0 (by omega)
