/-! ===== how much to dare: the reference ===== -/
theorem cnt_lt {n : Nat} {x : Int32} (hn : n < 2147483648) : (Int32.ofNat n - 1 < x) = (Int32.ofNat n ≤ x) := by
  rcases Nat.eq_zero_or_pos n with h | h
  · subst h
    rw [Int32.lt_iff_toInt_lt, Int32.le_iff_toInt_le, show (Int32.ofNat 0 - 1 : Int32).toInt = -1 by decide, show (Int32.ofNat 0 : Int32).toInt = 0 by decide]
    exact propext ⟨fun h => by omega, fun h => by omega⟩
  · rw [of_pred h, Int32.lt_iff_toInt_lt, Int32.le_iff_toInt_le, Int32.toInt_ofNat_of_lt (by omega), Int32.toInt_ofNat_of_lt hn]
    exact propext ⟨fun h => by omega, fun h => by omega⟩
theorem r137 {X : (Nat → Int32) × Nat} {d : Nat} {x : Int32} {M : zM} (hG : zGE M) (hE : okE (emR M)) : zC X (d + 1) 137 [.ref 460, .int x] M = some (some (.int (if x < 0 ∨ emR M 0 4 ≤ x then 0 else 1)), M) := by
  show zR X (d + 1) 137 (0, [.ref 460, .int x], [], M) = _
  obtain ⟨hn4, hc⟩ := okR_D hE
  have h4 : emR M 0 4 = M.1 461 3 := rfl
  rw [t137_0 _ _ hG, r135i (y := 0) (a := 0) (b := M.1 461 3 - 1) hG rfl rfl, Option.bind_some]
  dsimp only [zps]
  rw [t137_15 _ _ _ hG (by split <;> simp), h4, hc]
  simp only [cnt_lt (show nD (emR M) < 2147483648 by omega)]
theorem r138 {X : (Nat → Int32) × Nat} {d : Nat} {x : Int32} {M : zM} (hG : zGE M) (hE : okE (emR M)) : zC X (d + 1) 138 [.ref 460, .int x] M = some (some (.int (if x < 0 ∨ emR M 0 2 ≤ x then 0 else 1)), M) := by
  show zR X (d + 1) 138 (0, [.ref 460, .int x], [], M) = _
  obtain ⟨hn4, hc⟩ := okR_N hE
  have h4 : emR M 0 2 = M.1 461 4 := rfl
  rw [t138_0 _ _ hG, r135i (y := 0) (a := 0) (b := M.1 461 4 - 1) hG rfl rfl, Option.bind_some]
  dsimp only [zps]
  rw [t138_15 _ _ _ hG (by split <;> simp), h4, hc]
  simp only [cnt_lt (show nN (emR M) < 2147483648 by omega)]
theorem r217 {X : (Nat → Int32) × Nat} {d : Nat} {x w : Int32} {M : zM} (hM : okM M) (hA : okA (emR M) (aR M)) (hT : emR M 0 0 = 1 → okT (emR M)) (hZ : ¬ emR M 0 0 = 1 → emR M 0 4 = 0) : ∃ M', zC X (d + 6) 217 [.ref 460, .int x, .int w] M = some (some (.int (pReign (emR M) (aR M) x w)), M') ∧ rsm M M' := by
  show ∃ M', zR X (d + 6) 217 (0, [.ref 460, .int x, .int w, zjk, zjk, zjk, zjk, zjk], [], M) = some (some (.int _), M') ∧ _
  have hG := hM.1
  obtain ⟨hn4, hc⟩ := okR_D hM.2.1
  have h3 : aR M 3 = M.1 461 7 := rfl
  obtain ⟨qd, hq1, hq2⟩ := hA.2.1
  unfold pReign
  rw [t217_0 _ _ _ _ _ _ _ _ hG, r137 hG hM.2.1, Option.bind_some]
  dsimp only [zps]
  rw [t217_5 _ _ _ _ _ _ _ _ _ hG, h3]
  by_cases c0 : x < 0 ∨ emR M 0 4 ≤ x
  · rw [if_pos c0, if_pos c0, if_pos rfl]
    exact ⟨M, rfl, rsm_rf⟩
  · obtain ⟨e1, e2⟩ := of_has (c := 4) (by omega) hc c0
    have ht : okT (emR M) := hasT hT hZ hc (by omega) e2
    rw [if_neg c0, if_neg c0, if_neg (by decide)]
    by_cases c3 : M.1 461 7 = -1
    · rw [if_neg (not_not_intro c3), if_neg (not_not_intro c3), r135i (y := 0) (z := 1) (a := 0) (b := 1) hG rfl rfl, Option.bind_some]
      dsimp only [zps]
      rw [t217_26 _ _ _ _ _ _ _ _ _ hG]
      by_cases c : w < 0 ∨ 1 < w
      · rw [if_pos c, if_pos c, if_neg (by decide)]
        exact ⟨M, rfl, rsm_rf⟩
      · generalize hb : x.toNatClampNeg = b at e1 e2
        rw [if_neg c, if_neg c, if_pos (by decide), e1]
        obtain ⟨M1, w1, w2, w3, w4, w5, w6⟩ := r211 (X := X) (d := d + 3) hG
        have hG1 := zwk_G w2 hG
        obtain ⟨M2, y1, y2, y3, y4⟩ := r192 (X := X) (d := d + 4) hG1
        have hf2 : zwk M M2 := zwk_tr w2 (zwk_96 y2 y3)
        have hG2 := zwk_G hf2 hG
        have h02 : M2.1 502 = M1.1 502 := y3 502 (by decide)
        have h61 : M2.1 461 = M.1 461 := (y3 461 (by decide)).trans w3
        have h62 : M2.1 462 = M.1 462 := (y3 462 (by decide)).trans w4
        have h66 : ∀ j, j < 4 → M2.1 496 j = M.1 466 j := fun j hj => (y4 j hj).trans (by rw [zwk_c w2 (a := 466) (by decide) (by decide) (by decide)])
        have loop : ∀ m c (bs mo : Int32) v6 v7 M1, c + m = 100 → zwk M M1 → kp M M1 → (∀ k, k < 18 → M1.1 461 k = M.1 461 k) → (∀ k, k < 4 → M1.1 462 k = M.1 462 k) → (∀ j, j < nD (emR M) → j ≠ b → M1.1 496 j = emR M 14 j) → bs = Int32.ofNat (pRg (emR M) (aR M) b c).1 → (mo = Int32.ofNat (pRg (emR M) (aR M) b c).2 ∨ (c = 0 ∧ mo = -1)) → ∃ M', zR X (d + 6) 217 (47, [.ref 460, .int (Int32.ofNat b), .int w, .int bs, .int mo, .int (Int32.ofNat c), v6, v7], [], M1) = some (some (.int (if w = 0 then Int32.ofNat (pRg (emR M) (aR M) b 100).1 else Int32.ofNat (pRg (emR M) (aR M) b 100).2)), M') ∧ rsm M M' := by
          intro m
          induction m with
          | zero =>
            intro c bs mo v6 v7 M1 hc hf hk a1 a2 a3 a4 a5
            have a5' := a5.resolve_right (fun h => by omega)
            rw [t217_47 _ _ _ _ _ _ _ _ (zwk_G hf hG) (fun _ => vp_of (by omega) (by omega)), if_pos (by rw [show (99 : Int32) = Int32.ofNat 99 from rfl, of_lt (by omega) (by omega)]; omega), a4, a5', show c = 100 by omega]
            refine ⟨M1, ?_, hf, a1, a2⟩
            by_cases cw : w = 0
            · rw [if_neg (not_not_intro cw), if_pos cw]
            · rw [if_pos cw, if_neg cw]
          | succ m ih =>
            intro c bs mo v6 v7 M1 hc hf hk a1 a2 a3 a4 a5
            have hG1 := zwk_G hf hG
            have hf1 : zwk M (zsI M1 496 b (Int32.ofNat c)) := zwk_tr hf (zwk_96 z2_I (fun a ha => zI_n1 ha))
            have hGa := zwk_G hf1 hG
            have hMa := zwk_M hf1 hM
            have em := zwk_em hf1
            have est0 : stR (nD (emR M)) M1 = aR M := kp_st hn4 a1 a2
            have est : stR (nD (emR M)) (zsI M1 496 b (Int32.ofNat c)) = aR M := est0
            obtain ⟨M2, q1, q2, q3⟩ := r191n (X := X) (d := d + 2) (x := 1) (M := zsI M1 496 b (Int32.ofNat c)) (D := pDr (emR M) b c) hGa hMa.2.1 (by rw [em]; exact ht) (Or.inl (by decide)) (by
              rw [em]
              intro j hj
              rw [zI_s]
              unfold pDr
              by_cases e : j = b
              · rw [if_pos e, if_pos e]
              · rw [if_neg e, if_neg e]; exact a3 j hj e)
            rw [em, est] at q1 q3
            have hf2 := zwk_tr hf1 (zwk_q q2)
            have hG2 := zwk_G hf2 hG
            have hH := okH_won (E := emR M) (A := aR M) (D := pDr (emR M) b c) (o := none) ht
            have e61 : M2.1 461 = M1.1 461 := zfq_c q2 (by decide) (by decide) (by decide)
            have e62 : M2.1 462 = M1.1 462 := zfq_c q2 (by decide) (by decide) (by decide)
            have e96 : M2.1 496 = (zsI M1 496 b (Int32.ofNat c)).1 496 := zfq_c q2 (by decide) (by decide) (by decide)
            have e02 : M2.1 502 = M1.1 502 := (zfq_c q2 (by decide) (by decide) (by decide)).trans (zI_n1 (by decide))
            have e47 : M2.1 460 47 = (pWon (emR M) (aR M) (pDr (emR M) b c) none).1 := by rw [← q3]; rfl
            have hk2 : kp M M2 := kp_w hk e02
            have d2 : ∀ j, j < nD (emR M) → j ≠ b → M2.1 496 j = emR M 14 j := fun j hj e => by rw [e96, zI_s, if_neg e]; exact a3 j hj e
            have hle := pRg_le (E := emR M) (A := aR M) (b := b) c
            have hle2 := pRs_le (E := emR M) (A := aR M) (b := b) (d := c)
            have hst : pRg (emR M) (aR M) b (c + 1) = if (pRg (emR M) (aR M) b c).2 < pRs (emR M) (aR M) b c then (c, pRs (emR M) (aR M) b c) else pRg (emR M) (aR M) b c := rfl
            have hcc : c = 0 → pRg (emR M) (aR M) b c = (0, 0) := fun h => by rw [h]; rfl
            rw [t217_47 _ _ _ _ _ _ _ _ hG1 (fun _ => vp_of (by omega) (by omega)), if_neg (by rw [show (99 : Int32) = Int32.ofNat 99 from rfl, of_lt (by omega) (by omega)]; omega), toNat_of (by omega), q1, Option.bind_some]
            dsimp only [zps]
            rw [t217_67 _ _ _ _ _ _ _ _ _ hG2, of_succ]
            by_cases c1 : (pWon (emR M) (aR M) (pDr (emR M) b c) none).2.1 = Int32.ofNat b
            · have hrs : pRs (emR M) (aR M) b c = pDays (emR M) (pCrown (aR M) (Int32.ofNat b) (pWon (emR M) (aR M) (pDr (emR M) b c) none).1) 200 := by unfold pRs; rw [if_pos c1]
              have est2 : stR (nD (emR M)) M2 = aR M := by rw [zfq_st q2]; exact est
              obtain ⟨M3, z1, z2, z3⟩ := r193 (X := X) (d := d + 5) (n := nD (emR M)) (w := Int32.ofNat b) hG2
              rw [est2, e47] at z3
              have hf3 := zwk_tr hf2 (zwk_s z2)
              have hG3 := zwk_G hf3 hG
              obtain ⟨M4, u1, u2, u3, u4, u5, u6, u7⟩ := r215w (X := X) (d := d) (k := 200) (q := qd) (K := M) (M := M3) hM hf3 (by rw [z3, pCrown_3]; exact okR_b e2) (by rw [z3, pCrown_2]; exact hq2) (by omega) (by omega)
              rw [z3, ← hrs] at u1
              have hk4 : kp M M4 := kp_w (kp_w hk2 (zfs_c z2 (by decide))) u3
              obtain ⟨M5, v1, v2, v3, v4, v5, v6'⟩ := r212 (X := X) (d := d + 3) (K := M) (M := M4) (zwk_G u2 hG) u2 hk4
              have hG5 := zwk_G v2 hG
              have d5 : ∀ j, j < nD (emR M) → j ≠ b → M5.1 496 j = emR M 14 j := fun j hj e => by rw [v5, u4, zfs_c z2 (show 496 < 461 ∨ 463 ≤ 496 by decide)]; exact d2 j hj e
              rw [if_neg (not_not_intro c1), c1, z1, Option.bind_some]
              dsimp only [zps]
              rw [t217_84 _ _ _ _ _ _ _ _ hG3, show (200 : Int32) = Int32.ofNat 200 from rfl, u1, Option.bind_some]
              dsimp only [zps]
              rw [t217_91 _ _ _ _ _ _ _ _ _ (zwk_G u2 hG), v1, Option.bind_some]
              dsimp only [zps]
              rw [t217_97 _ _ _ _ _ _ _ _ hG5, of_succ]
              rcases a5 with a5 | ⟨c0', a5⟩
              · rw [a5, fi_le (by omega) (by omega)]
                by_cases c3 : pRs (emR M) (aR M) b c ≤ (pRg (emR M) (aR M) b c).2
                · rw [if_pos c3]
                  rw [if_neg (by omega)] at hst
                  exact ih (c + 1) bs _ _ _ M5 (by omega) v2 v6' v3 v4 d5 (by rw [hst]; exact a4) (Or.inl (by rw [hst]))
                · rw [if_neg c3]
                  rw [if_pos (by omega)] at hst
                  exact ih (c + 1) _ _ _ _ M5 (by omega) v2 v6' v3 v4 d5 (by rw [hst]) (Or.inl (by rw [hst]))
              · rw [a5, if_neg (by rw [Int32.le_iff_toInt_le, Int32.toInt_ofNat_of_lt (by omega), show (-1 : Int32).toInt = -1 from rfl]; omega)]
                have hc0 := hcc c0'
                refine ih (c + 1) _ _ _ _ M5 (by omega) v2 v6' v3 v4 d5 ?_ (Or.inl ?_)
                · rw [hst]
                  split
                  · rfl
                  · rw [hc0, c0']
                · rw [hst]
                  split
                  · rfl
                  · rename_i h7
                    rw [hc0] at h7 ⊢
                    have : pRs (emR M) (aR M) b c = 0 := by
                      have h8 : ¬ 0 < pRs (emR M) (aR M) b c := h7
                      omega
                    rw [this]
            · have hrs : pRs (emR M) (aR M) b c = 0 := by unfold pRs; rw [if_neg c1]
              rw [hrs, if_neg (Nat.not_lt_zero _)] at hst
              have b1 : ∀ k, k < 18 → M2.1 461 k = M.1 461 k := fun k hk => by rw [e61]; exact a1 k hk
              have b2 : ∀ k, k < 4 → M2.1 462 k = M.1 462 k := fun k hk => by rw [e62]; exact a2 k hk
              rw [if_pos c1]
              rcases a5 with a5 | ⟨c0', a5⟩
              · rw [a5, if_pos (by rw [show (0 : Int32) = Int32.ofNat 0 from rfl, of_le (by omega) (by omega)]; omega)]
                exact ih (c + 1) bs _ _ _ M2 (by omega) hf2 hk2 b1 b2 d2 (by rw [hst]; exact a4) (Or.inl (by rw [hst]))
              · rw [a5, if_neg (by decide)]
                have hc0 := hcc c0'
                exact ih (c + 1) _ _ _ _ M2 (by omega) hf2 hk2 b1 b2 d2 (by rw [hst, hc0, c0']) (Or.inl (by rw [hst, hc0]; rfl))
        rw [w1, Option.bind_some]
        dsimp only [zps]
        rw [t217_40 _ _ _ _ _ _ _ _ hG1, y1, Option.bind_some]
        dsimp only [zps]
        rw [t217_44 _ _ _ _ _ _ _ _ hG2]
        exact loop 100 0 0 (-1) zjk zjk M2 (by omega) hf2 (kp_w w6 h02) (fun k _ => by rw [h61]) (fun k _ => by rw [h62]) (fun j hj _ => by rw [h66 j (by omega)]; exact (emR_B hj).symm) rfl (Or.inr ⟨rfl, rfl⟩)
    · rw [if_pos c3, if_pos c3]
      exact ⟨M, rfl, rsm_rf⟩
