/-! ===== reigns drawn: the reference ===== -/
theorem pXs_s {x k : Nat} : pXs x (k + 1) = pX (pXs x k) := rfl
theorem pDd_e {x j : Nat} : pDd x j = Int32.ofNat (pX (pXs x j) / 65536 % 100) := rfl
theorem r235 {X : (Nat → Int32) × Nat} {d x : Nat} {M : zM} (hG : zGE M) (hx : x < 2147483648) (hxx : M.1 461 16 = Int32.ofNat x) : zC X d 235 [.ref 460, .int 100] M = some (some (.int (Int32.ofNat (pX x / 65536 % 100))), zsI M 461 16 (Int32.ofNat (pX x))) := by
  show zR X d 235 (0, [.ref 460, .int 100], [], M) = _
  rw [t235_0 _ _ hG (by decide) (by decide), hxx, lcgR hx, show (100 : Int32) = Int32.ofNat 100 from rfl, darR (pX_lt x)]
theorem r236 {X : (Nat → Int32) × Nat} {d x : Nat} {m b w : Int32} {M : zM} (hM : okM M) (hA : okA (emR M) (aR M)) (hT : emR M 0 0 = 1 → okT (emR M)) (hZ : ¬ emR M 0 0 = 1 → emR M 0 4 = 0) (hx : x < 2147483648) (hxx : M.1 461 16 = Int32.ofNat x) : ∃ M', zC X (d + 6) 236 [.ref 460, .int m, .int b, .int w] M = some (some (.int (pReigns (emR M) (aR M) x m b w)), M') ∧ rsm M M' := by
  show ∃ M', zR X (d + 6) 236 (0, [.ref 460, .int m, .int b, .int w, zjk, zjk, zjk, zjk, zjk, zjk], [], M) = some (some (.int _), M') ∧ _
  have hG := hM.1
  obtain ⟨hn4, hc⟩ := okR_D hM.2.1
  obtain ⟨qd, hq1, hq2⟩ := hA.2.1
  unfold pReigns
  rw [t236_0 _ _ _ _ _ _ _ _ _ _ hG, r137 hG hM.2.1, Option.bind_some]
  dsimp only [zps]
  rw [t236_5 _ _ _ _ _ _ _ _ _ _ _ hG]
  by_cases c0 : b < 0 ∨ emR M 0 4 ≤ b
  · rw [if_pos c0, if_pos c0, if_pos rfl]
    exact ⟨M, rfl, rsm_rf⟩
  · obtain ⟨e1, e2⟩ := of_has (c := 4) (by omega) hc c0
    have ht : okT (emR M) := hasT hT hZ hc (by omega) e2
    rw [if_neg c0, if_neg c0, if_neg (by decide), r135i (y := 1) (z := 20) (a := 1) (b := 20) hG rfl rfl, Option.bind_some]
    dsimp only [zps]
    rw [t236_17 _ _ _ _ _ _ _ _ _ _ _ hG]
    by_cases c1 : m < 1 ∨ 20 < m
    · rw [if_pos c1, if_pos c1, if_pos rfl]
      exact ⟨M, rfl, rsm_rf⟩
    · obtain ⟨g1, g2, g3⟩ := of_range (x := m) (a := 1) (b := 20) (by omega) (by omega) c1
      rw [if_neg c1, if_neg c1, if_neg (by decide), r135i (y := 0) (z := 1) (a := 0) (b := 1) hG rfl rfl, Option.bind_some]
      dsimp only [zps]
      rw [t236_27 _ _ _ _ _ _ _ _ _ _ _ hG]
      by_cases c2 : w < 0 ∨ 1 < w
      · rw [if_pos c2, if_pos c2, if_neg (by decide)]
        exact ⟨M, rfl, rsm_rf⟩
      · rw [if_neg c2, if_neg c2, if_pos (by decide), hxx]
        generalize hbb : b.toNatClampNeg = bb at e1 e2
        generalize hmm : m.toNatClampNeg = mm at g1 g2 g3
        rw [e1, g1]
        obtain ⟨M1, w1, w2, w3, w4, w5, w6⟩ := r211 (X := X) (d := d + 3) hG
        have hG1 := zwk_G w2 hG
        rw [w1, Option.bind_some]
        dsimp only [zps]
        have loop : ∀ k i v9 M1, i + k = mm → zwk M M1 → kp M M1 → (∀ j, j < 18 → j ≠ 16 → M1.1 461 j = M.1 461 j) → (∀ j, j < 4 → M1.1 462 j = M.1 462 j) → ∃ M', zR X (d + 6) 236 (58, [.ref 460, .int (Int32.ofNat mm), .int (Int32.ofNat bb), .int w, .int (Int32.ofNat x), .int (Int32.ofNat (pRe (emR M) (aR M) bb x i).1), .int (Int32.ofNat (pRe (emR M) (aR M) bb x i).2.1), .int (Int32.ofNat (pRe (emR M) (aR M) bb x i).2.2), .int (Int32.ofNat i), v9], [], M1) = some (some (.int (if w = 0 then Int32.ofNat (pRe (emR M) (aR M) bb x mm).2.1 else Int32.ofNat (pRe (emR M) (aR M) bb x mm).2.2)), M') ∧ rsm M M' := by
          intro k
          induction k with
          | zero =>
            intro i v9 M1 hi hf hk a1 a2
            have hz : zwk M (zsI M1 461 16 (Int32.ofNat x)) := ⟨hf.1, fun a q1 q2 q3 => ⟨(zI_n1 (by omega)).trans (hf.2.1 a q1 q2 q3).1, (hf.2.1 a q1 q2 q3).2⟩, fun k q1 q2 q3 => (zI_n (by decide)).trans (hf.2.2.1 k q1 q2 q3), fun k q1 q2 q3 => by rw [zI_s, if_neg q2]; exact hf.2.2.2.1 k q1 q2 q3, fun k hk => (zI_n (by decide)).trans (hf.2.2.2.2 k hk)⟩
            have fin : rsm M (zsI M1 461 16 (Int32.ofNat x)) := ⟨hz, fun k hk => by
              rw [zI_s]
              by_cases e : k = 16
              · rw [if_pos e, e, hxx]
              · rw [if_neg e]; exact a1 k hk e, fun k hk => by rw [zI_n (by decide)]; exact a2 k hk⟩
            rw [t236_58 _ _ _ _ _ _ _ _ _ _ (zwk_G hf hG), if_pos (by rw [of_le (by omega) (by omega)]; omega), show i = mm by omega]
            refine ⟨_, ?_, fin⟩
            by_cases cw : w = 0
            · rw [if_neg (not_not_intro cw), if_pos cw]
            · rw [if_pos cw, if_neg cw]
          | succ k ih =>
            intro i v9 M1 hi hf hk a1 a2
            have hxi := pRe_lt (E := emR M) (A := aR M) (b := bb) hx i
            have hstd : pRe (emR M) (aR M) bb x (i + 1) = if (pWon (emR M) (aR M) (pDd (pRe (emR M) (aR M) bb x i).1) none).2.1 = Int32.ofNat bb then (pXs (pRe (emR M) (aR M) bb x i).1 (nD (emR M)), (pRe (emR M) (aR M) bb x i).2.1 + 1, (pRe (emR M) (aR M) bb x i).2.2 + pDays (emR M) (pCrown (aR M) (Int32.ofNat bb) (pWon (emR M) (aR M) (pDd (pRe (emR M) (aR M) bb x i).1) none).1) 200) else (pXs (pRe (emR M) (aR M) bb x i).1 (nD (emR M)), (pRe (emR M) (aR M) bb x i).2.1, (pRe (emR M) (aR M) bb x i).2.2) := rfl
            generalize hp : pRe (emR M) (aR M) bb x i = p at hxi hstd ⊢
            obtain ⟨xi, wi, di⟩ := p
            have hxi : xi < 2147483648 := hxi
            have wr : ∀ (M2 : zM) (v : Int32), zwk M M2 → zwk M (zsI M2 461 16 v) := fun M2 v hf => ⟨hf.1, fun a q1 q2 q3 => ⟨(zI_n1 (by omega)).trans (hf.2.1 a q1 q2 q3).1, (hf.2.1 a q1 q2 q3).2⟩, fun k q1 q2 q3 => (zI_n (by decide)).trans (hf.2.2.1 k q1 q2 q3), fun k q1 q2 q3 => by rw [zI_s, if_neg q2]; exact hf.2.2.2.1 k q1 q2 q3, fun k hk => (zI_n (by decide)).trans (hf.2.2.2.2 k hk)⟩
            rw [t236_58 _ _ _ _ _ _ _ _ _ _ (zwk_G hf hG), if_neg (by rw [of_le (by omega) (by omega)]; omega)]
            have inner : ∀ q j M2, j + q = nD (emR M) → zwk M M2 → kp M M2 → (∀ j, j < 18 → j ≠ 16 → M2.1 461 j = M.1 461 j) → (∀ j, j < 4 → M2.1 462 j = M.1 462 j) → M2.1 461 16 = Int32.ofNat (pXs xi j) → (∀ l, l < j → M2.1 496 l = pDd xi l) → ∃ M', zR X (d + 6) 236 (76, [.ref 460, .int (Int32.ofNat mm), .int (Int32.ofNat bb), .int w, .int (Int32.ofNat x), .int (Int32.ofNat xi), .int (Int32.ofNat wi), .int (Int32.ofNat di), .int (Int32.ofNat i), .int (Int32.ofNat j)], [], M2) = some (some (.int (if w = 0 then Int32.ofNat (pRe (emR M) (aR M) bb x mm).2.1 else Int32.ofNat (pRe (emR M) (aR M) bb x mm).2.2)), M') ∧ rsm M M' := by
              intro q
              induction q with
              | zero =>
                intro j M2 hj hf2 hk2 b1 b2 b16 bd
                have hG2 := zwk_G hf2 hG
                have hM2 := zwk_M hf2 hM
                have em := zwk_em hf2
                have hjn : j = nD (emR M) := by omega
                subst hjn
                have hp16 : ∀ i, i < 10 → prm i < 18 ∧ prm i ≠ 16 := by decide
                have est : stR (nD (emR M)) M2 = aR M := by
                  funext t
                  unfold stR
                  by_cases c : t < 10
                  · rw [if_pos c, b1 _ (hp16 t c).1 (hp16 t c).2]
                    exact (stR_f c).symm
                  · rw [if_neg c]
                    by_cases c2 : t < 10 + nD (emR M)
                    · rw [if_pos c2, b2 _ (by omega)]
                      show _ = stR (nD (emR M)) M t
                      unfold stR
                      rw [if_neg c, if_pos c2]
                    · rw [if_neg c2]
                      show _ = stR (nD (emR M)) M t
                      unfold stR
                      rw [if_neg c, if_neg c2]
                have e3 : M2.1 461 3 = Int32.ofNat (nD (emR M)) := by rw [b1 3 (by omega) (by omega)]; exact hc
                obtain ⟨M3, q1, q2, q3⟩ := r191n (X := X) (d := d + 2) (x := 1) (M := M2) (D := pDd xi) hG2 hM2.2.1 (by rw [em]; exact ht) (Or.inl (by decide)) (by rw [em]; exact bd)
                rw [em, est] at q1 q3
                have hf3 := zwk_tr hf2 (zwk_q q2)
                have hG3 := zwk_G hf3 hG
                have e61 : M3.1 461 = M2.1 461 := zfq_c q2 (by decide) (by decide) (by decide)
                have e62 : M3.1 462 = M2.1 462 := zfq_c q2 (by decide) (by decide) (by decide)
                have e02 : M3.1 502 = M2.1 502 := zfq_c q2 (by decide) (by decide) (by decide)
                have e47 : M3.1 460 47 = (pWon (emR M) (aR M) (pDd xi) none).1 := by rw [← q3]; rfl
                have hk3 : kp M M3 := kp_w hk2 e02
                rw [t236_76 _ _ _ _ _ _ _ _ _ _ hG2, e3, if_pos (Int32.le_refl _), b16, q1, Option.bind_some]
                dsimp only [zps]
                rw [t236_120 _ _ _ _ _ _ _ _ _ _ _ hG3]
                by_cases c5 : (pWon (emR M) (aR M) (pDd xi) none).2.1 = Int32.ofNat bb
                · rw [if_pos c5] at hstd
                  have est3 : stR (nD (emR M)) M3 = aR M := by rw [zfq_st q2]; exact est
                  obtain ⟨M4, z1, z2, z3⟩ := r193 (X := X) (d := d + 5) (n := nD (emR M)) (w := Int32.ofNat bb) hG3
                  rw [est3, e47] at z3
                  have hf4 := zwk_tr hf3 (zwk_s z2)
                  obtain ⟨M5, u1, u2, u3, u4, u5, u6, u7⟩ := r215w (X := X) (d := d) (k := 200) (q := qd) (K := M) (M := M4) hM hf4 (by rw [z3, pCrown_3]; exact okR_b e2) (by rw [z3, pCrown_2]; exact hq2) (by omega) (by omega)
                  rw [z3] at u1
                  have hk5 : kp M M5 := kp_w (kp_w hk3 (zfs_c z2 (by decide))) u3
                  obtain ⟨M6, v1, v2, v3, v4, v5, v6⟩ := r212 (X := X) (d := d + 3) (K := M) (M := M5) (zwk_G u2 hG) u2 hk5
                  rw [if_neg (not_not_intro c5), c5, z1, Option.bind_some]
                  dsimp only [zps]
                  rw [t236_134 _ _ _ _ _ _ _ _ _ _ (zwk_G hf4 hG), show (200 : Int32) = Int32.ofNat 200 from rfl, u1, Option.bind_some]
                  dsimp only [zps]
                  rw [t236_146 _ _ _ _ _ _ _ _ _ _ _ _ (zwk_G u2 hG), v1, Option.bind_some]
                  dsimp only [zps]
                  rw [t236_153 _ _ _ _ _ _ _ _ _ _ (zwk_G v2 hG), of_succ, of_succ, ← Int32.ofNat_add]
                  have h9 := ih (i + 1) (.int (Int32.ofNat bb)) M6 (by omega) v2 v6 (fun j hj _ => v3 j hj) v4
                  rw [hstd] at h9
                  exact h9
                · rw [if_neg c5] at hstd
                  obtain ⟨M6, v1, v2, v3, v4, v5, v6⟩ := r212 (X := X) (d := d + 3) (K := M) (M := M3) hG3 hf3 hk3
                  rw [if_pos c5, v1, Option.bind_some]
                  dsimp only [zps]
                  rw [t236_153 _ _ _ _ _ _ _ _ _ _ (zwk_G v2 hG), of_succ]
                  have hH := okH_won (E := emR M) (A := aR M) (D := pDd xi) (o := none) ht
                  have h9 := ih (i + 1) (.int (pWon (emR M) (aR M) (pDd xi) none).2.1) M6 (by omega) v2 v6 (fun j hj _ => v3 j hj) v4
                  rw [hstd] at h9
                  exact h9
              | succ q ih2 =>
                intro j M2 hj hf2 hk2 b1 b2 b16 bd
                have hG2 := zwk_G hf2 hG
                have e3 : M2.1 461 3 = Int32.ofNat (nD (emR M)) := by rw [b1 3 (by omega) (by omega)]; exact hc
                have hxk := pXs_lt hxi j
                have hfa : zwk M (zsI M2 461 16 (Int32.ofNat (pX (pXs xi j)))) := wr _ _ hf2
                have hGa := zwk_G hfa hG
                have hfb : zwk M (zsI (zsI M2 461 16 (Int32.ofNat (pX (pXs xi j)))) 496 j (Int32.ofNat (pX (pXs xi j) / 65536 % 100))) := zwk_tr hfa (zwk_96 z2_I (fun a ha => zI_n1 ha))
                rw [t236_76 _ _ _ _ _ _ _ _ _ _ hG2, e3, if_neg (by rw [of_le (by omega) (by omega)]; omega), r235 hG2 hxk b16, Option.bind_some]
                dsimp only [zps]
                rw [t236_99 _ _ _ _ _ _ _ _ _ _ _ _ _ hGa (zis_q hGa zq_496) (by rw [zl_496]; exact vp_of (by omega) (by omega)), of_succ, toNat_of (by omega)]
                refine ih2 (j + 1) _ (by omega) hfb (kp_w hk2 (by rw [zI_n1 (by decide), zI_n1 (by decide)])) (fun l hl hl2 => by rw [zI_n (by decide), zI_s, if_neg hl2]; exact b1 l hl hl2) (fun l hl => by rw [zI_n (by decide), zI_n (by decide)]; exact b2 l hl) (by rw [zI_n (by decide), zI_s, if_pos rfl, pXs_s]) (fun l hl => ?_)
                rw [zI_s]
                by_cases e : l = j
                · rw [if_pos e, e, pDd_e]
                · rw [if_neg e, zI_n (by decide)]; exact bd l (by omega)
            exact inner (nD (emR M)) 0 (zsI M1 461 16 (Int32.ofNat xi)) (by omega) (wr _ _ hf) (kp_w hk (zI_n1 (by decide))) (fun j hj hj2 => by rw [zI_s, if_neg hj2]; exact a1 j hj hj2) (fun j hj => by rw [zI_n (by decide)]; exact a2 j hj) (by rw [zI_s, if_pos rfl, pXs]) (fun l hl => absurd hl (Nat.not_lt_zero _))
        rw [t236_55 _ _ _ _ _ _ _ _ _ _ hG1]
        have h9 := loop mm 0 zjk M1 (by omega) w2 w6 (fun j _ _ => by rw [w3]) (fun j _ => by rw [w4])
        rw [show pRe (emR M) (aR M) bb x 0 = (x, 0, 0) from rfl] at h9
        exact h9
