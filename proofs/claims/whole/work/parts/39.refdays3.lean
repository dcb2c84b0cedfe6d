theorem r195 {X : (Nat → Int32) × Nat} {d n : Nat} {M : zM} (hG : zGE M) (hE : okE (emR M)) : ∃ M', zC X (d + 2) 195 [.ref 460] M = some (none, M') ∧ zfs M M' ∧ stR n M' = bif pBS (stR n M) then pLv (emR M) (stR n M) (nG (emR M)) else stR n M := by
  show ∃ M', zR X (d + 2) 195 (0, [.ref 460, zjk, zjk], [], M) = some (none, M') ∧ _
  obtain ⟨hn, hc⟩ := okR_G hE
  have loop : pBS (stR n M) = true → ∀ m k M1, k + m = nG (emR M) → zfs M M1 → stR n M1 = pLv (emR M) (stR n M) k → ∃ M', zR X (d + 2) 195 (18, [.ref 460, .int (stR n M 2 - stR n M 5), .int (Int32.ofNat k)], [], M1) = some (none, M') ∧ zfs M M' ∧ stR n M' = pLv (emR M) (stR n M) (nG (emR M)) := by
    intro hB m
    induction m with
    | zero =>
      intro k M1 hk hf hv
      have hc1 : M1.1 461 2 = Int32.ofNat (nG (emR M)) := by rw [zfs_k hf (by decide)]; exact hc
      rw [t195_18 _ _ _ (zfs_G hf hG), hc1, if_pos ((of_le (by omega) (by omega)).mpr (by omega))]
      exact ⟨M1, rfl, hf, by rw [hv, show nG (emR M) = k by omega]⟩
    | succ m ih =>
      intro k M1 hk hf hv
      have hG := zfs_G hf hG
      have hc1 : M1.1 461 2 = Int32.ofNat (nG (emR M)) := by rw [zfs_k hf (by decide)]; exact hc
      have h5 : M1.1 464 k = emR M 5 k := by rw [zfs_c hf (show 464 < 461 ∨ 463 ≤ 464 by decide)]; exact (emR_G (Or.inr (Or.inl rfl)) (by omega)).symm
      have h6 : M1.1 465 k = emR M 6 k := by rw [zfs_c hf (show 465 < 461 ∨ 463 ≤ 465 by decide)]; exact (emR_G (Or.inr (Or.inr rfl)) (by omega)).symm
      have hB1 : pBS (stR n M1) = true := by
        unfold pBS
        rw [hv, pLv_k (by decide)]
        exact hB
      have q6 : M1.1 461 9 = stR n M 6 := by
        have e : stR n M1 6 = M1.1 461 9 := rfl
        rw [← e, hv, pLv_k (by decide)]
      have q4 : M1.1 461 10 = stR n M 4 := by
        have e : stR n M1 4 = M1.1 461 10 := rfl
        rw [← e, hv, pLv_k (by decide)]
      have q7 : M1.1 461 12 = pLv (emR M) (stR n M) k 7 := by rw [← hv]; rfl
      have skip : stR n (zsI M1 461 12 (M1.1 461 12 ||| 0)) = pLv (emR M) (stR n M) k := by
        refine (stR_I (k := 7) (M := M1) (by decide)).trans ?_
        rw [hv, q7, Int32.or_zero]
        funext j
        unfold zu
        split
        · rename_i e; rw [e]
        · rfl
      rw [t195_18 _ _ _ hG, hc1, if_neg (by rw [of_le (by omega) (by omega)]; omega), r182 (n := n) hG, Option.bind_some]
      dsimp only [zps]
      rw [t195_32 _ _ _ _ hG (fun _ => vp_of (by omega) (by omega)), hB1, cond_true, if_neg (by decide), toNat_of (by omega), h5, h6, q6, q4, of_succ]
      by_cases c1 : stR n M 2 - stR n M 5 ≤ emR M 6 k
      · rw [if_pos c1]
        exact ih (k + 1) _ (by omega) (zfs_I (i := 7) hf (by decide)) (by rw [skip, pLv, if_pos c1])
      · rw [if_neg c1]
        by_cases c2 : emR M 5 k * stR n M 6 ≤ stR n M 4
        · rw [if_pos c2]
          exact ih (k + 1) _ (by omega) (zfs_I (i := 7) hf (by decide)) (by rw [skip, pLv, if_neg c1, if_pos c2])
        · rw [if_neg c2]
          refine ih (k + 1) _ (by omega) (zfs_I (i := 7) hf (by decide)) ?_
          refine (stR_I (k := 7) (M := M1) (by decide)).trans ?_
          rw [pLv, if_neg c1, if_neg c2, hv, q7]
  rw [t195_0 _ _ _ hG]
  cases hB : pBS (stR n M)
  · rw [t195_18 _ _ _ hG, cond_false]
    by_cases c1 : M.1 461 2 ≤ 0
    · rw [if_pos c1]
      exact ⟨M, rfl, zfs_rf, rfl⟩
    · rw [if_neg c1, r182 (n := n) hG, Option.bind_some]
      dsimp only [zps]
      simp only [hB, cond_false]
      rw [t195_32 _ _ _ _ hG (fun h => absurd rfl h), if_pos rfl]
      exact ⟨M, rfl, zfs_rf, rfl⟩
  · exact loop hB (nG (emR M)) 0 M (by omega) zfs_rf rfl
theorem r198 {X : (Nat → Int32) × Nat} {d n : Nat} {M : zM} (hG : zGE M) (hE : okE (emR M)) (hW : okW M) (hR : okR (emR M) (stR n M 3)) : ∃ M', zC X (d + 3) 198 [.ref 460] M = some (none, M') ∧ zfs M M' ∧ stR n M' = pCm (emR M) (stR n M) (nN (emR M)) := by
  show ∃ M', zR X (d + 3) 198 (0, [.ref 460, zjk], [], M) = some (none, M') ∧ _
  obtain ⟨hn, hc⟩ := okR_N hE
  have loop : ∀ m k M1, k + m = nN (emR M) → zfs M M1 → stR n M1 = pCm (emR M) (stR n M) k → ∃ M', zR X (d + 3) 198 (2, [.ref 460, .int (Int32.ofNat k)], [], M1) = some (none, M') ∧ zfs M M' ∧ stR n M' = pCm (emR M) (stR n M) (nN (emR M)) := by
    intro m
    induction m with
    | zero =>
      intro k M1 hk hf hv
      have hc1 : M1.1 461 4 = Int32.ofNat (nN (emR M)) := by rw [zfs_k hf (by decide)]; exact hc
      rw [t198_2 _ _ (zfs_G hf hG), hc1, if_pos ((of_le (by omega) (by omega)).mpr (by omega))]
      exact ⟨M1, rfl, hf, by rw [hv, show nN (emR M) = k by omega]⟩
    | succ m ih =>
      intro k M1 hk hf hv
      have hG := zfs_G hf hG
      have hm : emR M1 = emR M := zfs_em hf
      have hE1 : okE (emR M1) := by rw [hm]; exact hE
      have hW1 := zfs_W hf hW
      have hc1 : M1.1 461 4 = Int32.ofNat (nN (emR M)) := by rw [zfs_k hf (by decide)]; exact hc
      have hR2 : okR (emR M1) (stR n M1 3) := by rw [hm, hv]; exact okR_cm hR _ (by omega)
      have hk1 : k < nN (emR M1) := by rw [hm]; omega
      have h8 : M1.1 468 k = emR M 8 k := by rw [zfs_c hf (show 468 < 461 ∨ 463 ≤ 468 by decide)]; exact (emR_N (Or.inr (Or.inl rfl)) (by omega)).symm
      have h2 : M1.1 461 2 = emR M 0 1 := by rw [zfs_k hf (by decide)]; rfl
      rw [t198_2 _ _ hG, hc1, if_neg (by rw [of_le (by omega) (by omega)]; omega), r197 (n := n) hG, Option.bind_some]
      dsimp only [zps]
      rw [t198_17 _ _ _ hG]
      cases hF : pFree (stR n M1) k
      · rw [cond_false, if_pos rfl, of_succ]
        refine ih (k + 1) M1 (by omega) hf ?_
        rw [hv, pCm, ← hv, hF]
        rfl
      · rw [cond_true, if_neg (by decide), r184 (n := n) hG hE1 hW1 hk1, Option.bind_some]
        dsimp only [zps]
        rw [t198_25 _ _ _ hG (fun _ => vp_of (by omega) (by omega)), hm, show M1.1 461 6 = stR n M1 2 from rfl]
        by_cases c1 : pComes (emR M) (stR n M1) k = stR n M1 2
        · rw [if_neg (not_not_intro c1), r196 (n := n) hG hE1 hR2, Option.bind_some]
          dsimp only [zps]
          rw [t198_45 _ _ _ _ hG, hm, toNat_of (by omega), h8, h2, of_succ]
          by_cases c2 : emR M 8 k ≤ pThere (emR M) (stR n M1)
          · rw [if_pos c2]
            refine ih (k + 1) _ (by omega) (zfs_I (i := 9) hf (by decide)) ?_
            refine (stR_I (k := 9) (M := M1) (by decide)).trans ?_
            rw [pCm, ← hv, hF, decide_eq_true c1, Bool.and_self, cond_true, pMeet, if_pos c2]
            rfl
          · rw [if_neg c2]
            refine ih (k + 1) _ (by omega) (zfs_I (i := 7) (zfs_I (i := 3) hf (by decide)) (by decide)) ?_
            refine (stR_I (k := 7) (M := zsI M1 461 7 (10 + Int32.ofNat k)) (by decide)).trans ?_
            rw [pCm, ← hv, hF, decide_eq_true c1, Bool.and_self, cond_true, pMeet, if_neg c2]
            exact congrArg (fun q => zu q 7 _) (stR_I (k := 3) (M := M1) (by decide))
        · rw [if_pos c1, of_succ]
          refine ih (k + 1) M1 (by omega) hf ?_
          rw [hv, pCm, ← hv, hF, decide_eq_false c1]
          rfl
  rw [t198_0 _ _ hG]
  exact loop (nN (emR M)) 0 M (by omega) zfs_rf rfl
theorem pCm_un {E : zE} {A : zA} (h5 : A 5 = -1) (h2 : ¬ A 2 = -1) : ∀ k, pCm E A k = A := by
  intro k
  induction k with
  | zero => rfl
  | succ k ih =>
    have e : pComes E A k = -1 := by unfold pComes; rw [if_pos h5]
    rw [pCm, ih, e, decide_eq_false (fun h => h2 h.symm), Bool.and_false]
    rfl
theorem r199 {X : (Nat → Int32) × Nat} {d n : Nat} {M : zM} (hG : zGE M) (hn : nD (emR M) ≤ n) (hE : okE (emR M)) (hW : okW M) (hR : okR (emR M) (stR n M 3)) (hD : ¬ stR n M 2 = -1) : ∃ M', zC X (d + 4) 199 [.ref 460] M = some (none, M') ∧ zfs M M' ∧ stR n M' = pGo (emR M) (stR n M) := by
  show ∃ M', zR X (d + 4) 199 (0, [.ref 460], [], M) = some (none, M') ∧ _
  obtain ⟨M1, a1, a2, a3⟩ := r194 (X := X) (d := d + 1) (n := n) hG hn hE hR
  have hG1 := zfs_G a2 hG
  have m1 : emR M1 = emR M := zfs_em a2
  obtain ⟨M2, b1, b2, b3⟩ := r195 (X := X) (d := d + 1) (n := n) hG1 (by rw [m1]; exact hE)
  have hG2 := zfs_G b2 hG1
  have m2 : emR M2 = emR M := (zfs_em b2).trans m1
  have hA : stR n M2 = bif pBS (stR n M) then pLv (emR M) (pPay (emR M) (stR n M)) (nG (emR M)) else stR n M := by
    rw [b3, a3, m1]
    cases hB : pBS (stR n M)
    · rw [cond_false, hB]; rfl
    · have hB2 : pBS (pPay (emR M) (stR n M)) = true := by
        unfold pBS
        rw [pPay_k (Or.inr (Or.inl rfl))]
        exact hB
      rw [cond_true, hB2]; rfl
  have keep : ∀ j, j = 2 ∨ j = 3 ∨ j = 5 → stR n M2 j = stR n M j := by
    intro j hj
    rw [hA]
    cases pBS (stR n M)
    · rfl
    · rw [cond_true, pLv_k (by omega), pPay_k (by omega)]
  obtain ⟨M3, c1, c2, c3⟩ := r198 (X := X) (d := d) (n := n) hG2 (by rw [m2]; exact hE) (zfs_W b2 (zfs_W a2 hW)) (by rw [m2, keep 3 (by omega)]; exact hR)
  have hG3 := zfs_G c2 hG2
  rw [t199_0 _ hG, a1, Option.bind_some]
  dsimp only [zps]
  rw [t199_4 _ hG1, b1, Option.bind_some]
  dsimp only [zps]
  rw [t199_8 _ hG2, c1, Option.bind_some]
  dsimp only [zps]
  rw [t199_12 _ hG3]
  refine ⟨_, rfl, zfs_I (i := 2) (zfs_tr a2 (zfs_tr b2 c2)) (by decide), ?_⟩
  refine (stR_I (k := 2) (M := M3) (by decide)).trans ?_
  have e3 : stR n M3 = (if (bif pBS (stR n M) then pLv (emR M) (pPay (emR M) (stR n M)) (nG (emR M)) else stR n M) 5 = -1 then (bif pBS (stR n M) then pLv (emR M) (pPay (emR M) (stR n M)) (nG (emR M)) else stR n M) else pCm (emR M) (bif pBS (stR n M) then pLv (emR M) (pPay (emR M) (stR n M)) (nG (emR M)) else stR n M) (nN (emR M))) := by
    rw [c3, m2, ← hA]
    split
    · rename_i h5
      exact pCm_un h5 (by rw [keep 2 (by omega)]; exact hD) _
    · rfl
  unfold pGo
  dsimp only
  rw [← e3]
  rfl
