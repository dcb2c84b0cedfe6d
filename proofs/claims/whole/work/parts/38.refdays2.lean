theorem zcp_lt {k : Nat} (h : k < 1000) : zcp (Int32.ofNat k) = Int32.ofNat k := by
  unfold zcp
  rw [if_pos (by rw [show (1000 : Int32) = Int32.ofNat 1000 from rfl, of_lt (by omega) (by omega)]; exact h)]
/-- what 'marchOf' gives for a plain march -/
def pMr (E : zE) (g : Nat) : Int32 := if pMarch E g = -1 then Int32.ofNat 100000 else pMarch E g
theorem two_of {k : Nat} : (2 : Int32) * Int32.ofNat k = Int32.ofNat (2 * k) := by rw [Int32.ofNat_mul]; rfl
theorem ne_m1 {k : Nat} (h : k < 2147483648) : ¬ Int32.ofNat k = -1 := by
  intro h2
  have h3 := congrArg Int32.toInt h2
  rw [Int32.toInt_ofNat_of_lt h] at h3
  have : Int32.toInt (-1) = -1 := rfl
  omega
theorem pMarch_R {g c : Nat} {M : zM} (hW : okW M) (hc : c < 8) (h : emR M 7 g = Int32.ofNat c) : (∃ k, k < 1000 ∧ M.1 470 c = Int32.ofNat k ∧ pMarch (emR M) g = Int32.ofNat (2 * k)) ∨ (M.1 470 c = Int32.ofNat 100000 ∧ pMarch (emR M) g = -1) := by
  have hw : emR M 16 c = zcp (M.1 470 c) := by
    have := emR_w (M := M) (show 0 < 8 by omega) hc
    rw [show 8 * 0 + c = c by omega] at this
    exact this
  have hp : pMarch (emR M) g = if 1000 ≤ zcp (M.1 470 c) then -1 else 2 * zcp (M.1 470 c) := by
    unfold pMarch
    rw [h, toNat_of (by omega), hw]
  rcases hW c (by omega) with ⟨k, hk, h1⟩ | h1
  · left
    refine ⟨k, hk, h1, ?_⟩
    rw [hp, h1, zcp_lt hk, if_neg (by rw [show (1000 : Int32) = Int32.ofNat 1000 from rfl, of_le (by omega) (by omega)]; omega), two_of]
  · right
    refine ⟨h1, ?_⟩
    rw [hp, h1]
    rfl
theorem r183 {X : (Nat → Int32) × Nat} {d g : Nat} {M : zM} (hG : zGE M) (hE : okE (emR M)) (hW : okW M) (hg : g < nN (emR M)) : zC X d 183 [.ref 460, .int (Int32.ofNat g)] M = some (some (.int (pMr (emR M) g)), M) := by
  show zR X d 183 (0, [.ref 460, .int (Int32.ofNat g)], [], M) = _
  obtain ⟨hn, -⟩ := okR_N hE
  obtain ⟨c, hc, h7⟩ := hE.2.2.2.2.2.1 g hg
  have h7' : M.1 467 g = Int32.ofNat c := by rw [← h7]; exact (emR_N (Or.inl rfl) hg).symm
  have hgg : (Int32.ofNat g).toNatClampNeg = g := toNat_of (by omega)
  have hcc : (Int32.ofNat c).toNatClampNeg = c := toNat_of (by omega)
  rw [t183_0 _ _ hG (vp_of (by omega) (by omega)) (by rw [hgg, h7']; exact vp_of (by omega) (by omega)), hgg, h7', hcc]
  unfold pMr
  rcases pMarch_R hW hc h7 with ⟨k, hk, h1, h2⟩ | ⟨h1, h2⟩
  · rw [h1, h2, if_pos (by rw [of_lt (by omega) (by omega)]; omega), if_neg (ne_m1 (by omega)), two_of]
  · rw [h1, h2, if_pos rfl, if_neg (by decide)]
theorem pMr_m1 {E : zE} {M : zM} {g : Nat} (hE : okE (emR M)) (hW : okW M) (hg : g < nN (emR M)) : (pMr (emR M) g = Int32.ofNat 100000) = (pMarch (emR M) g = -1) := by
  obtain ⟨c, hc, h7⟩ := hE.2.2.2.2.2.1 g hg
  unfold pMr
  rcases pMarch_R hW hc h7 with ⟨k, hk, h1, h2⟩ | ⟨h1, h2⟩
  · rw [h2, if_neg (ne_m1 (by omega))]
    exact propext ⟨fun h => by rw [of_inj (by omega) (by omega)] at h; omega, fun h => absurd h (ne_m1 (by omega))⟩
  · rw [h2, if_pos rfl]
    exact propext ⟨fun _ => rfl, fun _ => rfl⟩
theorem r184 {X : (Nat → Int32) × Nat} {d n g : Nat} {M : zM} (hG : zGE M) (hE : okE (emR M)) (hW : okW M) (hg : g < nN (emR M)) : zC X (d + 1) 184 [.ref 460, .int (Int32.ofNat g)] M = some (some (.int (pComes (emR M) (stR n M) g)), M) := by
  show zR X (d + 1) 184 (0, [.ref 460, .int (Int32.ofNat g)], [], M) = _
  rw [t184_0 _ _ hG]
  unfold pComes
  rw [show stR n M 5 = M.1 461 8 from rfl]
  by_cases c1 : M.1 461 8 = -1
  · rw [if_pos c1, if_pos c1]
  · rw [if_neg c1, if_neg c1, r183 hG hE hW hg, Option.bind_some]
    dsimp only [zps]
    rw [t184_16 _ _ _ hG]
    simp only [pMr_m1 (E := emR M) hE hW hg]
    by_cases c2 : pMarch (emR M) g = -1
    · rw [if_neg (not_not_intro c2), if_pos c2]
    · rw [if_pos c2, if_neg c2, r183 hG hE hW hg, Option.bind_some]
      dsimp only [zps]
      rw [t184_38 _ _ _ _ hG]
      unfold pMr
      rw [if_neg c2]
theorem r197 {X : (Nat → Int32) × Nat} {d n g : Nat} {M : zM} (hG : zGE M) : zC X (d + 1) 197 [.ref 460, .int (Int32.ofNat g)] M = some (some (.int (bif pFree (stR n M) g then 1 else 0)), M) := by
  show zR X (d + 1) 197 (0, [.ref 460, .int (Int32.ofNat g)], [], M) = _
  rw [t197_0 _ _ hG, r136 hG, Option.bind_some]
  dsimp only [zps]
  rw [t197_11 _ _ _ hG]
  unfold pFree
  rw [pb_or, show stR n M 8 = M.1 461 13 from rfl, show stR n M 9 = M.1 461 14 from rfl, show stR n M 3 = M.1 461 7 from rfl]
  cases h1 : pb (M.1 461 13) g
  · rw [cond_false, if_neg (by decide), r136 hG, Option.bind_some]
    dsimp only [zps]
    rw [t197_25 _ _ _ hG]
    cases h2 : pb (M.1 461 14) g
    · rw [cond_false, if_neg (by decide)]
      by_cases h3 : M.1 461 7 = 10 + Int32.ofNat g <;> simp [h3]
    · rw [cond_true, if_pos (by decide)]
      rfl
  · rw [cond_true, if_pos (by decide)]
    rfl
theorem r196 {X : (Nat → Int32) × Nat} {d n : Nat} {M : zM} (hG : zGE M) (hE : okE (emR M)) (hR : okR (emR M) (stR n M 3)) : zC X (d + 2) 196 [.ref 460] M = some (some (.int (pThere (emR M) (stR n M))), M) := by
  show zR X (d + 2) 196 (0, [.ref 460], [], M) = _
  have h3 : stR n M 3 = M.1 461 7 := rfl
  rw [t196_0 _ hG]
  unfold pThere
  by_cases c1 : M.1 461 7 = -1
  · rw [if_neg (not_not_intro c1)]
    unfold pBS pRA
    rw [h3, c1]
    rfl
  · rw [if_pos c1, r182 (n := n) hG, Option.bind_some]
    dsimp only [zps]
    cases hB : pBS (stR n M)
    · have hA : pRA (stR n M) = true := by
        rcases hR with h1 | ⟨k, hk, h1⟩ | ⟨k, hk, h1⟩
        · exact absurd (h3 ▸ h1) c1
        · have := okE_D hE
          rw [pBS_of (show k < 4 by omega) h1] at hB
          cases hB
        · have := okE_N4 hE
          unfold pRA
          rw [h1]
          rcases (show k = 0 ∨ k = 1 ∨ k = 2 ∨ k = 3 by omega) with rfl | rfl | rfl | rfl <;> decide
      obtain ⟨k, hk, h1, h2⟩ := pRA_k hE hR hA
      have hN := okE_N4 hE
      have h8 : emR M 8 k = M.1 468 k := emR_N (Or.inr (Or.inl rfl)) hk
      have hkk : (Int32.ofNat k).toNatClampNeg = k := toNat_of (by omega)
      rw [t196_17 _ _ hG (fun _ => by rw [← h3, h2]; exact vp_of (by omega) (by omega)), cond_false, if_pos rfl, hA, ← h3, h2, hkk, cond_false, cond_true, h8]
    · rw [t196_17 _ _ hG (fun h => absurd h (by decide)), cond_true, if_neg (by decide), r181 (n := n) hG hE, Option.bind_some]
      dsimp only [zps]
      rw [t196_24 _ _ hG]
      rfl
theorem r194 {X : (Nat → Int32) × Nat} {d n : Nat} {M : zM} (hG : zGE M) (hn : nD (emR M) ≤ n) (hE : okE (emR M)) (hR : okR (emR M) (stR n M 3)) : ∃ M', zC X (d + 2) 194 [.ref 460] M = some (none, M') ∧ zfs M M' ∧ stR n M' = bif pBS (stR n M) then pPay (emR M) (stR n M) else stR n M := by
  show ∃ M', zR X (d + 2) 194 (0, [.ref 460, zjk, zjk, zjk], [], M) = some (none, M') ∧ _
  rw [t194_0 _ _ _ _ hG, r181 (n := n) hG hE, Option.bind_some]
  dsimp only [zps]
  rw [t194_4 _ _ _ _ _ hG, r182 (n := n) hG, Option.bind_some]
  dsimp only [zps]
  cases hB : pBS (stR n M)
  · simp only [cond_false]
    rw [t194_17 _ _ _ _ _ hG (fun h => absurd rfl h), if_pos rfl]
    exact ⟨M, rfl, zfs_rf, rfl⟩
  · obtain ⟨k, hk, h3⟩ := pBS_D hE hR hB
    have hk4 := okE_D hE
    have h3' : M.1 461 7 = Int32.ofNat k := h3
    have hkk : (Int32.ofNat k).toNatClampNeg = k := toNat_of (by omega)
    rw [t194_17 _ _ _ _ _ hG (fun _ _ _ => by rw [h3']; exact vp_of (by omega) (by decide)), cond_true, if_neg (by decide), h3', hkk, cond_true]
    unfold pPay
    rw [h3, hkk, stR_p (show k < n by omega), show stR n M 4 = M.1 461 10 from rfl, show stR n M 6 = M.1 461 9 from rfl, show stR n M 0 = M.1 461 0 from rfl, show stR n M 1 = M.1 461 11 from rfl]
    by_cases c1 : 100 * M.1 461 9 ≤ M.1 461 10
    · rw [if_pos c1, if_neg (Int32.not_lt.mpr c1)]
      exact ⟨M, rfl, zfs_rf, rfl⟩
    · rw [if_neg c1, if_pos (Int32.not_le.mp c1)]
      by_cases c2 : pMen (emR M) (stR n M) = 0
      · rw [if_pos c2, if_pos c2]
        exact ⟨M, rfl, zfs_rf, rfl⟩
      · rw [if_neg c2, if_neg c2]
        by_cases c3 : pMen (emR M) (stR n M) ≤ M.1 461 0 + M.1 462 k
        · rw [if_pos c3, if_pos c3]
          have fin : ∀ (f a b : Int32), a = M.1 461 0 - f → b = M.1 462 k - (pMen (emR M) (stR n M) - f) → ∃ M', (some (none, zsI (zsI (zsI M 461 0 a) 462 k b) 461 10 (M.1 461 10 + M.1 461 11)) : Option zO) = some (none, M') ∧ zfs M M' ∧ stR n M' = zu (zu (zu (stR n M) 0 (M.1 461 0 - f)) (10 + k) (M.1 462 k - (pMen (emR M) (stR n M) - f))) 4 (M.1 461 10 + M.1 461 11) := by
            intro f a b ha hb
            refine ⟨_, rfl, zfs_I (i := 4) (zfs_J (zfs_I (i := 0) zfs_rf (by decide))) (by decide), ?_⟩
            have e1 := stR_I (n := n) (k := 4) (v := M.1 461 10 + M.1 461 11) (M := zsI (zsI M 461 0 a) 462 k b) (by decide)
            have e2 := stR_I (n := n) (k := 0) (v := a) (M := M) (by decide)
            refine e1.trans ?_
            rw [stR_J (show k < n by omega)]
            refine (congrArg (fun q => zu (zu q (10 + k) b) 4 (M.1 461 10 + M.1 461 11)) e2).trans ?_
            rw [ha, hb]
          by_cases c4 : pMen (emR M) (stR n M) ≤ M.1 461 0
          · rw [if_pos c4]
            refine fin _ _ _ ?_ ?_
            · split
              · rw [Int32.sub_zero]
              · rename_i c5
                have : pMen (emR M) (stR n M) = M.1 461 0 := Int32.le_antisymm c4 (Int32.not_lt.mp c5)
                rw [Int32.sub_zero, this]
            · split
              · rw [Int32.sub_self]
              · rename_i c5
                have : pMen (emR M) (stR n M) = M.1 461 0 := Int32.le_antisymm c4 (Int32.not_lt.mp c5)
                rw [this, Int32.sub_self]
          · rw [if_neg c4]
            have c5 : ¬ pMen (emR M) (stR n M) < M.1 461 0 := fun h => c4 (Int32.le_of_lt h)
            refine fin _ _ _ ?_ ?_
            · rw [if_neg c5]
              have : ∀ x y : Int32, x - (y - (y - x)) = x - x := by
                intro x y
                rw [← Int32.toBitVec_inj]
                simp only [Int32.toBitVec_sub]
                bv_omega
              exact this _ _
            · rw [if_neg c5]
        · rw [if_neg c3, if_neg c3]
          exact ⟨M, rfl, zfs_rf, rfl⟩
