theorem r192 {X : (Nat → Int32) × Nat} {d : Nat} {M : zM} (hG : zGE M) : ∃ M', zC X (d + 1) 192 [.ref 460] M = some (none, M') ∧ M'.2 = M.2 ∧ (∀ c, c ≠ 496 → M'.1 c = M.1 c) ∧ ∀ j, j < 4 → M'.1 496 j = M.1 466 j := by
  show ∃ M', zR X (d + 1) 192 (0, [.ref 460], [], M) = some (none, M') ∧ _
  obtain ⟨M1, g1, g2, g3, g4⟩ := r167 (X := X) (d := d) (n := 4) hG zq_466 zq_496 (by decide) zl_466 (by rw [zl_496]; omega) (by decide)
  rw [t192_0 _ hG, g1, Option.bind_some]
  dsimp only [zps]
  rw [t192_11 _ (zGE_of hG (congrArg Prod.snd g2))]
  exact ⟨M1, rfl, g2, g3, fun j hj => by rw [g4, if_pos hj]⟩
theorem r171 {X : (Nat → Int32) × Nat} {d : Nat} {M : zM} (hG : zGE M) (hE : okE (emR M)) (hT : emR M 0 0 = 1) : ∃ M', zC X (d + 1) 171 [.ref 460] M = some (none, M') ∧ zfs M M' ∧ stR (nD (emR M)) M' = pBegin (nD (emR M)) (emR M) := by
  show ∃ M', zR X (d + 1) 171 (0, [.ref 460], [], M) = some (none, M') ∧ _
  have hn := okE_D hE
  have hT' : M.1 460 25 = 1 := hT
  have h0 : emR M 1 0 = M.1 474 0 := emR_c (by decide) (by decide) (by decide) (by decide) (by unfold rct; rw [if_pos (by decide), hT']; decide)
  have hp : ∀ j, j < nD (emR M) → emR M 13 j = M.1 473 j := fun j hj => emR_c (by decide) (by decide) (by decide) (by decide) (by
    unfold rct
    rw [if_neg (by decide), if_neg (by decide), if_neg (by decide)]
    exact hj)
  obtain ⟨M1, g1, g2, g3, g4⟩ := r167 (X := X) (d := d) (n := 4) hG zq_473 zq_462 (by decide) zl_473 (by rw [zl_462]; omega) (by decide)
  have hf : zfs M M1 := ⟨⟨congrArg Prod.snd g2, fun a ha => ⟨g3 a (by omega), congrFun (congrArg Prod.fst g2) a⟩⟩, fun k _ => by rw [g3 461 (by decide)]⟩
  rw [t171_0 _ hG, g1, Option.bind_some]
  dsimp only [zps]
  rw [t171_11 _ (zfs_G hf hG)]
  refine ⟨_, rfl, ?_, ?_⟩
  · exact zfs_I (i := 9) (zfs_I (i := 8) (zfs_I (i := 7) (zfs_I (i := 1) (zfs_I (i := 4) (zfs_I (i := 6) (zfs_I (i := 5) (zfs_I (i := 3) (zfs_I (i := 2) (zfs_I (i := 0) hf (by decide)) (by decide)) (by decide)) (by decide)) (by decide)) (by decide)) (by decide)) (by decide)) (by decide)) (by decide)
  · funext j
    unfold stR pBegin
    by_cases h : j < 10
    · rw [if_pos h]
      simp only [zI_s, h0, g3 474 (by decide)]
      rcases (show j = 0 ∨ j = 1 ∨ j = 2 ∨ j = 3 ∨ j = 4 ∨ j = 5 ∨ j = 6 ∨ j = 7 ∨ j = 8 ∨ j = 9 by omega) with rfl | rfl | rfl | rfl | rfl | rfl | rfl | rfl | rfl | rfl <;> rfl
    · rw [if_neg h, if_neg (show ¬ j = 0 by omega), if_neg (show ¬ j = 1 by omega), if_neg (show ¬ (j = 3 ∨ j = 5) by omega), if_neg h]
      by_cases h2 : j < 10 + nD (emR M)
      · rw [if_pos h2, if_pos h2, hp _ (by omega)]
        have e : ∀ (M' : zM) (k : Nat) (x : Int32), (zsI M' 461 k x).1 462 = M'.1 462 := fun M' k x => zI_n1 (by decide)
        simp only [e]
        rw [g4, if_pos (by omega)]
      · rw [if_neg h2, if_neg h2]
