/-! ===== the reference's sale ===== -/
theorem okR_D {M : zM} (h : okE (emR M)) : nD (emR M) ≤ 4 ∧ M.1 461 3 = Int32.ofNat (nD (emR M)) := by
  obtain ⟨k, hk, h1⟩ := h.2.2.2.2.1
  have e1 : nD (emR M) = k := by unfold nD; rw [h1, toNat_of (by omega)]
  rw [e1, ← h1]
  exact ⟨hk, rfl⟩
theorem r189 {X : (Nat → Int32) × Nat} {d n : Nat} {M : zM} (hG : zGE M) (hn : n ≤ 4) (hc : M.1 461 3 = Int32.ofNat n) : zC X (d + 1) 189 [.ref 460] M = some (some (.int (Int32.ofNat (pOut (pb (M.1 460 50)) n))), M) := by
  show zR X (d + 1) 189 (0, [.ref 460, zjk, zjk], [], M) = _
  have loop : ∀ m k, k + m = n → zR X (d + 1) 189 (4, [.ref 460, .int (Int32.ofNat (pOut (pb (M.1 460 50)) k)), .int (Int32.ofNat k)], [], M) = some (some (.int (Int32.ofNat (pOut (pb (M.1 460 50)) n))), M) := by
    intro m
    induction m with
    | zero =>
      intro k hk
      rw [t189_4 _ _ _ hG, hc, if_pos ((of_le (by omega) (by omega)).mpr (by omega)), show n = k by omega]
    | succ m ih =>
      intro k hk
      have h9 := ih (k + 1) (by omega)
      rw [pOut] at h9
      rw [t189_4 _ _ _ hG, hc, if_neg (by rw [of_le (by omega) (by omega)]; omega), r136 hG, Option.bind_some]
      dsimp only [zps]
      rw [t189_23 _ _ _ _ _ hG, of_succ, of_succ, Int32.add_zero]
      cases hb : pb (M.1 460 50) k
      · rw [cond_false, if_pos rfl]
        rw [hb] at h9
        exact h9
      · rw [cond_true, if_neg (by decide)]
        rw [hb] at h9
        exact h9
  rw [t189_0 _ _ _ hG]
  exact loop n 0 (by omega)
/-- the reference's sale as the plain one -/
def auR (M : zM) : zS := (M.1 460 47, M.1 460 48, M.1 460 49, fun k => Nat.blt k 4 && pb (M.1 460 50) k)
