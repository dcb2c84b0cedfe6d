/-! ===== the reference's days ===== -/
def prm (k : Nat) : Nat := [0, 11, 6, 7, 10, 8, 9, 12, 13, 14].getD k 0
theorem prm_inj : ∀ j, j < 10 → ∀ k, k < 10 → prm j = prm k → j = k := by decide
def stR (n : Nat) (M : zM) : zA := fun k => if k < 10 then M.1 461 (prm k) else if k < 10 + n then M.1 462 (k - 10) else 0
theorem stR_f {n k : Nat} {M : zM} (h : k < 10) : stR n M k = M.1 461 (prm k) := if_pos h
theorem stR_p {n b : Nat} {M : zM} (h : b < n) : stR n M (10 + b) = M.1 462 b := by
  unfold stR
  rw [if_neg (by omega), if_pos (by omega), Nat.add_sub_cancel_left]
theorem stR_I {n k : Nat} {v : Int32} {M : zM} (h : k < 10) : stR n (zsI M 461 (prm k) v) = zu (stR n M) k v := by
  funext j
  unfold stR zu
  dsimp only
  by_cases e : j = k
  · subst e; rw [if_pos h, if_pos rfl, zI_s, if_pos rfl]
  · rw [if_neg e, zI_n (show ¬ 462 = 461 by decide)]
    by_cases e2 : j < 10
    · rw [if_pos e2, if_pos e2, zI_s, if_neg (fun h3 => e (prm_inj j e2 k h h3))]
    · rw [if_neg e2, if_neg e2]
theorem stR_J {n b : Nat} {v : Int32} {M : zM} (h : b < n) : stR n (zsI M 462 b v) = zu (stR n M) (10 + b) v := by
  funext j
  unfold stR zu
  dsimp only
  by_cases e : j = 10 + b
  · subst e; rw [if_neg (by omega), if_pos (by omega), if_pos rfl, Nat.add_sub_cancel_left, zI_s, if_pos rfl]
  · rw [if_neg e, zI_n (show ¬ 461 = 462 by decide)]
    by_cases e2 : j < 10
    · rw [if_pos e2, if_pos e2]
    · rw [if_neg e2, if_neg e2, zI_s]
      by_cases e3 : j < 10 + n
      · rw [if_pos e3, if_pos e3, if_neg (by omega)]
      · rw [if_neg e3, if_neg e3]
def zcp (x : Int32) : Int32 := if x < 1000 then x else 1000
def rcn (r : Nat) : Nat := [0, 474, 0, 0, 463, 464, 465, 467, 468, 469, 0, 0, 0, 473, 466, 0].getD r 0
def rct (M : zM) (r : Nat) : Nat := (if r < 3 then M.1 460 25 else if r < 7 then M.1 461 2 else if r < 10 then M.1 461 4 else M.1 461 3).toNatClampNeg
def emR (M : zM) : zE := fun r j =>
  if r = 0 then (if j = 0 then M.1 460 25 else if j = 1 then M.1 461 2 else if j = 2 then M.1 461 4 else if j = 3 then M.1 461 5 else if j = 4 then M.1 461 3 else 0)
  else if r < 16 then (if r = 10 ∨ r = 11 ∨ r = 12 ∨ r = 3 ∨ r = 15 then 0 else if j < rct M r then (if r = 2 then M.1 461 1 else M.1 (rcn r) j) else 0)
  else if r < 24 then (if j < 8 then zcp (M.1 470 (8 * (r - 16) + j)) else 0)
  else if r < 32 then (if j < 8 then (if M.1 460 25 = 0 then 0 else M.1 493 (8 * (r - 24) + j)) else 0)
  else 0
theorem emR_c {r j : Nat} {M : zM} (h1 : 0 < r) (h2 : r < 16) (h3 : ¬ (r = 10 ∨ r = 11 ∨ r = 12 ∨ r = 3 ∨ r = 15)) (h4 : r ≠ 2) (hj : j < rct M r) : emR M r j = M.1 (rcn r) j := by
  unfold emR; rw [if_neg (by omega), if_pos h2, if_neg h3, if_pos hj, if_neg h4]
theorem emR_w {a j : Nat} {M : zM} (h1 : a < 8) (hj : j < 8) : emR M (16 + a) j = zcp (M.1 470 (8 * a + j)) := by
  unfold emR; rw [if_neg (by omega), if_neg (by omega), if_pos (by omega), if_pos hj, Nat.add_sub_cancel_left]
/-- the ways are short, or there is none -/
def okW (M : zM) : Prop := ∀ c, c < 64 → (∃ k, k < 1000 ∧ M.1 470 c = Int32.ofNat k) ∨ M.1 470 c = Int32.ofNat 100000
/-- nothing but how the empire stands has changed -/
def zfs (M M' : zM) : Prop := zfr 461 463 M M' ∧ ∀ k, (∀ i, i < 10 → prm i ≠ k) → M'.1 461 k = M.1 461 k
theorem zfs_rf {M : zM} : zfs M M := ⟨zfr_rf, fun _ _ => rfl⟩
theorem zfs_tr {M M' M'' : zM} (h1 : zfs M M') (h2 : zfs M' M'') : zfs M M'' := ⟨zfr_tr h1.1 h2.1, fun k hk => (h2.2 k hk).trans (h1.2 k hk)⟩
theorem zfs_I {M M' : zM} {i : Nat} {v : Int32} (h : zfs M M') (hi : i < 10) : zfs M (zsI M' 461 (prm i) v) :=
  ⟨zfr_I h.1 (by omega) (by omega), fun k hk => by rw [zI_s, if_neg (fun e => hk i hi e.symm)]; exact h.2 k hk⟩
theorem zfs_J {M M' : zM} {b : Nat} {v : Int32} (h : zfs M M') : zfs M (zsI M' 462 b v) :=
  ⟨zfr_I h.1 (by omega) (by omega), fun k hk => by rw [zI_n (by decide)]; exact h.2 k hk⟩
theorem zfs_G {M M' : zM} (h : zfs M M') (hG : zGE M) : zGE M' := zfr_G h.1 hG
theorem zfs_k {M M' : zM} (h : zfs M M') {k : Nat} (hk : k = 1 ∨ k = 2 ∨ k = 3 ∨ k = 4 ∨ k = 5 ∨ 15 ≤ k) : M'.1 461 k = M.1 461 k := by
  refine h.2 k (fun i hi e => ?_)
  have : ∀ i, i < 10 → prm i = 0 ∨ (6 ≤ prm i ∧ prm i < 15) := by decide
  have := this i hi
  omega
theorem zfs_c {M M' : zM} (h : zfs M M') {a : Nat} (ha : a < 461 ∨ 463 ≤ a) : M'.1 a = M.1 a := (h.1.2 a ha).1
theorem zfs_em {M M' : zM} (h : zfs M M') : emR M' = emR M := by
  have hrc : ∀ r, r < 16 → rcn r = 0 ∨ 463 ≤ rcn r := by decide
  funext r j
  have hct : ∀ r, rct M' r = rct M r := fun r => by
    unfold rct
    rw [zfs_c h (show 460 < 461 ∨ 463 ≤ 460 by decide), zfs_k h (show 2 = 1 ∨ 2 = 2 ∨ 2 = 3 ∨ 2 = 4 ∨ 2 = 5 ∨ 15 ≤ 2 by decide), zfs_k h (show 4 = 1 ∨ 4 = 2 ∨ 4 = 3 ∨ 4 = 4 ∨ 4 = 5 ∨ 15 ≤ 4 by decide), zfs_k h (show 3 = 1 ∨ 3 = 2 ∨ 3 = 3 ∨ 3 = 4 ∨ 3 = 5 ∨ 15 ≤ 3 by decide)]
  unfold emR
  rw [hct, zfs_c h (show 460 < 461 ∨ 463 ≤ 460 by decide), zfs_k h (show 1 = 1 ∨ 1 = 2 ∨ 1 = 3 ∨ 1 = 4 ∨ 1 = 5 ∨ 15 ≤ 1 by decide), zfs_k h (show 2 = 1 ∨ 2 = 2 ∨ 2 = 3 ∨ 2 = 4 ∨ 2 = 5 ∨ 15 ≤ 2 by decide), zfs_k h (show 4 = 1 ∨ 4 = 2 ∨ 4 = 3 ∨ 4 = 4 ∨ 4 = 5 ∨ 15 ≤ 4 by decide), zfs_k h (show 3 = 1 ∨ 3 = 2 ∨ 3 = 3 ∨ 3 = 4 ∨ 3 = 5 ∨ 15 ≤ 3 by decide), zfs_k h (show 5 = 1 ∨ 5 = 2 ∨ 5 = 3 ∨ 5 = 4 ∨ 5 = 5 ∨ 15 ≤ 5 by decide), zfs_c h (show 470 < 461 ∨ 463 ≤ 470 by decide), zfs_c h (show 493 < 461 ∨ 463 ≤ 493 by decide)]
  by_cases g2 : r < 16
  · rw [zfs_c h (show rcn r < 461 ∨ 463 ≤ rcn r by have := hrc r g2; omega)]
  · rw [if_neg g2, if_neg g2]
theorem zfs_W {M M' : zM} (h : zfs M M') (hW : okW M) : okW M' := fun c hc => by
  rw [zfs_c h (show 470 < 461 ∨ 463 ≤ 470 by decide)]
  exact hW c hc
theorem okR_G {M : zM} (h : okE (emR M)) : nG (emR M) ≤ 6 ∧ M.1 461 2 = Int32.ofNat (nG (emR M)) := by
  obtain ⟨k, hk, h1⟩ := h.2.1
  have e1 : nG (emR M) = k := by unfold nG; rw [h1, toNat_of (by omega)]
  rw [e1, ← h1]
  exact ⟨hk, rfl⟩
theorem okR_N {M : zM} (h : okE (emR M)) : nN (emR M) ≤ 4 ∧ M.1 461 4 = Int32.ofNat (nN (emR M)) := by
  obtain ⟨k, hk, h1⟩ := h.2.2.1
  have e1 : nN (emR M) = k := by unfold nN; rw [h1, toNat_of (by omega)]
  rw [e1, ← h1]
  exact ⟨hk, rfl⟩
theorem emR_G {k c : Nat} {M : zM} (hc : c = 4 ∨ c = 5 ∨ c = 6) (h : k < nG (emR M)) : emR M c k = M.1 (rcn c) k := by
  refine emR_c (by omega) (by omega) (by omega) (by omega) ?_
  have e1 : nG (emR M) = (M.1 461 2).toNatClampNeg := rfl
  unfold rct
  rw [if_neg (by omega), if_pos (by omega)]
  omega
theorem emR_N {k c : Nat} {M : zM} (hc : c = 7 ∨ c = 8 ∨ c = 9) (h : k < nN (emR M)) : emR M c k = M.1 (rcn c) k := by
  refine emR_c (by omega) (by omega) (by omega) (by omega) ?_
  have e1 : nN (emR M) = (M.1 461 4).toNatClampNeg := rfl
  unfold rct
  rw [if_neg (by omega), if_neg (by omega), if_pos (by omega)]
  omega
theorem r136 {X : (Nat → Int32) × Nat} {d k : Nat} {x : Int32} {M : zM} (hG : zGE M) : zC X d 136 [.int x, .int (Int32.ofNat k)] M = some (some (.int (bif pb x k then 1 else 0)), M) := by
  show zR X d 136 (0, [.int x, .int (Int32.ofNat k)], [], M) = _
  rw [t136_0 _ _ _ hG]
  cases hb : pb x k
  · rw [pb_f hb, if_pos (by decide)]
    rfl
  · rw [pb_t1 hb, if_neg (by decide)]
    rfl
theorem lgc_lt {x y : Int64} : (lg_cmp x y < 0) = (x < y) := by
  unfold lg_cmp
  by_cases h1 : y < x
  · rw [if_pos h1]
    exact propext ⟨fun h => absurd h (by decide), fun h => (Int64.lt_irrefl (Int64.lt_trans h h1)).elim⟩
  · rw [if_neg h1]
    by_cases h2 : x = y
    · rw [if_pos h2]
      exact propext ⟨fun h => absurd h (by decide), fun h => by rw [h2] at h; exact (Int64.lt_irrefl h).elim⟩
    · rw [if_neg h2]
      exact propext ⟨fun _ => Int64.lt_of_le_of_ne (Int64.not_lt.mp h1) h2, fun _ => by decide⟩
theorem lgc_gt {x y : Int64} : (0 < lg_cmp x y) = (y < x) := by
  unfold lg_cmp
  by_cases h1 : y < x
  · rw [if_pos h1]
    exact propext ⟨fun _ => h1, fun _ => by decide⟩
  · rw [if_neg h1]
    by_cases h2 : x = y
    · rw [if_pos h2]
      exact propext ⟨fun h => absurd h (by decide), fun h => absurd h h1⟩
    · rw [if_neg h2]
      exact propext ⟨fun h => absurd h (by decide), fun h => absurd h h1⟩
theorem r135 {X : (Nat → Int32) × Nat} {d : Nat} {x y z : Int64} {M : zM} (hG : zGE M) : zC X d 135 [.long x, .long y, .long z] M = some (some (.int (bif ! decide (x < y) && ! decide (z < x) then 1 else 0)), M) := by
  show zR X d 135 (0, [.long x, zjk, .long y, zjk, .long z, zjk], [], M) = _
  rw [t135_0 _ _ _ _ hG]
  simp only [lgc_lt, lgc_gt]
  by_cases h1 : x < y <;> by_cases h2 : z < x <;> simp [h1, h2]
theorem i64_lt {x y : Int32} : (x.toInt64 < y.toInt64) = (x < y) := by
  rw [Int64.lt_iff_toInt_lt, Int32.lt_iff_toInt_lt, Int32.toInt_toInt64, Int32.toInt_toInt64]
theorem d64 {x y : Int32} : decide (x.toInt64 < y.toInt64) = decide (x < y) := by
  simp only [i64_lt]
theorem r182 {X : (Nat → Int32) × Nat} {d n : Nat} {M : zM} (hG : zGE M) : zC X (d + 1) 182 [.ref 460] M = some (some (.int (bif pBS (stR n M) then 1 else 0)), M) := by
  show zR X (d + 1) 182 (0, [.ref 460], [], M) = _
  have e : (! decide ((M.1 461 7).toInt64 < 0) && ! decide (3 < (M.1 461 7).toInt64)) = pBS (stR n M) := by
    show (! decide ((M.1 461 7).toInt64 < (0 : Int32).toInt64) && ! decide ((3 : Int32).toInt64 < (M.1 461 7).toInt64)) = (! decide (M.1 461 7 < 0) && ! decide (4 ≤ M.1 461 7))
    rw [d64, d64]
    have h : ((3 : Int32) < M.1 461 7) = (4 ≤ M.1 461 7) := by
      rw [Int32.lt_iff_toInt_lt, Int32.le_iff_toInt_le]
      exact propext ⟨fun h => by change (3 : Int) < _ at h; show (4 : Int) ≤ _; omega, fun h => by change (4 : Int) ≤ _ at h; show (3 : Int) < _; omega⟩
    simp only [h]
  rw [t182_0 _ hG, r135 hG, Option.bind_some, e]
  dsimp only [zps]
  rw [t182_15 _ _ hG (by cases pBS (stR n M) <;> simp)]
theorem r181 {X : (Nat → Int32) × Nat} {d n : Nat} {M : zM} (hG : zGE M) (hE : okE (emR M)) : zC X (d + 1) 181 [.ref 460] M = some (some (.int (pMen (emR M) (stR n M))), M) := by
  show zR X (d + 1) 181 (0, [.ref 460, zjk, zjk], [], M) = _
  obtain ⟨hn, hc⟩ := okR_G hE
  have h7 : stR n M 7 = M.1 461 12 := rfl
  have loop : ∀ m k, k + m = nG (emR M) → zR X (d + 1) 181 (4, [.ref 460, .int (pMs (stR n M 7) (emR M 4) k), .int (Int32.ofNat k)], [], M) = some (some (.int (pMen (emR M) (stR n M))), M) := by
    intro m
    induction m with
    | zero =>
      intro k hk
      rw [t181_4 _ _ _ hG, hc, if_pos ((of_le (by omega) (by omega)).mpr (by omega))]
      unfold pMen
      rw [show nG (emR M) = k by omega]
    | succ m ih =>
      intro k hk
      have hv : emR M 4 k = M.1 463 k := emR_G (Or.inl rfl) (by omega)
      have h9 := ih (k + 1) (by omega)
      rw [pMs, h7] at h9
      rw [t181_4 _ _ _ hG, hc, if_neg (by rw [of_le (by omega) (by omega)]; omega), r136 hG, Option.bind_some]
      dsimp only [zps]
      rw [t181_26 _ _ _ _ _ hG (fun _ => vp_of (by omega) (by omega)), toNat_of (by omega), of_succ, ← hv, Int32.add_zero, h7]
      cases hb : pb (M.1 461 12) k
      · rw [cond_false, if_pos rfl]
        rw [hb] at h9
        exact h9
      · rw [cond_true, if_neg (by decide)]
        rw [hb] at h9
        exact h9
  rw [t181_0 _ _ _ hG]
  exact loop (nG (emR M)) 0 (by omega)
