/-! ===== days tried out ===== -/
theorem pMeet_k {E : zE} {A : zA} {g j : Nat} {m : Int32} (h : j ≠ 3) (h2 : j ≠ 7) (h3 : j ≠ 9) : pMeet E A g m j = A j := by
  unfold pMeet
  split
  · rw [zu_n h3]
  · rw [zu_n h2, zu_n h]
theorem pCm_k {E : zE} {A : zA} {j : Nat} (h : j ≠ 3) (h2 : j ≠ 7) (h3 : j ≠ 9) : ∀ k, pCm E A k j = A j := by
  intro k
  induction k with
  | zero => rfl
  | succ k ih =>
    rw [pCm]
    cases (pFree (pCm E A k) k && decide (pComes E (pCm E A k) k = pCm E A k 2))
    · exact ih
    · exact (pMeet_k h h2 h3).trans ih
theorem pGo_2 {E : zE} {A : zA} : pGo E A 2 = A 2 + 1 := by
  unfold pGo
  try dsimp only
  rw [zu_s]
  have h1 : (bif pBS A then pLv E (pPay E A) (nG E) else A) 2 = A 2 := by
    cases pBS A
    · rfl
    · show pLv E (pPay E A) (nG E) 2 = A 2
      rw [pLv_k (by decide), pPay_k (Or.inl rfl)]
  split
  · rw [h1]
  · rw [pCm_k (by decide) (by decide) (by decide), h1]
def pIt (E : zE) : Nat → zA → zA
  | 0, A => A
  | k + 1, A => pGo E (pIt E k A)
theorem okR_it {E : zE} {A : zA} (h : okR E (A 3)) : ∀ k, okR E (pIt E k A 3) := by
  intro k
  induction k with
  | zero => exact h
  | succ k ih => exact okR_go ih
theorem pIt_2 {E : zE} {A : zA} {n : Nat} (h : A 2 = Int32.ofNat n) : ∀ k, pIt E k A 2 = Int32.ofNat (n + k) := by
  intro k
  induction k with
  | zero => exact h
  | succ k ih =>
    show pGo E (pIt E k A) 2 = _
    rw [pGo_2, ih, of_succ]
    rfl
theorem s70 {X : (Nat → Int32) × Nat} {d n s t : Nat} {M : zM} (hG : zGE M) (hs : zqk s 9 = true) (ht : zqk t 9 = true) (hap : t + 2 ≤ s ∨ s + 2 ≤ t) (hn : n ≤ 4) : ∃ M', zC X d 70 [.ref s, .ref t] M = some (none, M') ∧ zfr s (s + 2) M M' ∧ stD n s M' = stD n t M := by
  show ∃ M', zR X d 70 (0, [.ref s, .ref t], [], M) = some (none, M') ∧ _
  rw [t70_0 _ _ _ hG hs ht (by omega) (by omega)]
  have f : ∀ {M' : zM} {a k : Nat} {x : Int32}, s ≤ a → a < s + 2 → zfr s (s + 2) M M' → zfr s (s + 2) M (zsI M' a k x) := fun h1 h2 h => zfr_I h h1 h2
  refine ⟨_, rfl, zfr_r (f (by omega) (by omega) (f (by omega) (by omega) (f (by omega) (by omega) (f (by omega) (by omega) (f (by omega) (by omega) (f (by omega) (by omega) (f (by omega) (by omega) (f (by omega) (by omega) (f (by omega) (by omega) (f (by omega) (by omega) zfr_rf)))))))))) (by omega) (by omega), ?_⟩
  funext j
  unfold stD
  by_cases h : j < 10
  · rw [if_pos h, if_pos h, zr_n (show ¬ s = s + 1 by omega)]
    simp only [zI_s]
    rcases (show j = 0 ∨ j = 1 ∨ j = 2 ∨ j = 3 ∨ j = 4 ∨ j = 5 ∨ j = 6 ∨ j = 7 ∨ j = 8 ∨ j = 9 by omega) with rfl | rfl | rfl | rfl | rfl | rfl | rfl | rfl | rfl | rfl <;> rfl
  · rw [if_neg h, if_neg h, zr_s]
    by_cases h2 : j < 10 + n
    · rw [if_pos h2, if_pos h2]
      unfold va_cpy
      rw [if_pos (by omega), show 0 + (j - 10 - 0) = j - 10 by omega]
    · rw [if_neg h2, if_neg h2]
theorem s26 {X : (Nat → Int32) × Nat} {d n s e k : Nat} {M : zM} (hG : zGE M) (hs : zqk s 9 = true) (he : zqk e 1 = true) (hap : e + 27 ≤ 120) (hap2 : s + 2 ≤ 120 ∨ 122 ≤ s) (hn : nD (emD e M) ≤ n) (hn4 : n ≤ 4) (hE : okE (emD e M)) (hR : okR (emD e M) (stD n s M 3)) (hk : k ≤ 1000) : ∃ M', zC X (d + 4) 26 [.ref 119, .ref e, .ref s, .int (Int32.ofNat k)] M = some (some (.ref 120), M') ∧ zfr 120 122 M M' ∧ stD n 120 M' = pIt (emD e M) k (stD n s M) := by
  show ∃ M', zR X (d + 4) 26 (0, [.ref 119, .ref e, .ref s, .int (Int32.ofNat k), zjk], [], M) = some (some (.ref 120), M') ∧ _
  have loop : ∀ m i M1, i + m = k → zfr 120 122 M M1 → stD n 120 M1 = pIt (emD e M) i (stD n s M) → ∃ M', zR X (d + 4) 26 (11, [.ref 119, .ref e, .ref s, .int (Int32.ofNat k), .int (Int32.ofNat i)], [], M1) = some (some (.ref 120), M') ∧ zfr 120 122 M M' ∧ stD n 120 M' = pIt (emD e M) k (stD n s M) := by
    intro m
    induction m with
    | zero =>
      intro i M1 hi hf hv
      rw [t26_11 _ _ _ _ _ (zfr_G hf hG) he hs, if_pos ((of_le (by omega) (by omega)).mpr (by omega))]
      exact ⟨M1, rfl, hf, by rw [hv, show k = i by omega]⟩
    | succ m ih =>
      intro i M1 hi hf hv
      have hG1 := zfr_G hf hG
      have hm : emD e M1 = emD e M := zfr_em hf (by omega)
      obtain ⟨M2, g1, g2, g3⟩ := s78 (X := X) (d := d) (n := n) hG1 zq_120 he (by rw [hm]; exact hn) (by omega) (by rw [hm]; exact hE) (by rw [hm, hv]; exact okR_it hR _)
      rw [t26_11 _ _ _ _ _ hG1 he hs, if_neg (by rw [of_le (by omega) (by omega)]; omega), g1, Option.bind_some]
      dsimp only [zps]
      rw [t26_25 _ _ _ _ _ (zfr_G g2 hG1) he hs, of_succ]
      exact ih (i + 1) M2 (by omega) (zfr_tr hf g2) (by rw [g3, hm, hv]; rfl)
  obtain ⟨M1, g1, g2, g3⟩ := s70 (X := X) (d := d + 3) (n := n) hG zq_120 hs (by omega) hn4
  rw [t26_0 _ _ _ _ _ hG he hs, g1, Option.bind_some]
  dsimp only [zps]
  rw [t26_8 _ _ _ _ _ (zfr_G g2 hG) he hs]
  exact loop k 0 M1 (by omega) g2 g3
/-- days on which who reigns still does, of m; and how it stands then -/
def pHd (E : zE) (who : Int32) : Nat → Nat → zA → Nat × zA
  | 0, i, A => (i, A)
  | m + 1, i, A => if pGo E A 3 = who then pHd E who m (i + 1) (pGo E A) else (i, pGo E A)
theorem s27 {X : (Nat → Int32) × Nat} {d n s e k : Nat} {M : zM} (hG : zGE M) (hs : zqk s 9 = true) (he : zqk e 1 = true) (hap : e + 27 ≤ 120) (hap2 : s + 2 ≤ 120 ∨ 122 ≤ s) (hn : nD (emD e M) ≤ n) (hn4 : n ≤ 4) (hE : okE (emD e M)) (hR : okR (emD e M) (stD n s M 3)) (hk : k ≤ 1000) : ∃ M', zC X (d + 4) 27 [.ref 119, .ref e, .ref s, .int (Int32.ofNat k)] M = some (some (.int (Int32.ofNat (pHd (emD e M) (stD n s M 3) k 0 (stD n s M)).1)), M') ∧ zfr 120 122 M M' ∧ stD n 120 M' = (pHd (emD e M) (stD n s M 3) k 0 (stD n s M)).2 := by
  show ∃ M', zR X (d + 4) 27 (0, [.ref 119, .ref e, .ref s, .int (Int32.ofNat k), zjk, zjk], [], M) = some (some (.int _), M') ∧ _
  have h3 : M.1 s 3 = stD n s M 3 := (stD_f (by decide)).symm
  have loop : ∀ m i M1, i + m = k → zfr 120 122 M M1 → okR (emD e M) (stD n 120 M1 3) → ∃ M', zR X (d + 4) 27 (17, [.ref 119, .ref e, .ref s, .int (Int32.ofNat k), .int (stD n s M 3), .int (Int32.ofNat i)], [], M1) = some (some (.int (Int32.ofNat (pHd (emD e M) (stD n s M 3) m i (stD n 120 M1)).1)), M') ∧ zfr 120 122 M M' ∧ stD n 120 M' = (pHd (emD e M) (stD n s M 3) m i (stD n 120 M1)).2 := by
    intro m
    induction m with
    | zero =>
      intro i M1 hi hf hR1
      rw [t27_17 _ _ _ _ _ _ (zfr_G hf hG) he hs, if_pos ((of_le (by omega) (by omega)).mpr (by omega))]
      exact ⟨M1, by rw [show k = i by omega]; rfl, hf, rfl⟩
    | succ m ih =>
      intro i M1 hi hf hR1
      have hG1 := zfr_G hf hG
      have hm : emD e M1 = emD e M := zfr_em hf (by omega)
      obtain ⟨M2, g1, g2, g3⟩ := s78 (X := X) (d := d) (n := n) hG1 zq_120 he (by rw [hm]; exact hn) (by omega) (by rw [hm]; exact hE) (by rw [hm]; exact hR1)
      rw [hm] at g3
      have h4 : M2.1 120 3 = pGo (emD e M) (stD n 120 M1) 3 := by rw [← g3, stD_f (by decide)]
      rw [t27_17 _ _ _ _ _ _ hG1 he hs, if_neg (by rw [of_le (by omega) (by omega)]; omega), g1, Option.bind_some]
      dsimp only [zps]
      rw [t27_31 _ _ _ _ _ _ (zfr_G g2 hG1) he hs, h4, pHd]
      by_cases c : pGo (emD e M) (stD n 120 M1) 3 = stD n s M 3
      · rw [if_pos c, if_pos c, of_succ, ← g3]
        exact ih (i + 1) M2 (by omega) (zfr_tr hf g2) (by rw [g3]; exact okR_go hR1)
      · rw [if_neg c, if_neg c]
        exact ⟨M2, rfl, zfr_tr hf g2, g3⟩
  obtain ⟨M1, g1, g2, g3⟩ := s70 (X := X) (d := d + 3) (n := n) hG zq_120 hs (by omega) hn4
  rw [t27_0 _ _ _ _ _ _ hG he hs, g1, Option.bind_some]
  dsimp only [zps]
  rw [t27_14 _ _ _ _ _ _ (zfr_G g2 hG) he hs, h3]
  have h9 := loop k 0 M1 (by omega) g2 (by rw [g3]; exact hR)
  rw [g3] at h9
  exact h9
theorem r200 {X : (Nat → Int32) × Nat} {d n k q : Nat} {M : zM} (hG : zGE M) (hn : nD (emR M) ≤ n) (hE : okE (emR M)) (hW : okW M) (hR : okR (emR M) (stR n M 3)) (hD : stR n M 2 = Int32.ofNat q) (hq : q ≤ 100000) (hk : k ≤ 1000) : ∃ M', zC X (d + 5) 200 [.ref 460, .int (Int32.ofNat k)] M = some (none, M') ∧ zfs M M' ∧ stR n M' = pIt (emR M) k (stR n M) := by
  show ∃ M', zR X (d + 5) 200 (0, [.ref 460, .int (Int32.ofNat k), zjk], [], M) = some (none, M') ∧ _
  have loop : ∀ m i M1, i + m = k → zfs M M1 → stR n M1 = pIt (emR M) i (stR n M) → ∃ M', zR X (d + 5) 200 (2, [.ref 460, .int (Int32.ofNat k), .int (Int32.ofNat i)], [], M1) = some (none, M') ∧ zfs M M' ∧ stR n M' = pIt (emR M) k (stR n M) := by
    intro m
    induction m with
    | zero =>
      intro i M1 hi hf hv
      rw [t200_2 _ _ _ (zfs_G hf hG), if_pos ((of_le (by omega) (by omega)).mpr (by omega))]
      exact ⟨M1, rfl, hf, by rw [hv, show k = i by omega]⟩
    | succ m ih =>
      intro i M1 hi hf hv
      have hG1 := zfs_G hf hG
      have hm : emR M1 = emR M := zfs_em hf
      obtain ⟨M2, g1, g2, g3⟩ := r199 (X := X) (d := d) (n := n) hG1 (by rw [hm]; exact hn) (by rw [hm]; exact hE) (zfs_W hf hW) (by rw [hm, hv]; exact okR_it hR _) (by rw [hv, pIt_2 hD]; exact ne_m1 (by omega))
      rw [t200_2 _ _ _ hG1, if_neg (by rw [of_le (by omega) (by omega)]; omega), g1, Option.bind_some]
      dsimp only [zps]
      rw [t200_11 _ _ _ (zfs_G g2 hG1), of_succ]
      exact ih (i + 1) M2 (by omega) (zfs_tr hf g2) (by rw [g3, hm, hv]; rfl)
  rw [t200_0 _ _ _ hG]
  exact loop k 0 M (by omega) zfs_rf rfl
theorem r215 {X : (Nat → Int32) × Nat} {d n k q : Nat} {M : zM} (hG : zGE M) (hn : nD (emR M) ≤ n) (hE : okE (emR M)) (hW : okW M) (hR : okR (emR M) (stR n M 3)) (hD : stR n M 2 = Int32.ofNat q) (hq : q ≤ 100000) (hk : k ≤ 1000) : ∃ M', zC X (d + 5) 215 [.ref 460, .int (Int32.ofNat k)] M = some (some (.int (Int32.ofNat (pHd (emR M) (stR n M 3) k 0 (stR n M)).1)), M') ∧ zfs M M' ∧ stR n M' = (pHd (emR M) (stR n M 3) k 0 (stR n M)).2 := by
  show ∃ M', zR X (d + 5) 215 (0, [.ref 460, .int (Int32.ofNat k), zjk, zjk, zjk, zjk], [], M) = some (some (.int _), M') ∧ _
  have loop : ∀ m i M1, i + m = k → zfs M M1 → okR (emR M) (stR n M1 3) → stR n M1 2 = Int32.ofNat (q + i) → ∃ M', zR X (d + 5) 215 (16, [.ref 460, .int (Int32.ofNat k), .int (stR n M 3), .int (Int32.ofNat i), .int 1, .int (Int32.ofNat i)], [], M1) = some (some (.int (Int32.ofNat (pHd (emR M) (stR n M 3) m i (stR n M1)).1)), M') ∧ zfs M M' ∧ stR n M' = (pHd (emR M) (stR n M 3) m i (stR n M1)).2 := by
    intro m
    induction m with
    | zero =>
      intro i M1 hi hf hR1 hd
      rw [t215_16 _ _ _ _ _ _ (zfs_G hf hG), if_pos ((of_le (by omega) (by omega)).mpr (by omega))]
      exact ⟨M1, rfl, hf, rfl⟩
    | succ m ih =>
      intro i M1 hi hf hR1 hd
      have hG1 := zfs_G hf hG
      have hm : emR M1 = emR M := zfs_em hf
      obtain ⟨M2, g1, g2, g3⟩ := r199 (X := X) (d := d) (n := n) hG1 (by rw [hm]; exact hn) (by rw [hm]; exact hE) (zfs_W hf hW) (by rw [hm]; exact hR1) (by rw [hd]; exact ne_m1 (by omega))
      rw [hm] at g3
      have h4 : M2.1 461 7 = pGo (emR M) (stR n M1) 3 := by rw [← g3]; rfl
      rw [t215_16 _ _ _ _ _ _ hG1, if_neg (by rw [of_le (by omega) (by omega)]; omega), if_neg (by decide), g1, Option.bind_some]
      dsimp only [zps]
      rw [t215_31 _ _ _ _ _ _ (zfs_G g2 hG1), h4, pHd]
      by_cases c : pGo (emR M) (stR n M1) 3 = stR n M 3
      · rw [if_neg (not_not_intro c), if_pos c, of_succ, ← g3]
        exact ih (i + 1) M2 (by omega) (zfs_tr hf g2) (by rw [g3]; exact okR_go hR1) (by rw [g3, pGo_2, hd, of_succ]; rfl)
      · rw [if_pos c, if_neg c, of_succ, Int32.add_zero]
        rw [t215_16 _ _ _ _ _ _ (zfs_G g2 hG1)]
        refine ⟨M2, ?_, zfs_tr hf g2, g3⟩
        split
        · rfl
        · rw [if_pos rfl]
  rw [t215_0 _ _ _ _ _ _ hG]
  exact loop k 0 M (by omega) zfs_rf hR hD
