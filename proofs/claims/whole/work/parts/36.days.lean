/-! ===== the class' days ===== -/
theorem emD_n {e j : Nat} {M : zM} (h : j < 5) : (emD e M 0 j).toNatClampNeg = (M.1 (e + 1) j).toNatClampNeg := by rw [emD_0 h]
theorem okE_G {e : Nat} {M : zM} (h : okE (emD e M)) : nG (emD e M) ≤ 6 ∧ M.1 (e + 1) 1 = Int32.ofNat (nG (emD e M)) := by
  obtain ⟨k, hk, h1⟩ := h.2.1
  have e1 : nG (emD e M) = k := by unfold nG; rw [h1, toNat_of (by omega)]
  rw [e1, ← h1, emD_0 (by omega)]
  exact ⟨hk, rfl⟩
theorem okE_N {e : Nat} {M : zM} (h : okE (emD e M)) : nN (emD e M) ≤ 4 ∧ M.1 (e + 1) 2 = Int32.ofNat (nN (emD e M)) := by
  obtain ⟨k, hk, h1⟩ := h.2.2.1
  have e1 : nN (emD e M) = k := by unfold nN; rw [h1, toNat_of (by omega)]
  rw [e1, ← h1, emD_0 (by omega)]
  exact ⟨hk, rfl⟩
theorem emD_G {e k c : Nat} {M : zM} (hc : c = 4 ∨ c = 5 ∨ c = 6) (h : k < nG (emD e M)) : emD e M c k = M.1 (e + 2 + c) k := by
  refine emD_c (by omega) (by omega) (by omega) ?_
  have e1 : nG (emD e M) = (M.1 (e + 1) 1).toNatClampNeg := emD_n (by omega)
  rw [show (c - 1) / 3 = 1 by omega]
  omega
theorem emD_N {e k c : Nat} {M : zM} (hc : c = 7 ∨ c = 8 ∨ c = 9) (h : k < nN (emD e M)) : emD e M c k = M.1 (e + 2 + c) k := by
  refine emD_c (by omega) (by omega) (by omega) ?_
  have e1 : nN (emD e M) = (M.1 (e + 1) 2).toNatClampNeg := emD_n (by omega)
  rw [show (c - 1) / 3 = 2 by omega]
  omega
theorem zC_eq {X : (Nat → Int32) × Nat} {d z : Nat} {as : List Value} {M : zM} : zC X d z as M = zR X d z (0, zloc (zml z) as, [], M) := rfl
theorem s79 {X : (Nat → Int32) × Nat} {d n s : Nat} {M : zM} (hG : zGE M) (hs : zqk s 9 = true) : zC X d 79 [.ref s] M = some (some (.int (bif pBS (stD n s M) then 1 else 0)), M) := by
  show zR X d 79 (0, [.ref s], [], M) = _
  rw [t79_0 _ _ hG hs]
  unfold pBS
  rw [stD_f (show 3 < 10 by decide)]
  by_cases h1 : M.1 s 3 < 0 <;> by_cases h2 : 4 ≤ M.1 s 3 <;> simp [h1, h2]
theorem s80 {X : (Nat → Int32) × Nat} {d n s : Nat} {M : zM} (hG : zGE M) (hs : zqk s 9 = true) : zC X d 80 [.ref s] M = some (some (.int (bif pRA (stD n s M) then 1 else 0)), M) := by
  show zR X d 80 (0, [.ref s], [], M) = _
  rw [t80_0 _ _ hG hs]
  unfold pRA
  rw [stD_f (show 3 < 10 by decide)]
  by_cases h1 : M.1 s 3 < 10 <;> by_cases h2 : 14 ≤ M.1 s 3 <;> simp [h1, h2]
theorem s76 {X : (Nat → Int32) × Nat} {d n s g : Nat} {M : zM} (hG : zGE M) (hs : zqk s 9 = true) : zC X d 76 [.ref s, .int (Int32.ofNat g)] M = some (some (.int (bif pFree (stD n s M) g then 1 else 0)), M) := by
  show zR X d 76 (0, [.ref s, .int (Int32.ofNat g)], [], M) = _
  rw [t76_0 _ _ _ hG hs]
  unfold pFree
  rw [stD_f (show 8 < 10 by decide), stD_f (show 9 < 10 by decide), stD_f (show 3 < 10 by decide)]
  cases hb : pb (M.1 s 8 ||| M.1 s 9) g
  · rw [if_neg (not_not_intro (pb_f hb))]
    by_cases h2 : M.1 s 3 = 10 + Int32.ofNat g <;> simp [h2]
  · rw [if_pos (pb_t hb)]
    rfl
theorem s71 {X : (Nat → Int32) × Nat} {d n s e : Nat} {M : zM} (hG : zGE M) (hs : zqk s 9 = true) (he : zqk e 1 = true) (hE : okE (emD e M)) : zC X d 71 [.ref s, .ref e] M = some (some (.int (pMen (emD e M) (stD n s M))), M) := by
  show zR X d 71 (0, [.ref s, .ref e, zjk, zjk, zjk], [], M) = _
  obtain ⟨hn, hc⟩ := okE_G hE
  have loop : ∀ m k, k + m = nG (emD e M) → zR X d 71 (12, [.ref s, .ref e, .ref (e + 6), .int (pMs (stD n s M 7) (emD e M 4) k), .int (Int32.ofNat k)], [], M) = some (some (.int (pMen (emD e M) (stD n s M))), M) := by
    intro m
    induction m with
    | zero =>
      intro k hk
      rw [t71_12 _ _ _ _ _ _ hG hs he (fun _ _ => zis_q hG (hq1_6 he)) (fun _ _ => by rw [hl1_6 he]; exact vp_of (by omega) (by omega)), hc, if_pos ((of_le (by omega) (by omega)).mpr (by omega))]
      unfold pMen
      rw [show nG (emD e M) = k by omega]
    | succ m ih =>
      intro k hk
      have hv : emD e M 4 k = M.1 (e + 6) k := emD_G (Or.inl rfl) (by omega)
      have h7 : stD n s M 7 = M.1 s 7 := stD_f (by decide)
      have h9 := ih (k + 1) (by omega)
      rw [t71_12 _ _ _ _ _ _ hG hs he (fun _ _ => zis_q hG (hq1_6 he)) (fun _ _ => by rw [hl1_6 he]; exact vp_of (by omega) (by omega)), hc, if_neg (by rw [of_le (by omega) (by omega)]; omega), toNat_of (by omega), of_succ, ← hv]
      rw [pMs] at h9
      cases hb : pb (stD n s M 7) k
      · have hb2 := pb_f hb
        rw [h7] at hb2
        rw [if_neg (not_not_intro hb2)]
        rw [hb] at h9
        exact h9
      · have hb2 := pb_t hb
        rw [h7] at hb2
        rw [if_pos hb2]
        rw [hb] at h9
        exact h9
  rw [t71_0 _ _ _ _ _ _ hG hs he]
  exact loop (nG (emD e M)) 0 (by omega)
theorem pPay_k {E : zE} {A : zA} {j : Nat} (hj : j = 2 ∨ j = 3 ∨ (5 ≤ j ∧ j < 10)) : pPay E A j = A j := by
  unfold pPay
  split
  · split
    · rfl
    · split
      · rw [zu_n (by omega), zu_n (by omega), zu_n (by omega)]
      · rfl
  · rfl
theorem pLv_k {E : zE} {A : zA} {j : Nat} (hj : j ≠ 7) : ∀ k, pLv E A k j = A j := by
  intro k
  induction k with
  | zero => rfl
  | succ k ih =>
    rw [pLv]
    split
    · exact ih
    · split
      · exact ih
      · rw [zu_n hj, ih]
theorem okR_meet {E : zE} {A : zA} {g : Nat} {m : Int32} (h : okR E (A 3)) (hg : g < nN E) : okR E (pMeet E A g m 3) := by
  unfold pMeet
  split
  · rw [zu_n (by decide)]; exact h
  · rw [zu_n (by decide), zu_s]
    exact Or.inr (Or.inr ⟨g, hg, by rw [Int32.ofNat_add]; rfl⟩)
theorem okR_cm {E : zE} {A : zA} (h : okR E (A 3)) : ∀ k, k ≤ nN E → okR E (pCm E A k 3) := by
  intro k
  induction k with
  | zero => intro _; exact h
  | succ k ih =>
    intro hk
    rw [pCm]
    cases (pFree (pCm E A k) k && decide (pComes E (pCm E A k) k = pCm E A k 2))
    · exact ih (by omega)
    · exact okR_meet (ih (by omega)) (by omega)
theorem okR_go {E : zE} {A : zA} (h : okR E (A 3)) : okR E (pGo E A 3) := by
  unfold pGo
  try dsimp only
  rw [zu_n (by decide)]
  have h1 : okR E ((bif pBS A then pLv E (pPay E A) (nG E) else A) 3) := by
    cases pBS A
    · exact h
    · show okR E (pLv E (pPay E A) (nG E) 3)
      rw [pLv_k (by decide), pPay_k (Or.inr (Or.inl rfl))]
      exact h
  split
  · exact h1
  · exact okR_cm h1 _ (Nat.le_refl _)
theorem i_range {x : Int32} {n : Nat} (hn : n < 2147483648) (h0 : ¬ x < 0) (h1 : ¬ Int32.ofNat n ≤ x) : ∃ k, k < n ∧ x = Int32.ofNat k := by
  rw [show (0 : Int32) = Int32.ofNat 0 from rfl, Int32.lt_iff_toInt_lt, Int32.toInt_ofNat_of_lt (by omega)] at h0
  rw [Int32.le_iff_toInt_le, Int32.toInt_ofNat_of_lt hn] at h1
  refine ⟨x.toInt.toNat, by omega, ?_⟩
  rw [← Int32.toInt_inj, Int32.toInt_ofNat_of_lt (by omega)]
  omega
theorem pBS_k {A : zA} (h : pBS A = true) : ∃ k, k < 4 ∧ A 3 = Int32.ofNat k := by
  unfold pBS at h
  simp only [Bool.and_eq_true, Bool.not_eq_true', decide_eq_false_iff_not] at h
  exact i_range (by decide) h.1 h.2
theorem pBS_of {A : zA} {k : Nat} (hk : k < 4) (h : A 3 = Int32.ofNat k) : pBS A = true := by
  unfold pBS
  rw [h]
  rcases (show k = 0 ∨ k = 1 ∨ k = 2 ∨ k = 3 by omega) with rfl | rfl | rfl | rfl <;> decide
theorem zfr_em {lo hi e : Nat} {M M' : zM} (h : zfr lo hi M M') (h1 : e + 27 ≤ lo ∨ hi ≤ e) : emD e M' = emD e M := by
  funext r j
  unfold emD
  by_cases g1 : r = 0
  · rw [if_pos g1, if_pos g1, (h.2 (e + 1) (by omega)).1]
  · rw [if_neg g1, if_neg g1]
    by_cases g2 : r < 16
    · rw [if_pos g2, if_pos g2, (h.2 (e + 1) (by omega)).1, (h.2 (e + 2 + r) (by omega)).1]
    · rw [if_neg g2, if_neg g2]
      by_cases g3 : r < 24
      · rw [if_pos g3, if_pos g3, (h.2 (e + 3 + r) (by omega)).1]
      · rw [if_neg g3, if_neg g3, (h.2 (e + 1) (by omega)).1, (h.2 (e + 12) (by omega)).1, (h.2 (e + 13) (by omega)).1, (h.2 (e + 14) (by omega)).1]
theorem okE_D {E : zE} (h : okE E) : nD E ≤ 4 := by
  obtain ⟨k, hk, h1⟩ := h.2.2.2.2.1
  unfold nD; rw [h1, toNat_of (by omega)]; exact hk
theorem okE_N4 {E : zE} (h : okE E) : nN E ≤ 4 := by
  obtain ⟨k, hk, h1⟩ := h.2.2.1
  unfold nN; rw [h1, toNat_of (by omega)]; exact hk
theorem pRA_k {E : zE} {A : zA} (hE : okE E) (hR : okR E (A 3)) (h : pRA A = true) : ∃ k, k < nN E ∧ A 3 = Int32.ofNat (10 + k) ∧ A 3 - 10 = Int32.ofNat k := by
  rcases hR with h1 | ⟨k, hk, h1⟩ | ⟨k, hk, h1⟩
  · unfold pRA at h; rw [h1] at h; exact absurd h (by decide)
  · have := okE_D hE
    unfold pRA at h
    rw [h1] at h
    rcases (show k = 0 ∨ k = 1 ∨ k = 2 ∨ k = 3 by omega) with rfl | rfl | rfl | rfl <;> exact absurd h (by decide)
  · have := okE_N4 hE
    refine ⟨k, hk, h1, ?_⟩
    rw [h1]
    rcases (show k = 0 ∨ k = 1 ∨ k = 2 ∨ k = 3 by omega) with rfl | rfl | rfl | rfl <;> decide
theorem pBS_D {E : zE} {A : zA} (hE : okE E) (hR : okR E (A 3)) (h : pBS A = true) : ∃ k, k < nD E ∧ A 3 = Int32.ofNat k := by
  rcases hR with h1 | ⟨k, hk, h1⟩ | ⟨k, hk, h1⟩
  · unfold pBS at h; rw [h1] at h; exact absurd h (by decide)
  · exact ⟨k, hk, h1⟩
  · have := okE_N4 hE
    unfold pBS at h
    rw [h1] at h
    rcases (show k = 0 ∨ k = 1 ∨ k = 2 ∨ k = 3 by omega) with rfl | rfl | rfl | rfl <;> exact absurd h (by decide)
theorem s81 {X : (Nat → Int32) × Nat} {d n s e : Nat} {M : zM} (hG : zGE M) (hs : zqk s 9 = true) (he : zqk e 1 = true) (hn : nD (emD e M) ≤ n) (hE : okE (emD e M)) (hR : okR (emD e M) (stD n s M 3)) (hB : pBS (stD n s M) = true) : ∃ M', zC X (d + 1) 81 [.ref s, .ref e] M = some (none, M') ∧ zfr s (s + 2) M M' ∧ stD n s M' = pPay (emD e M) (stD n s M) := by
  obtain ⟨k, hk, h3⟩ := pBS_D hE hR hB
  have hk4 := okE_D hE
  have h3' : M.1 s 3 = Int32.ofNat k := by rw [← h3, stD_f (by decide)]
  have hkk : (Int32.ofNat k).toNatClampNeg = k := toNat_of (by omega)
  show ∃ M', zR X (d + 1) 81 (0, [.ref s, .ref e, zjk, zjk], [], M) = some (none, M') ∧ _
  unfold pPay
  rw [h3, hkk, stD_p (show k < n by omega), stD_f (show 4 < 10 by decide), stD_f (show 6 < 10 by decide), stD_f (show 0 < 10 by decide), stD_f (show 1 < 10 by decide), t81_0 _ _ _ _ _ hG hs he]
  by_cases c1 : M.1 s 4 < 100 * M.1 s 6
  · rw [if_pos c1, if_pos c1, s71 hG hs he hE, Option.bind_some]
    dsimp only [zps]
    rw [t81_20 _ _ _ _ _ _ hG hs he (fun _ => by rw [h3']; exact vp_of (by omega) (by decide)), h3', hkk]
    by_cases c2 : pMen (emD e M) (stD n s M) = 0
    · rw [if_pos c2, if_pos c2]
      exact ⟨M, rfl, zfr_rf, rfl⟩
    · rw [if_neg c2, if_neg c2]
      by_cases c3 : pMen (emD e M) (stD n s M) ≤ M.1 s 0 + M.1 (s + 1) k
      · rw [if_pos c3, if_pos c3]
        refine ⟨_, rfl, zfr_I (zfr_I (zfr_I zfr_rf (by omega) (by omega)) (by omega) (by omega)) (by omega) (by omega), ?_⟩
        rw [stD_I (by decide), stD_J (by omega), stD_I (by decide)]
      · rw [if_neg c3, if_neg c3]
        exact ⟨M, rfl, zfr_rf, rfl⟩
  · rw [if_neg c1, if_neg c1]
    exact ⟨M, rfl, zfr_rf, rfl⟩
theorem s82 {X : (Nat → Int32) × Nat} {d n s e : Nat} {M : zM} (hG : zGE M) (hs : zqk s 9 = true) (he : zqk e 1 = true) (hap : e + 27 ≤ s ∨ s + 2 ≤ e) (hE : okE (emD e M)) : ∃ M', zC X d 82 [.ref s, .ref e] M = some (none, M') ∧ zfr s (s + 2) M M' ∧ stD n s M' = pLv (emD e M) (stD n s M) (nG (emD e M)) := by
  show ∃ M', zR X d 82 (0, [.ref s, .ref e, zjk, zjk, zjk], [], M) = some (none, M') ∧ _
  obtain ⟨hn, hc⟩ := okE_G hE
  have loop : ∀ m k M1, k + m = nG (emD e M) → zfr s (s + 2) M M1 → stD n s M1 = pLv (emD e M) (stD n s M) k → ∃ M', zR X d 82 (17, [.ref s, .ref e, .ref (e + 7), .ref (e + 8), .int (Int32.ofNat k)], [], M1) = some (none, M') ∧ zfr s (s + 2) M M' ∧ stD n s M' = pLv (emD e M) (stD n s M) (nG (emD e M)) := by
    intro m
    induction m with
    | zero =>
      intro k M1 hk hf hv
      have hG := zfr_G hf hG
      have hc1 : M1.1 (e + 1) 1 = Int32.ofNat (nG (emD e M)) := by rw [(hf.2 (e + 1) (by omega)).1]; exact hc
      rw [t82_17 _ _ _ _ _ _ hG hs he (fun _ => zis_q hG (hq1_8 he)) (fun _ => by rw [hl1_8 he]; exact vp_of (by omega) (by omega)) (fun _ _ => zis_q hG (hq1_7 he)) (fun _ _ => by rw [hl1_7 he]; exact vp_of (by omega) (by omega)), hc1, if_pos ((of_le (by omega) (by omega)).mpr (by omega))]
      exact ⟨M1, rfl, hf, by rw [hv, show nG (emD e M) = k by omega]⟩
    | succ m ih =>
      intro k M1 hk hf hv
      have hG := zfr_G hf hG
      have hc1 : M1.1 (e + 1) 1 = Int32.ofNat (nG (emD e M)) := by rw [(hf.2 (e + 1) (by omega)).1]; exact hc
      have h5 : M1.1 (e + 7) k = emD e M 5 k := by rw [(hf.2 (e + 7) (by omega)).1]; exact (emD_G (Or.inr (Or.inl rfl)) (by omega)).symm
      have h6 : M1.1 (e + 8) k = emD e M 6 k := by rw [(hf.2 (e + 8) (by omega)).1]; exact (emD_G (Or.inr (Or.inr rfl)) (by omega)).symm
      have q : ∀ j, j < 10 → j ≠ 7 → M1.1 s j = stD n s M j := fun j h1 h2 => by rw [← stD_f h1, hv, pLv_k h2]
      have q7 : M1.1 s 7 = pLv (emD e M) (stD n s M) k 7 := by rw [← hv, stD_f (by decide)]
      rw [t82_17 _ _ _ _ _ _ hG hs he (fun _ => zis_q hG (hq1_8 he)) (fun _ => by rw [hl1_8 he]; exact vp_of (by omega) (by omega)) (fun _ _ => zis_q hG (hq1_7 he)) (fun _ _ => by rw [hl1_7 he]; exact vp_of (by omega) (by omega)), hc1, if_neg (by rw [of_le (by omega) (by omega)]; omega), toNat_of (by omega), h5, h6, q 2 (by decide) (by decide), q 5 (by decide) (by decide), q 6 (by decide) (by decide), q 4 (by decide) (by decide), of_succ]
      by_cases c1 : stD n s M 2 - stD n s M 5 ≤ emD e M 6 k
      · rw [if_pos c1]
        exact ih (k + 1) M1 (by omega) hf (by rw [hv, pLv, if_pos c1])
      · rw [if_neg c1]
        by_cases c2 : emD e M 5 k * stD n s M 6 ≤ stD n s M 4
        · rw [if_pos c2]
          exact ih (k + 1) M1 (by omega) hf (by rw [hv, pLv, if_neg c1, if_pos c2])
        · rw [if_neg c2]
          refine ih (k + 1) _ (by omega) (zfr_I hf (by omega) (by omega)) ?_
          rw [stD_I (by decide), pLv, if_neg c1, if_neg c2, hv, q7]
  rw [t82_0 _ _ _ _ _ _ hG hs he]
  exact loop (nG (emD e M)) 0 M (by omega) zfr_rf rfl
theorem s13 {X : (Nat → Int32) × Nat} {d k : Nat} {M : zM} (hG : zGE M) (hk : k < 8) : zC X d 13 [.int (Int32.ofNat k)] M = some (some (.int 1), M) := by
  show zR X d 13 (0, [.int (Int32.ofNat k)], [], M) = _
  rw [t13_0 _ _ hG, if_neg (by rw [show (0 : Int32) = Int32.ofNat 0 from rfl, of_lt (by omega) (by omega)]; omega), if_neg (by rw [show (8 : Int32) = Int32.ofNat 8 from rfl, of_le (by omega) (by omega)]; omega)]
theorem s20 {X : (Nat → Int32) × Nat} {d e g : Nat} {M : zM} (hG : zGE M) (he : zqk e 1 = true) (hE : okE (emD e M)) (hg : g < nN (emD e M)) : zC X (d + 1) 20 [.ref e, .int (Int32.ofNat g)] M = some (some (.int (pMarch (emD e M) g)), M) := by
  show zR X (d + 1) 20 (0, [.ref e, .int (Int32.ofNat g), zjk], [], M) = _
  obtain ⟨hn, -⟩ := okE_N hE
  obtain ⟨k, hk, hc⟩ := hE.2.2.2.2.2.1 g hg
  have hc2 : M.1 (e + 9) g = Int32.ofNat k := by rw [← hc]; exact (emD_N (Or.inl rfl) hg).symm
  have hw : emD e M 16 k = M.1 (e + 19) k := emD_w (by omega) (by omega) hk
  have hgg : (Int32.ofNat g).toNatClampNeg = g := toNat_of (by omega)
  have hkk : (Int32.ofNat k).toNatClampNeg = k := toNat_of (by omega)
  rw [t20_0 _ _ _ _ hG he (vp_of (by omega) (by omega)), hgg, hc2, s13 hG hk, Option.bind_some]
  dsimp only [zps]
  rw [t20_14 _ _ _ _ _ hG he (fun _ => vp_of hk (by omega)), if_neg (by decide), hkk]
  unfold pMarch
  rw [hc, hkk, hw]
  by_cases c1 : 1000 ≤ M.1 (e + 19) k
  · rw [if_pos c1, if_pos c1]
  · rw [if_neg c1, if_neg c1]
theorem s77 {X : (Nat → Int32) × Nat} {d n s e g : Nat} {M : zM} (hG : zGE M) (hs : zqk s 9 = true) (he : zqk e 1 = true) (hE : okE (emD e M)) (hg : g < nN (emD e M)) : zC X (d + 2) 77 [.ref s, .ref e, .int (Int32.ofNat g)] M = some (some (.int (pComes (emD e M) (stD n s M) g)), M) := by
  show zR X (d + 2) 77 (0, [.ref s, .ref e, .int (Int32.ofNat g), zjk], [], M) = _
  rw [t77_0 _ _ _ _ _ hG hs he, s20 hG he hE hg, Option.bind_some]
  dsimp only [zps]
  rw [t77_5 _ _ _ _ _ _ hG hs he]
  unfold pComes
  rw [stD_f (show 5 < 10 by decide)]
  by_cases c1 : M.1 s 5 = -1
  · rw [if_pos c1, if_pos c1]
  · rw [if_neg c1, if_neg c1]
    by_cases c2 : pMarch (emD e M) g = -1
    · rw [if_neg (not_not_intro c2), if_pos c2]
    · rw [if_pos c2, if_neg c2]
theorem s84 {X : (Nat → Int32) × Nat} {d n s e : Nat} {M : zM} (hG : zGE M) (hs : zqk s 9 = true) (he : zqk e 1 = true) (hE : okE (emD e M)) (hR : okR (emD e M) (stD n s M 3)) : zC X (d + 1) 84 [.ref s, .ref e] M = some (some (.int (pThere (emD e M) (stD n s M))), M) := by
  show zR X (d + 1) 84 (0, [.ref s, .ref e], [], M) = _
  rw [t84_0 _ _ _ hG hs he, s79 hG hs, Option.bind_some]
  dsimp only [zps]
  unfold pThere
  rw [t84_4 _ _ _ _ hG hs he]
  cases hB : pBS (stD n s M)
  · rw [cond_false, if_pos rfl, s80 hG hs, Option.bind_some]
    dsimp only [zps, cond_false]
    cases hA : pRA (stD n s M)
    · simp only [cond_false]
      rw [t84_17 _ _ _ _ hG hs he (fun h => absurd rfl h), if_pos rfl]
    · obtain ⟨k, hk, h1, h2⟩ := pRA_k hE hR hA
      have hN := okE_N4 hE
      have h8 : emD e M 8 k = M.1 (e + 10) k := emD_N (Or.inr (Or.inl rfl)) hk
      have hkk : (Int32.ofNat k).toNatClampNeg = k := toNat_of (by omega)
      have h2' := h2
      rw [stD_f (show 3 < 10 by decide)] at h2'
      rw [t84_17 _ _ _ _ hG hs he (fun _ => by rw [h2']; exact vp_of (by omega) (by omega)), cond_true, if_neg (by decide), h2', cond_true, h2, hkk, h8]
  · rw [cond_true, if_neg (by decide), s71 hG hs he hE, Option.bind_some]
    dsimp only [zps]
    rw [t84_12 _ _ _ _ hG hs he, cond_true]
theorem s83 {X : (Nat → Int32) × Nat} {d n s e g : Nat} {m : Int32} {M : zM} (hG : zGE M) (hs : zqk s 9 = true) (he : zqk e 1 = true) (hap : e + 27 ≤ s ∨ s + 2 ≤ e) (hE : okE (emD e M)) (hg : g < nN (emD e M)) : ∃ M', zC X d 83 [.ref s, .ref e, .int (Int32.ofNat g), .int m] M = some (none, M') ∧ zfr s (s + 2) M M' ∧ stD n s M' = pMeet (emD e M) (stD n s M) g m := by
  show ∃ M', zR X d 83 (0, [.ref s, .ref e, .int (Int32.ofNat g), .int m], [], M) = some (none, M') ∧ _
  have hN := okE_N4 hE
  have hgg : (Int32.ofNat g).toNatClampNeg = g := toNat_of (by omega)
  have h8 : emD e M 8 g = M.1 (e + 10) g := emD_N (Or.inr (Or.inl rfl)) hg
  rw [t83_0 _ _ _ _ _ hG hs he (vp_of (by omega) (by omega)) (by omega), hgg]
  unfold pMeet
  rw [h8]
  by_cases c1 : M.1 (e + 10) g ≤ m
  · rw [if_pos c1, if_pos c1]
    refine ⟨_, rfl, zfr_I zfr_rf (by omega) (by omega), ?_⟩
    rw [stD_I (by decide), stD_f (show 9 < 10 by decide)]
  · rw [if_neg c1, if_neg c1]
    refine ⟨_, rfl, zfr_I (zfr_I zfr_rf (by omega) (by omega)) (by omega) (by omega), ?_⟩
    rw [stD_I (by decide), stD_I (by decide), emD_0 (show 1 < 5 by decide)]
theorem s78 {X : (Nat → Int32) × Nat} {d n s e : Nat} {M : zM} (hG : zGE M) (hs : zqk s 9 = true) (he : zqk e 1 = true) (hn : nD (emD e M) ≤ n) (hap : e + 27 ≤ s ∨ s + 2 ≤ e) (hE : okE (emD e M)) (hR : okR (emD e M) (stD n s M 3)) : ∃ M', zC X (d + 3) 78 [.ref s, .ref e] M = some (none, M') ∧ zfr s (s + 2) M M' ∧ stD n s M' = pGo (emD e M) (stD n s M) := by
  have hN := okE_N4 hE
  show ∃ M', zR X (d + 3) 78 (0, [.ref s, .ref e, zjk], [], M) = some (none, M') ∧ _
  have tail : ∀ (A1 : zA) M1, zfr s (s + 2) M M1 → stD n s M1 = A1 → ∃ M', (some (none, zsI M1 s 2 (M1.1 s 2 + 1)) : Option zO) = some (none, M') ∧ zfr s (s + 2) M M' ∧ stD n s M' = zu A1 2 (A1 2 + 1) := by
    intro A1 M1 hf hv
    refine ⟨_, rfl, zfr_I hf (by omega) (by omega), ?_⟩
    rw [stD_I (by decide), hv, ← hv, stD_f (show 2 < 10 by decide)]
  have loop : ∀ (A1 : zA), okR (emD e M) (A1 3) → ∀ m k M1, k + m = nN (emD e M) → zfr s (s + 2) M M1 → stD n s M1 = pCm (emD e M) A1 k → ∃ M', zR X (d + 3) 78 (27, [.ref s, .ref e, .int (Int32.ofNat k)], [], M1) = some (none, M') ∧ zfr s (s + 2) M M' ∧ stD n s M' = zu (pCm (emD e M) A1 (nN (emD e M))) 2 (pCm (emD e M) A1 (nN (emD e M)) 2 + 1) := by
    intro A1 hR1 m
    induction m with
    | zero =>
      intro k M1 hk hf hv
      have hG := zfr_G hf hG
      have hc : M1.1 (e + 1) 2 = Int32.ofNat (nN (emD e M)) := by rw [(hf.2 (e + 1) (by omega)).1]; exact (okE_N hE).2
      rw [t78_27 _ _ _ _ hG hs he, hc, if_pos ((of_le (by omega) (by omega)).mpr (by omega))]
      exact tail _ M1 hf (by rw [hv, show nN (emD e M) = k by omega])
    | succ m ih =>
      intro k M1 hk hf hv
      have hG := zfr_G hf hG
      have hm : emD e M1 = emD e M := zfr_em hf hap
      have hE1 : okE (emD e M1) := by rw [hm]; exact hE
      have hc : M1.1 (e + 1) 2 = Int32.ofNat (nN (emD e M)) := by rw [(hf.2 (e + 1) (by omega)).1]; exact (okE_N hE).2
      have hR2 : okR (emD e M1) (stD n s M1 3) := by rw [hm, hv]; exact okR_cm hR1 _ (by omega)
      have hk1 : k < nN (emD e M1) := by rw [hm]; omega
      have h2 : M1.1 s 2 = stD n s M1 2 := (stD_f (by decide)).symm
      rw [t78_27 _ _ _ _ hG hs he, hc, if_neg (by rw [of_le (by omega) (by omega)]; omega), s76 hG hs, Option.bind_some]
      dsimp only [zps]
      rw [t78_42 _ _ _ _ _ hG hs he]
      cases hF : pFree (stD n s M1) k
      · rw [cond_false, if_pos rfl, of_succ]
        refine ih (k + 1) M1 (by omega) hf ?_
        rw [hv, pCm, ← hv, hF]
        rfl
      · rw [cond_true, if_neg (by decide), s77 hG hs he hE1 hk1, Option.bind_some]
        dsimp only [zps]
        rw [t78_51 _ _ _ _ _ hG hs he, hm, h2]
        by_cases c1 : pComes (emD e M) (stD n s M1) k = stD n s M1 2
        · rw [if_neg (not_not_intro c1), s84 hG hs he hE1 hR2, Option.bind_some]
          dsimp only [zps]
          obtain ⟨M2, g1, g2, g3⟩ := s83 (X := X) (d := d + 2) (m := pThere (emD e M1) (stD n s M1)) hG hs he hap hE1 hk1
          rw [t78_66 _ _ _ _ _ _ _ _ hG hs he hs he, g1, Option.bind_some]
          dsimp only [zps]
          rw [t78_69 _ _ _ _ (zfr_G g2 hG) hs he, of_succ]
          refine ih (k + 1) M2 (by omega) (zfr_tr hf g2) ?_
          rw [g3, hm, pCm, ← hv, hF, decide_eq_true c1]
          rfl
        · rw [if_pos c1, of_succ]
          refine ih (k + 1) M1 (by omega) hf ?_
          rw [hv, pCm, ← hv, hF, decide_eq_false c1]
          rfl
  have rest : ∀ (A1 : zA) (P : Option zO) M1, okR (emD e M) (A1 3) → zfr s (s + 2) M M1 → stD n s M1 = A1 → P = (if M1.1 s 5 = -1 then some (none, zsI M1 s 2 (M1.1 s 2 + 1)) else zR X (d + 3) 78 (27, [.ref s, .ref e, .int 0], [], M1)) → ∃ M', P = some (none, M') ∧ zfr s (s + 2) M M' ∧ stD n s M' = zu (if A1 5 = -1 then A1 else pCm (emD e M) A1 (nN (emD e M))) 2 ((if A1 5 = -1 then A1 else pCm (emD e M) A1 (nN (emD e M))) 2 + 1) := by
    intro A1 P M1 hR1 hf hv hP
    have h5 : M1.1 s 5 = A1 5 := by rw [← hv, stD_f (by decide)]
    rw [hP, h5]
    by_cases c1 : A1 5 = -1
    · rw [if_pos c1, if_pos c1]
      exact tail _ M1 hf hv
    · rw [if_neg c1, if_neg c1]
      exact loop A1 hR1 (nN (emD e M)) 0 M1 (by omega) hf hv
  rw [t78_0 _ _ _ _ hG hs he, s79 hG hs, Option.bind_some]
  dsimp only [zps]
  rw [t78_4 _ _ _ _ _ hG hs he]
  unfold pGo
  dsimp only
  cases hB : pBS (stD n s M)
  · rw [cond_false, if_pos rfl, cond_false]
    exact rest _ _ M hR zfr_rf rfl rfl
  · rw [cond_true, if_neg (by decide), cond_true]
    obtain ⟨M1, g1, g2, g3⟩ := s81 (X := X) (d := d + 1) hG hs he hn hE hR hB
    have hm : emD e M1 = emD e M := zfr_em g2 hap
    have hE1 : okE (emD e M1) := by rw [hm]; exact hE
    obtain ⟨M2, k1, k2, k3⟩ := s82 (X := X) (d := d + 2) (zfr_G g2 hG) hs he hap hE1
    rw [g1, Option.bind_some]
    dsimp only [zps]
    rw [t78_12 _ _ _ _ (zfr_G g2 hG) hs he, k1, Option.bind_some]
    dsimp only [zps]
    rw [hm, g3] at k3
    refine rest _ _ M2 ?_ (zfr_tr g2 k2) k3 (t78_17 _ _ _ _ (zfr_G k2 (zfr_G g2 hG)) hs he)
    rw [pLv_k (by decide), pPay_k (Or.inr (Or.inl rfl))]
    exact hR
