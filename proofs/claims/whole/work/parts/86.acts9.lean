/-! ===== seed, force, log, count, end, feed ===== -/
/-- cells that small calls may change -/
def sml (M M' : zM) : Prop := M'.2 = M.2 ∧ (∀ c, (c ≠ 1 ∧ c ≠ 2 ∧ c ≠ 39 ∧ c ≠ 70 ∧ c ≠ 71) → (c ≠ 460 ∧ c ≠ 461 ∧ c ≠ 471 ∧ c ≠ 472 ∧ c ≠ 485) → M'.1 c = M.1 c) ∧ (∀ k, k ≠ 2 → k ≠ 3 → k ≠ 8 → M'.1 39 k = M.1 39 k) ∧ (∀ k, k ≠ 26 → M'.1 460 k = M.1 460 k) ∧ ∀ k, ¬ (15 ≤ k ∧ k ≤ 17) → M'.1 461 k = M.1 461 k
theorem INV_S {M M' : zM} (hI : INV M) (h : sml M M') (ht : iTp M') (hi : ∀ n, n ≤ 6 → M.1 0 4 = Int32.ofNat n → (∃ i, i ≤ n ∧ M.1 39 2 = rv i ∧ M.1 461 17 = rv i) → ∃ i, i ≤ n ∧ M'.1 39 2 = rv i ∧ M'.1 461 17 = rv i) (hx : ∃ x, x < 2147483648 ∧ M'.1 39 3 = Int32.ofNat x ∧ M'.1 461 16 = Int32.ofNat x) (hg : (∃ g, okL g ∧ lgDr 39 M g ∧ lgR M g) → ∃ g, okL g ∧ lgDr 39 M' g ∧ lgR M' g) : INV M' := by
  obtain ⟨hG, hT, rl, h1, h2, h3, ⟨⟨a1, a2, a3, a4, a5, a6, a7⟩, ⟨b1, b2⟩, e, -, j1, hgg, ⟨p, p1, p2, p3, p4⟩⟩, h5⟩ := hI
  obtain ⟨s1, s2, s3, s4, s5⟩ := h
  have c : ∀ c, (c ≠ 1 ∧ c ≠ 2 ∧ c ≠ 39 ∧ c ≠ 70 ∧ c ≠ 71) → (c ≠ 460 ∧ c ≠ 461 ∧ c ≠ 471 ∧ c ≠ 472 ∧ c ≠ 485) → M'.1 c = M.1 c := s2
  have s22 : M'.2.2 = M.2.2 := by rw [s1]
  have em : emR M' = emR M := by
    have hrc : ∀ r, r < 16 → rcn r = 0 ∨ (463 ≤ rcn r ∧ rcn r ≤ 493 ∧ rcn r ≠ 471 ∧ rcn r ≠ 472 ∧ rcn r ≠ 485) := by decide
    have hct : ∀ r, rct M' r = rct M r := fun r => by unfold rct; rw [s4 25 (by omega), s5 2 (by omega), s5 3 (by omega), s5 4 (by omega)]
    funext r j
    unfold emR
    rw [hct, s4 25 (by omega), s5 1 (by omega), s5 2 (by omega), s5 3 (by omega), s5 4 (by omega), s5 5 (by omega), c 470 (by omega) (by omega), c 493 (by omega) (by omega)]
    by_cases q : r < 16
    · rw [c (rcn r) (by have := hrc r q; omega) (by have := hrc r q; omega)]
    · rw [if_neg q, if_neg q]
  have sst : ∀ n, stR n M' = stR n M := fun n => by
    have hp : ∀ k, k < 10 → ¬ (15 ≤ prm k ∧ prm k ≤ 17) := by decide
    funext k
    unfold stR
    by_cases q : k < 10
    · rw [if_pos q, if_pos q, s5 _ (hp k q)]
    · rw [if_neg q, if_neg q, c 462 (by omega) (by omega)]
  have ea : aR M' = aR M := by
    show stR (nD (emR M')) M' = _
    rw [em, sst]
  have emd : emD 40 M' = emD 40 M := by
    funext s j
    unfold emD
    rw [c (40 + 1) (by omega) (by omega), c (40 + 12) (by omega) (by omega), c (40 + 13) (by omega) (by omega), c (40 + 14) (by omega) (by omega)]
    by_cases q0 : s = 0
    · rw [if_pos q0, if_pos q0]
    · rw [if_neg q0, if_neg q0]
      by_cases q1 : s < 16
      · rw [if_pos q1, if_pos q1, c (40 + 2 + s) (by omega) (by omega)]
      · rw [if_neg q1, if_neg q1]
        by_cases q2 : s < 24
        · rw [if_pos q2, if_pos q2, c (40 + 3 + s) (by omega) (by omega)]
        · rw [if_neg q2, if_neg q2]
  have stm : ∀ n s, 67 ≤ s → s ≠ 69 → s ≠ 70 → s ≠ 71 → s + 1 < 460 → stD n s M' = stD n s M := fun n s q1 q2 q3 q4 hs => stD_cells (c s (by omega) (by omega)) (c (s + 1) (by omega) (by omega))
  refine ⟨zGE_of hG s22, ht, rl, h1, rsD_c (fun a ha => c a (by omega) (by omega)) h1.1 h2, ⟨by rw [s4 30 (by omega)]; exact h3.1, fun i hi => ruR_q (c 488 (by omega) (by omega)) (c 489 (by omega) (by omega)) (c 490 (by omega) (by omega)) (c 491 (by omega) (by omega)) (c 486 (by omega) (by omega)) (c 487 (by omega) (by omega)) (h3.2 i hi)⟩, ?_, fun k hk => ?_⟩
  · refine ⟨⟨by rw [em]; exact emd.trans a1, by rw [em]; exact a2, fun a ha => by rw [c 470 (by omega) (by omega)]; exact a3 a ha, by rw [em]; exact a4, ?_, by rw [em]; exact a6, by rw [em]; exact a7⟩, ⟨?_, by rw [em, ea]; exact b2⟩, hi rl.1 h1.1 h2.1 e, hx, by rw [c (39 + 5) (by omega) (by omega), s5 1 (by omega)]; exact j1, hg hgg, ⟨p, p1, by rw [s3 5 (by omega) (by omega) (by omega)]; exact p2, by rw [s4 55 (by omega)]; exact p3, fun j hj => ?_⟩⟩
    · unfold okRd
      rw [c (39 + 1 + 1) (by omega) (by omega), c (39 + 1 + 12) (by omega) (by omega), c (39 + 1 + 13) (by omega) (by omega), c (39 + 1 + 14) (by omega) (by omega)]
      exact a5
    · rw [em, ea]
      exact (stm _ 67 (by omega) (by omega) (by omega) (by omega) (by omega)).trans b1
    · obtain ⟨u1, u2⟩ := p4 j hj
      obtain ⟨jj, v1, v2⟩ := past_c hG (i := j) (by omega)
      have hpp : pastR (nD (emR M)) M' j = pastR (nD (emR M)) M j := by
        unfold pastR
        rw [c 497 (by omega) (by omega)]
      rw [em, hpp]
      refine ⟨?_, u2⟩
      rw [← u1, s22]
      show stD _ (M.2.2.1 69 j) M' = stD _ (M.2.2.1 69 j) M
      rw [v2]
      exact stm _ _ (by omega) (by omega) (by omega) (by omega) (by omega)
  · obtain ⟨q1, q2⟩ := h5 k hk
    rw [c 113 (by omega) (by omega), c 503 (by omega) (by omega)]
    refine ⟨q1, q2.imp id (fun q => ⟨q.1, ?_⟩)⟩
    exact iRl_c2 hG (hrea k hk) (fun a u1 u2 => c a (by omega) (by omega)) (by rw [s22]) (ldR_ag hk (by rw [c 504 (by omega) (by omega)]) (fun j hj => by rw [c 502 (by omega) (by omega)])) q.2
theorem INV_x {M : zM} (h : INV M) : ∃ x, x < 2147483648 ∧ M.1 39 3 = Int32.ofNat x ∧ M.1 461 16 = Int32.ofNat x := by
  obtain ⟨hG, hT, rl, h1, h2, h3, ⟨-, -, -, x, -⟩, -⟩ := h
  exact x
theorem iTp_c {M M' : zM} (h : iTp M) (h1 : M'.1 1 1 = M.1 1 1) (h2 : M'.1 2 = M.1 2) (h3 : M'.1 460 = M.1 460) (h4 : M'.1 485 = M.1 485) : iTp M' := by
  unfold iTp
  rw [h1, h2, h3, h4]
  exact h
theorem o_seed {X : (Nat → Int32) × Nat} {d : Nat} {x : Int32} {M : zM} (hI : INV M) : zOp2 X (d + 10) 128 234 [.int x] M := by
  have hG := hI.1
  obtain ⟨y, y1, y2, y3⟩ := INV_x hI
  by_cases c0 : 0 ≤ x
  · have ex : x = Int32.ofNat x.toNatClampNeg := (of_range (a := 0) (b := 2147483647) (by omega) (by omega) (fun h => by
      rw [Int32.lt_iff_toInt_lt, Int32.lt_iff_toInt_lt] at h
      rw [Int32.le_iff_toInt_le] at c0
      have := Int32.toInt_lt x
      rw [show (Int32.ofNat 0).toInt = 0 from rfl, Int32.toInt_ofNat_of_lt (by omega)] at h
      rw [show (0 : Int32).toInt = 0 from rfl] at c0
      omega)).1
    have hx2 : x.toNatClampNeg < 2147483648 := by have := Int32.toInt_lt x; unfold Int32.toNatClampNeg; omega
    refine ⟨Int32.ofNat y, zsI M 39 3 x, zsI (zsI M 39 3 x) 461 16 x, ?_, ?_, INV_S hI ⟨rfl, fun c q1 q2 => by rw [zI_n1 (by omega), zI_n1 (by omega)], fun k q1 q2 q3 => by rw [zI_n (by decide), zI_s, if_neg q2], fun k q1 => by rw [zI_n (by decide), zI_n (by decide)], fun k q1 => by rw [zI_s, if_neg (by omega), zI_n (by decide)]⟩ (iTp_c hI.2.1 (by rw [zI_n1 (by decide), zI_n1 (by decide)]) (by rw [zI_n1 (by decide), zI_n1 (by decide)]) (by rw [zI_n1 (by decide), zI_n1 (by decide)]) (by rw [zI_n1 (by decide), zI_n1 (by decide)])) (fun n hn6 hn h => ?_) ⟨x.toNatClampNeg, hx2, ?_, ?_⟩ (fun h => ?_)⟩
    · show zR X (d + 10) 128 (0, [.ref 0, .int x, zjk], [], M) = _
      rw [t128_0 _ _ _ hG, if_pos c0, y2]
    · show zR X (d + 10) 234 (0, [.ref 460, .int x, zjk], [], zsI M 39 3 x) = _
      rw [t234_0 _ _ _ (show zGE (zsI M 39 3 x) from hG), if_pos c0, zI_n (by decide), y3]
    · rw [zI_n (by decide), zI_s, if_neg (by decide), zI_s, if_neg (by decide), zI_n (by decide)]
      exact h
    · rw [zI_n (by decide), zI_s, if_pos rfl]; exact ex
    · rw [zI_s, if_pos rfl]; exact ex
    · unfold lgDr lgR at h ⊢
      rw [zI_n (by decide), zI_s, if_neg (by decide), zI_n1 (by decide), zI_n1 (by decide), zI_n1 (by decide), zI_n1 (by decide), zI_s, if_neg (by decide), zI_n (by decide), zI_n1 (by decide), zI_n1 (by decide), zI_n1 (by decide), zI_n1 (by decide)]
      exact h
  · refine ⟨-1, M, M, ?_, ?_, hI⟩
    · show zR X (d + 10) 128 (0, [.ref 0, .int x, zjk], [], M) = _
      rw [t128_0 _ _ _ hG, if_neg c0]
    · show zR X (d + 10) 234 (0, [.ref 460, .int x, zjk], [], M) = _
      rw [t234_0 _ _ _ hG, if_neg c0]
theorem o_force {X : (Nat → Int32) × Nat} {d : Nat} {x : Int32} {M : zM} (hI : INV M) : zOp2 X (d + 10) 104 176 [.int x] M := by
  have hG := hI.1
  obtain ⟨rl, g, i, y, hc⟩ := INV_cx hI
  obtain ⟨q1, q2, q3, q4, q5, q6, q7, q8, q9, q10, q11, q12, q13, q14, q15, q16, q17, q18, q19, q20, q21⟩ := id hc
  have n6 : rl.1 ≤ 6 := q3.1
  have n0 : M.1 0 4 = Int32.ofNat rl.1 := q4.1
  have n30 : M.1 460 30 = Int32.ofNat rl.1 := q5.1
  have hR : ∀ N : zM, zGE N → N.1 460 30 = Int32.ofNat rl.1 → zR X (d + 10) 176 (0, [.ref 460, .int x, zjk], [], N) = if x < -1 ∨ ¬ x < Int32.ofNat rl.1 then some (some (.int (-2)), N) else some (some (.int (N.1 461 17)), zsI N 461 17 x) := fun N hN h30 => by
    rw [t176_0 _ _ _ hN, h30, r135i (y := -1) (z := (Int32.ofNat rl.1 - 1).toInt64) (a := -1) (b := Int32.ofNat rl.1 - 1) hN rfl rfl, Option.bind_some]
    dsimp only [zps]
    rw [t176_15 _ _ _ _ hN]
    have hb : (x < -1 ∨ Int32.ofNat rl.1 - 1 < x) ↔ (x < -1 ∨ ¬ x < Int32.ofNat rl.1) := by
      have e : (Int32.ofNat rl.1 - 1).toInt = (rl.1 : Int) - 1 := by
        rcases Nat.eq_zero_or_pos rl.1 with h0 | h0
        · rw [h0]; rfl
        · rw [of_pred h0, Int32.toInt_ofNat_of_lt (by omega)]; omega
      rw [Int32.lt_iff_toInt_lt, Int32.lt_iff_toInt_lt, Int32.lt_iff_toInt_lt, e, Int32.toInt_ofNat_of_lt (by omega), show (-1 : Int32).toInt = -1 from rfl]
      omega
    by_cases c : x < -1 ∨ ¬ x < Int32.ofNat rl.1
    · rw [if_pos c, if_pos (hb.2 c), if_neg (by decide)]
    · rw [if_neg c, if_neg (fun h => c (hb.1 h)), if_pos (by decide)]
  by_cases c : x < -1 ∨ ¬ x < Int32.ofNat rl.1
  · refine ⟨-2, M, M, ?_, ?_, hI⟩
    · show zR X (d + 10) 104 (0, [.ref 0, .int x, zjk], [], M) = _
      rw [t104_0 _ _ _ hG, n0]
      by_cases c1 : x < -1
      · rw [if_pos c1]
      · rw [if_neg c1, if_neg (by rcases c with h | h; exact absurd h c1; exact h)]
    · show zR X (d + 10) 176 (0, [.ref 460, .int x, zjk], [], M) = _
      rw [hR M hG n30, if_pos c]
  · refine ⟨rv i, zsI M 39 2 x, zsI (zsI M 39 2 x) 461 17 x, ?_, ?_, INV_S hI ⟨rfl, fun c q1 q2 => by rw [zI_n1 (by omega), zI_n1 (by omega)], fun k q1 q2 q3 => by rw [zI_n (by decide), zI_s, if_neg q1], fun k q1 => by rw [zI_n (by decide), zI_n (by decide)], fun k q1 => by rw [zI_s, if_neg (by omega), zI_n (by decide)]⟩ (iTp_c hI.2.1 (by rw [zI_n1 (by decide), zI_n1 (by decide)]) (by rw [zI_n1 (by decide), zI_n1 (by decide)]) (by rw [zI_n1 (by decide), zI_n1 (by decide)]) (by rw [zI_n1 (by decide), zI_n1 (by decide)])) (fun n hn6 hn h => ?_) ⟨y, q16, ?_, ?_⟩ (fun h => ?_)⟩
    · show zR X (d + 10) 104 (0, [.ref 0, .int x, zjk], [], M) = _
      rw [t104_0 _ _ _ hG, n0, if_neg (fun h => c (Or.inl h)), if_pos (Decidable.byContradiction fun h => c (Or.inr h)), q14]
    · show zR X (d + 10) 176 (0, [.ref 460, .int x, zjk], [], zsI M 39 2 x) = _
      rw [hR _ (show zGE (zsI M 39 2 x) from hG) (by rw [zI_n1 (by decide)]; exact n30), if_neg c, zI_n (by decide), q15]
    · rw [zI_n (by decide), zI_s, if_pos rfl, zI_s, if_pos rfl]
      rw [not_or, Int32.lt_iff_toInt_lt, Int32.lt_iff_toInt_lt, Int32.toInt_ofNat_of_lt (by omega), show (-1 : Int32).toInt = -1 from rfl] at c
      have en : n = rl.1 := (of_inj (by omega) (by omega)).1 (hn.symm.trans n0)
      have ex : x = rv (x.toInt + 1).toNat := by
        apply Int32.toInt_inj.1
        rcases Nat.eq_zero_or_pos (x.toInt + 1).toNat with h0 | h0
        · rw [h0, rv_0, show (-1 : Int32).toInt = -1 from rfl]; omega
        · rw [rv_p h0, Int32.toInt_ofNat_of_lt (by omega)]; omega
      exact ⟨(x.toInt + 1).toNat, by omega, ex, ex⟩
    · rw [zI_n (by decide), zI_s, if_neg (by decide)]; exact q17
    · rw [zI_s, if_neg (by decide), zI_n (by decide)]; exact q18
    · unfold lgDr lgR at h ⊢
      rw [zI_n (by decide), zI_s, if_neg (by decide), zI_n1 (by decide), zI_n1 (by decide), zI_n1 (by decide), zI_n1 (by decide), zI_s, if_neg (by decide), zI_n (by decide), zI_n1 (by decide), zI_n1 (by decide), zI_n1 (by decide), zI_n1 (by decide)]
      exact h
