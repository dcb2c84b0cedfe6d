/-! ===== empire: both calls answer alike, and it stands again ===== -/
theorem o_empire {X : (Nat → Int32) × Nat} {d : Nat} {M : zM} (hI : INV M) : zOp2 X (d + 40) 102 173 [] M := by
  obtain ⟨hG, hTp, rl, o1, o2, o3, o4, o5⟩ := id hI
  obtain ⟨t, hTD, hTR⟩ := iTp_t hTp
  have h35 := hTp.2
  obtain ⟨k1, k2⟩ := s102 (X := X) (d := d + 31) hG hTD
  cases hp : pEmp t 40 0 (kS t 0) (fun _ => 0) (fun _ _ => 0) with
  | inl f =>
    obtain ⟨f1, f2, M1, w1, w2, w3, w4⟩ := k1 f hp
    have hG1 : zGE M1 := zGE_of hG (by rw [w2])
    have hT1 : tqR t M1 := ⟨hTR.1, by rw [w3 460 (by omega)]; exact hTR.2.1, fun k hk => by rw [w3 485 (by omega)]; exact hTR.2.2 k hk⟩
    obtain ⟨M2, y1, y2, y3, y4, y5⟩ := (r173 (X := X) (D := d + 30) hG1 hT1).1 f hp f1 f2
    have hG2 : zGE M2 := zGE_of hG1 y2
    have cc : ∀ a, ¬ (1 ≤ a ∧ a < 34 ∧ a ≠ 2 ∧ a ≠ 6 ∧ a ≠ 7) → a ≠ 460 → ¬ (475 ≤ a ∧ a ≤ 484) → M2.1 a = M.1 a := fun a q1 q2 q3 => (y3 a q2 q3).trans (w3 a q1)
    have c460 : ∀ k, ¬ (26 ≤ k ∧ k ≤ 28) → ¬ (31 ≤ k ∧ k ≤ 33) → M2.1 460 k = M.1 460 k := fun k q1 q2 => by rw [y4 k q1 q2, w3 460 (by omega)]
    have h2 : M2.2.2 = M.2.2 := y2.trans (by rw [w2])
    have hag : agR M M2 := ⟨c460 25 (by omega) (by omega), c460 55 (by omega) (by omega), fun c hc j _ => by unfold car at hc; rw [cc c (by omega) (by omega) (by omega)]⟩
    refine ⟨_, M1, M2, w1, y1, hG2, ⟨⟨0, by omega, by rw [y3 1 (by omega) (by omega)]; exact w4, y5, fun k hk => absurd hk (Nat.not_lt_zero k)⟩, by rw [c460 35 (by omega) (by omega)]; exact h35⟩, rl, o1, rsD_c (fun c hc => cc c (by omega) (by omega) (by omega)) o1.1 o2, ⟨by rw [c460 30 (by omega) (by omega)]; exact o3.1, fun i hi => ruR_q (cc 488 (by omega) (by omega) (by omega)) (cc 489 (by omega) (by omega) (by omega)) (cc 490 (by omega) (by omega) (by omega)) (cc 491 (by omega) (by omega) (by omega)) (cc 486 (by omega) (by omega) (by omega)) (cc 487 (by omega) (by omega) (by omega)) (o3.2 i hi)⟩, iRl_c hG zq_39 (fun c q1 q2 => cc c (by omega) (by omega) (by omega)) h2 hag o4, fun k hk => ?_⟩
    obtain ⟨q1, q2⟩ := o5 k hk
    rw [cc 113 (by omega) (by omega) (by omega), cc 503 (by omega) (by omega) (by omega)]
    refine ⟨q1, q2.imp id (fun q => ⟨q.1, ?_⟩)⟩
    exact iRl_c hG (hrea k hk) (fun c u1 u2 => cc c (by omega) (by omega) (by omega)) h2 (ldR_ag hk (by rw [cc 504 (by omega) (by omega) (by omega)]) (fun j _ => by rw [cc 502 (by omega) (by omega) (by omega)])) q.2
  | inr z =>
    have hV0 : eV (fun _ => 0) (fun _ _ => 0) := ⟨fun s _ => Nat.zero_le _, fun s i r _ _ hr => absurd hr (Nat.not_lt_zero r), fun r hr => absurd hr (Nat.not_lt_zero r)⟩
    obtain ⟨v1, v0⟩ := pEmp_v 40 rfl hV0 (fun h => absurd h (Nat.lt_irrefl 0)) hp
    obtain ⟨e1, e2, e3, e4⟩ := zEp_ok v1 v0
    obtain ⟨M1, w1, w2, w3, w4, w5, w6, w7, w8, w9, w10, w11⟩ := k2 z hp
    have hG1 : zGE M1 := zGE_of hG w2
    have wo : ∀ a, 69 ≤ a → M1.1 a = M.1 a := fun a ha => w3 a (by omega) (by omega) (by omega)
    have hT1 : tqR t M1 := ⟨hTR.1, by rw [wo 460 (by omega)]; exact hTR.2.1, fun k hk => by rw [wo 485 (by omega)]; exact hTR.2.2 k hk⟩
    obtain ⟨M2, y1, y2, y3, y4, y5, y6, y7, y8, y9⟩ := (r173 (X := X) (D := d + 30) hG1 hT1).2 z hp
    obtain ⟨u1, u2, u3, u4⟩ := y2
    have hG2 : zGE M2 := zGE_of hG1 u1
    have cD : ∀ a, a < 460 → M2.1 a = M1.1 a := fun a ha => u2 a (by omega) (by omega) (by omega) (by omega)
    have cc : ∀ a, ¬ (1 ≤ a ∧ a < 34 ∧ a ≠ 2 ∧ a ≠ 6 ∧ a ≠ 7) → a ≠ 39 → ¬ (40 ≤ a ∧ a < 69) → a ≠ 460 → ¬ (461 ≤ a ∧ a ≤ 470) → ¬ (473 ≤ a ∧ a ≤ 484) → a ≠ 493 → M2.1 a = M.1 a := fun a q1 q2 q3 q4 q5 q6 q7 => (u2 a q4 q5 q6 q7).trans (w3 a q1 q2 q3)
    have c460 : ∀ k, k ≠ 25 → ¬ (26 ≤ k ∧ k ≤ 28) → ¬ (31 ≤ k ∧ k ≤ 33) → k ≠ 55 → M2.1 460 k = M.1 460 k := fun k q1 q2 q3 q4 => by rw [u3 k q1 q2 q3 q4, wo 460 (by omega)]
    have h2 : M2.2.2 = M.2.2 := u1.trans w2
    have em1 : emD 40 M2 = zEp z.1 z.2 := by
      rw [← w8]
      funext s j
      unfold emD
      rw [cD (40 + 1) (by omega), cD (40 + 12) (by omega), cD (40 + 13) (by omega), cD (40 + 14) (by omega)]
      by_cases g0 : s = 0
      · rw [if_pos g0, if_pos g0]
      · rw [if_neg g0, if_neg g0]
        by_cases g1 : s < 16
        · rw [if_pos g1, if_pos g1, cD (40 + 2 + s) (by omega)]
        · rw [if_neg g1, if_neg g1]
          by_cases g2 : s < 24
          · rw [if_pos g2, if_pos g2, cD (40 + 3 + s) (by omega)]
          · rw [if_neg g2, if_neg g2]
    refine ⟨_, M1, M2, w1, y1, hG2, ⟨⟨0, by omega, by rw [cD 1 (by omega)]; exact w4, y3, fun k hk => absurd hk (Nat.not_lt_zero k)⟩, by rw [c460 35 (by omega) (by omega) (by omega) (by omega)]; exact h35⟩, rl, o1, rsD_c (fun c hc => cc c (by omega) (by omega) (by omega) (by omega) (by omega) (by omega) (by omega)) o1.1 o2, ⟨by rw [c460 30 (by omega) (by omega) (by omega) (by omega)]; exact o3.1, fun i hi => ruR_q (cc 488 (by omega) (by omega) (by omega) (by omega) (by omega) (by omega) (by omega)) (cc 489 (by omega) (by omega) (by omega) (by omega) (by omega) (by omega) (by omega)) (cc 490 (by omega) (by omega) (by omega) (by omega) (by omega) (by omega) (by omega)) (cc 491 (by omega) (by omega) (by omega) (by omega) (by omega) (by omega) (by omega)) (cc 486 (by omega) (by omega) (by omega) (by omega) (by omega) (by omega) (by omega)) (cc 487 (by omega) (by omega) (by omega) (by omega) (by omega) (by omega) (by omega)) (o3.2 i hi)⟩, ?_, fun k hk => ?_⟩
    · obtain ⟨-, -, ⟨i, b1, b2, b3⟩, ⟨x, c1, c2, c3⟩, -, -, -⟩ := o4
      refine ⟨⟨em1.trans y7.symm, by rw [y7]; exact e1, y8, by rw [y7]; exact e2, ?_, fun _ => by rw [y7]; exact ⟨e3, e4⟩, fun h => absurd (by rw [y7, zEp_0 (by omega), v0]; rfl) h⟩, ⟨?_, ?_⟩, ⟨i, b1, by rw [cD 39 (by omega), w5 2 (by omega) (by omega)]; exact b2, by rw [u4 17 (by omega), wo 461 (by omega)]; exact b3⟩, ⟨x, c1, by rw [cD 39 (by omega), w5 3 (by omega) (by omega)]; exact c2, by rw [u4 16 (by omega), wo 461 (by omega)]; exact c3⟩, ?_, ⟨(0, fun _ => 0, fun _ => 0), ⟨Nat.zero_le _, fun k hk => absurd hk (Nat.not_lt_zero k)⟩, ⟨by rw [cD 39 (by omega)]; exact w7, fun k hk => absurd hk (Nat.not_lt_zero k)⟩, ⟨y5, fun k hk => absurd hk (Nat.not_lt_zero k)⟩⟩, ⟨0, Nat.zero_le _, by rw [cD 39 (by omega)]; exact w6, y4, fun j hj => absurd hj (Nat.not_lt_zero j)⟩⟩
      · unfold okRd
        rw [cD _ (by omega), cD _ (by omega), cD _ (by omega), cD _ (by omega)]
        exact w9
      · show stD (nD (emR M2)) 67 M2 = stR (nD (emR M2)) M2
        rw [y7, y9, stD_cells (cD 67 (by omega)) (cD 68 (by omega)), w10]
      · show okA (emR M2) (stR (nD (emR M2)) M2)
        rw [y7, y9]
        exact okA_b
      · show M2.1 44 0 = M2.1 461 1
        rw [cD 44 (by omega), w11, y6]
    · obtain ⟨q1, q2⟩ := o5 k hk
      rw [cc 113 (by omega) (by omega) (by omega) (by omega) (by omega) (by omega) (by omega), cc 503 (by omega) (by omega) (by omega) (by omega) (by omega) (by omega) (by omega)]
      refine ⟨q1, q2.imp id (fun q => ⟨q.1, ?_⟩)⟩
      exact iRl_c hG (hrea k hk) (fun c u1 u2 => cc c (by omega) (by omega) (by omega) (by omega) (by omega) (by omega) (by omega)) h2 (ldR_ag hk (by rw [cc 504 (by omega) (by omega) (by omega) (by omega) (by omega) (by omega) (by omega)]) (fun j _ => by rw [cc 502 (by omega) (by omega) (by omega) (by omega) (by omega) (by omega) (by omega)])) q.2
