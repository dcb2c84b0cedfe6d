/-! ===== empire: both calls ===== -/
theorem r171g {X : (Nat → Int32) × Nat} {d n : Nat} {E : zE} {M : zM} (hG : zGE M) (hn : n ≤ 4) (h0 : E 1 0 = M.1 474 0) (hp : ∀ j, j < n → E 13 j = M.1 473 j) : ∃ M', zC X (d + 1) 171 [.ref 460] M = some (none, M') ∧ zfs M M' ∧ stR n M' = pBegin n E := by
  show ∃ M', zR X (d + 1) 171 (0, [.ref 460], [], M) = some (none, M') ∧ _
  obtain ⟨M1, g1, g2, g3, g4⟩ := r167 (X := X) (d := d) (n := 4) hG zq_473 zq_462 (by decide) zl_473 (by rw [zl_462]; omega) (by decide)
  have hf : zfs M M1 := ⟨⟨congrArg Prod.snd g2, fun a ha => ⟨g3 a (by omega), congrFun (congrArg Prod.fst g2) a⟩⟩, fun k _ => by rw [g3 461 (by decide)]⟩
  rw [t171_0 _ hG, g1, Option.bind_some]
  dsimp only [zps]
  rw [t171_11 _ (zfs_G hf hG)]
  refine ⟨_, rfl, ?_, ?_⟩
  · exact zfs_I (i := 9) (zfs_I (i := 8) (zfs_I (i := 7) (zfs_I (i := 1) (zfs_I (i := 4) (zfs_I (i := 6) (zfs_I (i := 5) (zfs_I (i := 3) (zfs_I (i := 2) (zfs_I (i := 0) hf (by decide)) (by decide)) (by decide)) (by decide)) (by decide)) (by decide)) (by decide)) (by decide)) (by decide)) (by decide)
  · funext j
    unfold stR pBegin
    by_cases h : j < 10
    · rw [if_pos h]
      simp only [zI_s, h0, g3 474 (by decide)]
      rcases (show j = 0 ∨ j = 1 ∨ j = 2 ∨ j = 3 ∨ j = 4 ∨ j = 5 ∨ j = 6 ∨ j = 7 ∨ j = 8 ∨ j = 9 by omega) with rfl | rfl | rfl | rfl | rfl | rfl | rfl | rfl | rfl | rfl <;> rfl
    · rw [if_neg h, if_neg (show ¬ j = 0 by omega), if_neg (show ¬ j = 1 by omega), if_neg (show ¬ (j = 3 ∨ j = 5) by omega), if_neg h]
      by_cases h2 : j < 10 + n
      · rw [if_pos h2, if_pos h2, hp _ (by omega)]
        have e : ∀ (M' : zM) (k : Nat) (x : Int32), (zsI M' 461 k x).1 462 = M'.1 462 := fun M' k x => zI_n1 (by decide)
        simp only [e]
        rw [g4, if_pos (by omega)]
      · rw [if_neg h2, if_neg h2]
/-- a row copied, as a frame -/
def cpF (b n a : Nat) (M M' : zM) : Prop := M'.2 = M.2 ∧ (∀ c, c ≠ b → M'.1 c = M.1 c) ∧ ∀ j, j < n → M'.1 b j = M.1 a j
theorem r167f {X : (Nat → Int32) × Nat} {d a b n : Nat} {M : zM} (hG : zGE M) (ha : zqk a 20 = true) (hb : zqk b 20 = true) (hab : ¬ a = b) (hna : zln a = n) (hnb : n ≤ zln b) (hn : n ≤ 3000) : ∃ M', zC X d 167 [.ref a, .ref b] M = some (none, M') ∧ cpF b n a M M' := by
  obtain ⟨M', h1, h2, h3, h4⟩ := r167 (X := X) (d := d) hG ha hb hab hna hnb hn
  exact ⟨M', h1, h2, h3, fun j hj => by rw [h4, if_pos hj]⟩
def wF (M M' : zM) : Prop := M'.2.2 = M.2.2 ∧ (∀ a, a ≠ 460 → ¬ (461 ≤ a ∧ a ≤ 470) → ¬ (473 ≤ a ∧ a ≤ 484) → a ≠ 493 → M'.1 a = M.1 a) ∧ (∀ k, k ≠ 25 → ¬ (26 ≤ k ∧ k ≤ 28) → ¬ (31 ≤ k ∧ k ≤ 33) → k ≠ 55 → M'.1 460 k = M.1 460 k) ∧ ∀ k, 16 ≤ k → M'.1 461 k = M.1 461 k
theorem r173 {X : (Nat → Int32) × Nat} {D : Nat} {t : zTx} {M : zM} (hG : zGE M) (hT : tqR t M) :
    (∀ f, pEmp t 40 0 (kS t 0) (fun _ => 0) (fun _ _ => 0) = .inl f → 0 < f → f < 4000 → ∃ M', zC X (D + 10) 173 [.ref 460] M = some (some (.int (-2 - Int32.ofNat f)), M') ∧ M'.2.2 = M.2.2 ∧ (∀ a, a ≠ 460 → ¬ (475 ≤ a ∧ a ≤ 484) → M'.1 a = M.1 a) ∧ (∀ k, ¬ (26 ≤ k ∧ k ≤ 28) → ¬ (31 ≤ k ∧ k ≤ 33) → M'.1 460 k = M.1 460 k) ∧ M'.1 460 26 = 0) ∧
    (∀ z, pEmp t 40 0 (kS t 0) (fun _ => 0) (fun _ _ => 0) = .inr z → ∃ M', zC X (D + 10) 173 [.ref 460] M = some (some (.int (Int32.ofNat (z.1 1))), M') ∧ wF M M' ∧ M'.1 460 26 = 0 ∧ M'.1 460 55 = 0 ∧ M'.1 461 15 = 0 ∧ M'.1 461 1 = Int32.ofNat (z.2 1 0) ∧ emR M' = zEp z.1 z.2 ∧ okW M' ∧ stR (nD (zEp z.1 z.2)) M' = pBegin (nD (zEp z.1 z.2)) (zEp z.1 z.2)) := by
  have hV0 : eV (fun _ => 0) (fun _ _ => 0) := ⟨fun s _ => Nat.zero_le _, fun s i r _ _ hr => absurd hr (Nat.not_lt_zero r), fun r hr => absurd hr (Nat.not_lt_zero r)⟩
  let K0 : zM := zsI (zsI (zsI (zsI (zsI M 460 27 0) 460 28 0) 460 31 0) 460 32 0) 460 33 0
  have hGK0 : zGE K0 := hG
  have k0O : ∀ a, a ≠ 460 → K0.1 a = M.1 a := fun a ha => by
    show (zsI _ 460 33 0).1 a = _
    rw [zI_n1 ha, zI_n1 ha, zI_n1 ha, zI_n1 ha, zI_n1 ha]
  have k0k : ∀ k, k ≠ 27 → k ≠ 28 → ¬ (31 ≤ k ∧ k ≤ 33) → K0.1 460 k = M.1 460 k := fun k q1 q2 q3 => by
    show (zsI _ 460 33 0).1 460 k = _
    rw [zI_s, if_neg (by omega), zI_s, if_neg (by omega), zI_s, if_neg (by omega), zI_s, if_neg q2, zI_s, if_neg q1]
  have k027 : K0.1 460 27 = Int32.ofNat 0 := by
    show (zsI _ 460 33 0).1 460 27 = _
    rw [zI_s, if_neg (by omega), zI_s, if_neg (by omega), zI_s, if_neg (by omega), zI_s, if_neg (by omega), zI_s, if_pos rfl]
    rfl
  have k028 : K0.1 460 28 = 0 := by
    show (zsI _ 460 33 0).1 460 28 = _
    rw [zI_s, if_neg (by omega), zI_s, if_neg (by omega), zI_s, if_neg (by omega), zI_s, if_pos rfl]
  have h169 : zC X (D + 8) 169 [.ref 460] M = some (none, K0) := by
    show zR X (D + 8) 169 (0, [.ref 460], [], M) = _
    rw [t169_0 _ hG]
  -- rows made ready
  have l6 : ∀ m i M1, i + m = 6 → nF K0 M1 → (∀ k, k < i → M1.1 475 k = 0) → ∃ M2, zR X (D + 9) 170 (6, [.ref 460, .int (Int32.ofNat i), zjk], [], M1) = zR X (D + 9) 170 (27, [.ref 460, .int (Int32.ofNat 0), zjk], [], M2) ∧ nF K0 M2 ∧ M2.1 460 = M1.1 460 ∧ ∀ k, k < 6 → M2.1 475 k = 0 := by
    intro m
    induction m with
    | zero =>
      intro i M1 hi hF hz
      have e6 : i = 6 := by omega
      subst e6
      have hG1 : zGE M1 := zGE_of hGK0 (by rw [hF.1])
      rw [t170_6 _ _ _ hG1 (fun h => absurd (by decide) h), if_pos (by decide)]
      exact ⟨M1, rfl, hF, rfl, hz⟩
    | succ m ih =>
      intro i M1 hi hF hz
      have hG1 : zGE M1 := zGE_of hGK0 (by rw [hF.1])
      have hle : ¬ (6 : Int32) ≤ Int32.ofNat i := by rw [show (6 : Int32) = Int32.ofNat 6 from rfl, of_le (by omega) (by omega)]; omega
      rw [t170_6 _ _ _ hG1 (fun _ => vp_of (by omega) (by omega)), if_neg hle, of_succ, toNat_of (by omega)]
      obtain ⟨M2, y1, y2, y3, y4⟩ := ih (i + 1) (zsI M1 475 i 0) (by omega) (nF_t hF (nF_I (by omega))) (fun k hk => by
        rw [zI_s]
        by_cases e : k = i
        · rw [if_pos e]
        · rw [if_neg e]; exact hz k (by omega))
      exact ⟨M2, y1, y2, by rw [y3, zI_n1 (by omega)], y4⟩
  have l64 : ∀ m i M1, i + m = 64 → nF K0 M1 → (∀ k, k < 6 → M1.1 475 k = 0) → (∀ k, k < i → M1.1 484 k = Int32.ofNat 100000) → ∃ M2, zR X (D + 9) 170 (27, [.ref 460, .int (Int32.ofNat i), zjk], [], M1) = zR X (D + 9) 170 (52, [.ref 460, .int (Int32.ofNat 0), .int 1], [], M2) ∧ nF K0 M2 ∧ M2.1 460 = M1.1 460 ∧ (∀ k, k < 6 → M2.1 475 k = 0) ∧ ∀ k, k < 64 → M2.1 484 k = Int32.ofNat 100000 := by
    intro m
    induction m with
    | zero =>
      intro i M1 hi hF hz h64
      have e6 : i = 64 := by omega
      subst e6
      have hG1 : zGE M1 := zGE_of hGK0 (by rw [hF.1])
      rw [t170_27 _ _ _ hG1 (fun h => absurd (by decide) h), if_pos (by decide)]
      exact ⟨M1, rfl, hF, rfl, hz, h64⟩
    | succ m ih =>
      intro i M1 hi hF hz h64
      have hG1 : zGE M1 := zGE_of hGK0 (by rw [hF.1])
      have hle : ¬ (64 : Int32) ≤ Int32.ofNat i := by rw [show (64 : Int32) = Int32.ofNat 64 from rfl, of_le (by omega) (by omega)]; omega
      rw [t170_27 _ _ _ hG1 (fun _ => vp_of (by omega) (by omega)), if_neg hle, of_succ, toNat_of (by omega)]
      obtain ⟨M2, y1, y2, y3, y4, y5⟩ := ih (i + 1) (zsI M1 484 i (Int32.ofNat 100000)) (by omega) (nF_t hF (nF_I (by omega))) (fun k hk => by rw [zI_n (by omega)]; exact hz k hk) (fun k hk => by
        rw [zI_s]
        by_cases e : k = i
        · rw [if_pos e]
        · rw [if_neg e]; exact h64 k (by omega))
      exact ⟨M2, y1, y2, by rw [y3, zI_n1 (by omega)], y4, y5⟩
  obtain ⟨K1, a1, a2, a3, a4⟩ := l6 6 0 K0 rfl (nF_p pF_r) (fun k hk => absurd hk (Nat.not_lt_zero k))
  obtain ⟨K, b1, b2, b3, b4, b5⟩ := l64 64 0 K1 rfl a2 a4 (fun k hk => absurd hk (Nat.not_lt_zero k))
  have hKk : ∀ k, K.1 460 k = K0.1 460 k := fun k => by rw [b3, a3]
  have hGK : zGE K := zGE_of hGK0 (by rw [b2.1])
  have hQ : gQ t 0 K := ⟨⟨hGK, hT.1, by rw [hKk, k0k 26 (by omega) (by omega) (by omega)]; exact hT.2.1, fun k hk => by rw [b2.2.1 485 (by omega) (by omega), k0O 485 (by omega)]; exact hT.2.2 k hk⟩, Nat.zero_le _, by rw [hKk]; exact k027, by rw [hKk]; exact k028⟩
  have hE0 : rE (fun _ => 0) (fun _ _ => 0) K := by
    have ciL : ∀ s, s < 5 → ciR s < 6 := by decide
    exact ⟨fun s _ q2 => b4 _ (ciL s q2), fun h => absurd h (Nat.lt_irrefl 0), fun s i r _ _ hr => absurd hr (Nat.not_lt_zero r), fun a b ha hb => b5 _ (by omega)⟩
  have hv := r170l (X := X) (D := D + 1) 40 (n := 0) (p := kS t 0) rfl hQ rfl hE0 hV0 (fun _ => rfl)
  have hu : zC X (D + 10) 173 [.ref 460] M = (zR X (D + 9) 170 (52, [.ref 460, .int (Int32.ofNat 0), .int 1], [], K)).bind fun o => zR X (D + 10) 173 (4, [.ref 460, zjk], zps o.1 [], o.2) := by
    show zR X (D + 10) 173 (0, [.ref 460, zjk], [], M) = _
    rw [t173_0 _ _ hG]
    have : zC X (D + 9) 170 [.ref 460] M = zR X (D + 9) 170 (52, [.ref 460, .int (Int32.ofNat 0), .int 1], [], K) := by
      show zR X (D + 9) 170 (0, [.ref 460, zjk, zjk], [], M) = _
      rw [t170_0 _ _ _ hG, h169, Option.bind_some]
      dsimp only [zps]
      rw [t170_4 _ _ _ hGK0]
      exact a1.trans b1
    rw [this]
  have nO : ∀ {M2 : zM}, nF K M2 → ∀ a, a ≠ 460 → ¬ (475 ≤ a ∧ a ≤ 484) → M2.1 a = M.1 a := fun h a q1 q2 => by rw [h.2.1 a q1 q2, b2.2.1 a q1 q2, k0O a q1]
  have nk : ∀ {M2 : zM}, nF K M2 → ∀ k, k ≠ 27 → k ≠ 28 → ¬ (31 ≤ k ∧ k ≤ 33) → M2.1 460 k = M.1 460 k := fun h k q1 q2 q3 => by rw [h.2.2 k q1 q2, hKk, k0k k q1 q2 q3]
  have n2 : ∀ {M2 : zM}, nF K M2 → M2.2.2 = M.2.2 := fun h => by rw [h.1, b2.1]; rfl
  refine ⟨fun f hf f1 f2 => ?_, fun z hz => ?_⟩
  · rw [hf] at hv
    obtain ⟨M2, y1, y2, y3⟩ := hv
    have hG2 : zGE (zsI M2 460 26 0) := (zGE_of hGK (by rw [y2.1]) : zGE M2)
    have h28 : (zsI M2 460 26 0).1 460 28 = Int32.ofNat f := by rw [zI_s, if_neg (by omega)]; exact y3
    refine ⟨zsI M2 460 26 0, ?_, by rw [z2_I]; exact n2 y2, fun a q1 q2 => by rw [zI_n1 q1]; exact nO y2 a q1 q2, fun k q1 q2 => by rw [zI_s, if_neg (by omega)]; exact nk y2 k (by omega) (by omega) q2, by rw [zI_s, if_pos rfl]⟩
    rw [hu, y1, Option.bind_some]
    dsimp only [zps]
    rw [t173_4 _ _ hG2, h28, if_neg (show ¬ Int32.ofNat f ≤ 0 by rw [show (0 : Int32) = Int32.ofNat 0 from rfl, of_le (by omega) (by omega)]; omega)]
  · rw [hz] at hv
    obtain ⟨M2, y1, y2, y3, y4⟩ := hv
    obtain ⟨v1, v0⟩ := pEmp_v 40 rfl hV0 (fun h => absurd h (Nat.lt_irrefl 0)) hz
    obtain ⟨c0, c1, c2, c3, c4⟩ := eV_c v1
    obtain ⟨n1', n2', n4'⟩ := zEp_n v1
    let P : zM := zsI M2 460 26 0
    have hGP : zGE P := (zGE_of hGK (by rw [y2.1]) : zGE M2)
    have pO : ∀ a, a ≠ 460 → P.1 a = M2.1 a := fun a ha => zI_n1 ha
    -- the scalars
    have l5 : ∀ m i M1, i + m = 6 → M1.2 = P.2 → (∀ a, a ≠ 461 → M1.1 a = P.1 a) → (∀ k, k < i → M1.1 461 k = P.1 475 k) → (∀ k, 6 ≤ k → M1.1 461 k = P.1 461 k) → ∃ M3, zR X (D + 10) 173 (21, [.ref 460, .int (Int32.ofNat i)], [], M1) = zR X (D + 10) 173 (21, [.ref 460, .int (Int32.ofNat 6)], [], M3) ∧ M3.2 = P.2 ∧ (∀ a, a ≠ 461 → M3.1 a = P.1 a) ∧ (∀ k, k < 6 → M3.1 461 k = P.1 475 k) ∧ ∀ k, 6 ≤ k → M3.1 461 k = P.1 461 k := by
      intro m
      induction m with
      | zero =>
        intro i M1 hi h1 h2 h3 h4
        have e6 : i = 6 := by omega
        subst e6
        exact ⟨M1, rfl, h1, h2, h3, h4⟩
      | succ m ih =>
        intro i M1 hi h1 h2 h3 h4
        have hG1 : zGE M1 := zGE_of hGP (by rw [h1])
        have hle : ¬ (6 : Int32) ≤ Int32.ofNat i := by rw [show (6 : Int32) = Int32.ofNat 6 from rfl, of_le (by omega) (by omega)]; omega
        rw [t173_21 _ _ hG1 (fun _ => vp_of (by omega) (by omega)) (fun _ => vp_of (by omega) (by omega)), if_neg hle, of_succ, toNat_of (by omega)]
        refine ih (i + 1) _ (by omega) (by rw [z2_I]; exact h1) (fun a ha => by rw [zI_n1 ha]; exact h2 a ha) (fun k hk => ?_) (fun k hk => by rw [zI_s, if_neg (by omega)]; exact h4 k hk)
        rw [zI_s]
        by_cases e : k = i
        · rw [if_pos e, h2 475 (by omega), e]
        · rw [if_neg e]; exact h3 k (by omega)
    obtain ⟨Q, d1, d2, d3, d4, d5⟩ := l5 6 0 P rfl rfl (fun _ _ => rfl) (fun k hk => absurd hk (Nat.not_lt_zero k)) (fun _ _ => rfl)
    have hGQ : zGE Q := zGE_of hGP (by rw [d2])
    obtain ⟨Q1, e1, f1⟩ := r167f (X := X) (d := D + 9) (n := 6) hGQ zq_476 zq_463 (by decide) zl_476 (by rw [zl_463]; omega) (by decide)
    have hG1 : zGE Q1 := zGE_of hGQ (by rw [f1.1])
    obtain ⟨Q2, e2, f2⟩ := r167f (X := X) (d := D + 9) (n := 6) hG1 zq_477 zq_464 (by decide) zl_477 (by rw [zl_464]; omega) (by decide)
    have hG2 : zGE Q2 := zGE_of hG1 (by rw [f2.1])
    obtain ⟨Q3, e3, f3⟩ := r167f (X := X) (d := D + 9) (n := 6) hG2 zq_478 zq_465 (by decide) zl_478 (by rw [zl_465]; omega) (by decide)
    have hG3 : zGE Q3 := zGE_of hG2 (by rw [f3.1])
    obtain ⟨Q4, e4, f4⟩ := r167f (X := X) (d := D + 9) (n := 4) hG3 zq_479 zq_473 (by decide) zl_479 (by rw [zl_473]; omega) (by decide)
    have hG4 : zGE Q4 := zGE_of hG3 (by rw [f4.1])
    obtain ⟨Q5, e5, f5⟩ := r167f (X := X) (d := D + 9) (n := 4) hG4 zq_480 zq_466 (by decide) zl_480 (by rw [zl_466]; omega) (by decide)
    have hG5 : zGE Q5 := zGE_of hG4 (by rw [f5.1])
    obtain ⟨Q6, e6, f6⟩ := r167f (X := X) (d := D + 9) (n := 4) hG5 zq_481 zq_467 (by decide) zl_481 (by rw [zl_467]; omega) (by decide)
    have hG6 : zGE Q6 := zGE_of hG5 (by rw [f6.1])
    obtain ⟨Q7, e7, f7⟩ := r167f (X := X) (d := D + 9) (n := 4) hG6 zq_482 zq_468 (by decide) zl_482 (by rw [zl_468]; omega) (by decide)
    have hG7 : zGE Q7 := zGE_of hG6 (by rw [f7.1])
    obtain ⟨Q8, e8, f8⟩ := r167f (X := X) (d := D + 9) (n := 4) hG7 zq_483 zq_469 (by decide) zl_483 (by rw [zl_469]; omega) (by decide)
    have hG8 : zGE Q8 := zGE_of hG7 (by rw [f8.1])
    obtain ⟨Q9, e9, f9⟩ := r167f (X := X) (d := D + 9) (n := 64) hG8 zq_484 zq_493 (by decide) zl_484 (by rw [zl_493]; omega) (by decide)
    have hG9 : zGE Q9 := zGE_of hG8 (by rw [f9.1])
    -- all the rows
    have qO : ∀ a, a ≠ 461 → ¬ (463 ≤ a ∧ a ≤ 469) → a ≠ 473 → a ≠ 493 → Q9.1 a = P.1 a := fun a q1 q2 q3 q4 => by
      rw [f9.2.1 a q4, f8.2.1 a (by omega), f7.2.1 a (by omega), f6.2.1 a (by omega), f5.2.1 a (by omega), f4.2.1 a q3, f3.2.1 a (by omega), f2.2.1 a (by omega), f1.2.1 a (by omega), d3 a q1]
    have q461 : Q9.1 461 = Q.1 461 := by rw [f9.2.1 461 (by omega), f8.2.1 461 (by omega), f7.2.1 461 (by omega), f6.2.1 461 (by omega), f5.2.1 461 (by omega), f4.2.1 461 (by omega), f3.2.1 461 (by omega), f2.2.1 461 (by omega), f1.2.1 461 (by omega)]
    have r63 : ∀ j, j < 6 → Q9.1 463 j = P.1 476 j := fun j hj => by rw [f9.2.1 463 (by omega), f8.2.1 463 (by omega), f7.2.1 463 (by omega), f6.2.1 463 (by omega), f5.2.1 463 (by omega), f4.2.1 463 (by omega), f3.2.1 463 (by omega), f2.2.1 463 (by omega), f1.2.2 j hj, d3 476 (by omega)]
    have r64 : ∀ j, j < 6 → Q9.1 464 j = P.1 477 j := fun j hj => by rw [f9.2.1 464 (by omega), f8.2.1 464 (by omega), f7.2.1 464 (by omega), f6.2.1 464 (by omega), f5.2.1 464 (by omega), f4.2.1 464 (by omega), f3.2.1 464 (by omega), f2.2.2 j hj, f1.2.1 477 (by omega), d3 477 (by omega)]
    have r65 : ∀ j, j < 6 → Q9.1 465 j = P.1 478 j := fun j hj => by rw [f9.2.1 465 (by omega), f8.2.1 465 (by omega), f7.2.1 465 (by omega), f6.2.1 465 (by omega), f5.2.1 465 (by omega), f4.2.1 465 (by omega), f3.2.2 j hj, f2.2.1 478 (by omega), f1.2.1 478 (by omega), d3 478 (by omega)]
    have r73 : ∀ j, j < 4 → Q9.1 473 j = P.1 479 j := fun j hj => by rw [f9.2.1 473 (by omega), f8.2.1 473 (by omega), f7.2.1 473 (by omega), f6.2.1 473 (by omega), f5.2.1 473 (by omega), f4.2.2 j hj, f3.2.1 479 (by omega), f2.2.1 479 (by omega), f1.2.1 479 (by omega), d3 479 (by omega)]
    have r66 : ∀ j, j < 4 → Q9.1 466 j = P.1 480 j := fun j hj => by rw [f9.2.1 466 (by omega), f8.2.1 466 (by omega), f7.2.1 466 (by omega), f6.2.1 466 (by omega), f5.2.2 j hj, f4.2.1 480 (by omega), f3.2.1 480 (by omega), f2.2.1 480 (by omega), f1.2.1 480 (by omega), d3 480 (by omega)]
    have r67 : ∀ j, j < 4 → Q9.1 467 j = P.1 481 j := fun j hj => by rw [f9.2.1 467 (by omega), f8.2.1 467 (by omega), f7.2.1 467 (by omega), f6.2.2 j hj, f5.2.1 481 (by omega), f4.2.1 481 (by omega), f3.2.1 481 (by omega), f2.2.1 481 (by omega), f1.2.1 481 (by omega), d3 481 (by omega)]
    have r68 : ∀ j, j < 4 → Q9.1 468 j = P.1 482 j := fun j hj => by rw [f9.2.1 468 (by omega), f8.2.1 468 (by omega), f7.2.2 j hj, f6.2.1 482 (by omega), f5.2.1 482 (by omega), f4.2.1 482 (by omega), f3.2.1 482 (by omega), f2.2.1 482 (by omega), f1.2.1 482 (by omega), d3 482 (by omega)]
    have r69 : ∀ j, j < 4 → Q9.1 469 j = P.1 483 j := fun j hj => by rw [f9.2.1 469 (by omega), f8.2.2 j hj, f7.2.1 483 (by omega), f6.2.1 483 (by omega), f5.2.1 483 (by omega), f4.2.1 483 (by omega), f3.2.1 483 (by omega), f2.2.1 483 (by omega), f1.2.1 483 (by omega), d3 483 (by omega)]
    have r93 : ∀ j, j < 64 → Q9.1 493 j = P.1 484 j := fun j hj => by rw [f9.2.2 j hj, f8.2.1 484 (by omega), f7.2.1 484 (by omega), f6.2.1 484 (by omega), f5.2.1 484 (by omega), f4.2.1 484 (by omega), f3.2.1 484 (by omega), f2.2.1 484 (by omega), f1.2.1 484 (by omega), d3 484 (by omega)]
    obtain ⟨g1, g2, g3, g4⟩ := y4
    -- the ways
    have hGA : zGE (zsI Q9 474 0 (Q9.1 475 0)) := hG9
    obtain ⟨R1, x1, x2, x3⟩ := r172 (X := X) (d := D + 9) (R := fun a b => rwQ z.2 a b (z.1 3)) hGA (fun a b ha hb => by rw [zI_n (by omega), r93 _ (by omega), pO 484 (by omega)]; exact g4 a b ha hb) (fun a b => rwQ_le v1 (Nat.le_refl _))
    have hGR := zfr_G x2 hGA
    have hrd : (fun x y => if x = y then 0 else rwQ z.2 x y (z.1 3)) = rdP z.2 (z.1 3) := rfl
    rw [hrd] at x3
    have RO : ∀ a, a ≠ 470 → R1.1 a = (zsI Q9 474 0 (Q9.1 475 0)).1 a := fun a ha => (x2.2 a (by omega)).1
    have hn4 : nD (zEp z.1 z.2) ≤ 4 := by rw [n4']; omega
    obtain ⟨g20, g21⟩ := g2 (by omega)
    have h474 : zEp z.1 z.2 1 0 = R1.1 474 0 := by
      rw [zEp_c (by omega) (by omega) (by omega) (show 0 < z.1 ((1 - 1) / 3) by show 0 < z.1 0; omega), RO 474 (by omega), zI_s, if_pos rfl, qO 475 (by omega) (by omega) (by omega) (by omega), pO 475 (by omega), g20]
    have h473 : ∀ j, j < nD (zEp z.1 z.2) → zEp z.1 z.2 13 j = R1.1 473 j := fun j hj => by
      rw [n4'] at hj
      have := g3 4 0 j (by omega) (by decide) hj
      rw [zEp_c (by omega) (by omega) (by omega) (show j < z.1 ((13 - 1) / 3) from hj), RO 473 (by omega), zI_n (by omega), r73 j (by omega), pO 479 (by omega)]
      exact this.symm
    obtain ⟨R2, u1, u2, u3⟩ := r171g (X := X) (d := D + 8) (n := nD (zEp z.1 z.2)) (E := zEp z.1 z.2) hGR hn4 h474 h473
    have hG11 := zfs_G u2 hGR
    have R2O : ∀ a, ¬ (461 ≤ a ∧ a < 463) → R2.1 a = R1.1 a := fun a ha => (u2.1.2 a (by omega)).1
    let F : zM := zsI (zsI (zsI R2 461 15 0) 460 25 1) 460 55 0
    have FO : ∀ a, a ≠ 460 → a ≠ 461 → F.1 a = R2.1 a := fun a q1 q2 => by
      show (zsI _ 460 55 0).1 a = _
      rw [zI_n1 q1, zI_n1 q1, zI_n1 q2]
    have F460 : ∀ k, k ≠ 25 → k ≠ 55 → F.1 460 k = P.1 460 k := fun k q1 q2 => by
      show (zsI _ 460 55 0).1 460 k = _
      rw [zI_s, if_neg q2, zI_s, if_neg q1, zI_n (by omega), R2O 460 (by omega), RO 460 (by omega), zI_n (by omega), qO 460 (by omega) (by omega) (by omega) (by omega)]
    have F461 : ∀ k, k ≠ 15 → (∀ i, i < 10 → prm i ≠ k) → F.1 461 k = Q.1 461 k := fun k q1 q2 => by
      show (zsI _ 460 55 0).1 461 k = _
      rw [zI_n (by omega), zI_n (by omega), zI_s, if_neg q1, u2.2 k q2, RO 461 (by omega), zI_n (by omega), q461]
    have prl : ∀ i, i < 10 → prm i = 0 ∨ (6 ≤ prm i ∧ prm i ≤ 14) := by decide
    have np : ∀ k, (1 ≤ k ∧ k ≤ 5) ∨ 15 ≤ k → ∀ i, i < 10 → prm i ≠ k := fun k hk i hi => by have := prl i hi; omega
    have F25 : F.1 460 25 = 1 := by
      show (zsI _ 460 55 0).1 460 25 = _
      rw [zI_s, if_neg (by omega), zI_s, if_pos rfl]
    have fs : ∀ k, 1 ≤ k → k ≤ 5 → F.1 461 k = M2.1 475 k := fun k q1 q2 => by rw [F461 k (by omega) (np k (Or.inl ⟨q1, q2⟩)), d4 k (by omega), pO 475 (by omega)]
    have cG : F.1 461 2 = Int32.ofNat (z.1 1) := by rw [fs 2 (by omega) (by omega)]; exact g1 1 (by omega) (by omega)
    have cB : F.1 461 3 = Int32.ofNat (z.1 4) := by rw [fs 3 (by omega) (by omega)]; exact g1 4 (by omega) (by omega)
    have cN : F.1 461 4 = Int32.ofNat (z.1 2) := by rw [fs 4 (by omega) (by omega)]; exact g1 2 (by omega) (by omega)
    have cR : F.1 461 5 = Int32.ofNat (z.1 3) := by rw [fs 5 (by omega) (by omega)]; exact g1 3 (by omega) (by omega)
    have cJ : F.1 461 1 = Int32.ofNat (z.2 1 0) := by rw [fs 1 (by omega) (by omega)]; exact g21
    have rows : ∀ a, a ≠ 460 → a ≠ 461 → a ≠ 462 → a ≠ 470 → a ≠ 474 → F.1 a = Q9.1 a := fun a q1 q2 q3 q4 q5 => by rw [FO a q1 q2, R2O a (by omega), RO a q4, zI_n1 q5]
    have f470 : ∀ i j, i < 8 → j < 8 → F.1 470 (8 * i + j) = Int32.ofNat (fwN (rdP z.2 (z.1 3)) 8 i j) := fun i j hi hj => by rw [FO 470 (by omega) (by omega), R2O 470 (by omega)]; exact x3 i j hi hj
    have fws := fun (i j : Nat) (hi : i < 8) (hj : j < 8) => fwN_s (D := rdP z.2 (z.1 3)) rdP_z (rdP_r v1) hi hj
    have em : emR F = zEp z.1 z.2 := by
      funext r j
      unfold emR zEp
      by_cases q0 : r = 0
      · rw [if_pos q0, if_pos q0, F25, cG, cN, cR, cB]
        by_cases j0 : j = 0
        · rw [if_pos j0, j0, if_pos (by omega), v0]; rfl
        · rw [if_neg j0]
          by_cases j1 : j = 1
          · rw [if_pos j1, j1, if_pos (by omega)]
          · rw [if_neg j1]
            by_cases j2 : j = 2
            · rw [if_pos j2, j2, if_pos (by omega)]
            · rw [if_neg j2]
              by_cases j3 : j = 3
              · rw [if_pos j3, j3, if_pos (by omega)]
              · rw [if_neg j3]
                by_cases j4 : j = 4
                · rw [if_pos j4, j4, if_pos (by omega)]
                · rw [if_neg j4, if_neg (by omega)]
      · rw [if_neg q0, if_neg q0]
        by_cases q1 : r < 16
        · rw [if_pos q1, if_pos q1]
          by_cases q2 : r = 10 ∨ r = 11 ∨ r = 12 ∨ r = 3 ∨ r = 15
          · rw [if_pos q2, if_pos q2]
          · rw [if_neg q2, if_neg q2]
            have hct : rct F r = z.1 ((r - 1) / 3) := by
              unfold rct
              rw [F25, cG, cN, cB]
              rcases (show r = 1 ∨ r = 2 ∨ r = 4 ∨ r = 5 ∨ r = 6 ∨ r = 7 ∨ r = 8 ∨ r = 9 ∨ r = 13 ∨ r = 14 by omega) with rfl | rfl | rfl | rfl | rfl | rfl | rfl | rfl | rfl | rfl
              · show (1 : Int32).toNatClampNeg = z.1 0
                rw [v0]; rfl
              · show (1 : Int32).toNatClampNeg = z.1 0
                rw [v0]; rfl
              · exact toNat_of (show z.1 1 < _ by omega)
              · exact toNat_of (show z.1 1 < _ by omega)
              · exact toNat_of (show z.1 1 < _ by omega)
              · exact toNat_of (show z.1 2 < _ by omega)
              · exact toNat_of (show z.1 2 < _ by omega)
              · exact toNat_of (show z.1 2 < _ by omega)
              · exact toNat_of (show z.1 4 < _ by omega)
              · exact toNat_of (show z.1 4 < _ by omega)
            rw [hct]
            by_cases q3 : j < z.1 ((r - 1) / 3)
            · rw [if_pos q3, if_pos q3]
              rcases (show r = 1 ∨ r = 2 ∨ r = 4 ∨ r = 5 ∨ r = 6 ∨ r = 7 ∨ r = 8 ∨ r = 9 ∨ r = 13 ∨ r = 14 by omega) with rfl | rfl | rfl | rfl | rfl | rfl | rfl | rfl | rfl | rfl
              · have q3 : j < z.1 0 := q3
                have ej : j = 0 := by omega
                subst ej
                rw [if_neg (by omega)]
                show F.1 474 0 = _
                rw [FO 474 (by omega) (by omega), R2O 474 (by omega), ← h474, zEp_c (by omega) (by omega) (by omega) (show 0 < z.1 ((1 - 1) / 3) by show 0 < z.1 0; omega)]
              · have q3 : j < z.1 0 := q3
                have ej : j = 0 := by omega
                subst ej
                rw [if_pos rfl]
                exact cJ
              · have q3 : j < z.1 1 := q3
                rw [if_neg (by omega)]
                show F.1 463 j = _
                rw [rows 463 (by omega) (by omega) (by omega) (by omega) (by omega), r63 j (by omega), pO 476 (by omega)]
                exact g3 1 0 j (by omega) (by decide) q3
              · have q3 : j < z.1 1 := q3
                rw [if_neg (by omega)]
                show F.1 464 j = _
                rw [rows 464 (by omega) (by omega) (by omega) (by omega) (by omega), r64 j (by omega), pO 477 (by omega)]
                exact g3 1 1 j (by omega) (by decide) q3
              · have q3 : j < z.1 1 := q3
                rw [if_neg (by omega)]
                show F.1 465 j = _
                rw [rows 465 (by omega) (by omega) (by omega) (by omega) (by omega), r65 j (by omega), pO 478 (by omega)]
                exact g3 1 2 j (by omega) (by decide) q3
              · have q3 : j < z.1 2 := q3
                rw [if_neg (by omega)]
                show F.1 467 j = _
                rw [rows 467 (by omega) (by omega) (by omega) (by omega) (by omega), r67 j (by omega), pO 481 (by omega)]
                exact g3 2 0 j (by omega) (by decide) q3
              · have q3 : j < z.1 2 := q3
                rw [if_neg (by omega)]
                show F.1 468 j = _
                rw [rows 468 (by omega) (by omega) (by omega) (by omega) (by omega), r68 j (by omega), pO 482 (by omega)]
                exact g3 2 1 j (by omega) (by decide) q3
              · have q3 : j < z.1 2 := q3
                rw [if_neg (by omega)]
                show F.1 469 j = _
                rw [rows 469 (by omega) (by omega) (by omega) (by omega) (by omega), r69 j (by omega), pO 483 (by omega)]
                exact g3 2 2 j (by omega) (by decide) q3
              · have q3 : j < z.1 4 := q3
                rw [if_neg (by omega)]
                show F.1 473 j = _
                rw [rows 473 (by omega) (by omega) (by omega) (by omega) (by omega), r73 j (by omega), pO 479 (by omega)]
                exact g3 4 0 j (by omega) (by decide) q3
              · have q3 : j < z.1 4 := q3
                rw [if_neg (by omega)]
                show F.1 466 j = _
                rw [rows 466 (by omega) (by omega) (by omega) (by omega) (by omega), r66 j (by omega), pO 480 (by omega)]
                exact g3 4 1 j (by omega) (by decide) q3
            · rw [if_neg q3, if_neg q3]
        · rw [if_neg q1, if_neg q1]
          by_cases q2 : r < 24
          · rw [if_pos q2, if_pos q2]
            by_cases q3 : j < 8
            · rw [if_pos q3, if_pos q3, f470 (r - 16) j (by omega) q3]
              unfold zcp cap
              rcases fws (r - 16) j (by omega) q3 with e | e
              · rw [if_pos (show fwN (rdP z.2 (z.1 3)) 8 (r - 16) j < 1000 by omega), show (1000 : Int32) = Int32.ofNat 1000 from rfl, if_pos ((of_lt (by omega) (by omega)).2 (by omega))]
              · rw [if_neg (show ¬ fwN (rdP z.2 (z.1 3)) 8 (r - 16) j < 1000 by omega), e]; rfl
            · rw [if_neg q3, if_neg q3]
          · rw [if_neg q2, if_neg q2]
            by_cases q3 : r < 32
            · rw [if_pos q3, if_pos q3]
              by_cases q4 : j < 8
              · rw [if_pos q4, if_pos q4, F25, if_neg (by decide), rows 493 (by omega) (by omega) (by omega) (by omega) (by omega), r93 _ (by omega), pO 484 (by omega)]
                exact g4 (r - 24) j (by omega) q4
              · rw [if_neg q4, if_neg q4]
            · rw [if_neg q3, if_neg q3]
    refine ⟨F, ?_, ⟨?_, fun a q1 q2 q3 q4 => ?_, fun k q1 q2 q3 q4 => ?_, fun k hk => ?_⟩, ?_, ?_, ?_, cJ, em, fun c hc => ?_, ?_⟩
    · have hle : (zsI M2 460 26 0).1 460 28 ≤ 0 := by rw [zI_s, if_neg (by omega), y3]; exact Int32.le_refl _
      rw [hu, y1, Option.bind_some]
      dsimp only [zps]
      rw [t173_4 _ _ hGP, if_pos hle]
      have s6 : zR X (D + 10) 173 (21, [.ref 460, .int 0], [], zsI M2 460 26 0) = zR X (D + 10) 173 (21, [.ref 460, .int (Int32.ofNat 6)], [], Q) := d1
      rw [s6, t173_21 _ _ hGQ (fun h => absurd (by decide) h) (fun h => absurd (by decide) h), if_pos (by decide), e1, Option.bind_some]
      dsimp only [zps]
      rw [t173_56 _ _ hG1, e2, Option.bind_some]
      dsimp only [zps]
      rw [t173_67 _ _ hG2, e3, Option.bind_some]
      dsimp only [zps]
      rw [t173_78 _ _ hG3, e4, Option.bind_some]
      dsimp only [zps]
      rw [t173_89 _ _ hG4, e5, Option.bind_some]
      dsimp only [zps]
      rw [t173_100 _ _ hG5, e6, Option.bind_some]
      dsimp only [zps]
      rw [t173_111 _ _ hG6, e7, Option.bind_some]
      dsimp only [zps]
      rw [t173_122 _ _ hG7, e8, Option.bind_some]
      dsimp only [zps]
      rw [t173_133 _ _ hG8, e9, Option.bind_some]
      dsimp only [zps]
      rw [t173_144 _ _ hG9, x1, Option.bind_some]
      dsimp only [zps]
      rw [t173_160 _ _ hGR, u1, Option.bind_some]
      dsimp only [zps]
      have c2 : R2.1 461 2 = Int32.ofNat (z.1 1) := by
        have : F.1 461 2 = R2.1 461 2 := by
          show (zsI _ 460 55 0).1 461 2 = _
          rw [zI_n (by omega), zI_n (by omega), zI_s, if_neg (by omega)]
        rw [← this]; exact cG
      rw [t173_164 _ _ hG11, c2]
    · show R2.2.2 = M.2.2
      rw [u2.1.1, x2.1, z2_I, f9.1, f8.1, f7.1, f6.1, f5.1, f4.1, f3.1, f2.1, f1.1, d2]
      exact (n2 y2 : M2.2.2 = M.2.2)
    · rw [rows a q1 (by omega) (by omega) (by omega) (by omega), qO a (by omega) (by omega) (by omega) q4, pO a q1]
      exact nO y2 a q1 (by omega)
    · rw [F460 k q1 q4]
      show (zsI M2 460 26 0).1 460 k = _
      rw [zI_s, if_neg (by omega)]
      exact nk y2 k (by omega) (by omega) q3
    · rw [F461 k (by omega) (np k (Or.inr (by omega))), d5 k (by omega), pO 461 (by omega)]
      rw [nO y2 461 (by omega) (by omega)]
    · rw [F460 26 (by omega) (by omega)]
      show (zsI M2 460 26 0).1 460 26 = _
      rw [zI_s, if_pos rfl]
    · show (zsI _ 460 55 0).1 460 55 = _
      rw [zI_s, if_pos rfl]
    · show (zsI _ 460 55 0).1 461 15 = _
      rw [zI_n (by omega), zI_n (by omega), zI_s, if_pos rfl]
    · have := f470 (c / 8) (c % 8) (by omega) (by omega)
      rw [show 8 * (c / 8) + c % 8 = c by omega] at this
      rcases fws (c / 8) (c % 8) (by omega) (by omega) with e | e
      · exact Or.inl ⟨_, by omega, this⟩
      · rw [e] at this; exact Or.inr this
    · rw [← u3]
      funext k
      unfold stR
      by_cases q1 : k < 10
      · rw [if_pos q1, if_pos q1]
        have : prm k ≠ 15 := by have := prl k q1; omega
        show (zsI _ 460 55 0).1 461 (prm k) = _
        rw [zI_n (by omega), zI_n (by omega), zI_s, if_neg this]
      · rw [if_neg q1, if_neg q1, FO 462 (by omega) (by omega)]
