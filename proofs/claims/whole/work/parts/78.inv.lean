/-! ===== what stands between calls ===== -/
def pmo (k : Nat) : Nat := [0, 6, 1, 2, 5, 3, 4, 7, 8, 9].getD k 0
def pastR (n : Nat) (N : zM) (i : Nat) : zA := fun k => if k < 10 then N.1 497 (14 * i + pmo k) else if k < 10 + n then N.1 497 (14 * i + k) else 0
def lgDr (r : Nat) (M : zM) (g : zLg) : Prop := M.1 r 8 = Int32.ofNat g.1 ∧ ∀ k, k < g.1 → M.1 (r + 31) k = Int32.ofNat (g.2.1 k) ∧ M.1 (r + 32) k = g.2.2 k
/-- the class' realm at r is the reference's in N -/
def iRl (nr r : Nat) (M N : zM) : Prop :=
  (emD (r + 1) M = emR N ∧ okE (emR N) ∧ okW N ∧ okX (emR N) ∧ okRd (r + 1) M ∧ (emR N 0 0 = 1 → okT (emR N) ∧ okN (emR N)) ∧ (¬ emR N 0 0 = 1 → emR N 0 4 = 0)) ∧
  (stD (nD (emR N)) (r + 28) M = aR N ∧ okA (emR N) (aR N)) ∧
  (∃ i, i ≤ nr ∧ M.1 r 2 = rv i ∧ N.1 461 17 = rv i) ∧
  (∃ x, x < 2147483648 ∧ M.1 r 3 = Int32.ofNat x ∧ N.1 461 16 = Int32.ofNat x) ∧
  M.1 (r + 5) 0 = N.1 461 1 ∧
  (∃ g, okL g ∧ lgDr r M g ∧ lgR N g) ∧
  ∃ p, p ≤ 20 ∧ M.1 r 5 = Int32.ofNat p ∧ N.1 460 55 = Int32.ofNat p ∧ ∀ j, j < p → stD (nD (emR N)) (M.2.2.1 (r + 30) j) M = pastR (nD (emR N)) N j ∧ okA (emR N) (pastR (nD (emR N)) N j)
/-- where a row lies in an image -/
def offR (c : Nat) : Nat := if c = 461 then 0 else if c = 462 then 18 else if c < 466 then 23 + 6 * (c - 463) else if c < 470 then 41 + 4 * (c - 466) else if c = 470 then 121 else if c < 473 then 185 + 10 * (c - 471) else if c = 473 then 205 else if c = 474 then 209 else if c = 493 then 57 else 210
def car (c : Nat) : Prop := (461 ≤ c ∧ c ≤ 474) ∨ c = 493 ∨ c = 497
def carb (c : Nat) : Bool := (Nat.ble 461 c && Nat.ble c 474) || (Nat.beq c 493 || Nat.beq c 497)
theorem carb_iff {c : Nat} : carb c = true ↔ car c := by
  unfold carb car
  rw [Bool.or_eq_true, Bool.or_eq_true, Bool.and_eq_true, Nat.ble_eq, Nat.ble_eq, Nat.beq_eq, Nat.beq_eq]
/-- what image k holds, as a memory -/
def ldR (k : Nat) (M : zM) : zM := (fun c j => if c = 460 then (if j = 25 then M.1 504 k else if j = 55 then M.1 502 (550 * k + 22) else M.1 460 j) else if carb c = true then M.1 502 (550 * k + offR c + j) else M.1 c j, M.2)
def iTp (M : zM) : Prop := (∃ L, L ≤ 400 ∧ M.1 1 1 = Int32.ofNat L ∧ M.1 460 26 = Int32.ofNat L ∧ ∀ k, k < L → ∃ b, b < 256 ∧ M.1 2 k = Int32.ofNat b ∧ M.1 485 k = (if b < 128 then Int32.ofNat b else Int32.ofNat b - 256)) ∧ M.1 460 35 = 11
def INV (M : zM) : Prop := zGE M ∧ iTp M ∧ ∃ rl : zRul, okRs rl ∧ rsD M rl ∧ rsR M rl ∧ iRl rl.1 39 M M ∧ ∀ k, k < 4 → M.1 113 k = M.1 503 k ∧ (M.1 503 k = 0 ∨ (M.1 503 k = 1 ∧ iRl rl.1 (168 + 73 * k) M (ldR k M)))
def agR (N N' : zM) : Prop := N'.1 460 25 = N.1 460 25 ∧ N'.1 460 55 = N.1 460 55 ∧ ∀ c, car c → ∀ j, j < zln c → N'.1 c j = N.1 c j
theorem car_ln : ∀ c, c < 500 → carb c = true → (c = 461 → zln c = 18) ∧ (463 ≤ c ∧ c ≤ 465 → zln c = 6) ∧ ((c = 462 ∨ (466 ≤ c ∧ c ≤ 469) ∨ c = 473) → zln c = 4) ∧ ((c = 470 ∨ c = 493) → zln c = 64) ∧ ((c = 471 ∨ c = 472) → zln c = 10) ∧ (c = 474 → zln c = 1) ∧ (c = 497 → zln c = 280) := by
  intro c hc h
  rcases carb_iff.mp h with h | h | h
  · rcases (show c = 461 ∨ c = 462 ∨ c = 463 ∨ c = 464 ∨ c = 465 ∨ c = 466 ∨ c = 467 ∨ c = 468 ∨ c = 469 ∨ c = 470 ∨ c = 471 ∨ c = 472 ∨ c = 473 ∨ c = 474 by omega) with rfl | rfl | rfl | rfl | rfl | rfl | rfl | rfl | rfl | rfl | rfl | rfl | rfl | rfl
    · rw [zl_461]; omega
    · rw [zl_462]; omega
    · rw [zl_463]; omega
    · rw [zl_464]; omega
    · rw [zl_465]; omega
    · rw [zl_466]; omega
    · rw [zl_467]; omega
    · rw [zl_468]; omega
    · rw [zl_469]; omega
    · rw [zl_470]; omega
    · rw [zl_471]; omega
    · rw [zl_472]; omega
    · rw [zl_473]; omega
    · rw [zl_474]; omega
  · subst h; rw [zl_493]; omega
  · subst h; rw [zl_497]; omega
theorem agR_61 {N N' : zM} (h : agR N N') {j : Nat} (hj : j < 18) : N'.1 461 j = N.1 461 j := h.2.2 461 (Or.inl ⟨by omega, by omega⟩) j (by rw [zl_461]; exact hj)
theorem emR_ag {N N' : zM} (hE : okE (emR N)) (h : agR N N') : emR N' = emR N := by
  have k1 := agR_61 h (j := 1) (by omega)
  have k2 := agR_61 h (j := 2) (by omega)
  have k3 := agR_61 h (j := 3) (by omega)
  have k4 := agR_61 h (j := 4) (by omega)
  have k5 := agR_61 h (j := 5) (by omega)
  have hct : ∀ r, rct N' r = rct N r := fun r => by unfold rct; rw [h.1, k2, k3, k4]
  obtain ⟨⟨h0, b0, e0⟩, ⟨hg, b1, e1⟩, ⟨hn, b2, e2⟩, -, ⟨hd, b4, e4⟩, -⟩ := hE
  have c0 : (N.1 460 25).toNatClampNeg ≤ 1 := by rw [show N.1 460 25 = Int32.ofNat h0 from e0, toNat_of (by omega)]; exact b0
  have c1 : (N.1 461 2).toNatClampNeg ≤ 6 := by rw [show N.1 461 2 = Int32.ofNat hg from e1, toNat_of (by omega)]; exact b1
  have c2 : (N.1 461 4).toNatClampNeg ≤ 4 := by rw [show N.1 461 4 = Int32.ofNat hn from e2, toNat_of (by omega)]; exact b2
  have c4 : (N.1 461 3).toNatClampNeg ≤ 4 := by rw [show N.1 461 3 = Int32.ofNat hd from e4, toNat_of (by omega)]; exact b4
  have hrow : ∀ c, car c → ∀ j, j < zln c → N'.1 c j = N.1 c j := h.2.2
  have carA : ∀ c, 461 ≤ c → c ≤ 474 → car c := fun c h1 h2 => Or.inl ⟨h1, h2⟩
  have rows : ∀ r j, r < 16 → ¬ (r = 10 ∨ r = 11 ∨ r = 12 ∨ r = 3 ∨ r = 15) → r ≠ 0 → r ≠ 2 → j < rct N r → N'.1 (rcn r) j = N.1 (rcn r) j := by
    intro r j hr hx h0r h2r hj
    unfold rct at hj
    rcases (show r = 1 ∨ r = 4 ∨ r = 5 ∨ r = 6 ∨ r = 7 ∨ r = 8 ∨ r = 9 ∨ r = 13 ∨ r = 14 by omega) with rfl | rfl | rfl | rfl | rfl | rfl | rfl | rfl | rfl
    · rw [if_pos (by omega)] at hj
      exact hrow 474 (carA _ (by omega) (by omega)) j (by rw [zl_474]; omega)
    · rw [if_neg (by omega), if_pos (by omega)] at hj
      exact hrow 463 (carA _ (by omega) (by omega)) j (by rw [zl_463]; omega)
    · rw [if_neg (by omega), if_pos (by omega)] at hj
      exact hrow 464 (carA _ (by omega) (by omega)) j (by rw [zl_464]; omega)
    · rw [if_neg (by omega), if_pos (by omega)] at hj
      exact hrow 465 (carA _ (by omega) (by omega)) j (by rw [zl_465]; omega)
    · rw [if_neg (by omega), if_neg (by omega), if_pos (by omega)] at hj
      exact hrow 467 (carA _ (by omega) (by omega)) j (by rw [zl_467]; omega)
    · rw [if_neg (by omega), if_neg (by omega), if_pos (by omega)] at hj
      exact hrow 468 (carA _ (by omega) (by omega)) j (by rw [zl_468]; omega)
    · rw [if_neg (by omega), if_neg (by omega), if_pos (by omega)] at hj
      exact hrow 469 (carA _ (by omega) (by omega)) j (by rw [zl_469]; omega)
    · rw [if_neg (by omega), if_neg (by omega), if_neg (by omega)] at hj
      exact hrow 473 (carA _ (by omega) (by omega)) j (by rw [zl_473]; omega)
    · rw [if_neg (by omega), if_neg (by omega), if_neg (by omega)] at hj
      exact hrow 466 (carA _ (by omega) (by omega)) j (by rw [zl_466]; omega)
  funext r j
  unfold emR
  rw [hct, h.1, k1, k2, k3, k4, k5]
  by_cases g0 : r = 0
  · rw [if_pos g0, if_pos g0]
  · rw [if_neg g0, if_neg g0]
    by_cases g1 : r < 16
    · rw [if_pos g1, if_pos g1]
      by_cases g2 : r = 10 ∨ r = 11 ∨ r = 12 ∨ r = 3 ∨ r = 15
      · rw [if_pos g2, if_pos g2]
      · rw [if_neg g2, if_neg g2]
        by_cases g3 : j < rct N r
        · rw [if_pos g3, if_pos g3]
          by_cases g4 : r = 2
          · rw [if_pos g4, if_pos g4]
          · rw [if_neg g4, if_neg g4]
            exact rows r j g1 g2 g0 g4 g3
        · rw [if_neg g3, if_neg g3]
    · rw [if_neg g1, if_neg g1]
      by_cases g2 : r < 24
      · rw [if_pos g2, if_pos g2]
        by_cases g3 : j < 8
        · rw [if_pos g3, if_pos g3, hrow 470 (carA _ (by omega) (by omega)) _ (by rw [zl_470]; omega)]
        · rw [if_neg g3, if_neg g3]
      · rw [if_neg g2, if_neg g2]
        by_cases g3 : r < 32
        · rw [if_pos g3, if_pos g3]
          by_cases g4 : j < 8
          · rw [if_pos g4, if_pos g4, hrow 493 (Or.inr (Or.inl rfl)) _ (by rw [zl_493]; omega)]
          · rw [if_neg g4, if_neg g4]
        · rw [if_neg g3, if_neg g3]
theorem stR_ag {N N' : zM} {n : Nat} (hn : n ≤ 4) (h : agR N N') : stR n N' = stR n N :=
  kp_st hn (fun k hk => agR_61 h hk) (fun k hk => h.2.2 462 (Or.inl ⟨by omega, by omega⟩) k (by rw [zl_462]; exact hk))
theorem pmo_lt : ∀ k, k < 10 → pmo k < 10 := by decide
theorem pastR_ag {N N' : zM} {n i : Nat} (hn : n ≤ 4) (hi : i < 20) (h : agR N N') : pastR n N' i = pastR n N i := by
  have hp : ∀ j, j < 280 → N'.1 497 j = N.1 497 j := fun j hj => h.2.2 497 (Or.inr (Or.inr rfl)) j (by rw [zl_497]; exact hj)
  funext k
  unfold pastR
  by_cases c : k < 10
  · have := pmo_lt k c
    rw [if_pos c, if_pos c, hp _ (by omega)]
  · rw [if_neg c, if_neg c]
    by_cases c2 : k < 10 + n
    · rw [if_pos c2, if_pos c2, hp _ (by omega)]
    · rw [if_neg c2, if_neg c2]
theorem lgR_ag {N N' : zM} {g : zLg} (hg : okL g) (h : agR N N') (hl : lgR N g) : lgR N' g := by
  refine ⟨by rw [agR_61 h (by omega)]; exact hl.1, fun k hk => ?_⟩
  have := hg.1
  rw [h.2.2 471 (Or.inl ⟨by omega, by omega⟩) k (by rw [zl_471]; omega), h.2.2 472 (Or.inl ⟨by omega, by omega⟩) k (by rw [zl_472]; omega)]
  exact hl.2 k hk
/-- the same realm, seen from other memories -/
theorem iRl_c {nr r : Nat} {M M' N N' : zM} (hG : zGE M) (hr : zqk r 6 = true) (h1 : ∀ c, r ≤ c → c < r + 73 → M'.1 c = M.1 c) (h2 : M'.2.2 = M.2.2) (h3 : agR N N') (h : iRl nr r M N) : iRl nr r M' N' := by
  obtain ⟨⟨a1, a2, a3, a4, a5, a6, a7⟩, ⟨b1, b2⟩, ⟨i, c1, c2, c3⟩, ⟨x, d1, d2, d3⟩, e1, ⟨g, g1, g2, g3⟩, ⟨p, p1, p2, p3, p4⟩⟩ := h
  have em := emR_ag a2 h3
  have hn4 := (okR_D a2).1
  have ea : aR N' = aR N := by
    show stR (nD (emR N')) N' = _
    rw [em]
    exact stR_ag hn4 h3
  have emd : emD (r + 1) M' = emD (r + 1) M := by
    have q1 := h1 (r + 1 + 1) (by omega) (by omega)
    have q2 := h1 (r + 1 + 12) (by omega) (by omega)
    have q3 := h1 (r + 1 + 13) (by omega) (by omega)
    have q4 := h1 (r + 1 + 14) (by omega) (by omega)
    funext s j
    unfold emD
    rw [q1, q2, q3, q4]
    by_cases g0 : s = 0
    · rw [if_pos g0, if_pos g0]
    · rw [if_neg g0, if_neg g0]
      by_cases g1 : s < 16
      · rw [if_pos g1, if_pos g1, h1 (r + 1 + 2 + s) (by omega) (by omega)]
      · rw [if_neg g1, if_neg g1]
        by_cases g2 : s < 24
        · rw [if_pos g2, if_pos g2, h1 (r + 1 + 3 + s) (by omega) (by omega)]
        · rw [if_neg g2, if_neg g2]
  have std : ∀ n c, r ≤ c → c + 1 < r + 73 → stD n c M' = stD n c M := fun n c q1 q2 => by
    unfold stD
    rw [h1 c q1 (by omega), h1 (c + 1) (by omega) (by omega)]
  refine ⟨⟨by rw [emd, em]; exact a1, by rw [em]; exact a2, fun c hc => ?_, by rw [em]; exact a4, ?_, by rw [em]; exact a6, by rw [em]; exact a7⟩, ⟨by rw [em, std _ _ (by omega) (by omega), ea]; exact b1, by rw [em, ea]; exact b2⟩, ⟨i, c1, by rw [h1 r (by omega) (by omega)]; exact c2, by rw [agR_61 h3 (by omega)]; exact c3⟩, ⟨x, d1, by rw [h1 r (by omega) (by omega)]; exact d2, by rw [agR_61 h3 (by omega)]; exact d3⟩, by rw [h1 (r + 5) (by omega) (by omega), agR_61 h3 (by omega)]; exact e1, ⟨g, g1, ?_, lgR_ag g1 h3 g3⟩, ⟨p, p1, by rw [h1 r (by omega) (by omega)]; exact p2, by rw [h3.2.1]; exact p3, fun j hj => ?_⟩⟩
  · rw [h3.2.2 470 (Or.inl ⟨by omega, by omega⟩) c (by rw [zl_470]; exact hc)]
    exact a3 c hc
  · unfold okRd
    rw [h1 (r + 1 + 1) (by omega) (by omega), h1 (r + 1 + 12) (by omega) (by omega), h1 (r + 1 + 13) (by omega) (by omega), h1 (r + 1 + 14) (by omega) (by omega)]
    exact a5
  · unfold lgDr
    rw [h1 r (by omega) (by omega), h1 (r + 31) (by omega) (by omega), h1 (r + 32) (by omega) (by omega)]
    exact g2
  · obtain ⟨q1, q2⟩ := p4 j hj
    obtain ⟨⟨jj, u1, u2⟩⟩ : Nonempty (∃ jj, jj < 20 ∧ M.2.2.1 (r + 30) j = r + 33 + 2 * jj) := ⟨(hG.2.2 r hr).1 j (by omega)⟩
    rw [em, pastR_ag hn4 (by omega) h3, h2, u2, std _ _ (by omega) (by omega)]
    rw [u2] at q1
    exact ⟨q1, q2⟩
