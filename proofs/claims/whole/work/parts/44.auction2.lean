def pMu (n : Nat) (S : zS) : Nat := (999 - S.1.toNatClampNeg) + (n - pOut S.2.2.2 n)
def okS (S : zS) : Prop := ∃ h, h ≤ 999 ∧ S.1 = Int32.ofNat h
theorem l2i {x : Int64} {k : Nat} (hk : k ≤ 999) (h : x.toInt = k) : x.toInt32 = Int32.ofNat k := by
  rw [← Int32.toInt_inj, Int32.toInt_ofNat_of_lt (by omega), Int64.toInt_toInt32, h]
  unfold Int.bmod
  dsimp only
  split <;> omega
theorem pTake_mu {n h jj b : Nat} {S : zS} {x : Int64} (hh : h ≤ 999) (hS : S.1 = Int32.ofNat h) (hj1 : 1 ≤ jj) (hj2 : jj ≤ 9) (hb : b < n) (hO : S.2.2.2 b = false) : okS (pTake (Int32.ofNat jj) S b x) ∧ pMu n (pTake (Int32.ofNat jj) S b x) < pMu n S := by
  have e1 : (S.1 + Int32.ofNat jj).toInt64.toInt = (h + jj : Nat) := by
    rw [hS, ← Int32.ofNat_add, Int32.toInt_toInt64, Int32.toInt_ofNat_of_lt (by omega)]
  have e3 : (999 : Int64).toInt = 999 := rfl
  unfold pTake pMu okS
  by_cases c : x < (S.1 + Int32.ofNat jj).toInt64 ∨ 999 < x
  · rw [if_pos c]
    refine ⟨⟨h, hh, hS⟩, ?_⟩
    show (999 - S.1.toNatClampNeg) + (n - pOut (fun k => if k = b then true else S.2.2.2 k) n) < _
    have h2 := pOut_le (fun k => if k = b then true else S.2.2.2 k) n
    rw [pOut_up hO, if_pos hb] at h2
    rw [pOut_up hO, if_pos hb]
    omega
  · rw [if_neg c]
    rw [not_or, Int64.lt_iff_toInt_lt, Int64.lt_iff_toInt_lt, e1, e3] at c
    obtain ⟨k, hk⟩ : ∃ k : Nat, x.toInt = k := ⟨x.toInt.toNat, by omega⟩
    have hx : x.toInt32 = Int32.ofNat k := l2i (by omega) hk
    refine ⟨⟨k, by omega, hx⟩, ?_⟩
    show (999 - x.toInt32.toNatClampNeg) + (n - pOut S.2.2.2 n) < _
    rw [hx, hS, toNat_of (by omega), toNat_of (by omega)]
    omega
theorem pOut_two {O : Nat → Bool} {n q : Nat} (h : pOut O n + 1 < n) : ∃ b, b < n ∧ O b = false ∧ b ≠ q := by
  cases hq : O q
  · have h1 := pOut_up hq n
    have h2 : pOut (fun k => if k = q then true else O k) n < n := by
      rw [h1]
      split <;> omega
    obtain ⟨b, hb, hO⟩ := pOut_lt h2
    have hbq : b ≠ q := by
      intro e
      have h3 : (if b = q then true else O b) = false := hO
      rw [if_pos e] at h3
      cases h3
    refine ⟨b, hb, ?_, hbq⟩
    have h3 : (if b = q then true else O b) = false := hO
    rw [if_neg hbq] at h3
    exact h3
  · obtain ⟨b, hb, hO⟩ := pOut_lt (show pOut O n < n by omega)
    refine ⟨b, hb, hO, ?_⟩
    intro e
    rw [e, hq] at hO
    cases hO
theorem pDone_no {n : Nat} {S : zS} (hn : n ≤ 4) (h : pDone n S = false) : ∃ b, b < n ∧ S.2.2.2 b = false ∧ ¬ Int32.ofNat b = S.2.1 := by
  have h1 : ¬ (if S.2.1 = -1 then n else n - 1) ≤ pOut S.2.2.2 n := fun h2 => by
    unfold pDone at h
    rw [Nat.ble_eq_true_of_le h2] at h
    cases h
  by_cases c : S.2.1 = -1
  · rw [if_pos c] at h1
    obtain ⟨b, hb, hO⟩ := pOut_lt (show pOut S.2.2.2 n < n by omega)
    exact ⟨b, hb, hO, by rw [c]; exact ne_m1 (by omega)⟩
  · rw [if_neg c] at h1
    obtain ⟨b, hb, hO, hq⟩ := pOut_two (q := S.2.1.toNatClampNeg) (show pOut S.2.2.2 n + 1 < n by omega)
    refine ⟨b, hb, hO, ?_⟩
    intro e
    rw [← e, toNat_of (by omega)] at hq
    exact hq rfl
/-- some turns on, the sale has gone on by one -/
theorem pSale_go {n jj : Nat} {bid : zS → Nat → Int64} (hn : n ≤ 4) (hj1 : 1 ≤ jj) (hj2 : jj ≤ 9) : ∀ t m i S, okS S → pDone n S = false → t < m → (S.2.2.2 ((i + t) % n) = false ∧ ¬ Int32.ofNat ((i + t) % n) = S.2.1) → 0 < n → ∃ m' i' S', m ≤ m' + t + 1 ∧ okS S' ∧ pMu n S' < pMu n S ∧ pSale n (Int32.ofNat jj) bid m i S = pSale n (Int32.ofNat jj) bid m' i' S' := by
  intro t
  induction t with
  | zero =>
    intro m i S hS hD hm hE h0
    obtain ⟨m, rfl⟩ : ∃ m', m = m' + 1 := ⟨m - 1, by omega⟩
    obtain ⟨h, hh, hS1⟩ := hS
    rw [Nat.add_zero] at hE
    have h2 := pTake_mu (n := n) (b := i % n) (x := bid S (i % n)) hh hS1 hj1 hj2 (Nat.mod_lt _ h0) hE.1
    refine ⟨m, i + 1, pTurn (Int32.ofNat jj) bid S (i % n), by omega, ?_, ?_, ?_⟩
    · unfold pTurn
      rw [if_neg (by rw [hE.1]; intro h3; rcases h3 with h3 | h3; cases h3; exact hE.2 h3)]
      exact h2.1
    · unfold pTurn
      rw [if_neg (by rw [hE.1]; intro h3; rcases h3 with h3 | h3; cases h3; exact hE.2 h3)]
      exact h2.2
    · rw [pSale, hD]
      rfl
  | succ t ih =>
    intro m i S hS hD hm hE h0
    obtain ⟨m, rfl⟩ : ∃ m', m = m' + 1 := ⟨m - 1, by omega⟩
    by_cases c : S.2.2.2 (i % n) = true ∨ Int32.ofNat (i % n) = S.2.1
    · have e : pTurn (Int32.ofNat jj) bid S (i % n) = S := by unfold pTurn; rw [if_pos c]
      obtain ⟨m', i', S', g1, g2, g3, g4⟩ := ih m (i + 1) S hS hD (by omega) (by rw [show i + 1 + t = i + (t + 1) by omega]; exact hE) h0
      refine ⟨m', i', S', by omega, g2, g3, ?_⟩
      rw [pSale, hD, cond_false, e, g4]
    · rw [not_or] at c
      obtain ⟨h, hh, hS1⟩ := hS
      have hO : S.2.2.2 (i % n) = false := by
        cases h5 : S.2.2.2 (i % n)
        · rfl
        · exact absurd h5 c.1
      have h2 := pTake_mu (n := n) (b := i % n) (x := bid S (i % n)) hh hS1 hj1 hj2 (Nat.mod_lt _ h0) hO
      refine ⟨m, i + 1, pTurn (Int32.ofNat jj) bid S (i % n), by omega, ?_, ?_, ?_⟩
      · unfold pTurn
        rw [if_neg (by rw [not_or]; exact c)]
        exact h2.1
      · unfold pTurn
        rw [if_neg (by rw [not_or]; exact c)]
        exact h2.2
      · rw [pSale, hD]
        rfl
/-- the sale comes to its end -/
theorem pSale_end {n jj : Nat} {bid : zS → Nat → Int64} (hn : n ≤ 4) (hj1 : 1 ≤ jj) (hj2 : jj ≤ 9) : ∀ u m i S, okS S → pMu n S ≤ u → 4 * (u + 1) ≤ m → pDone n (pSale n (Int32.ofNat jj) bid m i S) = true := by
  intro u
  induction u with
  | zero =>
    intro m i S hS hu hm
    cases hD : pDone n S
    · obtain ⟨b, hb, hO, hq⟩ := pDone_no hn hD
      have h1 : pMu n S = 0 := by omega
      have h2 := pOut_up hO n
      have h3 := pOut_le (fun k => if k = b then true else S.2.2.2 k) n
      rw [h2, if_pos hb] at h3
      unfold pMu at h1
      omega
    · obtain ⟨m, rfl⟩ : ∃ m', m = m' + 1 := ⟨m - 1, by omega⟩
      rw [pSale, hD]
      exact hD
  | succ u ih =>
    intro m i S hS hu hm
    cases hD : pDone n S
    · obtain ⟨b, hb, hO, hq⟩ := pDone_no hn hD
      have h0 : 0 < n := by omega
      have hi := Nat.mod_lt i h0
      have e : (i + (b + n - i % n) % n) % n = b := by
        rw [Nat.add_mod_mod, ← Nat.mod_add_mod, show i % n + (b + n - i % n) = b + n by omega, Nat.add_mod_right, Nat.mod_eq_of_lt hb]
      have ht := Nat.mod_lt (b + n - i % n) h0
      obtain ⟨m', i', S', g1, g2, g3, g4⟩ := pSale_go (bid := bid) hn hj1 hj2 ((b + n - i % n) % n) m i S hS hD (by omega) (by rw [e]; exact ⟨hO, hq⟩) h0
      rw [g4]
      exact ih m' i' S' g2 (by omega) (by omega)
    · obtain ⟨m, rfl⟩ : ∃ m', m = m' + 1 := ⟨m - 1, by omega⟩
      rw [pSale, hD]
      exact hD
theorem pSale_done {n jj : Nat} {bid : zS → Nat → Int64} (hn : n ≤ 4) (hj1 : 1 ≤ jj) (hj2 : jj ≤ 9) : pDone n (pSale n (Int32.ofNat jj) bid 7992 0 pS0) = true := by
  refine pSale_end hn hj1 hj2 1003 7992 0 pS0 ⟨0, by omega, rfl⟩ ?_ (by omega)
  unfold pMu
  omega
