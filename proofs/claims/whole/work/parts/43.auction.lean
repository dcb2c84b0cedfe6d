/-! ===== a sale, plainly: highest bid, who bade it, how many were asked, who is out ===== -/
abbrev zS : Type := Int32 × Int32 × Int32 × (Nat → Bool)
def pOut (O : Nat → Bool) : Nat → Nat
  | 0 => 0
  | k + 1 => bif O k then pOut O k + 1 else pOut O k
def pDone (n : Nat) (S : zS) : Bool := Nat.ble (if S.2.1 = -1 then n else n - 1) (pOut S.2.2.2 n)
def pTake (j : Int32) (S : zS) (b : Nat) (bid : Int64) : zS :=
  if bid < (S.1 + j).toInt64 ∨ 999 < bid then (S.1, S.2.1, S.2.2.1 + 1, fun k => if k = b then true else S.2.2.2 k)
  else (bid.toInt32, Int32.ofNat b, S.2.2.1 + 1, S.2.2.2)
def pTurn (j : Int32) (bid : zS → Nat → Int64) (S : zS) (b : Nat) : zS :=
  if S.2.2.2 b = true ∨ Int32.ofNat b = S.2.1 then S else pTake j S b (bid S b)
/-- from turn i on, m turns at most -/
def pSale (n : Nat) (j : Int32) (bid : zS → Nat → Int64) : Nat → Nat → zS → zS
  | 0, _, S => S
  | m + 1, i, S => bif pDone n S then S else pSale n j bid m (i + 1) (pTurn j bid S (i % n))
def pS0 : zS := (0, -1, 0, fun _ => false)
theorem pOut_le (O : Nat → Bool) : ∀ n, pOut O n ≤ n := by
  intro n
  induction n with
  | zero => exact Nat.le_refl _
  | succ n ih =>
    rw [pOut]
    cases O n
    · exact Nat.le_succ_of_le ih
    · exact Nat.succ_le_succ ih
theorem pOut_lt {O : Nat → Bool} : ∀ {n}, pOut O n < n → ∃ b, b < n ∧ O b = false := by
  intro n
  induction n with
  | zero => intro h; exact absurd h (Nat.not_lt_zero _)
  | succ n ih =>
    intro h
    rw [pOut] at h
    cases hb : O n
    · exact ⟨n, Nat.lt_succ_self _, hb⟩
    · rw [hb] at h
      obtain ⟨b, h1, h2⟩ := ih (by have : pOut O n + 1 < n + 1 := h; omega)
      exact ⟨b, by omega, h2⟩
theorem pOut_up {O : Nat → Bool} {b : Nat} (hb : O b = false) : ∀ n, pOut (fun k => if k = b then true else O k) n = if b < n then pOut O n + 1 else pOut O n := by
  intro n
  induction n with
  | zero => rfl
  | succ n ih =>
    rw [pOut, pOut, ih]
    by_cases e : n = b
    · subst e
      rw [if_pos rfl, if_neg (Nat.lt_irrefl _), if_pos (Nat.lt_succ_self _), hb]
      rfl
    · rw [if_neg e]
      by_cases h : b < n
      · rw [if_pos h, if_pos (by omega)]
        cases O n <;> rfl
      · rw [if_neg h, if_neg (by omega)]
