/-! ===== how to halve the guards ===== -/
theorem pb_bv {x : Int32} {k : Nat} (hk : k < 32) : pb x k = x.toBitVec.getLsbD k := by
  have hs : ∀ k, k < 32 → ((Int32.ofNat k &&& 31).toBitVec.smod 32).toNat = k := by decide +kernel
  have e1 : (x >>> (Int32.ofNat k &&& 31)).toBitVec = x.toBitVec.sshiftRight k := by
    rw [Int32.toBitVec_shiftRight]
    show x.toBitVec.sshiftRight' _ = _
    unfold BitVec.sshiftRight'
    rw [hs k hk]
  have h : ((x >>> (Int32.ofNat k &&& 31)) &&& 1).toBitVec = BitVec.setWidth 32 (BitVec.ofBool (x.toBitVec.getLsbD k)) := by
    rw [Int32.toBitVec_and, e1]
    refine (BitVec.and_one_eq_setWidth_ofBool_getLsbD).trans ?_
    rw [BitVec.getLsbD_sshiftRight]
    simp [hk]
  unfold pb
  have hd : ((x >>> (Int32.ofNat k &&& 31)) &&& 1 = 0) ↔ x.toBitVec.getLsbD k = false := by
    rw [← Int32.toBitVec_inj, h]
    cases x.toBitVec.getLsbD k <;> decide
  cases hb : x.toBitVec.getLsbD k
  · rw [decide_eq_true (hd.mpr hb)]; rfl
  · rw [decide_eq_false (fun h2 => by rw [hd.mp h2] at hb; cases hb)]; rfl
theorem pb_and {x y : Int32} {k : Nat} (hk : k < 32) : pb (x &&& y) k = (pb x k && pb y k) := by
  rw [pb_bv hk, pb_bv hk, pb_bv hk, Int32.toBitVec_and, BitVec.getLsbD_and]
theorem pb_not {x : Int32} {k : Nat} (hk : k < 32) : pb (x ^^^ -1) k = ! pb x k := by
  rw [pb_bv hk, pb_bv hk, Int32.toBitVec_xor, BitVec.getLsbD_xor]
  have e : (-1 : Int32).toBitVec = BitVec.allOnes 32 := by decide
  rw [e, BitVec.getLsbD_allOnes, decide_eq_true hk, Bool.xor_true]
theorem pb_mask : ∀ n, n ≤ 6 → ∀ k, k < n → pb ((1 <<< (Int32.ofNat n &&& 31)) - 1) k = true := by decide +kernel
theorem and_lt {x : Int32} {n : Nat} (hn : n ≤ 6) : ∃ v, v < 2 ^ n ∧ x &&& ((1 <<< (Int32.ofNat n &&& 31)) - 1) = Int32.ofNat v := by
  have hp : 0 < 2 ^ n := Nat.two_pow_pos n
  have hp2 : 2 ^ n ≤ 2 ^ 6 := Nat.pow_le_pow_right (by omega) hn
  have hm : x.toBitVec.toNat % 2 ^ n < 2 ^ n := Nat.mod_lt _ hp
  refine ⟨x.toBitVec.toNat % 2 ^ n, hm, ?_⟩
  rw [sh_pow n hn, of_pred hp, ← Int32.toBitVec_inj, Int32.toBitVec_and]
  apply BitVec.eq_of_toNat_eq
  rw [BitVec.toNat_and]
  show x.toBitVec.toNat &&& (BitVec.ofNat 32 (2 ^ n - 1)).toNat = (BitVec.ofNat 32 (x.toBitVec.toNat % 2 ^ n)).toNat
  rw [BitVec.toNat_ofNat, BitVec.toNat_ofNat, Nat.mod_eq_of_lt (show 2 ^ n - 1 < 2 ^ 32 by omega), Nat.mod_eq_of_lt (show x.toBitVec.toNat % 2 ^ n < 2 ^ 32 by omega), Nat.and_two_pow_sub_one_eq_mod]
def pMS (E : zE) (x : Int32) : Nat → Int32
  | 0 => 0
  | k + 1 => bif pb x k then pMS E x k + E 4 k else pMS E x k
theorem pMS_c {E : zE} {x y : Int32} : ∀ k, (∀ j, j < k → pb x j = pb y j) → pMS E x k = pMS E y k
  | 0, _ => rfl
  | k + 1, h => by rw [pMS, pMS, h k (by omega), pMS_c k (fun j hj => h j (by omega))]
theorem pMS_b {E : zE} {x : Int32} (h : okX E) : ∀ k, k ≤ nG E → ∃ v, v ≤ 30 * k ∧ pMS E x k = Int32.ofNat v
  | 0, _ => ⟨0, by omega, rfl⟩
  | k + 1, hk => by
    obtain ⟨v, h1, h2⟩ := pMS_b (x := x) h k (by omega)
    obtain ⟨w, h3, h4⟩ := h.1 k (by omega)
    rw [pMS]
    cases pb x k
    · exact ⟨v, by omega, h2⟩
    · exact ⟨v + w, by omega, by rw [cond_true, h2, h4, Int32.ofNat_add]⟩
theorem pMS_s {E : zE} {x s : Int32} : ∀ k, k ≤ 6 → (∀ j, j < k → pb s j = true → pb x j = true) → pMS E x k = pMS E s k + pMS E (x &&& (s ^^^ -1)) k
  | 0, _, _ => (show (0 : Int32) = 0 + 0 from by decide)
  | k + 1, hk, h => by
    have ih := pMS_s (E := E) (x := x) (s := s) k (by omega) (fun j hj => h j (by omega))
    have hb := h k (by omega)
    rw [pMS, pMS, pMS, ih, pb_and (by omega), pb_not (by omega)]
    cases hs : pb s k
    · cases hx : pb x k
      · rw [cond_false, cond_false, Bool.false_and, cond_false]
      · rw [cond_true, cond_false, Bool.not_false, Bool.true_and, cond_true, Int32.add_assoc]
    · rw [hb hs, cond_true, cond_true, Bool.not_true, Bool.and_false, cond_false, Int32.add_assoc, Int32.add_assoc, Int32.add_comm (E 4 k)]
def qv (v s : Nat) : Bool := decide (Int32.ofNat s &&& (Int32.ofNat v ^^^ -1) = 0) && ! decide (Int32.ofNat s &&& (Int32.ofNat v &&& - Int32.ofNat v) = 0)
theorem qv_r : ∀ v, v < 64 → v ≠ 0 → ∀ s, s < 64 → (decide (Int32.ofNat s &&& (Int32.ofNat v ^^^ -1) = 0) && decide (Int32.ofNat s &&& (Int32.ofNat v &&& - Int32.ofNat v) = Int32.ofNat v &&& - Int32.ofNat v)) = qv v s := by decide +kernel
theorem qv_b : ∀ v, v < 64 → ∀ s, s < 64 → qv v s = true → 1 ≤ s ∧ s ≤ v := by decide +kernel
theorem qv_v : ∀ v, v < 64 → v ≠ 0 → qv v v = true := by decide +kernel
theorem qv_sub : ∀ v, v < 64 → ∀ s, s < 64 → qv v s = true → ∀ j, j < 6 → pb (Int32.ofNat s) j = true → pb (Int32.ofNat v) j = true := by
  intro v hv s hs h j hj hb
  unfold qv at h
  rw [Bool.and_eq_true] at h
  have h1 := of_decide_eq_true h.1
  have h2 : pb (Int32.ofNat s &&& (Int32.ofNat v ^^^ -1)) j = false := by rw [h1, pb_bv (by omega)]; show (0 : BitVec 32).getLsbD j = false; exact BitVec.getLsbD_zero
  rw [pb_and (by omega), pb_not (by omega), hb, Bool.true_and] at h2
  cases hh : pb (Int32.ofNat v) j
  · rw [hh] at h2; cases h2
  · rfl
/-- how far apart the halves are -/
def pAp (E : zE) (v s : Nat) : Nat := if (pMS E (Int32.ofNat s) (nG E)).toNatClampNeg ≤ (pMS E (Int32.ofNat v &&& (Int32.ofNat s ^^^ -1)) (nG E)).toNatClampNeg then (pMS E (Int32.ofNat v &&& (Int32.ofNat s ^^^ -1)) (nG E)).toNatClampNeg - (pMS E (Int32.ofNat s) (nG E)).toNatClampNeg else (pMS E (Int32.ofNat s) (nG E)).toNatClampNeg - (pMS E (Int32.ofNat v &&& (Int32.ofNat s ^^^ -1)) (nG E)).toNatClampNeg
def pHv (E : zE) (v : Nat) : Nat → Int32 × Int32
  | 0 => (0, -1)
  | c + 1 => if qv v c = true then (if (pHv E v c).2 = -1 ∨ Int32.ofNat (pAp E v c) < (pHv E v c).2 then (Int32.ofNat c, Int32.ofNat (pAp E v c)) else pHv E v c) else pHv E v c
theorem ab_d {a b : Nat} (ha : a ≤ 180) (hb : b ≤ 180) : (if 0 ≤ Int32.ofNat a + Int32.ofNat b - 2 * Int32.ofNat a then Int32.ofNat a + Int32.ofNat b - 2 * Int32.ofNat a else 0 - (Int32.ofNat a + Int32.ofNat b - 2 * Int32.ofNat a)) = Int32.ofNat (if a ≤ b then b - a else a - b) := by
  have e : Int32.ofNat a + Int32.ofNat b - 2 * Int32.ofNat a = Int32.ofNat b - Int32.ofNat a := by
    have h2 : (2 : Int32) * Int32.ofNat a = Int32.ofNat a + Int32.ofNat a := by
      rw [show (2 : Int32) = Int32.ofNat 2 from rfl, of_mul, ← Int32.ofNat_add]
      congr 1
      omega
    rw [h2, ← Int32.sub_sub, Int32.add_comm (Int32.ofNat a), Int32.add_sub_cancel]
  rw [e]
  by_cases h : a ≤ b
  · rw [of_sub h, if_pos (by rw [show (0 : Int32) = Int32.ofNat 0 from rfl, of_le (by omega) (by omega)]; omega), if_pos h]
  · have e3 : Int32.ofNat b - Int32.ofNat a = - Int32.ofNat (a - b) := by
      rw [← of_sub (show b ≤ a by omega), Int32.neg_sub]
    have e4 : ¬ (0 : Int32) ≤ - Int32.ofNat (a - b) := by
      rw [Int32.le_iff_toInt_le, Int32.toInt_neg, Int32.toInt_ofNat_of_lt (by omega), show (0 : Int32).toInt = 0 from rfl]
      unfold Int.bmod
      dsimp only
      split <;> omega
    rw [e3, if_neg e4, if_neg h, Int32.zero_sub, Int32.neg_neg]
theorem ab_r {a b : Nat} (ha : a ≤ 180) (hb : b ≤ 180) : (if 0 ≤ Int32.ofNat a - Int32.ofNat b then Int32.ofNat a - Int32.ofNat b else - (Int32.ofNat a - Int32.ofNat b)) = Int32.ofNat (if a ≤ b then b - a else a - b) := by
  by_cases h : b ≤ a
  · rw [of_sub h, if_pos (by rw [show (0 : Int32) = Int32.ofNat 0 from rfl, of_le (by omega) (by omega)]; omega)]
    congr 1
    by_cases h2 : a ≤ b
    · rw [if_pos h2]; omega
    · rw [if_neg h2]
  · have e3 : Int32.ofNat a - Int32.ofNat b = - Int32.ofNat (b - a) := by
      rw [← of_sub (show a ≤ b by omega), Int32.neg_sub]
    have e4 : ¬ (0 : Int32) ≤ - Int32.ofNat (b - a) := by
      rw [Int32.le_iff_toInt_le, Int32.toInt_neg, Int32.toInt_ofNat_of_lt (by omega), show (0 : Int32).toInt = 0 from rfl]
      unfold Int.bmod
      dsimp only
      split <;> omega
    rw [e3, if_neg e4, if_pos (by omega), Int32.neg_neg]
