/-! ===== reigns drawn ===== -/
def pX (x : Nat) : Nat := (x * 1103515245 + 12345) % 2147483648
def pXs (x : Nat) : Nat → Nat
  | 0 => x
  | k + 1 => pX (pXs x k)
theorem pX_lt (x : Nat) : pX x < 2147483648 := Nat.mod_lt _ (by omega)
theorem pXs_lt {x : Nat} (h : x < 2147483648) : ∀ k, pXs x k < 2147483648
  | 0 => h
  | _ + 1 => pX_lt _
theorem l64_div {i n : Nat} (hi : i < 9223372036854775808) (hn : n < 9223372036854775808) : Int64.ofNat i / Int64.ofNat n = Int64.ofNat (i / n) := by
  have h : i / n ≤ i := Nat.div_le_self i n
  rw [← Int64.toInt_inj, Int64.toInt_div, Int64.toInt_ofNat_of_lt hi, Int64.toInt_ofNat_of_lt hn, Int64.toInt_ofNat_of_lt (by omega), ← Int.ofNat_tdiv]
  generalize i / n = q at h ⊢
  unfold Int.bmod
  dsimp only
  split <;> omega
theorem l64_mod {i n : Nat} (hi : i < 9223372036854775808) (hn : n < 9223372036854775808) : Int64.ofNat i - Int64.ofNat i / Int64.ofNat n * Int64.ofNat n = Int64.ofNat (i % n) := by
  have h : Int64.ofNat i = Int64.ofNat (i % n) + Int64.ofNat (i / n * n) := by
    rw [← Int64.ofNat_add]
    congr 1
    have := Nat.mod_add_div i n
    rw [Nat.mul_comm] at this
    omega
  rw [l64_div hi hn, ← Int64.ofNat_mul]
  conv => lhs; lhs; rw [h]
  exact Int64.add_sub_cancel _ _
theorem l64_and (y : Nat) (hy : y < 9223372036854775808) : Int64.ofNat y &&& 2147483647 = Int64.ofNat (y % 2147483648) := by
  rw [← Int64.toBitVec_inj, Int64.toBitVec_and]
  apply BitVec.eq_of_toNat_eq
  rw [BitVec.toNat_and]
  have e1 : (Int64.ofNat y).toBitVec.toNat = y := by
    show (BitVec.ofNat 64 y).toNat = y
    rw [BitVec.toNat_ofNat]
    omega
  have e2 : (Int64.ofNat (y % 2147483648)).toBitVec.toNat = y % 2147483648 := by
    show (BitVec.ofNat 64 (y % 2147483648)).toNat = _
    rw [BitVec.toNat_ofNat]
    omega
  have e3 : (2147483647 : Int64).toBitVec.toNat = 2 ^ 31 - 1 := by decide
  rw [e1, e2, e3, Nat.and_two_pow_sub_one_eq_mod]
theorem i64_of {x : Nat} (h : x < 2147483648) : (Int32.ofNat x).toInt64 = Int64.ofNat x := by
  rw [← Int64.toInt_inj, Int32.toInt_toInt64, Int32.toInt_ofNat_of_lt h, Int64.toInt_ofNat_of_lt (by omega)]
theorem i32_of {x : Nat} (h : x < 2147483648) : (Int64.ofNat x).toInt32 = Int32.ofNat x := by
  rw [← Int32.toInt_inj, Int64.toInt_toInt32, Int64.toInt_ofNat_of_lt (by omega), Int32.toInt_ofNat_of_lt h]
  unfold Int.bmod
  dsimp only
  split <;> omega
theorem lcg_y (x : Nat) : Int64.ofNat x * 1103515245 + 12345 = Int64.ofNat (x * 1103515245 + 12345) := by
  rw [Int64.ofNat_add, Int64.ofNat_mul]
  rfl
theorem lcgD {x : Nat} (h : x < 2147483648) : (Int64.ofNat x * 1103515245 + 12345) &&& (2147483647 : Int64) = Int64.ofNat (pX x) := by
  rw [lcg_y, l64_and _ (by omega)]
  rfl
theorem lcgR {x : Nat} (h : x < 2147483648) : (((Int32.ofNat x).toInt64 * 1103515245 + 12345) - ((Int32.ofNat x).toInt64 * 1103515245 + 12345) / 2147483648 * 2147483648).toInt32 = Int32.ofNat (pX x) := by
  rw [i64_of h, lcg_y, show (2147483648 : Int64) = Int64.ofNat 2147483648 from rfl, l64_mod (by omega) (by omega), i32_of (Nat.mod_lt _ (by omega))]
  rfl
theorem darD {x : Nat} (h : x < 2147483648) : (Int64.ofNat x / 65536 - Int64.ofNat x / 65536 / 100 * 100).toInt32 = Int32.ofNat (x / 65536 % 100) := by
  rw [show (65536 : Int64) = Int64.ofNat 65536 from rfl, l64_div (by omega) (by omega), show (100 : Int64) = Int64.ofNat 100 from rfl, l64_mod (by omega) (by omega), i32_of (by omega)]
theorem darR {x : Nat} (h : x < 2147483648) : Int32.ofNat x / Int32.ofNat 65536 - Int32.ofNat x / Int32.ofNat 65536 / Int32.ofNat 100 * Int32.ofNat 100 = Int32.ofNat (x / 65536 % 100) := by
  rw [of_div h (by omega), of_mod (by omega) (by omega)]
def pDd (x : Nat) : Nat → Int32 := fun j => Int32.ofNat (pXs x (j + 1) / 65536 % 100)
def pRe (E : zE) (A : zA) (b x : Nat) : Nat → Nat × Nat × Nat
  | 0 => (x, 0, 0)
  | i + 1 => if (pWon E A (pDd (pRe E A b x i).1) none).2.1 = Int32.ofNat b then (pXs (pRe E A b x i).1 (nD E), (pRe E A b x i).2.1 + 1, (pRe E A b x i).2.2 + pDays E (pCrown A (Int32.ofNat b) (pWon E A (pDd (pRe E A b x i).1) none).1) 200) else (pXs (pRe E A b x i).1 (nD E), (pRe E A b x i).2.1, (pRe E A b x i).2.2)
theorem pRe_1 {E : zE} {A : zA} {b x i : Nat} : (pRe E A b x (i + 1)).1 = pXs (pRe E A b x i).1 (nD E) := by
  rw [pRe]
  split <;> rfl
theorem pRe_lt {E : zE} {A : zA} {b x : Nat} (h : x < 2147483648) : ∀ i, (pRe E A b x i).1 < 2147483648
  | 0 => h
  | i + 1 => by rw [pRe_1]; exact pXs_lt (pRe_lt h i) _
def pReigns (E : zE) (A : zA) (x : Nat) (m b w : Int32) : Int32 := if b < 0 ∨ E 0 4 ≤ b then -1 else if m < 1 ∨ 20 < m then -1 else if w < 0 ∨ 1 < w then -1 else if w = 0 then Int32.ofNat (pRe E A b.toNatClampNeg x m.toNatClampNeg).2.1 else Int32.ofNat (pRe E A b.toNatClampNeg x m.toNatClampNeg).2.2
theorem s35 {X : (Nat → Int32) × Nat} {d b mm x : Nat} {M : zM} (hG : zGE M) (hE : okE (emD 40 M)) (hT : okT (emD 40 M)) (hb : b < nD (emD 40 M)) (hm : mm ≤ 20) (hx : x < 2147483648) (hxx : M.1 39 3 = Int32.ofNat x) : ∃ M', zC X (d + 6) 35 [.ref 119, .ref 39, .int (Int32.ofNat mm), .int (Int32.ofNat b)] M = some (none, M') ∧ zfr 114 150 M M' ∧ M'.1 119 5 = Int32.ofNat (pRe (emD 40 M) (aD 40 67 M) b x mm).2.1 ∧ M'.1 119 4 = Int32.ofNat (pRe (emD 40 M) (aD 40 67 M) b x mm).2.2 := by
  show ∃ M', zR X (d + 6) 35 (0, [.ref 119, .ref 39, .int (Int32.ofNat mm), .int (Int32.ofNat b), zjk, zjk, zjk, zjk], [], M) = some (none, M') ∧ _
  obtain ⟨hn4, hc⟩ := emD_D hE
  have loop : ∀ m i v7 M1, i + m = mm → zfr 114 150 M M1 → M1.1 119 5 = Int32.ofNat (pRe (emD 40 M) (aD 40 67 M) b x i).2.1 → M1.1 119 4 = Int32.ofNat (pRe (emD 40 M) (aD 40 67 M) b x i).2.2 → ∃ M', zR X (d + 6) 35 (20, [.ref 119, .ref 39, .int (Int32.ofNat mm), .int (Int32.ofNat b), .long (Int64.ofNat (pRe (emD 40 M) (aD 40 67 M) b x i).1), zjk, .int (Int32.ofNat i), v7], [], M1) = some (none, M') ∧ zfr 114 150 M M' ∧ M'.1 119 5 = Int32.ofNat (pRe (emD 40 M) (aD 40 67 M) b x mm).2.1 ∧ M'.1 119 4 = Int32.ofNat (pRe (emD 40 M) (aD 40 67 M) b x mm).2.2 := by
    intro m
    induction m with
    | zero =>
      intro i v7 M1 hi hf h5 h4
      rw [t35_20 39 _ _ _ _ _ _ (zfr_G hf hG) zq_39, if_pos (by rw [of_le (by omega) (by omega)]; omega)]
      rw [show i = mm by omega] at h5 h4
      exact ⟨M1, rfl, hf, h5, h4⟩
    | succ m ih =>
      intro i v7 M1 hi hf h5 h4
      have hxi := pRe_lt (E := emD 40 M) (A := aD 40 67 M) (b := b) hx i
      have hst0 := pRe_1 (E := emD 40 M) (A := aD 40 67 M) (b := b) (x := x) (i := i)
      have hstd : pRe (emD 40 M) (aD 40 67 M) b x (i + 1) = if (pWon (emD 40 M) (aD 40 67 M) (pDd (pRe (emD 40 M) (aD 40 67 M) b x i).1) none).2.1 = Int32.ofNat b then (pXs (pRe (emD 40 M) (aD 40 67 M) b x i).1 (nD (emD 40 M)), (pRe (emD 40 M) (aD 40 67 M) b x i).2.1 + 1, (pRe (emD 40 M) (aD 40 67 M) b x i).2.2 + pDays (emD 40 M) (pCrown (aD 40 67 M) (Int32.ofNat b) (pWon (emD 40 M) (aD 40 67 M) (pDd (pRe (emD 40 M) (aD 40 67 M) b x i).1) none).1) 200) else (pXs (pRe (emD 40 M) (aD 40 67 M) b x i).1 (nD (emD 40 M)), (pRe (emD 40 M) (aD 40 67 M) b x i).2.1, (pRe (emD 40 M) (aD 40 67 M) b x i).2.2) := rfl
      generalize hp : pRe (emD 40 M) (aD 40 67 M) b x i = p at h5 h4 hxi hstd hst0 ⊢
      obtain ⟨xi, wi, di⟩ := p
      have hxi : xi < 2147483648 := hxi
      have h5 : M1.1 119 5 = Int32.ofNat wi := h5
      have h4 : M1.1 119 4 = Int32.ofNat di := h4
      rw [t35_20 39 _ _ _ _ _ _ (zfr_G hf hG) zq_39, if_neg (by rw [of_le (by omega) (by omega)]; omega)]
      have inner : ∀ m k M2, k + m = nD (emD 40 M) → zfr 114 150 M M2 → M2.1 119 = M1.1 119 → (∀ j, j < k → M2.1 125 j = pDd xi j) → ∃ M', zR X (d + 6) 35 (29, [.ref 119, .ref 39, .int (Int32.ofNat mm), .int (Int32.ofNat b), .long (Int64.ofNat (pXs xi k)), zjk, .int (Int32.ofNat i), .int (Int32.ofNat k)], [], M2) = some (none, M') ∧ zfr 114 150 M M' ∧ M'.1 119 5 = Int32.ofNat (pRe (emD 40 M) (aD 40 67 M) b x mm).2.1 ∧ M'.1 119 4 = Int32.ofNat (pRe (emD 40 M) (aD 40 67 M) b x mm).2.2 := by
        intro m
        induction m with
        | zero =>
          intro k M2 hk hf2 e119 hd
          have hG2 := zfr_G hf2 hG
          have em : emD 40 M2 = emD 40 M := zfr_em hf2 (by omega)
          have est : stD (nD (emD 40 M)) 67 M2 = aD 40 67 M := zfr_st hf2 (by omega)
          have e41 : M2.1 41 4 = Int32.ofNat (nD (emD 40 M)) := by rw [(hf2.2 41 (by omega)).1]; exact hc
          have hkn : k = nD (emD 40 M) := by omega
          subst hkn
          obtain ⟨M3, q1, q2, q3, q4⟩ := s3n (X := X) (d := d + 3) (a := 124) (e := 40) (s := 67) (M := M2) (D := pDd xi) hG2 zq_124 zq_40 zq_67 (by omega) (by omega) (by rw [em]; exact hE) (by rw [em]; exact hT) (by rw [em]; exact hd)
          rw [em, est] at q3
          have hf3 : zfr 114 150 M M3 := zfr_tr hf2 (zfr_up q2 (by omega) (by omega))
          have hG3 := zfr_G hf3 hG
          have w1 : M3.1 124 1 = (pWon (emD 40 M) (aD 40 67 M) (pDd xi) none).2.1 := by rw [← q3]; rfl
          have w2 : M3.1 124 2 = (pWon (emD 40 M) (aD 40 67 M) (pDd xi) none).1 := by rw [← q3]; rfl
          have e119' : M3.1 119 = M1.1 119 := (q2.2 119 (by omega)).1.trans e119
          have lem := t35_29 (X := X) (d := d + 5) 39 (Int32.ofNat mm) (Int32.ofNat b) (Int64.ofNat (pXs xi (nD (emD 40 M)))) (Int32.ofNat i) (Int32.ofNat (nD (emD 40 M))) M2 hG2 zq_39
          simp only [Nat.reduceAdd, e41] at lem
          rw [lem (fun h => absurd (Int32.le_refl _) h), if_pos (Int32.le_refl _), q1, Option.bind_some]
          clear lem
          dsimp only [zps]
          have lem2 := t35_102 (X := X) (d := d + 5) 39 (Int32.ofNat mm) (Int32.ofNat b) (Int64.ofNat (pXs xi (nD (emD 40 M)))) (Int32.ofNat i) (Int32.ofNat (nD (emD 40 M))) M3 hG3 zq_39
          simp only [Nat.reduceAdd, w1, e119', h5, h4, of_succ] at lem2
          rw [lem2]
          clear lem2
          by_cases c1 : (pWon (emD 40 M) (aD 40 67 M) (pDd xi) none).2.1 = Int32.ofNat b
          · rw [if_pos c1] at hstd
            rw [if_neg (not_not_intro c1)]
            have hf4 : zfr 114 150 M (zsI M3 119 5 (Int32.ofNat (wi + 1))) := zfr_I hf3 (by omega) (by omega)
            have w1' : (zsI M3 119 5 (Int32.ofNat (wi + 1))).1 124 1 = (pWon (emD 40 M) (aD 40 67 M) (pDd xi) none).2.1 := by rw [zI_n (by decide)]; exact w1
            have w2' : (zsI M3 119 5 (Int32.ofNat (wi + 1))).1 124 2 = (pWon (emD 40 M) (aD 40 67 M) (pDd xi) none).1 := by rw [zI_n (by decide)]; exact w2
            obtain ⟨M5, y1, y2⟩ := s30 (X := X) (d := d) (e := 40) (s := 67) (K := M) (M := zsI M3 119 5 (Int32.ofNat (wi + 1))) hG zq_40 zq_67 (by omega) (by omega) hE hf4 (by rw [w1', c1]; exact okR_b hb)
            rw [w1', w2', c1] at y1
            have hf5 : zfr 114 150 M M5 := zfr_tr hf4 (zfr_up y2 (by omega) (by omega))
            have e5 : M5.1 119 5 = Int32.ofNat (wi + 1) := by rw [(y2.2 119 (by omega)).1, zI_s, if_pos rfl]
            rw [y1, Option.bind_some]
            dsimp only [zps]
            rw [t35_140 39 _ _ _ _ _ _ _ _ (zfr_G hf5 hG) zq_39, of_succ, ← Int32.ofNat_add]
            have h9 := ih (i + 1) (.int (Int32.ofNat (nD (emD 40 M)))) (zsI M5 119 4 (Int32.ofNat (di + pDays (emD 40 M) (pCrown (aD 40 67 M) (Int32.ofNat b) (pWon (emD 40 M) (aD 40 67 M) (pDd xi) none).1) 200))) (by omega) (zfr_I hf5 (by omega) (by omega)) (by rw [hstd, zI_s, if_neg (by decide)]; exact e5) (by rw [hstd, zI_s, if_pos rfl])
            rw [hstd] at h9
            exact h9
          · rw [if_neg c1] at hstd
            rw [if_pos c1]
            have h9 := ih (i + 1) (.int (Int32.ofNat (nD (emD 40 M)))) M3 (by omega) hf3 (by rw [hstd, e119']; exact h5) (by rw [hstd, e119']; exact h4)
            rw [hstd] at h9
            exact h9
        | succ m ih2 =>
          intro k M2 hk hf2 e119 hd
          have hG2 := zfr_G hf2 hG
          have e41 : M2.1 41 4 = Int32.ofNat (nD (emD 40 M)) := by rw [(hf2.2 41 (by omega)).1]; exact hc
          have hxk := pXs_lt hxi k
          have lem := t35_29 (X := X) (d := d + 5) 39 (Int32.ofNat mm) (Int32.ofNat b) (Int64.ofNat (pXs xi k)) (Int32.ofNat i) (Int32.ofNat k) M2 hG2 zq_39
          simp only [Nat.reduceAdd, e41] at lem
          rw [lem (fun _ => vp_of (by omega) (by omega)), if_neg (by rw [of_le (by omega) (by omega)]; omega), lcgD hxk, darD (pX_lt _), of_succ, toNat_of (by omega)]
          refine ih2 (k + 1) _ (by omega) (zfr_I hf2 (by omega) (by omega)) (by rw [zI_n1 (by decide)]; exact e119) (fun j hj => ?_)
          rw [zI_s]
          by_cases e : j = k
          · rw [if_pos e, e]; rfl
          · rw [if_neg e]; exact hd j (by omega)
      exact inner (nD (emD 40 M)) 0 M1 (by omega) hf rfl (fun j hj => absurd hj (Nat.not_lt_zero _))
  have hf0 : zfr 114 150 M (zsI (zsI M 119 5 0) 119 4 0) := zfr_I (zfr_I zfr_rf (by omega) (by omega)) (by omega) (by omega)
  rw [t35_0 39 _ _ _ _ _ _ _ hG zq_39 (by decide), hxx, i64_of hx]
  exact loop mm 0 zjk _ (by omega) hf0 (by rw [zI_s, if_neg (by decide), zI_s, if_pos rfl]; rfl) (by rw [zI_s, if_pos rfl]; rfl)
theorem s129 {X : (Nat → Int32) × Nat} {d x : Nat} {m b w : Int32} {M : zM} (hG : zGE M) (hE : okE (emD 40 M)) (hT : emD 40 M 0 0 = 1 → okT (emD 40 M)) (hZ : ¬ emD 40 M 0 0 = 1 → emD 40 M 0 4 = 0) (hx : x < 2147483648) (hxx : M.1 39 3 = Int32.ofNat x) : ∃ M', zC X (d + 7) 129 [.ref 0, .int m, .int b, .int w] M = some (some (.int (pReigns (emD 40 M) (aD 40 67 M) x m b w)), M') ∧ zfr 114 150 M M' := by
  show ∃ M', zR X (d + 7) 129 (0, [.ref 0, .int m, .int b, .int w], [], M) = some (some (.int _), M') ∧ _
  obtain ⟨hn4, hc⟩ := emD_D hE
  have hc' : emD 40 M 0 4 = Int32.ofNat (nD (emD 40 M)) := (emD_0 (by decide)).trans hc
  unfold pReigns
  rw [t129_0 _ _ _ _ hG, show (4 : Int32) = Int32.ofNat 4 from rfl, s12 hG zq_40 (by omega), Option.bind_some]
  dsimp only [zps]
  rw [t129_23 _ _ _ _ _ hG]
  by_cases c1 : m < 1
  · rw [if_pos c1, if_pos (Or.inl c1), ite_self]
    exact ⟨M, rfl, zfr_rf⟩
  · rw [if_neg c1]
    by_cases c2 : 20 < m
    · rw [if_pos c2, if_pos (Or.inr c2), ite_self]
      exact ⟨M, rfl, zfr_rf⟩
    · rw [if_neg c2, if_neg (not_or.mpr ⟨c1, c2⟩)]
      by_cases c0 : b < 0 ∨ emD 40 M 0 4 ≤ b
      · rw [if_pos c0, if_pos c0, if_pos rfl]
        exact ⟨M, rfl, zfr_rf⟩
      · obtain ⟨e1, e2⟩ := of_has (by omega) hc' c0
        have ht : okT (emD 40 M) := hasT hT hZ hc' (by omega) e2
        rw [if_neg c0, if_neg c0, if_neg (by decide)]
        by_cases c3 : w < 0
        · rw [if_pos c3, if_pos (Or.inl c3)]
          exact ⟨M, rfl, zfr_rf⟩
        · rw [if_neg c3]
          by_cases c4 : 1 < w
          · rw [if_neg (Int32.not_le.mpr c4), if_pos (Or.inr c4)]
            exact ⟨M, rfl, zfr_rf⟩
          · obtain ⟨g1, g2, g3⟩ := of_range (x := m) (a := 1) (b := 20) (by omega) (by omega) (not_or.mpr ⟨c1, c2⟩)
            obtain ⟨M', q1, q2, q3, q4⟩ := s35 (X := X) (d := d) (b := b.toNatClampNeg) (mm := m.toNatClampNeg) (x := x) hG hE ht e2 g3 hx hxx
            rw [← e1, ← g1] at q1
            rw [if_pos (Int32.not_lt.mp c4), if_neg (not_or.mpr ⟨c3, c4⟩), q1, Option.bind_some]
            dsimp only [zps]
            rw [t129_50 _ _ _ _ (zfr_G q2 hG), q3, q4]
            by_cases c5 : w = 0
            · rw [if_neg (not_not_intro c5), if_pos c5]; exact ⟨M', rfl, q2⟩
            · rw [if_pos c5, if_neg c5]; exact ⟨M', rfl, q2⟩
