/-! ===== the class' sale: its cells ===== -/
def auD (a : Nat) (M : zM) : zS := (M.1 a 2, M.1 a 1, M.1 a 3, fun k => ! decide (M.1 (a + 2) k = 0))
theorem s2 {X : (Nat → Int32) × Nat} {d a e : Nat} {M : zM} (hG : zGE M) (ha : zqk a 0 = true) (he : zqk e 1 = true) (hap : e + 27 ≤ a ∨ a + 5 ≤ e) : ∃ M', zC X d 2 [.ref a, .ref e] M = some (none, M') ∧ zfr (a + 1) (a + 2) M M' ∧ ∀ j, j < 4 → M'.1 (a + 1) j = M.1 (e + 16) j := by
  show ∃ M', zR X d 2 (0, [.ref a, .ref e], [], M) = some (none, M') ∧ _
  rw [t2_0 _ _ _ hG ha he (by omega)]
  refine ⟨_, rfl, zfr_r zfr_rf (by omega) (by omega), fun j hj => ?_⟩
  rw [zr_s]
  unfold va_cpy
  rw [if_pos (by omega), show 0 + (j - 0) = j by omega]
theorem s6 {X : (Nat → Int32) × Nat} {d a b : Nat} {M : zM} (hG : zGE M) (ha : zqk a 0 = true) (hb : b < 4) : zC X d 6 [.ref a, .int (Int32.ofNat b)] M = some (some (.long (if M.1 (a + 1) b < M.1 a 2 + M.1 a 5 then 0 else (M.1 a 2 + M.1 a 5).toInt64)), M) := by
  show zR X d 6 (0, [.ref a, .int (Int32.ofNat b)], [], M) = _
  rw [t6_0 _ _ _ hG ha (vp_of hb (by decide)), toNat_of (by omega)]
  by_cases h : M.1 (a + 1) b < M.1 a 2 + M.1 a 5
  · rw [if_pos h, if_pos h]
  · rw [if_neg h, if_neg h]
theorem s5 {X : (Nat → Int32) × Nat} {d a b : Nat} {x : Int64} {M : zM} (hG : zGE M) (ha : zqk a 0 = true) (hb : b < 4) : ∃ M', zC X d 5 [.ref a, .int (Int32.ofNat b), .long x] M = some (none, M') ∧ zfr a (a + 3) M M' ∧ auD a M' = pTake (M.1 a 5) (auD a M) b x ∧ (∀ k, 5 ≤ k → M'.1 a k = M.1 a k) ∧ M'.1 (a + 1) = M.1 (a + 1) ∧ M'.1 a 4 = (if x < (M.1 a 2 + M.1 a 5).toInt64 ∨ 999 < x then M.1 a 4 + 1 else M.1 a 4) := by
  show ∃ M', zR X d 5 (0, [.ref a, .int (Int32.ofNat b), .long x, zjk], [], M) = some (none, M') ∧ _
  have hv : vp_in (Int32.ofNat b) 4 := vp_of hb (by decide)
  have hbb : (Int32.ofNat b).toNatClampNeg = b := toNat_of (by omega)
  rw [t5_0 _ _ _ _ hG ha (fun _ => hv) (fun _ _ => hv), hbb]
  simp only [lgc_lt, lgc_gt]
  have n1 : ¬ a = a + 2 := by omega
  have n2 : ¬ a + 2 = a := by omega
  have n3 : ¬ a + 1 = a := by omega
  have n4 : ¬ a + 1 = a + 2 := by omega
  have out : ∀ c : x < (M.1 a 2 + M.1 a 5).toInt64 ∨ 999 < x, ∃ M', (some (none, zsI (zsI (zsI M a 3 (M.1 a 3 + 1)) (a + 2) b (1 &&& 1)) a 4 (M.1 a 4 + 1)) : Option zO) = some (none, M') ∧ zfr a (a + 3) M M' ∧ auD a M' = pTake (M.1 a 5) (auD a M) b x ∧ (∀ k, 5 ≤ k → M'.1 a k = M.1 a k) ∧ M'.1 (a + 1) = M.1 (a + 1) ∧ M'.1 a 4 = (if x < (M.1 a 2 + M.1 a 5).toInt64 ∨ 999 < x then M.1 a 4 + 1 else M.1 a 4) := by
    intro c
    refine ⟨_, rfl, zfr_I (zfr_I (zfr_I zfr_rf (by omega) (by omega)) (by omega) (by omega)) (by omega) (by omega), ?_, fun k hk => ?_, ?_, ?_⟩
    · unfold pTake auD
      dsimp only
      rw [if_pos c]
      simp only [zI_s, zI_n n1, zI_n n2, Nat.reduceEqDiff, reduceIte]
      congr 3
      funext k
      by_cases e : k = b
      · rw [if_pos e, if_pos e]; decide
      · rw [if_neg e, if_neg e]
    · simp only [zI_s, zI_n n1]
      rw [if_neg (by omega), if_neg (by omega)]
    · rw [zI_n1 n3, zI_n1 n4, zI_n1 n3]
    · rw [if_pos c, zI_s, if_pos rfl]
  by_cases c1 : x < (M.1 a 2 + M.1 a 5).toInt64
  · rw [if_pos c1]
    exact out (Or.inl c1)
  · rw [if_neg c1]
    by_cases c2 : 999 < x
    · rw [if_pos c2]
      exact out (Or.inr c2)
    · rw [if_neg c2]
      refine ⟨_, rfl, zfr_I (zfr_I (zfr_I zfr_rf (by omega) (by omega)) (by omega) (by omega)) (by omega) (by omega), ?_, fun k hk => ?_, ?_, ?_⟩
      · unfold pTake auD
        dsimp only
        rw [if_neg (not_or.mpr ⟨c1, c2⟩)]
        simp only [zI_s, zI_n n1, zI_n n2, Nat.reduceEqDiff, reduceIte]
      · simp only [zI_s]
        rw [if_neg (by omega), if_neg (by omega), if_neg (by omega)]
      · rw [zI_n1 n3, zI_n1 n3, zI_n1 n3]
      · rw [if_neg (not_or.mpr ⟨c1, c2⟩)]
        simp only [zI_s, Nat.reduceEqDiff, reduceIte]
