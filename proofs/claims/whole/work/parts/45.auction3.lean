/-! ===== the class' sale: its cells ===== -/
def auD (a : Nat) (M : zM) : zS := (M.1 a 2, M.1 a 1, M.1 a 3, fun k => Nat.blt k 4 && ! decide (M.1 (a + 2) k = 0))
theorem s2 {X : (Nat → Int32) × Nat} {d a e : Nat} {M : zM} (hG : zGE M) (ha : zqk a 0 = true) (he : zqk e 1 = true) (hap : e + 27 ≤ a ∨ a + 5 ≤ e) : ∃ M', zC X d 2 [.ref a, .ref e] M = some (none, M') ∧ zfr (a + 1) (a + 2) M M' ∧ ∀ j, j < 4 → M'.1 (a + 1) j = M.1 (e + 16) j := by
  show ∃ M', zR X d 2 (0, [.ref a, .ref e], [], M) = some (none, M') ∧ _
  rw [t2_0 _ _ _ hG ha he (by omega)]
  refine ⟨_, rfl, zfr_r zfr_rf (by omega) (by omega), fun j hj => ?_⟩
  rw [zr_s]
  unfold va_cpy
  rw [if_pos (by omega), show 0 + (j - 0) = j by omega]
theorem s6 {X : (Nat → Int32) × Nat} {d a b : Nat} {M : zM} (hG : zGE M) (ha : zqk a 0 = true) (hb : b < 4) : zC X d 6 [.ref a, .int (Int32.ofNat b)] M = some (some (.long (if M.1 (a + 1) b < M.1 a 2 + M.1 a 5 then 0 else (M.1 a 2 + M.1 a 5).toInt64)), M) := by
  show zR X d 6 (0, [.ref a, .int (Int32.ofNat b)], [], M) = _
  rw [t6_0 _ _ _ hG ha (vp_of hb (by decide)), toNat_of (by omega)]
  by_cases h : M.1 (a + 1) b < M.1 a 2 + M.1 a 5
  · rw [if_pos h, if_pos h]
  · rw [if_neg h, if_neg h]
theorem s5 {X : (Nat → Int32) × Nat} {d a b : Nat} {x : Int64} {M : zM} (hG : zGE M) (ha : zqk a 0 = true) (hb : b < 4) : ∃ M', zC X d 5 [.ref a, .int (Int32.ofNat b), .long x] M = some (none, M') ∧ zfr a (a + 3) M M' ∧ auD a M' = pTake (M.1 a 5) (auD a M) b x ∧ (∀ k, 5 ≤ k → M'.1 a k = M.1 a k) ∧ M'.1 (a + 1) = M.1 (a + 1) ∧ M'.1 a 4 = (if x < (M.1 a 2 + M.1 a 5).toInt64 ∨ 999 < x then M.1 a 4 + 1 else M.1 a 4) := by
  show ∃ M', zR X d 5 (0, [.ref a, .int (Int32.ofNat b), .long x, zjk], [], M) = some (none, M') ∧ _
  have hv : vp_in (Int32.ofNat b) 4 := vp_of hb (by decide)
  have hbb : (Int32.ofNat b).toNatClampNeg = b := toNat_of (by omega)
  rw [t5_0 _ _ _ _ hG ha (fun _ => hv) (fun _ _ => hv), hbb]
  simp only [lgc_lt, lgc_gt]
  have n1 : ¬ a = a + 2 := by omega
  have n2 : ¬ a + 2 = a := by omega
  have n3 : ¬ a + 1 = a := by omega
  have n4 : ¬ a + 1 = a + 2 := by omega
  have out : ∀ c : x < (M.1 a 2 + M.1 a 5).toInt64 ∨ 999 < x, ∃ M', (some (none, zsI (zsI (zsI M a 3 (M.1 a 3 + 1)) (a + 2) b (1 &&& 1)) a 4 (M.1 a 4 + 1)) : Option zO) = some (none, M') ∧ zfr a (a + 3) M M' ∧ auD a M' = pTake (M.1 a 5) (auD a M) b x ∧ (∀ k, 5 ≤ k → M'.1 a k = M.1 a k) ∧ M'.1 (a + 1) = M.1 (a + 1) ∧ M'.1 a 4 = (if x < (M.1 a 2 + M.1 a 5).toInt64 ∨ 999 < x then M.1 a 4 + 1 else M.1 a 4) := by
    intro c
    refine ⟨_, rfl, zfr_I (zfr_I (zfr_I zfr_rf (by omega) (by omega)) (by omega) (by omega)) (by omega) (by omega), ?_, fun k hk => ?_, ?_, ?_⟩
    · unfold pTake auD
      dsimp only
      rw [if_pos c]
      simp only [zI_s, zI_n n1, zI_n n2, Nat.reduceEqDiff, reduceIte]
      congr 3
      funext k
      by_cases e : k = b
      · rw [if_pos e, if_pos e, e, show Nat.blt b 4 = true from Nat.blt_eq.mpr hb]; decide
      · rw [if_neg e, if_neg e]
    · simp only [zI_s, zI_n n1]
      rw [if_neg (by omega), if_neg (by omega)]
    · rw [zI_n1 n3, zI_n1 n4, zI_n1 n3]
    · rw [if_pos c, zI_s, if_pos rfl]
  by_cases c1 : x < (M.1 a 2 + M.1 a 5).toInt64
  · rw [if_pos c1]
    exact out (Or.inl c1)
  · rw [if_neg c1]
    by_cases c2 : 999 < x
    · rw [if_pos c2]
      exact out (Or.inr c2)
    · rw [if_neg c2]
      refine ⟨_, rfl, zfr_I (zfr_I (zfr_I zfr_rf (by omega) (by omega)) (by omega) (by omega)) (by omega) (by omega), ?_, fun k hk => ?_, ?_, ?_⟩
      · unfold pTake auD
        dsimp only
        rw [if_neg (not_or.mpr ⟨c1, c2⟩)]
        simp only [zI_s, zI_n n1, zI_n n2, Nat.reduceEqDiff, reduceIte]
      · simp only [zI_s]
        rw [if_neg (by omega), if_neg (by omega), if_neg (by omega)]
      · rw [zI_n1 n3, zI_n1 n3, zI_n1 n3]
      · rw [if_neg (not_or.mpr ⟨c1, c2⟩)]
        simp only [zI_s, Nat.reduceEqDiff, reduceIte]
theorem s4 {X : (Nat → Int32) × Nat} {d n a e s : Nat} {M : zM} (hG : zGE M) (ha : zqk a 0 = true) (he : zqk e 1 = true) (hs : zqk s 9 = true) (hap : e + 27 ≤ a ∨ a + 5 ≤ e) (hap2 : s + 2 ≤ a ∨ a + 5 ≤ s) (hE : okE (emD e M)) : ∃ M', zC X (d + 1) 4 [.ref a, .ref e, .ref s] M = some (none, M') ∧ zfr a (a + 4) M M' ∧ auD a M' = pS0 ∧ M'.1 (a + 1) = M.1 (a + 1) ∧ M'.1 a 4 = 0 ∧ M'.1 a 5 = M.1 (e + 4) 0 ∧ M'.1 a 6 = pMen (emD e M) (stD n s M) ∧ M'.1 a 7 = M.1 s 0 ∧ M'.1 a 8 = M.1 s 2 ∧ ∀ b, b < 4 → M'.1 (a + 3) b = M.1 (s + 1) b := by
  show ∃ M', zR X (d + 1) 4 (0, [.ref a, .ref e, .ref s, zjk], [], M) = some (none, M') ∧ _
  have n2 : ¬ a + 2 = a := by omega
  have n3 : ¬ a + 3 = a := by omega
  have n5 : ¬ a + 2 = a + 3 := by omega
  have n6 : ¬ a + 3 = a + 2 := by omega
  have n7 : ¬ a = a + 2 := by omega
  have n8 : ¬ a = a + 3 := by omega
  have n9 : ¬ a + 1 = a + 2 := by omega
  have n10 : ¬ a + 1 = a + 3 := by omega
  have n11 : ¬ a + 1 = a := by omega
  have loop : ∀ m i M1, i + m = 4 → zfr a (a + 4) M M1 → M1.1 (a + 1) = M.1 (a + 1) → M1.1 a 1 = -1 → M1.1 a 2 = 0 → M1.1 a 3 = 0 → M1.1 a 4 = 0 → M1.1 a 5 = M.1 (e + 4) 0 → M1.1 a 6 = pMen (emD e M) (stD n s M) → M1.1 a 7 = M.1 s 0 → M1.1 a 8 = M.1 s 2 → (∀ b, b < i → M1.1 (a + 2) b = 0 ∧ M1.1 (a + 3) b = M.1 (s + 1) b) → ∃ M', zR X (d + 1) 4 (59, [.ref a, .ref e, .ref s, .int (Int32.ofNat i)], [], M1) = some (none, M') ∧ zfr a (a + 4) M M' ∧ auD a M' = pS0 ∧ M'.1 (a + 1) = M.1 (a + 1) ∧ M'.1 a 4 = 0 ∧ M'.1 a 5 = M.1 (e + 4) 0 ∧ M'.1 a 6 = pMen (emD e M) (stD n s M) ∧ M'.1 a 7 = M.1 s 0 ∧ M'.1 a 8 = M.1 s 2 ∧ ∀ b, b < 4 → M'.1 (a + 3) b = M.1 (s + 1) b := by
    intro m
    induction m with
    | zero =>
      intro i M1 hi hf h1 k1 k2 k3 k4 k5 k6 k7 k8 hb
      rw [t4_59 _ _ _ _ _ (zfr_G hf hG) ha he hs (fun h => absurd (by rw [show (4 : Int32) = Int32.ofNat 4 from rfl, of_le (by omega) (by omega)]; omega) h) (by omega), if_pos (by rw [show (4 : Int32) = Int32.ofNat 4 from rfl, of_le (by omega) (by omega)]; omega)]
      refine ⟨M1, rfl, hf, ?_, h1, k4, k5, k6, k7, k8, fun b h => (hb b (by omega)).2⟩
      unfold auD pS0
      rw [k1, k2, k3]
      congr 3
      funext k
      cases h : Nat.blt k 4
      · rfl
      · rw [(hb k (by have := Nat.blt_eq.mp h; omega)).1]; rfl
    | succ m ih =>
      intro i M1 hi hf h1 k1 k2 k3 k4 k5 k6 k7 k8 hb
      have hp : M1.1 (s + 1) = M.1 (s + 1) := (hf.2 (s + 1) (by omega)).1
      rw [t4_59 _ _ _ _ _ (zfr_G hf hG) ha he hs (fun _ => vp_of (by omega) (by omega)) (by omega), if_neg (by rw [show (4 : Int32) = Int32.ofNat 4 from rfl, of_le (by omega) (by omega)]; omega), of_succ, toNat_of (by omega)]
      refine ih (i + 1) _ (by omega) (zfr_I (zfr_I hf (by omega) (by omega)) (by omega) (by omega)) ?_ ?_ ?_ ?_ ?_ ?_ ?_ ?_ ?_ (fun b h => ?_)
      · rw [zI_n1 n10, zI_n1 n9]; exact h1
      · rw [zI_n n8, zI_n n7]; exact k1
      · rw [zI_n n8, zI_n n7]; exact k2
      · rw [zI_n n8, zI_n n7]; exact k3
      · rw [zI_n n8, zI_n n7]; exact k4
      · rw [zI_n n8, zI_n n7]; exact k5
      · rw [zI_n n8, zI_n n7]; exact k6
      · rw [zI_n n8, zI_n n7]; exact k7
      · rw [zI_n n8, zI_n n7]; exact k8
      · rw [zI_n n5, zI_s, zI_s, zI_n n6, hp]
        by_cases e1 : b = i
        · rw [if_pos e1, if_pos e1, e1]
          exact ⟨by decide, rfl⟩
        · rw [if_neg e1, if_neg e1]
          exact hb b (by omega)
  have f1 : zfr a (a + 4) M (zsI (zsI (zsI (zsI (zsI M a 1 (-1)) a 2 0) a 3 0) a 4 0) a 5 (M.1 (e + 4) 0)) := zfr_I (zfr_I (zfr_I (zfr_I (zfr_I zfr_rf (by omega) (by omega)) (by omega) (by omega)) (by omega) (by omega)) (by omega) (by omega)) (by omega) (by omega)
  have hm := zfr_em f1 (e := e) (by omega)
  have hst := zfr_st f1 (n := n) (s := s) (by omega)
  have hG1 := zfr_G f1 hG
  rw [t4_0 _ _ _ _ _ hG ha he hs (by omega), s71 (n := n) hG1 hs he (by rw [hm]; exact hE), Option.bind_some, hm, hst]
  dsimp only [zps]
  rw [t4_38 _ _ _ _ _ _ _ hG1 ha he hs ha (by omega) (by omega)]
  refine loop 4 0 _ (by omega) (zfr_I (zfr_I (zfr_I f1 (by omega) (by omega)) (by omega) (by omega)) (by omega) (by omega)) ?_ ?_ ?_ ?_ ?_ ?_ ?_ ?_ ?_ (fun b h => absurd h (Nat.not_lt_zero _))
  · simp only [zI_n1 n11]
  all_goals simp only [zI_s, Nat.reduceEqDiff, reduceIte, zI_n (show ¬ s = a by omega)]
