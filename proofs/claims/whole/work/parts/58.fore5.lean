/-! ===== whom to bribe ===== -/
/-- the numbers told lie where they may -/
def okX (E : zE) : Prop := (∀ g, g < nG E → ∃ k, k ≤ 30 ∧ E 4 g = Int32.ofNat k) ∧ (∀ g, g < nN E → ∃ k, k ≤ 200 ∧ E 8 g = Int32.ofNat k) ∧ ∀ g, g < nN E → ∃ k, k ≤ 999 ∧ E 9 g = Int32.ofNat k
def pPr (E : zE) (c : Nat) : Nat → Int32
  | 0 => 0
  | k + 1 => bif pb (Int32.ofNat c) k then pPr E c k + E 9 k else pPr E c k
def pAl (f : Nat → Bool) (c : Nat) : Nat → Bool
  | 0 => true
  | k + 1 => pAl f c k && (! pb (Int32.ofNat c) k || f k)
def pCn (f : Nat → Bool) : Nat → Int32
  | 0 => 0
  | k + 1 => bif f k then pCn f k ||| (1 <<< (Int32.ofNat k &&& 31)) else pCn f k
theorem pPr_b {E : zE} {c : Nat} (h : okX E) : ∀ k, k ≤ nN E → ∃ v, v ≤ 999 * k ∧ pPr E c k = Int32.ofNat v
  | 0, _ => ⟨0, by omega, rfl⟩
  | k + 1, hk => by
    obtain ⟨v, h1, h2⟩ := pPr_b (c := c) h k (by omega)
    obtain ⟨w, h3, h4⟩ := h.2.2 k (by omega)
    rw [pPr]
    cases pb (Int32.ofNat c) k
    · exact ⟨v, by omega, h2⟩
    · exact ⟨v + w, by omega, by rw [cond_true, h2, h4, Int32.ofNat_add]⟩
theorem bits4 : ∀ b0 b1 b2 b3 : Bool, ∀ c, c < 16 → (((Int32.ofNat c &&& (pCn (fun g => if g = 0 then b0 else if g = 1 then b1 else if g = 2 then b2 else b3) 4 ^^^ -1)) = 0) ↔ pAl (fun g => if g = 0 then b0 else if g = 1 then b1 else if g = 2 then b2 else b3) c 4 = true) := by decide +kernel
theorem bits4l : ∀ b0 b1 b2 b3 : Bool, ∀ c, c < 16 → pAl (fun g => if g = 0 then b0 else if g = 1 then b1 else if g = 2 then b2 else b3) c 4 = true → Int32.ofNat c ≤ pCn (fun g => if g = 0 then b0 else if g = 1 then b1 else if g = 2 then b2 else b3) 4 := by decide +kernel
theorem bits4r : ∀ b0 b1 b2 b3 : Bool, ∃ v, v < 16 ∧ pCn (fun g => if g = 0 then b0 else if g = 1 then b1 else if g = 2 then b2 else b3) 4 = Int32.ofNat v := by
  intro b0 b1 b2 b3
  refine ⟨(pCn (fun g => if g = 0 then b0 else if g = 1 then b1 else if g = 2 then b2 else b3) 4).toNatClampNeg, ?_⟩
  revert b0 b1 b2 b3
  decide +kernel
theorem pCn_c {f g : Nat → Bool} : ∀ k, (∀ j, j < k → f j = g j) → pCn f k = pCn g k
  | 0, _ => rfl
  | k + 1, h => by rw [pCn, pCn, h k (by omega), pCn_c k (fun j hj => h j (by omega))]
theorem pAl_c {f g : Nat → Bool} {c : Nat} : ∀ k, (∀ j, j < k → f j = g j) → pAl f c k = pAl g c k
  | 0, _ => rfl
  | k + 1, h => by rw [pAl, pAl, h k (by omega), pAl_c k (fun j hj => h j (by omega))]
def cut4 (f : Nat → Bool) (k : Nat) : Nat → Bool := fun g => if g = 0 then Nat.blt 0 k && f 0 else if g = 1 then Nat.blt 1 k && f 1 else if g = 2 then Nat.blt 2 k && f 2 else Nat.blt 3 k && f 3
theorem cut4_f {f : Nat → Bool} {k j : Nat} (h : j < 4) : cut4 f k j = (Nat.blt j k && f j) := by
  rcases (show j = 0 ∨ j = 1 ∨ j = 2 ∨ j = 3 by omega) with rfl | rfl | rfl | rfl <;> rfl
theorem pCn_up {f : Nat → Bool} {k : Nat} : ∀ m, k + m ≤ 4 → pCn (cut4 f k) (k + m) = pCn f k
  | 0, h => by
    refine pCn_c k (fun j hj => ?_)
    rw [cut4_f (by omega), Nat.blt_eq.mpr hj, Bool.true_and]
  | m + 1, h => by
    show pCn (cut4 f k) (k + m + 1) = _
    rw [pCn, cut4_f (by omega), show Nat.blt (k + m) k = false by cases hh : Nat.blt (k + m) k; rfl; have := Nat.blt_eq.mp hh; omega, Bool.false_and, cond_false]
    exact pCn_up m (by omega)
theorem pb_hi : ∀ k, k ≤ 4 → ∀ c, c < 2 ^ k → ∀ j, k ≤ j → j < 4 → pb (Int32.ofNat c) j = false := by
  intro k hk c hc j h1 h2
  have : ∀ c, c < 16 → ∀ j, j < 4 → c < 2 ^ j → pb (Int32.ofNat c) j = false := by decide +kernel
  have h3 : 2 ^ k ≤ 2 ^ j := Nat.pow_le_pow_right (by omega) h1
  have h4 : 2 ^ k ≤ 2 ^ 4 := Nat.pow_le_pow_right (by omega) hk
  exact this c (by omega) j h2 (by omega)
theorem pAl_up {f : Nat → Bool} {k c : Nat} (hc : c < 2 ^ k) : ∀ m, k + m ≤ 4 → pAl (cut4 f k) c (k + m) = pAl f c k
  | 0, h => by
    refine pAl_c k (fun j hj => ?_)
    rw [cut4_f (by omega), Nat.blt_eq.mpr hj, Bool.true_and]
  | m + 1, h => by
    show pAl (cut4 f k) c (k + m + 1) = _
    rw [pAl, pb_hi k (by omega) c hc (k + m) (by omega) (by omega), Bool.not_false, Bool.true_or, Bool.and_true]
    exact pAl_up hc m (by omega)
theorem bitsk {f : Nat → Bool} {k c : Nat} (hk : k ≤ 4) (hc : c < 2 ^ k) : (((Int32.ofNat c &&& (pCn f k ^^^ -1)) = 0) ↔ pAl f c k = true) ∧ (pAl f c k = true → Int32.ofNat c ≤ pCn f k) := by
  have h4 : 2 ^ k ≤ 2 ^ 4 := Nat.pow_le_pow_right (by omega) hk
  have e1 : pCn (cut4 f k) 4 = pCn f k := by
    have := pCn_up (f := f) (k := k) (4 - k) (by omega)
    rw [show k + (4 - k) = 4 by omega] at this
    exact this
  have e2 : pAl (cut4 f k) c 4 = pAl f c k := by
    have := pAl_up (f := f) (k := k) (c := c) hc (4 - k) (by omega)
    rw [show k + (4 - k) = 4 by omega] at this
    exact this
  rw [← e1, ← e2]
  exact ⟨bits4 _ _ _ _ c (by omega), bits4l _ _ _ _ c (by omega)⟩
theorem pCn_r {f : Nat → Bool} {k : Nat} (hk : k ≤ 4) : ∃ v, v < 2 ^ k ∧ pCn f k = Int32.ofNat v := by
  have h4 : 2 ^ k ≤ 2 ^ 4 := Nat.pow_le_pow_right (by omega) hk
  have e1 : pCn (cut4 f k) 4 = pCn f k := by
    have := pCn_up (f := f) (k := k) (4 - k) (by omega)
    rw [show k + (4 - k) = 4 by omega] at this
    exact this
  obtain ⟨v, h1, h2⟩ := bits4r (Nat.blt 0 k && f 0) (Nat.blt 1 k && f 1) (Nat.blt 2 k && f 2) (Nat.blt 3 k && f 3)
  refine ⟨v, ?_, by rw [← e1]; exact h2⟩
  have h3 : ∀ b0 b1 b2 b3 : Bool, ∀ v, v < 16 → pCn (fun g => if g = 0 then b0 else if g = 1 then b1 else if g = 2 then b2 else b3) 4 = Int32.ofNat v → ((b3 || Nat.blt v 8) && ((b3 || (b2 || Nat.blt v 4)) && ((b3 || (b2 || (b1 || Nat.blt v 2))) && (b3 || (b2 || (b1 || (b0 || Nat.blt v 1))))))) = true := by decide +kernel
  have h5 := h3 _ _ _ _ v h1 h2
  rw [Bool.and_eq_true, Bool.and_eq_true, Bool.and_eq_true] at h5
  rcases (show k = 0 ∨ k = 1 ∨ k = 2 ∨ k = 3 ∨ k = 4 by omega) with rfl | rfl | rfl | rfl | rfl
  · exact Nat.blt_eq.mp h5.2.2.2
  · exact Nat.blt_eq.mp h5.2.2.1
  · exact Nat.blt_eq.mp h5.2.1
  · exact Nat.blt_eq.mp h5.1
  · exact h1
theorem sh_pow : ∀ n, n ≤ 6 → (1 : Int32) <<< (Int32.ofNat n &&& 31) = Int32.ofNat (2 ^ n) := by decide +kernel
def pBuy (A : zA) (p : Int32) (c : Nat) : zA := zu (zu A 0 (A 0 - p)) 8 (A 8 ||| Int32.ofNat c)
def pBi (E : zE) (A : zA) (c : Nat) : Nat := pDays E (pBuy A (pPr E c (nN E)) c) 200
def pOkB (E : zE) (A : zA) (c : Nat) : Bool := pAl (pFree A) c (nN E) && decide (pPr E c (nN E) ≤ A 0)
def pBr (E : zE) (A : zA) : Nat → Int32 × Int32 × Int32
  | 0 => (0, -1, 0)
  | c + 1 => if pOkB E A c = true then (if (pBr E A c).2.1 < Int32.ofNat (pBi E A c) ∨ (Int32.ofNat (pBi E A c) = (pBr E A c).2.1 ∧ pPr E c (nN E) < (pBr E A c).2.2) then (Int32.ofNat c, Int32.ofNat (pBi E A c), pPr E c (nN E)) else pBr E A c) else pBr E A c
def pBribes (E : zE) (A : zA) (x : Int32) : Int32 := if A 3 = -1 then -1 else if x < 0 ∨ 1 < x then -1 else if x = 0 then (pBr E A (2 ^ nN E)).1 else (pBr E A (2 ^ nN E)).2.1
theorem s32 {X : (Nat → Int32) × Nat} {d e s c : Nat} {M : zM} (hG : zGE M) (he : zqk e 1 = true) (hs : zqk s 9 = true) (hE : okE (emD e M)) : zC X (d + 1) 32 [.ref e, .ref s, .int (Int32.ofNat c)] M = some (some (.int (if pAl (pFree (aD e s M)) c (nN (emD e M)) = true then pPr (emD e M) c (nN (emD e M)) else -1)), M) := by
  show zR X (d + 1) 32 (0, [.ref e, .ref s, .int (Int32.ofNat c), zjk, zjk], [], M) = _
  obtain ⟨hn, hc⟩ := okE_N hE
  have mono : ∀ m k, k + m = nN (emD e M) → pAl (pFree (aD e s M)) c (nN (emD e M)) = true → pAl (pFree (aD e s M)) c k = true := by
    intro m
    induction m with
    | zero => intro k hk h; rw [show k = nN (emD e M) by omega]; exact h
    | succ m ih =>
      intro k hk h
      have := ih (k + 1) (by omega) h
      rw [pAl, Bool.and_eq_true] at this
      exact this.1
  have loop : ∀ m k, k + m = nN (emD e M) → pAl (pFree (aD e s M)) c k = true → zR X (d + 1) 32 (5, [.ref e, .ref s, .int (Int32.ofNat c), .int (pPr (emD e M) c k), .int (Int32.ofNat k)], [], M) = some (some (.int (if pAl (pFree (aD e s M)) c (nN (emD e M)) = true then pPr (emD e M) c (nN (emD e M)) else -1)), M) := by
    intro m
    induction m with
    | zero =>
      intro k hk h
      rw [t32_5 _ _ _ _ _ _ hG he hs, hc, if_pos ((of_le (by omega) (by omega)).mpr (by omega))]
      rw [show k = nN (emD e M) by omega] at h ⊢
      rw [if_pos h]
    | succ m ih =>
      intro k hk h
      rw [t32_5 _ _ _ _ _ _ hG he hs, hc, if_neg (by rw [of_le (by omega) (by omega)]; omega), of_succ]
      have h9 := ih (k + 1) (by omega)
      rw [pAl, pPr, h, Bool.true_and] at h9
      cases hb : pb (Int32.ofNat c) k
      · rw [if_pos (pb_f hb)]
        rw [hb] at h9
        exact h9 rfl
      · rw [if_neg (pb_t hb), s76 (n := nD (emD e M)) hG hs, Option.bind_some]
        dsimp only [zps]
        rw [t32_31 _ _ _ _ _ _ _ hG he hs (fun _ => vp_of (by omega) (by omega)), toNat_of (by omega), of_succ]
        rw [hb] at h9
        cases hF : pFree (aD e s M) k
        · rw [cond_false, if_neg (by decide), if_neg]
          intro h5
          have h6 := mono m (k + 1) (by omega) h5
          rw [pAl, hb, hF, Bool.not_true, Bool.or_self, Bool.and_false] at h6
          cases h6
        · rw [cond_true, if_pos (by decide)]
          rw [hF, cond_true, emD_N (Or.inr (Or.inr rfl)) (show k < nN (emD e M) by omega)] at h9
          exact h9 rfl
  rw [t32_0 _ _ _ _ _ _ hG he hs]
  exact loop (nN (emD e M)) 0 (by omega) rfl
theorem s31 {X : (Nat → Int32) × Nat} {d : Nat} {M : zM} (hG : zGE M) (hE : okE (emD 40 M)) (hX : okX (emD 40 M)) (hA : okA (emD 40 M) (aD 40 67 M)) : ∃ M', zC X (d + 6) 31 [.ref 119, .ref 40, .ref 67] M = some (none, M') ∧ zfr 114 150 M M' ∧ M'.1 119 3 = (pBr (emD 40 M) (aD 40 67 M) (2 ^ nN (emD 40 M))).1 ∧ M'.1 119 4 = (pBr (emD 40 M) (aD 40 67 M) (2 ^ nN (emD 40 M))).2.1 := by
  show ∃ M', zR X (d + 6) 31 (0, [.ref 119, .ref 40, .ref 67, zjk, zjk, zjk, zjk], [], M) = some (none, M') ∧ _
  obtain ⟨hn, hc⟩ := okE_N hE
  have hn4 := (emD_D hE).1
  have hpw : 2 ^ nN (emD 40 M) ≤ 16 := Nat.pow_le_pow_right (i := nN (emD 40 M)) (j := 4) (by omega) hn
  have h0 : aD 40 67 M 0 = M.1 67 0 := stD_f (by decide)
  have loop : ∀ m c v5 v6 M1, c + m = 2 ^ nN (emD 40 M) → zfr 114 150 M M1 → M1.1 119 3 = (pBr (emD 40 M) (aD 40 67 M) c).1 → M1.1 119 4 = (pBr (emD 40 M) (aD 40 67 M) c).2.1 → ∃ M', zR X (d + 6) 31 (15, [.ref 119, .ref 40, .ref 67, .int (pBr (emD 40 M) (aD 40 67 M) c).2.2, .int (Int32.ofNat c), v5, v6], [], M1) = some (none, M') ∧ zfr 114 150 M M' ∧ M'.1 119 3 = (pBr (emD 40 M) (aD 40 67 M) (2 ^ nN (emD 40 M))).1 ∧ M'.1 119 4 = (pBr (emD 40 M) (aD 40 67 M) (2 ^ nN (emD 40 M))).2.1 := by
    intro m
    induction m with
    | zero =>
      intro c v5 v6 M1 hm hf h3 h4
      have e41 : M1.1 41 2 = Int32.ofNat (nN (emD 40 M)) := by rw [(hf.2 41 (by omega)).1]; exact hc
      rw [t31_15 _ _ _ _ _ _ _ (zfr_G hf hG) zq_40 zq_67, e41, sh_pow _ (by omega), if_pos (by rw [of_le (by omega) (by omega)]; omega)]
      rw [show c = 2 ^ nN (emD 40 M) by omega] at h3 h4
      exact ⟨M1, rfl, hf, h3, h4⟩
    | succ m ih =>
      intro c v5 v6 M1 hm hf h3 h4
      have hG1 := zfr_G hf hG
      have em : emD 40 M1 = emD 40 M := zfr_em hf (by omega)
      have est : stD (nD (emD 40 M)) 67 M1 = aD 40 67 M := zfr_st hf (by omega)
      have e41 : M1.1 41 2 = Int32.ofNat (nN (emD 40 M)) := by rw [(hf.2 41 (by omega)).1]; exact hc
      have e67 : M1.1 67 = M.1 67 := (hf.2 67 (by omega)).1
      have est' : aD 40 67 M1 = aD 40 67 M := by
        show stD (nD (emD 40 M1)) 67 M1 = _
        rw [em]
        exact est
      obtain ⟨pv, hpv, hpe⟩ := pPr_b (c := c) hX (nN (emD 40 M)) (Nat.le_refl _)
      rw [t31_15 _ _ _ _ _ _ _ hG1 zq_40 zq_67, e41, sh_pow _ (by omega), if_neg (by rw [of_le (by omega) (by omega)]; omega), s32 hG1 zq_40 zq_67 (by rw [em]; exact hE), Option.bind_some, em, est']
      dsimp only [zps]
      rw [t31_35 _ _ _ _ _ _ _ _ hG1 zq_40 zq_67, e67, of_succ]
      have hst : pBr (emD 40 M) (aD 40 67 M) (c + 1) = if pOkB (emD 40 M) (aD 40 67 M) c = true then (if (pBr (emD 40 M) (aD 40 67 M) c).2.1 < Int32.ofNat (pBi (emD 40 M) (aD 40 67 M) c) ∨ (Int32.ofNat (pBi (emD 40 M) (aD 40 67 M) c) = (pBr (emD 40 M) (aD 40 67 M) c).2.1 ∧ pPr (emD 40 M) c (nN (emD 40 M)) < (pBr (emD 40 M) (aD 40 67 M) c).2.2) then (Int32.ofNat c, Int32.ofNat (pBi (emD 40 M) (aD 40 67 M) c), pPr (emD 40 M) c (nN (emD 40 M))) else pBr (emD 40 M) (aD 40 67 M) c) else pBr (emD 40 M) (aD 40 67 M) c := rfl
      by_cases c1 : pAl (pFree (aD 40 67 M)) c (nN (emD 40 M)) = true
      · rw [if_pos c1, if_neg (by rw [hpe]; exact ne_m1 (by omega))]
        by_cases c2 : M.1 67 0 < pPr (emD 40 M) c (nN (emD 40 M))
        · have hko : ¬ pOkB (emD 40 M) (aD 40 67 M) c = true := by
            unfold pOkB
            rw [c1, Bool.true_and, decide_eq_true_eq, h0]
            exact Int32.not_le.mpr c2
          rw [if_neg hko] at hst
          rw [if_pos c2, ← hst]
          exact ih (c + 1) _ _ M1 (by omega) hf (by rw [hst]; exact h3) (by rw [hst]; exact h4)
        · have hko : pOkB (emD 40 M) (aD 40 67 M) c = true := by
            unfold pOkB
            rw [c1, Bool.true_and, decide_eq_true_eq, h0]
            exact Int32.not_lt.mp c2
          rw [if_pos hko] at hst
          obtain ⟨M2, q1, q2, q3⟩ := s70 (X := X) (d := d + 5) (n := nD (emD 40 M)) (s := 122) (t := 67) hG1 zq_122 zq_67 (by omega) hn4
          have hG2 := zfr_G q2 hG1
          have hf2 : zfr 114 150 M M2 := zfr_tr hf (zfr_up q2 (by omega) (by omega))
          rw [est] at q3
          have e0 : M2.1 122 0 = aD 40 67 M 0 := by rw [← q3]; exact (stD_f (by decide)).symm
          have e8 : M2.1 122 8 = aD 40 67 M 8 := by rw [← q3]; exact (stD_f (by decide)).symm
          have hf3 : zfr 114 150 M (zsI (zsI M2 122 0 (aD 40 67 M 0 - pPr (emD 40 M) c (nN (emD 40 M)))) 122 8 (aD 40 67 M 8 ||| Int32.ofNat c)) := zfr_I (zfr_I hf2 (by omega) (by omega)) (by omega) (by omega)
          have est3 : stD (nD (emD 40 M)) 122 (zsI (zsI M2 122 0 (aD 40 67 M 0 - pPr (emD 40 M) c (nN (emD 40 M)))) 122 8 (aD 40 67 M 8 ||| Int32.ofNat c)) = pBuy (aD 40 67 M) (pPr (emD 40 M) c (nN (emD 40 M))) c := by
            rw [stD_I (by decide), stD_I (by decide), q3]
            rfl
          obtain ⟨M4, y1, y2, -⟩ := s27w (X := X) (d := d + 1) (k := 200) (e := 40) (s := 122) (K := M) (M := zsI (zsI M2 122 0 (aD 40 67 M 0 - pPr (emD 40 M) c (nN (emD 40 M)))) 122 8 (aD 40 67 M 8 ||| Int32.ofNat c)) hG zq_40 zq_122 (by omega) (by omega) hE hf3 (by rw [est3]; unfold pBuy; rw [zu_n (by decide), zu_n (by decide)]; exact hA.1) (by omega)
          rw [est3] at y1
          have hf4 : zfr 114 150 M M4 := zfr_tr hf3 (zfr_up y2 (by omega) (by omega))
          have hG4 := zfr_G hf4 hG
          have e119 : M4.1 119 = M1.1 119 := (y2.2 119 (by omega)).1.trans ((zI_n1 (by decide)).trans ((zI_n1 (by decide)).trans (q2.2 119 (by omega)).1))
          have hbi : pDays (emD 40 M) (pBuy (aD 40 67 M) (pPr (emD 40 M) c (nN (emD 40 M))) c) 200 = pBi (emD 40 M) (aD 40 67 M) c := rfl
          rw [hbi] at y1
          rw [if_neg c2, q1, Option.bind_some]
          dsimp only [zps]
          rw [t31_60 _ _ _ _ _ _ _ hG2 zq_40 zq_67, e0, e8, show (200 : Int32) = Int32.ofNat 200 from rfl, y1, Option.bind_some]
          dsimp only [zps]
          rw [t31_100 _ _ _ _ _ _ _ _ hG4 zq_40 zq_67, e119, h4, of_succ]
          by_cases g1 : (pBr (emD 40 M) (aD 40 67 M) c).2.1 < Int32.ofNat (pBi (emD 40 M) (aD 40 67 M) c)
          · rw [if_pos (Or.inl g1)] at hst
            have h9 := ih (c + 1) (.int (pPr (emD 40 M) c (nN (emD 40 M)))) (.int (Int32.ofNat (pBi (emD 40 M) (aD 40 67 M) c))) (zsI (zsI M4 119 3 (Int32.ofNat c)) 119 4 (Int32.ofNat (pBi (emD 40 M) (aD 40 67 M) c))) (by omega) (zfr_I (zfr_I hf4 (by omega) (by omega)) (by omega) (by omega)) (by rw [zI_s, if_neg (by decide), zI_s, if_pos rfl, hst]) (by rw [zI_s, if_pos rfl, hst])
            rw [if_pos g1]
            rw [hst] at h9
            exact h9
          · rw [if_neg g1]
            by_cases g2 : Int32.ofNat (pBi (emD 40 M) (aD 40 67 M) c) = (pBr (emD 40 M) (aD 40 67 M) c).2.1
            · rw [if_neg (not_not_intro g2)]
              by_cases g3 : (pBr (emD 40 M) (aD 40 67 M) c).2.2 ≤ pPr (emD 40 M) c (nN (emD 40 M))
              · rw [if_neg (by intro h; rcases h with h | h; exact g1 h; exact Int32.not_lt.mpr g3 h.2)] at hst
                rw [if_pos g3, ← hst]
                exact ih (c + 1) _ _ M4 (by omega) hf4 (by rw [hst, e119]; exact h3) (by rw [hst, e119]; exact h4)
              · rw [if_pos (Or.inr ⟨g2, Int32.not_le.mp g3⟩)] at hst
                have h9 := ih (c + 1) (.int (pPr (emD 40 M) c (nN (emD 40 M)))) (.int (Int32.ofNat (pBi (emD 40 M) (aD 40 67 M) c))) (zsI (zsI M4 119 3 (Int32.ofNat c)) 119 4 (Int32.ofNat (pBi (emD 40 M) (aD 40 67 M) c))) (by omega) (zfr_I (zfr_I hf4 (by omega) (by omega)) (by omega) (by omega)) (by rw [zI_s, if_neg (by decide), zI_s, if_pos rfl, hst]) (by rw [zI_s, if_pos rfl, hst])
                rw [if_neg g3]
                rw [hst] at h9
                exact h9
            · rw [if_neg (by intro h; rcases h with h | h; exact g1 h; exact g2 h.1)] at hst
              rw [if_pos g2, ← hst]
              exact ih (c + 1) _ _ M4 (by omega) hf4 (by rw [hst, e119]; exact h3) (by rw [hst, e119]; exact h4)
      · have hko : ¬ pOkB (emD 40 M) (aD 40 67 M) c = true := by
          unfold pOkB
          intro h
          rw [Bool.and_eq_true] at h
          exact c1 h.1
        rw [if_neg hko] at hst
        rw [if_neg c1, if_pos rfl, ← hst]
        exact ih (c + 1) _ _ M1 (by omega) hf (by rw [hst]; exact h3) (by rw [hst]; exact h4)
  have hf0 : zfr 114 150 M (zsI (zsI M 119 3 0) 119 4 (-1)) := zfr_I (zfr_I zfr_rf (by omega) (by omega)) (by omega) (by omega)
  rw [t31_0 _ _ _ _ _ _ _ hG zq_40 zq_67]
  exact loop _ 0 zjk zjk _ (Nat.zero_add _) hf0 (by rw [zI_s, if_neg (by decide), zI_s, if_pos rfl]; rfl) (by rw [zI_s, if_pos rfl]; rfl)
theorem s118 {X : (Nat → Int32) × Nat} {d : Nat} {x : Int32} {M : zM} (hG : zGE M) (hE : okE (emD 40 M)) (hX : okX (emD 40 M)) (hA : okA (emD 40 M) (aD 40 67 M)) : ∃ M', zC X (d + 7) 118 [.ref 0, .int x] M = some (some (.int (pBribes (emD 40 M) (aD 40 67 M) x)), M') ∧ zfr 114 150 M M' := by
  show ∃ M', zR X (d + 7) 118 (0, [.ref 0, .int x], [], M) = some (some (.int _), M') ∧ _
  have h3 : aD 40 67 M 3 = M.1 67 3 := stD_f (by decide)
  unfold pBribes
  rw [t118_0 _ _ hG, h3]
  by_cases c1 : x < 0
  · rw [if_pos c1, if_pos (Or.inl c1), ite_self]
    exact ⟨M, rfl, zfr_rf⟩
  · rw [if_neg c1]
    by_cases c2 : 1 < x
    · rw [if_pos c2, if_pos (Or.inr c2), ite_self]
      exact ⟨M, rfl, zfr_rf⟩
    · rw [if_neg c2, if_neg (not_or.mpr ⟨c1, c2⟩)]
      by_cases c3 : M.1 67 3 = -1
      · rw [if_neg (not_not_intro c3), if_pos c3]
        exact ⟨M, rfl, zfr_rf⟩
      · obtain ⟨M', q1, q2, q3, q4⟩ := s31 (X := X) (d := d) hG hE hX hA
        rw [if_pos c3, if_neg c3, q1, Option.bind_some]
        dsimp only [zps]
        rw [t118_46 _ _ (zfr_G q2 hG), q3, q4]
        by_cases c4 : x = 0
        · rw [if_neg (not_not_intro c4), if_pos c4]; exact ⟨M', rfl, q2⟩
        · rw [if_pos c4, if_neg c4]; exact ⟨M', rfl, q2⟩
