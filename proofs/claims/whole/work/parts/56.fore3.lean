/-! ===== how much to dare ===== -/
def okH (n : Nat) (S : zS) : Prop := okS S ∧ (S.2.1 = -1 ∨ (∃ b, b < n ∧ S.2.1 = Int32.ofNat b) ∧ ¬ S.1 = 0)
theorem okH_sale {n jj : Nat} {bid : zS → Nat → Int64} (hj1 : 1 ≤ jj) (hj2 : jj ≤ 9) : ∀ m i S, okH n S → okH n (pSale n (Int32.ofNat jj) bid m i S) := by
  intro m
  induction m with
  | zero => intro i S h; exact h
  | succ m ih =>
    intro i S h
    rw [pSale]
    cases hD : pDone n S
    · rw [cond_false]
      refine ih (i + 1) _ ?_
      have h0 : 0 < n := by
        rcases Nat.eq_zero_or_pos n with h0 | h0
        · subst h0
          unfold pDone at hD
          rw [ite_self] at hD
          cases hD
        · exact h0
      unfold pTurn
      by_cases c : S.2.2.2 (i % n) = true ∨ Int32.ofNat (i % n) = S.2.1
      · rw [if_pos c]; exact h
      · rw [if_neg c]
        obtain ⟨⟨hh, h1, h2⟩, h3⟩ := h
        unfold pTake
        by_cases c1 : bid S (i % n) < (S.1 + Int32.ofNat jj).toInt64 ∨ 999 < bid S (i % n)
        · rw [if_pos c1]
          exact ⟨⟨hh, h1, h2⟩, h3⟩
        · rw [if_neg c1]
          have e1 : (S.1 + Int32.ofNat jj).toInt64.toInt = (hh + jj : Nat) := by
            rw [h2, ← Int32.ofNat_add, Int32.toInt_toInt64, Int32.toInt_ofNat_of_lt (by omega)]
          have e3 : (999 : Int64).toInt = 999 := rfl
          rw [not_or, Int64.lt_iff_toInt_lt, Int64.lt_iff_toInt_lt, e1, e3] at c1
          obtain ⟨k, hk⟩ : ∃ k : Nat, (bid S (i % n)).toInt = k := ⟨(bid S (i % n)).toInt.toNat, by omega⟩
          have hx : (bid S (i % n)).toInt32 = Int32.ofNat k := l2i (by omega) hk
          refine ⟨⟨k, by omega, hx⟩, Or.inr ⟨⟨i % n, Nat.mod_lt _ h0, rfl⟩, ?_⟩⟩
          show ¬ (bid S (i % n)).toInt32 = 0
          rw [hx, show (0 : Int32) = Int32.ofNat 0 from rfl, of_inj (by omega) (by omega)]
          omega
    · exact h
theorem okH_won {E : zE} {A : zA} {D : Nat → Int32} {o : Option (List zCl)} (hT : okT E) : okH (nD E) (pWon E A D o) := by
  obtain ⟨jj, j1, j2, j3⟩ := hT.2
  unfold pWon
  rw [j3]
  exact okH_sale j1 j2 _ _ _ ⟨⟨0, by omega, rfl⟩, Or.inl rfl⟩
theorem okR_b {E : zE} {b : Nat} (h : b < nD E) : okR E (Int32.ofNat b) := Or.inr (Or.inl ⟨b, h, rfl⟩)
theorem pCrown_3 {A : zA} {w p : Int32} : pCrown A w p 3 = w := by
  unfold pCrown
  rw [zu_n (by decide), zu_n (by decide), zu_n (by decide), zu_s]
theorem pCrown_2 {A : zA} {w p : Int32} : pCrown A w p 2 = A 2 := by
  unfold pCrown
  rw [zu_n (by decide), zu_n (by decide), zu_n (by decide), zu_n (by decide)]
theorem emR_B {j : Nat} {M : zM} (h : j < nD (emR M)) : emR M 14 j = M.1 466 j := by
  refine emR_c (by omega) (by omega) (by omega) (by omega) ?_
  have e1 : nD (emR M) = (M.1 461 3).toNatClampNeg := rfl
  unfold rct
  rw [if_neg (by omega), if_neg (by omega), if_neg (by omega)]
  omega
theorem emD_B {j e : Nat} {M : zM} (h : j < nD (emD e M)) : emD e M 14 j = M.1 (e + 16) j := by
  refine emD_c (by omega) (by omega) (by omega) ?_
  have e1 : nD (emD e M) = (M.1 (e + 1) 4).toNatClampNeg := by unfold nD; rw [emD_0 (by decide)]
  rw [show (14 - 1) / 3 = 4 from rfl]
  omega
def pDr (E : zE) (b d : Nat) : Nat → Int32 := fun j => if j = b then Int32.ofNat d else E 14 j
def pRs (E : zE) (A : zA) (b d : Nat) : Nat := if (pWon E A (pDr E b d) none).2.1 = Int32.ofNat b then pDays E (pCrown A (Int32.ofNat b) (pWon E A (pDr E b d) none).1) 200 else 0
def pRg (E : zE) (A : zA) (b : Nat) : Nat → Nat × Nat
  | 0 => (0, 0)
  | c + 1 => if (pRg E A b c).2 < pRs E A b c then (c, pRs E A b c) else pRg E A b c
theorem pRs_le {E : zE} {A : zA} {b d : Nat} : pRs E A b d ≤ 200 := by
  unfold pRs
  split
  · exact pDays_le
  · omega
theorem pRg_le {E : zE} {A : zA} {b : Nat} : ∀ c, (pRg E A b c).1 ≤ c ∧ (pRg E A b c).2 ≤ 200
  | 0 => ⟨Nat.le_refl _, by show 0 ≤ 200; omega⟩
  | c + 1 => by
    rw [pRg]
    have := pRg_le (E := E) (A := A) (b := b) c
    have h2 := pRs_le (E := E) (A := A) (b := b) (d := c)
    split
    · exact ⟨by show c ≤ c + 1; omega, h2⟩
    · omega
def pReign (E : zE) (A : zA) (x w : Int32) : Int32 := if x < 0 ∨ E 0 4 ≤ x then -1 else if ¬ A 3 = -1 then -1 else if w < 0 ∨ 1 < w then -1 else if w = 0 then Int32.ofNat (pRg E A x.toNatClampNeg 100).1 else Int32.ofNat (pRg E A x.toNatClampNeg 100).2
theorem s30 {X : (Nat → Int32) × Nat} {d e s : Nat} {K M : zM} (hG : zGE K) (he : zqk e 1 = true) (hs : zqk s 9 = true) (hap : e + 27 ≤ 114) (hap2 : s + 2 ≤ 114) (hE : okE (emD e K)) (hf : zfr 114 150 K M) (hR : okR (emD e K) (M.1 124 1)) : ∃ M', zC X (d + 5) 30 [.ref 119, .ref e, .ref s] M = some (some (.int (Int32.ofNat (pDays (emD e K) (pCrown (aD e s K) (M.1 124 1) (M.1 124 2)) 200))), M') ∧ zfr 120 124 M M' := by
  show ∃ M', zR X (d + 5) 30 (0, [.ref 119, .ref e, .ref s], [], M) = some (some (.int _), M') ∧ _
  have hn4 := (emD_D hE).1
  have hG0 := zfr_G hf hG
  have est : stD (nD (emD e K)) s M = aD e s K := zfr_st hf (by omega)
  obtain ⟨M1, q1, q2, q3⟩ := s70 (X := X) (d := d + 4) (n := nD (emD e K)) (s := 122) (t := s) hG0 zq_122 hs (by omega) hn4
  have hG1 := zfr_G q2 hG0
  have e24 : M1.1 124 = M.1 124 := (q2.2 124 (by omega)).1
  obtain ⟨M2, w1, w2, w3⟩ := s72 (X := X) (d := d + 4) (n := nD (emD e K)) (s := 122) (w := M.1 124 1) (p := M.1 124 2) hG1 zq_122
  have hG2 := zfr_G w2 hG1
  rw [q3, est] at w3
  have hf2 : zfr 114 150 K M2 := zfr_tr hf (zfr_up (zfr_tr q2 w2) (by omega) (by omega))
  obtain ⟨M3, y1, y2, -⟩ := s27w (X := X) (d := d) (k := 200) (e := e) (s := 122) (K := K) (M := M2) hG he zq_122 hap (by omega) hE hf2 (by rw [w3, pCrown_3]; exact hR) (by omega)
  rw [w3] at y1
  rw [t30_0 _ _ _ hG0 he hs, q1, Option.bind_some]
  dsimp only [zps]
  rw [t30_8 _ _ _ hG1 he hs, e24, w1, Option.bind_some]
  dsimp only [zps]
  rw [t30_29 _ _ _ hG2 he hs, show (200 : Int32) = Int32.ofNat 200 from rfl, y1, Option.bind_some]
  dsimp only [zps]
  rw [t30_41 _ _ _ _ (zfr_G y2 hG2) he hs]
  exact ⟨M3, rfl, zfr_tr (zfr_up (zfr_tr q2 w2) (by omega) (by omega)) (zfr_up y2 (by omega) (by omega))⟩
theorem s29 {X : (Nat → Int32) × Nat} {d b : Nat} {M : zM} (hG : zGE M) (hE : okE (emD 40 M)) (hT : okT (emD 40 M)) (hb : b < nD (emD 40 M)) : ∃ M', zC X (d + 6) 29 [.ref 119, .ref 40, .ref 67, .int (Int32.ofNat b)] M = some (none, M') ∧ zfr 114 150 M M' ∧ M'.1 119 3 = Int32.ofNat (pRg (emD 40 M) (aD 40 67 M) b 100).1 ∧ M'.1 119 4 = Int32.ofNat (pRg (emD 40 M) (aD 40 67 M) b 100).2 := by
  show ∃ M', zR X (d + 6) 29 (0, [.ref 119, .ref 40, .ref 67, .int (Int32.ofNat b), zjk, zjk, zjk], [], M) = some (none, M') ∧ _
  have hn4 := (emD_D hE).1
  have loop : ∀ m c (lp hd : Int32) M1, c + m = 100 → zfr 114 150 M M1 → (∀ j, j < nD (emD 40 M) → j ≠ b → M1.1 125 j = emD 40 M 14 j) → M1.1 119 3 = Int32.ofNat (pRg (emD 40 M) (aD 40 67 M) b c).1 → M1.1 119 4 = Int32.ofNat (pRg (emD 40 M) (aD 40 67 M) b c).2 → (lp = 0 ∨ pDays (emD 40 M) (pCrown (aD 40 67 M) (Int32.ofNat b) lp) 200 ≤ (pRg (emD 40 M) (aD 40 67 M) b c).2) → ∃ M', zR X (d + 6) 29 (27, [.ref 119, .ref 40, .ref 67, .int (Int32.ofNat b), .int lp, .int hd, .int (Int32.ofNat c)], [], M1) = some (none, M') ∧ zfr 114 150 M M' ∧ M'.1 119 3 = Int32.ofNat (pRg (emD 40 M) (aD 40 67 M) b 100).1 ∧ M'.1 119 4 = Int32.ofNat (pRg (emD 40 M) (aD 40 67 M) b 100).2 := by
    intro m
    induction m with
    | zero =>
      intro c lp hd M1 hc hf hd1 h3 h4 hl
      rw [t29_27 _ _ _ _ _ _ _ (zfr_G hf hG) zq_40 zq_67 (fun _ => vp_of (by omega) (by omega)), if_pos (by rw [show (100 : Int32) = Int32.ofNat 100 from rfl, of_le (by omega) (by omega)]; omega)]
      rw [show c = 100 by omega] at h3 h4
      exact ⟨M1, rfl, hf, h3, h4⟩
    | succ m ih =>
      intro c lp hd M1 hc hf hd1 h3 h4 hl
      have hG1 := zfr_G hf hG
      have hf1 : zfr 114 150 M (zsI M1 125 b (Int32.ofNat c)) := zfr_I hf (by omega) (by omega)
      have hGa := zfr_G hf1 hG
      have em : emD 40 (zsI M1 125 b (Int32.ofNat c)) = emD 40 M := zfr_em hf1 (by omega)
      have est : stD (nD (emD 40 M)) 67 (zsI M1 125 b (Int32.ofNat c)) = aD 40 67 M := zfr_st hf1 (by omega)
      obtain ⟨M2, q1, q2, q3, q4⟩ := s3n (X := X) (d := d + 3) (a := 124) (e := 40) (s := 67) (M := zsI M1 125 b (Int32.ofNat c)) (D := pDr (emD 40 M) b c) hGa zq_124 zq_40 zq_67 (by omega) (by omega) (by rw [em]; exact hE) (by rw [em]; exact hT) (by
        rw [em]
        intro j hj
        show (zsI M1 125 b (Int32.ofNat c)).1 125 j = _
        rw [zI_s]
        unfold pDr
        by_cases e : j = b
        · rw [if_pos e, if_pos e]
        · rw [if_neg e, if_neg e]; exact hd1 j hj e)
      rw [em, est] at q3
      have hf2 : zfr 114 150 M M2 := zfr_tr hf1 (zfr_up q2 (by omega) (by omega))
      have hG2 := zfr_G hf2 hG
      have hH := okH_won (E := emD 40 M) (A := aD 40 67 M) (D := pDr (emD 40 M) b c) (o := none) hT
      have w1 : M2.1 124 1 = (pWon (emD 40 M) (aD 40 67 M) (pDr (emD 40 M) b c) none).2.1 := by rw [← q3]; rfl
      have w2 : M2.1 124 2 = (pWon (emD 40 M) (aD 40 67 M) (pDr (emD 40 M) b c) none).1 := by rw [← q3]; rfl
      have e119 : M2.1 119 = M1.1 119 := ((q2.2 119 (by omega)).1).trans (zI_n1 (by decide))
      have hd2 : ∀ j, j < nD (emD 40 M) → j ≠ b → M2.1 125 j = emD 40 M 14 j := fun j hj e => by
        have : M2.1 125 = (zsI M1 125 b (Int32.ofNat c)).1 125 := q4
        rw [this, zI_s, if_neg e]
        exact hd1 j hj e
      rw [t29_27 _ _ _ _ _ _ _ hG1 zq_40 zq_67 (fun _ => vp_of (by omega) (by omega)), if_neg (by rw [show (100 : Int32) = Int32.ofNat 100 from rfl, of_le (by omega) (by omega)]; omega), toNat_of (by omega), q1, Option.bind_some]
      dsimp only [zps]
      rw [t29_55 _ _ _ _ _ _ _ hG2 zq_40 zq_67, w1, w2, of_succ]
      have hle := pRg_le (E := emD 40 M) (A := aD 40 67 M) (b := b) c
      by_cases c1 : (pWon (emD 40 M) (aD 40 67 M) (pDr (emD 40 M) b c) none).2.1 = Int32.ofNat b
      · rw [if_neg (not_not_intro c1)]
        have hrs : pRs (emD 40 M) (aD 40 67 M) b c = pDays (emD 40 M) (pCrown (aD 40 67 M) (Int32.ofNat b) (pWon (emD 40 M) (aD 40 67 M) (pDr (emD 40 M) b c) none).1) 200 := by unfold pRs; rw [if_pos c1]
        have hp0 : ¬ (pWon (emD 40 M) (aD 40 67 M) (pDr (emD 40 M) b c) none).1 = 0 := by
          rcases hH.2 with h | h
          · rw [c1] at h; exact (ne_m1 (by omega) h).elim
          · exact h.2
        by_cases c2 : (pWon (emD 40 M) (aD 40 67 M) (pDr (emD 40 M) b c) none).1 = lp
        · rw [if_pos c2]
          have hst : pRg (emD 40 M) (aD 40 67 M) b (c + 1) = pRg (emD 40 M) (aD 40 67 M) b c := by
            rw [pRg, if_neg]
            rw [hrs, c2]
            rcases hl with h | h
            · rw [c2] at hp0; exact (hp0 h).elim
            · omega
          exact ih (c + 1) lp hd M2 (by omega) hf2 hd2 (by rw [e119, hst]; exact h3) (by rw [e119, hst]; exact h4) (by rw [hst]; exact hl)
        · rw [if_neg c2]
          obtain ⟨M3, y1, y2⟩ := s30 (X := X) (d := d) (e := 40) (s := 67) (K := M) (M := M2) hG zq_40 zq_67 (by omega) (by omega) hE hf2 (by rw [w1, c1]; exact okR_b hb)
          rw [w1, w2, c1, ← hrs] at y1
          have hf3 : zfr 114 150 M M3 := zfr_tr hf2 (zfr_up y2 (by omega) (by omega))
          have hG3 := zfr_G hf3 hG
          have e119' : M3.1 119 = M1.1 119 := ((y2.2 119 (by omega)).1).trans e119
          have hd3 : ∀ j, j < nD (emD 40 M) → j ≠ b → M3.1 125 j = emD 40 M 14 j := fun j hj e => by rw [(y2.2 125 (by omega)).1]; exact hd2 j hj e
          have hle2 := pRs_le (E := emD 40 M) (A := aD 40 67 M) (b := b) (d := c)
          rw [y1, Option.bind_some]
          dsimp only [zps]
          rw [t29_93 _ _ _ _ _ _ _ _ hG3 zq_40 zq_67, e119', h4, fi_le (by omega) (by omega), of_succ]
          have hst : pRg (emD 40 M) (aD 40 67 M) b (c + 1) = if (pRg (emD 40 M) (aD 40 67 M) b c).2 < pRs (emD 40 M) (aD 40 67 M) b c then (c, pRs (emD 40 M) (aD 40 67 M) b c) else pRg (emD 40 M) (aD 40 67 M) b c := rfl
          by_cases c3 : pRs (emD 40 M) (aD 40 67 M) b c ≤ (pRg (emD 40 M) (aD 40 67 M) b c).2
          · rw [if_pos c3]
            rw [if_neg (by omega)] at hst
            refine ih (c + 1) _ _ M3 (by omega) hf3 hd3 (by rw [e119', hst]; exact h3) (by rw [e119', hst]; exact h4) (Or.inr ?_)
            rw [hst, ← hrs]
            exact c3
          · rw [if_neg c3]
            rw [if_pos (by omega)] at hst
            refine ih (c + 1) _ _ _ (by omega) (zfr_I (zfr_I hf3 (by omega) (by omega)) (by omega) (by omega)) (fun j hj e => by rw [zI_n (by decide), zI_n (by decide)]; exact hd3 j hj e) (by rw [zI_s, if_pos rfl, hst]) (by rw [zI_s, if_neg (by decide), zI_s, if_pos rfl, hst]) (Or.inr ?_)
            rw [hst, ← hrs]
            exact Nat.le_refl _
      · rw [if_pos c1]
        have hrs : pRs (emD 40 M) (aD 40 67 M) b c = 0 := by unfold pRs; rw [if_neg c1]
        have hst : pRg (emD 40 M) (aD 40 67 M) b (c + 1) = pRg (emD 40 M) (aD 40 67 M) b c := by
          rw [pRg, hrs, if_neg (Nat.not_lt_zero _)]
        exact ih (c + 1) lp hd M2 (by omega) hf2 hd2 (by rw [e119, hst]; exact h3) (by rw [e119, hst]; exact h4) (by rw [hst]; exact hl)
  have hf0 : zfr 114 150 M (zsI (zsI M 119 3 0) 119 4 0) := zfr_I (zfr_I zfr_rf (by omega) (by omega)) (by omega) (by omega)
  have hG0 := zfr_G hf0 hG
  obtain ⟨M1, q1, q2, q3⟩ := s2 (X := X) (d := d + 5) (a := 124) (e := 40) hG0 zq_124 zq_40 (by omega)
  have hf1 : zfr 114 150 M M1 := zfr_tr hf0 (zfr_up q2 (by omega) (by omega))
  have e119 : M1.1 119 = (zsI (zsI M 119 3 0) 119 4 0).1 119 := (q2.2 119 (by omega)).1
  rw [t29_0 _ _ _ _ _ _ _ hG zq_40 zq_67, q1, Option.bind_some]
  dsimp only [zps]
  rw [t29_18 _ _ _ _ _ _ _ (zfr_G hf1 hG) zq_40 zq_67]
  refine loop 100 0 0 0 M1 (by omega) hf1 (fun j hj _ => ?_) (by rw [e119, zI_s, if_neg (by decide), zI_s, if_pos rfl]; rfl) (by rw [e119, zI_s, if_pos rfl]; rfl) (Or.inl rfl)
  rw [emD_B hj]
  refine (q3 j (by omega)).trans ?_
  rw [zI_n (by decide), zI_n (by decide)]
theorem s12 {X : (Nat → Int32) × Nat} {d e c : Nat} {x : Int32} {M : zM} (hG : zGE M) (he : zqk e 1 = true) (hc : c < 5) : zC X d 12 [.ref e, .int (Int32.ofNat c), .int x] M = some (some (.int (if x < 0 ∨ emD e M 0 c ≤ x then 0 else 1)), M) := by
  show zR X d 12 (0, [.ref e, .int (Int32.ofNat c), .int x], [], M) = _
  rw [t12_0 _ _ _ _ hG he (fun _ => vp_of (by omega) (by omega)), toNat_of (by omega), emD_0 hc]
  by_cases h1 : x < 0
  · rw [if_pos h1, if_pos (Or.inl h1)]
  · rw [if_neg h1]
    by_cases h2 : M.1 (e + 1) c ≤ x
    · rw [if_pos h2, if_pos (Or.inr h2)]
    · rw [if_neg h2, if_neg (not_or.mpr ⟨h1, h2⟩)]
theorem of_has {E : zE} {x : Int32} {c k : Nat} (hk : k < 2147483648) (he : E 0 c = Int32.ofNat k) (h : ¬ (x < 0 ∨ E 0 c ≤ x)) : x = Int32.ofNat x.toNatClampNeg ∧ x.toNatClampNeg < k := by
  rw [he, not_or, Int32.lt_iff_toInt_lt, Int32.le_iff_toInt_le, Int32.toInt_ofNat_of_lt hk] at h
  have e : x.toNatClampNeg = x.toInt.toNat := rfl
  have h0 : (0 : Int32).toInt = 0 := rfl
  rw [h0] at h
  refine ⟨?_, by omega⟩
  rw [← Int32.toInt_inj, Int32.toInt_ofNat_of_lt (by omega), e]
  omega
theorem hasT {E : zE} {n k : Nat} (hT : E 0 0 = 1 → okT E) (hZ : ¬ E 0 0 = 1 → E 0 4 = 0) (h4 : E 0 4 = Int32.ofNat n) (hn : n < 2147483648) (hk : k < n) : okT E := by
  by_cases h : E 0 0 = 1
  · exact hT h
  · have h9 : Int32.ofNat n = Int32.ofNat 0 := h4.symm.trans (hZ h)
    have := (of_inj hn (by omega)).mp h9
    omega
theorem s117 {X : (Nat → Int32) × Nat} {d : Nat} {x w : Int32} {M : zM} (hG : zGE M) (hE : okE (emD 40 M)) (hT : emD 40 M 0 0 = 1 → okT (emD 40 M)) (hZ : ¬ emD 40 M 0 0 = 1 → emD 40 M 0 4 = 0) : ∃ M', zC X (d + 7) 117 [.ref 0, .int x, .int w] M = some (some (.int (pReign (emD 40 M) (aD 40 67 M) x w)), M') ∧ zfr 114 150 M M' := by
  show ∃ M', zR X (d + 7) 117 (0, [.ref 0, .int x, .int w], [], M) = some (some (.int _), M') ∧ _
  obtain ⟨hn4, hc⟩ := emD_D hE
  have hc' : emD 40 M 0 4 = Int32.ofNat (nD (emD 40 M)) := (emD_0 (by decide)).trans hc
  have h3 : aD 40 67 M 3 = M.1 67 3 := stD_f (by decide)
  unfold pReign
  rw [t117_0 _ _ _ hG, show (4 : Int32) = Int32.ofNat 4 from rfl, s12 hG zq_40 (by omega), Option.bind_some]
  dsimp only [zps]
  rw [t117_12 _ _ _ _ hG]
  by_cases c0 : x < 0 ∨ emD 40 M 0 4 ≤ x
  · rw [if_pos c0, if_pos c0, if_pos rfl]
    exact ⟨M, rfl, zfr_rf⟩
  · obtain ⟨e1, e2⟩ := of_has (by omega) hc' c0
    have ht : okT (emD 40 M) := hasT hT hZ hc' (by omega) e2
    rw [if_neg c0, if_neg c0, if_neg (by decide), h3]
    by_cases c1 : w < 0
    · rw [if_pos c1, if_pos (Or.inl c1), ite_self]
      exact ⟨M, rfl, zfr_rf⟩
    · rw [if_neg c1]
      by_cases c2 : 1 < w
      · rw [if_pos c2, if_pos (Or.inr c2), ite_self]
        exact ⟨M, rfl, zfr_rf⟩
      · rw [if_neg c2, if_neg (not_or.mpr ⟨c1, c2⟩)]
        by_cases c3 : M.1 67 3 = -1
        · obtain ⟨M', q1, q2, q3, q4⟩ := s29 (X := X) (d := d) (b := x.toNatClampNeg) hG hE ht e2
          rw [← e1] at q1
          rw [if_pos c3, if_neg (not_not_intro c3), q1, Option.bind_some]
          dsimp only [zps]
          rw [t117_62 _ _ _ (zfr_G q2 hG), q3, q4]
          by_cases c4 : w = 0
          · rw [if_neg (not_not_intro c4), if_pos c4]; exact ⟨M', rfl, q2⟩
          · rw [if_pos c4, if_neg c4]; exact ⟨M', rfl, q2⟩
        · rw [if_neg c3, if_pos c3]
          exact ⟨M, rfl, zfr_rf⟩
