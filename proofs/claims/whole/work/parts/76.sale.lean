/-! ===== a sale now ===== -/
theorem rv_lt {i : Nat} (h : i < 2147483648) : (rv i < 0) ↔ i = 0 := by
  rcases Nat.eq_zero_or_pos i with h0 | h0
  · subst h0
    exact ⟨fun _ => rfl, fun _ => by decide⟩
  · rw [rv_p h0, show (0 : Int32) = Int32.ofNat 0 from rfl, of_lt (by omega) (by omega)]
    omega
theorem rv_m1 {i : Nat} (h : i < 2147483648) : (rv i = -1) ↔ i = 0 := by
  rcases Nat.eq_zero_or_pos i with h0 | h0
  · subst h0
    exact ⟨fun _ => rfl, fun _ => rfl⟩
  · rw [rv_p h0]
    exact ⟨fun h => absurd h (ne_m1 (by omega)), fun h => by omega⟩
theorem s133 {X : (Nat → Int32) × Nat} {d i : Nat} {r : zRul} {M : zM} (hG : zGE M) (hE : okE (emD 40 M)) (hT : okT (emD 40 M)) (hr : okRs r) (hrs : rsD M r) (hi : i ≤ r.1) (hf : M.1 39 2 = rv i) : ∃ M', zC X (d + 3) 133 [.ref 0] M = some (none, M') ∧ zfr 114 119 M M' ∧ auD 114 M' = pWon (emD 40 M) (aD 40 67 M) (emD 40 M 14) (pRl r.2 i) := by
  show ∃ M', zR X (d + 3) 133 (0, [.ref 0, zjk], [], M) = some (none, M') ∧ _
  obtain ⟨hr6, hrok⟩ := hr
  have hn4 := (emD_D hE).1
  obtain ⟨M1, q1, q2, q3⟩ := s2 (X := X) (d := d + 2) (a := 114) (e := 40) hG zq_114 zq_40 (by omega)
  have hG1 := zfr_G q2 hG
  have em1 : emD 40 M1 = emD 40 M := zfr_em q2 (by omega)
  have est1 : stD (nD (emD 40 M)) 67 M1 = aD 40 67 M := zfr_st q2 (by omega)
  have hD : ∀ b, b < nD (emD 40 M1) → M1.1 (114 + 1) b = emD 40 M 14 b := fun b hb => by
    rw [em1] at hb
    rw [emD_B hb]
    exact q3 b (by omega)
  have lem := t133_0N (X := X) (d := d + 2) zjk M hG
  rcases Nat.eq_zero_or_pos i with h0 | h0
  · have hlt : M.1 39 2 < 0 := by rw [hf]; exact (rv_lt (by omega)).mpr h0
    obtain ⟨M2, w1, w2, w3, -⟩ := s3n (X := X) (d := d) (a := 114) (e := 40) (s := 67) (M := M1) (D := emD 40 M 14) hG1 zq_114 zq_40 zq_67 (by omega) (by omega) (by rw [em1]; exact hE) (by rw [em1]; exact hT) hD
    rw [em1, est1] at w3
    rw [lem (fun h => absurd hlt h) (fun h => absurd hlt h), if_pos hlt, q1, Option.bind_some]
    dsimp only [zps]
    rw [t133_55N _ hG1, w1, Option.bind_some]
    dsimp only [zps]
    rw [t133_77N _ (zfr_G w2 hG1)]
    refine ⟨M2, rfl, zfr_tr (zfr_up q2 (by omega) (by omega)) w2, ?_⟩
    rw [w3]
    unfold pRl
    rw [if_pos h0]
  · have hnlt : ¬ M.1 39 2 < 0 := by rw [hf, rv_lt (by omega)]; omega
    have e2 : M.1 39 2 = Int32.ofNat (i - 1) := hf.trans (rv_p h0)
    have hnle : ¬ M.1 0 4 ≤ M.1 39 2 := by rw [hrs.1, e2, of_le (by omega) (by omega)]; omega
    obtain ⟨u1, u2⟩ := hrul hG (i := i - 1) (by omega)
    have ii : (Int32.ofNat (i - 1)).toNatClampNeg = i - 1 := toNat_of (by omega)
    have hrs1 : rsD M1 r := rsD_c (fun c hc => (q2.2 c (by omega)).1) hr6 hrs
    obtain ⟨M2, w1, w2, w3, -⟩ := s3r (X := X) (d := d) (a := 114) (e := 40) (s := 67) (q := 150 + 3 * (i - 1)) (M := M1) (D := emD 40 M 14) (cls := r.2 (i - 1)) hG1 zq_114 zq_40 zq_67 u2 (by omega) (by omega) (by omega) (by rw [em1]; exact hE) (by rw [em1]; exact hT) hD (hrs1.2 (i - 1) (by omega)) (hrok (i - 1) (by omega))
    rw [em1, est1] at w3
    rw [lem (fun _ _ => by rw [e2]; exact vp_of (by omega) (by omega)) (fun _ _ => by rw [e2, ii, u1]; omega), if_neg hnlt, if_neg hnle, e2, ii, u1, q1, Option.bind_some]
    dsimp only [zps]
    rw [t133_55R _ _ hG1 u2, w1, Option.bind_some]
    dsimp only [zps]
    rw [t133_77R _ _ (zfr_G w2 hG1) u2]
    refine ⟨M2, rfl, zfr_tr (zfr_up q2 (by omega) (by omega)) w2, ?_⟩
    rw [w3]
    unfold pRl
    rw [if_neg (by omega)]
/-- the reference's: as told, by the rule in force -/
theorem rsale {X : (Nat → Int32) × Nat} {d i : Nat} {r : zRul} {M : zM} (hM : okM M) (hT : okT (emR M)) (hr : okRs r) (hrs : rsR M r) (hi : i ≤ r.1) (hf : M.1 461 17 = rv i) : ∃ M1 M2, zC X (d + 6) 192 [.ref 460] M = some (none, M1) ∧ zC X (d + 6) 191 [.ref 460, .int 0] M1 = some (some (.int (pWon (emR M) (aR M) (emR M 14) (pRl r.2 i)).2.1), M2) ∧ zGE M1 ∧ zGE M2 ∧ rsm M M2 ∧ auR M2 = pWon (emR M) (aR M) (emR M 14) (pRl r.2 i) := by
  obtain ⟨hr6, hrok⟩ := hr
  have hn4 := (okR_D hM.2.1).1
  obtain ⟨M1, q1, q2, q3, q4⟩ := r192 (X := X) (d := d + 5) (M := M) hM.1
  have f1 : zwk M M1 := zwk_96 q2 q3
  have hM1 := zwk_M f1 hM
  have em1 := zwk_em f1
  have e61 : M1.1 461 = M.1 461 := q3 461 (by decide)
  have e62 : M1.1 462 = M.1 462 := q3 462 (by decide)
  have est1 : stR (nD (emR M)) M1 = aR M := by
    show _ = stR (nD (emR M)) M
    unfold stR
    rw [e61, e62]
  have hD : ∀ b, b < nD (emR M1) → M1.1 496 b = emR M 14 b := fun b hb => by
    rw [em1] at hb
    rw [emR_B hb]
    exact q4 b (by omega)
  have fin : ∀ M2 : zM, zfq M1 M2 → rsm M M2 := fun M2 h => ⟨zwk_tr f1 (zwk_q h), fun k _ => by rw [zfq_c h (by decide) (by decide) (by decide), e61], fun k _ => by rw [zfq_c h (by decide) (by decide) (by decide), e62]⟩
  rcases Nat.eq_zero_or_pos i with h0 | h0
  · obtain ⟨M2, w1, w2, w3⟩ := r191n (X := X) (d := d + 3) (x := 0) (M := M1) (D := emR M 14) hM1.1 hM1.2.1 (by rw [em1]; exact hT) (Or.inr (by rw [e61, hf, h0]; rfl)) hD
    rw [em1, est1] at w1 w3
    have e : pRl r.2 i = none := if_pos h0
    rw [e]
    exact ⟨M1, M2, q1, w1, hM1.1, zfq_G w2 hM1.1, fin M2 w2, w3⟩
  · have hrs1 := rsR_w f1 hrs
    obtain ⟨M2, w1, w2, w3⟩ := r191r (X := X) (d := d) (r := i - 1) (M := M1) (D := emR M 14) (cls := r.2 (i - 1)) hM1.1 hM1.2.1 (by rw [em1]; exact hT) (by omega) (by rw [e61, hf]; exact rv_p h0) hD (hrs1.2 (i - 1) (by omega)) (hrok (i - 1) (by omega))
    rw [em1, est1] at w1 w3
    have e : pRl r.2 i = some (r.2 (i - 1)) := if_neg (by omega)
    rw [e]
    exact ⟨M1, M2, q1, w1, hM1.1, zfq_G w2 hM1.1, fin M2 w2, w3⟩
def pSl (E : zE) (A : zA) (o : Option (List zCl)) (x : Int32) : Int32 := if E 0 0 = 0 then -2 else if x < 0 ∨ 2 < x then -2 else if x = 0 then (pWon E A (E 14) o).2.1 else if x = 1 then (pWon E A (E 14) o).1 else (pWon E A (E 14) o).2.2.1
theorem s114 {X : (Nat → Int32) × Nat} {d i : Nat} {x : Int32} {r : zRul} {M : zM} (hG : zGE M) (hE : okE (emD 40 M)) (hT : emD 40 M 0 0 = 1 → okT (emD 40 M)) (hr : okRs r) (hrs : rsD M r) (hi : i ≤ r.1) (hf : M.1 39 2 = rv i) : ∃ M', zC X (d + 4) 114 [.ref 0, .int x] M = some (some (.int (pSl (emD 40 M) (aD 40 67 M) (pRl r.2 i) x)), M') ∧ zfr 114 150 M M' := by
  show ∃ M', zR X (d + 4) 114 (0, [.ref 0, .int x], [], M) = some (some (.int _), M') ∧ _
  unfold pSl
  rw [t114_0 _ _ hG, s11 hG zq_40 hE, Option.bind_some]
  dsimp only [zps]
  rw [t114_10 _ _ _ hG]
  by_cases c0 : emD 40 M 0 0 = 0
  · rw [if_pos c0, if_pos c0, if_pos rfl]
    exact ⟨M, rfl, zfr_rf⟩
  · rw [if_neg c0, if_neg c0, if_neg (by decide)]
    by_cases c1 : x < 0
    · rw [if_pos c1, if_pos (Or.inl c1)]
      exact ⟨M, rfl, zfr_rf⟩
    · rw [if_neg c1]
      by_cases c2 : 2 < x
      · rw [if_neg (Int32.not_le.mpr c2), if_pos (Or.inr c2)]
        exact ⟨M, rfl, zfr_rf⟩
      · obtain ⟨M', q1, q2, q3⟩ := s133 (X := X) (d := d) hG hE (hT (tld hE c0)) hr hrs hi hf
        have w1 : M'.1 114 1 = (pWon (emD 40 M) (aD 40 67 M) (emD 40 M 14) (pRl r.2 i)).2.1 := by rw [← q3]; rfl
        have w2 : M'.1 114 2 = (pWon (emD 40 M) (aD 40 67 M) (emD 40 M 14) (pRl r.2 i)).1 := by rw [← q3]; rfl
        have w3 : M'.1 114 3 = (pWon (emD 40 M) (aD 40 67 M) (emD 40 M 14) (pRl r.2 i)).2.2.1 := by rw [← q3]; rfl
        rw [if_pos (Int32.not_lt.mp c2), if_neg (not_or.mpr ⟨c1, c2⟩), q1, Option.bind_some]
        dsimp only [zps]
        rw [t114_29 _ _ (zfr_G q2 hG), w1, w2, w3]
        refine ⟨M', ?_, zfr_up q2 (by omega) (by omega)⟩
        by_cases c4 : x = 0
        · rw [if_neg (not_not_intro c4), if_pos c4]
        · rw [if_pos c4, if_neg c4]
          by_cases c5 : x = 1
          · rw [if_neg (not_not_intro c5), if_pos c5]
          · rw [if_pos c5, if_neg c5]
theorem r213 {X : (Nat → Int32) × Nat} {d i : Nat} {x : Int32} {r : zRul} {M : zM} (hM : okM M) (hT : emR M 0 0 = 1 → okT (emR M)) (hr : okRs r) (hrs : rsR M r) (hi : i ≤ r.1) (hf : M.1 461 17 = rv i) : ∃ M', zC X (d + 7) 213 [.ref 460, .int x] M = some (some (.int (pSl (emR M) (aR M) (pRl r.2 i) x)), M') ∧ rsm M M' := by
  show ∃ M', zR X (d + 7) 213 (0, [.ref 460, .int x, zjk], [], M) = some (some (.int _), M') ∧ _
  have hG := hM.1
  have h0 : M.1 460 25 = emR M 0 0 := rfl
  unfold pSl
  rw [t213_0 _ _ _ hG, h0]
  by_cases c0 : emR M 0 0 = 0
  · rw [if_pos c0, if_pos c0]
    exact ⟨M, rfl, rsm_rf⟩
  · rw [if_neg c0, if_neg c0, r135i (y := 0) (z := 2) (a := 0) (b := 2) hG rfl rfl, Option.bind_some]
    dsimp only [zps]
    rw [t213_16 _ _ _ _ hG]
    by_cases c : x < 0 ∨ 2 < x
    · rw [if_pos c, if_pos c, if_neg (by decide)]
      exact ⟨M, rfl, rsm_rf⟩
    · obtain ⟨M1, M2, q1, q2, q3, q4, q5, q6⟩ := rsale (X := X) (d := d) hM (hT (tld hM.2.1 c0)) hr hrs hi hf
      have w2 : M2.1 460 47 = (pWon (emR M) (aR M) (emR M 14) (pRl r.2 i)).1 := by rw [← q6]; rfl
      have w3 : M2.1 460 49 = (pWon (emR M) (aR M) (emR M 14) (pRl r.2 i)).2.2.1 := by rw [← q6]; rfl
      refine ⟨M2, ?_, q5⟩
      rw [if_neg c, if_neg c, if_pos (by decide), q1, Option.bind_some]
      dsimp only [zps]
      rw [t213_26 _ _ _ q3, q2, Option.bind_some]
      dsimp only [zps]
      rw [t213_31 _ _ _ _ q4, w2, w3]
      by_cases c4 : x = 0
      · rw [if_neg (not_not_intro c4), if_pos c4]
      · rw [if_pos c4, if_neg c4]
        by_cases c5 : x = 1
        · rw [if_neg (not_not_intro c5), if_pos c5]
        · rw [if_pos c5, if_neg c5]
