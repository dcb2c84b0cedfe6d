/-! ===== thinnest, ahead, fall ===== -/
def pThI (A : zA) : Nat → zA
  | 0 => A
  | k + 1 => pThin (pThI A k)
theorem of_sub {a b : Nat} (h : b ≤ a) : Int32.ofNat a - Int32.ofNat b = Int32.ofNat (a - b) := by
  have : Int32.ofNat a = Int32.ofNat (a - b) + Int32.ofNat b := by rw [← Int32.ofNat_add, Nat.sub_add_cancel h]
  rw [this]
  exact Int32.add_sub_cancel _ _
theorem pThI_1 {A : zA} {f : Nat} (h : A 1 = Int32.ofNat (10 * f)) : ∀ k, k ≤ f → pThI A k 1 = Int32.ofNat (10 * (f - k))
  | 0, _ => h
  | k + 1, hk => by
    show pThin (pThI A k) 1 = _
    unfold pThin
    rw [zu_s, pThI_1 h k (by omega), show (10 : Int32) = Int32.ofNat 10 from rfl, of_sub (by omega)]
    congr 1
    omega
theorem pThI_k {A : zA} {j : Nat} (h0 : j ≠ 0) (h1 : j ≠ 1) : ∀ k, pThI A k j = A j
  | 0 => rfl
  | k + 1 => by
    show pThin (pThI A k) j = _
    unfold pThin
    rw [zu_n h1, zu_n h0, pThI_k h0 h1 k]
def pMt (E : zE) (A : zA) (n : Nat) : Nat → Int32
  | 0 => -2
  | c + 1 => if pDays E (pThI A c) n = n then Int32.ofNat c else pMt E A n c
def pThinnest (E : zE) (A : zA) (x : Int32) : Int32 := if A 3 = -1 then -1 else if x < 1 ∨ 60 < x then -1 else pMt E A x.toNatClampNeg (A 1 / 10).toNatClampNeg
theorem okA_f {E : zE} {A : zA} (h : okA E A) : ∃ f, 1 ≤ f ∧ f ≤ 10 ∧ A 1 = Int32.ofNat (10 * f) ∧ (A 1 / 10).toNatClampNeg = f := by
  obtain ⟨f, h1, h2, h3⟩ := h.2.2
  refine ⟨f, h1, h2, h3, ?_⟩
  rw [h3, show (10 : Int32) = Int32.ofNat 10 from rfl, of_div (by omega) (by omega), toNat_of (by omega)]
  omega
theorem s34 {X : (Nat → Int32) × Nat} {d k e s : Nat} {M : zM} (hG : zGE M) (he : zqk e 1 = true) (hs : zqk s 9 = true) (hap : e + 27 ≤ 114) (hap2 : s + 2 ≤ 114) (hE : okE (emD e M)) (hA : okA (emD e M) (aD e s M)) (hk : k ≤ 60) : ∃ M', zC X (d + 5) 34 [.ref 119, .ref e, .ref s, .int (Int32.ofNat k)] M = some (some (.int (pMt (emD e M) (aD e s M) k (aD e s M 1 / 10).toNatClampNeg)), M') ∧ zfr 114 150 M M' := by
  show ∃ M', zR X (d + 5) 34 (0, [.ref 119, .ref e, .ref s, .int (Int32.ofNat k), zjk, zjk], [], M) = some (some (.int _), M') ∧ _
  have hn4 := (emD_D hE).1
  obtain ⟨f, f1, f2, f3, f4⟩ := okA_f hA
  rw [f4]
  have loop : ∀ m c M1, c + 1 + m = f → zfr 114 150 M M1 → stD (nD (emD e M)) 122 M1 = pThI (aD e s M) c → ∃ M', zR X (d + 5) 34 (15, [.ref 119, .ref e, .ref s, .int (Int32.ofNat k), .int (pMt (emD e M) (aD e s M) k c), .int (Int32.ofNat c)], [], M1) = some (some (.int (pMt (emD e M) (aD e s M) k f)), M') ∧ zfr 114 150 M M' := by
    intro m
    induction m with
    | zero =>
      intro c M1 hc hf hv
      have hG1 := zfr_G hf hG
      obtain ⟨M2, q1, q2, -⟩ := s27w (X := X) (d := d) (k := k) (e := e) (s := 122) (K := M) (M := M1) hG he zq_122 hap (by omega) hE hf (by rw [hv, pThI_k (by decide) (by decide)]; exact hA.1) (by omega)
      rw [hv] at q1
      have hf2 : zfr 114 150 M M2 := zfr_tr hf (zfr_up q2 (by omega) (by omega))
      have hG2 := zfr_G hf2 hG
      have est2 : stD (nD (emD e M)) 122 M2 = pThI (aD e s M) c := by rw [zfr_st q2 (by omega), hv]
      have hfin : stD (nD (emD e M)) 122 M2 1 ≤ 10 := by rw [est2, pThI_1 f3 c (by omega), show (10 : Int32) = Int32.ofNat 10 from rfl, of_le (by omega) (by omega)]; omega
      have hle := pDays_le (E := emD e M) (A := pThI (aD e s M) c) (k := k)
      rw [t34_15 _ _ _ _ _ _ hG1 he hs, if_neg (by rw [show (9 : Int32) = Int32.ofNat 9 from rfl, of_lt (by omega) (by omega)]; omega), q1, Option.bind_some]
      dsimp only [zps]
      rw [t34_32 _ _ _ _ _ _ _ hG2 he hs, fi_ne (by omega) (by omega), s74 (n := nD (emD e M)) hG2 zq_122, if_pos hfin, show f = c + 1 by omega, pMt]
      by_cases c4 : pDays (emD e M) (pThI (aD e s M) c) k = k
      · rw [if_neg (not_not_intro c4), if_pos c4, Option.bind_some]
        dsimp only [zps]
        rw [t34_47 _ _ _ _ _ _ _ hG2 he hs, if_neg (by decide)]
        exact ⟨M2, rfl, hf2⟩
      · rw [if_pos c4, if_neg c4, Option.bind_some]
        dsimp only [zps]
        rw [t34_47 _ _ _ _ _ _ _ hG2 he hs, if_neg (by decide)]
        exact ⟨M2, rfl, hf2⟩
    | succ m ih =>
      intro c M1 hc hf hv
      have hG1 := zfr_G hf hG
      obtain ⟨M2, q1, q2, -⟩ := s27w (X := X) (d := d) (k := k) (e := e) (s := 122) (K := M) (M := M1) hG he zq_122 hap (by omega) hE hf (by rw [hv, pThI_k (by decide) (by decide)]; exact hA.1) (by omega)
      rw [hv] at q1
      have hf2 : zfr 114 150 M M2 := zfr_tr hf (zfr_up q2 (by omega) (by omega))
      have hG2 := zfr_G hf2 hG
      have est2 : stD (nD (emD e M)) 122 M2 = pThI (aD e s M) c := by rw [zfr_st q2 (by omega), hv]
      have hfin : ¬ stD (nD (emD e M)) 122 M2 1 ≤ 10 := by rw [est2, pThI_1 f3 c (by omega), show (10 : Int32) = Int32.ofNat 10 from rfl, of_le (by omega) (by omega)]; omega
      have hfin2 : ¬ stD (nD (emD e M)) 122 M2 1 - 10 ≤ 0 := by rw [est2, pThI_1 f3 c (by omega), show (10 : Int32) = Int32.ofNat 10 from rfl, of_sub (by omega), show (0 : Int32) = Int32.ofNat 0 from rfl, of_le (by omega) (by omega)]; omega
      have hle := pDays_le (E := emD e M) (A := pThI (aD e s M) c) (k := k)
      obtain ⟨M3, w1, w2, w3⟩ := s75 (X := X) (d := d + 4) (n := nD (emD e M)) hG2 zq_122 hfin2
      have hf3 : zfr 114 150 M M3 := zfr_tr hf2 (zfr_up w2 (by omega) (by omega))
      have hG3 := zfr_G hf3 hG
      rw [est2] at w3
      have h9 := ih (c + 1) M3 (by omega) hf3 w3
      rw [pMt] at h9
      rw [t34_15 _ _ _ _ _ _ hG1 he hs, if_neg (by rw [show (9 : Int32) = Int32.ofNat 9 from rfl, of_lt (by omega) (by omega)]; omega), q1, Option.bind_some]
      dsimp only [zps]
      rw [t34_32 _ _ _ _ _ _ _ hG2 he hs, fi_ne (by omega) (by omega), s74 (n := nD (emD e M)) hG2 zq_122, if_neg hfin]
      by_cases c4 : pDays (emD e M) (pThI (aD e s M) c) k = k
      · rw [if_neg (not_not_intro c4), Option.bind_some]
        dsimp only [zps]
        rw [if_pos c4] at h9
        rw [t34_47 _ _ _ _ _ _ _ hG2 he hs, if_pos (by decide), w1, Option.bind_some]
        dsimp only [zps]
        rw [t34_60 _ _ _ _ _ _ hG3 he hs, of_succ]
        exact h9
      · rw [if_pos c4, Option.bind_some]
        dsimp only [zps]
        rw [if_neg c4] at h9
        rw [t34_47 _ _ _ _ _ _ _ hG2 he hs, if_pos (by decide), w1, Option.bind_some]
        dsimp only [zps]
        rw [t34_60 _ _ _ _ _ _ hG3 he hs, of_succ]
        exact h9
  obtain ⟨M1, q1, q2, q3⟩ := s70 (X := X) (d := d + 4) (n := nD (emD e M)) (s := 122) (t := s) hG zq_122 hs (by omega) hn4
  rw [t34_0 _ _ _ _ _ _ hG he hs, q1, Option.bind_some]
  dsimp only [zps]
  rw [t34_12 _ _ _ _ _ _ (zfr_G q2 hG) he hs]
  exact loop (f - 1) 0 M1 (by omega) (zfr_up q2 (by omega) (by omega)) q3
theorem s124 {X : (Nat → Int32) × Nat} {d : Nat} {x : Int32} {M : zM} (hG : zGE M) (hE : okE (emD 40 M)) (hA : okA (emD 40 M) (aD 40 67 M)) : ∃ M', zC X (d + 6) 124 [.ref 0, .int x] M = some (some (.int (pThinnest (emD 40 M) (aD 40 67 M) x)), M') ∧ zfr 114 150 M M' := by
  show ∃ M', zR X (d + 6) 124 (0, [.ref 0, .int x], [], M) = some (some (.int _), M') ∧ _
  have h3 : aD 40 67 M 3 = M.1 67 3 := stD_f (by decide)
  unfold pThinnest
  rw [h3, t124_0 _ _ hG]
  by_cases c1 : x < 1
  · rw [if_pos c1, if_pos (Or.inl c1), ite_self]
    exact ⟨M, rfl, zfr_rf⟩
  · rw [if_neg c1]
    by_cases c2 : 60 < x
    · rw [if_pos c2, if_pos (Or.inr c2), ite_self]
      exact ⟨M, rfl, zfr_rf⟩
    · rw [if_neg c2, if_neg (not_or.mpr ⟨c1, c2⟩)]
      by_cases c3 : M.1 67 3 = -1
      · rw [if_neg (not_not_intro c3), if_pos c3]
        exact ⟨M, rfl, zfr_rf⟩
      · obtain ⟨e1, e2, e3⟩ := of_range (x := x) (a := 1) (b := 60) (by omega) (by omega) (not_or.mpr ⟨c1, c2⟩)
        obtain ⟨M', q1, q2⟩ := s34 (X := X) (d := d) (k := x.toNatClampNeg) (e := 40) (s := 67) hG zq_40 zq_67 (by omega) (by omega) hE hA e3
        rw [← e1] at q1
        rw [if_pos c3, if_neg c3, q1, Option.bind_some]
        dsimp only [zps]
        rw [t124_49 _ _ _ (zfr_G q2 hG)]
        exact ⟨M', rfl, q2⟩
theorem r226 {X : (Nat → Int32) × Nat} {d : Nat} {x : Int32} {M : zM} (hM : okM M) (hA : okA (emR M) (aR M)) : ∃ M', zC X (d + 6) 226 [.ref 460, .int x] M = some (some (.int (pThinnest (emR M) (aR M) x)), M') ∧ rsm M M' := by
  show ∃ M', zR X (d + 6) 226 (0, [.ref 460, .int x, zjk, zjk, zjk, zjk], [], M) = some (some (.int _), M') ∧ _
  have hG := hM.1
  have h3 : aR M 3 = M.1 461 7 := rfl
  have hn4 := (okR_D hM.2.1).1
  obtain ⟨qd, hq1, hq2⟩ := hA.2.1
  obtain ⟨f, f1, f2, f3, f4⟩ := okA_f hA
  unfold pThinnest
  rw [h3, f4, t226_0 _ _ _ _ _ _ hG]
  by_cases c3 : M.1 461 7 = -1
  · rw [if_pos c3, if_pos c3]
    exact ⟨M, rfl, rsm_rf⟩
  · rw [if_neg c3, if_neg c3, r135i (y := 1) (z := 60) (a := 1) (b := 60) hG rfl rfl, Option.bind_some]
    dsimp only [zps]
    rw [t226_20 _ _ _ _ _ _ _ hG]
    by_cases c : x < 1 ∨ 60 < x
    · rw [if_pos c, if_pos c, if_neg (by decide)]
      exact ⟨M, rfl, rsm_rf⟩
    · obtain ⟨e1, e2, e3⟩ := of_range (x := x) (a := 1) (b := 60) (by omega) (by omega) c
      obtain ⟨M1, w1, w2, w3, w4, w5, w6⟩ := r211 (X := X) (d := d + 3) hG
      have inner : ∀ m i c M1, i + m = c → c < f → zwk M M1 → kp M M1 → stR (nD (emR M)) M1 = pThI (aR M) i → ∃ (M2 : zM) (v : Int32), zR X (d + 6) 226 (57, [.ref 460, .int x, .int (pMt (emR M) (aR M) x.toNatClampNeg c), .int (Int32.ofNat (f - 1)), .int (Int32.ofNat c), .int (Int32.ofNat i)], [], M1) = zR X (d + 6) 226 (94, [.ref 460, .int x, .int (pMt (emR M) (aR M) x.toNatClampNeg (c + 1)), .int (Int32.ofNat (f - 1)), .int (Int32.ofNat c), .int v], [], M2) ∧ zwk M M2 ∧ kp M M2 ∧ (∀ k, k < 18 → M2.1 461 k = M.1 461 k) ∧ (∀ k, k < 4 → M2.1 462 k = M.1 462 k) := by
        intro m
        induction m with
        | zero =>
          intro i c M1 hi hc hf hk hv
          have hG1 := zwk_G hf hG
          obtain ⟨M2, q1, q2, q3, q4, q5, q6, q7⟩ := r215w (X := X) (d := d) (k := x.toNatClampNeg) (q := qd) (K := M) (M := M1) hM hf (by rw [hv, pThI_k (by decide) (by decide)]; exact hA.1) (by rw [hv, pThI_k (by decide) (by decide)]; exact hq2) (by omega) (by omega)
          obtain ⟨M3, y1, y2, y3, y4, y5, y6⟩ := r212 (X := X) (d := d + 3) (K := M) (M := M2) (zwk_G q2 hG) q2 (kp_w hk q3)
          rw [hv, ← e1] at q1
          have hle := pDays_le (E := emR M) (A := pThI (aR M) i) (k := x.toNatClampNeg)
          have ex : (Int32.ofNat (pDays (emR M) (pThI (aR M) i) x.toNatClampNeg) = x) ↔ pDays (emR M) (pThI (aR M) i) x.toNatClampNeg = x.toNatClampNeg := of_eqx e1 (by omega) (by omega)
          refine ⟨M3, Int32.ofNat i, ?_, y2, y6, y3, y4⟩
          rw [t226_57 _ _ _ _ _ _ hG1, if_pos (by rw [of_le (by omega) (by omega)]; omega), q1, Option.bind_some]
          dsimp only [zps]
          rw [t226_79 _ _ _ _ _ _ _ (zwk_G q2 hG), y1, Option.bind_some, Option.bind_some]
          dsimp only [zps]
          rw [pMt, show c = i by omega]
          by_cases c4 : pDays (emR M) (pThI (aR M) i) x.toNatClampNeg = x.toNatClampNeg
          · rw [if_neg (not_not_intro (ex.mpr c4)), if_pos c4]
          · rw [if_pos (fun h => c4 (ex.mp h)), if_neg c4]
        | succ m ih =>
          intro i c M1 hi hc hf hk hv
          have hG1 := zwk_G hf hG
          have hfin2 : ¬ stR (nD (emR M)) M1 1 - 10 ≤ 0 := by rw [hv, pThI_1 f3 i (by omega), show (10 : Int32) = Int32.ofNat 10 from rfl, of_sub (by omega), show (0 : Int32) = Int32.ofNat 0 from rfl, of_le (by omega) (by omega)]; omega
          obtain ⟨M2, q1, q2, q3⟩ := r208 (X := X) (d := d + 5) (n := nD (emR M)) hG1 hfin2
          have hf2 := zwk_tr hf (zwk_s q2)
          obtain ⟨M3, v, y1, y2⟩ := ih (i + 1) c M2 (by omega) hc hf2 (kp_w hk (zfs_c q2 (by decide))) (by rw [q3, hv]; rfl)
          refine ⟨M3, v, ?_, y2⟩
          rw [t226_57 _ _ _ _ _ _ hG1, if_neg (by rw [of_le (by omega) (by omega)]; omega), q1, Option.bind_some]
          dsimp only [zps]
          rw [t226_68 _ _ _ _ _ _ (zwk_G hf2 hG), of_succ]
          exact y1
      have loop : ∀ m c v M1, c + m = f → zwk M M1 → kp M M1 → (∀ k, k < 18 → M1.1 461 k = M.1 461 k) → (∀ k, k < 4 → M1.1 462 k = M.1 462 k) → ∃ M', zR X (d + 6) 226 (48, [.ref 460, .int x, .int (pMt (emR M) (aR M) x.toNatClampNeg c), .int (Int32.ofNat (f - 1)), .int (Int32.ofNat c), v], [], M1) = some (some (.int (pMt (emR M) (aR M) x.toNatClampNeg f)), M') ∧ rsm M M' := by
        intro m
        induction m with
        | zero =>
          intro c v M1 hi hf hk a1 a2
          rw [t226_48 _ _ _ _ _ _ (zwk_G hf hG), if_pos (by rw [of_lt (by omega) (by omega)]; omega), show c = f by omega]
          exact ⟨M1, rfl, hf, a1, a2⟩
        | succ m ih =>
          intro c v M1 hi hf hk a1 a2
          have hG1 := zwk_G hf hG
          obtain ⟨M2, v2, q1, q2, q3, q4, q5⟩ := inner c 0 c M1 (by omega) (by omega) hf hk (kp_st hn4 a1 a2)
          rw [t226_48 _ _ _ _ _ _ hG1, if_neg (by rw [of_lt (by omega) (by omega)]; omega)]
          have q1' : zR X (d + 6) 226 (57, [.ref 460, .int x, .int (pMt (emR M) (aR M) x.toNatClampNeg c), .int (Int32.ofNat (f - 1)), .int (Int32.ofNat c), .int 0], [], M1) = _ := q1
          have h9 := ih (c + 1) (.int v2) M2 (by omega) q2 q3 q4 q5
          obtain ⟨M3, z1, z2⟩ := h9
          refine ⟨M3, ?_, z2⟩
          rw [q1', t226_94 _ _ _ _ _ _ (zwk_G q2 hG), of_succ]
          exact z1
      rw [if_neg c, if_neg c, if_pos (by decide), w1, Option.bind_some]
      dsimp only [zps]
      have e11 : M1.1 461 11 = Int32.ofNat (10 * f) := by rw [w3]; exact f3
      rw [t226_32 _ _ _ _ _ _ (zwk_G w2 hG), e11, show (10 : Int32) = Int32.ofNat 10 from rfl, of_div (by omega) (by omega), show 10 * f / 10 = f by omega, of_pred (by omega)]
      exact loop f 0 zjk M1 (by omega) w2 w6 (fun k _ => by rw [w3]) (fun k _ => by rw [w4])
/-! ahead -/
def pAhead (E : zE) (A : zA) (x w : Int32) : Int32 := if E 0 0 = 0 then -2 else if x < 0 ∨ 200 < x then -2 else if w < 0 ∨ 3 < w then -2 else if w = 0 then pIt E x.toNatClampNeg A 3 else if w = 1 then pMen E (pIt E x.toNatClampNeg A) else if w = 2 then pIt E x.toNatClampNeg A 4 else pIt E x.toNatClampNeg A 0
theorem s11 {X : (Nat → Int32) × Nat} {d e : Nat} {M : zM} (hG : zGE M) (he : zqk e 1 = true) (hE : okE (emD e M)) : zC X d 11 [.ref e] M = some (some (.int (if emD e M 0 0 = 0 then 0 else 1)), M) := by
  show zR X d 11 (0, [.ref e], [], M) = _
  obtain ⟨k, hk, h1⟩ := hE.1
  have h0 : M.1 (e + 1) 0 = Int32.ofNat k := by rw [← h1]; exact (emD_0 (by decide)).symm
  rw [t11_0 _ _ hG he, h0, h1]
  rcases (show k = 0 ∨ k = 1 by omega) with rfl | rfl
  · rfl
  · rfl
theorem s115 {X : (Nat → Int32) × Nat} {d : Nat} {x w : Int32} {M : zM} (hG : zGE M) (hE : okE (emD 40 M)) (hA : okA (emD 40 M) (aD 40 67 M)) : ∃ M', zC X (d + 5) 115 [.ref 0, .int x, .int w] M = some (some (.int (pAhead (emD 40 M) (aD 40 67 M) x w)), M') ∧ zfr 114 150 M M' := by
  show ∃ M', zR X (d + 5) 115 (0, [.ref 0, .int x, .int w, zjk], [], M) = some (some (.int _), M') ∧ _
  have hn4 := (emD_D hE).1
  unfold pAhead
  rw [t115_0 _ _ _ _ hG, s11 hG zq_40 hE, Option.bind_some]
  dsimp only [zps]
  rw [t115_10 _ _ _ _ _ hG]
  by_cases c0 : emD 40 M 0 0 = 0
  · rw [if_pos c0, if_pos c0, if_pos rfl]
    exact ⟨M, rfl, zfr_rf⟩
  · rw [if_neg c0, if_neg c0, if_neg (by decide)]
    by_cases c1 : x < 0
    · rw [if_pos c1, if_pos (Or.inl c1)]
      exact ⟨M, rfl, zfr_rf⟩
    · rw [if_neg c1]
      by_cases c2 : 200 < x
      · rw [if_neg (Int32.not_le.mpr c2), if_pos (Or.inr c2)]
        exact ⟨M, rfl, zfr_rf⟩
      · obtain ⟨e1, e2, e3⟩ := of_range (x := x) (a := 0) (b := 200) (by omega) (by omega) (not_or.mpr ⟨c1, c2⟩)
        obtain ⟨M1, q1, q2, q3⟩ := s26 (X := X) (d := d) (n := nD (emD 40 M)) (s := 67) (e := 40) (k := x.toNatClampNeg) hG zq_67 zq_40 (by omega) (by omega) (Nat.le_refl _) hn4 hE hA.1 (by omega)
        rw [← e1] at q1
        have hG1 := zfr_G q2 hG
        have em : emD 40 M1 = emD 40 M := zfr_em q2 (by omega)
        rw [if_pos (Int32.not_lt.mp c2), if_neg (not_or.mpr ⟨c1, c2⟩), q1, Option.bind_some]
        dsimp only [zps]
        rw [t115_49 _ _ _ _ _ hG1 zq_120]
        have z0 : (0 : Int32) = Int32.ofNat 0 := rfl
        have z3 : (3 : Int32) = Int32.ofNat 3 := rfl
        have hf1 : zfr 114 150 M M1 := zfr_up q2 (by omega) (by omega)
        by_cases c3 : w < 0 ∨ 3 < w
        · have e : zsw 51 56 0 3 #[29, 34, 46, 51] w = 107 := by
            unfold zsw
            rw [if_pos]
            · rfl
            · rw [Int32.lt_iff_toInt_lt, Int32.lt_iff_toInt_lt] at c3
              exact c3
          rw [e, t115_107 _ _ _ _ hG1 zq_120, if_pos c3]
          exact ⟨M1, rfl, hf1⟩
        · rw [if_neg c3]
          obtain ⟨g1, g2, g3⟩ := of_range (x := w) (a := 0) (b := 3) (by omega) (by omega) c3
          generalize hk : w.toNatClampNeg = k at g1 g2 g3
          rcases (show k = 0 ∨ k = 1 ∨ k = 2 ∨ k = 3 by omega) with rfl | rfl | rfl | rfl
          · rw [g1, show zsw 51 56 0 3 #[29, 34, 46, 51] (Int32.ofNat 0) = 80 from rfl, t115_80 _ _ _ _ hG1 zq_120, if_pos (show Int32.ofNat 0 = 0 from rfl), ← q3, stD_f (by decide)]
            exact ⟨M1, rfl, hf1⟩
          · rw [g1, show zsw 51 56 0 3 #[29, 34, 46, 51] (Int32.ofNat 1) = 85 from rfl, t115_85 _ _ _ _ hG1 zq_120, s71 (n := nD (emD 40 M)) hG1 zq_120 zq_40 (by rw [em]; exact hE), Option.bind_some, em, q3, if_neg (by decide), if_pos (by rfl)]
            dsimp only [zps]
            rw [t115_96 _ _ _ _ _ hG1 zq_120]
            exact ⟨M1, rfl, hf1⟩
          · rw [g1, show zsw 51 56 0 3 #[29, 34, 46, 51] (Int32.ofNat 2) = 97 from rfl, t115_97 _ _ _ _ hG1 zq_120, if_neg (by decide), if_neg (by decide), if_pos (by rfl), ← q3, stD_f (by decide)]
            exact ⟨M1, rfl, hf1⟩
          · rw [g1, show zsw 51 56 0 3 #[29, 34, 46, 51] (Int32.ofNat 3) = 102 from rfl, t115_102 _ _ _ _ hG1 zq_120, if_neg (by decide), if_neg (by decide), if_neg (by decide), ← q3, stD_f (by decide)]
            exact ⟨M1, rfl, hf1⟩
theorem r214 {X : (Nat → Int32) × Nat} {d : Nat} {x w : Int32} {M : zM} (hM : okM M) (hA : okA (emR M) (aR M)) : ∃ M', zC X (d + 6) 214 [.ref 460, .int x, .int w] M = some (some (.int (pAhead (emR M) (aR M) x w)), M') ∧ rsm M M' := by
  show ∃ M', zR X (d + 6) 214 (0, [.ref 460, .int x, .int w, zjk], [], M) = some (some (.int _), M') ∧ _
  have hG := hM.1
  have hn4 := (okR_D hM.2.1).1
  obtain ⟨qd, hq1, hq2⟩ := hA.2.1
  have h0 : M.1 460 25 = emR M 0 0 := rfl
  unfold pAhead
  rw [t214_0 _ _ _ _ hG, h0]
  by_cases c0 : emR M 0 0 = 0
  · rw [if_pos c0, if_pos c0]
    exact ⟨M, rfl, rsm_rf⟩
  · rw [if_neg c0, if_neg c0, r135i (y := 0) (z := 200) (a := 0) (b := 200) hG rfl rfl, Option.bind_some]
    dsimp only [zps]
    rw [t214_16 _ _ _ _ _ hG]
    by_cases c1 : x < 0 ∨ 200 < x
    · rw [if_pos c1, if_pos c1, if_pos rfl]
      exact ⟨M, rfl, rsm_rf⟩
    · rw [if_neg c1, if_neg c1, if_neg (by decide), r135i (y := 0) (z := 3) (a := 0) (b := 3) hG rfl rfl, Option.bind_some]
      dsimp only [zps]
      rw [t214_28 _ _ _ _ _ hG]
      by_cases c2 : w < 0 ∨ 3 < w
      · rw [if_pos c2, if_pos c2, if_neg (by decide)]
        exact ⟨M, rfl, rsm_rf⟩
      · obtain ⟨e1, e2, e3⟩ := of_range (x := x) (a := 0) (b := 200) (by omega) (by omega) c1
        obtain ⟨M1, w1, w2, w3, w4, w5, w6⟩ := r211 (X := X) (d := d + 3) hG
        have hG1 := zwk_G w2 hG
        have hM1 := zwk_M w2 hM
        have em := zwk_em w2
        have est : stR (nD (emR M)) M1 = aR M := kp_st hn4 (fun k _ => by rw [w3]) (fun k _ => by rw [w4])
        obtain ⟨M2, q1, q2, q3⟩ := r200 (X := X) (d := d) (n := nD (emR M)) (k := x.toNatClampNeg) (q := qd) hM1.1 (by rw [em]; exact Nat.le_refl _) hM1.2.1 hM1.2.2 (by rw [em, est]; exact hA.1) (by rw [est]; exact hq2) (by omega) (by omega)
        rw [← e1] at q1
        rw [em, est] at q3
        have hf2 := zwk_tr w2 (zwk_s q2)
        have hG2 := zwk_G hf2 hG
        have hM2 := zwk_M hf2 hM
        have em2 := zwk_em hf2
        obtain ⟨M3, y1, y2, y3, y4, y5, y6⟩ := r212 (X := X) (d := d + 3) (K := M) (M := M2) hG2 hf2 (kp_w w6 (zfs_c q2 (by decide)))
        have hG3 := zwk_G y2 hG
        have f7 : M2.1 461 7 = pIt (emR M) x.toNatClampNeg (aR M) 3 := by rw [← q3]; rfl
        have f10 : M2.1 461 10 = pIt (emR M) x.toNatClampNeg (aR M) 4 := by rw [← q3]; rfl
        have f0 : M2.1 461 0 = pIt (emR M) x.toNatClampNeg (aR M) 0 := by rw [← q3]; rfl
        refine ⟨M3, ?_, y2, y3, y4⟩
        rw [if_neg c2, if_neg c2, if_pos (by decide), w1, Option.bind_some]
        dsimp only [zps]
        rw [t214_38 _ _ _ _ hG1, q1, Option.bind_some]
        dsimp only [zps]
        rw [t214_43 _ _ _ _ hG2, f7, f10, f0]
        by_cases g0 : w = 0
        · rw [if_neg (not_not_intro g0), if_pos g0, y1, Option.bind_some]
          dsimp only [zps]
          rw [t214_95 _ _ _ _ hG3]
        · rw [if_pos g0, if_neg g0]
          by_cases g1 : w = 1
          · rw [if_neg (not_not_intro g1), if_pos g1, r181 (n := nD (emR M)) hG2 hM2.2.1, Option.bind_some, em2, q3]
            dsimp only [zps]
            rw [t214_66 _ _ _ _ _ hG2, y1, Option.bind_some]
            dsimp only [zps]
            rw [t214_95 _ _ _ _ hG3]
          · rw [if_pos g1, if_neg g1]
            by_cases g2 : w = 2
            · rw [if_neg (not_not_intro g2), if_pos g2, y1, Option.bind_some]
              dsimp only [zps]
              rw [t214_95 _ _ _ _ hG3]
            · rw [if_pos g2, if_neg g2, y1, Option.bind_some]
              dsimp only [zps]
              rw [t214_95 _ _ _ _ hG3]
/-! fall -/
def pFall (E : zE) (A : zA) (w : Int32) : Int32 := if A 3 = -1 then -3 else if w < 0 ∨ 1 < w then -3 else if pDays E A 200 = 200 then -2 else if w = 0 then A 2 + Int32.ofNat (pDays E A 200) else (pHd E (A 3) 200 0 A).2 3
theorem pHd_2 {E : zE} {who : Int32} : ∀ {m i : Nat} {A : zA}, (pHd E who m i A).1 < i + m → (pHd E who m i A).2 2 + Int32.ofNat i = A 2 + 1 + Int32.ofNat (pHd E who m i A).1
  | 0, i, A => fun h => absurd h (Nat.lt_irrefl _)
  | m + 1, i, A => fun h => by
    rw [pHd] at h ⊢
    by_cases c : pGo E A 3 = who
    · rw [if_pos c] at h ⊢
      have := pHd_2 (E := E) (who := who) (m := m) (i := i + 1) (A := pGo E A) (by omega)
      rw [pGo_2, ← of_succ] at this
      have h2 : (pHd E who m (i + 1) (pGo E A)).2 2 + Int32.ofNat i + 1 = A 2 + 1 + Int32.ofNat (pHd E who m (i + 1) (pGo E A)).1 + 1 := by
        rw [Int32.add_assoc, this, Int32.add_assoc (A 2 + 1), Int32.add_comm (1 : Int32) (Int32.ofNat _), ← Int32.add_assoc]
      exact (Int32.add_left_inj 1).mp h2
    · rw [if_neg c]
      show pGo E A 2 + Int32.ofNat i = _
      rw [pGo_2]
theorem s116 {X : (Nat → Int32) × Nat} {d : Nat} {x : Int32} {M : zM} (hG : zGE M) (hE : okE (emD 40 M)) (hA : okA (emD 40 M) (aD 40 67 M)) : ∃ M', zC X (d + 5) 116 [.ref 0, .int x] M = some (some (.int (pFall (emD 40 M) (aD 40 67 M) x)), M') ∧ zfr 114 150 M M' := by
  show ∃ M', zR X (d + 5) 116 (0, [.ref 0, .int x, zjk], [], M) = some (some (.int _), M') ∧ _
  have hn4 := (emD_D hE).1
  have h3 : aD 40 67 M 3 = M.1 67 3 := stD_f (by decide)
  have h2 : aD 40 67 M 2 = M.1 67 2 := stD_f (by decide)
  unfold pFall
  rw [t116_0 _ _ _ hG]
  by_cases c1 : x < 0
  · rw [if_pos c1, if_pos (Or.inl c1), ite_self]
    exact ⟨M, rfl, zfr_rf⟩
  · rw [if_neg c1]
    by_cases c2 : 1 < x
    · rw [if_pos c2, if_pos (Or.inr c2), ite_self]
      exact ⟨M, rfl, zfr_rf⟩
    · rw [if_neg c2, if_neg (not_or.mpr ⟨c1, c2⟩)]
      by_cases c3 : M.1 67 3 = -1
      · rw [if_neg (not_not_intro c3), if_pos (h3.trans c3)]
        exact ⟨M, rfl, zfr_rf⟩
      · obtain ⟨M1, q1, q2, q3⟩ := s27w (X := X) (d := d) (k := 200) (e := 40) (s := 67) (K := M) (M := M) hG zq_40 zq_67 (by omega) (by omega) hE zfr_rf hA.1 (by omega)
        have hG1 := zfr_G q2 hG
        have hf1 : zfr 114 150 M M1 := zfr_up q2 (by omega) (by omega)
        have hle := pDays_le (E := emD 40 M) (A := aD 40 67 M) (k := 200)
        have q1 : zC X (d + 4) 27 [.ref 119, .ref 40, .ref 67, .int (Int32.ofNat 200)] M = some (some (.int (Int32.ofNat (pDays (emD 40 M) (aD 40 67 M) 200))), M1) := q1
        rw [if_pos c3, if_neg (by rw [h3]; exact c3), show (200 : Int32) = Int32.ofNat 200 from rfl, q1, Option.bind_some]
        dsimp only [zps]
        rw [t116_50 _ _ _ _ hG1, show (200 : Int32) = Int32.ofNat 200 from rfl, fi_lt (by omega) (by omega)]
        by_cases c4 : pDays (emD 40 M) (aD 40 67 M) 200 = 200
        · rw [if_neg (by omega), if_pos c4]
          exact ⟨M1, rfl, hf1⟩
        · rw [if_pos (by omega), if_neg c4]
          by_cases c5 : x = 0
          · rw [if_neg (not_not_intro c5), if_pos c5, h2, (q2.2 67 (by omega)).1]
            exact ⟨M1, rfl, hf1⟩
          · have e28 : zC X (d + 4) 28 [.ref 119] M1 = zR X (d + 4) 28 (0, [.ref 119], [], M1) := rfl
            rw [if_pos c5, if_neg c5, e28, t28_0 _ hG1, Option.bind_some]
            dsimp only [zps]
            rw [t116_87 _ _ _ _ hG1]
            refine ⟨M1, ?_, hf1⟩
            have e3 := congrFun q3 3
            rw [stD_f (by decide)] at e3
            rw [e3]
theorem r216 {X : (Nat → Int32) × Nat} {d : Nat} {x : Int32} {M : zM} (hM : okM M) (hA : okA (emR M) (aR M)) : ∃ M', zC X (d + 6) 216 [.ref 460, .int x] M = some (some (.int (pFall (emR M) (aR M) x)), M') ∧ rsm M M' := by
  show ∃ M', zR X (d + 6) 216 (0, [.ref 460, .int x, zjk, zjk, zjk], [], M) = some (some (.int _), M') ∧ _
  have hG := hM.1
  have h3 : aR M 3 = M.1 461 7 := rfl
  have hn4 := (okR_D hM.2.1).1
  obtain ⟨qd, hq1, hq2⟩ := hA.2.1
  unfold pFall
  rw [h3, t216_0 _ _ _ _ _ hG]
  by_cases c3 : M.1 461 7 = -1
  · rw [if_pos c3, if_pos c3]
    exact ⟨M, rfl, rsm_rf⟩
  · rw [if_neg c3, if_neg c3, r135i (y := 0) (z := 1) (a := 0) (b := 1) hG rfl rfl, Option.bind_some]
    dsimp only [zps]
    rw [t216_18 _ _ _ _ _ _ hG]
    by_cases c : x < 0 ∨ 1 < x
    · rw [if_pos c, if_pos c, if_neg (by decide)]
      exact ⟨M, rfl, rsm_rf⟩
    · obtain ⟨M1, w1, w2, w3, w4, w5, w6⟩ := r211 (X := X) (d := d + 3) hG
      have hG1 := zwk_G w2 hG
      have est : stR (nD (emR M)) M1 = aR M := kp_st hn4 (fun k _ => by rw [w3]) (fun k _ => by rw [w4])
      obtain ⟨M2, q1, q2, q3, q4, q5, q6, q7⟩ := r215w (X := X) (d := d) (k := 200) (q := qd) (K := M) (M := M1) hM w2 (by rw [est]; exact hA.1) (by rw [est]; exact hq2) (by omega) (by omega)
      rw [est] at q1 q6
      have hG2 := zwk_G q2 hG
      obtain ⟨M3, y1, y2, y3, y4, y5, y6⟩ := r212 (X := X) (d := d + 3) (K := M) (M := M2) hG2 q2 (kp_w w6 q3)
      have hG3 := zwk_G y2 hG
      have f7 : M2.1 461 7 = (pHd (emR M) (aR M 3) 200 0 (aR M)).2 3 := by rw [← q6]; rfl
      have f6 : M2.1 461 6 = (pHd (emR M) (aR M 3) 200 0 (aR M)).2 2 := by rw [← q6]; rfl
      have hle := pDays_le (E := emR M) (A := aR M) (k := 200)
      refine ⟨M3, ?_, y2, y3, y4⟩
      rw [if_neg c, if_neg c, if_pos (by decide), w1, Option.bind_some]
      dsimp only [zps]
      rw [t216_28 _ _ _ _ _ hG1, show (200 : Int32) = Int32.ofNat 200 from rfl, q1, Option.bind_some]
      dsimp only [zps]
      rw [t216_35 _ _ _ _ _ _ hG2, y1, Option.bind_some, f7, f6]
      dsimp only [zps]
      rw [t216_59 _ _ _ _ _ hG3, show (200 : Int32) = Int32.ofNat 200 from rfl, fi_ne (by omega) (by omega)]
      by_cases c4 : pDays (emR M) (aR M) 200 = 200
      · rw [if_neg (not_not_intro c4), if_pos c4]
      · rw [if_pos c4, if_neg c4]
        by_cases c5 : x = 0
        · rw [if_neg (not_not_intro c5), if_pos c5]
          have h9 := pHd_2 (E := emR M) (who := aR M 3) (m := 200) (i := 0) (A := aR M) (by
            have e : (pHd (emR M) (aR M 3) 200 0 (aR M)).1 = pDays (emR M) (aR M) 200 := rfl
            omega)
          have e0 : Int32.ofNat 0 = 0 := rfl
          rw [e0, Int32.add_zero] at h9
          have e1 : (pHd (emR M) (aR M 3) 200 0 (aR M)).1 = pDays (emR M) (aR M) 200 := rfl
          rw [h9, e1, Int32.add_assoc, Int32.add_comm 1, ← Int32.add_assoc]
          rw [Int32.add_sub_cancel]
        · rw [if_pos c5, if_neg c5, h3]
