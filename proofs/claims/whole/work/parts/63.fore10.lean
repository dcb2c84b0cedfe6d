/-! ===== how to halve the guards: both ===== -/
theorem s37 {X : (Nat → Int32) × Nat} {d e : Nat} {x : Int32} {M : zM} (hG : zGE M) (he : zqk e 1 = true) (hE : okE (emD e M)) : zC X d 37 [.ref e, .int x] M = some (some (.int (pMS (emD e M) x (nG (emD e M)))), M) := by
  show zR X d 37 (0, [.ref e, .int x, zjk, zjk], [], M) = _
  obtain ⟨hn, hc⟩ := okE_G hE
  have loop : ∀ m k, k + m = nG (emD e M) → zR X d 37 (4, [.ref e, .int x, .int (pMS (emD e M) x k), .int (Int32.ofNat k)], [], M) = some (some (.int (pMS (emD e M) x (nG (emD e M)))), M) := by
    intro m
    induction m with
    | zero =>
      intro k hk
      have hle : M.1 (e + 1) 1 ≤ Int32.ofNat k := by rw [hc, of_le (by omega) (by omega)]; omega
      rw [t37_4 _ _ _ _ _ hG he (fun h => absurd hle h), if_pos hle, show k = nG (emD e M) by omega]
    | succ m ih =>
      intro k hk
      have h9 := ih (k + 1) (by omega)
      rw [pMS] at h9
      rw [t37_4 _ _ _ _ _ hG he (fun _ _ => vp_of (by omega) (by omega)), hc, if_neg (by rw [of_le (by omega) (by omega)]; omega), of_succ, toNat_of (by omega)]
      cases hb : pb x k
      · rw [hb] at h9
        rw [if_pos (pb_f hb)]
        exact h9
      · rw [hb, cond_true, emD_G (Or.inl rfl) (show k < nG (emD e M) by omega)] at h9
        rw [if_neg (pb_t hb)]
        exact h9
  rw [t37_0 _ _ _ _ _ hG he]
  exact loop (nG (emD e M)) 0 (by omega)
theorem r227 {X : (Nat → Int32) × Nat} {d : Nat} {x : Int32} {M : zM} (hG : zGE M) (hE : okE (emR M)) : zC X (d + 1) 227 [.ref 460, .int x] M = some (some (.int (pMS (emR M) x (nG (emR M)))), M) := by
  show zR X (d + 1) 227 (0, [.ref 460, .int x, zjk, zjk], [], M) = _
  obtain ⟨hn, hc⟩ := okR_G hE
  have loop : ∀ m k, k + m = nG (emR M) → zR X (d + 1) 227 (4, [.ref 460, .int x, .int (pMS (emR M) x k), .int (Int32.ofNat k)], [], M) = some (some (.int (pMS (emR M) x (nG (emR M)))), M) := by
    intro m
    induction m with
    | zero =>
      intro k hk
      rw [t227_4 _ _ _ _ hG, hc, if_pos (by rw [of_le (by omega) (by omega)]; omega), show k = nG (emR M) by omega]
    | succ m ih =>
      intro k hk
      have h9 := ih (k + 1) (by omega)
      rw [pMS] at h9
      rw [t227_4 _ _ _ _ hG, hc, if_neg (by rw [of_le (by omega) (by omega)]; omega), r136 hG, Option.bind_some]
      dsimp only [zps]
      rw [t227_20 _ _ _ _ _ _ hG (fun _ => vp_of (by omega) (by omega)), of_succ, toNat_of (by omega)]
      cases hb : pb x k
      · rw [hb] at h9
        rw [cond_false, if_pos rfl, Int32.add_zero]
        exact h9
      · rw [hb, cond_true, emR_G (Or.inl rfl) (show k < nG (emR M) by omega)] at h9
        rw [cond_true, if_neg (by decide)]
        exact h9
  rw [t227_0 _ _ _ _ hG]
  exact loop (nG (emR M)) 0 (by omega)
def pThr (E : zE) (A : zA) : Nat := ((A 7 ^^^ (-1 : Int32)) &&& (((1 : Int32) <<< (Int32.ofNat (nG E) &&& 31)) - 1) : Int32).toNatClampNeg
theorem pThr_of {E : zE} {A : zA} (hn : nG E ≤ 6) : pThr E A < 2 ^ nG E ∧ (A 7 ^^^ (-1 : Int32)) &&& (((1 : Int32) <<< (Int32.ofNat (nG E) &&& 31)) - 1) = Int32.ofNat (pThr E A) := by
  have hp2 : 2 ^ nG E ≤ 2 ^ 6 := Nat.pow_le_pow_right (by omega) hn
  obtain ⟨v, h1, h2⟩ := and_lt (x := A 7 ^^^ -1) hn
  have e : pThr E A = v := by
    unfold pThr
    rw [h2, toNat_of (by omega)]
  rw [e]
  exact ⟨h1, h2⟩
theorem pAll {E : zE} {A : zA} (hn : nG E ≤ 6) : pMS E (A 7 ^^^ -1) (nG E) = pMS E (Int32.ofNat (pThr E A)) (nG E) := by
  refine pMS_c _ (fun j hj => ?_)
  rw [← (pThr_of (A := A) hn).2, pb_and (by omega), pb_mask _ hn _ hj, Bool.and_true]
/-- the set counts, and how far apart -/
theorem pAp_d {E : zE} {v c : Nat} (hX : okX E) (hn : nG E ≤ 6) (hv : v < 64) (hc : c < 64) (hq : qv v c = true) : ∃ a b, a ≤ 180 ∧ b ≤ 180 ∧ pMS E (Int32.ofNat c) (nG E) = Int32.ofNat a ∧ pMS E (Int32.ofNat v &&& (Int32.ofNat c ^^^ -1)) (nG E) = Int32.ofNat b ∧ pMS E (Int32.ofNat v) (nG E) = Int32.ofNat a + Int32.ofNat b ∧ pAp E v c = (if a ≤ b then b - a else a - b) := by
  obtain ⟨a, h1, h2⟩ := pMS_b (x := Int32.ofNat c) hX (nG E) (Nat.le_refl _)
  obtain ⟨b, h3, h4⟩ := pMS_b (x := Int32.ofNat v &&& (Int32.ofNat c ^^^ -1)) hX (nG E) (Nat.le_refl _)
  refine ⟨a, b, by omega, by omega, h2, h4, ?_, ?_⟩
  · rw [pMS_s (s := Int32.ofNat c) (nG E) hn (fun j hj h => qv_sub v hv c hc hq j (by omega) h), h2, h4]
  · unfold pAp
    rw [h2, h4, toNat_of (by omega), toNat_of (by omega)]
theorem pAp_le {E : zE} {v c : Nat} (hX : okX E) (hn : nG E ≤ 6) : pAp E v c ≤ 180 := by
  obtain ⟨a, h1, h2⟩ := pMS_b (x := Int32.ofNat c) hX (nG E) (Nat.le_refl _)
  obtain ⟨b, h3, h4⟩ := pMS_b (x := Int32.ofNat v &&& (Int32.ofNat c ^^^ -1)) hX (nG E) (Nat.le_refl _)
  unfold pAp
  rw [h2, h4, toNat_of (by omega), toNat_of (by omega)]
  split <;> omega
theorem pHv_i {E : zE} {v : Nat} (hX : okX E) (hn : nG E ≤ 6) (hv : v < 64) : ∀ c, c ≤ 64 → ((pHv E v c).1 = 0 ↔ (pHv E v c).2 = -1) ∧ (v < c → v ≠ 0 → (pHv E v c).2 ≠ -1)
  | 0, _ => ⟨⟨fun _ => rfl, fun _ => rfl⟩, fun h => absurd h (Nat.not_lt_zero _)⟩
  | c + 1, hc => by
    obtain ⟨i1, i2⟩ := pHv_i hX hn hv c (by omega)
    have hap := pAp_le (E := E) (v := v) (c := c) hX hn
    rw [pHv]
    by_cases hq : qv v c = true
    · have hb := qv_b v hv c (by omega) hq
      rw [if_pos hq]
      by_cases c1 : (pHv E v c).2 = -1 ∨ Int32.ofNat (pAp E v c) < (pHv E v c).2
      · rw [if_pos c1]
        have n1 : ¬ Int32.ofNat c = 0 := by rw [show (0 : Int32) = Int32.ofNat 0 from rfl, of_inj (by omega) (by omega)]; omega
        have n2 : ¬ Int32.ofNat (pAp E v c) = -1 := ne_m1 (by omega)
        exact ⟨⟨fun h => absurd h n1, fun h => absurd h n2⟩, fun _ _ => n2⟩
      · rw [if_neg c1]
        exact ⟨i1, fun _ _ h => c1 (Or.inl h)⟩
    · rw [if_neg hq]
      refine ⟨i1, fun h hv0 => ?_⟩
      rcases Nat.lt_or_ge v c with h1 | h1
      · exact i2 h1 hv0
      · have e : v = c := by omega
        exact absurd (by rw [← e]; exact qv_v v hv hv0) hq
theorem pHv_end {E : zE} {v : Nat} (hv : v < 64) : ∀ m c, v < c → c + m ≤ 64 → pHv E v (c + m) = pHv E v c
  | 0, c, _, _ => rfl
  | m + 1, c, h, h2 => by
    show pHv E v (c + m + 1) = _
    rw [pHv, if_neg, pHv_end hv m c h (by omega)]
    intro hq
    have := (qv_b v hv (c + m) (by omega) hq).2
    omega
def pHalves (E : zE) (A : zA) (x : Int32) : Int32 := if E 0 0 = 0 then -1 else if x < 0 ∨ 1 < x then -1 else if pThr E A = 0 then 0 else if x = 0 then (pHv E (pThr E A) (pThr E A + 1)).2 else (pHv E (pThr E A) (pThr E A + 1)).1
theorem s36 {X : (Nat → Int32) × Nat} {d : Nat} {M : zM} (hG : zGE M) (hE : okE (emD 40 M)) (hX : okX (emD 40 M)) : ∃ M', zC X (d + 1) 36 [.ref 119, .ref 40, .ref 67] M = some (none, M') ∧ zfr 114 150 M M' ∧ M'.1 119 6 = (if pThr (emD 40 M) (aD 40 67 M) = 0 then 0 else (pHv (emD 40 M) (pThr (emD 40 M) (aD 40 67 M)) (pThr (emD 40 M) (aD 40 67 M) + 1)).2) ∧ M'.1 119 3 = (if pThr (emD 40 M) (aD 40 67 M) = 0 then 0 else (pHv (emD 40 M) (pThr (emD 40 M) (aD 40 67 M)) (pThr (emD 40 M) (aD 40 67 M) + 1)).1) := by
  show ∃ M', zR X (d + 1) 36 (0, [.ref 119, .ref 40, .ref 67, zjk, zjk, zjk, zjk, zjk, zjk], [], M) = some (none, M') ∧ _
  obtain ⟨hn, hc⟩ := okE_G hE
  have hp2 : 2 ^ nG (emD 40 M) ≤ 2 ^ 6 := Nat.pow_le_pow_right (by omega) hn
  have h7 : M.1 67 7 = aD 40 67 M 7 := (stD_f (by decide)).symm
  obtain ⟨hv1, hv2⟩ := pThr_of (E := emD 40 M) (A := aD 40 67 M) hn
  have hall := pAll (E := emD 40 M) (A := aD 40 67 M) hn
  generalize hv : pThr (emD 40 M) (aD 40 67 M) = v at hv1 hv2 hall ⊢
  have loop : ∀ m c v8 M1, c + m = 2 ^ nG (emD 40 M) → 1 ≤ c → zfr 114 150 M M1 → M1.1 119 3 = (pHv (emD 40 M) v c).1 → M1.1 119 6 = (if (pHv (emD 40 M) v c).2 = -1 then 0 else (pHv (emD 40 M) v c).2) → ∃ M', zR X (d + 1) 36 (54, [.ref 119, .ref 40, .ref 67, .int (Int32.ofNat (nG (emD 40 M))), .int (pMS (emD 40 M) (aD 40 67 M 7 ^^^ -1) (nG (emD 40 M))), .int (Int32.ofNat v), .int (Int32.ofNat v &&& - Int32.ofNat v), .int (Int32.ofNat c), v8], [], M1) = some (none, M') ∧ zfr 114 150 M M' ∧ M'.1 119 6 = (if (pHv (emD 40 M) v (2 ^ nG (emD 40 M))).2 = -1 then 0 else (pHv (emD 40 M) v (2 ^ nG (emD 40 M))).2) ∧ M'.1 119 3 = (pHv (emD 40 M) v (2 ^ nG (emD 40 M))).1 := by
    intro m
    induction m with
    | zero =>
      intro c v8 M1 hm h1 hf h3 h6
      rw [t36_54 _ _ _ _ _ _ _ _ _ (zfr_G hf hG) zq_40 zq_67, sh_pow _ hn, if_pos (by rw [of_le (by omega) (by omega)]; omega)]
      rw [show c = 2 ^ nG (emD 40 M) by omega] at h3 h6
      exact ⟨M1, rfl, hf, h6, h3⟩
    | succ m ih =>
      intro c v8 M1 hm h1 hf h3 h6
      have hG1 := zfr_G hf hG
      have em : emD 40 M1 = emD 40 M := zfr_em hf (by omega)
      have hst : pHv (emD 40 M) v (c + 1) = if qv v c = true then (if (pHv (emD 40 M) v c).2 = -1 ∨ Int32.ofNat (pAp (emD 40 M) v c) < (pHv (emD 40 M) v c).2 then (Int32.ofNat c, Int32.ofNat (pAp (emD 40 M) v c)) else pHv (emD 40 M) v c) else pHv (emD 40 M) v c := rfl
      have hi := pHv_i (v := v) hX hn (by omega) c (by omega)
      rw [t36_54 _ _ _ _ _ _ _ _ _ hG1 zq_40 zq_67, sh_pow _ hn, if_neg (by rw [of_le (by omega) (by omega)]; omega), of_succ]
      have skip : qv v c = false → ∃ M', zR X (d + 1) 36 (54, [.ref 119, .ref 40, .ref 67, .int (Int32.ofNat (nG (emD 40 M))), .int (pMS (emD 40 M) (aD 40 67 M 7 ^^^ -1) (nG (emD 40 M))), .int (Int32.ofNat v), .int (Int32.ofNat v &&& - Int32.ofNat v), .int (Int32.ofNat (c + 1)), v8], [], M1) = some (none, M') ∧ zfr 114 150 M M' ∧ M'.1 119 6 = (if (pHv (emD 40 M) v (2 ^ nG (emD 40 M))).2 = -1 then 0 else (pHv (emD 40 M) v (2 ^ nG (emD 40 M))).2) ∧ M'.1 119 3 = (pHv (emD 40 M) v (2 ^ nG (emD 40 M))).1 := by
        intro hq
        rw [hq, if_neg Bool.false_ne_true] at hst
        exact ih (c + 1) v8 M1 (by omega) (by omega) hf (by rw [hst]; exact h3) (by rw [hst]; exact h6)
      by_cases q1 : Int32.ofNat c &&& (Int32.ofNat v ^^^ -1) = 0
      · rw [if_neg (not_not_intro q1)]
        by_cases q2 : Int32.ofNat c &&& (Int32.ofNat v &&& - Int32.ofNat v) = 0
        · rw [if_pos q2]
          exact skip (by unfold qv; rw [decide_eq_true q2, Bool.not_true, Bool.and_false])
        · have hq : qv v c = true := by unfold qv; rw [decide_eq_true q1, decide_eq_false q2]; rfl
          rw [hq, if_pos rfl] at hst
          obtain ⟨a, b, ha, hb, p1, p2, p3, p4⟩ := pAp_d (E := emD 40 M) hX hn (show v < 64 by omega) (show c < 64 by omega) hq
          rw [if_neg q2, s37 hG1 zq_40 (by rw [em]; exact hE), Option.bind_some, em, p1, hall, p3]
          dsimp only [zps]
          have lem := t36_89 (X := X) (d := d + 1) 40 67 (Int32.ofNat (nG (emD 40 M))) (Int32.ofNat a + Int32.ofNat b) (Int32.ofNat v) (Int32.ofNat v &&& - Int32.ofNat v) (Int32.ofNat c) v8 (Int32.ofNat a + Int32.ofNat b) 2 (Int32.ofNat a) M1 hG1 zq_40 zq_67
          rw [ab_d ha hb, ← p4, of_succ, h3, h6] at lem
          have hap := pAp_le (E := emD 40 M) (v := v) (c := c) hX hn
          rw [lem]
          clear lem
          have nxt : pHv (emD 40 M) v (c + 1) = (Int32.ofNat c, Int32.ofNat (pAp (emD 40 M) v c)) → ∃ M', zR X (d + 1) 36 (54, [.ref 119, .ref 40, .ref 67, .int (Int32.ofNat (nG (emD 40 M))), .int (Int32.ofNat a + Int32.ofNat b), .int (Int32.ofNat v), .int (Int32.ofNat v &&& - Int32.ofNat v), .int (Int32.ofNat (c + 1)), .int (Int32.ofNat (pAp (emD 40 M) v c))], [], zsI (zsI M1 119 3 (Int32.ofNat c)) 119 6 (Int32.ofNat (pAp (emD 40 M) v c))) = some (none, M') ∧ zfr 114 150 M M' ∧ M'.1 119 6 = (if (pHv (emD 40 M) v (2 ^ nG (emD 40 M))).2 = -1 then 0 else (pHv (emD 40 M) v (2 ^ nG (emD 40 M))).2) ∧ M'.1 119 3 = (pHv (emD 40 M) v (2 ^ nG (emD 40 M))).1 := by
            intro hs
            have h9 := ih (c + 1) (.int (Int32.ofNat (pAp (emD 40 M) v c))) (zsI (zsI M1 119 3 (Int32.ofNat c)) 119 6 (Int32.ofNat (pAp (emD 40 M) v c))) (by omega) (by omega) (zfr_I (zfr_I hf (by omega) (by omega)) (by omega) (by omega)) (by rw [zI_s, if_neg (by decide), zI_s, if_pos rfl, hs]) (by rw [zI_s, if_pos rfl, hs, if_neg (ne_m1 (by omega))])
            rw [hall, p3] at h9
            exact h9
          by_cases z : (pHv (emD 40 M) v c).2 = -1
          · rw [if_pos (hi.1.mpr z)]
            rw [if_pos (Or.inl z)] at hst
            exact nxt hst
          · rw [if_neg (fun h => z (hi.1.mp h)), if_neg z]
            by_cases le : (pHv (emD 40 M) v c).2 ≤ Int32.ofNat (pAp (emD 40 M) v c)
            · rw [if_neg (by intro h; rcases h with h | h; exact z h; exact Int32.not_lt.mpr le h)] at hst
              have h9 := ih (c + 1) (.int (Int32.ofNat (pAp (emD 40 M) v c))) M1 (by omega) (by omega) hf (by rw [hst]; exact h3) (by rw [hst]; exact h6)
              rw [if_pos le]
              rw [hall, p3] at h9
              exact h9
            · rw [if_pos (Or.inr (Int32.not_le.mp le))] at hst
              rw [if_neg le]
              exact nxt hst
      · rw [if_pos q1]
        exact skip (by unfold qv; rw [decide_eq_false q1, Bool.false_and])
  have q0 : ¬ qv v 0 = true := fun h => by have := qv_b v (by omega) 0 (by omega) h; omega
  have p1 : pHv (emD 40 M) v 1 = (0, -1) := by rw [pHv, if_neg q0, pHv]
  have e40 : M.1 41 1 = Int32.ofNat (nG (emD 40 M)) := hc
  rw [t36_0 _ _ _ _ _ _ _ _ _ hG zq_40 zq_67, h7, s37 hG zq_40 hE, Option.bind_some, e40]
  dsimp only [zps]
  rw [t36_17 _ _ _ _ _ _ _ _ _ _ hG zq_40 zq_67, h7, hv2]
  obtain ⟨M', y1, y2, y3, y4⟩ := loop (2 ^ nG (emD 40 M) - 1) 1 zjk (zsI (zsI M 119 3 0) 119 6 0) (by have := Nat.two_pow_pos (nG (emD 40 M)); omega) (by omega) (zfr_I (zfr_I zfr_rf (by omega) (by omega)) (by omega) (by omega)) (by rw [p1, zI_s, if_neg (by decide), zI_s, if_pos rfl]) (by rw [p1, zI_s, if_pos rfl, if_pos rfl])
  refine ⟨M', y1, y2, ?_, ?_⟩
  · rw [y3]
    by_cases v0 : v = 0
    · have e : pHv (emD 40 M) v (2 ^ nG (emD 40 M)) = (0, -1) := by
        have := pHv_end (E := emD 40 M) (v := v) (by omega) (2 ^ nG (emD 40 M) - 1) 1 (by omega) (by omega)
        rw [show 1 + (2 ^ nG (emD 40 M) - 1) = 2 ^ nG (emD 40 M) by omega] at this
        rw [this, p1]
      rw [if_pos v0, e, if_pos rfl]
    · have e : pHv (emD 40 M) v (2 ^ nG (emD 40 M)) = pHv (emD 40 M) v (v + 1) := by
        have := pHv_end (E := emD 40 M) (v := v) (by omega) (2 ^ nG (emD 40 M) - (v + 1)) (v + 1) (by omega) (by omega)
        rw [show v + 1 + (2 ^ nG (emD 40 M) - (v + 1)) = 2 ^ nG (emD 40 M) by omega] at this
        exact this
      rw [if_neg v0, e, if_neg ((pHv_i hX hn (show v < 64 by omega) (v + 1) (by omega)).2 (by omega) v0)]
  · rw [y4]
    by_cases v0 : v = 0
    · have e : pHv (emD 40 M) v (2 ^ nG (emD 40 M)) = (0, -1) := by
        have := pHv_end (E := emD 40 M) (v := v) (by omega) (2 ^ nG (emD 40 M) - 1) 1 (by omega) (by omega)
        rw [show 1 + (2 ^ nG (emD 40 M) - 1) = 2 ^ nG (emD 40 M) by omega] at this
        rw [this, p1]
      rw [if_pos v0, e]
    · have e : pHv (emD 40 M) v (2 ^ nG (emD 40 M)) = pHv (emD 40 M) v (v + 1) := by
        have := pHv_end (E := emD 40 M) (v := v) (by omega) (2 ^ nG (emD 40 M) - (v + 1)) (v + 1) (by omega) (by omega)
        rw [show v + 1 + (2 ^ nG (emD 40 M) - (v + 1)) = 2 ^ nG (emD 40 M) by omega] at this
        exact this
      rw [if_neg v0, e]
theorem s123 {X : (Nat → Int32) × Nat} {d : Nat} {x : Int32} {M : zM} (hG : zGE M) (hE : okE (emD 40 M)) (hX : okX (emD 40 M)) : ∃ M', zC X (d + 2) 123 [.ref 0, .int x] M = some (some (.int (pHalves (emD 40 M) (aD 40 67 M) x)), M') ∧ zfr 114 150 M M' := by
  show ∃ M', zR X (d + 2) 123 (0, [.ref 0, .int x], [], M) = some (some (.int _), M') ∧ _
  unfold pHalves
  rw [t123_0 _ _ hG, s11 hG zq_40 hE, Option.bind_some]
  dsimp only [zps]
  rw [t123_10 _ _ _ hG]
  by_cases c0 : emD 40 M 0 0 = 0
  · rw [if_pos c0, if_pos c0, if_pos rfl]
    exact ⟨M, rfl, zfr_rf⟩
  · rw [if_neg c0, if_neg c0, if_neg (by decide)]
    by_cases c1 : x < 0
    · rw [if_pos c1, if_pos (Or.inl c1)]
      exact ⟨M, rfl, zfr_rf⟩
    · rw [if_neg c1]
      by_cases c2 : 1 < x
      · rw [if_neg (Int32.not_le.mpr c2), if_pos (Or.inr c2)]
        exact ⟨M, rfl, zfr_rf⟩
      · obtain ⟨M', q1, q2, q3, q4⟩ := s36 (X := X) (d := d) hG hE hX
        rw [if_pos (Int32.not_lt.mp c2), if_neg (not_or.mpr ⟨c1, c2⟩), q1, Option.bind_some]
        dsimp only [zps]
        rw [t123_45 _ _ (zfr_G q2 hG), q3, q4]
        refine ⟨M', ?_, q2⟩
        by_cases v0 : pThr (emD 40 M) (aD 40 67 M) = 0
        · rw [if_pos v0, if_pos v0, if_pos v0, ite_self]
        · rw [if_neg v0, if_neg v0, if_neg v0]
          by_cases c4 : x = 0
          · rw [if_neg (not_not_intro c4), if_pos c4]
          · rw [if_pos c4, if_neg c4]
theorem r228 {X : (Nat → Int32) × Nat} {d : Nat} {x : Int32} {M : zM} (hG : zGE M) (hE : okE (emR M)) (hX : okX (emR M)) : zC X (d + 2) 228 [.ref 460, .int x] M = some (some (.int (pHalves (emR M) (aR M) x)), M) := by
  show zR X (d + 2) 228 (0, [.ref 460, .int x, zjk, zjk, zjk, zjk, zjk, zjk, zjk], [], M) = _
  obtain ⟨hn, hc⟩ := okR_G hE
  have hp2 : 2 ^ nG (emR M) ≤ 2 ^ 6 := Nat.pow_le_pow_right (by omega) hn
  have h0 : M.1 460 25 = emR M 0 0 := rfl
  have h7 : M.1 461 12 = aR M 7 := rfl
  obtain ⟨hv1, hv2⟩ := pThr_of (E := emR M) (A := aR M) hn
  unfold pHalves
  rw [t228_0 _ _ _ _ _ _ _ _ _ hG, h0]
  by_cases c0 : emR M 0 0 = 0
  · rw [if_pos c0, if_pos c0]
  · rw [if_neg c0, if_neg c0, r135i (y := 0) (z := 1) (a := 0) (b := 1) hG rfl rfl, Option.bind_some]
    dsimp only [zps]
    rw [t228_14 _ _ _ _ _ _ _ _ _ _ hG]
    by_cases c : x < 0 ∨ 1 < x
    · rw [if_pos c, if_pos c, if_neg (by decide)]
    · rw [if_neg c, if_neg c, if_pos (by decide), hc, h7, Int32.and_comm, hv2]
      generalize pThr (emR M) (aR M) = v at hv1 hv2 ⊢
      have loop : v ≠ 0 → ∀ m c v7 v8, c + m = v + 1 → zR X (d + 2) 228 (54, [.ref 460, .int x, .int (Int32.ofNat v), .int (Int32.ofNat v &&& - Int32.ofNat v), .int (pHv (emR M) v c).1, .int (pHv (emR M) v c).2, .int (Int32.ofNat c), v7, v8], [], M) = some (some (.int (if x = 0 then (pHv (emR M) v (v + 1)).2 else (pHv (emR M) v (v + 1)).1)), M) := by
        intro v0 m
        induction m with
        | zero =>
          intro c v7 v8 hm
          rw [t228_54 _ _ _ _ _ _ _ _ _ hG, if_pos (by rw [of_lt (by omega) (by omega)]; omega), show c = v + 1 by omega]
          by_cases c4 : x = 0
          · rw [if_neg (not_not_intro c4), if_pos c4]
          · rw [if_pos c4, if_neg c4]
        | succ m ih =>
          intro c v7 v8 hm
          have hst : pHv (emR M) v (c + 1) = if qv v c = true then (if (pHv (emR M) v c).2 = -1 ∨ Int32.ofNat (pAp (emR M) v c) < (pHv (emR M) v c).2 then (Int32.ofNat c, Int32.ofNat (pAp (emR M) v c)) else pHv (emR M) v c) else pHv (emR M) v c := rfl
          have hqr := qv_r v (by omega) v0 c (by omega)
          rw [t228_54 _ _ _ _ _ _ _ _ _ hG, if_neg (by rw [of_lt (by omega) (by omega)]; omega), of_succ]
          by_cases q1 : Int32.ofNat c &&& (Int32.ofNat v ^^^ -1) = 0
          · rw [if_neg (not_not_intro q1)]
            by_cases q2 : Int32.ofNat c &&& (Int32.ofNat v &&& - Int32.ofNat v) = Int32.ofNat v &&& - Int32.ofNat v
            · have hq : qv v c = true := by rw [← hqr, decide_eq_true q1, decide_eq_true q2]; rfl
              rw [hq, if_pos rfl] at hst
              obtain ⟨a, b, ha, hb, p1, p2, p3, p4⟩ := pAp_d (E := emR M) hX hn (show v < 64 by omega) (show c < 64 by omega) hq
              rw [if_neg (not_not_intro q2), r227 hG hE, Option.bind_some]
              dsimp only [zps]
              rw [t228_83 _ _ _ _ _ _ _ _ _ _ hG, r227 hG hE, Option.bind_some]
              dsimp only [zps]
              rw [t228_93 _ _ _ _ _ _ _ _ _ _ _ hG, p1, p2, of_succ]
              have hr := ab_r ha hb
              rw [← p4] at hr
              have done : ∀ (y z : Int32), y = Int32.ofNat (pAp (emR M) v c) → (if (pHv (emR M) v c).2 = -1 then zR X (d + 2) 228 (54, [.ref 460, .int x, .int (Int32.ofNat v), .int (Int32.ofNat v &&& - Int32.ofNat v), .int (Int32.ofNat c), .int y, .int (Int32.ofNat (c + 1)), .int z, .int y], [], M) else if (pHv (emR M) v c).2 ≤ y then zR X (d + 2) 228 (54, [.ref 460, .int x, .int (Int32.ofNat v), .int (Int32.ofNat v &&& - Int32.ofNat v), .int (pHv (emR M) v c).1, .int (pHv (emR M) v c).2, .int (Int32.ofNat (c + 1)), .int z, .int y], [], M) else zR X (d + 2) 228 (54, [.ref 460, .int x, .int (Int32.ofNat v), .int (Int32.ofNat v &&& - Int32.ofNat v), .int (Int32.ofNat c), .int y, .int (Int32.ofNat (c + 1)), .int z, .int y], [], M)) = some (some (.int (if x = 0 then (pHv (emR M) v (v + 1)).2 else (pHv (emR M) v (v + 1)).1)), M) := by
                intro y z hy
                have h9 := ih (c + 1) (.int z) (.int y) (by omega)
                subst hy
                by_cases z1 : (pHv (emR M) v c).2 = -1
                · rw [if_pos (Or.inl z1)] at hst
                  rw [if_pos z1]
                  rw [hst] at h9
                  exact h9
                · rw [if_neg z1]
                  by_cases le : (pHv (emR M) v c).2 ≤ Int32.ofNat (pAp (emR M) v c)
                  · rw [if_neg (by intro h; rcases h with h | h; exact z1 h; exact Int32.not_lt.mpr le h)] at hst
                    rw [if_pos le]
                    rw [hst] at h9
                    exact h9
                  · rw [if_pos (Or.inr (Int32.not_le.mp le))] at hst
                    rw [if_neg le]
                    rw [hst] at h9
                    exact h9
              by_cases g : 0 ≤ Int32.ofNat a - Int32.ofNat b
              · rw [if_pos g] at hr ⊢
                exact done _ _ hr
              · rw [if_neg g] at hr ⊢
                exact done _ _ hr
            · have hq : qv v c = false := by rw [← hqr, decide_eq_false q2, Bool.and_false]
              rw [hq, if_neg Bool.false_ne_true] at hst
              have h9 := ih (c + 1) v7 v8 (by omega)
              rw [hst] at h9
              rw [if_pos q2]
              exact h9
          · have hq : qv v c = false := by rw [← hqr, decide_eq_false q1, Bool.false_and]
            rw [hq, if_neg Bool.false_ne_true] at hst
            have h9 := ih (c + 1) v7 v8 (by omega)
            rw [hst] at h9
            rw [if_pos q1]
            exact h9
      by_cases v0 : v = 0
      · have z0 : pMS (emR M) 0 (nG (emR M)) = 0 := by
          have : ∀ k, pMS (emR M) 0 k = 0 := by
            intro k
            induction k with
            | zero => rfl
            | succ k ih =>
              have hb : pb 0 k = false := by
                unfold pb
                rw [Int32.zero_shiftRight]
                decide
              rw [pMS, hb, cond_false, ih]
          exact this _
        rw [v0, if_pos rfl]
        show zR X (d + 2) 228 (54, [.ref 460, .int x, .int 0, .int 0, .int 0, .int (-1), .int 0, zjk, zjk], [], M) = _
        rw [t228_54 _ _ _ _ _ _ _ _ _ hG, if_neg (by decide), if_neg (by decide), if_neg (by decide), r227 hG hE, Option.bind_some, z0]
        dsimp only [zps]
        rw [t228_83 _ _ _ _ _ _ _ _ _ _ hG, show (0 : Int32) &&& (0 ^^^ (-1)) = 0 from by decide, r227 hG hE, Option.bind_some, z0]
        dsimp only [zps]
        rw [t228_93 _ _ _ _ _ _ _ _ _ _ _ hG, if_pos (by decide), if_pos rfl, t228_54 _ _ _ _ _ _ _ _ _ hG, if_pos (by decide)]
        by_cases c4 : x = 0
        · rw [if_neg (not_not_intro c4)]; rfl
        · rw [if_pos c4]
      · rw [if_neg v0]
        exact loop v0 (v + 1) 0 zjk zjk (by omega)
