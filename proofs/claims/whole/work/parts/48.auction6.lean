/-! ===== the reference's sale as a whole ===== -/
def zfq (M M' : zM) : Prop := M'.2.2 = M.2.2 ∧ (∀ a, a ≠ 460 → a ≠ 494 → a ≠ 495 → M'.1 a = M.1 a ∧ M'.2.1 a = M.2.1 a) ∧ ∀ k, (k < 47 ∨ 52 ≤ k) → M'.1 460 k = M.1 460 k
theorem zfq_rf {M : zM} : zfq M M := ⟨rfl, fun _ _ _ _ => ⟨rfl, rfl⟩, fun _ _ => rfl⟩
theorem zfq_tr {M M' M'' : zM} (h1 : zfq M M') (h2 : zfq M' M'') : zfq M M'' :=
  ⟨h2.1.trans h1.1, fun a q1 q2 q3 => ⟨(h2.2.1 a q1 q2 q3).1.trans (h1.2.1 a q1 q2 q3).1, (h2.2.1 a q1 q2 q3).2.trans (h1.2.1 a q1 q2 q3).2⟩, fun k hk => (h2.2.2 k hk).trans (h1.2.2 k hk)⟩
theorem zfq_I {M M' : zM} {k : Nat} {x : Int32} (h : zfq M M') (hk : 47 ≤ k) (hk2 : k < 52) : zfq M (zsI M' 460 k x) :=
  ⟨h.1, fun a q1 q2 q3 => ⟨(zI_n1 q1).trans (h.2.1 a q1 q2 q3).1, (h.2.1 a q1 q2 q3).2⟩, fun j hj => by rw [zI_s, if_neg (by omega)]; exact h.2.2 j hj⟩
theorem zfq_L {M M' : zM} {a k : Nat} {x : Int64} (h : zfq M M') (ha : a = 494 ∨ a = 495) : zfq M (zsL M' a k x) :=
  ⟨h.1, fun b q1 q2 q3 => ⟨(h.2.1 b q1 q2 q3).1, by
    have e : (zsL M' a k x).2.1 b = M'.2.1 b := by
      show zup M'.2.1 a k x b = M'.2.1 b
      exact if_neg (by omega)
    exact e.trans (h.2.1 b q1 q2 q3).2⟩, fun j hj => h.2.2 j hj⟩
theorem zfq_f {M M' M'' : zM} (h : zfq M M') (h2 : zfr 494 496 M' M'') : zfq M M'' :=
  ⟨h2.1.trans h.1, fun a q1 q2 q3 => ⟨(h2.2 a (by omega)).1.trans (h.2.1 a q1 q2 q3).1, (h2.2 a (by omega)).2.trans (h.2.1 a q1 q2 q3).2⟩, fun k hk => by rw [(h2.2 460 (by omega)).1]; exact h.2.2 k hk⟩
theorem zfq_G {M M' : zM} (h : zfq M M') (hG : zGE M) : zGE M' := zGE_of hG h.1
theorem zfq_c {M M' : zM} (h : zfq M M') {a : Nat} (q1 : a ≠ 460) (q2 : a ≠ 494) (q3 : a ≠ 495) : M'.1 a = M.1 a := (h.2.1 a q1 q2 q3).1
theorem zfq_st {M M' : zM} {n : Nat} (h : zfq M M') : stR n M' = stR n M := by
  funext j
  unfold stR
  rw [zfq_c h (by decide) (by decide) (by decide), zfq_c h (a := 462) (by decide) (by decide) (by decide)]
theorem zfq_em {M M' : zM} (h : zfq M M') : emR M' = emR M := by
  have hrc : ∀ r, r < 16 → rcn r ≠ 460 ∧ rcn r ≠ 494 ∧ rcn r ≠ 495 := by decide
  have e25 : M'.1 460 25 = M.1 460 25 := h.2.2 25 (by omega)
  have e61 : M'.1 461 = M.1 461 := zfq_c h (by decide) (by decide) (by decide)
  have e70 : M'.1 470 = M.1 470 := zfq_c h (by decide) (by decide) (by decide)
  have e93 : M'.1 493 = M.1 493 := zfq_c h (by decide) (by decide) (by decide)
  have hct : ∀ r, rct M' r = rct M r := fun r => by unfold rct; rw [e25, e61]
  funext r j
  unfold emR
  rw [hct, e25, e61, e70, e93]
  by_cases g2 : r < 16
  · rw [zfq_c h (hrc r g2).1 (hrc r g2).2.1 (hrc r g2).2.2]
  · rw [if_neg g2, if_neg g2]
theorem pb_bit : ∀ b, b < 8 → ∀ k, k < 8 → pb (1 <<< (Int32.ofNat b &&& 31)) k = decide (k = b) := by decide +kernel
theorem mod_step {i n : Nat} : (i + 1) % n = if i % n + 1 = n then 0 else i % n + 1 := by
  rw [← Nat.mod_add_mod]
  by_cases h : i % n + 1 = n
  · rw [if_pos h, h, Nat.mod_self]
  · rw [if_neg h]
    rcases Nat.eq_zero_or_pos n with h0 | h0
    · subst h0; rw [Nat.mod_zero]
    · exact Nat.mod_eq_of_lt (by have := Nat.mod_lt i h0; omega)
theorem auR_f {k : Nat} {M : zM} (hk : k < 4) : (auR M).2.2.2 k = pb (M.1 460 50) k := by
  show (Nat.blt k 4 && pb (M.1 460 50) k) = _
  rw [Nat.blt_eq.mpr hk, Bool.true_and]
theorem r190g {X : (Nat → Int32) × Nat} {d n jj N : Nat} {bid : zS → Nat → Int64} {M : zM} (hG : zGE M) (hn : n ≤ 4) (hc : M.1 461 3 = Int32.ofNat n) (hj : M.1 461 1 = Int32.ofNat jj) (hj1 : 1 ≤ jj) (hj2 : jj ≤ 9) (hB : ∀ M1, zfq M M1 → M1.1 460 51 = M.1 460 51 → ∀ b, b < n → ∃ M2, zC X (d + 1) 188 [.ref 460, .int (Int32.ofNat b)] M1 = some (some (.long (bid (auR M1) b)), M2) ∧ zfr 494 496 M1 M2) (hd : pDone n (pSale n (Int32.ofNat jj) bid N 0 pS0) = true) : ∃ M', zC X (d + 2) 190 [.ref 460] M = some (some (.int (pSale n (Int32.ofNat jj) bid N 0 pS0).2.1), M') ∧ zfq M M' ∧ auR M' = pSale n (Int32.ofNat jj) bid N 0 pS0 := by
  show ∃ M', zR X (d + 2) 190 (0, [.ref 460, zjk, zjk, zjk, zjk], [], M) = some (some (.int (pSale n (Int32.ofNat jj) bid N 0 pS0).2.1), M') ∧ _
  have loop : ∀ m i v3 v4 M1, zfq M M1 → M1.1 460 51 = M.1 460 51 → pDone n (pSale n (Int32.ofNat jj) bid m i (auR M1)) = true → (n = 0 → i = 0) → ∃ M', zR X (d + 2) 190 (29, [.ref 460, .int (Int32.ofNat n), .int (Int32.ofNat (i % n)), v3, v4], [], M1) = some (some (.int (pSale n (Int32.ofNat jj) bid m i (auR M1)).2.1), M') ∧ zfq M M' ∧ auR M' = pSale n (Int32.ofNat jj) bid m i (auR M1) := by
    intro m
    induction m with
    | zero =>
      intro i v3 v4 M1 hf h51 hD hi0
      have hG1 := zfq_G hf hG
      rw [pSale] at hD ⊢
      rcases Nat.eq_zero_or_pos n with h0 | h0
      · subst h0
        rw [t190_29 _ _ _ _ _ hG1, if_pos (by decide)]
        exact ⟨M1, rfl, hf, rfl⟩
      · have hc1 : M1.1 461 3 = Int32.ofNat n := by rw [zfq_c hf (by decide) (by decide) (by decide)]; exact hc
        have ho : pOut (pb (M1.1 460 50)) n = pOut (auR M1).2.2.2 n := (pOut_c n (fun k hk => auR_f (by omega))).symm
        have hh : (auR M1).2.1 = M1.1 460 48 := rfl
        unfold pDone at hD
        rw [Nat.ble_eq, hh, ← ho] at hD
        have hle := pOut_le (pb (M1.1 460 50)) n
        rw [t190_29 _ _ _ _ _ hG1, if_neg (by rw [show (0 : Int32) = Int32.ofNat 0 from rfl, of_le (by omega) (by omega)]; omega), r189 (d := d) hG1 hn hc1, Option.bind_some]
        dsimp only [zps]
        rw [t190_37 _ _ _ _ _ _ hG1]
        by_cases c : M1.1 460 48 = -1
        · rw [if_pos c] at hD
          rw [if_neg (not_not_intro c), if_pos ((of_le (by omega) (by omega)).mpr hD)]
          exact ⟨M1, rfl, hf, rfl⟩
        · rw [if_neg c] at hD
          rw [if_pos c, of_pred h0, if_pos ((of_le (by omega) (by omega)).mpr hD)]
          exact ⟨M1, rfl, hf, rfl⟩
    | succ m ih =>
      intro i v3 v4 M1 hf h51 hD hi0
      have hG1 := zfq_G hf hG
      rcases Nat.eq_zero_or_pos n with h0 | h0
      · subst h0
        have e : pSale 0 (Int32.ofNat jj) bid (m + 1) i (auR M1) = auR M1 := by
          have : pDone 0 (auR M1) = true := by unfold pDone; rw [ite_self]; rfl
          rw [pSale, this, cond_true]
        rw [t190_29 _ _ _ _ _ hG1, if_pos (by decide), e]
        exact ⟨M1, rfl, hf, rfl⟩
      · have hc1 : M1.1 461 3 = Int32.ofNat n := by rw [zfq_c hf (by decide) (by decide) (by decide)]; exact hc
        have hj3 : M1.1 461 1 = Int32.ofNat jj := by rw [zfq_c hf (by decide) (by decide) (by decide)]; exact hj
        have ho : pOut (pb (M1.1 460 50)) n = pOut (auR M1).2.2.2 n := (pOut_c n (fun k hk => auR_f (by omega))).symm
        have hh : (auR M1).2.1 = M1.1 460 48 := rfl
        have hle := pOut_le (pb (M1.1 460 50)) n
        have hb := Nat.mod_lt i h0
        have key : pDone n (auR M1) = false → ∃ M', ((zC X (d + 1) 136 [.int (M1.1 460 50), .int (Int32.ofNat (i % n))] M1).bind fun o => zR X (d + 1 + 1) 190 (63, [.ref 460, .int (Int32.ofNat n), .int (Int32.ofNat (i % n)), v3, v4], zps o.1 [], o.2)) = some (some (.int (pSale n (Int32.ofNat jj) bid (m + 1) i (auR M1)).2.1), M') ∧ zfq M M' ∧ auR M' = pSale n (Int32.ofNat jj) bid (m + 1) i (auR M1) := by
          intro hDn
          have hs : pSale n (Int32.ofNat jj) bid (m + 1) i (auR M1) = pSale n (Int32.ofNat jj) bid m (i + 1) (pTurn (Int32.ofNat jj) bid (auR M1) (i % n)) := by rw [pSale, hDn, cond_false]
          rw [hs] at hD ⊢
          have nx : ∀ v3 v4 M2, zfq M M2 → M2.1 460 51 = M.1 460 51 → auR M2 = pTurn (Int32.ofNat jj) bid (auR M1) (i % n) → ∃ M', (if ¬ Int32.ofNat (i % n) + 1 = Int32.ofNat n then zR X (d + 1 + 1) 190 (29, [.ref 460, .int (Int32.ofNat n), .int (Int32.ofNat (i % n) + 1), v3, v4], [], M2) else zR X (d + 1 + 1) 190 (29, [.ref 460, .int (Int32.ofNat n), .int 0, v3, v4], [], M2)) = some (some (.int (pSale n (Int32.ofNat jj) bid m (i + 1) (pTurn (Int32.ofNat jj) bid (auR M1) (i % n))).2.1), M') ∧ zfq M M' ∧ auR M' = pSale n (Int32.ofNat jj) bid m (i + 1) (pTurn (Int32.ofNat jj) bid (auR M1) (i % n)) := by
            intro v3 v4 M2 hf2 h512 ha2
            have h9 := ih (i + 1) v3 v4 M2 hf2 h512 (by rw [ha2]; exact hD) (fun h => by omega)
            rw [ha2, mod_step] at h9
            rw [of_succ, fi_ne (by omega) (by omega)]
            by_cases c : i % n + 1 = n
            · rw [if_neg (not_not_intro c)]
              rw [if_pos c] at h9
              exact h9
            · rw [if_pos c]
              rw [if_neg c] at h9
              exact h9
          rw [r136 hG1, Option.bind_some]
          dsimp only [zps]
          rw [t190_63 _ _ _ _ _ _ hG1]
          cases hO : pb (M1.1 460 50) (i % n)
          · have hO2 : (auR M1).2.2.2 (i % n) = false := by rw [auR_f (by omega)]; exact hO
            rw [cond_false, if_neg (by decide)]
            by_cases c2 : Int32.ofNat (i % n) = M1.1 460 48
            · rw [if_pos c2]
              exact nx v3 v4 M1 hf h51 (by unfold pTurn; rw [if_pos (show (auR M1).2.2.2 (i % n) = true ∨ Int32.ofNat (i % n) = (auR M1).2.1 from Or.inr c2)])
            · obtain ⟨M2, q1, q2⟩ := hB M1 hf h51 (i % n) hb
              have hG2 := zfr_G q2 hG1
              have e60 : M2.1 460 = M1.1 460 := (q2.2 460 (by omega)).1
              have e61 : M2.1 461 = M1.1 461 := (q2.2 461 (by omega)).1
              have hf2 := zfq_f hf q2
              have hT : pTurn (Int32.ofNat jj) bid (auR M1) (i % n) = pTake (Int32.ofNat jj) (auR M1) (i % n) (bid (auR M1) (i % n)) := by
                unfold pTurn
                rw [if_neg (by rw [hO2]; intro h; rcases h with h | h; cases h; exact c2 h)]
              have hlow : (auR M1).1 = M1.1 460 47 := rfl
              rw [if_neg c2, q1, Option.bind_some]
              dsimp only [zps]
              rw [t190_79 _ _ _ _ _ _ hG2, e60, e61, hj3]
              simp only [lgc_lt, lgc_gt]
              have outc : ∀ (hc3 : bid (auR M1) (i % n) < (M1.1 460 47 + Int32.ofNat jj).toInt64 ∨ 999 < bid (auR M1) (i % n)), auR (zsI (zsI M2 460 49 (M1.1 460 49 + 1)) 460 50 (M1.1 460 50 ||| 1 <<< (Int32.ofNat (i % n) &&& 31))) = pTurn (Int32.ofNat jj) bid (auR M1) (i % n) := by
                intro hc3
                rw [hT]
                unfold pTake
                rw [if_pos (by rw [hlow]; exact hc3)]
                unfold auR
                simp only [zI_s, e60, Nat.reduceEqDiff, reduceIte]
                congr 3
                funext k
                by_cases e : k = i % n
                · rw [if_pos e, e, Nat.blt_eq.mpr (show i % n < 4 by omega), pb_or, pb_bit _ (by omega) _ (by omega), decide_eq_true rfl, Bool.or_true]
                  rfl
                · rw [if_neg e]
                  cases hk : Nat.blt k 4
                  · rw [Bool.false_and, Bool.false_and]
                  · have := Nat.blt_eq.mp hk
                    rw [Bool.true_and, Bool.true_and, pb_or, pb_bit _ (by omega) _ (by omega), decide_eq_false e, Bool.or_false]
              by_cases c3 : bid (auR M1) (i % n) < (M1.1 460 47 + Int32.ofNat jj).toInt64
              · rw [if_pos c3]
                exact nx _ _ _ (zfq_I (zfq_I hf2 (by omega) (by omega)) (by omega) (by omega)) (by simp only [zI_s, Nat.reduceEqDiff, reduceIte, e60]; exact h51) (outc (Or.inl c3))
              · rw [if_neg c3]
                by_cases c4 : 999 < bid (auR M1) (i % n)
                · rw [if_pos c4]
                  exact nx _ _ _ (zfq_I (zfq_I hf2 (by omega) (by omega)) (by omega) (by omega)) (by simp only [zI_s, Nat.reduceEqDiff, reduceIte, e60]; exact h51) (outc (Or.inr c4))
                · rw [if_neg c4]
                  refine nx _ _ _ (zfq_I (zfq_I (zfq_I hf2 (by omega) (by omega)) (by omega) (by omega)) (by omega) (by omega)) (by simp only [zI_s, Nat.reduceEqDiff, reduceIte, e60]; exact h51) ?_
                  rw [hT]
                  unfold pTake
                  rw [if_neg (by rw [hlow]; exact not_or.mpr ⟨c3, c4⟩)]
                  unfold auR
                  simp only [zI_s, e60, Nat.reduceEqDiff, reduceIte]
          · have hO2 : (auR M1).2.2.2 (i % n) = true := by rw [auR_f (by omega)]; exact hO
            rw [cond_true, if_pos (by decide)]
            exact nx v3 v4 M1 hf h51 (by unfold pTurn; rw [if_pos (Or.inl hO2)])
        have fin : pDone n (auR M1) = true → ∃ M', (some (some (.int (M1.1 460 48)), M1) : Option zO) = some (some (.int (pSale n (Int32.ofNat jj) bid (m + 1) i (auR M1)).2.1), M') ∧ zfq M M' ∧ auR M' = pSale n (Int32.ofNat jj) bid (m + 1) i (auR M1) := by
          intro hDn
          rw [pSale, hDn, cond_true]
          exact ⟨M1, rfl, hf, rfl⟩
        rw [t190_29 _ _ _ _ _ hG1, if_neg (by rw [show (0 : Int32) = Int32.ofNat 0 from rfl, of_le (by omega) (by omega)]; omega), r189 (d := d) hG1 hn hc1, Option.bind_some]
        dsimp only [zps]
        rw [t190_37 _ _ _ _ _ _ hG1]
        have hpd : pDone n (auR M1) = Nat.ble (if M1.1 460 48 = -1 then n else n - 1) (pOut (pb (M1.1 460 50)) n) := by
          unfold pDone
          rw [hh, ← ho]
        by_cases c : M1.1 460 48 = -1
        · rw [if_pos c] at hpd
          rw [if_neg (not_not_intro c)]
          by_cases c5 : n ≤ pOut (pb (M1.1 460 50)) n
          · rw [if_pos ((of_le (by omega) (by omega)).mpr c5)]
            exact fin (by rw [hpd, Nat.ble_eq]; exact c5)
          · rw [if_neg (by rw [of_le (by omega) (by omega)]; exact c5)]
            exact key (by rw [hpd]; cases h : Nat.ble n (pOut (pb (M1.1 460 50)) n); rfl; exact absurd (Nat.ble_eq.mp h) c5)
        · rw [if_neg c] at hpd
          rw [if_pos c, of_pred h0]
          by_cases c5 : n - 1 ≤ pOut (pb (M1.1 460 50)) n
          · rw [if_pos ((of_le (by omega) (by omega)).mpr c5)]
            exact fin (by rw [hpd, Nat.ble_eq]; exact c5)
          · rw [if_neg (by rw [of_le (by omega) (by omega)]; exact c5)]
            exact key (by rw [hpd]; cases h : Nat.ble (n - 1) (pOut (pb (M1.1 460 50)) n); rfl; exact absurd (Nat.ble_eq.mp h) c5)
  rw [t190_0 _ _ _ _ _ hG, hc]
  have h1 := loop N 0 zjk zjk (zsI (zsI (zsI (zsI M 460 47 0) 460 48 (-1)) 460 49 0) 460 50 0) (zfq_I (zfq_I (zfq_I (zfq_I zfq_rf (by omega) (by omega)) (by omega) (by omega)) (by omega) (by omega)) (by omega) (by omega)) (by simp only [zI_s, Nat.reduceEqDiff, reduceIte])
  have h2 : auR (zsI (zsI (zsI (zsI M 460 47 0) 460 48 (-1)) 460 49 0) 460 50 0) = pS0 := by
    unfold auR pS0
    simp only [zI_s, Nat.reduceEqDiff, reduceIte]
    congr 3
    funext k
    cases hk : Nat.blt k 4
    · rfl
    · rw [Bool.true_and]
      unfold pb
      rw [show (0 : Int32) >>> (Int32.ofNat k &&& 31) = 0 by rw [Int32.zero_shiftRight]]
      decide
  rw [h2, Nat.zero_mod] at h1
  exact h1 hd (fun _ => rfl)
theorem r190 {X : (Nat → Int32) × Nat} {d n jj : Nat} {bid : zS → Nat → Int64} {M : zM} (hG : zGE M) (hn : n ≤ 4) (hc : M.1 461 3 = Int32.ofNat n) (hj : M.1 461 1 = Int32.ofNat jj) (hj1 : 1 ≤ jj) (hj2 : jj ≤ 9) (hB : ∀ M1, zfq M M1 → M1.1 460 51 = M.1 460 51 → ∀ b, b < n → ∃ M2, zC X (d + 1) 188 [.ref 460, .int (Int32.ofNat b)] M1 = some (some (.long (bid (auR M1) b)), M2) ∧ zfr 494 496 M1 M2) : ∃ M', zC X (d + 2) 190 [.ref 460] M = some (some (.int (pSale n (Int32.ofNat jj) bid 7992 0 pS0).2.1), M') ∧ zfq M M' ∧ auR M' = pSale n (Int32.ofNat jj) bid 7992 0 pS0 :=
  r190g hG hn hc hj hj1 hj2 hB (pSale_done hn hj1 hj2)
theorem r188 {X : (Nat → Int32) × Nat} {d b : Nat} {M : zM} (hG : zGE M) (hb : b < 4) (hp : ¬ M.1 460 51 = 0) : zC X (d + 1) 188 [.ref 460, .int (Int32.ofNat b)] M = some (some (.long (pDare (M.1 496) (M.1 461 1) (auR M) b)), M) := by
  show zR X (d + 1) 188 (0, [.ref 460, .int (Int32.ofNat b)], [], M) = _
  rw [t188_0 _ _ hG (fun _ => vp_of (by omega) (by omega)) (fun _ => vp_of (by omega) (by omega)), if_neg hp, toNat_of (by omega)]
  unfold pDare
  show _ = (some (some (Value.long (if M.1 496 b < M.1 460 47 + M.1 461 1 then 0 else (M.1 460 47 + M.1 461 1).toInt64)), M) : Option zO)
  by_cases c : M.1 496 b < M.1 460 47 + M.1 461 1
  · rw [if_pos c, if_pos c]
  · rw [if_neg c, if_neg c]
/-- a sale by what they dare -/
theorem r191 {X : (Nat → Int32) × Nat} {d n jj : Nat} {x : Int32} {M : zM} (hG : zGE M) (hn : n ≤ 4) (hc : M.1 461 3 = Int32.ofNat n) (hj : M.1 461 1 = Int32.ofNat jj) (hj1 : 1 ≤ jj) (hj2 : jj ≤ 9) (hx : ¬ x = 0 ∨ M.1 461 17 = -1) : ∃ M', zC X (d + 3) 191 [.ref 460, .int x] M = some (some (.int (pSale n (Int32.ofNat jj) (pDare (M.1 496) (Int32.ofNat jj)) 7992 0 pS0).2.1), M') ∧ zfq M M' ∧ auR M' = pSale n (Int32.ofNat jj) (pDare (M.1 496) (Int32.ofNat jj)) 7992 0 pS0 := by
  show ∃ M', zR X (d + 3) 191 (0, [.ref 460, .int x], [], M) = some (some (.int (pSale n (Int32.ofNat jj) (pDare (M.1 496) (Int32.ofNat jj)) 7992 0 pS0).2.1), M') ∧ _
  have hf : zfq M (zsI M 460 51 1) := zfq_I zfq_rf (by omega) (by omega)
  have hG1 := zfq_G hf hG
  obtain ⟨M', h1, h2, h3⟩ := r190 (X := X) (d := d) (n := n) (jj := jj) (bid := pDare (M.1 496) (Int32.ofNat jj)) hG1 hn (by rw [zfq_c hf (by decide) (by decide) (by decide)]; exact hc) (by rw [zfq_c hf (by decide) (by decide) (by decide)]; exact hj) hj1 hj2 (by
    intro M1 hf1 h51 b hb
    have e61 : M1.1 461 = M.1 461 := (zfq_c hf1 (by decide) (by decide) (by decide)).trans (zfq_c hf (by decide) (by decide) (by decide))
    have e96 : M1.1 496 = M.1 496 := (zfq_c hf1 (by decide) (by decide) (by decide)).trans (zfq_c hf (by decide) (by decide) (by decide))
    refine ⟨M1, ?_, zfr_rf⟩
    rw [r188 (zfq_G hf1 hG1) (by omega) (by rw [h51, zI_s, if_pos rfl]; decide), e61, e96, hj])
  refine ⟨M', ?_, zfq_tr hf h2, h3⟩
  rw [t191_0 _ _ hG]
  have fin : ((zC X (d + 2) 190 [.ref 460] (zsI M 460 51 1)).bind fun o => zR X (d + 2 + 1) 191 (28, [.ref 460, .int x], zps o.1 [], o.2)) = some (some (.int (pSale n (Int32.ofNat jj) (pDare (M.1 496) (Int32.ofNat jj)) 7992 0 pS0).2.1), M') := by
    rw [h1, Option.bind_some]
    dsimp only [zps]
    rw [t191_28 _ _ _ (zfq_G h2 hG1)]
  by_cases c : x = 0
  · rw [if_neg (not_not_intro c), if_neg (not_not_intro (hx.resolve_left (not_not_intro c)))]
    exact fin
  · rw [if_pos c]
    exact fin
