/-! ===== the class' sale as a whole ===== -/
theorem of_div {i n : Nat} (hi : i < 2147483648) (hn : n < 2147483648) : Int32.ofNat i / Int32.ofNat n = Int32.ofNat (i / n) := by
  rw [← Int32.toInt_inj, Int32.toInt_div, Int32.toInt_ofNat_of_lt hi, Int32.toInt_ofNat_of_lt hn, Int32.toInt_ofNat_of_lt (Nat.lt_of_le_of_lt (Nat.div_le_self i n) hi), ← Int.ofNat_tdiv]
  have h : i / n ≤ i := Nat.div_le_self i n
  generalize i / n = q at h ⊢
  unfold Int.bmod
  dsimp only
  split <;> omega
theorem of_mod {i n : Nat} (hi : i < 2147483648) (hn : n < 2147483648) : Int32.ofNat i - Int32.ofNat i / Int32.ofNat n * Int32.ofNat n = Int32.ofNat (i % n) := by
  have h : Int32.ofNat i = Int32.ofNat (i % n) + Int32.ofNat (i / n * n) := by
    rw [← Int32.ofNat_add]
    congr 1
    have := Nat.mod_add_div i n
    rw [Nat.mul_comm] at this
    omega
  rw [of_div hi hn, ← Int32.ofNat_mul]
  conv => lhs; lhs; rw [h]
  exact Int32.add_sub_cancel _ _
theorem fi_le {α : Type} {j k : Nat} (hj : j < 2147483648) (hk : k < 2147483648) (a b : α) : (if Int32.ofNat j ≤ Int32.ofNat k then a else b) = if j ≤ k then a else b := by
  by_cases h : j ≤ k
  · rw [if_pos h, if_pos ((of_le hj hk).mpr h)]
  · rw [if_neg h, if_neg (fun h2 => h ((of_le hj hk).mp h2))]
theorem fi_lt {α : Type} {j k : Nat} (hj : j < 2147483648) (hk : k < 2147483648) (a b : α) : (if Int32.ofNat j < Int32.ofNat k then a else b) = if j < k then a else b := by
  by_cases h : j < k
  · rw [if_pos h, if_pos ((of_lt hj hk).mpr h)]
  · rw [if_neg h, if_neg (fun h2 => h ((of_lt hj hk).mp h2))]
theorem fi_eq {α : Type} {j k : Nat} (hj : j < 2147483648) (hk : k < 2147483648) (a b : α) : (if Int32.ofNat j = Int32.ofNat k then a else b) = if j = k then a else b := by
  by_cases h : j = k
  · rw [if_pos h, if_pos ((of_inj hj hk).mpr h)]
  · rw [if_neg h, if_neg (fun h2 => h ((of_inj hj hk).mp h2))]
theorem fi_ne {α : Type} {j k : Nat} (hj : j < 2147483648) (hk : k < 2147483648) (a b : α) : (if ¬ Int32.ofNat j = Int32.ofNat k then a else b) = if ¬ j = k then a else b := by
  by_cases h : j = k
  · rw [if_neg (not_not_intro h), if_neg (not_not_intro ((of_inj hj hk).mpr h))]
  · rw [if_pos h, if_pos (fun h2 => h ((of_inj hj hk).mp h2))]
def pDare (D : Nat → Int32) (j : Int32) : zS → Nat → Int64 := fun S b => if D b < S.1 + j then 0 else (S.1 + j).toInt64
theorem pTake_out {n b : Nat} {j : Int32} {S : zS} {x : Int64} (hb : b < n) (hO : S.2.2.2 b = false) : pOut (pTake j S b x).2.2.2 n = if x < (S.1 + j).toInt64 ∨ 999 < x then pOut S.2.2.2 n + 1 else pOut S.2.2.2 n := by
  unfold pTake
  by_cases c : x < (S.1 + j).toInt64 ∨ 999 < x
  · rw [if_pos c, if_pos c]
    show pOut (fun k => if k = b then true else S.2.2.2 k) n = _
    rw [pOut_up hO, if_pos hb]
  · rw [if_neg c, if_neg c]
theorem pSale_congr {n : Nat} {j : Int32} {b1 b2 : zS → Nat → Int64} (h : ∀ S b, b < n → b1 S b = b2 S b) : ∀ m i S, pSale n j b1 m i S = pSale n j b2 m i S := by
  intro m
  induction m with
  | zero => intro i S; rfl
  | succ m ih =>
    intro i S
    rw [pSale, pSale]
    cases hD : pDone n S
    · rw [cond_false, cond_false]
      have h0 : 0 < n := by
        rcases Nat.eq_zero_or_pos n with h0 | h0
        · subst h0
          unfold pDone at hD
          rw [ite_self] at hD
          cases hD
        · exact h0
      have e : pTurn j b1 S (i % n) = pTurn j b2 S (i % n) := by
        unfold pTurn
        rw [h S (i % n) (Nat.mod_lt _ h0)]
      rw [e, ih]
    · rw [cond_true, cond_true]
theorem auD_f {a k : Nat} {M : zM} (hk : k < 4) : (auD a M).2.2.2 k = ! decide (M.1 (a + 2) k = 0) := by
  show (Nat.blt k 4 && ! decide (M.1 (a + 2) k = 0)) = _
  rw [Nat.blt_eq.mpr hk, Bool.true_and]
theorem pOut_c {O P : Nat → Bool} : ∀ n, (∀ k, k < n → O k = P k) → pOut O n = pOut P n := by
  intro n
  induction n with
  | zero => intro _; rfl
  | succ n ih =>
    intro h
    rw [pOut, pOut, h n (by omega), ih (fun k hk => h k (by omega))]
theorem emD_D {e : Nat} {M : zM} (h : okE (emD e M)) : nD (emD e M) ≤ 4 ∧ M.1 (e + 1) 4 = Int32.ofNat (nD (emD e M)) := by
  obtain ⟨k, hk, h1⟩ := h.2.2.2.2.1
  have e1 : nD (emD e M) = k := by unfold nD; rw [h1, toNat_of (by omega)]
  rw [e1, ← h1]
  exact ⟨hk, (emD_0 (by decide)).symm⟩
theorem pOut_0 : ∀ n, pOut (fun _ => false) n = 0 := by
  intro n
  induction n with
  | zero => rfl
  | succ n ih => rw [pOut, ih]; rfl
theorem of_pred {n : Nat} (h0 : 0 < n) : Int32.ofNat n - 1 = Int32.ofNat (n - 1) := by
  rw [show Int32.ofNat n = Int32.ofNat (n - 1) + 1 by rw [of_succ, Nat.sub_add_cancel h0]]
  exact Int32.add_sub_cancel _ _
theorem s3N {X : (Nat → Int32) × Nat} {d n jj a e s : Nat} {bid : zS → Nat → Int64} {M : zM} (hG : zGE M) (ha : zqk a 0 = true) (he : zqk e 1 = true) (hs : zqk s 9 = true) (hap : e + 27 ≤ a ∨ a + 5 ≤ e) (hap2 : s + 2 ≤ a ∨ a + 5 ≤ s) (hE : okE (emD e M)) (hn : nD (emD e M) = n) (hj : M.1 (e + 4) 0 = Int32.ofNat jj) (hj1 : 1 ≤ jj) (hj2 : jj ≤ 9) (hB : ∀ M1, zfr a (a + 5) M M1 → M1.1 (a + 1) = M.1 (a + 1) → M1.1 a 4 = Int32.ofNat (pOut (auD a M1).2.2.2 n) → M1.1 a 5 = Int32.ofNat jj → M1.1 a 6 = pMen (emD e M) (stD n s M) → M1.1 a 7 = M.1 s 0 → M1.1 a 8 = M.1 s 2 → (∀ b, b < 4 → M1.1 (a + 3) b = M.1 (s + 1) b) → ∀ b, b < n → ∃ M2, zC X (d + 1) 6 [.ref a, .int (Int32.ofNat b)] M1 = some (some (.long (bid (auD a M1) b)), M2) ∧ zfr (a + 4) (a + 5) M1 M2) : ∃ M', zC X (d + 2) 3 [.ref a, .ref e, .ref s, .null] M = some (none, M') ∧ zfr a (a + 5) M M' ∧ auD a M' = pSale n (Int32.ofNat jj) bid 7992 0 pS0 ∧ M'.1 (a + 1) = M.1 (a + 1) := by
  show ∃ M', zR X (d + 2) 3 (0, [.ref a, .ref e, .ref s, .null, zjk, zjk, zjk], [], M) = some (none, M') ∧ _
  obtain ⟨hn4, hc⟩ := emD_D hE
  rw [hn] at hn4 hc
  have loop : ∀ m i v M1, i + m = 7992 → zfr a (a + 5) M M1 → M1.1 (a + 1) = M.1 (a + 1) → M1.1 a 4 = Int32.ofNat (pOut (auD a M1).2.2.2 n) → M1.1 a 5 = Int32.ofNat jj → M1.1 a 6 = pMen (emD e M) (stD n s M) → M1.1 a 7 = M.1 s 0 → M1.1 a 8 = M.1 s 2 → (∀ b, b < 4 → M1.1 (a + 3) b = M.1 (s + 1) b) → ∃ M', zR X (d + 2) 3 (17, [.ref a, .ref e, .ref s, .null, .int (Int32.ofNat n), .int (Int32.ofNat i), v], [], M1) = some (none, M') ∧ zfr a (a + 5) M M' ∧ auD a M' = pSale n (Int32.ofNat jj) bid m i (auD a M1) ∧ M'.1 (a + 1) = M.1 (a + 1) := by
    intro m
    induction m with
    | zero =>
      intro i v M1 hi hf k1 k4 k5 k6 k7 k8 k9
      rw [t3_17N _ _ _ _ _ _ _ (zfr_G hf hG) ha he hs, if_pos (by rw [show (7992 : Int32) = Int32.ofNat 7992 from rfl, of_le (by omega) (by omega)]; omega), t3_116N _ _ _ _ _ _ _ (zfr_G hf hG) ha he hs]
      exact ⟨M1, rfl, hf, rfl, k1⟩
    | succ m ih =>
      intro i v M1 hi hf k1 k4 k5 k6 k7 k8 k9
      have hG1 := zfr_G hf hG
      have ho := pOut_le (auD a M1).2.2.2 n
      have hh : (auD a M1).2.1 = M1.1 a 1 := rfl
      have key : ∀ s1 : Int32, s1 = (if M1.1 a 1 = -1 then Int32.ofNat n else Int32.ofNat n - 1) → ∃ M', zR X (d + 2) 3 (46, [.ref a, .ref e, .ref s, .null, .int (Int32.ofNat n), .int (Int32.ofNat i), v], [.int s1, .int (M1.1 a 4)], M1) = some (none, M') ∧ zfr a (a + 5) M M' ∧ auD a M' = pSale n (Int32.ofNat jj) bid (m + 1) i (auD a M1) ∧ M'.1 (a + 1) = M.1 (a + 1) := by
        intro s1 hs1
        have hdn : s1 ≤ M1.1 a 4 ↔ pDone n (auD a M1) = true := by
          unfold pDone
          rw [Nat.ble_eq, hh, hs1, k4]
          by_cases c : M1.1 a 1 = -1
          · rw [if_pos c, if_pos c, of_le (by omega) (by omega)]
          · rw [if_neg c, if_neg c]
            rcases Nat.eq_zero_or_pos n with h0 | h0
            · subst h0
              exact ⟨fun _ => Nat.zero_le _, fun _ => by show (0 : Int32) - 1 ≤ 0; decide⟩
            · rw [show Int32.ofNat n - 1 = Int32.ofNat (n - 1) by
                rw [show Int32.ofNat n = Int32.ofNat (n - 1) + 1 by rw [of_succ, Nat.sub_add_cancel h0]]
                exact Int32.add_sub_cancel _ _, of_le (by omega) (by omega)]
        by_cases c1 : s1 ≤ M1.1 a 4
        · have g0 : ¬ s1 ≤ M1.1 a 4 → ¬ Int32.ofNat n ≤ 0 → ¬ Int32.ofNat n = 0 := fun h => absurd c1 h
          have g1 : ¬ s1 ≤ M1.1 a 4 → ¬ Int32.ofNat n ≤ 0 → vp_in (Int32.ofNat i - Int32.ofNat i / Int32.ofNat n * Int32.ofNat n) 4 := fun h => absurd c1 h
          rw [t3_46N _ _ _ _ _ _ _ _ _ hG1 ha he hs g0 g1, if_pos c1]
          refine ⟨M1, rfl, hf, ?_, k1⟩
          rw [pSale, hdn.mp c1]
          rfl
        · have hD : pDone n (auD a M1) = false := by
            cases h : pDone n (auD a M1)
            · rfl
            · exact absurd (hdn.mpr h) c1
          have h0 : 0 < n := by
            rcases Nat.eq_zero_or_pos n with h0 | h0
            · subst h0
              unfold pDone at hD
              rw [ite_self] at hD
              cases hD
            · exact h0
          have hb := Nat.mod_lt i h0
          have hne : ¬ Int32.ofNat n ≤ 0 := by rw [show (0 : Int32) = Int32.ofNat 0 from rfl, of_le (by omega) (by omega)]; omega
          have hmod : Int32.ofNat i - Int32.ofNat i / Int32.ofNat n * Int32.ofNat n = Int32.ofNat (i % n) := of_mod (by omega) (by omega)
          have g0 : ¬ s1 ≤ M1.1 a 4 → ¬ Int32.ofNat n ≤ 0 → ¬ Int32.ofNat n = 0 := fun _ _ => by rw [show (0 : Int32) = Int32.ofNat 0 from rfl, of_inj (by omega) (by omega)]; omega
          have g1 : ¬ s1 ≤ M1.1 a 4 → ¬ Int32.ofNat n ≤ 0 → vp_in (Int32.ofNat i - Int32.ofNat i / Int32.ofNat n * Int32.ofNat n) 4 := fun _ _ => by rw [hmod]; exact vp_of (by omega) (by omega)
          rw [t3_46N _ _ _ _ _ _ _ _ _ hG1 ha he hs g0 g1, if_neg c1, if_neg hne, hmod, toNat_of (by omega), pSale, hD, cond_false]
          unfold pTurn
          by_cases c2 : M1.1 (a + 2) (i % n) = 0
          · have hO : (auD a M1).2.2.2 (i % n) = false := by rw [auD_f (by omega), decide_eq_true c2]; rfl
            rw [if_neg (not_not_intro c2)]
            by_cases c3 : Int32.ofNat (i % n) = M1.1 a 1
            · rw [if_pos c3, of_succ, if_pos (show (auD a M1).2.2.2 (i % n) = true ∨ Int32.ofNat (i % n) = (auD a M1).2.1 from Or.inr c3)]
              exact ih (i + 1) _ M1 (by omega) hf k1 k4 k5 k6 k7 k8 k9
            · obtain ⟨M2, q1, q2⟩ := hB M1 hf k1 k4 k5 k6 k7 k8 k9 (i % n) hb
              have hG2 := zfr_G q2 hG1
              obtain ⟨M3, w1, w2, w3, w4, w5, w6⟩ := s5 (X := X) (d := d + 1) (a := a) (b := i % n) (x := bid (auD a M1) (i % n)) hG2 ha (by omega)
              have e0 : M2.1 a = M1.1 a := (q2.2 a (by omega)).1
              have e1 : M2.1 (a + 1) = M1.1 (a + 1) := (q2.2 (a + 1) (by omega)).1
              have e2 : M2.1 (a + 2) = M1.1 (a + 2) := (q2.2 (a + 2) (by omega)).1
              have e3 : M2.1 (a + 3) = M1.1 (a + 3) := (q2.2 (a + 3) (by omega)).1
              have eau : auD a M2 = auD a M1 := by unfold auD; rw [e0, e2]
              rw [if_neg c3, q1, Option.bind_some]
              dsimp only [zps]
              rw [t3_97N _ _ _ _ _ _ _ _ _ _ hG2 ha he hs ha, w1, Option.bind_some]
              dsimp only [zps]
              rw [t3_110N _ _ _ _ _ _ _ (zfr_G w2 hG2) ha he hs, of_succ, if_neg (show ¬ ((auD a M1).2.2.2 (i % n) = true ∨ Int32.ofNat (i % n) = (auD a M1).2.1) from not_or.mpr ⟨by rw [hO]; exact Bool.false_ne_true, c3⟩)]
              rw [e0, k5, eau] at w3
              rw [← w3]
              refine ih (i + 1) _ M3 (by omega) (zfr_tr hf (zfr_tr (zfr_up q2 (by omega) (by omega)) (zfr_up w2 (by omega) (by omega)))) ?_ ?_ ?_ ?_ ?_ ?_ ?_
              · rw [w5, e1, k1]
              · rw [w6, w3, pTake_out hb hO, e0, k4, k5]
                rw [show M1.1 a 2 = (auD a M1).1 from rfl]
                by_cases c4 : bid (auD a M1) (i % n) < ((auD a M1).1 + Int32.ofNat jj).toInt64 ∨ 999 < bid (auD a M1) (i % n)
                · rw [if_pos c4, if_pos c4, of_succ]
                · rw [if_neg c4, if_neg c4]
              · rw [w4 5 (by omega), e0, k5]
              · rw [w4 6 (by omega), e0, k6]
              · rw [w4 7 (by omega), e0, k7]
              · rw [w4 8 (by omega), e0, k8]
              · intro b hb
                rw [(w2.2 (a + 3) (by omega)).1, e3]
                exact k9 b hb
          · have hO : (auD a M1).2.2.2 (i % n) = true := by rw [auD_f (by omega), decide_eq_false c2]; rfl
            rw [if_pos c2, of_succ, if_pos (Or.inl hO)]
            exact ih (i + 1) _ M1 (by omega) hf k1 k4 k5 k6 k7 k8 k9
      rw [t3_17N _ _ _ _ _ _ _ hG1 ha he hs, if_neg (by rw [show (7992 : Int32) = Int32.ofNat 7992 from rfl, of_le (by omega) (by omega)]; omega)]
      by_cases c : M1.1 a 1 = -1
      · rw [if_neg (not_not_intro c)]
        exact key _ (by rw [if_pos c])
      · rw [if_pos c]
        exact key _ (by rw [if_neg c])
  obtain ⟨M1, w1, w2, w3, w4, w5, w6, w7, w8, w9, w10⟩ := s4 (X := X) (d := d) (n := n) hG ha he hs hap hap2 hE
  rw [t3_0N _ _ _ _ _ _ _ hG ha he hs, w1, Option.bind_some]
  dsimp only [zps]
  rw [t3_14N _ _ _ _ _ _ _ (zfr_G w2 hG) ha he hs, hc]
  have h1 := loop 7992 0 zjk M1 (by omega) (zfr_up w2 (Nat.le_refl _) (by omega)) w4 (by rw [w5, w3]; show (0 : Int32) = Int32.ofNat (pOut (fun _ => false) n); rw [pOut_0]; rfl) (by rw [w6, hj]) w7 w8 w9 w10
  rw [w3] at h1
  exact h1
theorem s3R {X : (Nat → Int32) × Nat} {d n jj a e s q : Nat} {bid : zS → Nat → Int64} {M : zM} (hG : zGE M) (ha : zqk a 0 = true) (he : zqk e 1 = true) (hs : zqk s 9 = true) (hq : zqk q 7 = true) (hap : e + 27 ≤ a ∨ a + 5 ≤ e) (hap2 : s + 2 ≤ a ∨ a + 5 ≤ s) (hE : okE (emD e M)) (hn : nD (emD e M) = n) (hj : M.1 (e + 4) 0 = Int32.ofNat jj) (hj1 : 1 ≤ jj) (hj2 : jj ≤ 9) (hB : ∀ M1, zfr a (a + 5) M M1 → M1.1 (a + 1) = M.1 (a + 1) → M1.1 a 4 = Int32.ofNat (pOut (auD a M1).2.2.2 n) → M1.1 a 5 = Int32.ofNat jj → M1.1 a 6 = pMen (emD e M) (stD n s M) → M1.1 a 7 = M.1 s 0 → M1.1 a 8 = M.1 s 2 → (∀ b, b < 4 → M1.1 (a + 3) b = M.1 (s + 1) b) → ∀ b, b < n → ∃ M2, zC X (d + 1) 7 [.ref a, .int (Int32.ofNat b), .ref q] M1 = some (some (.long (bid (auD a M1) b)), M2) ∧ zfr (a + 4) (a + 5) M1 M2) : ∃ M', zC X (d + 2) 3 [.ref a, .ref e, .ref s, .ref q] M = some (none, M') ∧ zfr a (a + 5) M M' ∧ auD a M' = pSale n (Int32.ofNat jj) bid 7992 0 pS0 ∧ M'.1 (a + 1) = M.1 (a + 1) := by
  show ∃ M', zR X (d + 2) 3 (0, [.ref a, .ref e, .ref s, .ref q, zjk, zjk, zjk], [], M) = some (none, M') ∧ _
  obtain ⟨hn4, hc⟩ := emD_D hE
  rw [hn] at hn4 hc
  have loop : ∀ m i v M1, i + m = 7992 → zfr a (a + 5) M M1 → M1.1 (a + 1) = M.1 (a + 1) → M1.1 a 4 = Int32.ofNat (pOut (auD a M1).2.2.2 n) → M1.1 a 5 = Int32.ofNat jj → M1.1 a 6 = pMen (emD e M) (stD n s M) → M1.1 a 7 = M.1 s 0 → M1.1 a 8 = M.1 s 2 → (∀ b, b < 4 → M1.1 (a + 3) b = M.1 (s + 1) b) → ∃ M', zR X (d + 2) 3 (17, [.ref a, .ref e, .ref s, .ref q, .int (Int32.ofNat n), .int (Int32.ofNat i), v], [], M1) = some (none, M') ∧ zfr a (a + 5) M M' ∧ auD a M' = pSale n (Int32.ofNat jj) bid m i (auD a M1) ∧ M'.1 (a + 1) = M.1 (a + 1) := by
    intro m
    induction m with
    | zero =>
      intro i v M1 hi hf k1 k4 k5 k6 k7 k8 k9
      rw [t3_17R _ _ _ _ _ _ _ _ (zfr_G hf hG) ha he hs hq, if_pos (by rw [show (7992 : Int32) = Int32.ofNat 7992 from rfl, of_le (by omega) (by omega)]; omega), t3_116R _ _ _ _ _ _ _ _ (zfr_G hf hG) ha he hs hq]
      exact ⟨M1, rfl, hf, rfl, k1⟩
    | succ m ih =>
      intro i v M1 hi hf k1 k4 k5 k6 k7 k8 k9
      have hG1 := zfr_G hf hG
      have ho := pOut_le (auD a M1).2.2.2 n
      have hh : (auD a M1).2.1 = M1.1 a 1 := rfl
      have key : ∀ s1 : Int32, s1 = (if M1.1 a 1 = -1 then Int32.ofNat n else Int32.ofNat n - 1) → ∃ M', zR X (d + 2) 3 (46, [.ref a, .ref e, .ref s, .ref q, .int (Int32.ofNat n), .int (Int32.ofNat i), v], [.int s1, .int (M1.1 a 4)], M1) = some (none, M') ∧ zfr a (a + 5) M M' ∧ auD a M' = pSale n (Int32.ofNat jj) bid (m + 1) i (auD a M1) ∧ M'.1 (a + 1) = M.1 (a + 1) := by
        intro s1 hs1
        have hdn : s1 ≤ M1.1 a 4 ↔ pDone n (auD a M1) = true := by
          unfold pDone
          rw [Nat.ble_eq, hh, hs1, k4]
          by_cases c : M1.1 a 1 = -1
          · rw [if_pos c, if_pos c, of_le (by omega) (by omega)]
          · rw [if_neg c, if_neg c]
            rcases Nat.eq_zero_or_pos n with h0 | h0
            · subst h0
              exact ⟨fun _ => Nat.zero_le _, fun _ => by show (0 : Int32) - 1 ≤ 0; decide⟩
            · rw [show Int32.ofNat n - 1 = Int32.ofNat (n - 1) by
                rw [show Int32.ofNat n = Int32.ofNat (n - 1) + 1 by rw [of_succ, Nat.sub_add_cancel h0]]
                exact Int32.add_sub_cancel _ _, of_le (by omega) (by omega)]
        by_cases c1 : s1 ≤ M1.1 a 4
        · have g0 : ¬ s1 ≤ M1.1 a 4 → ¬ Int32.ofNat n ≤ 0 → ¬ Int32.ofNat n = 0 := fun h => absurd c1 h
          have g1 : ¬ s1 ≤ M1.1 a 4 → ¬ Int32.ofNat n ≤ 0 → vp_in (Int32.ofNat i - Int32.ofNat i / Int32.ofNat n * Int32.ofNat n) 4 := fun h => absurd c1 h
          rw [t3_46R _ _ _ _ _ _ _ _ _ _ hG1 ha he hs hq g0 g1, if_pos c1]
          refine ⟨M1, rfl, hf, ?_, k1⟩
          rw [pSale, hdn.mp c1]
          rfl
        · have hD : pDone n (auD a M1) = false := by
            cases h : pDone n (auD a M1)
            · rfl
            · exact absurd (hdn.mpr h) c1
          have h0 : 0 < n := by
            rcases Nat.eq_zero_or_pos n with h0 | h0
            · subst h0
              unfold pDone at hD
              rw [ite_self] at hD
              cases hD
            · exact h0
          have hb := Nat.mod_lt i h0
          have hne : ¬ Int32.ofNat n ≤ 0 := by rw [show (0 : Int32) = Int32.ofNat 0 from rfl, of_le (by omega) (by omega)]; omega
          have hmod : Int32.ofNat i - Int32.ofNat i / Int32.ofNat n * Int32.ofNat n = Int32.ofNat (i % n) := of_mod (by omega) (by omega)
          have g0 : ¬ s1 ≤ M1.1 a 4 → ¬ Int32.ofNat n ≤ 0 → ¬ Int32.ofNat n = 0 := fun _ _ => by rw [show (0 : Int32) = Int32.ofNat 0 from rfl, of_inj (by omega) (by omega)]; omega
          have g1 : ¬ s1 ≤ M1.1 a 4 → ¬ Int32.ofNat n ≤ 0 → vp_in (Int32.ofNat i - Int32.ofNat i / Int32.ofNat n * Int32.ofNat n) 4 := fun _ _ => by rw [hmod]; exact vp_of (by omega) (by omega)
          rw [t3_46R _ _ _ _ _ _ _ _ _ _ hG1 ha he hs hq g0 g1, if_neg c1, if_neg hne, hmod, toNat_of (by omega), pSale, hD, cond_false]
          unfold pTurn
          by_cases c2 : M1.1 (a + 2) (i % n) = 0
          · have hO : (auD a M1).2.2.2 (i % n) = false := by rw [auD_f (by omega), decide_eq_true c2]; rfl
            rw [if_neg (not_not_intro c2)]
            by_cases c3 : Int32.ofNat (i % n) = M1.1 a 1
            · rw [if_pos c3, of_succ, if_pos (show (auD a M1).2.2.2 (i % n) = true ∨ Int32.ofNat (i % n) = (auD a M1).2.1 from Or.inr c3)]
              exact ih (i + 1) _ M1 (by omega) hf k1 k4 k5 k6 k7 k8 k9
            · obtain ⟨M2, q1, q2⟩ := hB M1 hf k1 k4 k5 k6 k7 k8 k9 (i % n) hb
              have hG2 := zfr_G q2 hG1
              obtain ⟨M3, w1, w2, w3, w4, w5, w6⟩ := s5 (X := X) (d := d + 1) (a := a) (b := i % n) (x := bid (auD a M1) (i % n)) hG2 ha (by omega)
              have e0 : M2.1 a = M1.1 a := (q2.2 a (by omega)).1
              have e1 : M2.1 (a + 1) = M1.1 (a + 1) := (q2.2 (a + 1) (by omega)).1
              have e2 : M2.1 (a + 2) = M1.1 (a + 2) := (q2.2 (a + 2) (by omega)).1
              have e3 : M2.1 (a + 3) = M1.1 (a + 3) := (q2.2 (a + 3) (by omega)).1
              have eau : auD a M2 = auD a M1 := by unfold auD; rw [e0, e2]
              rw [if_neg c3, q1, Option.bind_some]
              dsimp only [zps]
              rw [t3_107R _ _ _ _ _ _ _ _ _ _ _ hG2 ha he hs hq ha, w1, Option.bind_some]
              dsimp only [zps]
              rw [t3_110R _ _ _ _ _ _ _ _ (zfr_G w2 hG2) ha he hs hq, of_succ, if_neg (show ¬ ((auD a M1).2.2.2 (i % n) = true ∨ Int32.ofNat (i % n) = (auD a M1).2.1) from not_or.mpr ⟨by rw [hO]; exact Bool.false_ne_true, c3⟩)]
              rw [e0, k5, eau] at w3
              rw [← w3]
              refine ih (i + 1) _ M3 (by omega) (zfr_tr hf (zfr_tr (zfr_up q2 (by omega) (by omega)) (zfr_up w2 (by omega) (by omega)))) ?_ ?_ ?_ ?_ ?_ ?_ ?_
              · rw [w5, e1, k1]
              · rw [w6, w3, pTake_out hb hO, e0, k4, k5]
                rw [show M1.1 a 2 = (auD a M1).1 from rfl]
                by_cases c4 : bid (auD a M1) (i % n) < ((auD a M1).1 + Int32.ofNat jj).toInt64 ∨ 999 < bid (auD a M1) (i % n)
                · rw [if_pos c4, if_pos c4, of_succ]
                · rw [if_neg c4, if_neg c4]
              · rw [w4 5 (by omega), e0, k5]
              · rw [w4 6 (by omega), e0, k6]
              · rw [w4 7 (by omega), e0, k7]
              · rw [w4 8 (by omega), e0, k8]
              · intro b hb
                rw [(w2.2 (a + 3) (by omega)).1, e3]
                exact k9 b hb
          · have hO : (auD a M1).2.2.2 (i % n) = true := by rw [auD_f (by omega), decide_eq_false c2]; rfl
            rw [if_pos c2, of_succ, if_pos (Or.inl hO)]
            exact ih (i + 1) _ M1 (by omega) hf k1 k4 k5 k6 k7 k8 k9
      rw [t3_17R _ _ _ _ _ _ _ _ hG1 ha he hs hq, if_neg (by rw [show (7992 : Int32) = Int32.ofNat 7992 from rfl, of_le (by omega) (by omega)]; omega)]
      by_cases c : M1.1 a 1 = -1
      · rw [if_neg (not_not_intro c)]
        exact key _ (by rw [if_pos c])
      · rw [if_pos c]
        exact key _ (by rw [if_neg c])
  obtain ⟨M1, w1, w2, w3, w4, w5, w6, w7, w8, w9, w10⟩ := s4 (X := X) (d := d) (n := n) hG ha he hs hap hap2 hE
  rw [t3_0R _ _ _ _ _ _ _ _ hG ha he hs hq, w1, Option.bind_some]
  dsimp only [zps]
  rw [t3_14R _ _ _ _ _ _ _ _ (zfr_G w2 hG) ha he hs hq, hc]
  have h1 := loop 7992 0 zjk M1 (by omega) (zfr_up w2 (Nat.le_refl _) (by omega)) w4 (by rw [w5, w3]; show (0 : Int32) = Int32.ofNat (pOut (fun _ => false) n); rw [pOut_0]; rfl) (by rw [w6, hj]) w7 w8 w9 w10
  rw [w3] at h1
  exact h1
theorem s3 {X : (Nat → Int32) × Nat} {d n jj a e s : Nat} {M : zM} (hG : zGE M) (ha : zqk a 0 = true) (he : zqk e 1 = true) (hs : zqk s 9 = true) (hap : e + 27 ≤ a ∨ a + 5 ≤ e) (hap2 : s + 2 ≤ a ∨ a + 5 ≤ s) (hE : okE (emD e M)) (hn : nD (emD e M) = n) (hj : M.1 (e + 4) 0 = Int32.ofNat jj) (hj1 : 1 ≤ jj) (hj2 : jj ≤ 9) : ∃ M', zC X (d + 2) 3 [.ref a, .ref e, .ref s, .null] M = some (none, M') ∧ zfr a (a + 5) M M' ∧ auD a M' = pSale n (Int32.ofNat jj) (pDare (M.1 (a + 1)) (Int32.ofNat jj)) 7992 0 pS0 ∧ M'.1 (a + 1) = M.1 (a + 1) := by
  have hn4 := (emD_D hE).1
  refine s3N hG ha he hs hap hap2 hE hn hj hj1 hj2 (fun M1 hf k1 k4 k5 k6 k7 k8 k9 b hb => ⟨M1, ?_, zfr_rf⟩)
  rw [s6 (zfr_G hf hG) ha (by omega), k1, k5]
  rfl
