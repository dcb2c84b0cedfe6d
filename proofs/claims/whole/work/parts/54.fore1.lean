/-! ===== days and treasuries tried out: holds, thinnest ===== -/
def pDays (E : zE) (A : zA) (k : Nat) : Nat := (pHd E (A 3) k 0 A).1
/-- an empire and how it stands, as they may be -/
def okA (E : zE) (A : zA) : Prop := okR E (A 3) ∧ (∃ q, q ≤ 999 ∧ A 2 = Int32.ofNat q) ∧ ∃ f, 1 ≤ f ∧ f ≤ 10 ∧ A 1 = Int32.ofNat (10 * f)
abbrev aR (M : zM) : zA := stR (nD (emR M)) M
abbrev aD (e s : Nat) (M : zM) : zA := stD (nD (emD e M)) s M
/-- the reference may be asked -/
def okM (M : zM) : Prop := zGE M ∧ okE (emR M) ∧ okW M
theorem zwk_M {M M' : zM} (h : zwk M M') (hM : okM M) : okM M' := ⟨zwk_G h hM.1, by rw [zwk_em h]; exact hM.2.1, zwk_W h hM.2.2⟩
/-- what it tried out has left no trace -/
def rsm (M M' : zM) : Prop := zwk M M' ∧ (∀ k, k < 18 → M'.1 461 k = M.1 461 k) ∧ ∀ k, k < 4 → M'.1 462 k = M.1 462 k
theorem rsm_rf {M : zM} : rsm M M := ⟨zwk_rf, fun _ _ => rfl, fun _ _ => rfl⟩
theorem rsm_st {M M' : zM} {n : Nat} (h : rsm M M') (hn : n ≤ 4) : stR n M' = stR n M := kp_st hn h.2.1 h.2.2
theorem d32 {x y : Int32} : decide (x.toInt64 < y.toInt64) = decide (x < y) := d64
/-- the reference's test whether x lies in a..b -/
theorem r135i {X : (Nat → Int32) × Nat} {d : Nat} {x a b : Int32} {y z : Int64} {M : zM} (hG : zGE M) (hy : y = a.toInt64) (hz : z = b.toInt64) : zC X d 135 [.long x.toInt64, .long y, .long z] M = some (some (.int (if x < a ∨ b < x then 0 else 1)), M) := by
  rw [r135 hG, hy, hz, d32, d32]
  by_cases h1 : x < a
  · rw [if_pos (Or.inl h1), decide_eq_true h1]; rfl
  · rw [decide_eq_false h1]
    by_cases h2 : b < x
    · rw [if_pos (Or.inr h2), decide_eq_true h2]; rfl
    · rw [if_neg (not_or.mpr ⟨h1, h2⟩), decide_eq_false h2]; rfl
theorem r215w {X : (Nat → Int32) × Nat} {d k q : Nat} {K M : zM} (hK : okM K) (hf : zwk K M) (hR : okR (emR K) (stR (nD (emR K)) M 3)) (hD : stR (nD (emR K)) M 2 = Int32.ofNat q) (hq : q ≤ 100000) (hk : k ≤ 1000) : ∃ M', zC X (d + 5) 215 [.ref 460, .int (Int32.ofNat k)] M = some (some (.int (Int32.ofNat (pDays (emR K) (stR (nD (emR K)) M) k))), M') ∧ zwk K M' ∧ M'.1 502 = M.1 502 ∧ M'.1 496 = M.1 496 ∧ M'.1 460 = M.1 460 ∧ stR (nD (emR K)) M' = (pHd (emR K) (stR (nD (emR K)) M 3) k 0 (stR (nD (emR K)) M)).2 ∧ (∀ j, j = 16 ∨ j = 17 → M'.1 461 j = M.1 461 j) := by
  have em := zwk_em hf
  have hM := zwk_M hf hK
  obtain ⟨M', q1, q2, q3⟩ := r215 (X := X) (d := d) (n := nD (emR K)) (k := k) (q := q) hM.1 (by rw [em]; exact Nat.le_refl _) hM.2.1 hM.2.2 (by rw [em]; exact hR) hD hq hk
  rw [em] at q1 q3
  refine ⟨M', q1, zwk_tr hf (zwk_s q2), zfs_c q2 (by decide), zfs_c q2 (by decide), zfs_c q2 (by decide), q3, fun j hj => zfs_k q2 (by omega)⟩
def pLst (E : zE) (A : zA) (n : Nat) : Nat → Nat → Int32
  | 0, _ => -2
  | m + 1, i => if pDays E (zu A 0 (Int32.ofNat (100 * i))) n = n then Int32.ofNat (100 * i) else pLst E A n m (i + 1)
def pHolds (E : zE) (A : zA) (x : Int32) : Int32 := if A 3 = -1 then -1 else if x < 1 ∨ 60 < x then -1 else pLst E A x.toNatClampNeg 100 0
theorem ne_m2 {k : Nat} (h : k < 2147483648) : ¬ Int32.ofNat k = -2 := by
  intro e
  have := congrArg Int32.toInt e
  rw [Int32.toInt_ofNat_of_lt h] at this
  have h2 : (-2 : Int32).toInt = -2 := by decide
  omega
theorem pHd_le {E : zE} {who : Int32} : ∀ {m i : Nat} {A : zA}, i ≤ (pHd E who m i A).1 ∧ (pHd E who m i A).1 ≤ i + m
  | 0, i, A => ⟨Nat.le_refl _, Nat.le_refl _⟩
  | m + 1, i, A => by
    rw [pHd]
    by_cases c : pGo E A 3 = who
    · rw [if_pos c]
      have := pHd_le (E := E) (who := who) (m := m) (i := i + 1) (A := pGo E A)
      omega
    · rw [if_neg c]
      exact ⟨Nat.le_refl _, by omega⟩
theorem pDays_le {E : zE} {A : zA} {k : Nat} : pDays E A k ≤ k := by
  have := (pHd_le (E := E) (who := A 3) (m := k) (i := 0) (A := A)).2
  unfold pDays
  omega
theorem zu_zu {A : zA} {k : Nat} {a b : Int32} : zu (zu A k a) k b = zu A k b := by
  funext j
  unfold zu
  split <;> rfl
theorem zu_self {A : zA} {k : Nat} : zu A k (A k) = A := by
  funext j
  unfold zu
  split
  · rename_i h; rw [h]
  · rfl
theorem of_range {x : Int32} {a b : Nat} (ha : a < 2147483648) (hb : b < 2147483648) (h : ¬ (x < Int32.ofNat a ∨ Int32.ofNat b < x)) : x = Int32.ofNat x.toNatClampNeg ∧ a ≤ x.toNatClampNeg ∧ x.toNatClampNeg ≤ b := by
  rw [not_or, Int32.lt_iff_toInt_lt, Int32.lt_iff_toInt_lt, Int32.toInt_ofNat_of_lt ha, Int32.toInt_ofNat_of_lt hb] at h
  have e : x.toNatClampNeg = x.toInt.toNat := rfl
  refine ⟨?_, by omega, by omega⟩
  rw [← Int32.toInt_inj, Int32.toInt_ofNat_of_lt (by omega), e]
  omega
theorem of_eqx {x : Int32} {k : Nat} (e1 : x = Int32.ofNat x.toNatClampNeg) (hk : k < 2147483648) (hx : x.toNatClampNeg < 2147483648) : (Int32.ofNat k = x) ↔ k = x.toNatClampNeg := by
  generalize x.toNatClampNeg = v at *
  subst e1
  exact of_inj hk hx
theorem of_mul (a b : Nat) : Int32.ofNat a * Int32.ofNat b = Int32.ofNat (a * b) := (Int32.ofNat_mul a b).symm
/-- days held by the class, on a state of its own (122) or another -/
theorem s27w {X : (Nat → Int32) × Nat} {d k e s : Nat} {K M : zM} (hG : zGE K) (he : zqk e 1 = true) (hs : zqk s 9 = true) (hap : e + 27 ≤ 114) (hap2 : s + 2 ≤ 120 ∨ 122 ≤ s) (hE : okE (emD e K)) (hf : zfr 114 150 K M) (hR : okR (emD e K) (stD (nD (emD e K)) s M 3)) (hk : k ≤ 1000) : ∃ M', zC X (d + 4) 27 [.ref 119, .ref e, .ref s, .int (Int32.ofNat k)] M = some (some (.int (Int32.ofNat (pDays (emD e K) (stD (nD (emD e K)) s M) k))), M') ∧ zfr 120 122 M M' ∧ stD (nD (emD e K)) 120 M' = (pHd (emD e K) (stD (nD (emD e K)) s M 3) k 0 (stD (nD (emD e K)) s M)).2 := by
  have em : emD e M = emD e K := zfr_em hf (by omega)
  have h := s27 (X := X) (d := d) (n := nD (emD e K)) (s := s) (e := e) (k := k) (M := M) (zfr_G hf hG) hs he (by omega) hap2 (by rw [em]; exact Nat.le_refl _) (emD_D hE).1 (by rw [em]; exact hE) (by rw [em]; exact hR) hk
  rw [em] at h
  exact h
theorem s33 {X : (Nat → Int32) × Nat} {d k e s : Nat} {M : zM} (hG : zGE M) (he : zqk e 1 = true) (hs : zqk s 9 = true) (hap : e + 27 ≤ 114) (hap2 : s + 2 ≤ 114) (hE : okE (emD e M)) (hA : okA (emD e M) (aD e s M)) (hk : k ≤ 60) : ∃ M', zC X (d + 5) 33 [.ref 119, .ref e, .ref s, .int (Int32.ofNat k)] M = some (some (.int (pLst (emD e M) (aD e s M) k 100 0)), M') ∧ zfr 114 150 M M' := by
  show ∃ M', zR X (d + 5) 33 (0, [.ref 119, .ref e, .ref s, .int (Int32.ofNat k), zjk], [], M) = some (some (.int _), M') ∧ _
  have hn4 := (emD_D hE).1
  have loop : ∀ m i M1, i + m = 100 → zfr 114 150 M M1 → (∀ v, zu (stD (nD (emD e M)) 122 M1) 0 v = zu (aD e s M) 0 v) → ∃ M', zR X (d + 5) 33 (11, [.ref 119, .ref e, .ref s, .int (Int32.ofNat k), .int (Int32.ofNat i)], [], M1) = some (some (.int (pLst (emD e M) (aD e s M) k m i)), M') ∧ zfr 114 150 M M' := by
    intro m
    induction m with
    | zero =>
      intro i M1 hi hf hv
      rw [t33_11 _ _ _ _ _ (zfr_G hf hG) he hs, if_pos (by rw [show (100 : Int32) = Int32.ofNat 100 from rfl, of_le (by omega) (by omega)]; omega)]
      exact ⟨M1, rfl, hf⟩
    | succ m ih =>
      intro i M1 hi hf hv
      have hG1 := zfr_G hf hG
      have e1 : Int32.ofNat i * 100 = Int32.ofNat (100 * i) := by rw [Nat.mul_comm, ← of_mul]; rfl
      have hf1 : zfr 114 150 M (zsI M1 122 0 (Int32.ofNat (100 * i))) := zfr_I hf (by omega) (by omega)
      have est : stD (nD (emD e M)) 122 (zsI M1 122 0 (Int32.ofNat (100 * i))) = zu (aD e s M) 0 (Int32.ofNat (100 * i)) := by rw [stD_I (by decide), hv]
      obtain ⟨M2, q1, q2, -⟩ := s27w (X := X) (d := d) (k := k) (e := e) (s := 122) (K := M) (M := zsI M1 122 0 (Int32.ofNat (100 * i))) hG he zq_122 hap (by omega) hE hf1 (by rw [est, zu_n (by decide)]; exact hA.1) (by omega)
      rw [est] at q1
      have hf2 : zfr 114 150 M M2 := zfr_tr hf1 (zfr_up q2 (by omega) (by omega))
      have e22 : M2.1 122 = (zsI M1 122 0 (Int32.ofNat (100 * i))).1 122 := (q2.2 122 (by omega)).1
      have est2 : stD (nD (emD e M)) 122 M2 = zu (aD e s M) 0 (Int32.ofNat (100 * i)) := by rw [zfr_st q2 (by omega), est]
      rw [t33_11 _ _ _ _ _ hG1 he hs, if_neg (by rw [show (100 : Int32) = Int32.ofNat 100 from rfl, of_le (by omega) (by omega)]; omega), e1, q1, Option.bind_some]
      dsimp only [zps]
      have hle := pDays_le (E := emD e M) (A := zu (aD e s M) 0 (Int32.ofNat (100 * i))) (k := k)
      rw [t33_40 _ _ _ _ _ _ (zfr_G hf2 hG) he hs, fi_ne (by omega) (by omega), pLst, of_succ]
      by_cases c : pDays (emD e M) (zu (aD e s M) 0 (Int32.ofNat (100 * i))) k = k
      · rw [if_neg (not_not_intro c), if_pos c, e22, zI_s, if_pos rfl]
        exact ⟨M2, rfl, hf2⟩
      · rw [if_pos c, if_neg c]
        refine ih (i + 1) M2 (by omega) hf2 (fun v => ?_)
        rw [est2, zu_zu]
  obtain ⟨M1, q1, q2, q3⟩ := s70 (X := X) (d := d + 4) (n := nD (emD e M)) (s := 122) (t := s) hG zq_122 hs (by omega) hn4
  rw [t33_0 _ _ _ _ _ hG he hs, q1, Option.bind_some]
  dsimp only [zps]
  rw [t33_8 _ _ _ _ _ (zfr_G q2 hG) he hs]
  exact loop 100 0 M1 (by omega) (zfr_up q2 (by omega) (by omega)) (fun v => by rw [q3])
theorem s122 {X : (Nat → Int32) × Nat} {d : Nat} {x : Int32} {M : zM} (hG : zGE M) (hE : okE (emD 40 M)) (hA : okA (emD 40 M) (aD 40 67 M)) : ∃ M', zC X (d + 6) 122 [.ref 0, .int x] M = some (some (.int (pHolds (emD 40 M) (aD 40 67 M) x)), M') ∧ zfr 114 150 M M' := by
  show ∃ M', zR X (d + 6) 122 (0, [.ref 0, .int x], [], M) = some (some (.int _), M') ∧ _
  have h3 : aD 40 67 M 3 = M.1 67 3 := stD_f (by decide)
  unfold pHolds
  rw [h3, t122_0 _ _ hG]
  by_cases c1 : x < 1
  · rw [if_pos c1, if_pos (Or.inl c1), ite_self]
    exact ⟨M, rfl, zfr_rf⟩
  · rw [if_neg c1]
    by_cases c2 : 60 < x
    · rw [if_pos c2, if_pos (Or.inr c2), ite_self]
      exact ⟨M, rfl, zfr_rf⟩
    · rw [if_neg c2, if_neg (not_or.mpr ⟨c1, c2⟩)]
      by_cases c3 : M.1 67 3 = -1
      · rw [if_neg (not_not_intro c3), if_pos c3]
        exact ⟨M, rfl, zfr_rf⟩
      · obtain ⟨e1, e2, e3⟩ := of_range (x := x) (a := 1) (b := 60) (by omega) (by omega) (not_or.mpr ⟨c1, c2⟩)
        obtain ⟨M', q1, q2⟩ := s33 (X := X) (d := d) (k := x.toNatClampNeg) (e := 40) (s := 67) hG zq_40 zq_67 (by omega) (by omega) hE hA e3
        rw [← e1] at q1
        rw [if_pos c3, if_neg c3, q1, Option.bind_some]
        dsimp only [zps]
        rw [t122_49 _ _ _ (zfr_G q2 hG)]
        exact ⟨M', rfl, q2⟩
theorem r225 {X : (Nat → Int32) × Nat} {d : Nat} {x : Int32} {M : zM} (hM : okM M) (hA : okA (emR M) (aR M)) : ∃ M', zC X (d + 6) 225 [.ref 460, .int x] M = some (some (.int (pHolds (emR M) (aR M) x)), M') ∧ rsm M M' := by
  show ∃ M', zR X (d + 6) 225 (0, [.ref 460, .int x, zjk, zjk], [], M) = some (some (.int _), M') ∧ _
  have hG := hM.1
  have h3 : aR M 3 = M.1 461 7 := rfl
  have hn4 := (okR_D hM.2.1).1
  obtain ⟨qd, hq1, hq2⟩ := hA.2.1
  unfold pHolds
  rw [h3, t225_0 _ _ _ _ hG]
  by_cases c3 : M.1 461 7 = -1
  · rw [if_pos c3, if_pos c3]
    exact ⟨M, rfl, rsm_rf⟩
  · rw [if_neg c3, if_neg c3, r135i (y := 1) (z := 60) (a := 1) (b := 60) hG rfl rfl, Option.bind_some]
    dsimp only [zps]
    rw [t225_20 _ _ _ _ _ hG]
    by_cases c : x < 1 ∨ 60 < x
    · rw [if_pos c, if_pos c, if_neg (by decide)]
      exact ⟨M, rfl, rsm_rf⟩
    · obtain ⟨e1, e2, e3⟩ := of_range (x := x) (a := 1) (b := 60) (by omega) (by omega) c
      obtain ⟨M1, w1, w2, w3, w4, w5, w6⟩ := r211 (X := X) (d := d + 3) hG
      have loop : ∀ m i M1, i + m = 100 → zwk M M1 → kp M M1 → (∀ k, k < 18 → M1.1 461 k = M.1 461 k) → (∀ k, k < 4 → M1.1 462 k = M.1 462 k) → ∃ M', zR X (d + 6) 225 (34, [.ref 460, .int x, .int (-2), .int (Int32.ofNat (100 * i))], [], M1) = some (some (.int (pLst (emR M) (aR M) x.toNatClampNeg m i)), M') ∧ rsm M M' := by
        intro m
        induction m with
        | zero =>
          intro i M1 hi hf hk a1 a2
          rw [t225_34 _ _ _ _ (zwk_G hf hG), if_pos (by rw [show (9900 : Int32) = Int32.ofNat 9900 from rfl, of_lt (by omega) (by omega)]; omega)]
          exact ⟨M1, rfl, hf, a1, a2⟩
        | succ m ih =>
          intro i M1 hi hf hk a1 a2
          have hG1 := zwk_G hf hG
          have est0 : stR (nD (emR M)) M1 = aR M := kp_st hn4 a1 a2
          have hf1 : zwk M (zsI M1 461 0 (Int32.ofNat (100 * i))) := zwk_tr hf (zwk_s (zfs_I (i := 0) zfs_rf (by decide)))
          have est : stR (nD (emR M)) (zsI M1 461 0 (Int32.ofNat (100 * i))) = zu (aR M) 0 (Int32.ofNat (100 * i)) := by
            refine (stR_I (k := 0) (by decide)).trans ?_
            rw [est0]
          obtain ⟨M2, q1, q2, q3, q4, q5, q6, q7⟩ := r215w (X := X) (d := d) (k := x.toNatClampNeg) (q := qd) (K := M) (M := zsI M1 461 0 (Int32.ofNat (100 * i))) hM hf1 (by rw [est, zu_n (by decide)]; exact hA.1) (by rw [est, zu_n (by decide)]; exact hq2) (by omega) (by omega)
          have hk2 : kp M M2 := kp_w (kp_w hk (zI_n1 (by decide))) q3
          obtain ⟨M3, y1, y2, y3, y4, y5, y6⟩ := r212 (X := X) (d := d + 3) (K := M) (M := M2) (zwk_G q2 hG) q2 hk2
          rw [est, ← e1] at q1
          have hle := pDays_le (E := emR M) (A := zu (aR M) 0 (Int32.ofNat (100 * i))) (k := x.toNatClampNeg)
          have ex : (Int32.ofNat (pDays (emR M) (zu (aR M) 0 (Int32.ofNat (100 * i))) x.toNatClampNeg) = x) ↔ pDays (emR M) (zu (aR M) 0 (Int32.ofNat (100 * i))) x.toNatClampNeg = x.toNatClampNeg := of_eqx e1 (by omega) (by omega)
          rw [t225_34 _ _ _ _ hG1, if_neg (by rw [show (9900 : Int32) = Int32.ofNat 9900 from rfl, of_lt (by omega) (by omega)]; omega), if_neg (by decide), q1, Option.bind_some]
          dsimp only [zps]
          rw [t225_59 _ _ _ _ _ (zwk_G q2 hG), pLst, y1, Option.bind_some, Option.bind_some]
          dsimp only [zps]
          have hG3 := zwk_G y2 hG
          rw [t225_74 _ _ _ _ hG3, t225_74 _ _ _ _ hG3, show Int32.ofNat (100 * i) + 100 = Int32.ofNat (100 * (i + 1)) by rw [Nat.mul_add, Int32.ofNat_add]; rfl]
          by_cases c4 : pDays (emR M) (zu (aR M) 0 (Int32.ofNat (100 * i))) x.toNatClampNeg = x.toNatClampNeg
          · rw [if_neg (not_not_intro (ex.mpr c4)), if_pos c4, t225_34 _ _ _ _ hG3]
            refine ⟨M3, ?_, y2, y3, y4⟩
            by_cases c5 : 9900 < Int32.ofNat (100 * (i + 1))
            · rw [if_pos c5]
            · rw [if_neg c5, if_pos (ne_m2 (by omega))]
          · rw [if_pos (fun h => c4 (ex.mp h)), if_neg c4]
            exact ih (i + 1) M3 (by omega) y2 y6 y3 y4
      rw [if_neg c, if_neg c, if_pos (by decide), w1, Option.bind_some]
      dsimp only [zps]
      rw [t225_32 _ _ _ _ (zwk_G w2 hG)]
      exact loop 100 0 M1 (by omega) w2 w6 (fun k _ => by rw [w3]) (fun k _ => by rw [w4])
