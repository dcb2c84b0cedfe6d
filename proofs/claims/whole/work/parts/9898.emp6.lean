/-! ===== the reference's clauses, sort by sort ===== -/
theorem upT_s {tb : zTb} {c r v : Nat} : upT tb c r v c r = v := if_pos ⟨rfl, rfl⟩
theorem upT_z {tb : zTb} {c r v c' r' : Nat} (h1 : c' = c) (h2 : r' = r) : upT tb c r v c' r' = v := if_pos ⟨h1, h2⟩
theorem upT_n {tb : zTb} {c r v c' r' : Nat} (h : ¬ (c' = c ∧ r' = r)) : upT tb c r v c' r' = tb c' r' := if_neg h
def krR (s : Nat) : Nat := ([0, 1, 3, 4, 2] : List Nat).getD s 0
def r164R (X : (Nat → Int32) × Nat) (D : Nat) (t : zTx) (cn : Nat → Nat) (s : Nat) (M : zM) (r : Nat ⊕ (Nat × zTb)) : Prop := match r with
  | .inl f => ∃ M', zC X (D + 6) 164 [.ref 460, .int (Int32.ofNat (krR s))] M = some (none, M') ∧ nF M M' ∧ gX t f M'
  | .inr z => ∃ M' q, zC X (D + 6) 164 [.ref 460, .int (Int32.ofNat (krR s))] M = some (none, M') ∧ nF M M' ∧ gQ t q M' ∧ ken isB t q = z.1 ∧ rE (upC cn s) z.2 M'
theorem r164_1 {X : (Nat → Int32) × Nat} {D q0 p : Nat} {t : zTx} {cn : Nat → Nat} {tb : zTb} {M : zM} (h : gQ t q0 M) (hp : ken isB t q0 = p) (hE : rE cn tb M) (hcs : cn 1 < moE 1) : r164R X D t cn 1 M (pNmL t 1 (cn 1) (nuE 1) 0 p tb) := by
  have hm : moE 1 = 6 := rfl
  have hb : M.1 475 2 = Int32.ofNat (cn 1) := hE.1 1 (by omega) (by omega)
  have tb0 : (Int32.ofNat (cn 1)).toNatClampNeg = cn 1 := toNat_of (by omega)
  let Y1 : zO → Option zO := fun o => zR X (D + 6) 164 (81, [.ref 460, .int (Int32.ofNat 1), .int (Int32.ofNat (cn 1))], zps o.1 [.int (Int32.ofNat (cn 1)), .ref 476], o.2)
  let Y2 : zO → Option zO := fun o => zR X (D + 6) 164 (94, [.ref 460, .int (Int32.ofNat 1), .int (Int32.ofNat (cn 1))], zps o.1 [.int (Int32.ofNat (cn 1)), .ref 477], o.2)
  let Y3 : zO → Option zO := fun o => zR X (D + 6) 164 (107, [.ref 460, .int (Int32.ofNat 1), .int (Int32.ofNat (cn 1))], zps o.1 [.int (Int32.ofNat (cn 1)), .ref 478], o.2)
  let W1 : zM → Option zO := fun K => (zC X (D + 1 + 4) 161 [.ref 460, .int (Int32.ofNat (loE (3 * 1 + 1))), .int (Int32.ofNat (hiE (3 * 1 + 1)))] K).bind Y2
  let W2 : zM → Option zO := fun K => (zC X (D + 1 + 4) 161 [.ref 460, .int (Int32.ofNat (loE (3 * 1 + 2))), .int (Int32.ofNat (hiE (3 * 1 + 2)))] K).bind Y3
  let W3 : zM → Option zO := fun K => some (none, zsI K 475 2 (K.1 475 2 + 1))
  have e0 : zC X (D + 6) 164 [.ref 460, .int (Int32.ofNat (krR 1))] M = (zC X (D + 1 + 4) 161 [.ref 460, .int (Int32.ofNat (loE (3 * 1 + 0))), .int (Int32.ofNat (hiE (3 * 1 + 0)))] M).bind Y1 := by
    show zR X (D + 6) 164 (0, [.ref 460, .int (Int32.ofNat 1), zjk], [], M) = _
    rw [t164_0 _ _ _ h.1.1, show zsw 1 228 0 3 #[31, 61, 120, 167] (Int32.ofNat 1) = 62 from rfl, t164_62 _ _ _ h.1.1, hb]
    rfl
  have vq : ∀ c, zln c = 6 → vp_in (Int32.ofNat (cn 1)) (zln c) := fun c hc => by rw [hc]; exact vp_of (by omega) (by omega)
  have y1 : ∀ v K, zGE K → Y1 (some (.int v), K) = W1 (zsI K 476 (cn 1) v) := fun v K hK => by
    show zR X (D + 6) 164 (81, _, [.int v, .int (Int32.ofNat (cn 1)), .ref 476], K) = _
    rw [t164_81 _ _ _ _ _ _ hK (zis_q hK zq_476) (vq 476 zl_476), tb0]
    rfl
  have y2 : ∀ v K, zGE K → Y2 (some (.int v), K) = W2 (zsI K 477 (cn 1) v) := fun v K hK => by
    show zR X (D + 6) 164 (94, _, [.int v, .int (Int32.ofNat (cn 1)), .ref 477], K) = _
    rw [t164_94 _ _ _ _ _ _ hK (zis_q hK zq_477) (vq 477 zl_477), tb0]
    rfl
  have y3 : ∀ v K, zGE K → Y3 (some (.int v), K) = W3 (zsI K 478 (cn 1) v) := fun v K hK => by
    show zR X (D + 6) 164 (107, _, [.int v, .int (Int32.ofNat (cn 1)), .ref 478], K) = _
    rw [t164_107 _ _ _ _ _ _ hK (zis_q hK zq_478) (vq 478 zl_478), tb0]
  rcases stp (X := X) (d := D + 1) (s := 1) (i := 0) (r := cn 1) h hp (by omega) (by omega) (by omega) y1 with ⟨f, M1, w1, w2, w3, w4⟩ | ⟨M1, q1, w1, w2, wc, w3, w4, w5⟩
  · rw [show pNmL t 1 (cn 1) (nuE 1) 0 p tb = _ from w4 2 tb]
    obtain ⟨M2, x1, x2, x3⟩ := stpx (X := X) (d := D + 1) (lo := Int32.ofNat (loE (3 * 1 + 1))) (hi := Int32.ofNat (hiE (3 * 1 + 1))) w3 (show 475 ≤ 477 ∧ 477 ≤ 484 by omega) y2
    obtain ⟨M3, z1, z2, z3⟩ := stpx (X := X) (d := D + 1) (lo := Int32.ofNat (loE (3 * 1 + 2))) (hi := Int32.ofNat (hiE (3 * 1 + 2))) x3 (show 475 ≤ 478 ∧ 478 ≤ 484 by omega) y3
    exact ⟨zsI M3 475 2 (M3.1 475 2 + 1), e0.trans (w1.trans (x1.trans z1)), nF_t w2 (nF_t x2 (nF_t z2 (nF_I (by omega)))), gX_I z3 (by omega)⟩
  · rw [show pNmL t 1 (cn 1) (nuE 1) 0 p tb = _ from w5 2 tb]
    rcases stp (X := X) (d := D + 1) (s := 1) (i := 1) (r := cn 1) w3 w4 (by omega) (by omega) (by omega) y2 with ⟨f, M2, x1, x2, x3, x4⟩ | ⟨M2, q2, x1, x2, xc, x3, x4, x5⟩
    · rw [show pNmL t 1 (cn 1) 2 (0 + 1) (kA t p) _ = _ from x4 1 _]
      obtain ⟨M3, z1, z2, z3⟩ := stpx (X := X) (d := D + 1) (lo := Int32.ofNat (loE (3 * 1 + 2))) (hi := Int32.ofNat (hiE (3 * 1 + 2))) x3 (show 475 ≤ 478 ∧ 478 ≤ 484 by omega) y3
      exact ⟨zsI M3 475 2 (M3.1 475 2 + 1), e0.trans (w1.trans (x1.trans z1)), nF_t w2 (nF_t x2 (nF_t z2 (nF_I (by omega)))), gX_I z3 (by omega)⟩
    · rw [show pNmL t 1 (cn 1) 2 (0 + 1) (kA t p) _ = _ from x5 1 _]
      rcases stp (X := X) (d := D + 1) (s := 1) (i := 2) (r := cn 1) x3 x4 (by omega) (by omega) (by omega) y3 with ⟨f, M3, z1, z2, z3, z4⟩ | ⟨M3, q3, z1, z2, zc, z3, z4, z5⟩
      · rw [show pNmL t 1 (cn 1) 1 (1 + 1) (kA t (kA t p)) _ = _ from z4 0 _]
        exact ⟨zsI M3 475 2 (M3.1 475 2 + 1), e0.trans (w1.trans (x1.trans z1)), nF_t w2 (nF_t x2 (nF_t z2 (nF_I (by omega)))), gX_I z3 (by omega)⟩
      · rw [show pNmL t 1 (cn 1) 1 (1 + 1) (kA t (kA t p)) _ = _ from z5 0 _, pNmL]
        refine ⟨zsI M3 475 2 (M3.1 475 2 + 1), q3, e0.trans (w1.trans (x1.trans z1)), nF_t w2 (nF_t x2 (nF_t z2 (nF_I (by omega)))), gQ_I z3 (by omega), z4, rE_s (by omega) hE (by omega) (fun i hi => ?_) (fun i k hi hk => ?_) (fun a k a1 a2 hne => ?_) (fun k => ?_) (fun c r hn => ?_)⟩
        · have hi : i < 3 := hi
          rcases (show i = 0 ∨ i = 1 ∨ i = 2 by omega) with rfl | rfl | rfl
          · show (zsI M3 475 2 (M3.1 475 2 + 1)).1 476 (cn 1) = _
            rw [zI_n (by omega), zc _ _ (by omega) (by omega), if_neg (by omega), xc _ _ (by omega) (by omega), if_neg (by omega), wc _ _ (by omega) (by omega), if_pos ⟨rfl, rfl⟩]
            try dsimp only
            rw [upT_n (by omega), upT_n (by omega), upT_s]
          · show (zsI M3 475 2 (M3.1 475 2 + 1)).1 477 (cn 1) = _
            rw [zI_n (by omega), zc _ _ (by omega) (by omega), if_neg (by omega), xc _ _ (by omega) (by omega), if_pos ⟨rfl, rfl⟩]
            try dsimp only
            rw [upT_n (by omega), upT_s]
          · show (zsI M3 475 2 (M3.1 475 2 + 1)).1 478 (cn 1) = _
            rw [zI_n (by omega), zc _ _ (by omega) (by omega), if_pos ⟨rfl, rfl⟩]
            try dsimp only
            rw [upT_s]
        · have hi : i < 3 := hi
          rcases (show i = 0 ∨ i = 1 ∨ i = 2 by omega) with rfl | rfl | rfl
          · show (zsI M3 475 2 (M3.1 475 2 + 1)).1 476 k = M.1 476 k
            rw [zI_n (by omega), zc _ _ (by omega) (by omega), if_neg (by omega), xc _ _ (by omega) (by omega), if_neg (by omega), wc _ _ (by omega) (by omega), if_neg (fun g => hk g.2)]
          · show (zsI M3 475 2 (M3.1 475 2 + 1)).1 477 k = M.1 477 k
            rw [zI_n (by omega), zc _ _ (by omega) (by omega), if_neg (by omega), xc _ _ (by omega) (by omega), if_neg (fun g => hk g.2), wc _ _ (by omega) (by omega), if_neg (by omega)]
          · show (zsI M3 475 2 (M3.1 475 2 + 1)).1 478 k = M.1 478 k
            rw [zI_n (by omega), zc _ _ (by omega) (by omega), if_neg (fun g => hk g.2), xc _ _ (by omega) (by omega), if_neg (by omega), wc _ _ (by omega) (by omega), if_neg (by omega)]
        · have n1 : a ≠ 476 := hne 0 (by decide)
          have n2 : a ≠ 477 := hne 1 (by decide)
          have n3 : a ≠ 478 := hne 2 (by decide)
          rw [zI_n (by omega), zc _ _ (by omega) (by omega), if_neg (fun g => n3 g.1), xc _ _ (by omega) (by omega), if_neg (fun g => n2 g.1), wc _ _ (by omega) (by omega), if_neg (fun g => n1 g.1)]
        · have o : ∀ k, M3.1 475 k = M.1 475 k := fun k => by rw [zc _ _ (by omega) (by omega), if_neg (by omega), xc _ _ (by omega) (by omega), if_neg (by omega), wc _ _ (by omega) (by omega), if_neg (by omega)]
          rw [zI_s, o, o, hb, of_succ]
          rfl
        · try dsimp only
          rw [upT_n (by omega), upT_n (by omega), upT_n (by omega)]
theorem r164_2 {X : (Nat → Int32) × Nat} {D q0 p : Nat} {t : zTx} {cn : Nat → Nat} {tb : zTb} {M : zM} (h : gQ t q0 M) (hp : ken isB t q0 = p) (hE : rE cn tb M) (hcs : cn 2 < moE 2) : r164R X D t cn 2 M (pNmL t 2 (cn 2) (nuE 2) 0 p tb) := by
  have hm : moE 2 = 4 := rfl
  have hb : M.1 475 4 = Int32.ofNat (cn 2) := hE.1 2 (by omega) (by omega)
  have tb0 : (Int32.ofNat (cn 2)).toNatClampNeg = cn 2 := toNat_of (by omega)
  let Y1 : zO → Option zO := fun o => zR X (D + 6) 164 (187, [.ref 460, .int (Int32.ofNat 3), .int (Int32.ofNat (cn 2))], zps o.1 [.int (Int32.ofNat (cn 2)), .ref 481], o.2)
  let Y2 : zO → Option zO := fun o => zR X (D + 6) 164 (201, [.ref 460, .int (Int32.ofNat 3), .int (Int32.ofNat (cn 2))], zps o.1 [.int (Int32.ofNat (cn 2)), .ref 482], o.2)
  let Y3 : zO → Option zO := fun o => zR X (D + 6) 164 (215, [.ref 460, .int (Int32.ofNat 3), .int (Int32.ofNat (cn 2))], zps o.1 [.int (Int32.ofNat (cn 2)), .ref 483], o.2)
  let W1 : zM → Option zO := fun K => (zC X (D + 1 + 4) 161 [.ref 460, .int (Int32.ofNat (loE (3 * 2 + 1))), .int (Int32.ofNat (hiE (3 * 2 + 1)))] K).bind Y2
  let W2 : zM → Option zO := fun K => (zC X (D + 1 + 4) 161 [.ref 460, .int (Int32.ofNat (loE (3 * 2 + 2))), .int (Int32.ofNat (hiE (3 * 2 + 2)))] K).bind Y3
  let W3 : zM → Option zO := fun K => some (none, zsI K 475 4 (K.1 475 4 + 1))
  have e0 : zC X (D + 6) 164 [.ref 460, .int (Int32.ofNat (krR 2))] M = (zC X (D + 1 + 4) 161 [.ref 460, .int (Int32.ofNat (loE (3 * 2 + 0))), .int (Int32.ofNat (hiE (3 * 2 + 0)))] M).bind Y1 := by
    show zR X (D + 6) 164 (0, [.ref 460, .int (Int32.ofNat 3), zjk], [], M) = _
    rw [t164_0 _ _ _ h.1.1, show zsw 1 228 0 3 #[31, 61, 120, 167] (Int32.ofNat 3) = 168 from rfl, t164_168 _ _ _ h.1.1, hb]
    rfl
  have vq : ∀ c, zln c = 4 → vp_in (Int32.ofNat (cn 2)) (zln c) := fun c hc => by rw [hc]; exact vp_of (by omega) (by omega)
  have y1 : ∀ v K, zGE K → Y1 (some (.int v), K) = W1 (zsI K 481 (cn 2) v) := fun v K hK => by
    show zR X (D + 6) 164 (187, _, [.int v, .int (Int32.ofNat (cn 2)), .ref 481], K) = _
    rw [t164_187 _ _ _ _ _ _ hK (zis_q hK zq_481) (vq 481 zl_481), tb0]
    rfl
  have y2 : ∀ v K, zGE K → Y2 (some (.int v), K) = W2 (zsI K 482 (cn 2) v) := fun v K hK => by
    show zR X (D + 6) 164 (201, _, [.int v, .int (Int32.ofNat (cn 2)), .ref 482], K) = _
    rw [t164_201 _ _ _ _ _ _ hK (zis_q hK zq_482) (vq 482 zl_482), tb0]
    rfl
  have y3 : ∀ v K, zGE K → Y3 (some (.int v), K) = W3 (zsI K 483 (cn 2) v) := fun v K hK => by
    show zR X (D + 6) 164 (215, _, [.int v, .int (Int32.ofNat (cn 2)), .ref 483], K) = _
    rw [t164_215 _ _ _ _ _ _ hK (zis_q hK zq_483) (vq 483 zl_483), tb0]
  rcases stp (X := X) (d := D + 1) (s := 2) (i := 0) (r := cn 2) h hp (by omega) (by omega) (by omega) y1 with ⟨f, M1, w1, w2, w3, w4⟩ | ⟨M1, q1, w1, w2, wc, w3, w4, w5⟩
  · rw [show pNmL t 2 (cn 2) (nuE 2) 0 p tb = _ from w4 2 tb]
    obtain ⟨M2, x1, x2, x3⟩ := stpx (X := X) (d := D + 1) (lo := Int32.ofNat (loE (3 * 2 + 1))) (hi := Int32.ofNat (hiE (3 * 2 + 1))) w3 (show 475 ≤ 482 ∧ 482 ≤ 484 by omega) y2
    obtain ⟨M3, z1, z2, z3⟩ := stpx (X := X) (d := D + 1) (lo := Int32.ofNat (loE (3 * 2 + 2))) (hi := Int32.ofNat (hiE (3 * 2 + 2))) x3 (show 475 ≤ 483 ∧ 483 ≤ 484 by omega) y3
    exact ⟨zsI M3 475 4 (M3.1 475 4 + 1), e0.trans (w1.trans (x1.trans z1)), nF_t w2 (nF_t x2 (nF_t z2 (nF_I (by omega)))), gX_I z3 (by omega)⟩
  · rw [show pNmL t 2 (cn 2) (nuE 2) 0 p tb = _ from w5 2 tb]
    rcases stp (X := X) (d := D + 1) (s := 2) (i := 1) (r := cn 2) w3 w4 (by omega) (by omega) (by omega) y2 with ⟨f, M2, x1, x2, x3, x4⟩ | ⟨M2, q2, x1, x2, xc, x3, x4, x5⟩
    · rw [show pNmL t 2 (cn 2) 2 (0 + 1) (kA t p) _ = _ from x4 1 _]
      obtain ⟨M3, z1, z2, z3⟩ := stpx (X := X) (d := D + 1) (lo := Int32.ofNat (loE (3 * 2 + 2))) (hi := Int32.ofNat (hiE (3 * 2 + 2))) x3 (show 475 ≤ 483 ∧ 483 ≤ 484 by omega) y3
      exact ⟨zsI M3 475 4 (M3.1 475 4 + 1), e0.trans (w1.trans (x1.trans z1)), nF_t w2 (nF_t x2 (nF_t z2 (nF_I (by omega)))), gX_I z3 (by omega)⟩
    · rw [show pNmL t 2 (cn 2) 2 (0 + 1) (kA t p) _ = _ from x5 1 _]
      rcases stp (X := X) (d := D + 1) (s := 2) (i := 2) (r := cn 2) x3 x4 (by omega) (by omega) (by omega) y3 with ⟨f, M3, z1, z2, z3, z4⟩ | ⟨M3, q3, z1, z2, zc, z3, z4, z5⟩
      · rw [show pNmL t 2 (cn 2) 1 (1 + 1) (kA t (kA t p)) _ = _ from z4 0 _]
        exact ⟨zsI M3 475 4 (M3.1 475 4 + 1), e0.trans (w1.trans (x1.trans z1)), nF_t w2 (nF_t x2 (nF_t z2 (nF_I (by omega)))), gX_I z3 (by omega)⟩
      · rw [show pNmL t 2 (cn 2) 1 (1 + 1) (kA t (kA t p)) _ = _ from z5 0 _, pNmL]
        refine ⟨zsI M3 475 4 (M3.1 475 4 + 1), q3, e0.trans (w1.trans (x1.trans z1)), nF_t w2 (nF_t x2 (nF_t z2 (nF_I (by omega)))), gQ_I z3 (by omega), z4, rE_s (by omega) hE (by omega) (fun i hi => ?_) (fun i k hi hk => ?_) (fun a k a1 a2 hne => ?_) (fun k => ?_) (fun c r hn => ?_)⟩
        · have hi : i < 3 := hi
          rcases (show i = 0 ∨ i = 1 ∨ i = 2 by omega) with rfl | rfl | rfl
          · show (zsI M3 475 4 (M3.1 475 4 + 1)).1 481 (cn 2) = _
            rw [zI_n (by omega), zc _ _ (by omega) (by omega), if_neg (by omega), xc _ _ (by omega) (by omega), if_neg (by omega), wc _ _ (by omega) (by omega), if_pos ⟨rfl, rfl⟩]
            try dsimp only
            rw [upT_n (by omega), upT_n (by omega), upT_s]
          · show (zsI M3 475 4 (M3.1 475 4 + 1)).1 482 (cn 2) = _
            rw [zI_n (by omega), zc _ _ (by omega) (by omega), if_neg (by omega), xc _ _ (by omega) (by omega), if_pos ⟨rfl, rfl⟩]
            try dsimp only
            rw [upT_n (by omega), upT_s]
          · show (zsI M3 475 4 (M3.1 475 4 + 1)).1 483 (cn 2) = _
            rw [zI_n (by omega), zc _ _ (by omega) (by omega), if_pos ⟨rfl, rfl⟩]
            try dsimp only
            rw [upT_s]
        · have hi : i < 3 := hi
          rcases (show i = 0 ∨ i = 1 ∨ i = 2 by omega) with rfl | rfl | rfl
          · show (zsI M3 475 4 (M3.1 475 4 + 1)).1 481 k = M.1 481 k
            rw [zI_n (by omega), zc _ _ (by omega) (by omega), if_neg (by omega), xc _ _ (by omega) (by omega), if_neg (by omega), wc _ _ (by omega) (by omega), if_neg (fun g => hk g.2)]
          · show (zsI M3 475 4 (M3.1 475 4 + 1)).1 482 k = M.1 482 k
            rw [zI_n (by omega), zc _ _ (by omega) (by omega), if_neg (by omega), xc _ _ (by omega) (by omega), if_neg (fun g => hk g.2), wc _ _ (by omega) (by omega), if_neg (by omega)]
          · show (zsI M3 475 4 (M3.1 475 4 + 1)).1 483 k = M.1 483 k
            rw [zI_n (by omega), zc _ _ (by omega) (by omega), if_neg (fun g => hk g.2), xc _ _ (by omega) (by omega), if_neg (by omega), wc _ _ (by omega) (by omega), if_neg (by omega)]
        · have n1 : a ≠ 481 := hne 0 (by decide)
          have n2 : a ≠ 482 := hne 1 (by decide)
          have n3 : a ≠ 483 := hne 2 (by decide)
          rw [zI_n (by omega), zc _ _ (by omega) (by omega), if_neg (fun g => n3 g.1), xc _ _ (by omega) (by omega), if_neg (fun g => n2 g.1), wc _ _ (by omega) (by omega), if_neg (fun g => n1 g.1)]
        · have o : ∀ k, M3.1 475 k = M.1 475 k := fun k => by rw [zc _ _ (by omega) (by omega), if_neg (by omega), xc _ _ (by omega) (by omega), if_neg (by omega), wc _ _ (by omega) (by omega), if_neg (by omega)]
          rw [zI_s, o, o, hb, of_succ]
          rfl
        · try dsimp only
          rw [upT_n (by omega), upT_n (by omega), upT_n (by omega)]
theorem r164_4 {X : (Nat → Int32) × Nat} {D q0 p : Nat} {t : zTx} {cn : Nat → Nat} {tb : zTb} {M : zM} (h : gQ t q0 M) (hp : ken isB t q0 = p) (hE : rE cn tb M) (hcs : cn 4 < moE 4) : r164R X D t cn 4 M (pNmL t 4 (cn 4) (nuE 4) 0 p tb) := by
  have hm : moE 4 = 4 := rfl
  have hb : M.1 475 3 = Int32.ofNat (cn 4) := hE.1 4 (by omega) (by omega)
  have tb0 : (Int32.ofNat (cn 4)).toNatClampNeg = cn 4 := toNat_of (by omega)
  have vq : ∀ c, zln c = 4 → vp_in (Int32.ofNat (cn 4)) (zln c) := fun c hc => by rw [hc]; exact vp_of (by omega) (by omega)
  let Y1 : zO → Option zO := fun o => zR X (D + 6) 164 (141, [.ref 460, .int (Int32.ofNat 2), .int (Int32.ofNat (cn 4))], zps o.1 [.int (Int32.ofNat (cn 4)), .ref 479], o.2)
  let Y2 : zO → Option zO := fun o => zR X (D + 6) 164 (154, [.ref 460, .int (Int32.ofNat 2), .int (Int32.ofNat (cn 4))], zps o.1 [.int (Int32.ofNat (cn 4)), .ref 480], o.2)
  let W1 : zM → Option zO := fun K => (zC X (D + 1 + 4) 161 [.ref 460, .int (Int32.ofNat (loE (3 * 4 + 1))), .int (Int32.ofNat (hiE (3 * 4 + 1)))] K).bind Y2
  let W2 : zM → Option zO := fun K => some (none, zsI K 475 3 (K.1 475 3 + 1))
  have e0 : zC X (D + 6) 164 [.ref 460, .int (Int32.ofNat (krR 4))] M = (zC X (D + 1 + 4) 161 [.ref 460, .int (Int32.ofNat (loE (3 * 4 + 0))), .int (Int32.ofNat (hiE (3 * 4 + 0)))] M).bind Y1 := by
    show zR X (D + 6) 164 (0, [.ref 460, .int (Int32.ofNat 2), zjk], [], M) = _
    rw [t164_0 _ _ _ h.1.1, show zsw 1 228 0 3 #[31, 61, 120, 167] (Int32.ofNat 2) = 121 from rfl, t164_121 _ _ _ h.1.1, hb]
    rfl
  have y1 : ∀ v K, zGE K → Y1 (some (.int v), K) = W1 (zsI K 479 (cn 4) v) := fun v K hK => by
    show zR X (D + 6) 164 (141, _, [.int v, .int (Int32.ofNat (cn 4)), .ref 479], K) = _
    rw [t164_141 _ _ _ _ _ _ hK (zis_q hK zq_479) (vq 479 zl_479), tb0]
    rfl
  have y2 : ∀ v K, zGE K → Y2 (some (.int v), K) = W2 (zsI K 480 (cn 4) v) := fun v K hK => by
    show zR X (D + 6) 164 (154, _, [.int v, .int (Int32.ofNat (cn 4)), .ref 480], K) = _
    rw [t164_154 _ _ _ _ _ _ hK (zis_q hK zq_480) (vq 480 zl_480), tb0]
  rcases stp (X := X) (d := D + 1) (s := 4) (i := 0) (r := cn 4) h hp (by omega) (by omega) (by omega) y1 with ⟨f, M1, w1, w2, w3, w4⟩ | ⟨M1, q1, w1, w2, wc, w3, w4, w5⟩
  · rw [show pNmL t 4 (cn 4) (nuE 4) 0 p tb = _ from w4 1 tb]
    obtain ⟨M2, x1, x2, x3⟩ := stpx (X := X) (d := D + 1) (lo := Int32.ofNat (loE (3 * 4 + 1))) (hi := Int32.ofNat (hiE (3 * 4 + 1))) w3 (show 475 ≤ 480 ∧ 480 ≤ 484 by omega) y2
    exact ⟨zsI M2 475 3 (M2.1 475 3 + 1), e0.trans (w1.trans x1), nF_t w2 (nF_t x2 (nF_I (by omega))), gX_I x3 (by omega)⟩
  · rw [show pNmL t 4 (cn 4) (nuE 4) 0 p tb = _ from w5 1 tb]
    rcases stp (X := X) (d := D + 1) (s := 4) (i := 1) (r := cn 4) w3 w4 (by omega) (by omega) (by omega) y2 with ⟨f, M2, x1, x2, x3, x4⟩ | ⟨M2, q2, x1, x2, xc, x3, x4, x5⟩
    · rw [show pNmL t 4 (cn 4) 1 (0 + 1) (kA t p) _ = _ from x4 0 _]
      exact ⟨zsI M2 475 3 (M2.1 475 3 + 1), e0.trans (w1.trans x1), nF_t w2 (nF_t x2 (nF_I (by omega))), gX_I x3 (by omega)⟩
    · rw [show pNmL t 4 (cn 4) 1 (0 + 1) (kA t p) _ = _ from x5 0 _, pNmL]
      refine ⟨zsI M2 475 3 (M2.1 475 3 + 1), q2, e0.trans (w1.trans x1), nF_t w2 (nF_t x2 (nF_I (by omega))), gQ_I x3 (by omega), x4, rE_s (by omega) hE (by omega) (fun i hi => ?_) (fun i k hi hk => ?_) (fun a k a1 a2 hne => ?_) (fun k => ?_) (fun c r hn => ?_)⟩
      · have hi : i < 2 := hi
        rcases (show i = 0 ∨ i = 1 by omega) with rfl | rfl
        · show (zsI M2 475 3 (M2.1 475 3 + 1)).1 479 (cn 4) = _
          rw [zI_n (by omega), xc _ _ (by omega) (by omega), if_neg (by omega), wc _ _ (by omega) (by omega), if_pos ⟨rfl, rfl⟩]
          try dsimp only
          rw [upT_n (by omega), upT_s]
        · show (zsI M2 475 3 (M2.1 475 3 + 1)).1 480 (cn 4) = _
          rw [zI_n (by omega), xc _ _ (by omega) (by omega), if_pos ⟨rfl, rfl⟩]
          try dsimp only
          rw [upT_s]
      · have hi : i < 2 := hi
        rcases (show i = 0 ∨ i = 1 by omega) with rfl | rfl
        · show (zsI M2 475 3 (M2.1 475 3 + 1)).1 479 k = M.1 479 k
          rw [zI_n (by omega), xc _ _ (by omega) (by omega), if_neg (by omega), wc _ _ (by omega) (by omega), if_neg (fun g => hk g.2)]
        · show (zsI M2 475 3 (M2.1 475 3 + 1)).1 480 k = M.1 480 k
          rw [zI_n (by omega), xc _ _ (by omega) (by omega), if_neg (fun g => hk g.2), wc _ _ (by omega) (by omega), if_neg (by omega)]
      · have n1 : a ≠ 479 := hne 0 (by decide)
        have n2 : a ≠ 480 := hne 1 (by decide)
        rw [zI_n (by omega), xc _ _ (by omega) (by omega), if_neg (fun g => n2 g.1), wc _ _ (by omega) (by omega), if_neg (fun g => n1 g.1)]
      · have o : ∀ k, M2.1 475 k = M.1 475 k := fun k => by rw [xc _ _ (by omega) (by omega), if_neg (by omega), wc _ _ (by omega) (by omega), if_neg (by omega)]
        rw [zI_s, o, o, hb, of_succ]
        rfl
      · try dsimp only
        rw [upT_n (by omega), upT_n (by omega)]
theorem r164_0 {X : (Nat → Int32) × Nat} {D q0 p : Nat} {t : zTx} {cn : Nat → Nat} {tb : zTb} {M : zM} (h : gQ t q0 M) (hp : ken isB t q0 = p) (hE : rE cn tb M) (hcs : cn 0 < moE 0) : r164R X D t cn 0 M (pNmL t 0 (cn 0) (nuE 0) 0 p tb) := by
  have hm : moE 0 = 1 := rfl
  have c00 : cn 0 = 0 := by omega
  let Y1 : zO → Option zO := fun o => zR X (D + 6) 164 (45, [.ref 460, .int (Int32.ofNat 0), zjk], zps o.1 [.int (0), .ref 475], o.2)
  let Y2 : zO → Option zO := fun o => zR X (D + 6) 164 (58, [.ref 460, .int (Int32.ofNat 0), zjk], zps o.1 [.int (1), .ref 475], o.2)
  let W1 : zM → Option zO := fun K => (zC X (D + 1 + 4) 161 [.ref 460, .int (Int32.ofNat (loE (3 * 0 + 1))), .int (Int32.ofNat (hiE (3 * 0 + 1)))] K).bind Y2
  let W2 : zM → Option zO := fun K => some (none, K)
  have e0 : zC X (D + 6) 164 [.ref 460, .int (Int32.ofNat (krR 0))] M = (zC X (D + 1 + 4) 161 [.ref 460, .int (Int32.ofNat (loE (3 * 0 + 0))), .int (Int32.ofNat (hiE (3 * 0 + 0)))] M).bind Y1 := by
    show zR X (D + 6) 164 (0, [.ref 460, .int (Int32.ofNat 0), zjk], [], M) = _
    rw [t164_0 _ _ _ h.1.1, show zsw 1 228 0 3 #[31, 61, 120, 167] (Int32.ofNat 0) = 32 from rfl, t164_32 _ _ _ h.1.1]
    rfl
  have y1 : ∀ v K, zGE K → Y1 (some (.int v), K) = W1 (zsI K 475 0 v) := fun v K hK => by
    show zR X (D + 6) 164 (45, _, [.int v, .int (0), .ref 475], K) = _
    rw [t164_45 _ _ _ _ _ _ hK (zis_q hK zq_475) (by rw [zl_475]; exact vp_of (k := 0) (by omega) (by omega)), show (0 : Int32).toNatClampNeg = 0 from rfl]
    rfl
  have y2 : ∀ v K, zGE K → Y2 (some (.int v), K) = W2 (zsI K 475 1 v) := fun v K hK => by
    show zR X (D + 6) 164 (58, _, [.int v, .int (1), .ref 475], K) = _
    rw [t164_58 _ _ _ _ _ _ hK (zis_q hK zq_475) (by rw [zl_475]; exact vp_of (k := 1) (by omega) (by omega)), show (1 : Int32).toNatClampNeg = 1 from rfl]
  rcases stp (X := X) (d := D + 1) (s := 0) (i := 0) (r := cn 0) h hp (by omega) (by omega) (by omega) y1 with ⟨f, M1, w1, w2, w3, w4⟩ | ⟨M1, q1, w1, w2, wc, w3, w4, w5⟩
  · rw [show pNmL t 0 (cn 0) (nuE 0) 0 p tb = _ from w4 1 tb]
    obtain ⟨M2, x1, x2, x3⟩ := stpx (X := X) (d := D + 1) (lo := Int32.ofNat (loE (3 * 0 + 1))) (hi := Int32.ofNat (hiE (3 * 0 + 1))) w3 (show 475 ≤ 475 ∧ 475 ≤ 484 by omega) y2
    exact ⟨M2, e0.trans (w1.trans x1), nF_t w2 x2, x3⟩
  · rw [show pNmL t 0 (cn 0) (nuE 0) 0 p tb = _ from w5 1 tb]
    rcases stp (X := X) (d := D + 1) (s := 0) (i := 1) (r := cn 0) w3 w4 (by omega) (by omega) (by omega) y2 with ⟨f, M2, x1, x2, x3, x4⟩ | ⟨M2, q2, x1, x2, xc, x3, x4, x5⟩
    · rw [show pNmL t 0 (cn 0) 1 (0 + 1) (kA t p) _ = _ from x4 0 _]
      exact ⟨M2, e0.trans (w1.trans x1), nF_t w2 x2, x3⟩
    · rw [show pNmL t 0 (cn 0) 1 (0 + 1) (kA t p) _ = _ from x5 0 _, pNmL]
      obtain ⟨h1, h2, h3, h4⟩ := hE
      have o : ∀ a k, 475 ≤ a → a ≤ 484 → ¬ (a = 475 ∧ k < 2) → M2.1 a k = M.1 a k := fun a k a1 a2 hk => by rw [xc _ _ a1 a2, if_neg (by omega), wc _ _ a1 a2, if_neg (by omega)]
      have ub : ∀ c r, 2 ≤ c → upT (upT tb (3 * 0 + 0) (cn 0) (dvl t p)) (3 * 0 + (0 + 1)) (cn 0) (dvl t (kA t p)) c r = tb c r := fun c r hc => by
        rw [upT_n (by omega), upT_n (by omega)]
      refine ⟨M2, q2, e0.trans (w1.trans x1), nF_t w2 x2, x3, x4, fun s' q1 q2 => ?_, fun _ => ⟨?_, ?_⟩, fun s' i r hs' hi hr => ?_, fun a b ha hb => ?_⟩
      · have ci2 : ∀ s, s < 5 → 1 ≤ s → 2 ≤ ciR s := by decide
        have := ci2 s' q2 q1
        show M2.1 475 (ciR s') = Int32.ofNat (if s' = 0 then cn 0 + 1 else cn s')
        rw [if_neg (by omega), o _ _ (by omega) (by omega) (by omega)]
        exact h1 s' q1 q2
      · rw [xc _ _ (by omega) (by omega), if_neg (by omega), wc _ _ (by omega) (by omega), if_pos ⟨rfl, rfl⟩]
        try dsimp only
        rw [upT_n (by omega), upT_z rfl (by omega)]
      · rw [xc _ _ (by omega) (by omega), if_pos ⟨rfl, rfl⟩]
        try dsimp only
        rw [upT_z rfl (by omega)]
      · have hr : r < (if s' = 0 then cn 0 + 1 else cn s') := hr
        rw [if_neg (by omega)] at hr
        have co4 : ∀ s, s < 5 → ∀ i, i < 3 → (s = 1 ∨ s = 2 ∨ s = 4) → i < nuE s → 476 ≤ coR (3 * s + i) ∧ coR (3 * s + i) ≤ 483 := by decide
        have := co4 s' (by omega) i (by have := nuE_3 s' (by omega); omega) hs' hi
        show M2.1 (coR (3 * s' + i)) r = Int32.ofNat (upT _ _ _ _ (3 * s' + i) r)
        rw [ub _ _ (by omega), o _ _ (by omega) (by omega) (by omega)]
        exact h3 s' i r hs' hi hr
      · show M2.1 484 (8 * a + b) = Int32.ofNat (rwQ (upT (upT tb (3 * 0 + 0) (cn 0) (dvl t p)) (3 * 0 + (0 + 1)) (cn 0) (dvl t (kA t p))) a b (if 3 = 0 then cn 0 + 1 else cn 3))
        rw [if_neg (by omega), o _ _ (by omega) (by omega) (by omega), h4 a b ha hb, rwQ_c (tb := tb) (cn 3) (fun i _ => ⟨ub _ _ (by omega), ub _ _ (by omega), ub _ _ (by omega)⟩)]
