/-! ===== count, end, feed ===== -/
theorem o_count {X : (Nat → Int32) × Nat} {d : Nat} {x : Int32} {M : zM} (hI : INV M) : zOp2 X (d + 10) 130 237 [.int x] M := by
  have hG := hI.1
  obtain ⟨p, p1, p2, p3, p4⟩ := INV_p hI
  obtain ⟨rl, g, i, x0, hc⟩ := INV_cx hI
  obtain ⟨q1, q2, q3, q4, q5, q6, q7, q8, q9, q10, q11, q12, q13, q14, q15, q16, q17, q18, q19, q20, q21⟩ := id hc
  have j1 : M.1 44 0 = M.1 461 1 := by
    obtain ⟨-, -, rl, -, -, -, ⟨-, -, -, -, j, -⟩, -⟩ := hI
    exact j
  obtain ⟨L, L1, L2, L3, -⟩ := hI.2.1.1
  have hD := s130 (X := X) (d := d + 8) (x := x) hG (by rw [q6]; exact q2.2.1)
  have hR := r237 (X := X) (d := d + 8) (x := x) hG q2.2.1
  have f : ∀ k, k < 10 → M.1 67 k = aR M k := fun k hk => by
    rw [← q7]
    exact (stD_f hk).symm
  have e : ∀ k, 0 < k → k < 5 → M.1 41 k = emR M 0 k := fun k h0 hk => by
    rw [← q6]
    exact (emD_0 hk).symm
  rw [q6, q7, f 0 (by omega), f 2 (by omega), f 3 (by omega), f 4 (by omega), f 1 (by omega), f 5 (by omega), e 1 (by omega) (by omega), e 2 (by omega) (by omega), e 3 (by omega) (by omega), e 4 (by omega) (by omega), j1, q4.1, q14, q17, q20.1, p2, L2] at hD
  rw [q5.1, q15, q18, q21.1, p3, L3] at hR
  exact ⟨_, M, M, hD, hR, hI⟩
theorem o_end {X : (Nat → Int32) × Nat} {d : Nat} {x : Int32} {M : zM} (hI : INV M) : zOp2 X (d + 10) 101 141 [.int x] M := by
  have hG := hI.1
  obtain ⟨L, L1, L2, L3, L4⟩ := hI.2.1.1
  by_cases c : x < 0 ∨ Int32.ofNat L < x
  · refine ⟨-1, M, M, ?_, ?_, hI⟩
    · show zR X (d + 10) 101 (0, [.ref 0, .int x], [], M) = _
      rw [t101_0 _ _ hG, L2]
      by_cases c1 : x < 0
      · rw [if_pos c1]
      · rw [if_neg c1, if_neg (by rcases c with h | h; exact absurd h c1; exact Int32.not_le.2 h)]
    · show zR X (d + 10) 141 (0, [.ref 460, .int x], [], M) = _
      rw [t141_0 _ _ hG, L3]
      by_cases c1 : x < 0
      · rw [if_pos c1]
      · rw [if_neg c1, if_neg (by rcases c with h | h; exact absurd h c1; exact Int32.not_le.2 h)]
  · obtain ⟨ex, -, hl⟩ := of_range (a := 0) (b := L) (by omega) (by omega) c
    generalize x.toNatClampNeg = k at ex hl
    subst ex
    have hx := INV_x hI
    have c1 : ¬ Int32.ofNat k < 0 := fun h => c (Or.inl h)
    have c2 : Int32.ofNat k ≤ Int32.ofNat L := Int32.not_lt.1 fun h => c (Or.inr h)
    refine ⟨Int32.ofNat k, zsI M 1 1 (Int32.ofNat k), zsI (zsI M 1 1 (Int32.ofNat k)) 460 26 (Int32.ofNat k), ?_, ?_, INV_S hI ⟨rfl, fun c q1 q2 => by rw [zI_n1 (by omega), zI_n1 (by omega)], fun k q1 q2 q3 => by rw [zI_n (by decide), zI_n (by decide)], fun k q1 => by rw [zI_s, if_neg q1, zI_n (by decide)], fun k q1 => by rw [zI_n (by decide), zI_n (by decide)]⟩ ⟨⟨k, by omega, by rw [zI_n (by decide), zI_s, if_pos rfl], by rw [zI_s, if_pos rfl], fun j hj => ?_⟩, by rw [zI_s, if_neg (by decide), zI_n (by decide)]; exact hI.2.1.2⟩ (fun n hn6 hn h => ?_) ?_ (fun h => ?_)⟩
    · show zR X (d + 10) 101 (0, [.ref 0, .int _], [], M) = _
      rw [t101_0 _ _ hG, L2, if_neg c1, if_pos c2]
    · show zR X (d + 10) 141 (0, [.ref 460, .int _], [], zsI M 1 1 (Int32.ofNat k)) = _
      rw [t141_0 _ _ (show zGE (zsI M 1 1 (Int32.ofNat k)) from hG), zI_n (by decide), L3, if_neg c1, if_pos c2]
    · rw [zI_n1 (by decide), zI_n1 (by decide), zI_n1 (by decide), zI_n1 (by decide)]
      exact L4 j (by omega)
    · rw [zI_n1 (by decide), zI_n1 (by decide), zI_n1 (by decide), zI_n1 (by decide)]
      exact h
    · rw [zI_n1 (by decide), zI_n1 (by decide), zI_n1 (by decide), zI_n1 (by decide)]
      exact hx
    · unfold lgDr lgR at h ⊢
      rw [zI_n1 (by decide), zI_n1 (by decide), zI_n1 (by decide), zI_n1 (by decide), zI_n1 (by decide), zI_n1 (by decide), zI_n1 (by decide), zI_n1 (by decide), zI_n1 (by decide), zI_n1 (by decide), zI_n1 (by decide), zI_n1 (by decide)]
      exact h
/-- bytes behind the tape's end -/
def tpD (M : zM) (L n : Nat) (f : Nat → Int32) (M' : zM) : Prop := M'.2 = M.2 ∧ (∀ c, c ≠ 1 → c ≠ 2 → M'.1 c = M.1 c) ∧ M'.1 1 1 = Int32.ofNat (L + n) ∧ (∀ j, j < L → M'.1 2 j = M.1 2 j) ∧ ∀ j, j < n → M'.1 2 (L + j) = f j &&& 255
def tpR (M : zM) (L n : Nat) (f : Nat → Int32) (M' : zM) : Prop := M'.2 = M.2 ∧ (∀ c, c ≠ 460 → c ≠ 485 → M'.1 c = M.1 c) ∧ (∀ k, k ≠ 26 → M'.1 460 k = M.1 460 k) ∧ M'.1 460 26 = Int32.ofNat (L + n) ∧ (∀ j, j < L → M'.1 485 j = M.1 485 j) ∧ ∀ j, j < n → M'.1 485 (L + j) = (Int32.toInt8 (Int32.toInt8 (f j)).toInt32).toInt32
theorem tpD_s {M M1 : zM} {L n : Nat} {f : Nat → Int32} (h : tpD M L n f M1) (hL : L + n < 400) : tpD M L (n + 1) f (zsI (zsI M1 2 (M1.1 1 1).toNatClampNeg (f n &&& 255)) 1 1 (M1.1 1 1 + 1)) := by
  obtain ⟨h1, h2, h3, h4, h5⟩ := h
  rw [h3, toNat_of (by omega), of_succ]
  refine ⟨by rw [z2_I, z2_I]; exact h1, fun c q1 q2 => by rw [zI_n1 q1, zI_n1 q2]; exact h2 c q1 q2, by rw [zI_s, if_pos rfl]; rfl, fun j hj => by rw [zI_n (by decide), zI_s, if_neg (by omega)]; exact h4 j hj, fun j hj => ?_⟩
  rw [zI_n (by decide), zI_s]
  by_cases e : j = n
  · rw [if_pos (by omega), e]
  · rw [if_neg (by omega)]; exact h5 j (by omega)
theorem tpR_s {M M1 : zM} {L n : Nat} {f : Nat → Int32} (h : tpR M L n f M1) (hL : L + n < 400) : tpR M L (n + 1) f (zsI (zsI M1 485 (M1.1 460 26).toNatClampNeg (Int32.toInt8 (Int32.toInt8 (f n)).toInt32).toInt32) 460 26 (M1.1 460 26 + 1)) := by
  obtain ⟨h1, h2, h6, h3, h4, h5⟩ := h
  rw [h3, toNat_of (by omega), of_succ]
  refine ⟨by rw [z2_I, z2_I]; exact h1, fun c q1 q2 => by rw [zI_n1 q1, zI_n1 q2]; exact h2 c q1 q2, fun k q => by rw [zI_s, if_neg q, zI_n (by decide)]; exact h6 k q, by rw [zI_s, if_pos rfl]; rfl, fun j hj => by rw [zI_n (by decide), zI_s, if_neg (by omega)]; exact h4 j hj, fun j hj => ?_⟩
  rw [zI_n (by decide), zI_s]
  by_cases e : j = n
  · rw [if_pos (by omega), e]
  · rw [if_neg (by omega)]; exact h5 j (by omega)
theorem s86 {X : (Nat → Int32) × Nat} {d L n : Nat} {x : Int32} {f : Nat → Int32} {M M1 : zM} (hG : zGE M) (h : tpD M L n f M1) (hL : L + (n + 4) ≤ 400) (f0 : f n = x >>> (24 &&& 31)) (f1 : f (n + 1) = x >>> (16 &&& 31)) (f2 : f (n + 2) = x >>> (8 &&& 31)) (f3 : f (n + 3) = x >>> (0 &&& 31)) : ∃ M2, zC X d 86 [.ref 1, .int x] M1 = some (none, M2) ∧ tpD M L (n + 4) f M2 := by
  show ∃ M2, zR X d 86 (0, [.ref 1, .int x, zjk], [], M1) = some (none, M2) ∧ _
  have gG : ∀ {n M1}, tpD M L n f M1 → zGE M1 := fun h => zGE_of hG (by rw [h.1])
  have st : ∀ (s : Int32) (m : Nat) (M1 : zM), tpD M L m f M1 → L + m < 400 → ¬ s < 0 → zR X d 86 (3, [.ref 1, .int x, .int s], [], M1) = zR X d 86 (3, [.ref 1, .int x, .int (s + (-8))], [], zsI (zsI M1 2 (M1.1 1 1).toNatClampNeg ((x >>> (s &&& 31)) &&& 255)) 1 1 (M1.1 1 1 + 1)) := fun s m M1 h hm hs => by
    have hn : ¬ (400 : Int32) ≤ M1.1 1 1 := by rw [h.2.2.1, show (400 : Int32) = Int32.ofNat 400 from rfl, of_le (by omega) (by omega)]; omega
    rw [t86_3 _ _ _ (gG h) (fun _ _ => by rw [h.2.2.1]; exact vp_of hm (by omega)), if_neg hs, if_neg hn]
  have a1 := tpD_s h (by omega)
  have a2 := tpD_s a1 (by omega)
  have a3 := tpD_s a2 (by omega)
  have a4 := tpD_s a3 (by omega)
  rw [t86_0 _ _ _ (gG h), st 24 n _ h (by omega) (by decide), ← f0, show (24 : Int32) + (-8) = 16 from rfl, st 16 (n + 1) _ a1 (by omega) (by decide), ← f1, show (16 : Int32) + (-8) = 8 from rfl, st 8 (n + 2) _ a2 (by omega) (by decide), ← f2, show (8 : Int32) + (-8) = 0 from rfl, st 0 (n + 3) _ a3 (by omega) (by decide), ← f3, show (0 : Int32) + (-8) = -8 from rfl, t86_3 _ _ _ (gG a4) (fun h => absurd (by decide) h), if_pos (by decide)]
  exact ⟨_, rfl, a4⟩
theorem r140 {X : (Nat → Int32) × Nat} {d L n : Nat} {x : Int32} {f : Nat → Int32} {M M1 : zM} (hG : zGE M) (h : tpR M L n f M1) (hL : L + (n + 4) ≤ 400) (f0 : f n = x >>> (24 &&& 31)) (f1 : f (n + 1) = x >>> (16 &&& 31)) (f2 : f (n + 2) = x >>> (8 &&& 31)) (f3 : f (n + 3) = x >>> (0 &&& 31)) : ∃ M2, zC X d 140 [.ref 460, .int x] M1 = some (none, M2) ∧ tpR M L (n + 4) f M2 := by
  show ∃ M2, zR X d 140 (0, [.ref 460, .int x, zjk], [], M1) = some (none, M2) ∧ _
  have gG : ∀ {n M1}, tpR M L n f M1 → zGE M1 := fun h => zGE_of hG (by rw [h.1])
  have st : ∀ (s : Int32) (m : Nat) (M1 : zM), tpR M L m f M1 → L + m < 400 → ¬ s < 0 → zR X d 140 (3, [.ref 460, .int x, .int s], [], M1) = zR X d 140 (3, [.ref 460, .int x, .int (s + (-8))], [], zsI (zsI M1 485 (M1.1 460 26).toNatClampNeg (Int32.toInt8 (Int32.toInt8 (x >>> (s &&& 31))).toInt32).toInt32) 460 26 (M1.1 460 26 + 1)) := fun s m M1 h hm hs => by
    rw [t140_3 _ _ _ (gG h) (fun _ => by rw [h.2.2.2.1]; exact vp_of hm (by omega)), if_neg hs]
  have a1 := tpR_s h (by omega)
  have a2 := tpR_s a1 (by omega)
  have a3 := tpR_s a2 (by omega)
  have a4 := tpR_s a3 (by omega)
  rw [t140_0 _ _ _ (gG h), st 24 n _ h (by omega) (by decide), ← f0, show (24 : Int32) + (-8) = 16 from rfl, st 16 (n + 1) _ a1 (by omega) (by decide), ← f1, show (16 : Int32) + (-8) = 8 from rfl, st 8 (n + 2) _ a2 (by omega) (by decide), ← f2, show (8 : Int32) + (-8) = 0 from rfl, st 0 (n + 3) _ a3 (by omega) (by decide), ← f3, show (0 : Int32) + (-8) = -8 from rfl, t140_3 _ _ _ (gG a4) (fun h => absurd (by decide) h), if_pos (by decide)]
  exact ⟨_, rfl, a4⟩
theorem byt (v : Int32) : ∃ b, b < 256 ∧ v &&& 255 = Int32.ofNat b ∧ (Int32.toInt8 (Int32.toInt8 v).toInt32).toInt32 = (if b < 128 then Int32.ofNat b else Int32.ofNat b - 256) := by
  refine ⟨(v.toInt % 256).toNat, by omega, ?_, ?_⟩
  · apply Int32.toInt_inj.1
    rw [Int32.toInt_ofNat_of_lt (by omega)]
    have h : (v &&& 255).toBitVec.toNat = v.toBitVec.toNat % 256 := by
      rw [Int32.toBitVec_and, BitVec.toNat_and]
      exact Nat.and_two_pow_sub_one_eq_mod _ 8
    show (v &&& 255).toBitVec.toInt = ((v.toBitVec.toInt % 256).toNat : Int)
    have := v.toBitVec.isLt
    rw [BitVec.toInt_eq_toNat_cond, BitVec.toInt_eq_toNat_cond, h]
    split <;> split <;> omega
  · apply Int32.toInt_inj.1
    rw [Int8.toInt_toInt32, Int32.toInt_toInt8, Int8.toInt_toInt32, Int32.toInt_toInt8]
    have h1 := Int32.toInt_lt v
    have h2 := Int32.le_toInt v
    by_cases c : (v.toInt % 256).toNat < 128
    · rw [if_pos c, Int32.toInt_ofNat_of_lt (by omega), Int.bmod_def, Int.bmod_def]
      omega
    · rw [if_neg c, Int32.toInt_sub, Int32.toInt_ofNat_of_lt (by omega), show (256 : Int32).toInt = 256 from rfl, Int.bmod_def, Int.bmod_def, Int.bmod_def]
      omega
theorem o_feed {X : (Nat → Int32) × Nat} {d : Nat} {x1 x2 x3 x4 x5 : Int32} {M : zM} (hI : INV M) : zOp2 X (d + 10) 100 139 [.int x1, .int x2, .int x3, .int x4, .int x5] M := by
  have hG := hI.1
  obtain ⟨L, L1, L2, L3, L4⟩ := hI.2.1.1
  have h20 : ∀ x : Int32, x = Int32.ofNat L → (x + 20 ≤ 400 ↔ L + 20 ≤ 400) := fun x hx => by
    rw [hx, show (20 : Int32) = Int32.ofNat 20 from rfl, ← Int32.ofNat_add, show (400 : Int32) = Int32.ofNat 400 from rfl, of_le (by omega) (by omega)]
  by_cases c : L + 20 ≤ 400
  · let f : Nat → Int32 := fun n => ([x1, x2, x3, x4, x5].getD (n / 4) 0) >>> (([24, 16, 8, 0].getD (n % 4) 0) &&& 31)
    have d0 : tpD M L 0 f M := ⟨rfl, fun _ _ _ => rfl, L2, fun _ _ => rfl, fun j hj => absurd hj (Nat.not_lt_zero j)⟩
    obtain ⟨A1, u1, v1⟩ := s86 (X := X) (d := d + 9) (x := x1) hG d0 (by omega) rfl rfl rfl rfl
    obtain ⟨A2, u2, v2⟩ := s86 (X := X) (d := d + 9) (x := x2) hG v1 (by omega) rfl rfl rfl rfl
    obtain ⟨A3, u3, v3⟩ := s86 (X := X) (d := d + 9) (x := x3) hG v2 (by omega) rfl rfl rfl rfl
    obtain ⟨A4, u4, v4⟩ := s86 (X := X) (d := d + 9) (x := x4) hG v3 (by omega) rfl rfl rfl rfl
    obtain ⟨A, u5, v5⟩ := s86 (X := X) (d := d + 9) (x := x5) hG v4 (by omega) rfl rfl rfl rfl
    have gD : ∀ {n M1}, tpD M L n f M1 → zGE M1 := fun h => zGE_of hG (by rw [h.1])
    have hGA := gD v5
    have w26 : A.1 460 26 = Int32.ofNat L := by rw [v5.2.1 460 (by decide) (by decide)]; exact L3
    have r0 : tpR A L 0 f A := ⟨rfl, fun _ _ _ => rfl, fun _ _ => rfl, w26, fun _ _ => rfl, fun j hj => absurd hj (Nat.not_lt_zero j)⟩
    obtain ⟨B1, y1, z1⟩ := r140 (X := X) (d := d + 9) (x := x1) hGA r0 (by omega) rfl rfl rfl rfl
    obtain ⟨B2, y2, z2⟩ := r140 (X := X) (d := d + 9) (x := x2) hGA z1 (by omega) rfl rfl rfl rfl
    obtain ⟨B3, y3, z3⟩ := r140 (X := X) (d := d + 9) (x := x3) hGA z2 (by omega) rfl rfl rfl rfl
    obtain ⟨B4, y4, z4⟩ := r140 (X := X) (d := d + 9) (x := x4) hGA z3 (by omega) rfl rfl rfl rfl
    obtain ⟨B, y5, z5⟩ := r140 (X := X) (d := d + 9) (x := x5) hGA z4 (by omega) rfl rfl rfl rfl
    have gR : ∀ {n M1}, tpR A L n f M1 → zGE M1 := fun h => zGE_of hGA (by rw [h.1])
    have k1 : ∀ c, c ≠ 1 → c ≠ 2 → c ≠ 460 → c ≠ 485 → B.1 c = M.1 c := fun c q1 q2 q3 q4 => by rw [z5.2.1 c q3 q4, v5.2.1 c q1 q2]
    have k460 : ∀ k, k ≠ 26 → B.1 460 k = M.1 460 k := fun k hk => by rw [z5.2.2.1 k hk, v5.2.1 460 (by decide) (by decide)]
    refine ⟨Int32.ofNat (L + 20), A, B, ?_, ?_, INV_S hI ⟨by rw [z5.1, v5.1], fun c q1 q2 => k1 c q1.1 q1.2.1 q2.1 q2.2.2.2.2, fun k _ _ _ => by rw [k1 39 (by decide) (by decide) (by decide) (by decide)], k460, fun k _ => by rw [k1 461 (by decide) (by decide) (by decide) (by decide)]⟩ ⟨⟨L + 20, c, by rw [z5.2.1 1 (by decide) (by decide)]; exact v5.2.2.1, z5.2.2.2.1, fun j hj => ?_⟩, by rw [k460 35 (by decide)]; exact hI.2.1.2⟩ (fun n hn6 hn h => ?_) ?_ (fun h => ?_)⟩
    · show zR X (d + 10) 100 (0, [.ref 0, .int x1, .int x2, .int x3, .int x4, .int x5], [], M) = _
      rw [t100_0 _ _ _ _ _ _ hG, if_pos ((h20 _ L2).2 c), u1, Option.bind_some]
      dsimp only [zps]
      rw [t100_26 _ _ _ _ _ _ (gD v1), u2, Option.bind_some]
      dsimp only [zps]
      rw [t100_34 _ _ _ _ _ _ (gD v2), u3, Option.bind_some]
      dsimp only [zps]
      rw [t100_42 _ _ _ _ _ _ (gD v3), u4, Option.bind_some]
      dsimp only [zps]
      rw [t100_51 _ _ _ _ _ _ (gD v4), u5, Option.bind_some]
      dsimp only [zps]
      rw [t100_60 _ _ _ _ _ _ (gD v5), v5.2.2.1]
    · show zR X (d + 10) 139 (0, [.ref 460, .int x1, .int x2, .int x3, .int x4, .int x5], [], A) = _
      rw [t139_0 _ _ _ _ _ _ hGA, if_pos ((h20 _ w26).2 c), y1, Option.bind_some]
      dsimp only [zps]
      rw [t139_20 _ _ _ _ _ _ (gR z1), y2, Option.bind_some]
      dsimp only [zps]
      rw [t139_25 _ _ _ _ _ _ (gR z2), y3, Option.bind_some]
      dsimp only [zps]
      rw [t139_30 _ _ _ _ _ _ (gR z3), y4, Option.bind_some]
      dsimp only [zps]
      rw [t139_36 _ _ _ _ _ _ (gR z4), y5, Option.bind_some]
      dsimp only [zps]
      rw [t139_42 _ _ _ _ _ _ (gR z5), z5.2.2.2.1]
    · by_cases cj : j < L
      · rw [z5.2.1 2 (by decide) (by decide), v5.2.2.2.1 j cj, z5.2.2.2.2.1 j cj, v5.2.1 485 (by decide) (by decide)]
        exact L4 j cj
      · have ej : j = L + (j - L) := by omega
        rw [ej, z5.2.1 2 (by decide) (by decide), v5.2.2.2.2 (j - L) (by omega), z5.2.2.2.2.2 (j - L) (by omega)]
        exact byt _
    · rw [k1 39 (by decide) (by decide) (by decide) (by decide), k1 461 (by decide) (by decide) (by decide) (by decide)]
      exact h
    · rw [k1 39 (by decide) (by decide) (by decide) (by decide), k1 461 (by decide) (by decide) (by decide) (by decide)]
      exact INV_x hI
    · unfold lgDr lgR at h ⊢
      rw [k1 39 (by decide) (by decide) (by decide) (by decide), k1 461 (by decide) (by decide) (by decide) (by decide), k1 (39 + 31) (by decide) (by decide) (by decide) (by decide), k1 (39 + 32) (by decide) (by decide) (by decide) (by decide), k1 471 (by decide) (by decide) (by decide) (by decide), k1 472 (by decide) (by decide) (by decide) (by decide)]
      exact h
  · refine ⟨-1, M, M, ?_, ?_, hI⟩
    · show zR X (d + 10) 100 (0, [.ref 0, .int x1, .int x2, .int x3, .int x4, .int x5], [], M) = _
      rw [t100_0 _ _ _ _ _ _ hG, if_neg (fun h => c ((h20 _ L2).1 h))]
    · show zR X (d + 10) 139 (0, [.ref 460, .int x1, .int x2, .int x3, .int x4, .int x5], [], M) = _
      rw [t139_0 _ _ _ _ _ _ hG, if_neg (fun h => c ((h20 _ L3).1 h))]
