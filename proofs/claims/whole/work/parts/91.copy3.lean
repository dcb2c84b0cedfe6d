/-! ===== image, back ===== -/
theorem hima {M : zM} (h : zGE M) {k : Nat} (hk : k < 4) : M.2.2.1 112 k = 168 + 73 * k := by
  rcases (show k = 0 ∨ k = 1 ∨ k = 2 ∨ k = 3 by omega) with rfl | rfl | rfl | rfl
  · exact zge_rd h rfl (by decide)
  · exact zge_rd h rfl (by decide)
  · exact zge_rd h rfl (by decide)
  · exact zge_rd h rfl (by decide)
theorem ldR_ag2 {k : Nat} {M M' : zM} (h4 : M'.1 504 k = M.1 504 k) (h2 : ∀ j, 550 * k ≤ j → j < 550 * k + 490 → M'.1 502 j = M.1 502 j) : agR (ldR k M) (ldR k M') := by
  refine ⟨h4, h2 _ (by omega) (by omega), fun c hc j hj => ?_⟩
  obtain ⟨-, q2, q3, -, -⟩ := car_q c hc
  have hne : ¬ c = 460 := by omega
  show (if c = 460 then _ else if carb c = true then M'.1 502 (550 * k + offR c + j) else _) = (if c = 460 then _ else if carb c = true then M.1 502 (550 * k + offR c + j) else _)
  rw [if_neg hne, if_neg hne, if_pos (carb_iff.mpr hc), if_pos (carb_iff.mpr hc), h2 _ (by omega) (by omega)]
theorem ldR_car {k c j : Nat} {M : zM} (hc : car c) : (ldR k M).1 c j = M.1 502 (550 * k + offR c + j) := by
  obtain ⟨-, -, q3, -, -⟩ := car_q c hc
  show (if c = 460 then _ else if carb c = true then M.1 502 (550 * k + offR c + j) else _) = _
  rw [if_neg (by omega), if_pos (carb_iff.mpr hc)]
theorem in4 {x : Int32} : (x < 0 ∨ 3 < x) ↔ (x < 0 ∨ ¬ x < 4) := by
  rw [Int32.lt_iff_toInt_lt, Int32.lt_iff_toInt_lt, Int32.lt_iff_toInt_lt, show (3 : Int32).toInt = 3 from rfl, show (4 : Int32).toInt = 4 from rfl, show (0 : Int32).toInt = 0 from rfl]
  omega
theorem iRl_p {nr r : Nat} {M N : zM} (h : iRl nr r M N) : ∃ p, p ≤ 20 ∧ M.1 r 5 = Int32.ofNat p := by
  obtain ⟨-, -, -, -, -, -, ⟨p, p1, p2, -⟩⟩ := h
  exact ⟨p, p1, p2⟩
theorem o_image {X : (Nat → Int32) × Nat} {d : Nat} {x : Int32} {M : zM} (hI : INV M) : zOp2 X (d + 10) 131 240 [.int x] M := by
  have hG := hI.1
  by_cases c : x < 0 ∨ 3 < x
  · have c' := in4.1 c
    refine ⟨-1, M, M, ?_, ?_, hI⟩
    · show zR X (d + 10) 131 (0, [.ref 0, .int x], [], M) = _
      rw [t131_0 _ _ hG (fun h1 h2 => (c'.elim h1 (fun h => h h2)).elim) (fun h1 h2 => (c'.elim h1 (fun h => h h2)).elim) (fun h1 h2 => (c'.elim h1 (fun h => h h2)).elim)]
      by_cases c1 : x < 0
      · rw [if_pos c1]
      · rw [if_neg c1, if_neg (c'.resolve_left c1)]
    · show zR X (d + 10) 240 (0, [.ref 460, .int x], [], M) = _
      rw [t240_0 _ _ hG, r135i (y := 0) (z := 3) (a := 0) (b := 3) hG rfl rfl, if_pos c, Option.bind_some]
      dsimp only [zps]
      rw [t240_9 _ _ _ hG (fun h => absurd rfl h), if_neg (by decide)]
  · have c' := fun h => c (in4.2 h)
    obtain ⟨ex, -, hk3⟩ := of_range (a := 0) (b := 3) (by omega) (by omega) c
    generalize x.toNatClampNeg = k at ex hk3
    subst ex
    have hk : k < 4 := by omega
    have kk : (Int32.ofNat k).toNatClampNeg = k := toNat_of (by omega)
    have hqa := hrea k hk
    obtain ⟨-, hT, rl, h1, h2, h3, h4, h5⟩ := hI
    obtain ⟨p, p20, p5⟩ := iRl_p h4
    have hE : okE (emR M) := h4.1.2.1
    obtain ⟨hn4, -⟩ := okR_D hE
    obtain ⟨M1, s1, s2, s8, s31, s32⟩ := s53 (X := X) (d := d + 8) (n := nD (emR M)) (a := 168 + 73 * k) (b := 39) hG hqa zq_39 (by omega) hn4 p20 p5
    have hz := s2.1
    have hG1 := zfr_G hz hG
    have iK := iRl_mv hG rfl p5 p20 s2 s8 s31 s32 h4
    have e25 : M.1 460 25 &&& 1 = M.1 460 25 := by
      obtain ⟨⟨b, b1, b2⟩, -⟩ := id hE
      rw [show M.1 460 25 = Int32.ofNat b from b2]
      rcases (show b = 0 ∨ b = 1 by omega) with rfl | rfl <;> rfl
    -- the reference
    have o1 : ∀ c, ¬ (168 + 73 * k ≤ c ∧ c < 168 + 73 * k + 73) → M1.1 c = M.1 c := fun c hc => (hz.2 c (by omega)).1
    have hG2 : zGE (zsI (zsI (zsI M1 113 k (1 &&& 1)) 503 k (1 &&& 1)) 504 k (M.1 460 25 &&& 1)) := hG1
    obtain ⟨M3, w1, w2, w3, w4, w5, w6, w7, w8, w9⟩ := r239s (X := X) (d := d + 8) (k := k) hG2 hk
    have hG3 : zGE M3 := zGE_of hG2 (by rw [w2])
    have o3 : ∀ c, c ≠ 460 → c ≠ 498 → c ≠ 502 → c ≠ 113 → c ≠ 503 → c ≠ 504 → M3.1 c = M1.1 c := fun c q1 q2 q3 q4 q5 q6 => by rw [w3 c q1 q2 q3, zI_n1 q6, zI_n1 q5, zI_n1 q4]
    have o4 : ∀ c, c ≠ 460 → c ≠ 498 → c ≠ 502 → c ≠ 113 → c ≠ 503 → c ≠ 504 → ¬ (168 + 73 * k ≤ c ∧ c < 168 + 73 * k + 73) → M3.1 c = M.1 c := fun c q1 q2 q3 q4 q5 q6 q7 => by rw [o3 c q1 q2 q3 q4 q5 q6, o1 c q7]
    have o460 : ∀ j, j ≠ 64 → j ≠ 65 → M3.1 460 j = M.1 460 j := fun j q1 q2 => by rw [w4 j q1 q2, zI_n1 (by decide), zI_n1 (by decide), zI_n1 (by decide), o1 460 (by omega)]
    have o503 : ∀ j, M3.1 503 j = if j = k then 1 else M.1 503 j := fun j => by
      rw [w3 503 (by decide) (by decide) (by decide), zI_n1 (by decide), zI_s, zI_n1 (by decide), o1 503 (by omega)]
      rfl
    have o504 : ∀ j, M3.1 504 j = if j = k then M.1 460 25 else M.1 504 j := fun j => by
      rw [w3 504 (by decide) (by decide) (by decide), zI_s, zI_n1 (by decide), zI_n1 (by decide), o1 504 (by omega), e25]
    have o113 : ∀ j, M3.1 113 j = if j = k then 1 else M.1 113 j := fun j => by
      rw [w3 113 (by decide) (by decide) (by decide), zI_n1 (by decide), zI_n1 (by decide), zI_s, o1 113 (by omega)]
      rfl
    have o502 : ∀ j, j < 550 * k ∨ 550 * k + 490 ≤ j → M3.1 502 j = M.1 502 j := fun j hj => by rw [w9 j hj, zI_n1 (by decide), zI_n1 (by decide), zI_n1 (by decide), o1 502 (by omega)]
    have oref : ∀ c, M3.2.2.1 c = M.2.2.1 c := fun c => by
      rw [w2]
      show M1.2.2.1 c = _
      rw [hz.1]
    have agM : agR M M3 := by
      refine ⟨o460 25 (by decide) (by decide), o460 55 (by decide) (by decide), fun c hc j _ => ?_⟩
      obtain ⟨-, -, q3, q4, q5⟩ := car_q c hc
      rw [o4 c (by omega) q5 (by omega) (by omega) (by omega) (by omega) (by omega)]
    have agK : agR M (ldR k M3) := by
      refine ⟨?_, ?_, fun c hc j hj => ?_⟩
      · show M3.1 504 k = _
        rw [o504, if_pos rfl]
      · show M3.1 502 (550 * k + 22) = _
        rw [w8 (by omega), zI_n1 (by decide), zI_n1 (by decide), zI_n1 (by decide), o1 460 (by omega)]
      · obtain ⟨-, q2, q3, q4, q5⟩ := car_q c hc
        rw [ldR_car hc, w7 c hc (by omega) j hj, zI_n1 (by omega), zI_n1 (by omega), zI_n1 (by omega), o1 c (by omega)]
    refine ⟨M.1 67 2, zsI M1 113 k (1 &&& 1), M3, ?_, ?_, hG3, ?_, rl, h1, rsD_c (fun a ha => o4 a (by omega) (by omega) (by omega) (by omega) (by omega) (by omega) (by omega)) h1.1 h2, ?_, iRl_c2 hG zq_39 (fun a u1 u2 => o4 a (by omega) (by omega) (by omega) (by omega) (by omega) (by omega) (by omega)) (oref _) agM h4, fun k' hk' => ?_⟩
    · show zR X (d + 10) 131 (0, [.ref 0, .int _], [], M) = _
      have n1 : ¬ Int32.ofNat k < 0 := fun h => c (Or.inl h)
      have n2 : Int32.ofNat k < 4 := Decidable.byContradiction fun h => c' (Or.inr h)
      have lem := t131_0 (X := X) (d := d + 9) (Int32.ofNat k) M hG
      rw [kk, hima hG hk] at lem
      rw [lem (fun _ _ => vp_of hk (by omega)) (fun _ _ => by omega) (fun _ _ => zis_q hG hqa), if_neg n1, if_pos n2, s1, Option.bind_some]
      dsimp only [zps]
      rw [t131_24 _ _ hG1 (vp_of hk (by omega)), kk, o1 67 (by omega)]
    · show zR X (d + 10) 240 (0, [.ref 460, .int _], [], zsI M1 113 k (1 &&& 1)) = _
      have hGx : zGE (zsI M1 113 k (1 &&& 1)) := hG1
      have m25 : (zsI M1 113 k (1 &&& 1)).1 460 25 = M.1 460 25 := by rw [zI_n1 (by decide), o1 460 (by omega)]
      rw [t240_0 _ _ hGx, r135i (y := 0) (z := 3) (a := 0) (b := 3) hGx rfl rfl, if_neg c, Option.bind_some]
      dsimp only [zps]
      rw [t240_9 _ _ _ hGx (fun _ => vp_of hk (by omega)), if_pos (by decide), kk, m25, w1, Option.bind_some]
      dsimp only [zps]
      rw [t240_37 _ _ hG3, o4 461 (by omega) (by omega) (by omega) (by omega) (by omega) (by omega) (by omega)]
      have e1 := h4.2.1.1
      have e2 : M.1 67 2 = M.1 461 6 := by
        have := congrFun e1 2
        exact (stD_f (n := nD (emR M)) (s := 67) (M := M) (k := 2) (by omega)).symm.trans this
      rw [e2]
    · unfold iTp
      rw [o4 1 (by omega) (by omega) (by omega) (by omega) (by omega) (by omega) (by omega), o4 2 (by omega) (by omega) (by omega) (by omega) (by omega) (by omega) (by omega), o460 26 (by decide) (by decide), o460 35 (by decide) (by decide), o4 485 (by omega) (by omega) (by omega) (by omega) (by omega) (by omega) (by omega)]
      exact hT
    · have oc : ∀ c, 486 ≤ c → c ≤ 491 → M3.1 c = M.1 c := fun c q1 q2 => o4 c (by omega) (by omega) (by omega) (by omega) (by omega) (by omega) (by omega)
      exact ⟨by rw [o460 30 (by decide) (by decide)]; exact h3.1, fun i hi => ruR_q (oc 488 (by omega) (by omega)) (oc 489 (by omega) (by omega)) (oc 490 (by omega) (by omega)) (oc 491 (by omega) (by omega)) (oc 486 (by omega) (by omega)) (oc 487 (by omega) (by omega)) (h3.2 i hi)⟩
    · rw [o113, o503]
      by_cases e : k' = k
      · subst e
        rw [if_pos rfl, if_pos rfl]
        exact ⟨rfl, Or.inr ⟨rfl, iRl_c2 hG1 hqa (fun a u1 u2 => o3 a (by omega) (by omega) (by omega) (by omega) (by omega) (by omega)) ((oref _).trans (by rw [hz.1])) agK iK⟩⟩
      · rw [if_neg e, if_neg e]
        obtain ⟨q1, q2⟩ := h5 k' hk'
        refine ⟨q1, q2.imp id (fun q => ⟨q.1, ?_⟩)⟩
        exact iRl_c2 hG (hrea k' hk') (fun a u1 u2 => o4 a (by omega) (by omega) (by omega) (by omega) (by omega) (by omega) (by omega)) (oref _) (ldR_ag2 (by rw [o504, if_neg e]) (fun j u1 u2 => o502 j (by omega))) q.2
theorem o_back {X : (Nat → Int32) × Nat} {d : Nat} {x : Int32} {M : zM} (hI : INV M) : zOp2 X (d + 10) 132 241 [.int x] M := by
  have hG := hI.1
  by_cases c : x < 0 ∨ 3 < x
  · have c' := in4.1 c
    have hno : ¬ x < 0 → ¬ 4 ≤ x → False := fun h1 h2 => c'.elim h1 (fun h => h2 (Int32.not_lt.1 h))
    refine ⟨-1, M, M, ?_, ?_, hI⟩
    · show zR X (d + 10) 132 (0, [.ref 0, .int x], [], M) = _
      rw [t132_0 _ _ hG (fun h1 h2 => (hno h1 h2).elim) (fun h1 h2 => (hno h1 h2).elim)]
      by_cases c1 : x < 0
      · rw [if_pos c1]
      · rw [if_neg c1, if_pos (Decidable.byContradiction fun h => hno c1 h)]
    · show zR X (d + 10) 241 (0, [.ref 460, .int x], [], M) = _
      rw [t241_0 _ _ hG, r135i (y := 0) (z := 3) (a := 0) (b := 3) hG rfl rfl, if_pos c, Option.bind_some]
      dsimp only [zps]
      rw [t241_9 _ _ _ hG (fun h => absurd rfl h) (fun h => absurd rfl h), if_pos rfl]
  · have c' := fun h => c (in4.2 h)
    obtain ⟨ex, -, hk3⟩ := of_range (a := 0) (b := 3) (by omega) (by omega) c
    generalize x.toNatClampNeg = k at ex hk3
    subst ex
    have hk : k < 4 := by omega
    have kk : (Int32.ofNat k).toNatClampNeg = k := toNat_of (by omega)
    have n1 : ¬ Int32.ofNat k < 0 := fun h => c (Or.inl h)
    have n2 : ¬ 4 ≤ Int32.ofNat k := Int32.not_le.2 (Decidable.byContradiction fun h => c' (Or.inr h))
    have hqa := hrea k hk
    have hI0 := hI
    obtain ⟨-, hT, rl, h1, h2, h3, h4, h5⟩ := hI
    obtain ⟨q1, q2⟩ := h5 k hk
    rcases q2 with q2 | ⟨q2, q3⟩
    · refine ⟨-1, M, M, ?_, ?_, hI0⟩
      · show zR X (d + 10) 132 (0, [.ref 0, .int _], [], M) = _
        have z0 : M.1 113 k = 0 := q1.trans q2
        rw [t132_0 _ _ hG (fun _ _ => vp_of hk (by omega)) (fun _ _ h => by rw [kk] at h; exact absurd z0 h), if_neg n1, if_neg n2, kk, if_neg (not_not_intro z0)]
      · show zR X (d + 10) 241 (0, [.ref 460, .int _], [], M) = _
        rw [t241_0 _ _ hG, r135i (y := 0) (z := 3) (a := 0) (b := 3) hG rfl rfl, if_neg c, Option.bind_some]
        dsimp only [zps]
        rw [t241_9 _ _ _ hG (fun _ => vp_of hk (by omega)) (fun _ h => by rw [kk] at h; exact absurd q2 h), if_neg (by decide), kk, if_neg (not_not_intro q2)]
    · obtain ⟨p, p20, p5⟩ := iRl_p q3
      have hE : okE (emR (ldR k M)) := q3.1.2.1
      obtain ⟨hn4, -⟩ := okR_D hE
      obtain ⟨M1, s1, s2, s8, s31, s32⟩ := s53 (X := X) (d := d + 8) (n := nD (emR (ldR k M))) (a := 39) (b := 168 + 73 * k) hG zq_39 hqa (by omega) hn4 p20 p5
      have hz := s2.1
      have hG1 := zfr_G hz hG
      have iK := iRl_mv hG rfl p5 p20 s2 s8 s31 s32 q3
      have o1 : ∀ c, ¬ (39 ≤ c ∧ c < 112) → M1.1 c = M.1 c := fun c hc => (hz.2 c (by omega)).1
      have hG2 : zGE (zsI M1 460 25 (M1.1 504 k)) := hG1
      obtain ⟨M3, w1, w2, w3, w4, w5, w6, w7, w8⟩ := r239l (X := X) (d := d + 8) (k := k) hG2 hk
      have hG3 : zGE M3 := zGE_of hG2 (by rw [w2])
      have ncar : ∀ c, c < 461 ∨ (474 < c ∧ c ≠ 493 ∧ c ≠ 497) → ¬ car c := fun c hc => by unfold car; omega
      have o3 : ∀ c, c < 460 ∨ (474 < c ∧ c ≠ 493 ∧ c ≠ 497 ∧ c ≠ 498) → M3.1 c = M1.1 c := fun c hc => by rw [w3 c (by omega) (by omega) (ncar c (by omega)), zI_n1 (by omega)]
      have o4 : ∀ c, c < 39 ∨ (112 ≤ c ∧ c < 460) ∨ (474 < c ∧ c ≠ 493 ∧ c ≠ 497 ∧ c ≠ 498) → M3.1 c = M.1 c := fun c hc => by rw [o3 c (by omega), o1 c (by omega)]
      have o460 : ∀ j, j ≠ 25 → j ≠ 55 → j ≠ 64 → j ≠ 65 → M3.1 460 j = M.1 460 j := fun j q0 q1 q2 q3 => by rw [w4 j q1 q2 q3, zI_s, if_neg q0, o1 460 (by omega)]
      have o2 : ∀ j, (zsI M1 460 25 (M1.1 504 k)).1 502 j = M.1 502 j := fun j => by rw [zI_n1 (by decide), o1 502 (by omega)]
      have agK : agR (ldR k M) M3 := by
        refine ⟨?_, ?_, fun c hc j hj => ?_⟩
        · show M3.1 460 25 = M.1 504 k
          rw [w4 25 (by decide) (by decide) (by decide), zI_s, if_pos rfl, o1 504 (by omega)]
        · show M3.1 460 55 = M.1 502 (550 * k + 22)
          rw [w8 (by omega), o2]
        · obtain ⟨-, u2, -, -, -⟩ := car_q c hc
          rw [ldR_car hc, w7 c hc (by omega) j hj, o2]
      have oref : ∀ c, M3.2.2.1 c = M.2.2.1 c := fun c => by
        rw [w2]
        show M1.2.2.1 c = _
        rw [hz.1]
      have i3 : iRl rl.1 39 M3 M3 := iRl_c2 hG1 zq_39 (fun a u1 u2 => o3 a (by omega)) ((oref _).trans (by rw [hz.1])) agK iK
      have e504 : M1.1 504 k = M.1 504 k := by rw [o1 504 (by omega)]
      refine ⟨M3.1 461 6, M1, M3, ?_, ?_, hG3, ?_, rl, h1, rsD_c (fun a ha => o4 a (by omega)) h1.1 h2, ⟨by rw [o460 30 (by decide) (by decide) (by decide) (by decide)]; exact h3.1, fun i hi => ruR_q (o4 488 (by omega)) (o4 489 (by omega)) (o4 490 (by omega)) (o4 491 (by omega)) (o4 486 (by omega)) (o4 487 (by omega)) (h3.2 i hi)⟩, i3, fun k' hk' => ?_⟩
      · show zR X (d + 10) 132 (0, [.ref 0, .int _], [], M) = _
        have z0 : ¬ M.1 113 k = 0 := by rw [q1, q2]; decide
        have lem := t132_0 (X := X) (d := d + 9) (Int32.ofNat k) M hG
        rw [kk, hima hG hk] at lem
        rw [lem (fun _ _ => vp_of hk (by omega)) (fun _ _ _ => by omega), if_neg n1, if_neg n2, if_pos z0, s1, Option.bind_some]
        dsimp only [zps]
        rw [t132_33 _ _ hG1]
        have e1 := i3.2.1.1
        have e2 : M3.1 67 2 = M3.1 461 6 := by
          have := congrFun e1 2
          exact (stD_f (n := nD (emR M3)) (s := 67) (M := M3) (k := 2) (by omega)).symm.trans this
        rw [← e2, o3 67 (by omega)]
      · show zR X (d + 10) 241 (0, [.ref 460, .int _], [], M1) = _
        have z0 : ¬ M1.1 503 k = 0 := by rw [o1 503 (by omega), q2]; decide
        have hb : M1.1 504 k = 0 ∨ M1.1 504 k = 1 := by
          rw [e504]
          obtain ⟨⟨b, b1, b2⟩, -⟩ := id hE
          have b2' : M.1 504 k = Int32.ofNat b := b2
          rw [b2']
          rcases (show b = 0 ∨ b = 1 by omega) with rfl | rfl
          · exact Or.inl rfl
          · exact Or.inr rfl
        rw [t241_0 _ _ hG1, r135i (y := 0) (z := 3) (a := 0) (b := 3) hG1 rfl rfl, if_neg c, Option.bind_some]
        dsimp only [zps]
        rw [t241_9 _ _ _ hG1 (fun _ => vp_of hk (by omega)) (fun _ _ => by rw [kk]; exact hb), if_neg (by decide), kk, if_pos z0, w1, Option.bind_some]
        dsimp only [zps]
        rw [t241_39 _ _ hG3]
      · unfold iTp
        rw [o4 1 (by omega), o4 2 (by omega), o460 26 (by decide) (by decide) (by decide) (by decide), o460 35 (by decide) (by decide) (by decide) (by decide), o4 485 (by omega)]
        exact hT
      · obtain ⟨u1, u2⟩ := h5 k' hk'
        rw [o4 113 (by omega), o4 503 (by omega)]
        refine ⟨u1, u2.imp id (fun q => ⟨q.1, ?_⟩)⟩
        exact iRl_c2 hG (hrea k' hk') (fun a v1 v2 => o4 a (by omega)) (oref _) (ldR_ag hk' (by rw [o4 504 (by omega)]) (fun j _ => by rw [o4 502 (by omega)])) q.2
