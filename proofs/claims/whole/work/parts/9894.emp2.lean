/-! ===== the class reads an empire ===== -/
theorem nuE_3 : ∀ s, s < 5 → nuE s ≤ 3 := by decide
theorem moE_8 : ∀ s, s < 5 → moE s ≤ 8 := by decide
theorem s23l {X : (Nat → Int32) × Nat} {d s : Nat} {t : zTx} {cn : Nat → Nat} {n3 x3 : Int32} (hs : s < 5) (hcs : cn s < moE s) : ∀ m {i p : Nat} {tb : zTb} {M : zM}, i + m = nuE s → cE t p cn tb M → (∀ i', i' < i → M.1 (10 + (3 * s + i')) (cn s) = Int32.ofNat (tb (3 * s + i') (cn s)) ∧ tb (3 * s + i') (cn s) < 10000) → match pNmL t s (cn s) m i p tb with
    | .inl f => ∃ M', zR X (d + 2) 23 (107, [.ref 6, .int n3, .int (Int32.ofNat s), .int x3, .int (Int32.ofNat i)], [], M) = some (some (.int 0), M') ∧ eF M M' ∧ eZ f M'
    | .inr z => ∃ M', zR X (d + 2) 23 (107, [.ref 6, .int n3, .int (Int32.ofNat s), .int x3, .int (Int32.ofNat i)], [], M) = some (some (.int 1), M') ∧ eF M M' ∧ cE t z.1 (upC cn s) z.2 M' := by
  have ts : (Int32.ofNat s).toNatClampNeg = s := toNat_of (by omega)
  have h3 := nuE_3 s hs
  have h8 := moE_8 s hs
  obtain ⟨a1, a2, -, -⟩ := arE_s (X := X) s hs
  obtain ⟨n0, -, -, -⟩ := arE_n (X := X)
  have vs : vp_in (Int32.ofNat s) 5 := vp_of hs (by omega)
  intro m
  induction m with
  | zero =>
    intro i p tb M hi h hin
    obtain ⟨hG, hT, hcu, h9, h8c, hcol⟩ := h
    have ei : i = nuE s := by omega
    have hle : zxf X 60 (Int32.ofNat s).toNatClampNeg ≤ Int32.ofNat i := by rw [ts, a1, ei]; exact Int32.le_refl _
    rw [pNmL]
    refine ⟨zsI M 8 s (Int32.ofNat (cn s + 1)), ?_, ⟨z2_I, fun a q1 q2 => zI_n1 (by omega), fun k hk => by rw [zI_n (by omega)]⟩, hG, ⟨hT.1, by rw [zI_n (by omega)]; exact hT.2.1, fun k hk => by rw [zI_n (by omega)]; exact hT.2.2 k hk⟩, cur_c (zI_n1 (by omega)) (zI_n1 (by omega)) (zI_n1 (by omega)) (zI_n1 (by omega)) hcu, by rw [zI_n (by omega)]; exact h9, fun s' hs' => ?_, fun s' i' r hs' hi' hr => ?_⟩
    · rw [t23_107 _ _ _ _ _ hG (by rw [n0]; exact vs) (fun _ => vs) (fun h => absurd hle h), if_pos hle, ts, h8c s hs, of_succ]
    · rw [zI_s]
      show _ = Int32.ofNat (if s' = s then cn s + 1 else cn s')
      by_cases e : s' = s
      · rw [if_pos e, if_pos e]
      · rw [if_neg e, if_neg e]; exact h8c s' hs'
    · have hr : r < (if s' = s then cn s + 1 else cn s') := hr
      rw [zI_n (by omega)]
      by_cases e : s' = s
      · rw [if_pos e] at hr
        subst e
        by_cases e2 : r = cn s'
        · rw [e2]; exact (hin i' (by omega)).1
        · exact hcol s' i' r hs' hi' (by omega)
      · rw [if_neg e] at hr
        exact hcol s' i' r hs' hi' hr
  | succ m ih =>
    intro i p tb M hi h hin
    obtain ⟨hG, hT, hcu, h9, h8c, hcol⟩ := id h
    have hle : ¬ zxf X 60 (Int32.ofNat s).toNatClampNeg ≤ Int32.ofNat i := by rw [ts, a1, of_le (by omega) (by omega)]; omega
    have ec : (3 : Int32) * Int32.ofNat s + Int32.ofNat i = Int32.ofNat (3 * s + i) := by rw [show (3 : Int32) = Int32.ofNat 3 from rfl, of_mul, ← Int32.ofNat_add]
    obtain ⟨k1, k2, k3⟩ := s24 (X := X) (d := d) (p := p) (c := 3 * s + i) (r := cn s) (tb := tb) hG hT hcu (by omega) (by omega) (fun h10 => by
      have e3 : s = 3 := by omega
      have e1 : i = 1 := by omega
      have := hin 0 (by omega)
      subst e3
      exact this)
    have hu : zR X (d + 2) 23 (107, [.ref 6, .int n3, .int (Int32.ofNat s), .int x3, .int (Int32.ofNat i)], [], M) = (zC X (d + 1) 24 [.ref 6, .int (Int32.ofNat (3 * s + i)), .int (Int32.ofNat (cn s))] M).bind fun o => zR X (d + 2) 23 (136, [.ref 6, .int n3, .int (Int32.ofNat s), .int x3, .int (Int32.ofNat i)], zps o.1 [], o.2) := by
      rw [t23_107 _ _ _ _ _ hG (by rw [n0]; exact vs) (fun _ => vs) (fun _ => vs), if_neg hle, ts, h8c s hs, ec]
    rw [pNmL]
    by_cases c1 : kk t p = 258
    · rw [if_neg (not_not_intro c1)]
      by_cases c2 : 5 < ken isD t p - p ∨ dvl t p < loE (3 * s + i) ∨ hiE (3 * s + i) < dvl t p ∨ (3 * s + i = 10 ∧ dvl t p = tb 9 (cn s))
      · rw [if_pos c2]
        obtain ⟨M2, w1, w2, w3⟩ := k2 c1 c2
        refine ⟨M2, ?_, w2, w3⟩
        rw [hu, w1, Option.bind_some]
        dsimp only [zps]
        rw [t23_136 _ _ _ _ _ _ w3.2.2.2, if_neg (by decide)]
      · rw [if_neg c2]
        obtain ⟨M2, w1, w2, w3, w4, w5, w6⟩ := k3 c1 c2
        have hhi := (arE_c (X := X) (3 * s + i) (by omega)).2.2.2
        have hF : eF M M2 := ⟨w2, fun a q1 q2 => w3 a q1 (by omega), fun k hk => w5 k (by omega) (by omega) (by omega)⟩
        have hE2 : cE t (kA t p) cn (upT tb (3 * s + i) (cn s) (dvl t p)) M2 := by
          refine ⟨eF_g hF hG, eF_q hF hT, w6, by rw [w5 9 (by omega) (by omega) (by omega)]; exact h9, fun s' hs' => by rw [w3 8 (by omega) (by omega)]; exact h8c s' hs', fun s' i' r hs' hi' hr => ?_⟩
          have h3' := nuE_3 s' hs'
          unfold upT
          by_cases e : 3 * s' + i' = 3 * s + i
          · have es : s' = s := by omega
            subst es
            rw [if_neg (by omega), e, w4, if_neg (by omega), ← e]
            exact hcol s' i' r hs' hi' hr
          · rw [if_neg (by omega), w3 _ (by omega) (by omega)]
            exact hcol s' i' r hs' hi' hr
        have hi2 := ih (i := i + 1) (by omega) hE2 (fun i' hi' => by
          unfold upT
          by_cases e : i' = i
          · rw [e, if_pos ⟨rfl, rfl⟩, w4, if_pos rfl]
            exact ⟨rfl, by omega⟩
          · rw [if_neg (by omega), w3 _ (by omega) (by omega)]
            exact hin i' (by omega))
        have hu2 : zR X (d + 2) 23 (107, [.ref 6, .int n3, .int (Int32.ofNat s), .int x3, .int (Int32.ofNat i)], [], M) = zR X (d + 2) 23 (107, [.ref 6, .int n3, .int (Int32.ofNat s), .int x3, .int (Int32.ofNat (i + 1))], [], M2) := by
          rw [hu, w1, Option.bind_some]
          dsimp only [zps]
          rw [t23_136 _ _ _ _ _ _ hE2.1, if_pos (by decide), of_succ]
        cases hpv : pNmL t s (cn s) m (i + 1) (kA t p) (upT tb (3 * s + i) (cn s) (dvl t p)) with
        | inl f =>
          rw [hpv] at hi2
          obtain ⟨M3, y1, y2, y3⟩ := hi2
          exact ⟨M3, hu2.trans y1, eF_t hF y2, y3⟩
        | inr z =>
          rw [hpv] at hi2
          obtain ⟨M3, y1, y2, y3⟩ := hi2
          exact ⟨M3, hu2.trans y1, eF_t hF y2, y3⟩
    · rw [if_pos c1]
      obtain ⟨M2, w1, w2, w3⟩ := k1 c1
      refine ⟨M2, ?_, w2, w3⟩
      rw [hu, w1, Option.bind_some]
      dsimp only [zps]
      rw [t23_136 _ _ _ _ _ _ w3.2.2.2, if_neg (by decide)]
theorem s23 {X : (Nat → Int32) × Nat} {d n p : Nat} {t : zTx} {cn : Nat → Nat} {tb : zTb} {M : zM} (h : cE t p cn tb M) (hV : eV cn tb) (hn : n ≤ 40) : match pECl t n p cn tb with
    | .inl f => ∃ M', zC X (d + 2) 23 [.ref 6, .int (Int32.ofNat n)] M = some (some (.int 0), M') ∧ eF M M' ∧ eZ f M'
    | .inr z => ∃ M', zC X (d + 2) 23 [.ref 6, .int (Int32.ofNat n)] M = some (some (.int 1), M') ∧ eF M M' ∧ cE t z.1 z.2.1 z.2.2 M' := by
  obtain ⟨hG, hT, hcu, h9, h8c, hcol⟩ := id h
  have hb : ∀ k, k < t.1 → t.2 k < 256 := fun k hk => (hT.2.2 k hk).1
  obtain ⟨h7, h8⟩ : M.1 1 7 = kI (kk t p) ∧ M.1 1 8 = kN t p := by obtain ⟨n, i, -, -, -, -, h7, h8⟩ := hcu; exact ⟨h7, h8⟩
  have e2 : (kI (kk t p) = -2) ↔ kk t p = 257 := kI_inj (k := 257) (kk_le hb) (by omega)
  have hu : zC X (d + 2) 23 [.ref 6, .int (Int32.ofNat n)] M = zR X (d + 2) 23 (0, [.ref 6, .int (Int32.ofNat n), zjk, zjk, zjk], [], M) := rfl
  obtain ⟨-, n1, -, -⟩ := arE_n (X := X)
  have fl0 : ∀ s0 : Int32, ∃ M', ((zC X (d + 1) 97 [.ref 1, .int 0] M).bind fun o => zR X (d + 2) 23 (41, [.ref 6, .int (Int32.ofNat n), .int s0, zjk, zjk], zps o.1 [], o.2)) = some (some (.int 0), M') ∧ eF M M' ∧ eZ (1 + 8 * p + 0) M' := fun s0 => by
    obtain ⟨M2, w1, w2, w3⟩ := e_fail (X := X) (d := d + 1) (w := 0) hG hT hcu (by omega)
    rw [show (0 : Int32) = Int32.ofNat 0 from rfl, w1, Option.bind_some]
    dsimp only [zps]
    rw [t23_41 _ _ _ _ _ _ w3.2.2.2 (Or.inl rfl)]
    exact ⟨M2, rfl, w2, w3⟩
  have fl4 : ∀ s0 x3 : Int32, ∃ M', ((zC X (d + 1) 97 [.ref 1, .int 4] M).bind fun o => zR X (d + 2) 23 (96, [.ref 6, .int (Int32.ofNat n), .int s0, .int x3, zjk], zps o.1 [], o.2)) = some (some (.int 0), M') ∧ eF M M' ∧ eZ (1 + 8 * p + 4) M' := fun s0 x3 => by
    obtain ⟨M2, w1, w2, w3⟩ := e_fail (X := X) (d := d + 1) (w := 4) hG hT hcu (by omega)
    rw [show (4 : Int32) = Int32.ofNat 4 from rfl, w1, Option.bind_some]
    dsimp only [zps]
    rw [t23_96 _ _ _ _ _ _ w3.2.2.2 (Or.inl rfl)]
    exact ⟨M2, rfl, w2, w3⟩
  have hm1 : (-1 : Int32) < 0 := by decide
  unfold pECl
  by_cases c1 : kk t p = 257 ∧ kw t p < 5
  · have hN : kN t p = Int32.ofNat (kw t p) := by
      rcases kcs (p := p) hb with g | g | g | g | g
      · omega
      · rw [g.2.2.2.2]; unfold kNw; rw [if_neg (by omega)]
      · omega
      · have := g.2.2.1; split at this <;> omega
      · omega
    rw [if_neg (not_not_intro c1)]
    generalize hs : kw t p = s at hN c1
    have hs5 := c1.2
    obtain ⟨a1, a2, -, a4⟩ := arE_s (X := X) s hs5
    have ts : (Int32.ofNat s).toNatClampNeg = s := toNat_of (by omega)
    have vs : vp_in (Int32.ofNat s) 5 := vp_of hs5 (by omega)
    have vs1 : vp_in (Int32.ofNat s) (zxn X 61) := by rw [n1]; exact vs
    have l0 : ¬ Int32.ofNat s < 0 := nneg (by omega)
    have l5 : Int32.ofNat s < 5 := (of_lt (k := 5) (by omega) (by omega)).2 hs5
    have l40 : ((40 : Int32) ≤ Int32.ofNat n) ↔ 40 ≤ n := of_le (j := 40) (by omega) (by omega)
    have ls : (Int32.ofNat s = 0) ↔ s = 0 := of_inj (k := 0) (by omega) (by omega)
    have ln : (Int32.ofNat n = 0) ↔ n = 0 := of_inj (k := 0) (by omega) (by omega)
    have hcm := hV.1 s hs5
    have lm : (M.1 8 (Int32.ofNat s).toNatClampNeg < zxf X 61 (Int32.ofNat s).toNatClampNeg) ↔ cn s < moE s := by rw [ts, h8c s hs5, a2]; exact of_lt (by omega) (by omega)
    rw [hu, t23_0 _ _ _ _ _ hG, h7, if_neg (not_not_intro (e2.mpr c1.1)), h8, hN, t23_23 _ _ _ _ _ _ hG (fun _ _ _ _ _ => vs) (fun _ _ _ _ _ => vs1) (fun _ _ _ _ _ => vs) (fun _ _ _ _ _ => vs1), if_neg l0, if_pos l5]
    by_cases c2 : 40 ≤ n ∨ ¬ (s = 0 ↔ n = 0) ∨ moE s ≤ cn s
    · rw [if_pos c2]
      by_cases k0 : s = 0
      · rw [if_neg (not_not_intro (ls.mpr k0))]
        by_cases k1 : 40 ≤ n
        · rw [if_pos (l40.mpr k1)]; exact fl4 _ _
        · rw [if_neg (mt l40.mp k1)]
          by_cases k2 : n = 0
          · rw [if_neg (not_not_intro (ln.mpr k2)), if_neg (mt lm.mp (by omega))]; exact fl4 _ _
          · rw [if_pos (mt ln.mp k2)]; exact fl4 _ _
      · rw [if_pos (mt ls.mp k0)]
        by_cases k1 : 40 ≤ n
        · rw [if_pos (l40.mpr k1)]; exact fl4 _ _
        · rw [if_neg (mt l40.mp k1)]
          by_cases k2 : n = 0
          · rw [if_neg (not_not_intro (ln.mpr k2))]; exact fl4 _ _
          · rw [if_pos (mt ln.mp k2), if_neg (mt lm.mp (by omega))]; exact fl4 _ _
    · rw [if_neg c2]
      -- the numbers
      obtain ⟨M2, w1, w2, w3, w4, w5⟩ := s95 (X := X) (d := d + 1) hG hcu
      have hF : eF M M2 := ⟨w2, fun a q1 _ => w3 a q1, fun k hk => w4 k (by omega) (by omega) (by omega)⟩
      have hE2 : cE t (kA t p) cn tb M2 := ⟨eF_g hF hG, eF_q hF hT, w5, by rw [w4 9 (by omega) (by omega) (by omega)]; exact h9, fun s' hs' => by rw [w3 8 (by omega)]; exact h8c s' hs', fun s' i r hs' hi hr => by rw [w3 _ (by omega)]; exact hcol s' i r hs' hi hr⟩
      have go : ∀ x3 : Int32, match (match pNmL t s (cn s) (nuE s) 0 (kA t p) tb with
          | .inl f => Sum.inl f
          | .inr z => Sum.inr (z.1, upC cn s, z.2) : Nat ⊕ (Nat × (Nat → Nat) × zTb)) with
        | .inl f => ∃ M', ((zC X (d + 1) 95 [.ref 1] M).bind fun o => zR X (d + 2) 23 (104, [.ref 6, .int (Int32.ofNat n), .int (Int32.ofNat s), .int x3, zjk], zps o.1 [], o.2)) = some (some (.int 0), M') ∧ eF M M' ∧ eZ f M'
        | .inr z => ∃ M', ((zC X (d + 1) 95 [.ref 1] M).bind fun o => zR X (d + 2) 23 (104, [.ref 6, .int (Int32.ofNat n), .int (Int32.ofNat s), .int x3, zjk], zps o.1 [], o.2)) = some (some (.int 1), M') ∧ eF M M' ∧ cE t z.1 z.2.1 z.2.2 M' := by
        intro x3
        have hl := s23l (X := X) (d := d) (n3 := Int32.ofNat n) (x3 := x3) hs5 (by omega) (nuE s) (i := 0) (by omega) hE2 (fun i' hi' => absurd hi' (Nat.not_lt_zero i'))
        have he : ((zC X (d + 1) 95 [.ref 1] M).bind fun o => zR X (d + 2) 23 (104, [.ref 6, .int (Int32.ofNat n), .int (Int32.ofNat s), .int x3, zjk], zps o.1 [], o.2)) = zR X (d + 2) 23 (107, [.ref 6, .int (Int32.ofNat n), .int (Int32.ofNat s), .int x3, .int (Int32.ofNat 0)], [], M2) := by
          rw [w1, Option.bind_some]
          dsimp only [zps]
          rw [t23_104 _ _ _ _ _ hE2.1]
          rfl
        rw [he]
        cases hpv : pNmL t s (cn s) (nuE s) 0 (kA t p) tb with
        | inl f =>
          rw [hpv] at hl
          obtain ⟨M3, y1, y2, y3⟩ := hl
          exact ⟨M3, y1, eF_t hF y2, y3⟩
        | inr z =>
          rw [hpv] at hl
          obtain ⟨M3, y1, y2, y3⟩ := hl
          exact ⟨M3, y1, eF_t hF y2, y3⟩
      by_cases k0 : s = 0
      · rw [if_neg (not_not_intro (ls.mpr k0)), if_neg (mt l40.mp (by omega)), if_neg (not_not_intro (ln.mpr (by omega))), if_pos (lm.mpr (by omega))]
        exact go 1
      · rw [if_pos (mt ls.mp k0), if_neg (mt l40.mp (by omega)), if_pos (mt ln.mp (by omega)), if_pos (lm.mpr (by omega))]
        exact go 0
  · rw [if_pos c1]
    by_cases k1 : kk t p = 257
    · have hN : kN t p = kNw t p := by
        rcases kcs (p := p) hb with g | g | g | g | g
        · omega
        · exact g.2.2.2.2
        · omega
        · have := g.2.2.1; split at this <;> omega
        · omega
      have vx : ∀ {P : Prop}, kN t p < 5 → ¬ kN t p < 0 → P := fun h5 h0 => by
        exfalso
        rw [hN] at h5 h0
        unfold kNw at h5 h0
        by_cases k5 : kw t p = 20
        · rw [if_pos k5] at h0; exact h0 hm1
        · rw [if_neg k5] at h5
          have := (of_lt (k := 5) (by have := kw_le (t := t) (p := p); omega) (by omega)).1 h5
          omega
      rw [hu, t23_0 _ _ _ _ _ hG, h7, if_neg (not_not_intro (e2.mpr k1)), h8, t23_23 _ _ _ _ _ _ hG (fun a b _ _ _ => vx b a) (fun a b _ _ _ => vx b a) (fun a b _ _ _ => vx b a) (fun a b _ _ _ => vx b a)]
      by_cases k2 : kN t p < 0
      · rw [if_pos k2]; exact fl0 _
      · rw [if_neg k2]
        by_cases k3 : kN t p < 5
        · exact vx k3 k2
        · rw [if_neg k3]; exact fl0 _
    · rw [hu, t23_0 _ _ _ _ _ hG, h7, if_pos (mt e2.mp k1), t23_23 _ _ _ _ _ _ hG (fun a _ _ _ _ => absurd hm1 a) (fun a _ _ _ _ => absurd hm1 a) (fun a _ _ _ _ => absurd hm1 a) (fun a _ _ _ _ => absurd hm1 a), if_pos hm1]
      exact fl0 _
/-- behind the last clause -/
theorem s22l {X : (Nat → Int32) × Nat} {d : Nat} {t : zTx} : ∀ m {n p : Nat} {cn : Nat → Nat} {tb : zTb} {M : zM}, n + m = 40 → cE t p cn tb M → eV cn tb → match pEmp t m n p cn tb with
    | .inl f => ∃ M', zR X (d + 3) 22 (18, [.ref 6, .int 1, .int (Int32.ofNat n)], [], M) = some (some (.int (Int32.ofNat f)), M') ∧ eF M M' ∧ 0 < f ∧ f < 4000
    | .inr z => ∃ M' n', zR X (d + 3) 22 (18, [.ref 6, .int 1, .int (Int32.ofNat n)], [], M) = ((zC X (d + 2) 16 [.ref 7] M').bind fun o => zR X (d + 3) 22 (75, [.ref 6, .int 0, .int n'], zps o.1 [], o.2)) ∧ eF M M' ∧ (∃ p', cE t p' z.1 z.2 M') := by
  intro m
  induction m using Nat.strongRecOn with
  | _ m ih =>
    intro n p cn tb M hn h hV
    have hv := s23 (X := X) (d := d) (n := n) h hV (by omega)
    have hle : ¬ (40 : Int32) < Int32.ofNat n := by rw [show (40 : Int32) = Int32.ofNat 40 from rfl, of_lt (by omega) (by omega)]; omega
    have hu : zR X (d + 3) 22 (18, [.ref 6, .int 1, .int (Int32.ofNat n)], [], M) = (zC X (d + 2) 23 [.ref 6, .int (Int32.ofNat n)] M).bind fun o => zR X (d + 3) 22 (33, [.ref 6, .int 1, .int (Int32.ofNat n)], zps o.1 [], o.2) := by
      rw [t22_18 _ _ _ h.1, if_neg (by decide), if_neg hle]
    cases hpv : pECl t n p cn tb with
    | inl f =>
      have e : pEmp t m n p cn tb = .inl f := by
        cases m with
        | zero => rw [pEmp, hpv]
        | succ m => rw [pEmp, hpv]
      rw [e]
      rw [hpv] at hv
      obtain ⟨M2, w1, w2, w3, w4, w5, w6⟩ := hv
      refine ⟨M2, ?_, w2, w4, w5⟩
      rw [hu, w1, Option.bind_some]
      dsimp only [zps]
      rw [t22_33 _ _ _ _ w6, if_pos rfl, t22_18 _ _ _ w6, if_pos rfl, w3, if_pos (f_ne w4 w5)]
    | inr s =>
      rw [hpv] at hv
      obtain ⟨M2, w1, w2, w3⟩ := hv
      obtain ⟨g1, g2, g3, g4⟩ := pECl_v hV hpv
      obtain ⟨m', rfl⟩ : ∃ m', m = m' + 1 := ⟨m - 1, by omega⟩
      obtain ⟨x1, x2, x3⟩ := s98 (X := X) (d := d + 1) w3.1 w3.2.1 w3.2.2.1
      have e1 : zR X (d + 3) 22 (18, [.ref 6, .int 1, .int (Int32.ofNat n)], [], M) = (zC X (d + 2) 98 [.ref 1] M2).bind fun o => zR X (d + 3) 22 (43, [.ref 6, .int 1, .int (Int32.ofNat n)], zps o.1 [], o.2) := by
        rw [hu, w1, Option.bind_some]
        dsimp only [zps]
        rw [t22_33 _ _ _ _ w3.1, if_neg (by decide)]
        rfl
      rw [pEmp, hpv]
      dsimp only
      by_cases c1 : kk t s.1 = 59
      · rw [if_pos c1]
        obtain ⟨M3, y1, y2, y3, y4, y5⟩ := x1 c1
        have hF3 : eF M2 M3 := ⟨y2, fun a q1 _ => y3 a q1, fun k hk => y4 k (by omega) (by omega) (by omega)⟩
        have hE3 : cE t (kA t s.1) s.2.1 s.2.2 M3 := ⟨eF_g hF3 w3.1, eF_q hF3 w3.2.1, y5, by rw [y4 9 (by omega) (by omega) (by omega)]; exact w3.2.2.2.1, fun s' hs' => by rw [y3 8 (by omega)]; exact w3.2.2.2.2.1 s' hs', fun s' i r hs' hi hr => by rw [y3 _ (by omega)]; exact w3.2.2.2.2.2 s' i r hs' hi hr⟩
        have hi := ih m' (by omega) (n := n + 1) (by omega) hE3 g1
        have e2 : zR X (d + 3) 22 (18, [.ref 6, .int 1, .int (Int32.ofNat n)], [], M) = zR X (d + 3) 22 (18, [.ref 6, .int 1, .int (Int32.ofNat (n + 1))], [], M3) := by
          rw [e1, y1, Option.bind_some]
          dsimp only [zps]
          rw [t22_43 _ _ _ _ hE3.1, if_neg (by decide), of_succ]
        cases hpw : pEmp t m' (n + 1) (kA t s.1) s.2.1 s.2.2 with
        | inl f =>
          rw [hpw] at hi
          obtain ⟨M4, z1, z2, z3⟩ := hi
          exact ⟨M4, e2.trans z1, eF_t (eF_t w2 hF3) z2, z3⟩
        | inr z =>
          rw [hpw] at hi
          obtain ⟨M4, n', z1, z2, z3⟩ := hi
          exact ⟨M4, n', e2.trans z1, eF_t (eF_t w2 hF3) z2, z3⟩
      · rw [if_neg c1]
        by_cases c2 : kk t s.1 = 256
        · rw [if_pos c2]
          refine ⟨M2, Int32.ofNat (n + 1), ?_, w2, s.1, w3⟩
          rw [e1, x2 c2, Option.bind_some]
          dsimp only [zps]
          rw [t22_43 _ _ _ _ w3.1, if_pos rfl, t22_18 _ _ _ w3.1, if_pos rfl, if_neg (not_not_intro w3.2.2.2.1), of_succ]
          rfl
        · rw [if_neg c2]
          have hG3 : zGE (zsI M2 1 9 (Int32.ofNat (1 + 8 * s.1))) := w3.1
          have hp : s.1 ≤ 400 := by
            obtain ⟨-, hT, ⟨n, i, -, -, hp, -⟩, -⟩ := w3
            have := kS_le (t := t) i
            have := hT.1
            omega
          refine ⟨zsI M2 1 9 (Int32.ofNat (1 + 8 * s.1)), ?_, eF_t w2 ⟨z2_I, fun a q _ => zI_n1 q, fun k hk => by rw [zI_s, if_neg (by omega)]⟩, by omega, by omega⟩
          rw [e1, x3 c1 c2, Option.bind_some]
          dsimp only [zps]
          rw [t22_43 _ _ _ _ hG3, if_pos rfl, t22_18 _ _ _ hG3, if_pos rfl, zI_s, if_pos rfl, if_pos (f_ne (by omega) (by omega))]
          rfl
