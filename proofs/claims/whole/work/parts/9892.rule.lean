/-! ===== rule: both calls answer alike, and it stands again ===== -/
theorem ruD_x {M M' : zM} {p q z : Nat} (hz : M.1 q 2 = Int32.ofNat z) (hz4 : z ≤ 400) (h0 : M'.1 p 2 = M.1 q 2) (h1 : ∀ k, k < 400 → M'.1 (p + 1) k = M.1 (q + 1) k) (h2 : ∀ k, k < 400 → M'.1 (p + 2) k = M.1 (q + 2) k) : ∀ {cl : List zCl} {o : Nat}, ruD M q o cl → ruD M' p o cl
  | [], o, h => ⟨by rw [h0]; exact h.1, h.2⟩
  | c :: rest, o, h => by
    have hn := ruD_n hz hz4 h.2.2
    obtain ⟨a1, a2, a3⟩ := h
    exact ⟨zsg_k (fun k k1 k2 => ⟨h1 k (by omega), h2 k (by omega)⟩) a1, by rw [h1 _ (by omega)]; exact a2, ruD_x hz hz4 h0 h1 h2 a3⟩
theorem ruR_v {M M' : zM} {r nr : Nat} (h6 : ∀ k, k < 300 * nr → M'.1 486 k = M.1 486 k ∧ M'.1 487 k = M.1 487 k) (h9 : ∀ k, k < 12 * nr → M'.1 489 k = M.1 489 k ∧ M'.1 490 k = M.1 490 k ∧ M'.1 491 k = M.1 491 k) (h8 : ∀ k, k < nr → M'.1 488 k = M.1 488 k) (hr : r < nr) : ∀ {cl : List zCl} {c : Nat}, ruR M r c cl → ruR M' r c cl
  | [], c, h => ⟨by rw [h8 r hr]; exact h.1, h.2⟩
  | q :: rest, c, h => by
    have hn := (ruR_n h).2
    rw [List.length_cons] at hn
    obtain ⟨⟨o, a1, a2, a3, a4, a5⟩, h2⟩ := h
    obtain ⟨e1, e2, e3⟩ := h9 (12 * r + c) (by omega)
    exact ⟨⟨o, by rw [e1]; exact a1, by rw [e2]; exact a2, by rw [e3]; exact a3, a4, zsg_k (fun k k1 k2 => by rw [List.length_append] at k2; exact h6 k (by omega)) a5⟩, ruR_v h6 h9 h8 hr h2⟩
theorem iRl_up {nr nr' r : Nat} {M N : zM} (h : iRl nr r M N) (hn : nr ≤ nr') : iRl nr' r M N := by
  obtain ⟨a, b, ⟨i, c1, c2, c3⟩, d⟩ := h
  exact ⟨a, b, ⟨i, by omega, c2, c3⟩, d⟩
/-- the class' side -/
theorem s103 {X : (Nat → Int32) × Nat} {d nr : Nat} {t : zTx} {M : zM} (hG : zGE M) (hT : tqD t M) (h4 : M.1 0 4 = Int32.ofNat nr) (hnr : nr < 6) :
    (∀ f, pRul t 12 0 (kS t 0) 0 = .inl f → ∃ M', zC X (d + 27) 103 [.ref 0] M = some (some (.int (-2 - Int32.ofNat f)), M') ∧ M'.2 = M.2 ∧ (∀ a, ¬ (1 ≤ a ∧ a ≤ 37 ∧ (a ≠ 2 ∧ (a ≤ 5 ∨ 34 ≤ a))) → M'.1 a = M.1 a) ∧ M'.1 1 1 = 0) ∧
    (∀ l, pRul t 12 0 (kS t 0) 0 = .inr l → ∃ M', zC X (d + 27) 103 [.ref 0] M = some (some (.int (Int32.ofNat nr)), M') ∧ M'.2 = M.2 ∧ (∀ a, a ≠ 0 → ¬ (150 + 3 * nr ≤ a ∧ a ≤ 152 + 3 * nr) → ¬ (1 ≤ a ∧ a ≤ 37 ∧ (a ≠ 2 ∧ (a ≤ 5 ∨ 34 ≤ a))) → M'.1 a = M.1 a) ∧ M'.1 1 1 = 0 ∧ M'.1 0 4 = Int32.ofNat (nr + 1) ∧ ruD M' (150 + 3 * nr) 0 l) := by
  have hu : zC X (d + 27) 103 [.ref 0] M = zR X (d + 27) 103 (0, [.ref 0, zjk], [], M) := rfl
  have c6 : (M.1 0 4 < 6) := by rw [h4]; exact (of_lt (k := 6) (by omega) (by omega)).2 hnr
  obtain ⟨k1, k2⟩ := s61z (X := X) (d := d) hG hT
  obtain ⟨r1, r2⟩ := hrul hG hnr
  have gO : ∀ {M1 : zM}, cG M M1 → ∀ a, ¬ (1 ≤ a ∧ a ≤ 37 ∧ (a ≠ 2 ∧ (a ≤ 5 ∨ 34 ≤ a))) → M1.1 a = M.1 a := fun h a ha => h.2.1 a (by omega) (by omega) (by omega) (by omega) (by omega) (by omega) (by omega) (by omega)
  refine ⟨fun f hf => ?_, fun l hl => ?_⟩
  · obtain ⟨M1, w1, w2, w3, w4⟩ := k1 f hf
    have hG1 : zGE M1 := zGE_of hG (by rw [w2.1])
    have hne := f_ne w3 w4
    refine ⟨zsI M1 1 1 0, ?_, w2.1, fun a ha => by rw [zI_n1 (by omega)]; exact gO w2 a ha, by rw [zI_s, if_pos rfl]⟩
    rw [hu, t103_0 _ _ hG, if_pos c6, w1, Option.bind_some]
    dsimp only [zps]
    rw [t103_18 _ _ _ hG1 (fun h => absurd h hne) (fun h => absurd h hne) (fun h => absurd h hne), if_neg hne]
  · obtain ⟨M1, w1, w2, w3⟩ := k2 l hl
    have hG1 : zGE M1 := zGE_of hG (by rw [w2.1])
    obtain ⟨q1, q2⟩ := hrul hG1 hnr
    have h04 : M1.1 0 4 = Int32.ofNat nr := by rw [gO w2 0 (by omega)]; exact h4
    have hv : (M1.1 0 4).toNatClampNeg = nr := by rw [h04]; exact toNat_of (by omega)
    have h59 : zC X (d + 26) 59 [.ref (150 + 3 * nr), .ref 35] (zsI M1 1 1 0) = some (none, zrI (zrI (zsI (zsI M1 1 1 0) (150 + 3 * nr) 2 ((zsI M1 1 1 0).1 35 2)) (150 + 3 * nr + 1) (va_cpy ((zsI M1 1 1 0).1 (35 + 1)) ((zsI M1 1 1 0).1 (150 + 3 * nr + 1)) 0 0 400)) (150 + 3 * nr + 2) (va_cpy ((zsI M1 1 1 0).1 (35 + 2)) ((zsI M1 1 1 0).1 (150 + 3 * nr + 2)) 0 0 400)) := by
      show zR X (d + 26) 59 (0, [.ref (150 + 3 * nr), .ref 35], [], zsI M1 1 1 0) = _
      rw [t59_0 _ _ _ (show zGE (zsI M1 1 1 0) from hG1) q2 zq_35 (by omega) (by omega) (by omega)]
    have e04 : (zrI (zrI (zsI (zsI M1 1 1 0) (150 + 3 * nr) 2 ((zsI M1 1 1 0).1 35 2)) (150 + 3 * nr + 1) (va_cpy ((zsI M1 1 1 0).1 (35 + 1)) ((zsI M1 1 1 0).1 (150 + 3 * nr + 1)) 0 0 400)) (150 + 3 * nr + 2) (va_cpy ((zsI M1 1 1 0).1 (35 + 2)) ((zsI M1 1 1 0).1 (150 + 3 * nr + 2)) 0 0 400)).1 0 4 = Int32.ofNat nr := by
      rw [zr_n (by omega), zr_n (by omega), zI_n (by omega), zI_n (by omega)]
      exact h04
    refine ⟨zsI (zrI (zrI (zsI (zsI M1 1 1 0) (150 + 3 * nr) 2 ((zsI M1 1 1 0).1 35 2)) (150 + 3 * nr + 1) (va_cpy ((zsI M1 1 1 0).1 (35 + 1)) ((zsI M1 1 1 0).1 (150 + 3 * nr + 1)) 0 0 400)) (150 + 3 * nr + 2) (va_cpy ((zsI M1 1 1 0).1 (35 + 2)) ((zsI M1 1 1 0).1 (150 + 3 * nr + 2)) 0 0 400)) 0 4 (Int32.ofNat (nr + 1)), ?_, ?_, fun a a1 a2 a3 => ?_, ?_, ?_, ?_⟩
    · have hGx : zGE (zrI (zrI (zsI (zsI M1 1 1 0) (150 + 3 * nr) 2 ((zsI M1 1 1 0).1 35 2)) (150 + 3 * nr + 1) (va_cpy ((zsI M1 1 1 0).1 (35 + 1)) ((zsI M1 1 1 0).1 (150 + 3 * nr + 1)) 0 0 400)) (150 + 3 * nr + 2) (va_cpy ((zsI M1 1 1 0).1 (35 + 2)) ((zsI M1 1 1 0).1 (150 + 3 * nr + 2)) 0 0 400)) := hG1
      rw [hu, t103_0 _ _ hG, if_pos c6, w1, Option.bind_some]
      dsimp only [zps]
      rw [t103_18 _ _ _ hG1 (fun _ => by rw [h04]; exact vp_of hnr (by omega)) (fun _ => by rw [hv, q1]; omega) (fun _ => by rw [hv, q1]; exact zis_q hG1 q2), if_pos rfl, hv, q1, h59, Option.bind_some]
      dsimp only [zps]
      rw [t103_55 _ _ hGx, e04, of_succ, of_pred (by omega), show nr + 1 - 1 = nr by omega]
    · rw [z2_I, z2_r, z2_r, z2_I, z2_I]; exact w2.1
    · rw [zI_n1 (by omega), zr_n (by omega), zr_n (by omega), zI_n1 (by omega), zI_n1 (by omega)]
      exact gO w2 a a3
    · rw [zI_n (by omega), zr_n (by omega), zr_n (by omega), zI_n (by omega), zI_s, if_pos rfl]
    · rw [zI_s, if_pos rfl]
    · obtain ⟨z, z1, z2⟩ := ruD_z w3
      refine ruD_x (p := 150 + 3 * nr) z1 z2 ?_ (fun k hk => ?_) (fun k hk => ?_) w3
      · rw [zI_n (by omega), zr_n (by omega), zr_n (by omega), zI_s, if_pos rfl, zI_n (by omega)]
      · rw [zI_n (by omega), zr_n (by omega), zr_s, cpy_lt hk, zI_n (by omega)]
      · rw [zI_n (by omega), zr_s, cpy_lt hk, zI_n (by omega)]
/-- bytes on both sides -/
theorem iTp_t {M : zM} (h : iTp M) : ∃ t, tqD t M ∧ tqR t M := by
  obtain ⟨⟨L, h1, h2, h3, h4⟩, -⟩ := h
  have hb : ∀ k, k < L → (M.1 2 k).toNatClampNeg < 256 ∧ M.1 2 k = Int32.ofNat (M.1 2 k).toNatClampNeg ∧ M.1 485 k = sgn (M.1 2 k).toNatClampNeg := fun k hk => by
    obtain ⟨b, b1, b2, b3⟩ := h4 k hk
    have e : (M.1 2 k).toNatClampNeg = b := by rw [b2]; exact toNat_of (by omega)
    rw [e]
    exact ⟨b1, b2, b3⟩
  exact ⟨(L, fun k => (M.1 2 k).toNatClampNeg), ⟨h1, h2, fun k hk => ⟨(hb k hk).1, (hb k hk).2.1⟩⟩, ⟨h1, h3, fun k hk => ⟨(hb k hk).1, (hb k hk).2.2⟩⟩⟩
theorem o_rule {X : (Nat → Int32) × Nat} {d : Nat} {M : zM} (hI : INV M) : zOp2 X (d + 40) 103 175 [] M := by
  obtain ⟨hG, hTp, rl, o1, o2, o3, o4, o5⟩ := id hI
  obtain ⟨t, hTD, hTR⟩ := iTp_t hTp
  have h35 := hTp.2
  by_cases c6 : rl.1 < 6
  · obtain ⟨k1, k2⟩ := s103 (X := X) (d := d + 13) hG hTD o2.1 c6
    cases hp : pRul t 12 0 (kS t 0) 0 with
    | inl f =>
      obtain ⟨M1, w1, w2, w3, w4⟩ := k1 f hp
      have hG1 : zGE M1 := zGE_of hG (by rw [w2])
      have hT1 : tqR t M1 := ⟨hTR.1, by rw [w3 460 (by omega)]; exact hTR.2.1, fun k hk => by rw [w3 485 (by omega)]; exact hTR.2.2 k hk⟩
      obtain ⟨M2, y1, y2, y3, y4⟩ := (r175 (X := X) (D := d + 28) hG1 hT1 (nr := rl.1) (by rw [w3 460 (by omega)]; exact o3.1) c6 (by rw [w3 460 (by omega)]; exact h35)).1 f hp
      have hG2 : zGE M2 := zGE_of hG1 (by rw [y2.1])
      have cc : ∀ a, ¬ (1 ≤ a ∧ a ≤ 37 ∧ (a ≠ 2 ∧ (a ≤ 5 ∨ 34 ≤ a))) → a ≠ 460 → ¬ (486 ≤ a ∧ a ≤ 492) → M2.1 a = M.1 a := fun a q1 q2 q3 => (y2.2.1 a q2 q3).trans (w3 a q1)
      have c460 : ∀ k, ¬ (26 ≤ k ∧ k ≤ 34) → M2.1 460 k = M.1 460 k := fun k hk => by rw [y2.2.2.1 k hk, w3 460 (by omega)]
      have h2 : M2.2 = M.2 := y2.1.trans w2
      have hag : agR M M2 := ⟨c460 25 (by omega), c460 55 (by omega), fun c hc j _ => by unfold car at hc; rw [cc c (by omega) (by omega) (by omega)]⟩
      refine ⟨_, M1, M2, w1, y1, hG2, ⟨⟨0, by omega, by rw [y2.2.1 1 (by omega) (by omega)]; exact w4, y3, fun k hk => absurd hk (Nat.not_lt_zero k)⟩, by rw [c460 35 (by omega)]; exact h35⟩, rl, o1, rsD_c (fun c hc => cc c (by omega) (by omega) (by omega)) o1.1 o2, ⟨y4, fun i hi => ?_⟩, iRl_c hG zq_39 (fun c q1 q2 => cc c (by omega) (by omega) (by omega)) (by rw [h2]) hag o4, fun k hk => ?_⟩
      · exact ruR_v y2.2.2.2.1 y2.2.2.2.2.1 y2.2.2.2.2.2 hi (ruR_q (w3 488 (by omega)) (w3 489 (by omega)) (w3 490 (by omega)) (w3 491 (by omega)) (w3 486 (by omega)) (w3 487 (by omega)) (o3.2 i hi))
      · obtain ⟨q1, q2⟩ := o5 k hk
        rw [cc 113 (by omega) (by omega) (by omega), cc 503 (by omega) (by omega) (by omega)]
        refine ⟨q1, q2.imp id (fun q => ⟨q.1, ?_⟩)⟩
        exact iRl_c hG (hrea k hk) (fun c u1 u2 => cc c (by omega) (by omega) (by omega)) (by rw [h2]) (ldR_ag hk (by rw [cc 504 (by omega) (by omega) (by omega)]) (fun j _ => by rw [cc 502 (by omega) (by omega) (by omega)])) q.2
    | inr l =>
      obtain ⟨M1, w1, w2, w3, w4, w5, w6⟩ := k2 l hp
      have hG1 : zGE M1 := zGE_of hG (by rw [w2])
      have wo : ∀ a, 460 ≤ a → M1.1 a = M.1 a := fun a ha => w3 a (by omega) (by omega) (by omega)
      have hT1 : tqR t M1 := ⟨hTR.1, by rw [wo 460 (by omega)]; exact hTR.2.1, fun k hk => by rw [wo 485 (by omega)]; exact hTR.2.2 k hk⟩
      obtain ⟨M2, y1, y2, y3, y4, y5⟩ := (r175 (X := X) (D := d + 28) hG1 hT1 (nr := rl.1) (by rw [wo 460 (by omega)]; exact o3.1) c6 (by rw [wo 460 (by omega)]; exact h35)).2 l hp
      have hG2 : zGE M2 := zGE_of hG1 (by rw [y2.1])
      have cc : ∀ a, a ≠ 0 → ¬ (150 + 3 * rl.1 ≤ a ∧ a ≤ 152 + 3 * rl.1) → ¬ (1 ≤ a ∧ a ≤ 37 ∧ (a ≠ 2 ∧ (a ≤ 5 ∨ 34 ≤ a))) → a ≠ 460 → ¬ (486 ≤ a ∧ a ≤ 492) → M2.1 a = M.1 a := fun a q1 q2 q3 q4 q5 => (y2.2.1 a q4 q5).trans (w3 a q1 q2 q3)
      have c460 : ∀ k, ¬ (26 ≤ k ∧ k ≤ 34) → M2.1 460 k = M.1 460 k := fun k hk => by rw [y2.2.2.1 k hk, wo 460 (by omega)]
      have h2 : M2.2 = M.2 := y2.1.trans w2
      have hag : agR M M2 := ⟨c460 25 (by omega), c460 55 (by omega), fun c hc j _ => by unfold car at hc; rw [cc c (by omega) (by omega) (by omega) (by omega) (by omega)]⟩
      obtain ⟨g1, g2, g3⟩ := pRul_d 12 rfl hp
      refine ⟨_, M1, M2, w1, y1, hG2, ⟨⟨0, by omega, by rw [y2.2.1 1 (by omega) (by omega)]; exact w4, y3, fun k hk => absurd hk (Nat.not_lt_zero k)⟩, by rw [c460 35 (by omega)]; exact h35⟩, (rl.1 + 1, fun i => if i = rl.1 then l else rl.2 i), ⟨by show rl.1 + 1 ≤ 6; omega, fun i hi c hc => ?_⟩, ⟨by rw [y2.2.1 0 (by omega) (by omega)]; exact w5, fun i hi => ?_⟩, ⟨y4, fun i hi => ?_⟩, iRl_up (iRl_c hG zq_39 (fun c q1 q2 => cc c (by omega) (by omega) (by omega) (by omega) (by omega)) (by rw [h2]) hag o4) (Nat.le_succ _), fun k hk => ?_⟩
      · have hc : c ∈ (if i = rl.1 then l else rl.2 i) := hc
        have hi : i < rl.1 + 1 := hi
        by_cases e : i = rl.1
        · rw [if_pos e] at hc; exact g3 c hc
        · rw [if_neg e] at hc; exact o1.2 i (by omega) c hc
      · have hi : i < rl.1 + 1 := hi
        show ruD M2 (150 + 3 * i) 0 (if i = rl.1 then l else rl.2 i)
        by_cases e : i = rl.1
        · rw [if_pos e, e]
          exact ruD_c (y2.2.1 _ (by omega) (by omega)) (y2.2.1 _ (by omega) (by omega)) (y2.2.1 _ (by omega) (by omega)) w6
        · rw [if_neg e]
          exact ruD_c (cc _ (by omega) (by omega) (by omega) (by omega) (by omega)) (cc _ (by omega) (by omega) (by omega) (by omega) (by omega)) (cc _ (by omega) (by omega) (by omega) (by omega) (by omega)) (o2.2 i (by omega))
      · have hi : i < rl.1 + 1 := hi
        show ruR M2 i 0 (if i = rl.1 then l else rl.2 i)
        by_cases e : i = rl.1
        · rw [if_pos e, e]
          exact y5
        · rw [if_neg e]
          exact ruR_v y2.2.2.2.1 y2.2.2.2.2.1 y2.2.2.2.2.2 (show i < rl.1 by omega) (ruR_q (wo 488 (by omega)) (wo 489 (by omega)) (wo 490 (by omega)) (wo 491 (by omega)) (wo 486 (by omega)) (wo 487 (by omega)) (o3.2 i (by omega)))
      · obtain ⟨q1, q2⟩ := o5 k hk
        rw [cc 113 (by omega) (by omega) (by omega) (by omega) (by omega), cc 503 (by omega) (by omega) (by omega) (by omega) (by omega)]
        refine ⟨q1, q2.imp id (fun q => ⟨q.1, ?_⟩)⟩
        exact iRl_up (iRl_c hG (hrea k hk) (fun c u1 u2 => cc c (by omega) (by omega) (by omega) (by omega) (by omega)) (by rw [h2]) (ldR_ag hk (by rw [cc 504 (by omega) (by omega) (by omega) (by omega) (by omega)]) (fun j _ => by rw [cc 502 (by omega) (by omega) (by omega) (by omega) (by omega)])) q.2) (Nat.le_succ _)
  · have e6 : rl.1 = 6 := by have := o1.1; omega
    refine ⟨-1, M, M, ?_, ?_, hI⟩
    · show zR X (d + 40) 103 (0, [.ref 0, zjk], [], M) = _
      rw [t103_0 _ _ hG, if_neg (show ¬ M.1 0 4 < 6 by rw [o2.1, e6]; decide)]
    · show zR X (d + 40) 175 (0, [.ref 460, zjk, zjk], [], M) = _
      rw [t175_0 _ _ _ hG, if_neg (not_not_intro (show M.1 460 30 = 6 by rw [o3.1, e6]; rfl))]
