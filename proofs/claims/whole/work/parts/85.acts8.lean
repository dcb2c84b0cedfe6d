/-! ===== kill, undo ===== -/
/-- s slots of act i are laid back -/
def lbI (i s : Nat) (M M1 : zM) : Prop := M1.2 = M.2 ∧ (∀ c, c ≠ 460 → c ≠ 461 → c ≠ 462 → c ≠ 497 → M1.1 c = M.1 c) ∧ (∀ k, M1.1 497 k = M.1 497 k) ∧ (∀ k, k ≠ 56 → k ≠ 57 → M1.1 460 k = M.1 460 k) ∧ M1.1 460 56 = Int32.ofNat (14 * i + s) ∧ M1.1 460 57 = 1 ∧ (∀ k, M1.1 461 k = if k = 0 ∧ 0 < s then M.1 497 (14 * i) else if 6 ≤ k ∧ k < 5 + s ∧ k ≤ 14 then M.1 497 (14 * i + (k - 5)) else M.1 461 k) ∧ ∀ k, M1.1 462 k = if 10 + k < s then M.1 497 (14 * i + (10 + k)) else M.1 462 k
theorem ifq {α : Type} {a b : Prop} [Decidable a] [Decidable b] {x y z w : α} (h : a ↔ b) (h1 : x = y) (h2 : z = w) : (if a then x else z) = if b then y else w := by
  subst h1 h2
  by_cases c : a
  · rw [if_pos c, if_pos (h.1 c)]
  · rw [if_neg c, if_neg (fun q => c (h.2 q))]
theorem lb_step {i s c k : Nat} {M M1 : zM} (h : lbI i s M M1) (hs : s < 14) (hc : (c = 461 ∧ ((s = 0 ∧ k = 0) ∨ (1 ≤ s ∧ s < 10 ∧ k = s + 5))) ∨ (c = 462 ∧ 10 ≤ s ∧ k = s - 10)) : lbI i (s + 1) M (zsI (zsI (zsI M1 497 (14 * i + s) (M.1 497 (14 * i + s))) 460 56 (Int32.ofNat (14 * i + s + 1))) c k (M.1 497 (14 * i + s))) := by
  obtain ⟨h1, h2, h3, h4, h5, h6, h7, h8⟩ := h
  refine ⟨by rw [z2_I, z2_I, z2_I]; exact h1, fun b q1 q2 q3 q4 => by rw [zI_n1 (by omega), zI_n1 q1, zI_n1 q4]; exact h2 b q1 q2 q3 q4, fun j => ?_, fun j q1 q2 => by rw [zI_n (by omega), zI_s, if_neg q1, zI_n (by decide)]; exact h4 j q1 q2, by rw [zI_n (by omega), zI_s, if_pos rfl]; rfl, by rw [zI_n (by omega), zI_s, if_neg (by decide), zI_n (by decide)]; exact h6, fun j => ?_, fun j => ?_⟩
  · rw [zI_n (by omega), zI_n (by decide), zI_s]
    by_cases e : j = 14 * i + s
    · rw [if_pos e, e]
    · rw [if_neg e]; exact h3 j
  · rcases hc with ⟨rfl, hc⟩ | ⟨rfl, hc1, hc2⟩
    · rw [zI_s]
      by_cases e : j = k
      · rw [if_pos e]
        rcases hc with ⟨u1, u2⟩ | ⟨u1, u2, u3⟩
        · rw [if_pos (by omega), u1, Nat.add_zero]
        · rw [if_neg (by omega), if_pos (by omega), show j - 5 = s by omega]
      · rw [if_neg e, zI_n (by decide), zI_n (by decide), h7]
        exact ifq (by omega) rfl (ifq (by omega) rfl rfl)
    · rw [zI_n (by decide), zI_n (by decide), zI_n (by decide), h7]
      exact ifq (by omega) rfl (ifq (by omega) rfl rfl)
  · rcases hc with ⟨rfl, hc⟩ | ⟨rfl, hc1, hc2⟩
    · rw [zI_n (by decide), zI_n (by decide), zI_n (by decide), h8]
      exact ifq (by omega) rfl rfl
    · rw [zI_s]
      by_cases e : j = k
      · rw [if_pos e, if_pos (by omega), show 10 + j = s by omega]
      · rw [if_neg e, zI_n (by decide), zI_n (by decide), h8]
        exact ifq (by omega) rfl rfl
theorem r202l {X : (Nat → Int32) × Nat} {d i : Nat} {M : zM} (hG : zGE M) (hi : i < 20) : ∃ M', zC X (d + 1) 202 [.ref 460, .int (Int32.ofNat i), .int 1] M = some (none, M') ∧ lbI i 14 M M' := by
  show ∃ M', zR X (d + 1) 202 (0, [.ref 460, .int (Int32.ofNat i), .int 1, zjk], [], M) = some (none, M') ∧ _
  have gG : ∀ {s : Nat} {M1 : zM}, lbI i s M M1 → zGE M1 := fun h => zGE_of hG (by rw [h.1])
  have purses : ∀ m b M1, b + m = 4 → lbI i (10 + b) M M1 → ∃ M', zR X (d + 1) 202 (62, [.ref 460, .int (Int32.ofNat i), .int 1, .int (Int32.ofNat b)], [], M1) = some (none, M') ∧ lbI i 14 M M' := by
    intro m
    induction m with
    | zero =>
      intro b M1 hb h
      have hle : (4 : Int32) ≤ Int32.ofNat b := by rw [show (4 : Int32) = Int32.ofNat 4 from rfl, of_le (by omega) (by omega)]; omega
      rw [t202_62 _ _ _ _ (gG h) (fun h => absurd hle h), if_pos hle]
      rw [show 10 + b = 14 by omega] at h
      exact ⟨M1, rfl, h⟩
    | succ m ih =>
      intro b M1 hb h
      have hnle : ¬ (4 : Int32) ≤ Int32.ofNat b := by rw [show (4 : Int32) = Int32.ofNat 4 from rfl, of_le (by omega) (by omega)]; omega
      have bb : (Int32.ofNat b).toNatClampNeg = b := toNat_of (by omega)
      have h6 : M1.1 460 56 = Int32.ofNat (14 * i + (10 + b)) := h.2.2.2.2.1
      have h7 : ¬ M1.1 460 57 = 0 := by rw [h.2.2.2.2.2.1]; decide
      rw [t202_62 _ _ _ _ (gG h) (fun _ => vp_of (by omega) (by omega)), if_neg hnle, bb, r201 (q := 14 * i + (10 + b)) (gG h) (by omega) h6, if_neg h7, h.2.2.1, Option.bind_some]
      dsimp only [zps]
      have hGa : zGE (zsI (zsI M1 497 (14 * i + (10 + b)) (M.1 497 (14 * i + (10 + b)))) 460 56 (Int32.ofNat (14 * i + (10 + b) + 1))) := (gG h : zGE M1)
      rw [t202_82 _ _ _ _ _ _ _ hGa (zis_q hGa zq_462) (by rw [zl_462]; exact vp_of (by omega) (by omega)), bb, of_succ]
      exact ih (b + 1) _ (by omega) (lb_step (s := 10 + b) (k := b) h (by omega) (Or.inr ⟨rfl, by omega, by omega⟩))
  have scal : ∀ m s M1, s + m = 9 → lbI i (1 + s) M M1 → ∃ M', zR X (d + 1) 202 (32, [.ref 460, .int (Int32.ofNat i), .int 1, .int (Int32.ofNat (6 + s))], [], M1) = some (none, M') ∧ lbI i 14 M M' := by
    intro m
    induction m with
    | zero =>
      intro s M1 hs h
      have hlt : (14 : Int32) < Int32.ofNat (6 + s) := by rw [show (14 : Int32) = Int32.ofNat 14 from rfl, of_lt (by omega) (by omega)]; omega
      rw [t202_32 _ _ _ _ (gG h) (fun h => absurd hlt h), if_pos hlt]
      exact purses 4 0 M1 (by omega) (by rw [show 10 + 0 = 1 + s by omega]; exact h)
    | succ m ih =>
      intro s M1 hs h
      have hnlt : ¬ (14 : Int32) < Int32.ofNat (6 + s) := by rw [show (14 : Int32) = Int32.ofNat 14 from rfl, of_lt (by omega) (by omega)]; omega
      have ss : (Int32.ofNat (6 + s)).toNatClampNeg = 6 + s := toNat_of (by omega)
      have h6 : M1.1 460 56 = Int32.ofNat (14 * i + (1 + s)) := h.2.2.2.2.1
      have h7 : ¬ M1.1 460 57 = 0 := by rw [h.2.2.2.2.2.1]; decide
      rw [t202_32 _ _ _ _ (gG h) (fun _ => vp_of (by omega) (by omega)), if_neg hnlt, ss, r201 (q := 14 * i + (1 + s)) (gG h) (by omega) h6, if_neg h7, h.2.2.1, Option.bind_some]
      dsimp only [zps]
      have hGa : zGE (zsI (zsI M1 497 (14 * i + (1 + s)) (M.1 497 (14 * i + (1 + s)))) 460 56 (Int32.ofNat (14 * i + (1 + s) + 1))) := (gG h : zGE M1)
      rw [t202_53 _ _ _ _ _ _ _ hGa (zis_q hGa zq_461) (by rw [zl_461]; exact vp_of (by omega) (by omega)), ss, of_succ]
      exact ih (s + 1) _ (by omega) (lb_step (s := 1 + s) (k := 6 + s) h (by omega) (Or.inl ⟨rfl, Or.inr ⟨by omega, by omega, by omega⟩⟩))
  have h0 : lbI i 0 M (zsI (zsI M 460 56 (Int32.ofNat (14 * i))) 460 57 1) := by
    refine ⟨by rw [z2_I, z2_I], fun c q1 _ _ _ => by rw [zI_n1 q1, zI_n1 q1], fun k => by rw [zI_n (by decide), zI_n (by decide)], fun k q1 q2 => by rw [zI_s, if_neg q2, zI_s, if_neg q1], by rw [zI_s, if_neg (by decide), zI_s, if_pos rfl]; rfl, by rw [zI_s, if_pos rfl], fun j => ?_, fun j => ?_⟩
    · rw [zI_n (by decide), zI_n (by decide), if_neg (by omega), if_neg (by omega)]
    · rw [zI_n (by decide), zI_n (by decide), if_neg (by omega)]
  have e14 : 14 * Int32.ofNat i = Int32.ofNat (14 * i) := by rw [show (14 : Int32) = Int32.ofNat 14 from rfl, of_mul]
  have h6 : (zsI (zsI M 460 56 (Int32.ofNat (14 * i))) 460 57 1).1 460 56 = Int32.ofNat (14 * i + 0) := h0.2.2.2.2.1
  have h7 : ¬ (zsI (zsI M 460 56 (Int32.ofNat (14 * i))) 460 57 1).1 460 57 = 0 := by rw [h0.2.2.2.2.2.1]; decide
  rw [t202_0 _ _ _ _ hG (Or.inr rfl), e14, r201 (q := 14 * i + 0) (gG h0) (by omega) h6, if_neg h7, h0.2.2.1, Option.bind_some]
  dsimp only [zps]
  have hGa : zGE (zsI (zsI (zsI (zsI M 460 56 (Int32.ofNat (14 * i))) 460 57 1) 497 (14 * i + 0) (M.1 497 (14 * i + 0))) 460 56 (Int32.ofNat (14 * i + 0 + 1))) := (hG : zGE M)
  rw [t202_28 _ _ _ _ _ _ _ hGa (zis_q hGa zq_461) (by rw [zl_461]; exact vp_of (k := 0) (by omega) (by omega))]
  exact scal 9 0 _ (by omega) (lb_step h0 (by omega) (Or.inl ⟨rfl, Or.inl ⟨rfl, rfl⟩⟩))
theorem lb_st {n i : Nat} {M M' : zM} (h : lbI i 14 M M') (hn : n ≤ 4) : stR n M' = pastR n M i := by
  have hp : ∀ k, k < 10 → (pmo k = 0 ∧ prm k = 0) ∨ (pmo k ≠ 0 ∧ pmo k < 10 ∧ pmo k + 5 = prm k) := by decide
  funext k
  unfold pastR stR
  by_cases c : k < 10
  · rw [if_pos c, if_pos c, h.2.2.2.2.2.2.1]
    rcases hp k c with ⟨u1, u2⟩ | ⟨u1, u2, u3⟩
    · rw [u1, u2, if_pos (by omega), Nat.add_zero]
    · rw [if_neg (by omega), if_pos (by omega), show prm k - 5 = pmo k by omega]
  · rw [if_neg c, if_neg c]
    by_cases c2 : k < 10 + n
    · rw [if_pos c2, if_pos c2, h.2.2.2.2.2.2.2, if_pos (by omega), show 10 + (k - 10) = k by omega]
    · rw [if_neg c2, if_neg c2]
theorem o_undo {X : (Nat → Int32) × Nat} {d : Nat} {M : zM} (hI : INV M) : zOp2 X (d + 10) 113 204 [] M := by
  obtain ⟨p, p1, p2, p3, p4⟩ := INV_p hI
  obtain ⟨rl, g, i, x0, hc⟩ := INV_cx hI
  obtain ⟨q1, q2, q3, q4, q5, q6, q7, q8, q9, q10, q11, q12, -⟩ := id hc
  obtain ⟨hn4, -⟩ := okR_D q2.2.1
  rcases Nat.eq_zero_or_pos p with h0 | h0
  · subst h0
    refine opQ (v := -2) hI ⟨M, ?_, zfr_rf⟩ (fun M1 hf hI1 => ⟨M1, ?_, rsm_rf⟩)
    · show zR X (d + 10) 113 (0, [.ref 0], [], M) = _
      have e55 : zC X (d + 9) 55 [.ref 39] M = some (some (.int 0), M) := by
        show zR X (d + 9) 55 (0, [.ref 39], [], M) = _
        have hn : ¬ 0 < M.1 39 5 := by rw [p2]; decide
        rw [t55_0 _ _ q1 zq_39 (fun h => absurd h hn) (fun h => absurd h hn), if_neg hn]
      rw [t113_0 _ q1, e55, Option.bind_some]
      dsimp only [zps]
      rw [t113_7 _ _ q1, if_pos rfl]
    · show zR X (d + 10) 204 (0, [.ref 460], [], M1) = _
      have h5 : M1.1 460 55 = 0 := by rw [(hf.2 460 (by omega)).1]; exact p3
      rw [t204_0 _ (zfr_G hf q1), if_neg (not_not_intro h5)]
  · have ep : Int32.ofNat p - 1 = Int32.ofNat (p - 1) := of_pred h0
    have pp : (Int32.ofNat (p - 1)).toNatClampNeg = p - 1 := toNat_of (by omega)
    obtain ⟨b, hb, hrb⟩ := past_c q1 (i := p - 1) (by omega)
    obtain ⟨v1, v2⟩ := p4 (p - 1) (by omega)
    have hlt : 0 < Int32.ofNat p := by rw [show (0 : Int32) = Int32.ofNat 0 from rfl, of_lt (by omega) (by omega)]; exact h0
    have hGa : zGE (zsI M 39 5 (Int32.ofNat (p - 1))) := q1
    obtain ⟨M1, a1, a2, a3⟩ := s70 (X := X) (d := d + 8) (n := nD (emR M)) (s := 67) (t := 72 + 2 * b) hGa zq_67 (zq_past b hb) (by omega) hn4
    have hG1 := zfr_G a2 hGa
    have e39 : M1.1 39 5 = Int32.ofNat (p - 1) := by rw [(a2.2 39 (by omega)).1, zI_s, if_pos rfl]
    have st1 : stD (nD (emR M)) 67 M1 = pastR (nD (emR M)) M (p - 1) := by
      rw [a3, ← v1, hrb]
      exact stD_cells (zI_n1 (by omega)) (zI_n1 (by omega))
    have hfD : fD M M1 := ⟨hG1, fun c hc h39 => by rw [(a2.2 c (by omega)).1, zI_n1 h39], fun k hk => by rw [(a2.2 39 (by omega)).1, zI_s, if_neg hk], fun c hc => by rw [a2.1]; rfl⟩
    have c460 : ∀ c, 460 ≤ c → M1.1 c = M.1 c := fun c hc => hfD.2.1 c (by omega) (by omega)
    have e55 : M1.1 460 55 = Int32.ofNat p := by rw [c460 460 (by omega)]; exact p3
    have hGb : zGE (zsI M1 460 55 (Int32.ofNat (p - 1))) := hG1
    obtain ⟨M2, w1, w2⟩ := r202l (X := X) (d := d + 8) (i := p - 1) hGb (by omega)
    have hG2 : zGE M2 := zGE_of hGb (by rw [w2.1])
    have f55 : M2.1 460 55 = Int32.ofNat (p - 1) := by rw [w2.2.2.2.1 55 (by decide) (by decide), zI_s, if_pos rfl]
    have past1 : ∀ j, pastR (nD (emR M)) (zsI M1 460 55 (Int32.ofNat (p - 1))) j = pastR (nD (emR M)) M j := fun j => by
      unfold pastR
      rw [zI_n1 (show ¬ 497 = 460 by decide), c460 497 (by omega)]
    have st2 : stR (nD (emR M)) M2 = pastR (nD (emR M)) M (p - 1) := by rw [lb_st w2 hn4, past1]
    have hfR : fR M1 M2 := by
      refine ⟨by rw [w2.1, z2_I], fun c hc => ?_, fun k u1 u2 u3 => by rw [w2.2.2.2.1 k (by omega) (by omega), zI_s, if_neg (by omega)], fun k hk hp => ?_, fun k hk => by rw [w2.2.1 502 (by decide) (by decide) (by decide) (by decide), zI_n1 (by decide)]⟩
      · rw [w2.2.1 c (by omega) (by omega) (by omega) (by omega), zI_n1 (by omega)]
      · have hpr : ∀ k, k < 18 → (∀ i, i < 10 → prm i ≠ k) → ¬ (k = 0) ∧ ¬ (6 ≤ k ∧ k ≤ 14) := by decide
        obtain ⟨n1, n2⟩ := hpr k hk hp
        rw [w2.2.2.2.2.2.2.1 k, if_neg (fun h => n1 h.1), if_neg (fun h => n2 ⟨h.1, h.2.2⟩), zI_n (by decide)]
    refine ⟨Int32.ofNat (p - 1), M1, M2, ?_, ?_, INV_A hI hfD hfR st1 st2 v2 (by omega) e39 f55 (fun j hj => ?_)⟩
    · show zR X (d + 10) 113 (0, [.ref 0], [], M) = _
      have e55c : zC X (d + 9) 55 [.ref 39] M = some (some (.int 1), M1) := by
        show zR X (d + 9) 55 (0, [.ref 39], [], M) = _
        have lem := t55_0 (X := X) (d := d + 8) 39 M q1 zq_39
        have hrb' : M.2.2.1 (39 + 30) (p - 1) = 72 + 2 * b := hrb
        rw [p2, ep, pp, hrb'] at lem
        rw [lem (fun _ => vp_of (by omega) (by omega)) (fun _ => by omega), if_pos hlt]
        show ((zC X (d + 8) 70 [.ref 67, .ref (72 + 2 * b)] (zsI M 39 5 (Int32.ofNat (p - 1)))).bind _) = _
        rw [a1, Option.bind_some]
        dsimp only [zps]
        rw [t55_35 _ _ hG1 zq_39]
      rw [t113_0 _ q1, e55c, Option.bind_some]
      dsimp only [zps]
      rw [t113_7 _ _ hG1, if_neg (by decide), e39]
    · show zR X (d + 10) 204 (0, [.ref 460], [], M1) = _
      rw [t204_0 _ hG1, e55, if_pos (by rw [show (0 : Int32) = Int32.ofNat 0 from rfl, of_inj (by omega) (by omega)]; omega), ep, w1, Option.bind_some]
      dsimp only [zps]
      rw [t204_29 _ hG2, f55]
    · obtain ⟨u1, u2⟩ := p4 j (by omega)
      have hpj : pastR (nD (emR M)) M2 j = pastR (nD (emR M)) M j := by
        rw [← past1]
        unfold pastR
        have e97 : M2.1 497 = (zsI M1 460 55 (Int32.ofNat (p - 1))).1 497 := by funext k; exact w2.2.2.1 k
        rw [e97]
      rw [hpj]
      refine ⟨?_, u2⟩
      rw [← u1, a2.1]
      obtain ⟨b', hb', hrb'⟩ := past_c q1 (i := j) (by omega)
      show stD _ (M.2.2.1 69 j) M1 = _
      rw [hrb']
      exact stD_cells ((a2.2 _ (by omega)).1.trans (zI_n1 (by omega))) ((a2.2 _ (by omega)).1.trans (zI_n1 (by omega)))
def pKl (A : zA) : zA := zu (bif pBS A then zu A (10 + (A 3).toNatClampNeg) 0 else zu A 9 (A 9 ||| (1 <<< ((A 3 - 10) &&& 31)))) 3 (-1)
theorem o_kill {X : (Nat → Int32) × Nat} {d : Nat} {M : zM} (hI : INV M) : zOp2 X (d + 10) 112 210 [] M := by
  obtain ⟨rl, g, i, x0, hc⟩ := INV_cx hI
  obtain ⟨q1, q2, q3, q4, q5, q6, q7, q8, q9, q10, q11, q12, -⟩ := id hc
  obtain ⟨hn4, -⟩ := okR_D q2.2.1
  obtain ⟨hnN, -⟩ := okR_N q2.2.1
  obtain ⟨o1, o2, o3⟩ := id q12
  have hs67 : stD (nD (emR M)) 67 M = aR M := by rw [← q7, ← q6]
  have e3 : M.1 67 3 = aR M 3 := by rw [← q7]; exact (stD_f (by decide)).symm
  by_cases c0 : aR M 3 = -1
  · refine opQ (v := -1) hI ⟨M, ?_, zfr_rf⟩ (fun M1 hf hI1 => ⟨M1, ?_, rsm_rf⟩)
    · show zR X (d + 10) 112 (0, [.ref 0, zjk], [], M) = _
      rw [t112_0 _ _ q1, e3, if_neg (not_not_intro c0)]
    · show zR X (d + 10) 210 (0, [.ref 460, zjk], [], M1) = _
      have h7 : M1.1 461 7 = -1 := by rw [(hf.2 461 (by omega)).1]; exact c0
      rw [t210_0 _ _ (zfr_G hf q1), if_neg (not_not_intro h7)]
  · have who : (∃ b, b < nD (emR M) ∧ aR M 3 = Int32.ofNat b ∧ pBS (aR M) = true) ∨ (∃ k, k < nN (emR M) ∧ aR M 3 = Int32.ofNat (10 + k) ∧ pBS (aR M) = false ∧ pRA (aR M) = true) := by
      rcases o1 with h | ⟨b, h1, h2⟩ | ⟨k, h1, h2⟩
      · exact absurd h c0
      · refine Or.inl ⟨b, h1, h2, ?_⟩
        unfold pBS
        rw [h2, decide_eq_false (show ¬ Int32.ofNat b < 0 by rw [show (0 : Int32) = Int32.ofNat 0 from rfl, of_lt (by omega) (by omega)]; omega), decide_eq_false (show ¬ 4 ≤ Int32.ofNat b by rw [show (4 : Int32) = Int32.ofNat 4 from rfl, of_le (by omega) (by omega)]; omega)]
        rfl
      · refine Or.inr ⟨k, h1, h2, ?_, ?_⟩
        · unfold pBS
          rw [h2, decide_eq_true (show 4 ≤ Int32.ofNat (10 + k) by rw [show (4 : Int32) = Int32.ofNat 4 from rfl, of_le (by omega) (by omega)]; omega), Bool.not_true, Bool.and_false]
        · unfold pRA
          rw [h2, decide_eq_false (show ¬ Int32.ofNat (10 + k) < 10 by rw [show (10 : Int32) = Int32.ofNat 10 from rfl, of_lt (by omega) (by omega)]; omega), decide_eq_false (show ¬ 14 ≤ Int32.ofNat (10 + k) by rw [show (14 : Int32) = Int32.ofNat 14 from rfl, of_le (by omega) (by omega)]; omega)]
          rfl
    have keep : ∀ j, j < 9 → j ≠ 3 → pKl (aR M) j = aR M j := fun j h1 h2 => by
      unfold pKl
      rw [zu_n h2]
      cases pBS (aR M)
      · rw [cond_false, zu_n (by omega)]
      · rw [cond_true, zu_n (by omega)]
    refine opA (v := aR M 3) (A := pKl (aR M)) hI ⟨?_, by rw [keep 2 (by omega) (by omega)]; exact o2, by rw [keep 1 (by omega) (by omega)]; exact o3⟩ (fun p p1 p2 => ?_) (fun p M1 p1 hfD p2 => ?_)
    · unfold pKl; rw [zu_s]; exact Or.inl rfl
    · show ∃ M1, zR X (d + 10) 112 (0, [.ref 0, zjk], [], M) = some (some (.int _), M1) ∧ _
      obtain ⟨Ma, a1, a2, a3, a4, a5⟩ := act_D (X := X) (d := d + 8) (n := nD (emR M)) q1 hn4 p1 p2
      have sta : stD (nD (emR M)) 67 Ma = aR M := by rw [← hs67]; exact stD_cells (a4 67 (by omega)) (a4 68 (by omega))
      have f3 : Ma.1 67 3 = aR M 3 := by rw [a4 67 (by omega)]; exact e3
      have f9 : Ma.1 67 9 = aR M 9 := by rw [← sta]; exact (stD_f (by decide)).symm
      have kill : ∃ Mb, zC X (d + 9) 73 [.ref 67] Ma = some (none, Mb) ∧ zfr 67 69 Ma Mb ∧ stD (nD (emR M)) 67 Mb = pKl (aR M) := by
        show ∃ Mb, zR X (d + 9) 73 (0, [.ref 67], [], Ma) = some (none, Mb) ∧ _
        rw [t73_0 _ _ a2 zq_67, s79 (n := nD (emR M)) a2 zq_67, Option.bind_some, sta]
        dsimp only [zps]
        rcases who with ⟨b, h1, h2, h3⟩ | ⟨k, h1, h2, h3, h4⟩
        · have bb : (aR M 3).toNatClampNeg = b := by rw [h2, toNat_of (by omega)]
          rw [h3, cond_true, t73_4 _ _ _ a2 zq_67 (fun _ => by rw [f3, h2]; exact vp_of (by omega) (by omega)), if_neg (by decide), f3, bb]
          refine ⟨_, rfl, zfr_I (zfr_I zfr_rf (by omega) (by omega)) (by omega) (by omega), ?_⟩
          rw [stD_I (by decide), stD_J h1, sta]
          unfold pKl
          rw [h3, cond_true, bb]
        · rw [h3, cond_false, t73_4 _ _ _ a2 zq_67 (fun h => absurd rfl h), if_pos rfl, s80 (n := nD (emR M)) a2 zq_67, Option.bind_some, sta, h4, cond_true]
          dsimp only [zps]
          rw [t73_24 _ _ _ a2 zq_67, if_neg (by decide), f3, f9]
          refine ⟨_, rfl, zfr_I (zfr_I zfr_rf (by omega) (by omega)) (by omega) (by omega), ?_⟩
          rw [stD_I (by decide), stD_I (by decide), sta]
          unfold pKl
          rw [h3, cond_false]
      obtain ⟨Mb, b1, b2, b3⟩ := kill
      obtain ⟨c1', c2', c3'⟩ := a5 Mb b2
      rw [hs67] at c3'
      refine ⟨Mb, ?_, c1', b3, c2', c3'⟩
      rw [t112_0 _ _ q1, e3, if_pos c0, a1, Option.bind_some]
      dsimp only [zps]
      rw [t112_25 _ _ a2, b1, Option.bind_some]
      dsimp only [zps]
      rw [t112_35 _ _ (zfr_G b2 a2)]
    · show ∃ M2, zR X (d + 10) 210 (0, [.ref 460, zjk], [], M1) = some (some (.int _), M2) ∧ _
      obtain ⟨u1, u2, u3, u4, u5, u6, u7⟩ := fD_cx hfD hc
      obtain ⟨Ma, a1, a2, a3, a4, a5, a6, a7, a8, a9⟩ := act_R (X := X) (d := d + 7) (n := nD (emR M)) u1 hn4 p1 p2
      have sta : stR (nD (emR M)) Ma = aR M := by rw [a4, u3]
      have h7 : M1.1 461 7 = aR M 3 := by rw [u7 461 (by omega)]; rfl
      have f7 : Ma.1 461 7 = aR M 3 := by rw [a5]; exact h7
      have f14 : Ma.1 461 14 = aR M 9 := by rw [← sta]; rfl
      rcases who with ⟨b, h1, h2, h3⟩ | ⟨k, h1, h2, h3, h4⟩
      · have bb : (aR M 3).toNatClampNeg = b := by rw [h2, toNat_of (by omega)]
        have b2 : zfs Ma (zsI (zsI Ma 462 b 0) 461 7 (-1)) := zfs_I (i := 3) (zfs_J zfs_rf) (by decide)
        obtain ⟨w1, w2, w3⟩ := a9 _ b2
        rw [u3] at w3
        simp only [u6] at w3
        refine ⟨_, ?_, w1, ?_, w2, w3⟩
        · rw [t210_0 _ _ u1.1, h7, if_pos c0, a1, Option.bind_some]
          dsimp only [zps]
          rw [t210_17 _ _ a2.1, r182 (n := nD (emR M)) a2.1, Option.bind_some, sta, h3, cond_true, f7]
          dsimp only [zps]
          rw [t210_29 _ _ _ a2.1 (fun _ => by rw [h2]; exact vp_of (by omega) (by omega)), if_neg (by decide), bb]
        · refine (stR_I (k := 3) (M := zsI Ma 462 b 0) (by decide)).trans ?_
          rw [stR_J h1, sta]
          unfold pKl
          rw [h3, cond_true, bb]
      · have b2 : zfs Ma (zsI (zsI Ma 461 14 (aR M 9 ||| (1 <<< ((aR M 3 - 10) &&& 31)))) 461 7 (-1)) := zfs_I (i := 3) (zfs_I (i := 9) zfs_rf (by decide)) (by decide)
        obtain ⟨w1, w2, w3⟩ := a9 _ b2
        rw [u3] at w3
        simp only [u6] at w3
        refine ⟨_, ?_, w1, ?_, w2, w3⟩
        · rw [t210_0 _ _ u1.1, h7, if_pos c0, a1, Option.bind_some]
          dsimp only [zps]
          rw [t210_17 _ _ a2.1, r182 (n := nD (emR M)) a2.1, Option.bind_some, sta, h3, cond_false, f7]
          dsimp only [zps]
          rw [t210_29 _ _ _ a2.1 (fun h => absurd rfl h), if_pos rfl, f14]
        · refine (stR_I (k := 3) (M := zsI Ma 461 14 (aR M 9 ||| (1 <<< ((aR M 3 - 10) &&& 31)))) (by decide)).trans ?_
          refine (congrArg (fun q => zu q 3 _) (stR_I (k := 9) (M := Ma) (by decide))).trans ?_
          rw [sta]
          unfold pKl
          rw [h3, cond_false]
