/-! ===== by which rules it was sold: the reference ===== -/
def lgR (M : zM) (g : zLg) : Prop := M.1 461 15 = Int32.ofNat g.1 ∧ ∀ k, k < g.1 → M.1 471 k = Int32.ofNat (g.2.1 k) ∧ M.1 472 k = g.2.2 k
def rsR (M : zM) (r : zRul) : Prop := M.1 460 30 = Int32.ofNat r.1 ∧ ∀ i, i < r.1 → ruR M i 0 (r.2 i)
theorem lgR_w {K M : zM} {g : zLg} (h : zwk K M) (hl : lgR K g) : lgR M g := by
  unfold lgR
  rw [zwk_k h (k := 15) (by omega), zwk_c h (a := 471) (by decide) (by decide) (by decide), zwk_c h (a := 472) (by decide) (by decide) (by decide)]
  exact hl
theorem rsR_w {K M : zM} {r : zRul} (h : zwk K M) (hl : rsR K r) : rsR M r := by
  refine ⟨?_, fun i hi => ruR_q (zwk_c h (a := 488) (by decide) (by decide) (by decide)) (zwk_c h (a := 489) (by decide) (by decide) (by decide)) (zwk_c h (a := 490) (by decide) (by decide) (by decide)) (zwk_c h (a := 491) (by decide) (by decide) (by decide)) (zwk_c h (a := 486) (by decide) (by decide) (by decide)) (zwk_c h (a := 487) (by decide) (by decide) (by decide)) (hl.2 i hi)⟩
  rw [h.2.2.1 30 (by omega) (by omega) (by omega)]
  exact hl.1
theorem zwk_I {K M : zM} {a k : Nat} {x : Int32} (h : zwk K M) (h1 : 498 ≤ a) (h2 : a ≤ 501) : zwk K (zsI M a k x) :=
  ⟨h.1, fun b q1 q2 q3 => ⟨(zI_n1 (by omega)).trans (h.2.1 b q1 q2 q3).1, (h.2.1 b q1 q2 q3).2⟩, fun k q1 q2 q3 => (zI_n (by omega)).trans (h.2.2.1 k q1 q2 q3), fun k q1 q2 q3 => (zI_n (by omega)).trans (h.2.2.2.1 k q1 q2 q3), fun k hk => (zI_n (by omega)).trans (h.2.2.2.2 k hk)⟩
theorem zwk_17 {K M : zM} {x : Int32} (h : zwk K M) : zwk K (zsI M 461 17 x) :=
  ⟨h.1, fun b q1 q2 q3 => ⟨(zI_n1 (by omega)).trans (h.2.1 b q1 q2 q3).1, (h.2.1 b q1 q2 q3).2⟩, fun k q1 q2 q3 => (zI_n (by decide)).trans (h.2.2.1 k q1 q2 q3), fun k q1 q2 q3 => by rw [zI_s, if_neg q3]; exact h.2.2.2.1 k q1 q2 q3, fun k hk => (zI_n (by decide)).trans (h.2.2.2.2 k hk)⟩
theorem r212x {X : (Nat → Int32) × Nat} {d : Nat} {K M : zM} (hG : zGE M) (hf : zwk K M) (hk : kp K M) : ∃ M', zC X (d + 2) 212 [.ref 460] M = some (none, M') ∧ zwk K M' ∧ (∀ k, k < 18 → M'.1 461 k = K.1 461 k) ∧ (∀ k, k < 4 → M'.1 462 k = K.1 462 k) ∧ kp K M' ∧ ∀ a, a ≠ 460 → a ≠ 461 → a ≠ 462 → M'.1 a = M.1 a := by
  show ∃ M', zR X (d + 2) 212 (0, [.ref 460], [], M) = some (none, M') ∧ _
  have e0 : zC X (d + 1) 239 [.ref 460, .int 4, .int 1] M = zR X (d + 1) 239 (0, [.ref 460, .int 4, .int 1], [], M) := rfl
  have l1 : zln 461 = 18 := zl_461
  have l2 : zln 462 = 4 := zl_462
  have hGa : zGE (zsI (zsI M 460 64 (550 * 4)) 460 65 1) := hG
  obtain ⟨M1, q1, q2, q3, q4, q5, q6⟩ := r238l (X := X) (d := d) (c := 461) (p := 2200) (M := zsI (zsI M 460 64 (550 * 4)) 460 65 1) hGa zq_461 (by rw [zI_s, if_pos rfl]; decide) (by rw [zI_s, if_neg (by decide), zI_s, if_pos rfl]; rfl) (by rw [l1]; omega) (by decide) (by decide)
  rw [l1] at q5 q6
  have hG1 : zGE M1 := zGE_of hG (by rw [q2]; rfl)
  obtain ⟨M2, w1, w2, w3, w4, w5, w6⟩ := r238l (X := X) (d := d) (c := 462) (p := 2218) (M := M1) hG1 zq_462 (by rw [q4 65 (by decide), zI_s, if_pos rfl]; decide) q5 (by rw [l2]; omega) (by decide) (by decide)
  rw [l2] at w5 w6
  have hG2 : zGE M2 := zGE_of hG1 (by rw [w2])
  have a02 : M1.1 502 = M.1 502 := (q3 502 (by decide) (by decide)).trans (by rw [zI_n1 (by decide), zI_n1 (by decide)])
  have a61 : M2.1 461 = M1.1 461 := w3 461 (by decide) (by decide)
  have all : ∀ a, a ≠ 460 → a ≠ 461 → a ≠ 462 → M2.1 a = M.1 a := fun a h1 h2 h3 => by
    rw [w3 a h1 h3, q3 a h1 h2, zI_n1 h1, zI_n1 h1]
  have h61 : ∀ k, M2.1 461 k = if k < 18 then K.1 461 k else M.1 461 k := fun k => by
    rw [a61, q6, zI_n (by decide), zI_n (by decide), zI_n (by decide), zI_n (by decide)]
    by_cases c : k < 18
    · rw [if_pos c, if_pos c]; exact hk.1 k c
    · rw [if_neg c, if_neg c]
  refine ⟨M2, ?_, ⟨by rw [w2, q2]; exact hf.1, fun a h1 h2 h3 => ⟨(all a (by omega) (by omega) (by omega)).trans (hf.2.1 a h1 h2 h3).1, by rw [w2, q2]; exact (hf.2.1 a h1 h2 h3).2⟩, fun k h1 h2 h3 => ?_, fun k h1 h2 h3 => ?_, fun k hk => ?_⟩, fun k hk => by rw [h61, if_pos hk], fun k hk2 => ?_, ⟨fun k hk2 => ?_, fun k hk2 => ?_⟩, all⟩
  · rw [t212_0 _ hG, e0, t239_0 _ _ _ hG (Or.inr rfl), q1, Option.bind_some]
    dsimp only [zps]
    rw [t239_22 _ _ _ hG1, w1, Option.bind_some]
    dsimp only [zps]
    rw [t239_30 _ _ _ hG2, if_neg (by decide), Option.bind_some]
    dsimp only [zps]
    rw [t212_6 _ hG2]
  · rw [w4 k (by omega), q4 k (by omega), zI_s, if_neg (by omega), zI_s, if_neg (by omega)]
    exact hf.2.2.1 k h1 h2 h3
  · rw [h61]
    by_cases c : k < 18
    · rw [if_pos c]
    · rw [if_neg c]; exact hf.2.2.2.1 k h1 h2 h3
  · rw [all 502 (by decide) (by decide) (by decide)]
    exact hf.2.2.2.2 k hk
  · rw [w6, if_pos hk2, a02]
    exact hk.2 k hk2
  · rw [all 502 (by decide) (by decide) (by decide)]
    exact hk.1 k hk2
  · rw [all 502 (by decide) (by decide) (by decide)]
    exact hk.2 k hk2
/-- as kept, but for the rows of courses -/
def bk (K M : zM) : Prop := zwk K M ∧ kp K M ∧ (∀ k, k < 18 → M.1 461 k = K.1 461 k) ∧ ∀ k, k < 4 → M.1 462 k = K.1 462 k
/-- the number of the i-th rule, none first -/
def rv (i : Nat) : Int32 := Int32.ofNat i - 1
theorem rv_s (i : Nat) : rv i + 1 = rv (i + 1) := by
  unfold rv
  rw [← of_succ, Int32.sub_add_cancel, Int32.add_sub_cancel]
theorem rv_0 : rv 0 = -1 := rfl
theorem rv_p {i : Nat} (h : 0 < i) : rv i = Int32.ofNat (i - 1) := of_pred h
theorem r230 {X : (Nat → Int32) × Nat} {d i : Nat} {r : zRul} {g : zLg} {K M : zM} (hK : okM K) (hT : okT (emR K)) (hg : okL g) (hl : lgR K g) (hr : okRs r) (hrs : rsR K r) (hi : i < r.1 + 1) (hb : bk K M) : ∃ M', zC X (d + 7) 230 [.ref 460, .int (rv i)] M = some (some (.int (bif pAg (emR K) r g i then 1 else 0)), M') ∧ bk K M' ∧ (∀ n, n < 61 → M'.1 500 n = pCs (emR K) (pRl r.2 i) n) ∧ M'.1 501 = M.1 501 := by
  show ∃ M', zR X (d + 7) 230 (0, [.ref 460, .int (rv i), zjk, zjk, zjk], [], M) = some (some (.int _), M') ∧ _
  obtain ⟨hf, hk, -, -⟩ := hb
  have hG := zwk_G hf hK.1
  have hn4 := (okR_D hK.2.1).1
  obtain ⟨hr6, hrok⟩ := hr
  have f0 : zwk K (zsI M 461 17 (rv i)) := zwk_17 hf
  have hM0 := zwk_M f0 hK
  have em0 := zwk_em f0
  obtain ⟨M1, q1, q2, q3⟩ := r171 (X := X) (d := d + 5) (M := zsI M 461 17 (rv i)) hM0.1 hM0.2.1 (by rw [em0]; exact hT.1)
  rw [em0] at q3
  have f1 := zwk_tr f0 (zwk_s q2)
  have hG1 := zwk_G f1 hK.1
  obtain ⟨M2, w1, w2, w3, w4⟩ := r192 (X := X) (d := d + 5) (M := M1) hG1
  have f2 := zwk_tr f1 (zwk_96 w2 w3)
  have hM2 := zwk_M f2 hK
  have em2 := zwk_em f2
  have est2 : stR (nD (emR K)) M2 = pBegin (nD (emR K)) (emR K) := by
    rw [← q3]
    unfold stR
    rw [w3 461 (by decide), w3 462 (by decide)]
  have e17 : M2.1 461 17 = rv i := by rw [w3 461 (by decide), zfs_k q2 (by decide), zI_s, if_pos rfl]
  have hD : ∀ b, b < nD (emR K) → M2.1 496 b = emR K 14 b := fun b hb => by
    rw [w4 b (by omega), zwk_c f1 (a := 466) (by decide) (by decide) (by decide)]
    exact (emR_B hb).symm
  have sold : ∃ M3, zC X (d + 6) 191 [.ref 460, .int 0] M2 = some (some (.int (pWon (emR K) (pBegin (nD (emR K)) (emR K)) (emR K 14) (pRl r.2 i)).2.1), M3) ∧ zfq M2 M3 ∧ auR M3 = pWon (emR K) (pBegin (nD (emR K)) (emR K)) (emR K 14) (pRl r.2 i) := by
    rcases Nat.eq_zero_or_pos i with h0 | h0
    · have h := r191n (X := X) (d := d + 3) (x := 0) (M := M2) (D := emR K 14) hM2.1 hM2.2.1 (by rw [em2]; exact hT) (Or.inr (by rw [e17, h0]; rfl)) (by rw [em2]; exact hD)
      rw [em2, est2] at h
      rw [h0]
      exact h
    · have hrs2 := rsR_w f2 hrs
      have h := r191r (X := X) (d := d) (r := i - 1) (M := M2) (D := emR K 14) (cls := r.2 (i - 1)) hM2.1 hM2.2.1 (by rw [em2]; exact hT) (by omega) (by rw [e17]; exact rv_p h0) (by rw [em2]; exact hD) (hrs2.2 (i - 1) (by omega)) (hrok (i - 1) (by omega))
      rw [em2, est2] at h
      have e : pRl r.2 i = some (r.2 (i - 1)) := if_neg (by omega)
      rw [e]
      exact h
  obtain ⟨M3, y1, y2, y3⟩ := sold
  have f3 := zwk_tr f2 (zwk_q y2)
  have hG3 := zwk_G f3 hK.1
  have est3 : stR (nD (emR K)) M3 = pBegin (nD (emR K)) (emR K) := by rw [zfq_st y2, est2]
  have g47 : M3.1 460 47 = (pWon (emR K) (pBegin (nD (emR K)) (emR K)) (emR K 14) (pRl r.2 i)).1 := by rw [← y3]; rfl
  have k3 : kp K M3 := kp_w hk (by rw [zfq_c y2 (by decide) (by decide) (by decide), w3 502 (by decide), zfs_c q2 (show 502 < 461 ∨ 463 ≤ 502 by decide), zI_n1 (by decide)])
  have e01 : M3.1 501 = M.1 501 := by rw [zfq_c y2 (by decide) (by decide) (by decide), w3 501 (by decide), zfs_c q2 (show 501 < 461 ∨ 463 ≤ 501 by decide), zI_n1 (by decide)]
  have fits : ∀ m k x2 M5, k + m = g.1 → zGE M5 → lgR M5 g → (∀ n, n < 61 → M5.1 500 n = pCs (emR K) (pRl r.2 i) n) → zR X (d + 7) 230 (72, [.ref 460, .int (rv i), .int x2, .int (bif pFit (pCs (emR K) (pRl r.2 i)) g.2.1 g.2.2 k then 1 else 0), .int (Int32.ofNat k)], [], M5) = some (some (.int (bif pAg (emR K) r g i then 1 else 0)), M5) := by
    intro m
    induction m with
    | zero =>
      intro k x2 M5 hk5 hG5 hl5 hc5
      have hg1 := hg.1
      have hle : M5.1 461 15 ≤ Int32.ofNat k := by rw [hl5.1, of_le (by omega) (by omega)]; omega
      rw [t230_72 _ _ _ _ _ hG5 (fun _ => by cases pFit (pCs (emR K) (pRl r.2 i)) g.2.1 g.2.2 k; exact Or.inl rfl; exact Or.inr rfl) (fun h => absurd hle h) (fun h => absurd hle h), if_pos hle]
      unfold pAg
      rw [show k = g.1 by omega]
    | succ m ih =>
      intro k x2 M5 hk5 hG5 hl5 hc5
      have hg1 := hg.1
      have hnle : ¬ M5.1 461 15 ≤ Int32.ofNat k := by rw [hl5.1, of_le (by omega) (by omega)]; omega
      have kk : (Int32.ofNat k).toNatClampNeg = k := toNat_of (by omega)
      obtain ⟨l1, l2⟩ := hl5.2 k (by omega)
      have hd := hg.2 k (by omega)
      have dd : (Int32.ofNat (g.2.1 k)).toNatClampNeg = g.2.1 k := toNat_of (by omega)
      have lem := t230_72 (X := X) (d := d + 7) (rv i) x2 (bif pFit (pCs (emR K) (pRl r.2 i)) g.2.1 g.2.2 k then 1 else 0) (Int32.ofNat k) M5 hG5
      rw [kk, l1, dd, l2, hc5 _ (by omega)] at lem
      have h9 := ih (k + 1) x2 M5 (by omega) hG5 hl5 hc5
      rw [pFit] at h9
      rw [lem (fun h => absurd h hnle) (fun _ _ => vp_of (by omega) (by omega)) (fun _ _ => vp_of (by omega) (by omega)), if_neg hnle, of_succ]
      cases hp : pFit (pCs (emR K) (pRl r.2 i)) g.2.1 g.2.2 k
      · rw [hp, Bool.false_and, cond_false] at h9
        rw [cond_false, if_pos rfl]
        exact h9
      · rw [cond_true, if_neg (by decide)]
        rw [hp, Bool.true_and] at h9
        by_cases e : pCs (emR K) (pRl r.2 i) (g.2.1 k) = g.2.2 k
        · rw [decide_eq_true e, cond_true] at h9
          rw [if_neg (not_not_intro e)]
          exact h9
        · rw [decide_eq_false e, cond_false] at h9
          rw [if_pos e]
          exact h9
  have loop : ∀ m k x2 v4 M4, k + m = 61 → zwk K M4 → kp K M4 → M4.1 501 = M.1 501 → stR (nD (emR K)) M4 = pIt (emR K) k (pAft (emR K) (pRl r.2 i)) → (∀ n, n < k → M4.1 500 n = pCs (emR K) (pRl r.2 i) n) → ∃ M', zR X (d + 7) 230 (34, [.ref 460, .int (rv i), .int x2, .int (Int32.ofNat k), v4], [], M4) = some (some (.int (bif pAg (emR K) r g i then 1 else 0)), M') ∧ bk K M' ∧ (∀ n, n < 61 → M'.1 500 n = pCs (emR K) (pRl r.2 i) n) ∧ M'.1 501 = M.1 501 := by
    intro m
    induction m with
    | zero =>
      intro k x2 v4 M4 hk4 f4 k4 e4 s4 hc4
      have hG4 := zwk_G f4 hK.1
      obtain ⟨M5, z1, z2, z3, z4, z5, z6⟩ := r212x (X := X) (d := d + 4) (K := K) (M := M4) hG4 f4 k4
      have hG5 := zwk_G z2 hK.1
      have hc5 : ∀ n, n < 61 → M5.1 500 n = pCs (emR K) (pRl r.2 i) n := fun n hn => by rw [z6 500 (by decide) (by decide) (by decide)]; exact hc4 n (by omega)
      rw [t230_34 _ _ _ _ _ hG4, if_pos (by rw [show (60 : Int32) = Int32.ofNat 60 from rfl, of_lt (by omega) (by omega)]; omega), z1, Option.bind_some]
      dsimp only [zps]
      rw [t230_67 _ _ _ _ _ hG5]
      exact ⟨M5, fits g.1 0 x2 M5 (by omega) hG5 (lgR_w z2 hl) hc5, ⟨z2, z5, z3, z4⟩, hc5, by rw [z6 501 (by decide) (by decide) (by decide)]; exact e4⟩
    | succ m ih =>
      intro k x2 v4 M4 hk4 f4 k4 e4 s4 hc4
      have hM4 := zwk_M f4 hK
      have em4 := zwk_em f4
      obtain ⟨M5, z1, z2, z3⟩ := r199 (X := X) (d := d + 2) (n := nD (emR K)) (M := M4) hM4.1 (by rw [em4]; exact Nat.le_refl _) hM4.2.1 hM4.2.2 (by rw [em4, s4]; exact okR_it (okR_aft hT) _) (by rw [s4, pIt_2 pAft_2]; exact ne_m1 (by omega))
      rw [em4, s4] at z3
      have f5 := zwk_tr f4 (zwk_s z2)
      have hG5 := zwk_G f5 hK.1
      have e7 : M5.1 461 7 = pCs (emR K) (pRl r.2 i) k := by
        have h := congrFun z3 3
        exact h
      have e500 : M5.1 500 = M4.1 500 := zfs_c z2 (by decide)
      rw [t230_34 _ _ _ _ _ hM4.1, if_neg (by rw [show (60 : Int32) = Int32.ofNat 60 from rfl, of_lt (by omega) (by omega)]; omega), z1, Option.bind_some]
      dsimp only [zps]
      rw [t230_44 _ _ _ _ _ hG5 (vp_of (by omega) (by omega)), of_succ, toNat_of (by omega), e7]
      refine ih (k + 1) x2 v4 _ (by omega) (zwk_I f5 (by omega) (by omega)) (kp_w k4 (by rw [zI_n1 (by decide)]; exact zfs_c z2 (by decide))) (by rw [zI_n1 (by decide), zfs_c z2 (show 501 < 461 ∨ 463 ≤ 501 by decide)]; exact e4) ?_ (fun n hn => ?_)
      · show stR (nD (emR K)) M5 = _
        rw [z3]
        rfl
      · rw [zI_s]
        by_cases e : n = k
        · rw [if_pos e, e]
        · rw [if_neg e, e500]; exact hc4 n (by omega)
  rw [t230_0 _ _ _ _ _ hG, q1, Option.bind_some]
  dsimp only [zps]
  rw [t230_12 _ _ _ _ _ hG1, w1, Option.bind_some]
  dsimp only [zps]
  rw [t230_16 _ _ _ _ _ hM2.1, y1, Option.bind_some]
  dsimp only [zps]
  rw [t230_21 _ _ _ _ _ _ hG3]
  by_cases c : (pWon (emR K) (pBegin (nD (emR K)) (emR K)) (emR K 14) (pRl r.2 i)).2.1 = -1
  · rw [if_pos c]
    refine loop 61 0 _ zjk M3 (by omega) f3 k3 e01 ?_ (fun n hn => absurd hn (Nat.not_lt_zero _))
    show _ = pAft (emR K) (pRl r.2 i)
    unfold pAft
    rw [if_pos c, est3]
  · obtain ⟨M4, z1, z2, z3⟩ := r193 (X := X) (d := d + 6) (n := nD (emR K)) (w := (pWon (emR K) (pBegin (nD (emR K)) (emR K)) (emR K 14) (pRl r.2 i)).2.1) hG3
    have f4 := zwk_tr f3 (zwk_s z2)
    rw [if_neg c, z1, Option.bind_some]
    dsimp only [zps]
    rw [t230_32 _ _ _ _ _ (zwk_G f4 hK.1)]
    refine loop 61 0 _ zjk M4 (by omega) f4 (kp_w k3 (zfs_c z2 (by decide))) (by rw [zfs_c z2 (show 501 < 461 ∨ 463 ≤ 501 by decide)]; exact e01) ?_ (fun n hn => absurd hn (Nat.not_lt_zero _))
    show _ = pAft (emR K) (pRl r.2 i)
    unfold pAft
    rw [if_neg c, z3, est3, g47]
theorem r231 {X : (Nat → Int32) × Nat} {d : Nat} {x : Int32} {r : zRul} {g : zLg} {M : zM} (hM : okM M) (hT : emR M 0 0 = 1 → okT (emR M)) (hg : okL g) (hl : lgR M g) (hr : okRs r) (hrs : rsR M r) : ∃ M', zC X (d + 8) 231 [.ref 460, .int x] M = some (some (.int (pRuled (emR M) r g x)), M') ∧ rsm M M' := by
  show ∃ M', zR X (d + 8) 231 (0, [.ref 460, .int x, zjk, zjk, zjk], [], M) = some (some (.int _), M') ∧ _
  have hG := hM.1
  have hr6 := hr.1
  have h0 : M.1 460 25 = emR M 0 0 := rfl
  unfold pRuled
  rw [t231_0 _ _ _ _ _ hG, h0]
  by_cases c0 : emR M 0 0 = 0
  · rw [if_pos c0, if_pos c0]
    exact ⟨M, rfl, rsm_rf⟩
  · rw [if_neg c0, if_neg c0, r135i (y := 0) (z := 1) (a := 0) (b := 1) hG rfl rfl, Option.bind_some]
    dsimp only [zps]
    rw [t231_14 _ _ _ _ _ _ hG]
    by_cases c : x < 0 ∨ 1 < x
    · rw [if_pos c, if_pos c, if_neg (by decide)]
      exact ⟨M, rfl, rsm_rf⟩
    · obtain ⟨M1, w1, w2, w3, w4, w5, w6⟩ := r211 (X := X) (d := d + 5) hG
      have ht := hT (tld hM.2.1 c0)
      rw [if_neg c, if_neg c, if_pos (by decide), w1, Option.bind_some]
      dsimp only [zps]
      rw [t231_24 _ _ _ _ _ (zwk_G w2 hG)]
      have loop : ∀ m i M1, i + m = r.1 + 1 → bk M M1 → ∃ M', zR X (d + 8) 231 (32, [.ref 460, .int x, .int (pRu (pAg (emR M) r g) i).1, .int (pRu (pAg (emR M) r g) i).2, .int (rv i)], [], M1) = some (some (.int (if x = 0 then (pRu (pAg (emR M) r g) (r.1 + 1)).1 else (pRu (pAg (emR M) r g) (r.1 + 1)).2)), M') ∧ rsm M M' := by
        intro m
        induction m with
        | zero =>
          intro i M1 hi hb
          have hG1 := zwk_G hb.1 hG
          have hrs1 := rsR_w hb.1 hrs
          rw [t231_32 _ _ _ _ _ hG1, hrs1.1, if_pos (by rw [rv_p (by omega), of_le (by omega) (by omega)]; omega), show i = r.1 + 1 by omega]
          refine ⟨M1, ?_, hb.1, hb.2.2.1, hb.2.2.2⟩
          by_cases c4 : x = 0
          · rw [if_neg (not_not_intro c4), if_pos c4]
          · rw [if_pos c4, if_neg c4]
        | succ m ih =>
          intro i M1 hi hb
          have hG1 := zwk_G hb.1 hG
          have hrs1 := rsR_w hb.1 hrs
          have hst : pRu (pAg (emR M) r g) (i + 1) = bif pAg (emR M) r g i then ((pRu (pAg (emR M) r g) i).1 + 1, if (pRu (pAg (emR M) r g) i).1 = 0 then Int32.ofNat i - 1 else (pRu (pAg (emR M) r g) i).2) else pRu (pAg (emR M) r g) i := rfl
          have hnle : ¬ Int32.ofNat r.1 ≤ rv i := by
            rcases Nat.eq_zero_or_pos i with h0 | h0
            · rw [h0, rv_0, Int32.le_iff_toInt_le, Int32.toInt_ofNat_of_lt (by omega), show (-1 : Int32).toInt = -1 from rfl]; omega
            · rw [rv_p h0, of_le (by omega) (by omega)]; omega
          obtain ⟨M2, q1, q2, -, -⟩ := r230 (X := X) (d := d) (i := i) (K := M) (M := M1) hM ht hg hl hr hrs (by omega) hb
          rw [t231_32 _ _ _ _ _ hG1, hrs1.1, if_neg hnle, q1, Option.bind_some]
          dsimp only [zps]
          rw [t231_47 _ _ _ _ _ _ (zwk_G q2.1 hG), rv_s]
          have h9 := ih (i + 1) M2 (by omega) q2
          cases hA : pAg (emR M) r g i
          · rw [hA, cond_false] at hst
            rw [hst] at h9
            rw [cond_false, if_pos rfl]
            exact h9
          · rw [hA, cond_true] at hst
            rw [hst] at h9
            rw [cond_true, if_neg (by decide)]
            by_cases c3 : (pRu (pAg (emR M) r g) i).1 = 0
            · rw [if_pos c3] at h9
              rw [if_neg (not_not_intro c3)]
              exact h9
            · rw [if_neg c3] at h9
              rw [if_pos c3]
              exact h9
      exact loop (r.1 + 1) 0 M1 (by omega) ⟨w2, w6, fun k _ => by rw [w3], fun k _ => by rw [w4]⟩
