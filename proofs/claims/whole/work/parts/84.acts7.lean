/-! ===== sell, bribe, kill, undo ===== -/
theorem fD_pre {M M0 M1 : zM} (h : zfr 114 150 M M0) (h2 : fD M0 M1) : fD M M1 := ⟨h2.1, fun c hc h39 => (h2.2.1 c hc h39).trans (h.2 c (by omega)).1, fun k hk => (h2.2.2.1 k hk).trans (by rw [(h.2 39 (by omega)).1]), fun c hc => by rw [h2.2.2.2 c hc, h.1]⟩
theorem o_sell {X : (Nat → Int32) × Nat} {d : Nat} {M : zM} (hI : INV M) : zOp2 X (d + 10) 109 206 [] M := by
  obtain ⟨rl, g, i, x0, hc⟩ := INV_cx hI
  obtain ⟨q1, q2, q3, q4, q5, q6, q7, q8, q9, q10, q11, q12, q13, q14, q15, -⟩ := id hc
  obtain ⟨hn4, -⟩ := okR_D q2.2.1
  obtain ⟨o1, ⟨dq, dq1, dq2⟩, o3⟩ := id q12
  have hs67 : stD (nD (emR M)) 67 M = aR M := by rw [← q7, ← q6]
  have e3 : M.1 67 3 = aR M 3 := by rw [← q7]; exact (stD_f (by decide)).symm
  have hE : okE (emD 40 M) := by rw [q6]; exact q2.2.1
  by_cases c0 : emR M 0 0 = 0
  · refine opQ (v := -2) hI ⟨M, ?_, zfr_rf⟩ (fun M1 hf hI1 => ⟨M1, ?_, rsm_rf⟩)
    · show zR X (d + 10) 109 (0, [.ref 0], [], M) = _
      rw [t109_0 _ q1, s11 q1 zq_40 hE, Option.bind_some, q6]
      dsimp only [zps]
      rw [t109_10 _ _ q1, if_pos c0, if_pos rfl]
    · show zR X (d + 10) 206 (0, [.ref 460, zjk], [], M1) = _
      have h0 : M1.1 460 25 = 0 := by rw [(hf.2 460 (by omega)).1]; exact c0
      rw [t206_0 _ _ (zfr_G hf q1), if_pos h0]
  · have ht := (q10 (tld q2.2.1 c0)).1
    by_cases c1 : aR M 3 = -1
    · obtain ⟨M0, s1, s2, s3⟩ := s133 (X := X) (d := d + 6) q1 hE (by rw [q6]; exact ht) q3 q4 q13 q14
      rw [q6, q7] at s3
      have hG0 := zfr_G s2 q1
      have s2' : zfr 114 150 M M0 := zfr_up s2 (by omega) (by omega)
      have w1 : M0.1 114 1 = (pWon (emR M) (aR M) (emR M 14) (pRl rl.2 i)).2.1 := by rw [← s3]; rfl
      have w2 : M0.1 114 2 = (pWon (emR M) (aR M) (emR M 14) (pRl rl.2 i)).1 := by rw [← s3]; rfl
      have dPre : zR X (d + 10) 109 (0, [.ref 0], [], M) = zR X (d + 10) 109 (34, [.ref 0], [], M0) := by
        rw [t109_0 _ q1, s11 q1 zq_40 hE, Option.bind_some, q6]
        dsimp only [zps]
        rw [t109_10 _ _ q1, if_neg c0, if_neg (by decide), e3, if_pos c1, s1, Option.bind_some]
        rfl
      by_cases c2 : (pWon (emR M) (aR M) (emR M 14) (pRl rl.2 i)).2.1 = -1
      · refine opQ (v := -1) hI ⟨M0, ?_, s2'⟩ (fun M1 hf hI1 => ?_)
        · show zR X (d + 10) 109 (0, [.ref 0], [], M) = _
          rw [dPre, t109_34 _ hG0, w1, if_neg (not_not_intro c2)]
        · obtain ⟨⟨p1, p2, p3, p4, p5, p6, p7, p8, p9, p10, p11, p12, p13, p14, p15, -⟩, em, ea⟩ := cx_D hf hc
          obtain ⟨Ma, Mb, a1, a2, a3, a4, a5, a6⟩ := rsale (X := X) (d := d + 3) p2 (by rw [em]; exact ht) p3 p5 p13 p15
          rw [em, ea] at a2 a6
          refine ⟨Mb, ?_, a5⟩
          show zR X (d + 10) 206 (0, [.ref 460, zjk], [], M1) = _
          have h0 : ¬ M1.1 460 25 = 0 := by rw [(hf.2 460 (by omega)).1]; exact c0
          have h7 : M1.1 461 7 = -1 := by rw [(hf.2 461 (by omega)).1]; exact c1
          rw [t206_0 _ _ p1, if_neg h0, if_pos h7, a1, Option.bind_some]
          dsimp only [zps]
          rw [t206_25 _ _ a3, a2, Option.bind_some]
          dsimp only [zps]
          rw [t206_30 _ _ _ a4, if_neg (not_not_intro c2)]
      · have hH := okH_won (E := emR M) (A := aR M) (D := emR M 14) (o := pRl rl.2 i) ht
        have hw : okR (emR M) (pWon (emR M) (aR M) (emR M 14) (pRl rl.2 i)).2.1 := by
          rcases hH.2 with h | ⟨⟨b, hb, e⟩, _⟩
          · exact absurd h c2
          · rw [e]; exact okR_b hb
        refine opA (v := (pWon (emR M) (aR M) (emR M 14) (pRl rl.2 i)).2.1) (A := pCrown (aR M) (pWon (emR M) (aR M) (emR M 14) (pRl rl.2 i)).2.1 (pWon (emR M) (aR M) (emR M 14) (pRl rl.2 i)).1) hI ⟨by rw [pCrown_3]; exact hw, ⟨dq, dq1, by rw [pCrown_2]; exact dq2⟩, ?_⟩ (fun p p1 p2 => ?_) (fun p M1 p1 hfD p2 => ?_)
        · unfold pCrown
          rw [zu_n (by decide), zu_n (by decide), zu_n (by decide), zu_n (by decide)]
          exact o3
        · show ∃ M1, zR X (d + 10) 109 (0, [.ref 0], [], M) = some (some (.int _), M1) ∧ _
          have s39 : M0.1 39 5 = Int32.ofNat p := by rw [(s2.2 39 (by omega)).1]; exact p2
          obtain ⟨Ma, a1, a2, a3, a4, a5⟩ := act_D (X := X) (d := d + 8) (n := nD (emR M)) hG0 hn4 p1 s39
          have sta : stD (nD (emR M)) 67 Ma = aR M := by
            rw [← hs67]
            exact stD_cells ((a4 67 (by omega)).trans (s2.2 67 (by omega)).1) ((a4 68 (by omega)).trans (s2.2 68 (by omega)).1)
          have e114 : Ma.1 114 = M0.1 114 := a4 114 (by omega)
          obtain ⟨Mb, b1, b2, b3⟩ := s72 (X := X) (d := d + 9) (n := nD (emR M)) (s := 67) (w := (pWon (emR M) (aR M) (emR M 14) (pRl rl.2 i)).2.1) (p := (pWon (emR M) (aR M) (emR M 14) (pRl rl.2 i)).1) a2 zq_67
          rw [sta] at b3
          obtain ⟨c1', c2', c3'⟩ := a5 Mb b2
          have hv : ∀ j, j < 20 → stD (nD (emR M)) (M0.2.2.1 69 j) M0 = stD (nD (emR M)) (M.2.2.1 69 j) M := fun j hj => by
            obtain ⟨b, hb, hrb⟩ := past_c q1 (i := j) hj
            rw [s2.1, hrb]
            exact stD_cells (s2.2 _ (by omega)).1 (s2.2 _ (by omega)).1
          have hs0 : stD (nD (emR M)) 67 M0 = aR M := by rw [← hs67]; exact zfr_st s2 (by omega)
          refine ⟨Mb, ?_, fD_pre s2' c1', b3, c2', fun j hj => ?_⟩
          · rw [dPre, t109_34 _ hG0, w1, if_pos c2, a1, Option.bind_some]
            dsimp only [zps]
            rw [t109_54 _ a2, e114, w1, w2, b1, Option.bind_some]
            dsimp only [zps]
            rw [t109_78 _ (zfr_G b2 a2), (b2.2 114 (by omega)).1, e114, w1]
          · rw [c3' j hj, hs0]
            unfold pRemN at hj
            unfold pRem
            by_cases c : p < 20
            · rw [if_pos c] at hj
              rw [if_pos c, if_pos c]
              by_cases e : j = p
              · rw [if_pos e, if_pos e]
              · rw [if_neg e, if_neg e]; exact hv j (by omega)
            · rw [if_neg c] at hj
              rw [if_neg c, if_neg c]
              by_cases e : j = 19
              · rw [if_pos e, if_pos e]
              · rw [if_neg e, if_neg e]; exact hv (j + 1) (by omega)
        · show ∃ M2, zR X (d + 10) 206 (0, [.ref 460, zjk], [], M1) = some (some (.int _), M2) ∧ _
          obtain ⟨u1, u2, u3, u4, u5, u6, u7⟩ := fD_cx hfD hc
          have ea1 : aR M1 = aR M := by show stR (nD (emR M1)) M1 = _; rw [u2, u3]
          obtain ⟨Mx, My, x1, x2, x3, x4, x5, x6⟩ := rsale (X := X) (d := d + 3) u1 (by rw [u2]; exact ht) q3 u4 q13 u5
          rw [u2, ea1] at x2 x6
          have hMy := zwk_M x5.1 u1
          have emy := zwk_em x5.1
          have sty : stR (nD (emR M)) My = aR M := by rw [rsm_st x5 hn4, u3]
          obtain ⟨Ma, a1, a2, a3, a4, a5, a6, a7, a8, a9⟩ := act_R (X := X) (d := d + 7) (n := nD (emR M)) (p := p) hMy hn4 p1 (by rw [x5.1.2.2.1 55 (by omega) (by omega) (by omega)]; exact p2)
          have sta : stR (nD (emR M)) Ma = aR M := by rw [a4, sty]
          have w47 : Ma.1 460 47 = (pWon (emR M) (aR M) (emR M 14) (pRl rl.2 i)).1 := by rw [a8, ← x6]; rfl
          obtain ⟨Mb, b1, b2, b3⟩ := r193 (X := X) (d := d + 9) (n := nD (emR M)) (w := (pWon (emR M) (aR M) (emR M 14) (pRl rl.2 i)).2.1) a2.1
          rw [sta, w47] at b3
          obtain ⟨w1, w2, w3⟩ := a9 Mb b2
          have hpy : ∀ j, pastR (nD (emR M)) My j = pastR (nD (emR M)) M j := fun j => by
            rw [← u6]
            unfold pastR
            rw [zwk_c x5.1 (a := 497) (by decide) (by decide) (by decide)]
          rw [sty] at w3
          simp only [hpy] at w3
          have h0 : ¬ M1.1 460 25 = 0 := by rw [u7 460 (by omega)]; exact c0
          have h7 : M1.1 461 7 = -1 := by rw [u7 461 (by omega)]; exact c1
          refine ⟨Mb, ?_, fR_tr (fR_r x5) w1, b3, w2, w3⟩
          rw [t206_0 _ _ u1.1, if_neg h0, if_pos h7, x1, Option.bind_some]
          dsimp only [zps]
          rw [t206_25 _ _ x3, x2, Option.bind_some]
          dsimp only [zps]
          rw [t206_30 _ _ _ x4, if_pos c2, a1, Option.bind_some]
          dsimp only [zps]
          rw [t206_42 _ _ a2.1, b1, Option.bind_some]
          dsimp only [zps]
          rw [t206_47 _ _ (zfs_G b2 a2.1)]
    · refine opQ (v := -2) hI ⟨M, ?_, zfr_rf⟩ (fun M1 hf hI1 => ⟨M1, ?_, rsm_rf⟩)
      · show zR X (d + 10) 109 (0, [.ref 0], [], M) = _
        rw [t109_0 _ q1, s11 q1 zq_40 hE, Option.bind_some, q6]
        dsimp only [zps]
        rw [t109_10 _ _ q1, if_neg c0, if_neg (by decide), e3, if_neg c1]
      · show zR X (d + 10) 206 (0, [.ref 460, zjk], [], M1) = _
        have h0 : ¬ M1.1 460 25 = 0 := by rw [(hf.2 460 (by omega)).1]; exact c0
        have h7 : ¬ M1.1 461 7 = -1 := by rw [(hf.2 461 (by omega)).1]; exact c1
        rw [t206_0 _ _ (zfr_G hf q1), if_neg h0, if_neg h7]
def pBrb (E : zE) (A : zA) (b : Nat) : zA := zu (zu A 0 (A 0 - E 9 b)) 8 (A 8 ||| (1 <<< (Int32.ofNat b &&& 31)))
theorem o_bribe {X : (Nat → Int32) × Nat} {d : Nat} {x : Int32} {M : zM} (hI : INV M) : zOp2 X (d + 10) 110 207 [.int x] M := by
  obtain ⟨rl, g, i, x0, hc⟩ := INV_cx hI
  obtain ⟨q1, q2, q3, q4, q5, q6, q7, q8, q9, q10, q11, q12, -⟩ := id hc
  obtain ⟨hn4, -⟩ := okR_D q2.2.1
  obtain ⟨hnN, hcN⟩ := okR_N q2.2.1
  obtain ⟨o1, o2, o3⟩ := id q12
  have hs67 : stD (nD (emR M)) 67 M = aR M := by rw [← q7, ← q6]
  have e0 : M.1 67 0 = aR M 0 := by rw [← q7]; exact (stD_f (by decide)).symm
  have e8 : M.1 67 8 = aR M 8 := by rw [← q7]; exact (stD_f (by decide)).symm
  have h12 := s12y (X := X) (d := d + 9) (e := 40) (c := 2) (x := x) (y := 2) rfl q1 zq_40 (by omega)
  rw [q6] at h12
  by_cases c0 : x < 0 ∨ emR M 0 2 ≤ x
  · rw [if_pos c0] at h12
    refine opQ (v := -1) hI ⟨M, ?_, zfr_rf⟩ (fun M1 hf hI1 => ?_)
    · show zR X (d + 10) 110 (0, [.ref 0, .int x], [], M) = _
      rw [t110_0 _ _ q1, h12, Option.bind_some]
      dsimp only [zps]
      rw [t110_12 _ _ _ q1, if_pos rfl]
    · obtain ⟨⟨p1, p2, -⟩, em, ea⟩ := cx_D hf hc
      refine ⟨M1, ?_, rsm_rf⟩
      show zR X (d + 10) 207 (0, [.ref 460, .int x], [], M1) = _
      have h := r138 (X := X) (d := d + 8) (x := x) p1 p2.2.1
      rw [em, if_pos c0] at h
      rw [t207_0 _ _ p1, h, Option.bind_some]
      dsimp only [zps]
      rw [t207_5 _ _ _ p1, if_pos rfl]
  · rw [if_neg c0] at h12
    obtain ⟨ex, hb⟩ := of_has (c := 2) (by omega) hcN c0
    generalize x.toNatClampNeg = b at ex hb
    subst ex
    have bb : (Int32.ofNat b).toNatClampNeg = b := toNat_of (by omega)
    have e51 : M.1 51 b = emR M 9 b := by rw [← q6]; exact (emD_N (Or.inr (Or.inr rfl)) (by rw [q6]; exact hb)).symm
    have dPre : zR X (d + 10) 110 (0, [.ref 0, .int (Int32.ofNat b)], [], M) = zR X (d + 10) 110 (26, [.ref 0, .int (Int32.ofNat b)], [.int (bif pFree (aR M) b then 1 else 0)], M) := by
      rw [t110_0 _ _ q1, h12, Option.bind_some]
      dsimp only [zps]
      rw [t110_12 _ _ _ q1, if_neg (by decide), s76 (n := nD (emR M)) q1 zq_67, Option.bind_some, hs67]
      rfl
    have rPre : ∀ M1, okM M1 → emR M1 = emR M → stR (nD (emR M)) M1 = aR M → zR X (d + 10) 207 (0, [.ref 460, .int (Int32.ofNat b)], [], M1) = zR X (d + 10) 207 (13, [.ref 460, .int (Int32.ofNat b)], [.int (bif pFree (aR M) b then 1 else 0)], M1) := fun M1 hM1 em hst => by
      have h := r138 (X := X) (d := d + 8) (x := Int32.ofNat b) hM1.1 hM1.2.1
      rw [em, if_neg c0] at h
      rw [t207_0 _ _ hM1.1, h, Option.bind_some]
      dsimp only [zps]
      rw [t207_5 _ _ _ hM1.1, if_neg (by decide), r197 (n := nD (emR M)) hM1.1, Option.bind_some, hst]
      rfl
    by_cases c1 : pFree (aR M) b = true ∧ emR M 9 b ≤ aR M 0
    · refine opA (v := aR M 0 - emR M 9 b) (A := pBrb (emR M) (aR M) b) hI ⟨?_, ?_, ?_⟩ (fun p p1 p2 => ?_) (fun p M1 p1 hfD p2 => ?_)
      · unfold pBrb; rw [zu_n (by decide), zu_n (by decide)]; exact o1
      · unfold pBrb; rw [zu_n (by decide), zu_n (by decide)]; exact o2
      · unfold pBrb; rw [zu_n (by decide), zu_n (by decide)]; exact o3
      · show ∃ M1, zR X (d + 10) 110 (0, [.ref 0, .int (Int32.ofNat b)], [], M) = some (some (.int _), M1) ∧ _
        obtain ⟨Ma, a1, a2, a3, a4, a5⟩ := act_D (X := X) (d := d + 8) (n := nD (emR M)) q1 hn4 p1 p2
        have sta : stD (nD (emR M)) 67 Ma = aR M := by rw [← hs67]; exact stD_cells (a4 67 (by omega)) (a4 68 (by omega))
        have f0 : Ma.1 67 0 = aR M 0 := by rw [a4 67 (by omega)]; exact e0
        have f8 : Ma.1 67 8 = aR M 8 := by rw [a4 67 (by omega)]; exact e8
        have f51 : Ma.1 51 b = emR M 9 b := by rw [a4 51 (by omega)]; exact e51
        have b2 : zfr 67 69 Ma (zsI (zsI Ma 67 0 (aR M 0 - emR M 9 b)) 67 8 (aR M 8 ||| (1 <<< (Int32.ofNat b &&& 31)))) := zfr_I (zfr_I zfr_rf (by omega) (by omega)) (by omega) (by omega)
        obtain ⟨c1', c2', c3'⟩ := a5 _ b2
        rw [hs67] at c3'
        refine ⟨_, ?_, c1', ?_, c2', c3'⟩
        · rw [dPre, c1.1, cond_true, t110_26 _ _ _ q1 (fun _ => vp_of (by omega) (by omega)), if_neg (by decide), bb, e51, e0, if_pos c1.2, a1, Option.bind_some]
          dsimp only [zps]
          rw [t110_66 _ _ a2 (vp_of (by omega) (by omega)), bb, f51, f0, f8]
        · rw [stD_I (by decide), stD_I (by decide), sta]
          rfl
      · show ∃ M2, zR X (d + 10) 207 (0, [.ref 460, .int (Int32.ofNat b)], [], M1) = some (some (.int _), M2) ∧ _
        obtain ⟨u1, u2, u3, u4, u5, u6, u7⟩ := fD_cx hfD hc
        obtain ⟨Ma, a1, a2, a3, a4, a5, a6, a7, a8, a9⟩ := act_R (X := X) (d := d + 7) (n := nD (emR M)) u1 hn4 p1 p2
        have sta : stR (nD (emR M)) Ma = aR M := by rw [a4, u3]
        have g69 : M1.1 469 b = emR M 9 b := by rw [u7 469 (by omega)]; exact (emR_N (Or.inr (Or.inr rfl)) hb).symm
        have g0 : M1.1 461 0 = aR M 0 := by rw [u7 461 (by omega)]; rfl
        have f69 : Ma.1 469 b = emR M 9 b := by rw [a7]; exact g69
        have f0 : Ma.1 461 0 = aR M 0 := by rw [a5]; exact g0
        have f13 : Ma.1 461 13 = aR M 8 := by rw [a5, u7 461 (by omega)]; rfl
        have b2 : zfs Ma (zsI (zsI Ma 461 0 (aR M 0 - emR M 9 b)) 461 13 (aR M 8 ||| (1 <<< (Int32.ofNat b &&& 31)))) := zfs_I (i := 8) (zfs_I (i := 0) zfs_rf (by decide)) (by decide)
        obtain ⟨w1, w2, w3⟩ := a9 _ b2
        rw [u3] at w3
        simp only [u6] at w3
        refine ⟨_, ?_, w1, ?_, w2, w3⟩
        · rw [rPre M1 u1 u2 (by rw [u3]), c1.1, cond_true, t207_13 _ _ _ u1.1 (fun _ => vp_of (by omega) (by omega)), if_neg (by decide), bb, g69, g0, if_pos c1.2, a1, Option.bind_some]
          dsimp only [zps]
          rw [t207_37 _ _ a2.1 (vp_of (by omega) (by omega)), bb, f69, f0, f13]
        · refine (stR_I (k := 8) (M := zsI Ma 461 0 (aR M 0 - emR M 9 b)) (by decide)).trans ?_
          refine (congrArg (fun q => zu q 8 _) (stR_I (k := 0) (M := Ma) (by decide))).trans ?_
          rw [sta]
          rfl
    · refine opQ (v := -1) hI ⟨M, ?_, zfr_rf⟩ (fun M1 hf hI1 => ?_)
      · show zR X (d + 10) 110 (0, [.ref 0, .int (Int32.ofNat b)], [], M) = _
        rw [dPre, t110_26 _ _ _ q1 (fun _ => vp_of (by omega) (by omega)), bb, e51, e0]
        cases hF : pFree (aR M) b
        · rw [cond_false, if_pos rfl]
        · rw [cond_true, if_neg (by decide), if_neg (fun h => c1 ⟨hF, h⟩)]
      · obtain ⟨⟨p1, p2, -⟩, em, ea⟩ := cx_D hf hc
        refine ⟨M1, ?_, rsm_rf⟩
        show zR X (d + 10) 207 (0, [.ref 460, .int (Int32.ofNat b)], [], M1) = _
        have g69 : M1.1 469 b = emR M 9 b := by rw [(hf.2 469 (by omega)).1]; exact (emR_N (Or.inr (Or.inr rfl)) hb).symm
        have g0 : M1.1 461 0 = aR M 0 := by rw [(hf.2 461 (by omega)).1]; rfl
        have est1 : stR (nD (emR M)) M1 = aR M := by rw [← ea]; show _ = stR (nD (emR M1)) M1; rw [em]
        rw [rPre M1 p2 em est1, t207_13 _ _ _ p1 (fun _ => vp_of (by omega) (by omega)), bb, g69, g0]
        cases hF : pFree (aR M) b
        · rw [cond_false, if_pos rfl]
        · rw [cond_true, if_neg (by decide), if_neg (fun h => c1 ⟨hF, h⟩)]
