/-! ===== the reference's facts by depth, clauses, a rule as a whole ===== -/
/-- a bracket is closed -/
def bM (p n dp : Nat) (M : zM) : zM := zsI (zsI (zsI M 460 27 (Int32.ofNat p)) 460 34 (Int32.ofNat n)) 460 32 (Int32.ofNat dp)
theorem bM_c {p n dp a j : Nat} {M : zM} (h : a = 460 → j ≠ 27 ∧ j ≠ 32 ∧ j ≠ 34) : (bM p n dp M).1 a j = M.1 a j := by
  unfold bM
  by_cases e : a = 460
  · subst e
    obtain ⟨q1, q2, q3⟩ := h rfl
    rw [zI_s, if_neg q2, zI_s, if_neg q3, zI_s, if_neg q1]
  · rw [zI_n e, zI_n e, zI_n e]
theorem bM_F {b p n dp : Nat} {M : zM} : tF b M (bM p n dp M) := ⟨rfl, fun a q1 q2 q3 q4 => by funext j; exact bM_c (fun h => absurd h q1), fun j q1 q2 q3 q4 q5 q6 => bM_c (fun _ => ⟨q1, q4, q6⟩), fun j _ => ⟨bM_c (fun h => absurd h (by omega)), bM_c (fun h => absurd h (by omega))⟩⟩
theorem bM_27 {p n dp : Nat} {M : zM} : (bM p n dp M).1 460 27 = Int32.ofNat p ∧ (bM p n dp M).1 460 34 = Int32.ofNat n ∧ (bM p n dp M).1 460 32 = Int32.ofNat dp := by
  unfold bM
  refine ⟨?_, ?_, ?_⟩
  · rw [zI_s, if_neg (by omega), zI_s, if_neg (by omega), zI_s, if_pos rfl]
  · rw [zI_s, if_neg (by omega), zI_s, if_pos rfl]
  · rw [zI_s, if_pos rfl]
theorem bM_S {t : zTx} {sl o q q' c n dp : Nat} {e : List zOp} {M : zM} (h : rS t sl o q c e M) (hq : q' ≤ t.1) : rS t sl o q' c e (bM q' n dp M) := by
  obtain ⟨hB, h1, h27, h28, h31, h33, hz⟩ := h
  exact ⟨tF_B (bM_F (b := 0)) hB, hq, bM_27.1, by rw [bM_c (fun _ => ⟨by omega, by omega, by omega⟩)]; exact h28, by rw [bM_c (fun _ => ⟨by omega, by omega, by omega⟩)]; exact h31, by rw [bM_c (fun _ => ⟨by omega, by omega, by omega⟩)]; exact h33, zsg_k (fun j _ _ => ⟨bM_c (fun h => absurd h (by omega)), bM_c (fun h => absurd h (by omega))⟩) hz⟩
theorem bM_X {t : zTx} {sl f q' n dp : Nat} {M : zM} (h : rX t sl f M) (hq : q' ≤ 410) : rX t sl f (bM q' n dp M) := by
  obtain ⟨hB, h28, f1, f2, q, hq2, h27⟩ := h
  exact ⟨tF_B (bM_F (b := 0)) hB, by rw [bM_c (fun _ => ⟨by omega, by omega, by omega⟩)]; exact h28, f1, f2, q', hq, bM_27.1⟩
theorem rn_159 {X : (Nat → Int32) × Nat} {D sl o q c : Nat} {t : zTx} {e : List zOp} {M : zM} {v3 v4 : Value} (h : rS t sl o q c e M) : rn X D 1 v3 v4 M = (zC X (D + 9) 159 [.ref 460] M).bind fun z => zR X (D + 10) 160 (28, [.ref 460, .int 1, .int 1, v3, v4], zps z.1 [], z.2) := by
  unfold rn
  rw [t160_9 _ _ _ _ _ (rS_g h), if_neg (show ¬ (1 : Int32) = 0 by decide), if_neg (not_not_intro h.2.2.2.1), if_neg (show ¬ (1 : Int32) = 0 by decide)]
theorem rn_28 {X : (Nat → Int32) × Nat} {D : Nat} {M : zM} {v3 v4 : Value} (hG : zGE M) : zR X (D + 10) 160 (28, [.ref 460, .int 1, .int 1, v3, v4], [.int 0], M) = rn X D 1 v3 v4 M ∧ zR X (D + 10) 160 (28, [.ref 460, .int 1, .int 1, v3, v4], [.int 1], M) = rn X D 0 v3 v4 M := by
  constructor
  · rw [t160_28 _ _ _ _ _ _ hG, if_neg (show ¬ ¬ (0 : Int32) = 0 by decide)]; rfl
  · rw [t160_28 _ _ _ _ _ _ hG, if_pos (show ¬ (1 : Int32) = 0 by decide)]; rfl
theorem r160f {X : (Nat → Int32) × Nat} {D sl o : Nat} {t : zTx} : ∀ dd {S : List Nat} {q0 p c : Nat} {e : List zOp} {M : zM} {v3 v4 : Value}, dd ≤ 10 → S.length + 3 * dd ≤ 40 → rS t sl o q0 c e M → ken isB t q0 = p → 0 < p → c ≤ 60 → rT S (10 - dd) M → 2 * (o + e.length) ≤ p + 2 * c → rFt X D t sl o S (10 - dd) M v3 v4 (pFct t dd p c e) := by
  intro dd
  -- a fact made of a sign
  have cmp : ∀ {dd : Nat} {S : List Nat} {q0 p c : Nat} {e : List zOp} {M : zM} {v3 v4 : Value}, S.length ≤ 40 → rS t sl o q0 c e M → ken isB t q0 = p → 0 < p → c ≤ 60 → rT S (10 - dd) M → 2 * (o + e.length) ≤ p + 2 * c → ¬ (kk t p = 257 ∧ kw t p = 19) → ¬ kk t p = 91 → rFt X D t sl o S (10 - dd) M v3 v4 (pCmp t p c e) := by
    intro dd S q0 p c e M v3 v4 hS h hp h0 hc hT hr c1 c2
    have hx := (r159 (X := X) (d := D) h hp h0 hc hr hT (by omega) (by omega)).2.2.2 c1 c2
    cases hpv : pCmp t p c e with
    | inl f =>
      rw [hpv] at hx
      obtain ⟨M2, w1, w2, w3⟩ := hx
      refine ⟨M2, ?_, w2, w3⟩
      rw [rn_159 h, w1, Option.bind_some]
      dsimp only [zps]
      rw [(rn_28 (rX_g w3)).2, rn_x w3]
    | inr s =>
      rw [hpv] at hx
      obtain ⟨M2, w1, w2, w3, w4⟩ := hx
      obtain ⟨d1, d2, d3, -⟩ := pCmp_d hpv
      refine ⟨M2, s.1, v3, v4, ?_, w2, w3, d3, w4⟩
      rw [rn_159 h, w1, Option.bind_some]
      dsimp only [zps]
      rw [(rn_28 (rS_g w3)).2]
  induction dd with
  | zero =>
    intro S q0 p c e M v3 v4 hd hS h hp h0 hc hT hr
    rw [pFct]
    by_cases c1 : (kk t p = 257 ∧ kw t p = 19) ∨ kk t p = 91
    · rw [if_pos c1]
      obtain ⟨M2, w1, w2, w3⟩ := (r159 (X := X) (d := D) h hp h0 hc hr hT (by omega) (by omega)).2.2.1 c1 rfl
      refine ⟨M2, ?_, w2, w3⟩
      rw [rn_159 h, w1, Option.bind_some]
      dsimp only [zps]
      rw [(rn_28 (rX_g w3)).1, rn_x w3]
    · rw [if_neg c1]
      exact cmp (dd := 0) (by omega) h hp h0 hc hT hr (fun h => c1 (Or.inl h)) (fun h => c1 (Or.inr h))
  | succ dd ih =>
    intro S q0 p c e M v3 v4 hd hS h hp h0 hc hT hr
    have hL := h.1.2.1.1
    have hpt : p ≤ t.1 := by rw [← hp]; exact ken_b.2.1 h.2.1
    rw [pFct]
    by_cases c1 : kk t p = 257 ∧ kw t p = 19
    · rw [if_pos c1]
      obtain ⟨M2, w1, w2, w3, w4, w5⟩ := (r159 (X := X) (d := D) h hp h0 hc hr hT (by omega) (by omega)).1 c1 (by omega)
      rw [show 10 - (dd + 1) + 1 = 10 - dd by omega] at w5
      have a1 := (kA_b (t := t) (p := p) (kk_p (by omega))).1
      have hv := ih (S := 9 :: S) (v3 := v3) (v4 := v4) (by omega) (by rw [List.length_cons]; omega) w3 w4 (by omega) hc w5 (by omega)
      have e1 : rn X D 1 v3 v4 M = rn X D 1 v3 v4 M2 := by
        rw [rn_159 h, w1, Option.bind_some]
        dsimp only [zps]
        rw [(rn_28 (rS_g w3)).1]
      cases hpv : pFct t dd (kA t p) c e with
      | inl f =>
        rw [hpv] at hv
        obtain ⟨M3, y1, y2, y3⟩ := hv
        exact ⟨M3, e1.trans y1, tF_t w2 y2, y3⟩
      | inr s =>
        rw [hpv] at hv
        obtain ⟨M3, q, v3', v4', y1, y2, y3, y4, y5⟩ := hv
        obtain ⟨d1, d2, d3, d4, d5, l, d6, d7, d8, d9⟩ := pFct_d dd _ _ _ _ hpv
        have hlen : s.2.2.length = e.length + l.length := by rw [d6, List.length_append]
        obtain ⟨z1, z2, z3, z4⟩ := r158s (X := X) (d := D + 8) y3 y5 (by omega) (by omega) (fun _ => by omega) (by omega)
        rw [if_pos rfl, show 10 - dd - 1 = 10 - (dd + 1) by omega] at z4
        refine ⟨_, q, v3', v4', ?_, tF_t (tF_t w2 y2) z2, z3, y4, z4⟩
        rw [e1, y1]
        unfold rn
        rw [t160_9 _ _ _ _ _ (rS_g y3), t160_9 _ _ _ _ _ (rS_g z3), if_neg (show ¬ (1 : Int32) = 0 by decide), if_neg (show ¬ (1 : Int32) = 0 by decide), if_neg (not_not_intro y3.2.2.2.1), if_neg (not_not_intro z3.2.2.2.1), if_pos rfl, if_pos rfl, show (9 : Int32) = Int32.ofNat 9 from rfl, z1]
    · rw [if_neg c1]
      by_cases c2 : kk t p = 91
      · rw [if_pos c2]
        obtain ⟨M2, w1, w2, w3, w4, w5⟩ := (r159 (X := X) (d := D) h hp h0 hc hr hT (by omega) (by omega)).2.1 c2 (by omega)
        rw [show 10 - (dd + 1) + 1 = 10 - dd by omega] at w5
        have a1 := (kA_b (t := t) (p := p) (kk_p (by omega))).1
        have e1 : rn X D 1 v3 v4 M = rn X D 1 v3 v4 M2 := by
          rw [rn_159 h, w1, Option.bind_some]
          dsimp only [zps]
          rw [(rn_28 (rS_g w3)).1]
        have hv := r160t (X := X) (D := D) (sl := sl) (o := o) (dp := 10 - dd) (N := 40 - 3 * dd) (S := 12 :: S) (F := pFct t dd) (pFct_d dd) (by omega) (by omega) (by rw [List.length_cons]; omega) (fun x r hx => by cases hx; rfl) (fun g1 g2 g3 g4 g5 g6 g7 => ih (by omega) (by omega) g2 g3 g4 g5 g6 g7) 400 (an := 0) (o' := 0) (v3 := v3) (v4 := v4) (Or.inl rfl) (Or.inl rfl) w3 w4 (by omega) hc w5 (by omega) (by rw [show phi 0 = 0 from rfl]; omega)
        cases hpv : pTsL t (pFct t dd) 400 0 0 (kA t p) c e with
        | inl f =>
          rw [hpv] at hv
          obtain ⟨M3, y1, y2, y3⟩ := hv
          exact ⟨M3, e1.trans y1, tF_t w2 y2, y3⟩
        | inr s =>
          rw [hpv] at hv
          obtain ⟨M3, x3, x4, y1, y2, y3, y4⟩ := hv
          have hs := y3.2.1
          have hb := rS_hb y3
          have k93 := kk_b (t := t) (p := s.1) (x := 93) hb (by omega) (by omega) (by omega) (by omega) (by omega)
          have q93 : (sgR t s.1 = 93) ↔ kk t s.1 = 93 := (sgR_k (x := 93) hb (by omega)).trans k93.1.symm
          have e2 : rn X D 1 v3 v4 M = zR X (D + 10) 160 (150, [.ref 460, .int 0, .int 1, .int x3, .int x4], [.int (sgR t s.1)], M3) := by
            rw [e1, y1, t160_137 _ _ _ _ _ (rS_g y3), r156 (rS_g y3) y4 (by rw [List.length_cons]; omega), Option.bind_some]
            dsimp only [zps]
            rw [t160_141 _ _ _ _ _ _ (rS_g y3), if_neg (not_not_intro (show tpS (12 :: S) = 12 from rfl)), rS_4 y3, Option.bind_some]
            rfl
          dsimp only
          by_cases c3 : kk t s.1 = 93
          · have u3 := k93.2 c3
            have u4 := (kX_b (t := t) (p := s.1) (kk_p (by omega))).2
            rw [if_pos c3]
            have hS3 := bM_S (q' := s.1 + 1) (n := S.length) (dp := 10 - (dd + 1)) y3 (by omega)
            refine ⟨bM (s.1 + 1) S.length (10 - (dd + 1)) M3, s.1 + 1, .int x3, .int x4, ?_, tF_t (tF_t w2 y2) bM_F, hS3, by unfold kA; rw [u3], ⟨bM_27.2.2, bM_27.2.1, ?_⟩⟩
            · rw [e2, t160_150 _ _ _ _ _ _ (rS_g y3), if_pos (q93.mpr c3), y3.2.2.1, of_succ, y4.2.1, y4.1, List.length_cons, of_pred (by omega), of_pred (by omega), show S.length + 1 - 1 = S.length by omega, show 10 - dd - 1 = 10 - (dd + 1) by omega]
              rfl
            · refine rk_up (fun j hj => ?_) y4.2.2.2
              exact bM_c (fun h => absurd h (by omega))
          · rw [if_neg c3]
            have hf := rS_f (w := 0) y3 hs (by omega)
            have hf2 : (fM 0 s.1 M3).1 460 34 = M3.1 460 34 ∧ (fM 0 s.1 M3).1 460 32 = M3.1 460 32 ∧ (fM 0 s.1 M3).1 460 27 = M3.1 460 27 := by
              unfold fM
              rw [if_pos y3.2.2.2.1, zI_s, zI_s, zI_s, if_neg (by omega), if_neg (by omega), if_neg (by omega)]
              exact ⟨rfl, rfl, rfl⟩
            have hX := bM_X (q' := s.1 + 1) (n := S.length) (dp := 10 - (dd + 1)) hf (by omega)
            refine ⟨bM (s.1 + 1) S.length (10 - (dd + 1)) (fM 0 s.1 M3), ?_, tF_t (tF_t w2 y2) (tF_t (tF_q fM_q) bM_F), hX⟩
            rw [e2, t160_150 _ _ _ _ _ _ (rS_g y3), if_neg (mt q93.mp c3), y3.2.2.1, show (0 : Int32) = Int32.ofNat 0 from rfl, r143 (rS_g y3), Option.bind_some]
            dsimp only [zps]
            rw [t160_164 _ _ _ _ _ (rX_g hf), hf2.1, hf2.2.1, hf2.2.2, y3.2.2.1, of_succ, y4.2.1, y4.1, List.length_cons, of_pred (by omega), of_pred (by omega), show S.length + 1 - 1 = S.length by omega, show 10 - dd - 1 = 10 - (dd + 1) by omega]
            exact rn_x hX
      · rw [if_neg c2]
        exact cmp (dd := dd + 1) (by omega) h hp h0 hc hT hr c1 c2
/-- a test -/
theorem r160 {X : (Nat → Int32) × Nat} {D sl o q0 p c : Nat} {t : zTx} {e : List zOp} {M : zM} (h : rS t sl o q0 c e M) (h32 : M.1 460 32 = 0) (hp : ken isB t q0 = p) (h0 : 0 < p) (hc : c ≤ 60) (hr : 2 * (o + e.length) ≤ p + 2 * c) : match pTsL t (pFct t 10) 400 0 0 p c e with
    | .inl f => ∃ M', zC X (D + 10) 160 [.ref 460] M = some (none, M') ∧ tF (300 * sl + o) M M' ∧ rX t sl f M'
    | .inr s => ∃ M', zC X (D + 10) 160 [.ref 460] M = some (none, M') ∧ tF (300 * sl + o) M M' ∧ rS t sl o s.1 s.2.1 s.2.2 M' ∧ M'.1 460 32 = 0 := by
  have hL := h.1.2.1.1
  have hF0 : tF (300 * sl + o) M (zsI M 460 34 0) := ⟨rfl, fun a q1 _ _ _ => zI_n1 q1, fun j _ _ _ _ _ q6 => by rw [zI_s, if_neg q6], fun j _ => ⟨by rw [zI_n (by omega)], by rw [zI_n (by omega)]⟩⟩
  have h1 : rS t sl o q0 c e (zsI M 460 34 0) := by
    obtain ⟨hB, h1, h27, h28, h31, h33, hz⟩ := h
    exact ⟨tF_B hF0 hB, h1, by rw [zI_s, if_neg (by omega)]; exact h27, by rw [zI_s, if_neg (by omega)]; exact h28, by rw [zI_s, if_neg (by omega)]; exact h31, by rw [zI_s, if_neg (by omega)]; exact h33, by rw [zI_n1 (by omega), zI_n1 (by omega)]; exact hz⟩
  have hT : rT [] 0 (zsI M 460 34 0) := ⟨by rw [zI_s, if_neg (by omega)]; exact h32, by rw [zI_s, if_pos rfl]; rfl, True.intro⟩
  have hv := r160t (X := X) (D := D) (sl := sl) (o := o) (dp := 0) (N := 10) (S := []) (F := pFct t 10) (pFct_d 10) (by omega) (by omega) (by show 0 + 2 ≤ 10; omega) (fun x r hx => by cases hx) (fun g1 g2 g3 g4 g5 g6 g7 => r160f 10 (by omega) (by omega) g2 g3 g4 g5 g6 g7) 400 (an := 0) (o' := 0) (v3 := zjk) (v4 := zjk) (Or.inl rfl) (Or.inl rfl) h1 hp h0 hc hT (by omega) (by rw [show phi 0 = 0 from rfl]; omega)
  have hu : zC X (D + 10) 160 [.ref 460] M = rn X D 1 zjk zjk (zsI M 460 34 0) := by
    show zR X (D + 10) 160 (0, [.ref 460, zjk, zjk, zjk, zjk], [], M) = _
    rw [t160_0 _ _ _ _ _ (rS_g h)]
    rfl
  rw [hu]
  cases hpv : pTsL t (pFct t 10) 400 0 0 p c e with
  | inl f =>
    rw [hpv] at hv
    obtain ⟨M3, y1, y2, y3⟩ := hv
    exact ⟨M3, y1, tF_t hF0 y2, y3⟩
  | inr s =>
    rw [hpv] at hv
    obtain ⟨M3, x3, x4, y1, y2, y3, y4⟩ := hv
    refine ⟨M3, ?_, tF_t hF0 y2, y3, y4.1⟩
    rw [y1, t160_137 _ _ _ _ _ (rS_g y3), r156 (rS_g y3) y4 (by show 0 < 400; omega), Option.bind_some]
    dsimp only [zps]
    rw [t160_141 _ _ _ _ _ _ (rS_g y3), if_pos (show ¬ tpS [] = 12 by decide), t160_9 _ _ _ _ _ (rS_g y3), if_pos rfl]
