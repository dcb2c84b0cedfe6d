/-! ===== the reference's facts and tests ===== -/
theorem kis_b {t : zTx} {p w : Nat} (hw : w < 20) : kis t p w = true ↔ kk t p = 257 ∧ kw t p = w := by
  constructor
  · intro h
    have h1 := (kw_is hw).mp h
    exact ⟨(kw_257 (t := t) (p := p) (by omega)).2.1, h1⟩
  · intro h
    exact (kw_is hw).mpr h.2
theorem rS_w {X : (Nat → Int32) × Nat} {d sl o q c j w : Nat} {t : zTx} {e : List zOp} {M : zM} (h : rS t sl o q c e M) (hj : j < 21) (hj0 : j ≠ 0) (hjw : jw j = w) (hw : w < 20) : zC X (d + 4) 147 [.ref 460, .retAddr j] M = some (some (.int (if kk t q = 257 ∧ kw t q = w then 1 else 0)), M) := by
  rw [r147 h.1.1 h.1.2.1 h.2.2.1 (by have := h.2.1; have := h.1.2.1.1; omega) hj hj0, hjw]
  by_cases c1 : kk t q = 257 ∧ kw t q = w
  · rw [if_pos c1, (kis_b hw).mpr c1]; rfl
  · rw [if_neg c1]
    have : kis t q w = false := by
      cases hc : kis t q w with
      | true => exact absurd ((kis_b hw).mp hc) c1
      | false => rfl
    rw [this]; rfl
/-- the fact's begin -/
theorem r159 {X : (Nat → Int32) × Nat} {d sl o q0 p c dp : Nat} {t : zTx} {S : List Nat} {e : List zOp} {M : zM} (h : rS t sl o q0 c e M) (hp : ken isB t q0 = p) (h0 : 0 < p) (hc : c ≤ 60) (hr : 2 * (o + e.length) ≤ p + 2 * c) (hT : rT S dp M) (hS : S.length < 400) (hdp : dp ≤ 10) :
    (kk t p = 257 ∧ kw t p = 19 → dp < 10 → ∃ M', zC X (d + 9) 159 [.ref 460] M = some (some (.int 0), M') ∧ tF (300 * sl + o) M M' ∧ rS t sl o (p + 3) c e M' ∧ ken isB t (p + 3) = kA t p ∧ rT (9 :: S) (dp + 1) M') ∧
    (kk t p = 91 → dp < 10 → ∃ M', zC X (d + 9) 159 [.ref 460] M = some (some (.int 0), M') ∧ tF (300 * sl + o) M M' ∧ rS t sl o (p + 1) c e M' ∧ ken isB t (p + 1) = kA t p ∧ rT (12 :: S) (dp + 1) M') ∧
    ((kk t p = 257 ∧ kw t p = 19) ∨ kk t p = 91 → dp = 10 → ∃ M', zC X (d + 9) 159 [.ref 460] M = some (some (.int 0), M') ∧ tF (300 * sl + o) M M' ∧ rX t sl (1 + 8 * p + 2) M') ∧
    (¬ (kk t p = 257 ∧ kw t p = 19) → ¬ kk t p = 91 → match pCmp t p c e with
      | .inl f => ∃ M', zC X (d + 9) 159 [.ref 460] M = some (some (.int 1), M') ∧ tF (300 * sl + o) M M' ∧ rX t sl f M'
      | .inr s => ∃ M', zC X (d + 9) 159 [.ref 460] M = some (some (.int 1), M') ∧ tF (300 * sl + o) M M' ∧ rS t sl o s.1 s.2.1 s.2.2 M' ∧ rT S dp M') := by
  have hL := h.1.2.1.1
  have hb := rS_hb h
  have hpt : p ≤ t.1 := by rw [← hp]; exact ken_b.2.1 h.2.1
  have h1 := rS_p h hpt
  have hF1 : qF (300 * sl + o) M (zp M p) := qF_I (by omega)
  have hT1 := rT_q hF1 hT
  have hn : ken isB t p = p := by rw [← hp]; exact kB_i
  have hu : zC X (d + 9) 159 [.ref 460] M = zR X (d + 9) 159 (11, [.ref 460], [.int (if kk t p = 257 ∧ kw t p = 19 then 1 else 0)], zp M p) := by
    show zR X (d + 9) 159 (0, [.ref 460], [], M) = _
    rw [t159_0 _ (rS_g h), rS_b h, hp, Option.bind_some]
    dsimp only [zps]
    rw [t159_4 _ (rS_g h1), rS_w (w := 19) h1 (by omega) (by omega) rfl (by omega), Option.bind_some]
    rfl
  have k91 := kk_b (t := t) (p := p) (x := 91) hb (by omega) (by omega) (by omega) (by omega) (by omega)
  have q91 : (sgR t p = 91) ↔ kk t p = 91 := (sgR_k (x := 91) hb (by omega)).trans k91.1.symm
  refine ⟨fun c1 hd => ?_, fun c2 hd => ?_, fun c12 hd => ?_, fun c1 c2 => ?_⟩
  · obtain ⟨w1, w2, w3⟩ := kw_257 (t := t) (p := p) (by omega)
    rw [c1.2, show (kwd 19).length = 3 from rfl] at w3
    have w4 := (kX_b w1).2
    have hM := oM_T (k := 9) hT1
    rw [if_pos (Or.inl rfl)] at hM
    rw [hu, if_pos c1, t159_11 _ _ (rS_g h1), if_neg (by decide), show (9 : Int32) = Int32.ofNat 9 from rfl, r157 (k := 9) h1 hT1 hS (by omega) hdp (fun _ => hd), Option.bind_some]
    dsimp only [zps]
    have h2 := oM_S (k := 9) (n := S.length) (dp := dp) h1
    rw [t159_20 _ (rS_g h2), h2.2.2.1, show (3 : Int32) = Int32.ofNat 3 from rfl, ← Int32.ofNat_add]
    exact ⟨_, rfl, tF_t (tF_q hF1) (tF_t oM_F (tF_q (qF_I (by omega)))), rS_p h2 (by omega), by unfold kA; rw [w3], rT_q (qF_I (b := 0) (by omega)) hM⟩
  · have c1 : ¬ (kk t p = 257 ∧ kw t p = 19) := by omega
    have hM := oM_T (k := 12) hT1
    rw [if_pos (Or.inr rfl)] at hM
    have w3 := k91.2 c2
    have w4 := (kX_b (t := t) (p := p) (kk_p (by omega))).2
    rw [hu, if_neg c1, t159_11 _ _ (rS_g h1), if_pos rfl, rS_4 h1, Option.bind_some]
    dsimp only [zps]
    rw [t159_36 _ _ (rS_g h1), if_neg (not_not_intro (q91.mpr c2)), show (12 : Int32) = Int32.ofNat 12 from rfl, r157 (k := 12) h1 hT1 hS (by omega) hdp (fun _ => hd), Option.bind_some]
    dsimp only [zps]
    have h2 := oM_S (k := 12) (n := S.length) (dp := dp) h1
    rw [t159_47 _ (rS_g h2), h2.2.2.1, of_succ]
    exact ⟨_, rfl, tF_t (tF_q hF1) (tF_t oM_F (tF_q (qF_I (by omega)))), rS_p h2 (by omega), by unfold kA; rw [w3], rT_q (qF_I (b := 0) (by omega)) hM⟩
  · subst hd
    by_cases c1 : kk t p = 257 ∧ kw t p = 19
    · obtain ⟨M2, y1, y2, y3, y4⟩ := r157x (X := X) (d := d + 7) (k := 9) h1 hT1 hS (Or.inl rfl)
      rw [hu, if_pos c1, t159_11 _ _ (rS_g h1), if_neg (by decide), show (9 : Int32) = Int32.ofNat 9 from rfl, y1, Option.bind_some]
      dsimp only [zps]
      rw [t159_20 _ (rX_g y3), y4, show (3 : Int32) = Int32.ofNat 3 from rfl, ← Int32.ofNat_add]
      exact ⟨_, rfl, tF_t (tF_q hF1) (tF_t y2 (tF_q (qF_I (by omega)))), rX_p y3 (by omega)⟩
    · have c2 := c12.resolve_left c1
      obtain ⟨M2, y1, y2, y3, y4⟩ := r157x (X := X) (d := d + 7) (k := 12) h1 hT1 hS (Or.inr rfl)
      rw [hu, if_neg c1, t159_11 _ _ (rS_g h1), if_pos rfl, rS_4 h1, Option.bind_some]
      dsimp only [zps]
      rw [t159_36 _ _ (rS_g h1), if_neg (not_not_intro (q91.mpr c2)), show (12 : Int32) = Int32.ofNat 12 from rfl, y1, Option.bind_some]
      dsimp only [zps]
      rw [t159_47 _ (rX_g y3), y4, of_succ]
      exact ⟨_, rfl, tF_t (tF_q hF1) (tF_t y2 (tF_q (qF_I (by omega)))), rX_p y3 (by omega)⟩
  · have hv := r155 (X := X) (d := d) h1 hn h0 hc hr
    rw [hu, if_neg c1, t159_11 _ _ (rS_g h1), if_pos rfl, rS_4 h1, Option.bind_some]
    dsimp only [zps]
    rw [t159_36 _ _ (rS_g h1), if_pos (mt q91.mp c2)]
    cases hpv : pCmp t p c e with
    | inl f =>
      rw [hpv] at hv
      obtain ⟨M2, y1, y2, y3⟩ := hv
      rw [y1, Option.bind_some]
      dsimp only [zps]
      rw [t159_63 _ (rX_g y3)]
      exact ⟨M2, rfl, tF_q (qF_t hF1 y2), y3⟩
    | inr s =>
      rw [hpv] at hv
      obtain ⟨M2, y1, y2, y3⟩ := hv
      rw [y1, Option.bind_some]
      dsimp only [zps]
      rw [t159_63 _ (rS_g y3)]
      exact ⟨M2, rfl, tF_q (qF_t hF1 y2), y3, rT_q y2 hT1⟩
noncomputable def rn (X : (Nat → Int32) × Nat) (D : Nat) (w : Int32) (v3 v4 : Value) (M : zM) : Option zO := zR X (D + 10) 160 (9, [.ref 460, .int w, .int 1, v3, v4], [], M)
theorem rn_x {X : (Nat → Int32) × Nat} {D sl f : Nat} {t : zTx} {w : Int32} {v3 v4 : Value} {M : zM} (h : rX t sl f M) : rn X D w v3 v4 M = some (none, M) := by
  unfold rn
  rw [t160_9 _ _ _ _ _ (rX_g h), if_neg (by decide), if_pos (rX_0 h)]
def rFt (X : (Nat → Int32) × Nat) (D : Nat) (t : zTx) (sl o : Nat) (S : List Nat) (dp : Nat) (M : zM) (v3 v4 : Value) (r : zPs) : Prop := match r with
  | .inl f => ∃ M', rn X D 1 v3 v4 M = some (none, M') ∧ tF (300 * sl + o) M M' ∧ rX t sl f M'
  | .inr s => ∃ M' q v3' v4', rn X D 1 v3 v4 M = rn X D 0 v3' v4' M' ∧ tF (300 * sl + o) M M' ∧ rS t sl o q s.2.1 s.2.2 M' ∧ ken isB t q = s.1 ∧ rT S dp M'
def stk2 (an o : Nat) (S : List Nat) : List Nat := if an = 0 then (if o = 0 then S else o :: S) else an :: (if o = 0 then S else o :: S)
def rTt (X : (Nat → Int32) × Nat) (D : Nat) (t : zTx) (sl o : Nat) (S : List Nat) (dp : Nat) (M : zM) (v3 v4 : Value) (r : zPs) : Prop := match r with
  | .inl f => ∃ M', rn X D 1 v3 v4 M = some (none, M') ∧ tF (300 * sl + o) M M' ∧ rX t sl f M'
  | .inr s => ∃ M' x3 x4, rn X D 1 v3 v4 M = zR X (D + 10) 160 (137, [.ref 460, .int 0, .int 1, .int x3, .int x4], [], M') ∧ tF (300 * sl + o) M M' ∧ rS t sl o s.1 s.2.1 s.2.2 M' ∧ rT S dp M'
theorem rTt_t {X : (Nat → Int32) × Nat} {D sl o dp : Nat} {t : zTx} {S : List Nat} {M0 M : zM} {v3 v4 w3 w4 : Value} {r : zPs} (he : rn X D 1 v3 v4 M0 = rn X D 1 w3 w4 M) (h : tF (300 * sl + o) M0 M) (hr : rTt X D t sl o S dp M w3 w4 r) : rTt X D t sl o S dp M0 v3 v4 r := by
  cases r with
  | inl f => obtain ⟨M', w1, w2, w3⟩ := hr; exact ⟨M', he.trans w1, tF_t h w2, w3⟩
  | inr s => obtain ⟨M', x3, x4, w1, w2, w3⟩ := hr; exact ⟨M', x3, x4, he.trans w1, tF_t h w2, w3⟩
theorem r160t {X : (Nat → Int32) × Nat} {D sl o dp N : Nat} {t : zTx} {S : List Nat} {F : Nat → Nat → List zOp → zPs} (hFD : pFD t F) (hdp : dp ≤ 10) (hN : N < 390) (hSN : S.length + 2 ≤ N) (hS2 : ∀ x r, S = x :: r → x = 12)
    (HF : ∀ {S : List Nat} {q0 p c : Nat} {e : List zOp} {M : zM} {v3 v4 : Value}, S.length ≤ N → rS t sl o q0 c e M → ken isB t q0 = p → 0 < p → c ≤ 60 → rT S dp M → 2 * (o + e.length) ≤ p + 2 * c → rFt X D t sl o S dp M v3 v4 (F p c e)) :
    ∀ k {an o' q0 p c : Nat} {e : List zOp} {M : zM} {v3 v4 : Value}, (an = 0 ∨ an = 10) → (o' = 0 ∨ o' = 11) → rS t sl o q0 c e M → ken isB t q0 = p → 0 < p → c ≤ 60 → rT (stk2 an o' S) dp M → t.1 < p + k → 2 * (o + e.length + phi an + phi o') ≤ p + 2 * c → rTt X D t sl o S dp M v3 v4 (pTsL t F k an o' p c e) := by
  intro k
  induction k with
  | zero =>
    intro an o' q0 p c e M v3 v4 ha ho h hp h0 hc hT hk hr
    have := (ken_b (P := isB) (t := t) (p := q0)).2.1 h.2.1
    omega
  | succ k ih =>
    intro an o' q0 p c e M v3 v4 ha ho h hp h0 hc hT hk hr
    have hL := h.1.2.1.1
    have hlen2 : (stk2 an o' S).length ≤ N := by
      unfold stk2
      split
      · split
        · omega
        · rw [List.length_cons]; omega
      · rw [List.length_cons]
        split
        · omega
        · rw [List.length_cons]; omega
    have hv := HF (v3 := v3) (v4 := v4) hlen2 h hp h0 hc hT (by omega)
    rw [pTsL]
    cases hpv : F p c e with
    | inl f =>
      rw [hpv] at hv
      exact hv
    | inr s =>
      rw [hpv] at hv
      obtain ⟨M2, q2, v3', v4', w1, w2, w3, w4, w5⟩ := hv
      obtain ⟨d1, d2, d3, d4, d5, l, d6, d7, d8, d9⟩ := hFD _ _ _ _ hpv
      have hlen : s.2.2.length = e.length + l.length := by rw [d6, List.length_append]
      have hl3 := zsn_n (x := an) (e := s.2.2)
      have hl4 := zsn_n (x := o') (e := zsn an s.2.2)
      have h3 := rS_p w3 d2
      have hF3 : qF (300 * sl + o) M2 (zp M2 s.1) := qF_I (by omega)
      have hT3 := rT_q hF3 w5
      -- tops
      have topO : ∀ x r, (if o' = 0 then S else o' :: S) = x :: r → x = 11 ∨ x = 12 := by
        intro x r hx
        by_cases c0 : o' = 0
        · rw [if_pos c0] at hx; exact Or.inr (hS2 x r hx)
        · rw [if_neg c0] at hx; cases hx; omega
      have topA : ∀ x r, stk2 an o' S = x :: r → x = 10 ∨ x = 11 ∨ x = 12 := by
        intro x r hx
        unfold stk2 at hx
        by_cases c0 : an = 0
        · rw [if_pos c0] at hx; exact Or.inr (topO x r hx)
        · rw [if_neg c0] at hx; cases hx; omega
      have hT3' : rT (if an = 0 then (if o' = 0 then S else o' :: S) else an :: (if o' = 0 then S else o' :: S)) dp (zp M2 s.1) := hT3
      have lenO : (if o' = 0 then S else o' :: S).length < 399 := by
        split
        · omega
        · rw [List.length_cons]; omega
      obtain ⟨M3, y1, y2, y3, y4⟩ := r158o (X := X) (d := D + 8) (k := an) (y := 10) (by omega) (Or.inl rfl) (by omega) h3 hT3' lenO (by omega) (fun x r hx => by have := topO x r hx; omega)
      have pre : rn X D 1 v3 v4 M = zR X (D + 10) 160 (73, [.ref 460, .int 0, .int 1, .int (if kk t s.1 = 257 ∧ kw t s.1 = 18 then 1 else 0), .int (if kk t s.1 = 257 ∧ kw t s.1 = 17 then 1 else 0)], [], M3) := by
        rw [w1]
        unfold rn
        rw [t160_9 _ _ _ _ _ (rS_g w3), if_neg (show ¬ (1 : Int32) = 0 by decide), if_neg (not_not_intro w3.2.2.2.1), if_pos rfl, show (9 : Int32) = Int32.ofNat 9 from rfl, r158n (rS_g w3) w5 (by omega) (by omega) (fun x r hx => by have := topA x r hx; omega), Option.bind_some]
        dsimp only [zps]
        rw [t160_46 _ _ _ _ _ (rS_g w3), rS_b w3, w4, Option.bind_some]
        dsimp only [zps]
        rw [t160_50 _ _ _ _ _ (rS_g h3), rS_w (w := 18) h3 (by omega) (by omega) rfl (by omega), Option.bind_some]
        dsimp only [zps]
        rw [t160_57 _ _ _ _ _ _ (rS_g h3), rS_w (w := 17) h3 (by omega) (by omega) rfl (by omega), Option.bind_some]
        dsimp only [zps]
        rw [t160_65 _ _ _ _ _ _ (rS_g h3), show (10 : Int32) = Int32.ofNat 10 from rfl, y1, Option.bind_some]
        rfl
      have hF03 : tF (300 * sl + o) M M3 := tF_t w2 (tF_t (tF_q hF3) y2)
      dsimp only
      by_cases c1 : kk t s.1 = 257 ∧ kw t s.1 = 18
      · obtain ⟨u1, u2, u3⟩ := kw_257 (t := t) (p := s.1) (by omega)
        rw [c1.2, show (kwd 18).length = 3 from rfl] at u3
        have u4 := (kX_b u1).2
        have a1 := (kA_b u1).1
        have hM := oM_T (k := 10) y4
        rw [if_neg (show ¬ (10 = 9 ∨ 10 = 12) by omega)] at hM
        have h4 := oM_S (k := 10) (n := (if o' = 0 then S else o' :: S).length) (dp := dp) y3
        have e2 : rn X D 1 v3 v4 M = rn X D 1 (.int 1) (.int 0) (zp (oM 10 (if o' = 0 then S else o' :: S).length dp M3) (s.1 + 3)) := by
          rw [pre, if_pos c1, if_neg (show ¬ (kk t s.1 = 257 ∧ kw t s.1 = 17) by omega), t160_73 _ _ _ _ _ (rS_g y3), if_pos (show ¬ (1 : Int32) = 0 by decide), if_pos rfl, if_neg (show ¬ (1 : Int32) = 0 by decide), show (10 : Int32) = Int32.ofNat 10 from rfl, r157 (k := 10) y3 y4 (by omega) (by omega) hdp (fun h => by omega), Option.bind_some]
          dsimp only [zps]
          rw [t160_108 _ _ _ _ _ (rS_g h4), if_neg (show ¬ (1 : Int32) = 0 by decide), h4.2.2.1, show (3 : Int32) = Int32.ofNat 3 from rfl, ← Int32.ofNat_add]
          rfl
        rw [if_pos c1]
        have hi := ih (an := 10) (o' := o') (q0 := s.1 + 3) (p := kA t s.1) (v3 := .int 1) (v4 := .int 0) (Or.inr rfl) ho (rS_p (q' := s.1 + 3) h4 (by omega)) (by unfold kA; rw [u3]) (by omega) d5 (rT_q (qF_I (b := 0) (by omega)) hM) (by omega) (by rw [show phi 10 = 1 from rfl]; omega)
        exact rTt_t e2 (tF_t hF03 (tF_t oM_F (tF_q (qF_I (by omega))))) hi
      · rw [if_neg c1]
        obtain ⟨M4, x1, x2, x3, x4⟩ := r158o (X := X) (d := D + 8) (k := o') (y := 11) (by omega) (Or.inr rfl) (by omega) y3 y4 (by omega) (by omega) (fun x r hx => by have := hS2 x r hx; omega)
        by_cases c2 : kk t s.1 = 257 ∧ kw t s.1 = 17
        · obtain ⟨u1, u2, u3⟩ := kw_257 (t := t) (p := s.1) (by omega)
          rw [c2.2, show (kwd 17).length = 2 from rfl] at u3
          have u4 := (kX_b u1).2
          have a1 := (kA_b u1).1
          have hM := oM_T (k := 11) x4
          rw [if_neg (show ¬ (11 = 9 ∨ 11 = 12) by omega)] at hM
          have h4 := oM_S (k := 11) (n := S.length) (dp := dp) x3
          have e2 : rn X D 1 v3 v4 M = rn X D 1 (.int 0) (.int 1) (zp (oM 11 S.length dp M4) (s.1 + 2)) := by
            rw [pre, if_neg c1, if_pos c2, t160_73 _ _ _ _ _ (rS_g y3), if_neg (show ¬ ¬ (0 : Int32) = 0 by decide), if_neg (show ¬ (1 : Int32) = 0 by decide), show (11 : Int32) = Int32.ofNat 11 from rfl, x1, Option.bind_some]
            dsimp only [zps]
            rw [t160_93 _ _ _ _ _ (rS_g x3), if_pos rfl, show (11 : Int32) = Int32.ofNat 11 from rfl, r157 (k := 11) x3 x4 (by omega) (by omega) hdp (fun h => by omega), Option.bind_some]
            dsimp only [zps]
            rw [t160_108 _ _ _ _ _ (rS_g h4), if_pos rfl, h4.2.2.1, show (2 : Int32) = Int32.ofNat 2 from rfl, ← Int32.ofNat_add]
            rfl
          rw [if_pos c2]
          have hi := ih (an := 0) (o' := 11) (q0 := s.1 + 2) (p := kA t s.1) (v3 := .int 0) (v4 := .int 1) (Or.inl rfl) (Or.inr rfl) (rS_p (q' := s.1 + 2) h4 (by omega)) (by unfold kA; rw [u3]) (by omega) d5 (rT_q (qF_I (b := 0) (by omega)) hM) (by omega) (by rw [show phi 11 = 1 from rfl, show phi 0 = 0 from rfl]; omega)
          exact rTt_t e2 (tF_t hF03 (tF_t x2 (tF_t oM_F (tF_q (qF_I (by omega)))))) hi
        · rw [if_neg c2]
          refine ⟨M4, 0, 0, ?_, tF_t hF03 x2, x3, x4⟩
          rw [pre, if_neg c1, if_neg c2, t160_73 _ _ _ _ _ (rS_g y3), if_neg (show ¬ ¬ (0 : Int32) = 0 by decide), if_pos rfl, show (11 : Int32) = Int32.ofNat 11 from rfl, x1, Option.bind_some]
          rfl
