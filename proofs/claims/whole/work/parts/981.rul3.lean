/-! ===== the class reads tests, facts, clauses ===== -/
theorem c_is {X : (Nat → Int32) × Nat} {d b p c w : Nat} {t : zTx} {e : List zOp} {M : zM} (h : cS t b p c e M) (hw : w < 20) : zC X d 96 [.ref 1, .int (Int32.ofNat w)] M = some (some (.int (if kk t p = 257 ∧ kw t p = w then 1 else 0)), M) := s96 h.1 h.2.1 h.2.2.1 hw
def flg (x : Nat) : Int32 := if x = 0 then 0 else 1
theorem s63 {X : (Nat → Int32) × Nat} {D b dd : Nat} {t : zTx} {F : Nat → Nat → List zOp → zPs} (hFD : pFD t F) (HF : ∀ {p c : Nat} {e : List zOp} {M : zM}, cS t b p c e M → c ≤ 60 → p ≤ t.1 → 2 * (b + e.length) ≤ p + 2 * c → cR t b M (F p c e) (zC X (D + 1) 64 [.ref 34, .int (Int32.ofNat dd)] M)) : ∀ k {an o p c j : Nat} {e : List zOp} {M : zM}, j + k = 400 → (an = 0 ∨ an = 10) → (o = 0 ∨ o = 11) → cS t b p c e M → c ≤ 60 → p ≤ t.1 → 2 * (b + e.length + phi an + phi o) ≤ p + 2 * c → cR t b M (pTsL t F k an o p c e) (zR X (D + 2) 63 (7, [.ref 34, .int (Int32.ofNat dd), .int (flg an), .int (flg o), .int (Int32.ofNat j)], [], M)) := by
  intro k
  induction k with
  | zero =>
    intro an o p c j e M hj ha ho h hc hpl hr
    have e4 : j = 400 := by omega
    subst e4
    have hL := h.2.1.1
    obtain ⟨M2, w1, w2, w3⟩ := c_fail (X := X) (d := D + 1) (w := 0) h (by omega) (by omega)
    rw [t63_7 _ _ _ _ _ h.1, if_pos (by decide), pTsL, show (0 : Int32) = Int32.ofNat 0 from rfl, w1, Option.bind_some]
    dsimp only [zps]
    rw [t63_106 _ _ _ _ _ _ (cF_g w2 h.1) (Or.inl rfl)]
    exact ⟨M2, rfl, w2, w3⟩
  | succ k ih =>
    intro an o p c j e M hj ha ho h hc hpl hr
    have hL := h.2.1.1
    have hle : ¬ (400 : Int32) ≤ Int32.ofNat j := by rw [show (400 : Int32) = Int32.ofNat 400 from rfl, of_le (by omega) (by omega)]; omega
    have hv := HF h hc hpl (by omega)
    rw [t63_7 _ _ _ _ _ h.1, if_neg hle, pTsL]
    cases hpv : F p c e with
    | inl f =>
      rw [hpv] at hv
      obtain ⟨M2, w1, w2, w3⟩ := hv
      rw [w1, Option.bind_some]
      dsimp only [zps]
      rw [t63_20 _ _ _ _ _ _ (cF_g w2 h.1), if_neg (by decide)]
      exact ⟨M2, rfl, w2, w3⟩
    | inr s =>
      rw [hpv] at hv
      obtain ⟨M2, w1, w2, w3⟩ := hv
      obtain ⟨d1, d2, d3, d4, d5, l, d6, d7, d8, d9⟩ := hFD _ _ _ _ hpv
      have hlen : s.2.2.length = e.length + l.length := by rw [d6, List.length_append]
      rw [w1, Option.bind_some]
      dsimp only [zps]
      rw [t63_20 _ _ _ _ _ _ w3.1, if_pos (show ¬ (1 : Int32) = 0 by decide)]
      have hl3 := zsn_n (x := an) (e := s.2.2)
      have hl4 := zsn_n (x := o) (e := zsn an s.2.2)
      have step1 : ∃ M3, (if flg an = 0 then (zC X (D + 1) 96 [.ref 1, .int 18] M2).bind fun o' => zR X (D + 2) 63 (49, [.ref 34, .int (Int32.ofNat dd), .int (flg an), .int (flg o), .int (Int32.ofNat j)], zps o'.1 [], o'.2) else (zC X (D + 1) 58 [.ref 35, .int 259, .int 0] M2).bind fun o' => zR X (D + 2) 63 (40, [.ref 34, .int (Int32.ofNat dd), .int (flg an), .int (flg o), .int (Int32.ofNat j)], zps o'.1 [], o'.2)) = zR X (D + 2) 63 (49, [.ref 34, .int (Int32.ofNat dd), .int (flg an), .int (flg o), .int (Int32.ofNat j)], [.int (if kk t s.1 = 257 ∧ kw t s.1 = 18 then 1 else 0)], M3) ∧ cF b M M3 ∧ cS t b s.1 s.2.1 (zsn an s.2.2) M3 := by
        by_cases c0 : an = 0
        · rw [if_pos (show flg an = 0 by rw [c0]; rfl), show (18 : Int32) = Int32.ofNat 18 from rfl, c_is w3 (by omega), Option.bind_some]
          refine ⟨M2, rfl, w2, ?_⟩
          unfold zsn
          rw [if_pos c0]
          exact w3
        · obtain ⟨M3, y1, y2, y3⟩ := c_sgn (X := X) (d := D + 1) (k := an) (x := 259) w3 c0 (by omega) (by omega) (by rw [show an = 10 by omega]; rfl)
          rw [if_neg (show ¬ flg an = 0 by rw [show an = 10 by omega]; decide), y1, Option.bind_some]
          dsimp only [zps]
          rw [t63_40 _ _ _ _ _ y3.1, show (18 : Int32) = Int32.ofNat 18 from rfl, c_is y3 (by omega), Option.bind_some]
          exact ⟨M3, rfl, cF_t w2 y2, y3⟩
      obtain ⟨M3, v1, v2, v3⟩ := step1
      rw [v1, t63_49 _ _ _ _ _ _ v3.1]
      by_cases c1 : kk t s.1 = 257 ∧ kw t s.1 = 18
      · obtain ⟨a1, a2⟩ := kA_b (t := t) (p := s.1) (kk_p (by omega))
        obtain ⟨M4, y1, y2, y3⟩ := c_adv (X := X) (d := D + 1) v3
        rw [if_pos c1, if_pos c1, if_pos (show ¬ (1 : Int32) = 0 by decide), y1, Option.bind_some]
        dsimp only [zps]
        rw [t63_92 _ _ _ _ _ y3.1, of_succ]
        exact cR_t (cF_t v2 y2) (ih (an := 10) (o := o) (j := j + 1) (by omega) (Or.inr rfl) ho y3 d5 a2 (by rw [show phi 10 = 1 from rfl]; omega))
      · rw [if_neg c1, if_neg c1, if_neg (show ¬ ¬ (0 : Int32) = 0 by decide)]
        have step2 : ∃ M4, (if flg o = 0 then (zC X (D + 1) 96 [.ref 1, .int 17] M3).bind fun o' => zR X (D + 2) 63 (78, [.ref 34, .int (Int32.ofNat dd), .int 0, .int (flg o), .int (Int32.ofNat j)], zps o'.1 [], o'.2) else (zC X (D + 1) 58 [.ref 35, .int 260, .int 0] M3).bind fun o' => zR X (D + 2) 63 (69, [.ref 34, .int (Int32.ofNat dd), .int 0, .int (flg o), .int (Int32.ofNat j)], zps o'.1 [], o'.2)) = zR X (D + 2) 63 (78, [.ref 34, .int (Int32.ofNat dd), .int 0, .int (flg o), .int (Int32.ofNat j)], [.int (if kk t s.1 = 257 ∧ kw t s.1 = 17 then 1 else 0)], M4) ∧ cF b M M4 ∧ cS t b s.1 s.2.1 (zsn o (zsn an s.2.2)) M4 := by
          by_cases c0 : o = 0
          · rw [if_pos (show flg o = 0 by rw [c0]; rfl), show (17 : Int32) = Int32.ofNat 17 from rfl, c_is v3 (by omega), Option.bind_some]
            refine ⟨M3, rfl, v2, ?_⟩
            rw [show zsn o (zsn an s.2.2) = zsn an s.2.2 from if_pos c0]
            exact v3
          · obtain ⟨M4, y1, y2, y3⟩ := c_sgn (X := X) (d := D + 1) (k := o) (x := 260) v3 c0 (by omega) (by rw [hl3]; omega) (by rw [show o = 11 by omega]; rfl)
            rw [if_neg (show ¬ flg o = 0 by rw [show o = 11 by omega]; decide), y1, Option.bind_some]
            dsimp only [zps]
            rw [t63_69 _ _ _ _ _ y3.1, show (17 : Int32) = Int32.ofNat 17 from rfl, c_is y3 (by omega), Option.bind_some]
            exact ⟨M4, rfl, cF_t v2 y2, y3⟩
        obtain ⟨M4, u1, u2, u3⟩ := step2
        rw [u1, t63_78 _ _ _ _ _ _ u3.1]
        by_cases c2 : kk t s.1 = 257 ∧ kw t s.1 = 17
        · obtain ⟨a1, a2⟩ := kA_b (t := t) (p := s.1) (kk_p (by omega))
          obtain ⟨M5, y1, y2, y3⟩ := c_adv (X := X) (d := D + 1) u3
          rw [if_pos c2, if_pos c2, if_pos (show ¬ (1 : Int32) = 0 by decide), y1, Option.bind_some]
          dsimp only [zps]
          rw [t63_92 _ _ _ _ _ y3.1, of_succ]
          exact cR_t (cF_t u2 y2) (ih (an := 0) (o := 11) (j := j + 1) (by omega) (Or.inl rfl) (Or.inr rfl) y3 d5 a2 (by rw [show phi 11 = 1 from rfl, show phi 0 = 0 from rfl]; omega))
        · rw [if_neg c2, if_neg c2, if_neg (show ¬ ¬ (0 : Int32) = 0 by decide)]
          exact ⟨M4, rfl, u2, u3⟩
theorem s63z {X : (Nat → Int32) × Nat} {D b dd p c : Nat} {t : zTx} {F : Nat → Nat → List zOp → zPs} {e : List zOp} {M : zM} (hFD : pFD t F) (HF : ∀ {p c : Nat} {e : List zOp} {M : zM}, cS t b p c e M → c ≤ 60 → p ≤ t.1 → 2 * (b + e.length) ≤ p + 2 * c → cR t b M (F p c e) (zC X (D + 1) 64 [.ref 34, .int (Int32.ofNat dd)] M)) (h : cS t b p c e M) (hc : c ≤ 60) (hpl : p ≤ t.1) (hr : 2 * (b + e.length) ≤ p + 2 * c) : cR t b M (pTsL t F 400 0 0 p c e) (zC X (D + 2) 63 [.ref 34, .int (Int32.ofNat dd)] M) := by
  show cR t b M (pTsL t F 400 0 0 p c e) (zR X (D + 2) 63 (0, [.ref 34, .int (Int32.ofNat dd), zjk, zjk, zjk], [], M))
  rw [t63_0 _ _ _ _ _ h.1]
  exact s63 hFD HF 400 (j := 0) (an := 0) (o := 0) rfl (Or.inl rfl) (Or.inl rfl) h hc hpl hr
theorem s64 {X : (Nat → Int32) × Nat} {t : zTx} : ∀ dd {d b p c : Nat} {e : List zOp} {M : zM}, dd ≤ 10 → cS t b p c e M → c ≤ 60 → p ≤ t.1 → 2 * (b + e.length) ≤ p + 2 * c → cR t b M (pFct t dd p c e) (zC X (d + 4 + 2 * dd) 64 [.ref 34, .int (Int32.ofNat (10 - dd))] M) := by
  intro dd
  induction dd with
  | zero =>
    intro d b p c e M hd h hc hpl hr
    show cR t b M (pFct t 0 p c e) (zR X (d + 4) 64 (0, [.ref 34, .int (Int32.ofNat 10), zjk], [], M))
    have q91 : (kI (kk t p) = 91) ↔ kk t p = 91 := cS_k h (j := 91) (by omega)
    have bad : ∀ x, cR t b M (.inl (1 + 8 * p + 2)) ((zC X (d + 3) 97 [.ref 1, .int 2] M).bind fun o => zR X (d + 4) 64 (45, [.ref 34, .int (Int32.ofNat 10), .int x], zps o.1 [], o.2)) := fun x => by
      obtain ⟨M2, w1, w2, w3⟩ := c_fail (X := X) (d := d + 3) (w := 2) h (by have := h.2.1.1; omega) (by omega)
      rw [show (2 : Int32) = Int32.ofNat 2 from rfl, w1, Option.bind_some]
      dsimp only [zps]
      rw [t64_45 _ _ _ _ (cF_g w2 h.1) (Or.inl rfl)]
      exact ⟨M2, rfl, w2, w3⟩
    rw [t64_0 _ _ _ h.1, show (19 : Int32) = Int32.ofNat 19 from rfl, c_is h (by omega), Option.bind_some, pFct]
    dsimp only [zps]
    rw [t64_9 _ _ _ _ h.1, cS_7 h]
    by_cases c1 : kk t p = 257 ∧ kw t p = 19
    · rw [if_pos c1, if_pos (show ¬ (1 : Int32) = 0 by decide), if_neg (show ¬ Int32.ofNat 10 < 10 by decide), if_pos (Or.inl c1)]
      exact bad 1
    · rw [if_neg c1, if_neg (show ¬ ¬ (0 : Int32) = 0 by decide)]
      by_cases c2 : kk t p = 91
      · rw [if_pos (q91.mpr c2), if_neg (show ¬ Int32.ofNat 10 < 10 by decide), if_pos (Or.inr c2)]
        exact bad 0
      · rw [if_neg (mt q91.mp c2), if_neg (fun h0 => h0.elim c1 c2)]
        have hv := s65 (X := X) (d := d) h hc hpl hr
        cases hpv : pCmp t p c e with
        | inl f =>
          rw [hpv] at hv
          obtain ⟨M2, w1, w2, w3⟩ := hv
          rw [w1, Option.bind_some]
          dsimp only [zps]
          rw [t64_30 _ _ _ _ (cF_g w2 h.1) (Or.inl rfl)]
          exact ⟨M2, rfl, w2, w3⟩
        | inr s =>
          rw [hpv] at hv
          obtain ⟨M2, w1, w2, w3⟩ := hv
          rw [w1, Option.bind_some]
          dsimp only [zps]
          rw [t64_30 _ _ _ _ w3.1 (Or.inr rfl)]
          exact ⟨M2, rfl, w2, w3⟩
  | succ dd ih =>
    intro d b p c e M hd h hc hpl hr
    have hL := h.2.1.1
    show cR t b M (pFct t (dd + 1) p c e) (zR X (d + 4 + 2 * (dd + 1)) 64 (0, [.ref 34, .int (Int32.ofNat (10 - (dd + 1))), zjk], [], M))
    rw [show d + 4 + 2 * (dd + 1) = (d + 5 + 2 * dd) + 1 by omega]
    have q91 : (kI (kk t p) = 91) ↔ kk t p = 91 := cS_k h (j := 91) (by omega)
    have l10 : Int32.ofNat (10 - (dd + 1)) < 10 := (of_lt (k := 10) (by omega) (by omega)).2 (by omega)
    have e10 : Int32.ofNat (10 - (dd + 1)) + 1 = Int32.ofNat (10 - dd) := by rw [of_succ]; congr 1; omega
    rw [t64_0 _ _ _ h.1, show (19 : Int32) = Int32.ofNat 19 from rfl, c_is h (by omega), Option.bind_some, pFct]
    dsimp only [zps]
    rw [t64_9 _ _ _ _ h.1, cS_7 h]
    by_cases c1 : kk t p = 257 ∧ kw t p = 19
    · obtain ⟨a1, a2⟩ := kA_b (t := t) (p := p) (kk_p (by omega))
      have a3 := kA_w (t := t) (p := p) (w := 19) (by omega) c1.1 c1.2
      have a4 : (kwd 19).length = 3 := rfl
      obtain ⟨M2, w1, w2, w3⟩ := c_adv (X := X) (d := d + 5 + 2 * dd) h
      rw [if_pos c1, if_pos c1, if_pos (show ¬ (1 : Int32) = 0 by decide), if_pos l10, w1, Option.bind_some]
      dsimp only [zps]
      have hv := ih (d := d + 1) (by omega) w3 hc a2 (by omega)
      rw [show d + 1 + 4 + 2 * dd = d + 5 + 2 * dd by omega] at hv
      rw [t64_53 _ _ _ w3.1, if_neg (by decide), e10]
      cases hpv : pFct t dd (kA t p) c e with
      | inl f =>
        rw [hpv] at hv
        obtain ⟨M3, y1, y2, y3⟩ := hv
        rw [y1, Option.bind_some]
        dsimp only [zps]
        rw [t64_64 _ _ _ _ (cF_g y2 w3.1), if_neg (by decide)]
        exact ⟨M3, rfl, cF_t w2 y2, y3⟩
      | inr s =>
        rw [hpv] at hv
        obtain ⟨M3, y1, y2, y3⟩ := hv
        obtain ⟨d1, d2, d3, d4, d5, l, d6, d7, d8, d9⟩ := pFct_d dd _ _ _ _ hpv
        have hlen : s.2.2.length = e.length + l.length := by rw [d6, List.length_append]
        obtain ⟨M4, z1, z2, z3⟩ := c_add (X := X) (d := d + 5 + 2 * dd) (k := 9) (v := 0) (x := 258) (y := 0) y3 (by omega) rfl rfl
        rw [y1, Option.bind_some]
        dsimp only [zps]
        rw [t64_64 _ _ _ _ y3.1, if_pos (show ¬ (1 : Int32) = 0 by decide), z1, Option.bind_some]
        dsimp only [zps]
        rw [t64_80 _ _ _ z3.1]
        exact ⟨M4, rfl, cF_t (cF_t w2 y2) z2, z3⟩
    · rw [if_neg c1, if_neg c1, if_neg (show ¬ ¬ (0 : Int32) = 0 by decide)]
      by_cases c2 : kk t p = 91
      · obtain ⟨a1, a2⟩ := kA_b (t := t) (p := p) (kk_p (by omega))
        obtain ⟨M2, w1, w2, w3⟩ := c_adv (X := X) (d := d + 5 + 2 * dd) h
        rw [if_pos (q91.mpr c2), if_pos l10, if_pos c2, w1, Option.bind_some]
        dsimp only [zps]
        have hv := s63z (X := X) (D := d + 3 + 2 * dd) (b := b) (dd := 10 - dd) (F := pFct t dd) (pFct_d dd) (fun h1 h2 h3 h4 => by
          have := ih (d := d) (by omega) h1 h2 h3 h4
          rw [show d + 4 + 2 * dd = d + 3 + 2 * dd + 1 by omega] at this
          exact this) w3 hc a2 (by omega)
        rw [show d + 3 + 2 * dd + 2 = d + 5 + 2 * dd by omega] at hv
        rw [t64_53 _ _ _ w3.1, if_pos rfl, e10]
        cases hpv : pTsL t (pFct t dd) 400 0 0 (kA t p) c e with
        | inl f =>
          rw [hpv] at hv
          obtain ⟨M3, y1, y2, y3⟩ := hv
          rw [y1, Option.bind_some]
          dsimp only [zps]
          rw [t64_89 _ _ _ _ (cF_g y2 w3.1), if_neg (by decide)]
          exact ⟨M3, rfl, cF_t w2 y2, y3⟩
        | inr s =>
          rw [hpv] at hv
          obtain ⟨M3, y1, y2, y3⟩ := hv
          have q93 : (kI (kk t s.1) = 93) ↔ kk t s.1 = 93 := cS_k y3 (j := 93) (by omega)
          rw [y1, Option.bind_some]
          dsimp only [zps]
          rw [t64_89 _ _ _ _ y3.1, if_pos (show ¬ (1 : Int32) = 0 by decide), cS_7 y3]
          by_cases c3 : kk t s.1 = 93
          · obtain ⟨M4, z1, z2, z3⟩ := c_adv (X := X) (d := d + 5 + 2 * dd) y3
            rw [if_pos (q93.mpr c3), if_pos c3, z1, Option.bind_some]
            dsimp only [zps]
            rw [t64_122 _ _ _ z3.1]
            exact ⟨M4, rfl, cF_t (cF_t w2 y2) z2, z3⟩
          · obtain ⟨d1, d2, d3, d4, d5, l, d6, d7, d8, d9⟩ := pTsL_d (pFct_d dd) 400 (Or.inl rfl) (Or.inl rfl) hpv
            have hlen : s.2.2.length = e.length + l.length := by rw [d6, List.length_append]
            rw [show phi 0 = 0 from rfl] at d9
            obtain ⟨M4, z1, z2, z3⟩ := c_fail (X := X) (d := d + 5 + 2 * dd) (w := 0) y3 (by omega) (by omega)
            rw [if_neg (mt q93.mp c3), if_neg c3, show (0 : Int32) = Int32.ofNat 0 from rfl, z1, Option.bind_some]
            dsimp only [zps]
            rw [t64_114 _ _ _ _ (cF_g z2 y3.1) (Or.inl rfl)]
            exact ⟨M4, rfl, cF_t (cF_t w2 y2) z2, z3⟩
      · rw [if_neg (mt q91.mp c2), if_neg c2]
        have hv := s65 (X := X) (d := d + 2 + 2 * dd) h hc hpl hr
        rw [show d + 2 + 2 * dd + 3 = d + 5 + 2 * dd by omega] at hv
        cases hpv : pCmp t p c e with
        | inl f =>
          rw [hpv] at hv
          obtain ⟨M2, w1, w2, w3⟩ := hv
          rw [w1, Option.bind_some]
          dsimp only [zps]
          rw [t64_30 _ _ _ _ (cF_g w2 h.1) (Or.inl rfl)]
          exact ⟨M2, rfl, w2, w3⟩
        | inr s =>
          rw [hpv] at hv
          obtain ⟨M2, w1, w2, w3⟩ := hv
          rw [w1, Option.bind_some]
          dsimp only [zps]
          rw [t64_30 _ _ _ _ w3.1 (Or.inr rfl)]
          exact ⟨M2, rfl, w2, w3⟩
theorem s63t {X : (Nat → Int32) × Nat} {d b p c : Nat} {t : zTx} {e : List zOp} {M : zM} (h : cS t b p c e M) (hc : c ≤ 60) (hpl : p ≤ t.1) (hr : 2 * (b + e.length) ≤ p + 2 * c) : cR t b M (pTsL t (pFct t 10) 400 0 0 p c e) (zC X (d + 25) 63 [.ref 34, .int 0] M) :=
  s63z (X := X) (D := d + 23) (b := b) (dd := 0) (F := pFct t 10) (pFct_d 10) (fun h1 h2 h3 h4 => s64 10 (d := d) (by omega) h1 h2 h3 h4) h hc hpl hr
theorem c_end {X : (Nat → Int32) × Nat} {d b p c : Nat} {t : zTx} {e : List zOp} {M : zM} {x : Int32} (h : cS t b p c e M) (hr : b + e.length < 400) : ∃ M', zC X d 58 [.ref 35, .int x, .int 0] M = some (none, M') ∧ cF b M M' ∧ cS t (b + e.length + 1) p c [] M' ∧ zsg pcd pwd (M'.1 36) (M'.1 37) b e ∧ M'.1 36 (b + e.length) = x := by
  obtain ⟨hG, hT, hc, h9, h34, h35, hz⟩ := h
  have hF : cF b M (zsI (zsI (zsI M 36 (b + e.length) x) 37 (b + e.length) 0) 35 2 (Int32.ofNat (b + e.length + 1))) := c_addF (by omega)
  refine ⟨_, s58 hG h35 hr, hF, ⟨cF_g hF hG, cF_q hF hT, cur_c (by rw [zI_n1 (by omega), zI_n1 (by omega), zI_n1 (by omega)]) (by rw [zI_n1 (by omega), zI_n1 (by omega), zI_n1 (by omega)]) (by rw [zI_n1 (by omega), zI_n1 (by omega), zI_n1 (by omega)]) (by rw [zI_n1 (by omega), zI_n1 (by omega), zI_n1 (by omega)]) hc, by rw [zI_n (by omega), zI_n (by omega), zI_n (by omega)]; exact h9, by rw [zI_n (by omega), zI_n (by omega), zI_n (by omega)]; exact h34, by rw [zI_s, if_pos rfl]; rfl, True.intro⟩, ?_, ?_⟩
  · exact zsg_k (fun j q1 q2 => ⟨by rw [zI_n (by omega), zI_n (by omega), zI_s, if_neg (by omega)], by rw [zI_n (by omega), zI_s, if_neg (by omega), zI_n (by omega)]⟩) hz
  · rw [zI_n (by omega), zI_n (by omega), zI_s, if_pos rfl]
theorem s58z {X : (Nat → Int32) × Nat} {d z : Nat} {x y : Int32} {M : zM} (hG : zGE M) (h : M.1 35 2 = Int32.ofNat z) (hz : z ≤ 400) : ∃ M', zC X d 58 [.ref 35, .int x, .int y] M = some (none, M') ∧ cF 0 M M' ∧ M'.1 1 9 = M.1 1 9 := by
  by_cases c : z < 400
  · exact ⟨_, s58 hG h c, c_addF (by omega), by rw [zI_n (by omega), zI_n (by omega), zI_n (by omega)]⟩
  · have e : z = 400 := by omega
    subst e
    refine ⟨M, ?_, cF_r, rfl⟩
    show zR X d 58 (0, [.ref 35, .int x, .int y], [], M) = _
    have c2 : (400 : Int32) ≤ M.1 35 2 := by rw [h]; exact Int32.le_refl _
    rw [t58_0 _ _ _ _ hG zq_35 (fun h0 => absurd c2 h0), if_pos c2]
def cRd (b : Nat) (M0 : zM) (r : Nat ⊕ List zCl) (o : Option zO) : Prop := match r with
  | .inl f => ∃ M', o = some (some (.int (Int32.ofNat f)), M') ∧ cF 0 M0 M' ∧ 0 < f ∧ f < 4000
  | .inr l => ∃ M', o = some (some (.int 0), M') ∧ cF b M0 M' ∧ ruD M' 35 b l
theorem s61 {X : (Nat → Int32) × Nat} {d : Nat} {t : zTx} : ∀ m {n p c b : Nat} {M : zM}, n + m = 12 → cS t b p c [] M → c ≤ 60 → p ≤ t.1 → 2 * b ≤ p + 2 * c → cRd b M (pRul t m n p c) (zR X (d + 26) 61 (24, [.ref 34, .int 1, .int (Int32.ofNat n)], [], M)) := by
  intro m
  induction m using Nat.strongRecOn with
  | _ m ih =>
    intro n p c b M hn h hc hpl hr
    have hL := h.2.1.1
    -- after a fault
    have flt : ∀ M2 f, zGE M2 → cF 0 M M2 → cZ f M2 → ∃ M', ((zC X (d + 25) 58 [.ref 35, .int 261, .int 0] M2).bind fun o => zR X (d + 26) 61 (109, [.ref 34, .int 0, .int (Int32.ofNat n)], zps o.1 [], o.2)) = some (some (.int (Int32.ofNat f)), M') ∧ cF 0 M M' ∧ 0 < f ∧ f < 4000 := by
      intro M2 f hG2 hF2 hz
      obtain ⟨z1, z2, z3, z, z4, z5⟩ := hz
      obtain ⟨M3, y1, y2, y3⟩ := s58z (X := X) (d := d + 25) (x := 261) (y := 0) hG2 z5 z4
      have hG3 := cF_g y2 hG2
      rw [y1, Option.bind_some]
      dsimp only [zps]
      rw [t61_109 _ _ _ hG3, if_pos rfl, t61_24 _ _ _ hG3, if_pos rfl, y3, z1]
      exact ⟨M3, rfl, cF_t hF2 y2, z2, z3⟩
    have bad : ∀ f, pCla t n p c = .inl f → (∃ M', zR X (d + 26) 61 (24, [.ref 34, .int 1, .int (Int32.ofNat n)], [], M) = some (some (.int (Int32.ofNat f)), M') ∧ cF 0 M M' ∧ 0 < f ∧ f < 4000) → cRd b M (pRul t m n p c) (zR X (d + 26) 61 (24, [.ref 34, .int 1, .int (Int32.ofNat n)], [], M)) := by
      intro f h1 h2
      have : pRul t m n p c = .inl f := by
        cases m with
        | zero => rw [pRul, h1]
        | succ m => rw [pRul, h1]
      rw [this]
      exact h2
    -- the clause's end
    have good : ∀ s M2, pCla t n p c = .inr s → cF b M M2 → cS t (b + (s.2.2.1 ++ s.2.2.2).length + 1) s.1 s.2.1 [] M2 → zsg pcd pwd (M2.1 36) (M2.1 37) b (s.2.2.1 ++ s.2.2.2) → M2.1 36 (b + (s.2.2.1 ++ s.2.2.2).length) = (if s.2.2.2 = [] then 261 else 262) → ∀ z, z = ((zC X (d + 25) 98 [.ref 1] M2).bind fun o => zR X (d + 26) 61 (120, [.ref 34, .int 1, .int (Int32.ofNat n)], zps o.1 [], o.2)) → cRd b M (pRul t m n p c) z := by
      intro s M2 h1 hF2 hS2 hz2 h36 z hz
      obtain ⟨g0, g1, g2, g3, g4, g5, g6, g7⟩ := pCla_d h1
      have hlen : (s.2.2.1 ++ s.2.2.2).length = s.2.2.1.length + s.2.2.2.length := List.length_append
      obtain ⟨m', rfl⟩ : ∃ m', m = m' + 1 := ⟨m - 1, by omega⟩
      obtain ⟨x1, x2, x3⟩ := s98 (X := X) (d := d + 24) hS2.1 hS2.2.1 hS2.2.2.1
      rw [hz, pRul, h1]
      dsimp only
      by_cases c1 : kk t s.1 = 59
      · obtain ⟨M3, y1, y2, y3, y4, y5⟩ := x1 c1
        have hF3 : cF (b + (s.2.2.1 ++ s.2.2.2).length + 1) M2 M3 := ⟨y2, fun a q _ _ _ _ => y3 a q, fun k hk => y4 k (by omega) (by omega) (by omega), fun k hk => by rw [y3 36 (by omega), y3 37 (by omega)]; exact ⟨rfl, rfl⟩⟩
        obtain ⟨a1, a2⟩ := kA_b (t := t) (p := s.1) (kk_p (by omega))
        have hS3 : cS t (b + (s.2.2.1 ++ s.2.2.2).length + 1) (kA t s.1) s.2.1 [] M3 := ⟨cF_g hF3 hS2.1, cF_q hF3 hS2.2.1, y5, by rw [y4 9 (by omega) (by omega) (by omega)]; exact hS2.2.2.2.1, by rw [y3 34 (by omega)]; exact hS2.2.2.2.2.1, by rw [y3 35 (by omega)]; exact hS2.2.2.2.2.2.1, True.intro⟩
        have hv := ih m' (by omega) (n := n + 1) (by omega) hS3 g5 a2 (by omega)
        rw [if_pos c1, y1, Option.bind_some]
        dsimp only [zps]
        rw [t61_120 _ _ _ _ hS3.1, if_neg (by decide), of_succ]
        cases hpv : pRul t m' (n + 1) (kA t s.1) s.2.1 with
        | inl f =>
          rw [hpv] at hv
          obtain ⟨M4, w1, w2, w3, w4⟩ := hv
          exact ⟨M4, w1, cF_t (cF_t (cF_w (Nat.zero_le _) hF2) (cF_w (Nat.zero_le _) hF3)) w2, w3, w4⟩
        | inr l =>
          rw [hpv] at hv
          obtain ⟨M4, w1, w2, w3⟩ := hv
          have hF4 := cF_t hF3 w2
          refine ⟨M4, w1, cF_t hF2 (cF_w (by omega) hF4), ?_, ?_, w3⟩
          · exact zsg_k (fun k q1 q2 => hF4.2.2.2 k (by omega)) hz2
          · rw [(hF4.2.2.2 _ (by omega)).1]; exact h36
      · rw [if_neg c1]
        by_cases c2 : kk t s.1 = 256
        · rw [if_pos c2, x2 c2, Option.bind_some]
          dsimp only [zps]
          rw [t61_120 _ _ _ _ hS2.1, if_pos rfl, t61_24 _ _ _ hS2.1, if_pos rfl, hS2.2.2.2.1]
          exact ⟨M2, rfl, hF2, hz2, h36, hS2.2.2.2.2.2.1, by omega⟩
        · rw [if_neg c2, x3 c1 c2, Option.bind_some]
          dsimp only [zps]
          have hG3 : zGE (zsI M2 1 9 (Int32.ofNat (1 + 8 * s.1))) := hS2.1
          rw [t61_120 _ _ _ _ hG3, if_pos rfl, t61_24 _ _ _ hG3, if_pos rfl, zI_s, if_pos rfl]
          exact ⟨_, rfl, cF_t (cF_w (Nat.zero_le _) hF2) ⟨z2_I, fun a q _ _ _ _ => zI_n1 q, fun k hk => by rw [zI_s, if_neg (by omega)], fun k hk => absurd hk (Nat.not_lt_zero k)⟩, by omega, by omega⟩
    have hle : ¬ (12 : Int32) < Int32.ofNat n := by rw [show (12 : Int32) = Int32.ofNat 12 from rfl, of_lt (by omega) (by omega)]; omega
    have l12 : (Int32.ofNat n < 12) ↔ n < 12 := of_lt (k := 12) (by omega) (by omega)
    -- the word bid
    have h62 : zC X (d + 25) 62 [.ref 34, .int (Int32.ofNat n)] M = zR X (d + 25) 62 (0, [.ref 34, .int (Int32.ofNat n)], [], M) := rfl
    by_cases c1 : kk t p = 257 ∧ kw t p = 15
    · by_cases c2 : 12 ≤ n
      · refine bad (1 + 8 * p + 4) (by unfold pCla; rw [if_neg (not_not_intro c1), if_pos c2]) ?_
        obtain ⟨M2, w1, w2, w3⟩ := c_fail (X := X) (d := d + 24) (w := 4) h (by show b + 0 ≤ 400; omega) (by omega)
        have hG2 := cF_g w2 h.1
        rw [t61_24 _ _ _ h.1, if_neg (by decide), if_neg hle, h62, t62_0 _ _ h.1, show (15 : Int32) = Int32.ofNat 15 from rfl, c_is h (by omega), Option.bind_some]
        dsimp only [zps]
        rw [t62_9 _ _ _ h.1, if_pos c1, if_pos (show ¬ (1 : Int32) = 0 by decide), if_neg (mt l12.mp (by omega)), show (4 : Int32) = Int32.ofNat 4 from rfl, w1, Option.bind_some]
        dsimp only [zps]
        rw [t62_35 _ _ _ hG2 (Or.inl rfl), Option.bind_some]
        dsimp only [zps]
        rw [t61_39 _ _ _ _ hG2, if_pos rfl]
        exact flt M2 _ hG2 (cF_w (Nat.zero_le b) w2) w3
      · obtain ⟨a1, a2⟩ := kA_b (t := t) (p := p) (kk_p (by omega))
        obtain ⟨M2, w1, w2, w3⟩ := c_adv (X := X) (d := d + 24) h
        have hv := s66z (X := X) (d := d + 23) w3 hc a2 (by show 2 * (b + 0) ≤ _; omega)
        have pre : zR X (d + 26) 61 (24, [.ref 34, .int 1, .int (Int32.ofNat n)], [], M) = (zC X (d + 25) 66 [.ref 34] M2).bind fun o => zR X (d + 26) 61 (46, [.ref 34, .int 1, .int (Int32.ofNat n)], zps o.1 [], o.2) := by
          rw [t61_24 _ _ _ h.1, if_neg (by decide), if_neg hle, h62, t62_0 _ _ h.1, show (15 : Int32) = Int32.ofNat 15 from rfl, c_is h (by omega), Option.bind_some]
          dsimp only [zps]
          rw [t62_9 _ _ _ h.1, if_pos c1, if_pos (show ¬ (1 : Int32) = 0 by decide), if_pos (l12.mpr (by omega)), w1, Option.bind_some]
          dsimp only [zps]
          rw [t62_43 _ _ w3.1, Option.bind_some]
          dsimp only [zps]
          rw [t61_39 _ _ _ _ w3.1, if_neg (by decide)]
          rfl
        cases hpv : pSum t (kA t p) c [] with
        | inl f =>
          refine bad f (by unfold pCla; rw [if_neg (not_not_intro c1), if_neg c2, hpv]) ?_
          rw [hpv] at hv
          obtain ⟨M3, y1, y2, y3⟩ := hv
          have hG3 := cF_g y2 w3.1
          rw [pre, y1, Option.bind_some]
          dsimp only [zps]
          rw [t61_46 _ _ _ _ hG3, if_pos rfl]
          exact flt M3 f hG3 (cF_w (Nat.zero_le b) (cF_t w2 y2)) y3
        | inr s =>
          rw [hpv] at hv
          obtain ⟨M3, y1, y2, y3⟩ := hv
          obtain ⟨d1, d2, d3, d4, d5, l, d6, d7, d8, d9⟩ := pSum_d hpv
          rw [List.nil_append] at d6
          have pre2 : zR X (d + 26) 61 (24, [.ref 34, .int 1, .int (Int32.ofNat n)], [], M) = zR X (d + 26) 61 (68, [.ref 34, .int 1, .int (Int32.ofNat n)], [.int (if kk t s.1 = 257 ∧ kw t s.1 = 16 then 1 else 0)], M3) := by
            rw [pre, y1, Option.bind_some]
            dsimp only [zps]
            rw [t61_46 _ _ _ _ y3.1, if_neg (by decide), show (16 : Int32) = Int32.ofNat 16 from rfl, c_is y3 (by omega), Option.bind_some]
            rfl
          by_cases c3 : kk t s.1 = 257 ∧ kw t s.1 = 16
          · obtain ⟨a3, a4⟩ := kA_b (t := t) (p := s.1) (kk_p (by omega))
            obtain ⟨M4, z1, z2, z3⟩ := c_adv (X := X) (d := d + 25) y3
            have hS4 : cS t (b + s.2.2.length) (kA t s.1) s.2.1 [] M4 := ⟨z3.1, z3.2.1, z3.2.2.1, z3.2.2.2.1, z3.2.2.2.2.1, z3.2.2.2.2.2.1, True.intro⟩
            have hv2 := s63t (X := X) (d := d) hS4 d5 a4 (by show 2 * (b + s.2.2.length + 0) ≤ _; rw [d6]; omega)
            have pre3 : zR X (d + 26) 61 (24, [.ref 34, .int 1, .int (Int32.ofNat n)], [], M) = (zC X (d + 25) 63 [.ref 34, .int 0] M4).bind fun o => zR X (d + 26) 61 (83, [.ref 34, .int 1, .int (Int32.ofNat n)], zps o.1 [], o.2) := by
              rw [pre2, if_pos c3, t61_68 _ _ _ _ y3.1, if_neg (by decide), z1, Option.bind_some]
              dsimp only [zps]
              rw [t61_78 _ _ _ z3.1]
              rfl
            cases hpw : pTsL t (pFct t 10) 400 0 0 (kA t s.1) s.2.1 [] with
            | inl f =>
              refine bad f (by unfold pCla; rw [if_neg (not_not_intro c1), if_neg c2, hpv]; dsimp only; rw [if_pos c3, hpw]) ?_
              rw [hpw] at hv2
              obtain ⟨M5, u1, u2, u3⟩ := hv2
              have hG5 := cF_g u2 z3.1
              obtain ⟨v1, v2, v3, z, v4, v5⟩ := u3
              obtain ⟨M6, x1, x2, x3⟩ := s58z (X := X) (d := d + 25) (x := 262) (y := 0) hG5 v5 v4
              have hG6 := cF_g x2 hG5
              rw [pre3, u1, Option.bind_some]
              dsimp only [zps]
              rw [t61_83 _ _ _ _ hG5, x1, Option.bind_some]
              dsimp only [zps]
              rw [t61_95 _ _ _ hG6, if_pos rfl, t61_24 _ _ _ hG6, if_pos rfl, x3, v1]
              exact ⟨M6, rfl, cF_t (cF_t (cF_w (Nat.zero_le b) (cF_t (cF_t w2 y2) z2)) (cF_w (Nat.zero_le _) u2)) x2, v2, v3⟩
            | inr s2 =>
              rw [hpw] at hv2
              obtain ⟨M5, u1, u2, u3⟩ := hv2
              obtain ⟨g1, g2, g3, g4, g5, l2, g6, g7, g8, g9⟩ := pTsL_d (pFct_d 10) 400 (Or.inl rfl) (Or.inl rfl) hpw
              rw [List.nil_append] at g6
              rw [show phi 0 = 0 from rfl] at g9
              have hne : ¬ s2.2.2 = [] := fun h0 => by
                have g7' : pty l2 [] = some [true] := g7 []
                rw [← g6, h0] at g7'
                cases g7'
              obtain ⟨M6, x1, x2, x3, x4, x5⟩ := c_end (X := X) (d := d + 25) (x := 262) u3 (by rw [d6, g6]; omega)
              have hc1 : pCla t n p c = .inr (s2.1, s2.2.1, (s.2.2, s2.2.2)) := by
                unfold pCla
                rw [if_neg (not_not_intro c1), if_neg c2, hpv]
                dsimp only
                rw [if_pos c3, hpw]
              refine good (s2.1, s2.2.1, (s.2.2, s2.2.2)) M6 hc1 ?_ ?_ ?_ ?_ _ ?_
              · exact cF_t (cF_t (cF_t (cF_t w2 y2) z2) (cF_w (by omega) u2)) (cF_w (by omega) x2)
              · show cS t (b + (s.2.2 ++ s2.2.2).length + 1) s2.1 s2.2.1 [] M6
                rw [List.length_append, ← Nat.add_assoc]
                exact x3
              · show zsg pcd pwd (M6.1 36) (M6.1 37) b (s.2.2 ++ s2.2.2)
                rw [zsg_app]
                exact ⟨zsg_k (fun k q1 q2 => by rw [(x2.2.2.2 k (by omega)).1, (x2.2.2.2 k (by omega)).2]; exact u2.2.2.2 k (by omega)) z3.2.2.2.2.2.2, x4⟩
              · show M6.1 36 (b + (s.2.2 ++ s2.2.2).length) = (if s2.2.2 = [] then 261 else 262)
                rw [if_neg hne, List.length_append, ← Nat.add_assoc]
                exact x5
              · rw [pre3, u1, Option.bind_some]
                dsimp only [zps]
                rw [t61_83 _ _ _ _ u3.1, x1, Option.bind_some]
                dsimp only [zps]
                rw [t61_95 _ _ _ x3.1, if_neg (by decide)]
                rfl
          · obtain ⟨M6, x1, x2, x3, x4, x5⟩ := c_end (X := X) (d := d + 25) (x := 261) y3 (by rw [d6]; omega)
            have hc1 : pCla t n p c = .inr (s.1, s.2.1, (s.2.2, [])) := by
              unfold pCla
              rw [if_neg (not_not_intro c1), if_neg c2, hpv]
              dsimp only
              rw [if_neg c3]
            refine good (s.1, s.2.1, (s.2.2, [])) M6 hc1 (cF_t (cF_t w2 y2) x2) ?_ ?_ ?_ _ ?_
            · show cS t (b + (s.2.2 ++ []).length + 1) s.1 s.2.1 [] M6
              rw [List.append_nil]
              exact x3
            · show zsg pcd pwd (M6.1 36) (M6.1 37) b (s.2.2 ++ [])
              rw [List.append_nil]
              exact x4
            · show M6.1 36 (b + (s.2.2 ++ []).length) = (if ([] : List zOp) = [] then 261 else 262)
              rw [List.append_nil, if_pos rfl]
              exact x5
            · rw [pre2, if_neg c3, t61_68 _ _ _ _ y3.1, if_pos rfl, x1, Option.bind_some]
              dsimp only [zps]
              rw [t61_109 _ _ _ x3.1, if_neg (by decide)]
              rfl
    · refine bad (1 + 8 * p + 0) (by unfold pCla; rw [if_pos c1]) ?_
      obtain ⟨M2, w1, w2, w3⟩ := c_fail (X := X) (d := d + 24) (w := 0) h (by show b + 0 ≤ 400; omega) (by omega)
      have hG2 := cF_g w2 h.1
      rw [t61_24 _ _ _ h.1, if_neg (by decide), if_neg hle, h62, t62_0 _ _ h.1, show (15 : Int32) = Int32.ofNat 15 from rfl, c_is h (by omega), Option.bind_some]
      dsimp only [zps]
      rw [t62_9 _ _ _ h.1, if_neg c1, if_neg (show ¬ ¬ (0 : Int32) = 0 by decide), show zC X (d + 24) 97 [.ref 1, .int 0] M = zC X (d + 24) 97 [.ref 1, .int (Int32.ofNat 0)] M from rfl, w1, Option.bind_some]
      dsimp only [zps]
      rw [t62_20 _ _ _ hG2 (Or.inl rfl), Option.bind_some]
      dsimp only [zps]
      rw [t61_39 _ _ _ _ hG2, if_pos rfl]
      exact flt M2 _ hG2 (cF_w (Nat.zero_le b) w2) w3
/-- cells that reading a rule may use -/
def cG (M M' : zM) : Prop := M'.2 = M.2 ∧ (∀ a, a ≠ 1 → a ≠ 3 → a ≠ 4 → a ≠ 5 → a ≠ 34 → a ≠ 35 → a ≠ 36 → a ≠ 37 → M'.1 a = M.1 a) ∧ ∀ k, k < 5 → M'.1 1 k = M.1 1 k
theorem s61z {X : (Nat → Int32) × Nat} {d : Nat} {t : zTx} {M : zM} (hG : zGE M) (hT : tqD t M) : (∀ f, pRul t 12 0 (kS t 0) 0 = .inl f → ∃ M', zC X (d + 26) 61 [.ref 34] M = some (some (.int (Int32.ofNat f)), M') ∧ cG M M' ∧ 0 < f ∧ f < 4000) ∧ (∀ l, pRul t 12 0 (kS t 0) 0 = .inr l → ∃ M', zC X (d + 26) 61 [.ref 34] M = some (some (.int 0), M') ∧ cG M M' ∧ ruD M' 35 0 l) := by
  have hu : zC X (d + 26) 61 [.ref 34] M = zR X (d + 26) 61 (0, [.ref 34, zjk, zjk], [], M) := rfl
  have hG1 : zGE (zsI (zsI M 35 2 0) 34 2 0) := hG
  have hT1 : tqD t (zsI (zsI M 35 2 0) 34 2 0) := ⟨hT.1, by rw [zI_n (by omega), zI_n (by omega)]; exact hT.2.1, fun k hk => by rw [zI_n (by omega), zI_n (by omega)]; exact hT.2.2 k hk⟩
  obtain ⟨M2, w1, w2, w3, w4⟩ := s87 (X := X) (d := d + 19) hG1 hT1
  have hS : cS t 0 (kS t 0) 0 [] M2 := ⟨oF_G w2 hG1, oF_T w2 hT1, w4, w3, by rw [w2.2.1 34 (by omega) (by omega) (by omega) (by omega), zI_s, if_pos rfl]; rfl, by rw [w2.2.1 35 (by omega) (by omega) (by omega) (by omega), zI_n (by omega), zI_s, if_pos rfl]; rfl, True.intro⟩
  have hv := s61 (X := X) (d := d) 12 (n := 0) rfl hS (by omega) (kS_le 0) (by omega)
  have hg : ∀ M3, cF 0 M2 M3 → cG M M3 := fun M3 h => ⟨h.1.trans (w2.1.trans rfl), fun a q1 q2 q3 q4 q5 q6 q7 q8 => by rw [h.2.1 a q1 q5 q6 q7 q8, w2.2.1 a q1 q2 q3 q4, zI_n1 q5, zI_n1 q6], fun k hk => by rw [h.2.2.1 k (by omega), w2.2.2 k hk, zI_n (by omega), zI_n (by omega)]⟩
  rw [hu, t61_0 _ _ _ hG, w1, Option.bind_some]
  dsimp only [zps]
  rw [t61_20 _ _ _ hS.1]
  refine ⟨fun f hf => ?_, fun l hl => ?_⟩
  · rw [hf] at hv
    obtain ⟨M3, y1, y2, y3, y4⟩ := hv
    exact ⟨M3, y1, hg M3 y2, y3, y4⟩
  · rw [hl] at hv
    obtain ⟨M3, y1, y2, y3⟩ := hv
    exact ⟨M3, y1, hg M3 y2, y3⟩
