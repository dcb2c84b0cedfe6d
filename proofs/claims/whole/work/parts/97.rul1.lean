/-! ===== a rule's text, plainly: a fault, or the place behind, how many parts, the entries ===== -/
abbrev zPs : Type := Nat ⊕ (Nat × Nat × List zOp)
def opT (k : Nat) : Nat := if k = 42 then 13 else if k = 47 then 14 else if k = 37 then 15 else 0
def opP (k : Nat) : Nat := if k = 43 then 2 else if k = 45 then 3 else 0
def cop (k : Nat) : Nat := if k = 60 then 4 else if k = 259 then 5 else if k = 61 then 6 else if k = 260 then 7 else if k = 62 then 8 else 0
def pVal (t : zTx) (p c : Nat) (e : List zOp) : zPs :=
  if kk t p = 258 then (if 5 < ken isD t p - p then .inl (1 + 8 * p + 1) else if 60 ≤ c then .inl (1 + 8 * p + 3) else .inr (kA t p, c + 1, e ++ [(0, kdv t.2 p (ken isD t p - p))]))
  else if kk t p = 257 ∧ 4 ≤ kw t p ∧ kw t p ≤ 14 then (if 60 ≤ c then .inl (1 + 8 * p + 3) else .inr (kA t p, c + 1, e ++ [(1, kw t p - 4)]))
  else .inl (1 + 8 * p + 0)
def zsn (x : Nat) (e : List zOp) : List zOp := if x = 0 then e else e ++ [(x, 0)]
def pSmL (t : zTx) : Nat → Nat → Nat → Nat → Nat → List zOp → zPs
  | 0, _, _, p, _, _ => .inl (1 + 8 * p + 0)
  | k + 1, tm, pl, p, c, e => match pVal t p c e with
    | .inl f => .inl f
    | .inr s => if ¬ opT (kk t s.1) = 0 then pSmL t k (opT (kk t s.1)) pl (kA t s.1) s.2.1 (zsn tm s.2.2)
      else if ¬ opP (kk t s.1) = 0 then pSmL t k 0 (opP (kk t s.1)) (kA t s.1) s.2.1 (zsn pl (zsn tm s.2.2))
      else .inr (s.1, s.2.1, zsn pl (zsn tm s.2.2))
def pSum (t : zTx) (p c : Nat) (e : List zOp) : zPs := pSmL t 400 0 0 p c e
def pCmp (t : zTx) (p c : Nat) (e : List zOp) : zPs := match pSum t p c e with
  | .inl f => .inl f
  | .inr s => if cop (kk t s.1) = 0 then .inl (1 + 8 * s.1 + 0) else if 60 ≤ s.2.1 then .inl (1 + 8 * s.1 + 3) else match pSum t (kA t s.1) (s.2.1 + 1) s.2.2 with
    | .inl f => .inl f
    | .inr s2 => .inr (s2.1, s2.2.1, s2.2.2 ++ [(cop (kk t s.1), 0)])
def pTsL (t : zTx) (F : Nat → Nat → List zOp → zPs) : Nat → Nat → Nat → Nat → Nat → List zOp → zPs
  | 0, _, _, p, _, _ => .inl (1 + 8 * p + 0)
  | k + 1, an, o, p, c, e => match F p c e with
    | .inl f => .inl f
    | .inr s => if kk t s.1 = 257 ∧ kw t s.1 = 18 then pTsL t F k 10 o (kA t s.1) s.2.1 (zsn an s.2.2)
      else if kk t s.1 = 257 ∧ kw t s.1 = 17 then pTsL t F k 0 11 (kA t s.1) s.2.1 (zsn o (zsn an s.2.2))
      else .inr (s.1, s.2.1, zsn o (zsn an s.2.2))
/-- a fact, d more levels may be opened -/
def pFct (t : zTx) : Nat → Nat → Nat → List zOp → zPs
  | 0, p, c, e => if (kk t p = 257 ∧ kw t p = 19) ∨ kk t p = 91 then .inl (1 + 8 * p + 2) else pCmp t p c e
  | d + 1, p, c, e => if kk t p = 257 ∧ kw t p = 19 then (match pFct t d (kA t p) c e with
      | .inl f => .inl f
      | .inr s => .inr (s.1, s.2.1, s.2.2 ++ [(9, 0)]))
    else if kk t p = 91 then (match pTsL t (pFct t d) 400 0 0 (kA t p) c e with
      | .inl f => .inl f
      | .inr s => if kk t s.1 = 93 then .inr (kA t s.1, s.2.1, s.2.2) else .inl (1 + 8 * s.1 + 0))
    else pCmp t p c e
def pCla (t : zTx) (n p c : Nat) : Nat ⊕ (Nat × Nat × zCl) :=
  if ¬ (kk t p = 257 ∧ kw t p = 15) then .inl (1 + 8 * p + 0) else if 12 ≤ n then .inl (1 + 8 * p + 4) else match pSum t (kA t p) c [] with
    | .inl f => .inl f
    | .inr s => if kk t s.1 = 257 ∧ kw t s.1 = 16 then (match pTsL t (pFct t 10) 400 0 0 (kA t s.1) s.2.1 [] with
        | .inl f => .inl f
        | .inr s2 => .inr (s2.1, s2.2.1, (s.2.2, s2.2.2)))
      else .inr (s.1, s.2.1, (s.2.2, []))
def pRul (t : zTx) : Nat → Nat → Nat → Nat → Nat ⊕ List zCl
  | 0, n, p, c => match pCla t n p c with
    | .inl f => .inl f
    | .inr _ => .inl 1
  | m + 1, n, p, c => match pCla t n p c with
    | .inl f => .inl f
    | .inr s => if kk t s.1 = 59 then (match pRul t m (n + 1) (kA t s.1) s.2.1 with
        | .inl f => .inl f
        | .inr l => .inr (s.2.2 :: l))
      else if kk t s.1 = 256 then .inr [s.2.2] else .inl (1 + 8 * s.1 + 0)
/-! how far, how many, of which kind -/
def ftl (x : Nat) (ts : List Bool) : List Bool := if x = 0 then ts else false :: ts
def ttl (x : Nat) (ts : List Bool) : List Bool := if x = 0 then ts else true :: ts
def phi (x : Nat) : Nat := if x = 0 then 0 else 1
theorem pty_ap : ∀ {l1 l2 : List zOp} {ts : List Bool}, pty (l1 ++ l2) ts = (pty l1 ts).bind (pty l2)
  | [], _, _ => rfl
  | p :: l1, l2, ts => by
    rw [List.cons_append, pty, pty]
    cases pt1 p ts with
    | none => rfl
    | some t1 =>
      rw [Option.bind_some, Option.bind_some]
      exact pty_ap
theorem pcn_ap : ∀ {l1 l2 : List zOp}, pcn (l1 ++ l2) = pcn l1 + pcn l2
  | [], _ => by rw [List.nil_append]; show _ = 0 + _; omega
  | p :: l1, l2 => by rw [List.cons_append, pcn, pcn, pcn_ap]; omega
theorem pt1_T {x : Nat} {ts : List Bool} (h : x = 13 ∨ x = 14 ∨ x = 15 ∨ x = 2 ∨ x = 3) : pt1 (x, 0) (false :: false :: ts) = some (false :: ts) := by
  rcases h with rfl | rfl | rfl | rfl | rfl <;> rfl
theorem pt1_C {x : Nat} {ts : List Bool} (h : x = 4 ∨ x = 5 ∨ x = 6 ∨ x = 7 ∨ x = 8) : pt1 (x, 0) (false :: false :: ts) = some (true :: ts) := by
  rcases h with rfl | rfl | rfl | rfl | rfl <;> rfl
theorem pt1_A {x : Nat} {ts : List Bool} (h : x = 10 ∨ x = 11) : pt1 (x, 0) (true :: true :: ts) = some (true :: ts) := by
  rcases h with rfl | rfl <;> rfl
def okT2 (x : Nat) : Prop := x = 0 ∨ x = 13 ∨ x = 14 ∨ x = 15
def okP2 (x : Nat) : Prop := x = 0 ∨ x = 2 ∨ x = 3
theorem opT_v {k : Nat} : okT2 (opT k) := by
  unfold opT okT2
  split
  · omega
  · split
    · omega
    · split <;> omega
theorem opP_v {k : Nat} : okP2 (opP k) := by
  unfold opP okP2
  split
  · omega
  · split <;> omega
theorem cop_v {k : Nat} (h : ¬ cop k = 0) : cop k = 4 ∨ cop k = 5 ∨ cop k = 6 ∨ cop k = 7 ∨ cop k = 8 := by
  unfold cop at h ⊢
  split
  · omega
  · split
    · omega
    · split
      · omega
      · split
        · omega
        · split
          · omega
          · rename_i a1 a2 a3 a4 a5
            rw [if_neg a1, if_neg a2, if_neg a3, if_neg a4, if_neg a5] at h
            exact absurd rfl h
/-- the entries l come behind, from a stack ts to a stack us -/
def pDg (t : zTx) (p c : Nat) (e : List zOp) (s : Nat × Nat × List zOp) (r : Nat) (us : List Bool → List Bool) (b : Bool) : Prop := p < s.1 ∧ s.1 ≤ t.1 ∧ ken isB t s.1 = s.1 ∧ c < s.2.1 ∧ s.2.1 ≤ 60 ∧ ∃ l, s.2.2 = e ++ l ∧ (∀ ts, pty l (us ts) = some (b :: ts)) ∧ pcn l + c ≤ s.2.1 ∧ 2 * l.length + p + 2 * c + 1 ≤ s.1 + 2 * s.2.1 + 2 * r
def pDl (t : zTx) (b : Bool) (p c : Nat) (e : List zOp) (s : Nat × Nat × List zOp) : Prop := pDg t p c e s 0 id b
theorem kk_p {t : zTx} {p : Nat} (h : ¬ kk t p = 256) : p < t.1 := by
  rcases Nat.lt_or_ge p t.1 with c | c
  · exact c
  · exact absurd (by unfold kk; rw [if_pos c]) h
/-- behind a word -/
theorem kwd_0 : ∀ w, w < 20 → ∃ x l, kwd w = x :: l ∧ 97 ≤ x ∧ x ≤ 122 := fun w hw => by
  rcases (show w = 0 ∨ w = 1 ∨ w = 2 ∨ w = 3 ∨ w = 4 ∨ w = 5 ∨ w = 6 ∨ w = 7 ∨ w = 8 ∨ w = 9 ∨ w = 10 ∨ w = 11 ∨ w = 12 ∨ w = 13 ∨ w = 14 ∨ w = 15 ∨ w = 16 ∨ w = 17 ∨ w = 18 ∨ w = 19 by omega) with rfl | rfl | rfl | rfl | rfl | rfl | rfl | rfl | rfl | rfl | rfl | rfl | rfl | rfl | rfl | rfl | rfl | rfl | rfl | rfl
  all_goals exact ⟨_, _, rfl, by decide, by decide⟩
theorem kX_w {t : zTx} {p w : Nat} (hw : w < 20) (hp : p < t.1) (h2 : kis t p w = true) : kX t p = p + (kwd w).length ∧ isL (t.2 p) = true ∧ kk t p = 257 := by
  unfold kis at h2
  rw [Bool.and_eq_true, Nat.beq_eq] at h2
  obtain ⟨x, l, e1, e2, e3⟩ := kwd_0 w hw
  have h3 : t.2 p = x := by
    have h4 := h2.2
    rw [e1, kal, Bool.and_eq_true, Nat.beq_eq] at h4
    exact h4.1
  have hL : isL (t.2 p) = true := isL_i.mpr (by omega)
  refine ⟨?_, hL, ?_⟩
  · unfold kX
    rw [if_neg (by omega), hL, cond_true]
    exact h2.1
  · unfold kk
    rw [if_neg (by omega), hL, cond_true]
theorem kA_w {t : zTx} {p w : Nat} (hw : w < 20) (h1 : kk t p = 257) (h2 : kw t p = w) : p + (kwd w).length ≤ kA t p := by
  have h3 := (kX_w hw (kk_p (t := t) (p := p) (by omega)) ((kw_is hw).mpr h2)).1
  have := (ken_b (P := isB) (t := t) (p := kX t p)).1
  unfold kA
  omega
theorem dig {t : zTx} {p : Nat} (h5 : ¬ 5 < ken isD t p - p) : kdv t.2 p (ken isD t p - p) ≤ 99999 := by
  obtain ⟨h1, -, h3, -⟩ := ken_b (P := isD) (t := t) (p := p)
  have h := kdv_b (T := t.2) (p := p) (ken isD t p - p) (fun k hk => h3 (p + k) (by omega) (by omega))
  have : 10 ^ (ken isD t p - p) ≤ 10 ^ 5 := Nat.pow_le_pow_right (by omega) (by omega)
  omega
theorem pVal_d {t : zTx} {p c : Nat} {e : List zOp} {s : Nat × Nat × List zOp} (h : pVal t p c e = .inr s) : pDl t false p c e s := by
  unfold pVal at h
  by_cases c1 : kk t p = 258
  · rw [if_pos c1] at h
    by_cases c2 : 5 < ken isD t p - p
    · rw [if_pos c2] at h; cases h
    · rw [if_neg c2] at h
      by_cases c3 : 60 ≤ c
      · rw [if_pos c3] at h; cases h
      · rw [if_neg c3] at h
        cases h
        obtain ⟨q1, q2⟩ := kA_b (kk_p (t := t) (p := p) (by omega))
        refine ⟨q1, q2, kA_n, Nat.lt_succ_self c, by show c + 1 ≤ 60; omega, _, rfl, fun ts => ?_, ?_, ?_⟩
        · show (pt1 (0, _) ts).bind _ = _
          rw [pt1, if_pos rfl, if_pos (dig c2)]
          rfl
        · show (if (0 : Nat) ≤ 1 then 1 else 0) + 0 + c ≤ c + 1
          rw [if_pos (by omega)]; omega
        · show 2 * 1 + p + 2 * c + 1 ≤ kA t p + 2 * (c + 1) + 2 * 0
          omega
  · rw [if_neg c1] at h
    by_cases c2 : kk t p = 257 ∧ 4 ≤ kw t p ∧ kw t p ≤ 14
    · rw [if_pos c2] at h
      by_cases c3 : 60 ≤ c
      · rw [if_pos c3] at h; cases h
      · rw [if_neg c3] at h
        cases h
        obtain ⟨q1, q2⟩ := kA_b (kk_p (t := t) (p := p) (by omega))
        refine ⟨q1, q2, kA_n, Nat.lt_succ_self c, by show c + 1 ≤ 60; omega, _, rfl, fun ts => ?_, ?_, ?_⟩
        · show (pt1 (1, _) ts).bind _ = _
          rw [pt1, if_neg (show ¬ ((1, kw t p - 4) : Nat × Nat).1 = 0 from Nat.one_ne_zero), if_pos rfl, if_pos (show kw t p - 4 < 11 by omega)]
          rfl
        · show (if (1 : Nat) ≤ 1 then 1 else 0) + 0 + c ≤ c + 1
          rw [if_pos (by omega)]; omega
        · show 2 * 1 + p + 2 * c + 1 ≤ kA t p + 2 * (c + 1) + 2 * 0
          omega
    · rw [if_neg c2] at h; cases h
/-- entries, and a sign behind them -/
theorem zsn_l {x : Nat} {e l : List zOp} : ∃ l2, zsn x (e ++ l) = e ++ l2 ∧ l2 = zsn x l ∧ l2.length = l.length + phi x ∧ pcn l2 ≤ pcn l + (if x ≤ 1 then phi x else 0) := by
  unfold zsn phi
  by_cases c : x = 0
  · rw [if_pos c, if_pos c, if_pos c]
    exact ⟨l, rfl, rfl, rfl, by split <;> omega⟩
  · rw [if_neg c, if_neg c, if_neg c]
    refine ⟨l ++ [(x, 0)], by rw [List.append_assoc], rfl, by rw [List.length_append]; rfl, ?_⟩
    rw [pcn_ap]
    exact Nat.le_refl _
theorem zsn_t {x : Nat} {l : List zOp} {i o : Bool} {ts us : List Bool} (h0 : x = 0 → i = o) (hx : ¬ x = 0 → ∀ ts, pt1 (x, 0) (i :: i :: ts) = some (o :: ts)) (h : pty l us = some (i :: (if x = 0 then ts else i :: ts))) : pty (zsn x l) us = some (o :: ts) := by
  unfold zsn
  by_cases c : x = 0
  · rw [if_pos c] at h ⊢
    rw [h, h0 c]
  · rw [if_neg c] at h ⊢
    rw [pty_ap, h, Option.bind_some]
    show (pt1 (x, 0) (i :: i :: ts)).bind _ = _
    rw [hx c ts]
    rfl
theorem pSmL_d {t : zTx} : ∀ k {tm pl p c : Nat} {e : List zOp} {s : Nat × Nat × List zOp}, okT2 tm → okP2 pl → pSmL t k tm pl p c e = .inr s → pDg t p c e s (phi tm + phi pl) (fun ts => ftl tm (ftl pl ts)) false
  | 0, _, _, _, _, _, _, _, _, h => by rw [pSmL] at h; cases h
  | k + 1, tm, pl, p, c, e, s, ht, hp, h => by
    rw [pSmL] at h
    cases hv : pVal t p c e with
    | inl f => rw [hv] at h; cases h
    | inr v =>
      rw [hv] at h
      obtain ⟨d1, d2, d3, d4, d5, l, d6, d7, d8, d9⟩ := pVal_d hv
      have hT : ¬ tm = 0 → ∀ ts, pt1 (tm, 0) (false :: false :: ts) = some (false :: ts) := fun hn ts => pt1_T (by unfold okT2 at ht; omega)
      have hP : ¬ pl = 0 → ∀ ts, pt1 (pl, 0) (false :: false :: ts) = some (false :: ts) := fun hn ts => pt1_T (by unfold okP2 at hp; omega)
      have hT0 : (if tm ≤ 1 then phi tm else 0) = 0 := by
        unfold okT2 at ht
        by_cases c0 : tm ≤ 1
        · rw [if_pos c0, show tm = 0 by omega]; rfl
        · rw [if_neg c0]
      have hP0 : (if pl ≤ 1 then phi pl else 0) = 0 := by
        unfold okP2 at hp
        by_cases c0 : pl ≤ 1
        · rw [if_pos c0, show pl = 0 by omega]; rfl
        · rw [if_neg c0]
      obtain ⟨l2, m1, m2, m3, m4⟩ := zsn_l (x := tm) (e := e) (l := l)
      rw [hT0] at m4
      have m5 : ∀ ts, pty l2 (ftl tm ts) = some (false :: ts) := fun ts => by
        rw [m2]
        exact zsn_t (fun _ => rfl) hT (d7 _)
      have d6' := d6
      dsimp only at h
      rw [d6, m1] at h
      by_cases c1 : ¬ opT (kk t v.1) = 0
      · rw [if_pos c1] at h
        obtain ⟨q1, q2⟩ := kA_b (t := t) (p := v.1) (kk_p (fun h0 => c1 (by rw [h0]; rfl)))
        obtain ⟨g1, g2, g3, g4, g5, l3, g6, g7, g8, g9⟩ := pSmL_d k opT_v hp h
        have hf : phi (opT (kk t v.1)) = 1 := if_neg c1
        rw [hf] at g9
        refine ⟨by omega, g2, g3, by omega, g5, l2 ++ l3, by rw [g6, List.append_assoc], fun ts => ?_, by rw [pcn_ap]; omega, by rw [List.length_append]; omega⟩
        show pty (l2 ++ l3) (ftl tm (ftl pl ts)) = some (false :: ts)
        rw [pty_ap, m5, Option.bind_some]
        have := g7 ts
        dsimp only at this
        unfold ftl at this
        rw [if_neg c1] at this
        exact this
      · rw [if_neg c1] at h
        obtain ⟨l4, n1, n2, n3, n4⟩ := zsn_l (x := pl) (e := e) (l := l2)
        rw [hP0] at n4
        have n5 : ∀ ts, pty l4 (ftl tm (ftl pl ts)) = some (false :: ts) := fun ts => by
          rw [n2]
          exact zsn_t (fun _ => rfl) hP (m5 _)
        rw [n1] at h
        by_cases c2 : ¬ opP (kk t v.1) = 0
        · rw [if_pos c2] at h
          obtain ⟨q1, q2⟩ := kA_b (t := t) (p := v.1) (kk_p (fun h0 => c2 (by rw [h0]; rfl)))
          obtain ⟨g1, g2, g3, g4, g5, l3, g6, g7, g8, g9⟩ := pSmL_d k (Or.inl rfl) opP_v h
          have hf : phi (opP (kk t v.1)) = 1 := if_neg c2
          have hf0 : phi 0 = 0 := rfl
          rw [hf, hf0] at g9
          refine ⟨by omega, g2, g3, by omega, g5, l4 ++ l3, by rw [g6, List.append_assoc], fun ts => ?_, by rw [pcn_ap]; omega, by rw [List.length_append]; omega⟩
          show pty (l4 ++ l3) (ftl tm (ftl pl ts)) = some (false :: ts)
          rw [pty_ap, n5, Option.bind_some]
          have := g7 ts
          dsimp only at this
          unfold ftl at this
          rw [if_pos rfl, if_neg c2] at this
          exact this
        · rw [if_neg c2] at h
          cases h
          exact ⟨d1, d2, d3, d4, d5, l4, rfl, n5, by show pcn l4 + c ≤ v.2.1; omega, by show 2 * l4.length + p + 2 * c + 1 ≤ v.1 + 2 * v.2.1 + 2 * (phi tm + phi pl); omega⟩
theorem pSum_d {t : zTx} {p c : Nat} {e : List zOp} {s : Nat × Nat × List zOp} (h : pSum t p c e = .inr s) : pDl t false p c e s := pSmL_d 400 (Or.inl rfl) (Or.inl rfl) h
theorem pCmp_d {t : zTx} {p c : Nat} {e : List zOp} {s : Nat × Nat × List zOp} (h : pCmp t p c e = .inr s) : pDl t true p c e s := by
  unfold pCmp at h
  cases hv : pSum t p c e with
  | inl f => rw [hv] at h; cases h
  | inr v =>
    rw [hv] at h
    dsimp only at h
    obtain ⟨d1, d2, d3, d4, d5, l, d6, d7, d8, d9⟩ := pSum_d hv
    by_cases c1 : cop (kk t v.1) = 0
    · rw [if_pos c1] at h; cases h
    · rw [if_neg c1] at h
      by_cases c2 : 60 ≤ v.2.1
      · rw [if_pos c2] at h; cases h
      · rw [if_neg c2] at h
        cases hw : pSum t (kA t v.1) (v.2.1 + 1) v.2.2 with
        | inl f => rw [hw] at h; cases h
        | inr w =>
          rw [hw] at h
          dsimp only at h
          cases h
          obtain ⟨g1, g2, g3, g4, g5, l2, g6, g7, g8, g9⟩ := pSum_d hw
          obtain ⟨q1, q2⟩ := kA_b (t := t) (p := v.1) (kk_p (fun h0 => c1 (by rw [h0]; rfl)))
          refine ⟨by show p < w.1; omega, g2, g3, by show c < w.2.1; omega, g5, l ++ l2 ++ [(cop (kk t v.1), 0)], by show w.2.2 ++ _ = _; rw [g6, d6, List.append_assoc, List.append_assoc, List.append_assoc], fun ts => ?_, ?_, ?_⟩
          · show pty _ ts = _
            rw [pty_ap, pty_ap]
            have e1 := d7 ts
            have e2 := g7 (false :: ts)
            rw [show pty l ts = some (false :: ts) from e1, Option.bind_some, show pty l2 (false :: ts) = some (false :: false :: ts) from e2, Option.bind_some]
            show (pt1 (cop (kk t v.1), 0) _).bind _ = _
            rw [pt1_C (cop_v c1)]
            rfl
          · have hcv := cop_v c1
            rw [pcn_ap, pcn_ap]
            show pcn l + pcn l2 + ((if cop (kk t v.1) ≤ 1 then 1 else 0) + 0) + c ≤ w.2.1
            rw [if_neg (by omega)]
            omega
          · rw [List.length_append, List.length_append]
            show 2 * (l.length + l2.length + 1) + p + 2 * c + 1 ≤ w.1 + 2 * w.2.1 + 2 * 0
            omega
def pFD (t : zTx) (F : Nat → Nat → List zOp → zPs) : Prop := ∀ p c e s, F p c e = .inr s → pDl t true p c e s
theorem pTsL_d {t : zTx} {F : Nat → Nat → List zOp → zPs} (hF : pFD t F) : ∀ k {an o p c : Nat} {e : List zOp} {s : Nat × Nat × List zOp}, (an = 0 ∨ an = 10) → (o = 0 ∨ o = 11) → pTsL t F k an o p c e = .inr s → pDg t p c e s (phi an + phi o) (fun ts => ttl an (ttl o ts)) true
  | 0, _, _, _, _, _, _, _, _, h => by rw [pTsL] at h; cases h
  | k + 1, an, o, p, c, e, s, ht, hp, h => by
    rw [pTsL] at h
    cases hv : F p c e with
    | inl f => rw [hv] at h; cases h
    | inr v =>
      rw [hv] at h
      obtain ⟨d1, d2, d3, d4, d5, l, d6, d7, d8, d9⟩ := hF _ _ _ _ hv
      have hT : ¬ an = 0 → ∀ ts, pt1 (an, 0) (true :: true :: ts) = some (true :: ts) := fun hn ts => pt1_A (by omega)
      have hP : ¬ o = 0 → ∀ ts, pt1 (o, 0) (true :: true :: ts) = some (true :: ts) := fun hn ts => pt1_A (by omega)
      have hT0 : (if an ≤ 1 then phi an else 0) = 0 := by
        by_cases c0 : an ≤ 1
        · rw [if_pos c0, show an = 0 by omega]; rfl
        · rw [if_neg c0]
      have hP0 : (if o ≤ 1 then phi o else 0) = 0 := by
        by_cases c0 : o ≤ 1
        · rw [if_pos c0, show o = 0 by omega]; rfl
        · rw [if_neg c0]
      obtain ⟨l2, m1, m2, m3, m4⟩ := zsn_l (x := an) (e := e) (l := l)
      rw [hT0] at m4
      have m5 : ∀ ts, pty l2 (ttl an ts) = some (true :: ts) := fun ts => by
        rw [m2]
        exact zsn_t (fun _ => rfl) hT (d7 _)
      dsimp only at h
      rw [d6, m1] at h
      by_cases c1 : kk t v.1 = 257 ∧ kw t v.1 = 18
      · rw [if_pos c1] at h
        obtain ⟨q1, q2⟩ := kA_b (t := t) (p := v.1) (kk_p (by omega))
        obtain ⟨g1, g2, g3, g4, g5, l3, g6, g7, g8, g9⟩ := pTsL_d hF k (Or.inr rfl) hp h
        have hf : phi 10 = 1 := rfl
        rw [hf] at g9
        refine ⟨by omega, g2, g3, by omega, g5, l2 ++ l3, by rw [g6, List.append_assoc], fun ts => ?_, by rw [pcn_ap]; omega, by rw [List.length_append]; omega⟩
        show pty (l2 ++ l3) (ttl an (ttl o ts)) = some (true :: ts)
        rw [pty_ap, m5, Option.bind_some]
        exact g7 ts
      · rw [if_neg c1] at h
        obtain ⟨l4, n1, n2, n3, n4⟩ := zsn_l (x := o) (e := e) (l := l2)
        rw [hP0] at n4
        have n5 : ∀ ts, pty l4 (ttl an (ttl o ts)) = some (true :: ts) := fun ts => by
          rw [n2]
          exact zsn_t (fun _ => rfl) hP (m5 _)
        rw [n1] at h
        by_cases c2 : kk t v.1 = 257 ∧ kw t v.1 = 17
        · rw [if_pos c2] at h
          obtain ⟨q1, q2⟩ := kA_b (t := t) (p := v.1) (kk_p (by omega))
          obtain ⟨g1, g2, g3, g4, g5, l3, g6, g7, g8, g9⟩ := pTsL_d hF k (Or.inl rfl) (Or.inr rfl) h
          have hf : phi 11 = 1 := rfl
          have hf0 : phi 0 = 0 := rfl
          rw [hf, hf0] at g9
          refine ⟨by omega, g2, g3, by omega, g5, l4 ++ l3, by rw [g6, List.append_assoc], fun ts => ?_, by rw [pcn_ap]; omega, by rw [List.length_append]; omega⟩
          show pty (l4 ++ l3) (ttl an (ttl o ts)) = some (true :: ts)
          rw [pty_ap, n5, Option.bind_some]
          exact g7 ts
        · rw [if_neg c2] at h
          cases h
          exact ⟨d1, d2, d3, d4, d5, l4, rfl, n5, by show pcn l4 + c ≤ v.2.1; omega, by show 2 * l4.length + p + 2 * c + 1 ≤ v.1 + 2 * v.2.1 + 2 * (phi an + phi o); omega⟩
theorem pFct_d {t : zTx} : ∀ d, pFD t (pFct t d)
  | 0 => fun p c e s h => by
    rw [pFct] at h
    by_cases c1 : (kk t p = 257 ∧ kw t p = 19) ∨ kk t p = 91
    · rw [if_pos c1] at h; cases h
    · rw [if_neg c1] at h; exact pCmp_d h
  | d + 1 => fun p c e s h => by
    rw [pFct] at h
    by_cases c1 : kk t p = 257 ∧ kw t p = 19
    · rw [if_pos c1] at h
      obtain ⟨q1, q2⟩ := kA_b (t := t) (p := p) (kk_p (by omega))
      cases hv : pFct t d (kA t p) c e with
      | inl f => rw [hv] at h; cases h
      | inr v =>
        rw [hv] at h
        dsimp only at h
        cases h
        obtain ⟨d1, d2, d3, d4, d5, l, d6, d7, d8, d9⟩ := pFct_d d _ _ _ _ hv
        refine ⟨by show p < v.1; omega, d2, d3, d4, d5, l ++ [(9, 0)], by show v.2.2 ++ _ = _; rw [d6, List.append_assoc], fun ts => ?_, ?_, ?_⟩
        · show pty _ ts = _
          rw [pty_ap, show pty l ts = some (true :: ts) from d7 ts]
          rfl
        · rw [pcn_ap]
          show pcn l + ((if (9 : Nat) ≤ 1 then 1 else 0) + 0) + c ≤ v.2.1
          rw [if_neg (by omega)]
          omega
        · rw [List.length_append]
          show 2 * (l.length + 1) + p + 2 * c + 1 ≤ v.1 + 2 * v.2.1 + 2 * 0
          have := kA_w (t := t) (p := p) (w := 19) (by omega) c1.1 c1.2
          have hl : (kwd 19).length = 3 := rfl
          omega
    · rw [if_neg c1] at h
      by_cases c2 : kk t p = 91
      · rw [if_pos c2] at h
        obtain ⟨q1, q2⟩ := kA_b (t := t) (p := p) (kk_p (by omega))
        cases hv : pTsL t (pFct t d) 400 0 0 (kA t p) c e with
        | inl f => rw [hv] at h; cases h
        | inr v =>
          rw [hv] at h
          dsimp only at h
          obtain ⟨d1, d2, d3, d4, d5, l, d6, d7, d8, d9⟩ := pTsL_d (pFct_d d) 400 (Or.inl rfl) (Or.inl rfl) hv
          by_cases c3 : kk t v.1 = 93
          · rw [if_pos c3] at h
            cases h
            obtain ⟨q3, q4⟩ := kA_b (t := t) (p := v.1) (kk_p (by omega))
            have hf0 : phi 0 = 0 := rfl
            rw [hf0] at d9
            exact ⟨by show p < kA t v.1; omega, q4, kA_n, d4, d5, l, d6, d7, d8, by show 2 * l.length + p + 2 * c + 1 ≤ kA t v.1 + 2 * v.2.1 + 2 * 0; omega⟩
          · rw [if_neg c3] at h; cases h
      · rw [if_neg c2] at h; exact pCmp_d h
/-- a clause -/
theorem pCla_d {t : zTx} {n p c : Nat} {s : Nat × Nat × zCl} (h : pCla t n p c = .inr s) : n < 12 ∧ p < s.1 ∧ s.1 ≤ t.1 ∧ ken isB t s.1 = s.1 ∧ c < s.2.1 ∧ s.2.1 ≤ 60 ∧ okC s.2.2 ∧ 2 * (s.2.2.1.length + s.2.2.2.length + 1) + p + 2 * c ≤ s.1 + 2 * s.2.1 := by
  unfold pCla at h
  by_cases c1 : kk t p = 257 ∧ kw t p = 15
  · rw [if_neg (not_not_intro c1)] at h
    by_cases c2 : 12 ≤ n
    · rw [if_pos c2] at h; cases h
    · rw [if_neg c2] at h
      cases hv : pSum t (kA t p) c [] with
      | inl f => rw [hv] at h; cases h
      | inr v =>
        rw [hv] at h
        dsimp only at h
        obtain ⟨d1, d2, d3, d4, d5, l, d6, d7, d8, d9⟩ := pSum_d hv
        rw [List.nil_append] at d6
        have hA := kA_w (t := t) (p := p) (w := 15) (by omega) c1.1 c1.2
        have hl : (kwd 15).length = 3 := rfl
        have d7' : pty l [] = some [false] := d7 []
        by_cases c3 : kk t v.1 = 257 ∧ kw t v.1 = 16
        · rw [if_pos c3] at h
          cases hw : pTsL t (pFct t 10) 400 0 0 (kA t v.1) v.2.1 [] with
          | inl f => rw [hw] at h; cases h
          | inr w =>
            rw [hw] at h
            dsimp only at h
            cases h
            obtain ⟨g1, g2, g3, g4, g5, l2, g6, g7, g8, g9⟩ := pTsL_d (pFct_d 10) 400 (Or.inl rfl) (Or.inl rfl) hw
            rw [List.nil_append] at g6
            have g7' : pty l2 [] = some [true] := g7 []
            have hf0 : phi 0 = 0 := rfl
            rw [hf0] at g9
            obtain ⟨q1, q2⟩ := kA_b (t := t) (p := v.1) (kk_p (by omega))
            refine ⟨by omega, by show p < w.1; omega, g2, g3, by show c < w.2.1; omega, g5, ⟨?_, Or.inr ?_, ?_⟩, ?_⟩
            · show pty v.2.2 [] = _
              rw [d6]; exact d7'
            · show pty w.2.2 [] = _
              rw [g6]; exact g7'
            · show pcn v.2.2 + pcn w.2.2 ≤ 60
              rw [d6, g6]; omega
            · show 2 * (v.2.2.length + w.2.2.length + 1) + p + 2 * c ≤ w.1 + 2 * w.2.1
              rw [d6, g6]; omega
        · rw [if_neg c3] at h
          cases h
          refine ⟨by omega, by show p < v.1; omega, d2, d3, d4, d5, ⟨?_, Or.inl rfl, ?_⟩, ?_⟩
          · show pty v.2.2 [] = _
            rw [d6]; exact d7'
          · show pcn v.2.2 + 0 ≤ 60
            rw [d6]; omega
          · show 2 * (v.2.2.length + 0 + 1) + p + 2 * c ≤ v.1 + 2 * v.2.1
            rw [d6]; omega
  · rw [if_pos c1] at h; cases h
/-- a rule: not more than twelve clauses, each as it may be -/
theorem pRul_d {t : zTx} : ∀ m {n p c : Nat} {l : List zCl}, n + m = 12 → pRul t m n p c = .inr l → n + l.length ≤ 12 ∧ 0 < l.length ∧ ∀ q, q ∈ l → okC q
  | 0, n, p, c, l, hn, h => by
    rw [pRul] at h
    cases hv : pCla t n p c with
    | inl f => rw [hv] at h; cases h
    | inr s => rw [hv] at h; cases h
  | m + 1, n, p, c, l, hn, h => by
    rw [pRul] at h
    cases hv : pCla t n p c with
    | inl f => rw [hv] at h; cases h
    | inr s =>
      rw [hv] at h
      dsimp only at h
      have ho := (pCla_d hv).2.2.2.2.2.2.1
      by_cases c1 : kk t s.1 = 59
      · rw [if_pos c1] at h
        cases hw : pRul t m (n + 1) (kA t s.1) s.2.1 with
        | inl f => rw [hw] at h; cases h
        | inr r =>
          rw [hw] at h
          dsimp only at h
          cases h
          obtain ⟨g1, g2, g3⟩ := pRul_d m (by omega) hw
          rw [List.length_cons]
          refine ⟨by omega, by omega, fun q hq => ?_⟩
          rcases List.mem_cons.mp hq with e | e
          · rw [e]; exact ho
          · exact g3 q e
      · rw [if_neg c1] at h
        by_cases c2 : kk t s.1 = 256
        · rw [if_pos c2] at h
          cases h
          refine ⟨by show n + 1 ≤ 12; omega, by show 0 < 1; omega, fun q hq => ?_⟩
          rw [List.mem_singleton.mp hq]; exact ho
        · rw [if_neg c2] at h; cases h
