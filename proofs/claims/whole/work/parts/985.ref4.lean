/-! ===== the reference's facts made of a sign ===== -/
theorem r155e {X : (Nat → Int32) × Nat} {d sl f : Nat} {t : zTx} {M : zM} {x1 x2 : Int32} (h : rX t sl f M) : zR X (d + 1) 155 (98, [.ref 460, .int x1, .int x2], [], M) = some (none, M) := by
  have e : ∀ k : Int32, ((zC X d 149 [.ref 460, .int k, .int 0] M).bind fun o => zR X (d + 1) 155 (143, [.ref 460, .int x1, .int x2], zps o.1 [], o.2)) = some (none, M) := fun k => by
    rw [r149x h, Option.bind_some]
    dsimp only [zps]
    rw [t155_143 _ _ _ (rX_g h)]
  rw [t155_98 _ _ _ (rX_g h)]
  split
  · split
    · split
      · exact e _
      · exact e _
    · split
      · exact e _
      · exact e _
  · exact e _
theorem r155x {X : (Nat → Int32) × Nat} {d b sl f q : Nat} {t : zTx} {M : zM} {x1 : Int32} {v2 : Value} (h : rX t sl f M) (hq : M.1 460 27 = Int32.ofNat q) (hq2 : q < t.1) : ∃ M', zR X (d + 8) 155 (45, [.ref 460, .int x1, v2], [], M) = some (none, M') ∧ qF b M M' ∧ rX t sl f M' := by
  have hL := h.1.2.1.1
  have h1 : rX t sl f (zp M (q + 1)) := rX_p h (by omega)
  have h2 : rX t sl f (zp M (q + 2)) := rX_p h (by omega)
  obtain ⟨M1, y1, y2, y3⟩ := r154x (X := X) (d := d) (b := b) h1
  obtain ⟨M2, z1, z2, z3⟩ := r154x (X := X) (d := d) (b := b) h2
  have e1 : zsI M 460 27 (M.1 460 27 + 1) = zp M (q + 1) := by rw [hq, of_succ]
  have e0 : zsI (zp M (q + 1)) 460 27 (Int32.ofNat (q + 1) + 0) = zp M (q + 1) := by rw [Int32.add_zero, zp, zI_zI]
  have e2 : zsI (zp M (q + 1)) 460 27 (Int32.ofNat (q + 1) + 1) = zp M (q + 2) := by rw [of_succ, zp, zI_zI]
  have h27 : (zp M (q + 1)).1 460 27 = Int32.ofNat (q + 1) := by rw [zI_s, if_pos rfl]
  rw [t155_45 _ _ _ (rX_g h), e1, hq, of_succ, e0]
  by_cases c : x1 = 61
  · rw [if_pos c, y1, Option.bind_some]
    dsimp only [zps]
    rw [r155e y3]
    exact ⟨M1, rfl, qF_t (qF_I (by omega)) y2, y3⟩
  · rw [if_neg c, r144 h1.1.1 h1.1.2.1 h27 (by omega), Option.bind_some]
    dsimp only [zps]
    rw [t155_65 _ _ _ _ (rX_g h1), h27, e0, e2]
    by_cases c2 : sgR t (q + 1) = 61
    · rw [if_neg (not_not_intro c2), z1, Option.bind_some]
      dsimp only [zps]
      rw [r155e z3]
      exact ⟨M2, rfl, qF_t (qF_I (by omega)) z2, z3⟩
    · rw [if_pos c2, y1, Option.bind_some]
      dsimp only [zps]
      rw [r155e y3]
      exact ⟨M1, rfl, qF_t (qF_I (by omega)) y2, y3⟩
theorem r155 {X : (Nat → Int32) × Nat} {d sl o q0 p c : Nat} {t : zTx} {e : List zOp} {M : zM} (h : rS t sl o q0 c e M) (hp : ken isB t q0 = p) (h0 : 0 < p) (hc : c ≤ 60) (hr : 2 * (o + e.length) ≤ p + 2 * c) : rRx t sl o M (pCmp t p c e) (zC X (d + 8) 155 [.ref 460] M) := by
  have hL := h.1.2.1.1
  have hb := rS_hb h
  have hv := r154 (X := X) (d := d) h hp h0 hc hr
  show rRx t sl o M (pCmp t p c e) (zR X (d + 8) 155 (0, [.ref 460, zjk, zjk], [], M))
  rw [t155_0 _ _ _ (rS_g h), pCmp]
  cases hpv : pSum t p c e with
  | inl f =>
    rw [hpv] at hv
    obtain ⟨M2, w1, w2, w3⟩ := hv
    obtain ⟨hB, h28, f1, f2, q, hq, h27⟩ := id w3
    rw [w1, Option.bind_some]
    dsimp only [zps]
    rw [t155_4 _ _ _ (rX_g w3), r144 hB.1 hB.2.1 h27 (by omega), Option.bind_some]
    dsimp only [zps]
    have s60 : (sgR t q = 60) ↔ q < t.1 ∧ t.2 q = 60 := sgR_k (x := 60) hb (by omega)
    have s61 : (sgR t q = 61) ↔ q < t.1 ∧ t.2 q = 61 := sgR_k (x := 61) hb (by omega)
    have s62 : (sgR t q = 62) ↔ q < t.1 ∧ t.2 q = 62 := sgR_k (x := 62) hb (by omega)
    have go : q < t.1 → ∃ M', ((zC X (d + 7) 150 [.ref 460, .int (M2.1 460 27)] M2).bind fun o => zR X (d + 8) 155 (45, [.ref 460, .int (sgR t q), zjk], zps o.1 [], o.2)) = some (none, M') ∧ qF (300 * sl + o) M2 M' ∧ rX t sl f M' := fun hqt => by
      have hn := rX_n (p := q) w3
      obtain ⟨M3, y1, y2, y3⟩ := r155x (X := X) (d := d) (b := 300 * sl + o) (x1 := sgR t q) (v2 := zjk) hn (nM_k.1.trans h27) hqt
      rw [h27, r150 (rX_g w3), Option.bind_some]
      dsimp only [zps]
      rw [y1]
      exact ⟨M3, rfl, qF_t nM_q y2, y3⟩
    rw [t155_8 _ _ _ _ (rX_g w3)]
    by_cases c1 : sgR t q = 60
    · obtain ⟨M3, y1, y2, y3⟩ := go (s60.mp c1).1
      rw [if_pos c1, y1]
      exact ⟨M3, rfl, qF_t w2 y2, y3⟩
    · rw [if_neg c1]
      by_cases c2 : sgR t q = 61
      · obtain ⟨M3, y1, y2, y3⟩ := go (s61.mp c2).1
        rw [if_pos c2, y1]
        exact ⟨M3, rfl, qF_t w2 y2, y3⟩
      · rw [if_neg c2]
        by_cases c3 : sgR t q = 62
        · obtain ⟨M3, y1, y2, y3⟩ := go (s62.mp c3).1
          rw [if_pos c3, y1]
          exact ⟨M3, rfl, qF_t w2 y2, y3⟩
        · rw [if_neg c3, h27, show (0 : Int32) = Int32.ofNat 0 from rfl, r143 (rX_g w3), Option.bind_some, rX_f w3]
          dsimp only [zps]
          rw [t155_36 _ _ _ (rX_g w3)]
          exact ⟨M2, rfl, w2, w3⟩
  | inr s =>
    rw [hpv] at hv
    obtain ⟨M2, w1, w2, w3⟩ := hv
    obtain ⟨d1, d2, d3, d4, d5, l, d6, d7, d8, d9⟩ := pSum_d hpv
    have hlen : s.2.2.length = e.length + l.length := by rw [d6, List.length_append]
    have h27 := w3.2.2.1
    rw [w1, Option.bind_some]
    dsimp only [zps]
    rw [t155_4 _ _ _ (rS_g w3), rS_4 w3, Option.bind_some]
    dsimp only [zps]
    have s60 : (sgR t s.1 = 60) ↔ s.1 < t.1 ∧ t.2 s.1 = 60 := sgR_k (x := 60) hb (by omega)
    have s61 : (sgR t s.1 = 61) ↔ s.1 < t.1 ∧ t.2 s.1 = 61 := sgR_k (x := 61) hb (by omega)
    have s62 : (sgR t s.1 = 62) ↔ s.1 < t.1 ∧ t.2 s.1 = 62 := sgR_k (x := 62) hb (by omega)
    rw [t155_8 _ _ _ _ (rS_g w3)]
    by_cases cC : cop (kk t s.1) = 0
    · have nk : ¬ kk t s.1 = 60 ∧ ¬ kk t s.1 = 61 ∧ ¬ kk t s.1 = 62 ∧ ¬ kk t s.1 = 259 ∧ ¬ kk t s.1 = 260 := ⟨fun h0 => by rw [h0] at cC; exact absurd cC (by decide), fun h0 => by rw [h0] at cC; exact absurd cC (by decide), fun h0 => by rw [h0] at cC; exact absurd cC (by decide), fun h0 => by rw [h0] at cC; exact absurd cC (by decide), fun h0 => by rw [h0] at cC; exact absurd cC (by decide)⟩
      have nr : ¬ (s.1 < t.1 ∧ (t.2 s.1 = 60 ∨ t.2 s.1 = 61 ∨ t.2 s.1 = 62)) := fun hx => by
        rcases kcs (p := s.1) hb with g | g | g | g | g
        · omega
        · omega
        · omega
        · have := g.2.2.1; split at this <;> omega
        · omega
      rw [if_neg (fun hx => nr ⟨(s60.mp hx).1, Or.inl (s60.mp hx).2⟩), if_neg (fun hx => nr ⟨(s61.mp hx).1, Or.inr (Or.inl (s61.mp hx).2)⟩), if_neg (fun hx => nr ⟨(s62.mp hx).1, Or.inr (Or.inr (s62.mp hx).2)⟩), if_pos cC, h27, show (0 : Int32) = Int32.ofNat 0 from rfl, r143 (rS_g w3), Option.bind_some]
      dsimp only [zps]
      have hf := rS_f (w := 0) w3 d2 (by omega)
      rw [t155_36 _ _ _ (rX_g hf)]
      exact ⟨_, rfl, qF_t w2 fM_q, hf⟩
    · rw [if_neg cC]
      have hk : kk t s.1 = 60 ∨ kk t s.1 = 61 ∨ kk t s.1 = 62 ∨ kk t s.1 = 259 ∨ kk t s.1 = 260 := by
        by_cases e1 : kk t s.1 = 60
        · exact Or.inl e1
        · by_cases e2 : kk t s.1 = 259
          · exact Or.inr (Or.inr (Or.inr (Or.inl e2)))
          · by_cases e3 : kk t s.1 = 61
            · exact Or.inr (Or.inl e3)
            · by_cases e4 : kk t s.1 = 260
              · exact Or.inr (Or.inr (Or.inr (Or.inr e4)))
              · by_cases e5 : kk t s.1 = 62
                · exact Or.inr (Or.inr (Or.inl e5))
                · exact absurd (by unfold cop; rw [if_neg e1, if_neg e2, if_neg e3, if_neg e4, if_neg e5]) cC
      have hst : s.1 < t.1 := kk_p (fun h0 => cC (by rw [h0]; rfl))
      -- behind the count
      have go : rRx t sl o M (if 60 ≤ s.2.1 then .inl (1 + 8 * s.1 + 3) else match pSum t (kA t s.1) (s.2.1 + 1) s.2.2 with
          | .inl f => .inl f
          | .inr s2 => .inr (s2.1, s2.2.1, s2.2.2 ++ [(cop (kk t s.1), 0)])) ((zC X (d + 7) 150 [.ref 460, .int (M2.1 460 27)] M2).bind fun z => zR X (d + 8) 155 (45, [.ref 460, .int (sgR t s.1), zjk], zps z.1 [], z.2)) := by
        rw [h27, r150 (rS_g w3), Option.bind_some]
        dsimp only [zps]
        by_cases k3 : 60 ≤ s.2.1
        · have hn : rX t sl (1 + 8 * s.1 + 3) (nM s.1 M2) := rS_n60 (by rw [show (60 : Nat) = s.2.1 by omega]; exact w3) d2
          obtain ⟨M3, y1, y2, y3⟩ := r155x (X := X) (d := d) (b := 300 * sl + o) (x1 := sgR t s.1) (v2 := zjk) hn (nM_k.1.trans h27) hst
          rw [if_pos k3, y1]
          exact ⟨M3, rfl, qF_t (qF_t w2 nM_q) y2, y3⟩
        · have hn := rS_n (p := s.1) w3 (by omega)
          have n27 : (nM s.1 M2).1 460 27 = Int32.ofNat s.1 := nM_k.1.trans h27
          rw [if_neg k3]
          have e1 : zsI (nM s.1 M2) 460 27 ((nM s.1 M2).1 460 27 + 1) = zp (nM s.1 M2) (s.1 + 1) := by rw [n27, of_succ]
          have e0 : zsI (zp (nM s.1 M2) (s.1 + 1)) 460 27 (Int32.ofNat (s.1 + 1) + 0) = zp (nM s.1 M2) (s.1 + 1) := by rw [Int32.add_zero, zp, zI_zI]
          have e2 : zsI (zp (nM s.1 M2) (s.1 + 1)) 460 27 (Int32.ofNat (s.1 + 1) + 1) = zp (nM s.1 M2) (s.1 + 2) := by rw [of_succ, zp, zI_zI]
          have hS1 := rS_p (q' := s.1 + 1) hn (by omega)
          have h27' : (zp (nM s.1 M2) (s.1 + 1)).1 460 27 = Int32.ofNat (s.1 + 1) := by rw [zI_s, if_pos rfl]
          have a1 := (kA_b hst).1
          -- the second sum, and the sign behind it
          have fin : ∀ (qq x2 : Nat), kX t s.1 = qq → qq ≤ t.1 → (∀ M3, zGE M3 → zR X (d + 8) 155 (98, [.ref 460, .int (sgR t s.1), .int (Int32.ofNat x2)], [], M3) = (zC X (d + 7) 149 [.ref 460, .int (Int32.ofNat (cop (kk t s.1))), .int 0] M3).bind fun z => zR X (d + 8) 155 (143, [.ref 460, .int (sgR t s.1), .int (Int32.ofNat x2)], zps z.1 [], z.2)) → rRx t sl o M (match pSum t (kA t s.1) (s.2.1 + 1) s.2.2 with
              | .inl f => .inl f
              | .inr s2 => .inr (s2.1, s2.2.1, s2.2.2 ++ [(cop (kk t s.1), 0)])) ((zC X (d + 7) 154 [.ref 460] (zp (nM s.1 M2) qq)).bind fun z => zR X (d + 8) 155 (98, [.ref 460, .int (sgR t s.1), .int (Int32.ofNat x2)], zps z.1 [], z.2)) := by
            intro qq x2 hX hqt h98
            have hS2 := rS_p (q' := qq) hn hqt
            have hv2 := r154 (X := X) (d := d) hS2 (show ken isB t qq = kA t s.1 by unfold kA; rw [hX]) (by omega) (by omega) (by omega)
            have hF : qF (300 * sl + o) M (zp (nM s.1 M2) qq) := qF_t (qF_t w2 nM_q) (qF_I (by omega))
            cases hpw : pSum t (kA t s.1) (s.2.1 + 1) s.2.2 with
            | inl f =>
              rw [hpw] at hv2
              obtain ⟨M4, z1, z2, z3⟩ := hv2
              rw [z1, Option.bind_some]
              dsimp only [zps]
              rw [r155e z3]
              exact ⟨M4, rfl, qF_t hF z2, z3⟩
            | inr s2 =>
              rw [hpw] at hv2
              obtain ⟨M4, z1, z2, z3⟩ := hv2
              obtain ⟨g1, g2, g3, g4, g5, l2, g6, g7, g8, g9⟩ := pSum_d hpw
              have hlen2 : s2.2.2.length = s.2.2.length + l2.length := by rw [g6, List.length_append]
              obtain ⟨x1, x3⟩ := rS_e (k := cop (kk t s.1)) (v := 0) (x := Int32.ofNat (cop (kk t s.1))) (y := 0) z3 (by omega) rfl rfl
              rw [z1, Option.bind_some]
              dsimp only [zps]
              rw [h98 M4 (rS_g z3), r149g z3 (by omega), Option.bind_some]
              dsimp only [zps]
              rw [t155_143 _ _ _ (rS_g x3)]
              exact ⟨_, rfl, qF_t (qF_t hF z2) x1, x3⟩
          have kc := kcs (p := s.1) hb
          rw [t155_45 _ _ _ (rS_g hn), e1, n27, of_succ, e0]
          by_cases c61 : kk t s.1 = 61
          · have hT : t.2 s.1 = 61 ∧ kX t s.1 = s.1 + 1 := by
              rcases kc with g | g | g | g | g
              · omega
              · omega
              · omega
              · have := g.2.2.1; split at this <;> omega
              · exact ⟨by omega, g.2.2.2.1⟩
            have hsg : sgR t s.1 = 61 := s61.mpr ⟨hst, hT.1⟩
            rw [if_pos hsg]
            refine fin (s.1 + 1) 0 hT.2 (by omega) (fun M3 g3 => ?_)
            rw [t155_98 _ _ _ g3, if_neg (not_not_intro hsg), c61]
            rfl
          · have hT : (t.2 s.1 = 60 ∨ t.2 s.1 = 62) ∧ ((kk t s.1 = 60 ∧ t.2 s.1 = 60 ∧ kX t s.1 = s.1 + 1 ∧ ¬ (s.1 + 1 < t.1 ∧ t.2 (s.1 + 1) = 61)) ∨ (kk t s.1 = 62 ∧ t.2 s.1 = 62 ∧ kX t s.1 = s.1 + 1 ∧ ¬ (s.1 + 1 < t.1 ∧ t.2 (s.1 + 1) = 61)) ∨ (kk t s.1 = 259 ∧ t.2 s.1 = 60 ∧ kX t s.1 = s.1 + 2 ∧ (s.1 + 1 < t.1 ∧ t.2 (s.1 + 1) = 61)) ∨ (kk t s.1 = 260 ∧ t.2 s.1 = 62 ∧ kX t s.1 = s.1 + 2 ∧ (s.1 + 1 < t.1 ∧ t.2 (s.1 + 1) = 61))) := by
              rcases kc with g | g | g | g | g
              · omega
              · omega
              · omega
              · have g3 := g.2.2.1
                refine ⟨g.2.1.1, ?_⟩
                by_cases e6 : t.2 s.1 = 60
                · rw [if_pos e6] at g3
                  exact Or.inr (Or.inr (Or.inl ⟨g3, e6, g.2.2.2.1, g.2.1.2⟩))
                · rw [if_neg e6] at g3
                  exact Or.inr (Or.inr (Or.inr ⟨g3, by omega, g.2.2.2.1, g.2.1.2⟩))
              · refine ⟨by omega, ?_⟩
                have gx := g.2.2.2.1
                by_cases e6 : t.2 s.1 = 60
                · exact Or.inl ⟨by omega, e6, gx, fun hx => g.2.1.2.2.2 ⟨Or.inl e6, hx⟩⟩
                · have e7 : t.2 s.1 = 62 := by omega
                  exact Or.inr (Or.inl ⟨by omega, e7, gx, fun hx => g.2.1.2.2.2 ⟨Or.inr e7, hx⟩⟩)
            have hnsg : ¬ sgR t s.1 = 61 := fun hx => by have := (s61.mp hx).2; omega
            have s61' : (sgR t (s.1 + 1) = 61) ↔ s.1 + 1 < t.1 ∧ t.2 (s.1 + 1) = 61 := sgR_k (x := 61) hb (by omega)
            rw [if_neg hnsg, r144 hS1.1.1 hS1.1.2.1 h27' (by omega), Option.bind_some]
            dsimp only [zps]
            rw [t155_65 _ _ _ _ (rS_g hS1), h27', e0, e2]
            rcases hT.2 with ⟨g1, g2, g3, g4⟩ | ⟨g1, g2, g3, g4⟩ | ⟨g1, g2, g3, g4⟩ | ⟨g1, g2, g3, g4⟩
            · have hsg : sgR t s.1 = 60 := s60.mpr ⟨hst, g2⟩
              rw [if_pos (mt s61'.mp g4)]
              refine fin (s.1 + 1) 0 g3 (by omega) (fun M3 g5 => ?_)
              rw [t155_98 _ _ _ g5, if_pos hnsg, if_neg (not_not_intro hsg), if_pos (show Int32.ofNat 0 = 0 from rfl), g1]
              rfl
            · have hsg : ¬ sgR t s.1 = 60 := fun hx => by have := (s60.mp hx).2; omega
              rw [if_pos (mt s61'.mp g4)]
              refine fin (s.1 + 1) 0 g3 (by omega) (fun M3 g5 => ?_)
              rw [t155_98 _ _ _ g5, if_pos hnsg, if_pos hsg, if_pos (show Int32.ofNat 0 = 0 from rfl), g1]
              rfl
            · have hsg : sgR t s.1 = 60 := s60.mpr ⟨hst, g2⟩
              rw [if_neg (not_not_intro (s61'.mpr g4))]
              refine fin (s.1 + 2) 1 g3 (by omega) (fun M3 g5 => ?_)
              rw [t155_98 _ _ _ g5, if_pos hnsg, if_neg (not_not_intro hsg), if_neg (show ¬ Int32.ofNat 1 = 0 by decide), g1]
              rfl
            · have hsg : ¬ sgR t s.1 = 60 := fun hx => by have := (s60.mp hx).2; omega
              rw [if_neg (not_not_intro (s61'.mpr g4))]
              refine fin (s.1 + 2) 1 g3 (by omega) (fun M3 g5 => ?_)
              rw [t155_98 _ _ _ g5, if_pos hnsg, if_pos hsg, if_neg (show ¬ Int32.ofNat 1 = 0 by decide), g1]
              rfl
      have hraw : (sgR t s.1 = 60) ∨ (sgR t s.1 = 61) ∨ (sgR t s.1 = 62) := by
        rcases kcs (p := s.1) hb with g | g | g | g | g
        · omega
        · omega
        · omega
        · rcases g.2.1.1 with e6 | e6
          · exact Or.inl (s60.mpr ⟨hst, e6⟩)
          · exact Or.inr (Or.inr (s62.mpr ⟨hst, e6⟩))
        · rcases hk with e6 | e6 | e6 | e6 | e6
          · exact Or.inl (s60.mpr ⟨hst, by omega⟩)
          · exact Or.inr (Or.inl (s61.mpr ⟨hst, by omega⟩))
          · exact Or.inr (Or.inr (s62.mpr ⟨hst, by omega⟩))
          · omega
          · omega
      by_cases c1 : sgR t s.1 = 60
      · rw [if_pos c1]; exact go
      · rw [if_neg c1]
        by_cases c2 : sgR t s.1 = 61
        · rw [if_pos c2]; exact go
        · rw [if_neg c2, if_pos (show sgR t s.1 = 62 from (hraw.resolve_left c1).resolve_left c2)]; exact go
