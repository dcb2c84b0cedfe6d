/-! ===== the reference's clauses, and a rule as a whole ===== -/
theorem r148 {X : (Nat → Int32) × Nat} {d sl o q c j w : Nat} {t : zTx} {e : List zOp} {M : zM} (h : rS t sl o q c e M) (hn : ken isB t q = q) (hj : j < 21) (hj0 : j ≠ 0) (hjw : jw j = w) (hw : w < 20) : zC X (d + 5) 148 [.ref 460, .retAddr j] M = (if kk t q = 257 ∧ kw t q = w then some (some (.int 1), zp M (q + (kwd w).length)) else some (some (.int 0), M)) := by
  have hG := rS_g h
  have hz : zp M q = M := zI_id h.2.2.1
  show zR X (d + 5) 148 (0, [.ref 460, .retAddr j, zjk], [], M) = _
  rw [t148_0 _ _ _ hG, rS_b h, hn, hz, Option.bind_some]
  dsimp only [zps]
  rw [t148_4 _ _ _ hG, rS_w (w := w) h hj hj0 hjw hw, Option.bind_some]
  dsimp only [zps]
  by_cases c1 : kk t q = 257 ∧ kw t q = w
  · rw [if_pos c1, if_pos c1, t148_9 _ _ _ _ hG (fun h => absurd h (by decide)) (fun _ => hj), if_neg (show ¬ (1 : Int32) = 0 by decide), j242 hG hj, Option.bind_some]
    dsimp only [zps]
    obtain ⟨w1, w2, -⟩ := jw_f j hj hj0
    rw [t148_23 _ _ _ _ _ hG (Or.inr rfl), h.2.2.1, w2, hjw, ← Int32.ofNat_add]
  · rw [if_neg c1, if_neg c1, t148_9 _ _ _ _ hG (fun _ => Or.inl rfl) (fun h => absurd rfl h), if_pos rfl, Int32.add_zero, zI_id rfl]
/-- cells that a clause may use -/
def uF (b m : Nat) (M M' : zM) : Prop := M'.2 = M.2 ∧ (∀ a, a ≠ 460 → a ≠ 486 → a ≠ 487 → a ≠ 492 → a ≠ 489 → a ≠ 490 → a ≠ 491 → M'.1 a = M.1 a) ∧ (∀ k, k ≠ 27 → k ≠ 28 → k ≠ 31 → k ≠ 32 → k ≠ 33 → k ≠ 34 → M'.1 460 k = M.1 460 k) ∧ (∀ k, k < b → M'.1 486 k = M.1 486 k ∧ M'.1 487 k = M.1 487 k) ∧ ∀ k, k < m → M'.1 489 k = M.1 489 k ∧ M'.1 490 k = M.1 490 k ∧ M'.1 491 k = M.1 491 k
theorem uF_q {b m : Nat} {M M' : zM} (h : tF b M M') : uF b m M M' := ⟨h.1, fun a q1 q2 q3 q4 _ _ _ => h.2.1 a q1 q2 q3 q4, h.2.2.1, h.2.2.2, fun k _ => by rw [h.2.1 489 (by omega) (by omega) (by omega) (by omega), h.2.1 490 (by omega) (by omega) (by omega) (by omega), h.2.1 491 (by omega) (by omega) (by omega) (by omega)]; exact ⟨rfl, rfl, rfl⟩⟩
theorem uF_r {b m : Nat} {M : zM} : uF b m M M := uF_q tF_r
theorem uF_t {b m : Nat} {M M1 M2 : zM} (h : uF b m M M1) (h' : uF b m M1 M2) : uF b m M M2 := ⟨h'.1.trans h.1, fun a q1 q2 q3 q4 q5 q6 q7 => (h'.2.1 a q1 q2 q3 q4 q5 q6 q7).trans (h.2.1 a q1 q2 q3 q4 q5 q6 q7), fun k q1 q2 q3 q4 q5 q6 => (h'.2.2.1 k q1 q2 q3 q4 q5 q6).trans (h.2.2.1 k q1 q2 q3 q4 q5 q6), fun k hk => ⟨(h'.2.2.2.1 k hk).1.trans (h.2.2.2.1 k hk).1, (h'.2.2.2.1 k hk).2.trans (h.2.2.2.1 k hk).2⟩, fun k hk => ⟨(h'.2.2.2.2 k hk).1.trans (h.2.2.2.2 k hk).1, (h'.2.2.2.2 k hk).2.1.trans (h.2.2.2.2 k hk).2.1, (h'.2.2.2.2 k hk).2.2.trans (h.2.2.2.2 k hk).2.2⟩⟩
theorem uF_w {b b' m m' : Nat} {M M1 : zM} (hb : b ≤ b') (hm : m ≤ m') (h : uF b' m' M M1) : uF b m M M1 := ⟨h.1, h.2.1, h.2.2.1, fun k hk => h.2.2.2.1 k (by omega), fun k hk => h.2.2.2.2 k (by omega)⟩
theorem uF_I {b m a k : Nat} {M : zM} {x : Int32} (ha : a = 489 ∨ a = 490 ∨ a = 491) (hk : m ≤ k) : uF b m M (zsI M a k x) := ⟨z2_I, fun c _ _ _ _ q5 q6 q7 => zI_n1 (by omega), fun j _ _ _ _ _ _ => by rw [zI_n (by omega)], fun j _ => ⟨by rw [zI_n (by omega)], by rw [zI_n (by omega)]⟩, fun j hj => by
  have e : ∀ c, (zsI M a k x).1 c j = M.1 c j := fun c => by
    by_cases e : c = a
    · rw [e, zI_s, if_neg (by omega)]
    · rw [zI_n e]
  exact ⟨e 489, e 490, e 491⟩⟩
theorem uF_B {b m sl : Nat} {t : zTx} {M M' : zM} (h : uF b m M M') (hB : rB t sl M) : rB t sl M' := by
  obtain ⟨hG, hT, h29, hs, h35⟩ := hB
  refine ⟨zGE_of hG (by rw [h.1]), ⟨hT.1, by rw [h.2.2.1 26 (by omega) (by omega) (by omega) (by omega) (by omega) (by omega)]; exact hT.2.1, fun k hk => ?_⟩, by rw [h.2.2.1 29 (by omega) (by omega) (by omega) (by omega) (by omega) (by omega)]; exact h29, hs, by rw [h.2.2.1 35 (by omega) (by omega) (by omega) (by omega) (by omega) (by omega)]; exact h35⟩
  rw [h.2.1 485 (by omega) (by omega) (by omega) (by omega) (by omega) (by omega) (by omega)]
  exact hT.2.2 k hk
/-- the other cells of a state -/
theorem rS_I {t : zTx} {sl o q c a k : Nat} {e : List zOp} {M : zM} {x : Int32} (h : rS t sl o q c e M) (ha : a = 489 ∨ a = 490 ∨ a = 491) : rS t sl o q c e (zsI M a k x) := by
  obtain ⟨hB, h1, h27, h28, h31, h33, hz⟩ := h
  exact ⟨uF_B (uF_I (b := 0) (m := 0) ha (Nat.zero_le _)) hB, h1, by rw [zI_n (by omega)]; exact h27, by rw [zI_n (by omega)]; exact h28, by rw [zI_n (by omega)]; exact h31, by rw [zI_n (by omega)]; exact h33, by rw [zI_n1 (by omega), zI_n1 (by omega)]; exact hz⟩
theorem rX_I {t : zTx} {sl f a k : Nat} {M : zM} {x : Int32} (h : rX t sl f M) (ha : a = 489 ∨ a = 490 ∨ a = 491) : rX t sl f (zsI M a k x) := by
  obtain ⟨hB, h28, f1, f2, q, hq, h27⟩ := h
  exact ⟨uF_B (uF_I (b := 0) (m := 0) ha (Nat.zero_le _)) hB, by rw [zI_n (by omega)]; exact h28, f1, f2, q, hq, by rw [zI_n (by omega)]; exact h27⟩
def rCl (X : (Nat → Int32) × Nat) (D : Nat) (t : zTx) (sl o n : Nat) (M : zM) (r : Nat ⊕ (Nat × Nat × zCl)) : Prop := match r with
  | .inl f => ∃ M', zC X (D + 11) 174 [.ref 460, .int (Int32.ofNat n)] M = some (none, M') ∧ uF (300 * sl + o) (12 * sl + n) M M' ∧ rX t sl f M'
  | .inr s => ∃ M', zC X (D + 11) 174 [.ref 460, .int (Int32.ofNat n)] M = some (none, M') ∧ uF (300 * sl + o) (12 * sl + n) M M' ∧ rS t sl (o + s.2.2.1.length + s.2.2.2.length) s.1 s.2.1 [] M' ∧ M'.1 460 32 = 0 ∧ M'.1 489 (12 * sl + n) = Int32.ofNat o ∧ M'.1 490 (12 * sl + n) = Int32.ofNat (o + s.2.2.1.length) ∧ M'.1 491 (12 * sl + n) = Int32.ofNat (o + s.2.2.1.length + s.2.2.2.length) ∧ zsg idc idw (M'.1 486) (M'.1 487) (300 * sl + o) (s.2.2.1 ++ s.2.2.2)
theorem r174 {X : (Nat → Int32) × Nat} {D sl o q0 p c n : Nat} {t : zTx} {M : zM} (h : rS t sl o q0 c [] M) (h32 : M.1 460 32 = 0) (hp : ken isB t q0 = p) (hc : c ≤ 60) (hn : n ≤ 12) (hr : 2 * o ≤ p + 2 * c) : rCl X D t sl o n M (pCla t n p c) := by
  have hL := h.1.2.1.1
  have hsl := h.1.2.2.2.1
  have hb := rS_hb h
  have hpt : p ≤ t.1 := by rw [← hp]; exact ken_b.2.1 h.2.1
  have h1 := rS_p h hpt
  have hF1 : uF (300 * sl + o) (12 * sl + n) M (zp M p) := uF_q (tF_q (qF_I (by omega)))
  have e12 : ¬ Int32.ofNat n = 12 ↔ ¬ n = 12 := not_congr (of_inj (k := 12) (by omega) (by omega))
  have x3 : 12 * (zp M p).1 460 29 + Int32.ofNat n = Int32.ofNat (12 * sl + n) := by rw [h1.1.2.2.1, of_12]
  have hv3 : n < 12 → vp_in (Int32.ofNat (12 * sl + n)) 72 := fun hn => vp_of (by omega) (by omega)
  have hu : zC X (D + 11) 174 [.ref 460, .int (Int32.ofNat n)] M = zR X (D + 11) 174 (16, [.ref 460, .int (Int32.ofNat n), .int (Int32.ofNat p), zjk], [.int (if kk t p = 257 ∧ kw t p = 15 then 1 else 0)], zp M p) := by
    show zR X (D + 11) 174 (0, [.ref 460, .int (Int32.ofNat n), zjk, zjk], [], M) = _
    rw [t174_0 _ _ _ _ (rS_g h), rS_b h, hp, Option.bind_some]
    dsimp only [zps]
    rw [t174_4 _ _ _ _ (rS_g h1), h1.2.2.1, rS_w (w := 15) h1 (by omega) (by omega) rfl (by omega), Option.bind_some]
    rfl
  unfold pCla
  by_cases c1 : kk t p = 257 ∧ kw t p = 15
  · rw [if_neg (not_not_intro c1)]
    by_cases c2 : 12 ≤ n
    · rw [if_pos c2]
      have hf := rS_f (w := 4) h1 hpt (by omega)
      refine ⟨_, ?_, uF_t hF1 (uF_q (tF_q fM_q)), hf⟩
      rw [hu, if_pos c1, t174_16 _ _ _ _ _ (rS_g h1) (fun _ h => absurd (e12.mp h) (by omega)), if_pos (show ¬ (1 : Int32) = 0 by decide), if_neg (fun h => absurd (e12.mp h) (by omega)), show (4 : Int32) = Int32.ofNat 4 from rfl, r143 (rS_g h1), Option.bind_some]
      dsimp only [zps]
      rw [t174_38 _ _ _ _ (rX_g hf)]
    · rw [if_neg c2]
      obtain ⟨w1, w2, w3⟩ := kw_257 (t := t) (p := p) (by omega)
      rw [c1.2, show (kwd 15).length = 3 from rfl] at w3
      have w4 := (kX_b w1).2
      have a1 := (kA_b w1).1
      have hA : ken isB t (p + 3) = kA t p := by unfold kA; rw [w3]
      have hA3 : p + 3 ≤ kA t p := by rw [← hA]; exact ken_b.1
      have hz3 : zsI (zp M p) 460 27 ((zp M p).1 460 27 + 3) = zp (zp M p) (p + 3) := by rw [h1.2.2.1, show (3 : Int32) = Int32.ofNat 3 from rfl, ← Int32.ofNat_add]
      have h31 : (zp M p).1 460 31 = Int32.ofNat o := h1.2.2.2.2.1
      have h2 : rS t sl o (p + 3) c [] (zsI (zp (zp M p) (p + 3)) 489 (12 * sl + n) (Int32.ofNat o)) := rS_I (rS_p h1 (by omega)) (Or.inl rfl)
      have hF2 : uF (300 * sl + o) (12 * sl + n) M (zsI (zp (zp M p) (p + 3)) 489 (12 * sl + n) (Int32.ofNat o)) := uF_t hF1 (uF_t (uF_q (tF_q (qF_I (by omega)))) (uF_I (Or.inl rfl) (Nat.le_refl _)))
      have h232 : (zsI (zp (zp M p) (p + 3)) 489 (12 * sl + n) (Int32.ofNat o)).1 460 32 = 0 := by rw [zI_n (by omega), zI_s, if_neg (by omega), zI_s, if_neg (by omega)]; exact h32
      have hv := r154 (X := X) (d := D + 3) h2 hA (by omega) hc (by show 2 * (o + 0) ≤ _; omega)
      have e1 : zC X (D + 11) 174 [.ref 460, .int (Int32.ofNat n)] M = (zC X (D + 10) 154 [.ref 460] (zsI (zp (zp M p) (p + 3)) 489 (12 * sl + n) (Int32.ofNat o))).bind fun z => zR X (D + 11) 174 (73, [.ref 460, .int (Int32.ofNat n), .int (Int32.ofNat p), .int (Int32.ofNat (12 * sl + n))], zps z.1 [], z.2) := by
        rw [hu, if_pos c1, t174_16 _ _ _ _ _ (rS_g h1) (fun _ _ => by rw [x3]; exact hv3 (by omega)), if_pos (show ¬ (1 : Int32) = 0 by decide), if_pos (e12.mpr (by omega)), x3, hz3, h31, toNat_of (by omega)]
      have tn3 : (Int32.ofNat (12 * sl + n)).toNatClampNeg = 12 * sl + n := toNat_of (by omega)
      cases hpv : pSum t (kA t p) c [] with
      | inl f =>
        rw [hpv] at hv
        obtain ⟨M2, y1, y2, y3⟩ := hv
        refine ⟨_, ?_, uF_t hF2 (uF_t (uF_q (tF_q y2)) (uF_t (uF_I (a := 490) (k := 12 * sl + n) (x := M2.1 460 31) (by omega) (Nat.le_refl _)) (uF_I (a := 491) (k := 12 * sl + n) (x := M2.1 460 31) (by omega) (Nat.le_refl _)))), rX_I (rX_I y3 (by omega)) (by omega)⟩
        rw [e1, y1, Option.bind_some]
        dsimp only [zps]
        rw [t174_73 _ _ _ _ (rX_g y3) (hv3 (by omega)), if_pos (rX_0 y3), tn3]
      | inr s =>
        rw [hpv] at hv
        obtain ⟨M2, y1, y2, y3⟩ := hv
        obtain ⟨d1, d2, d3, d4, d5, l, d6, d7, d8, d9⟩ := pSum_d hpv
        rw [List.nil_append] at d6
        have y32 : M2.1 460 32 = 0 := by rw [y2.2.2.1 32 (by omega) (by omega) (by omega) (by omega)]; exact h232
        have y489 : M2.1 489 (12 * sl + n) = Int32.ofNat o := by rw [y2.2.1 489 (by omega) (by omega) (by omega), zI_s, if_pos rfl]
        have y31 : M2.1 460 31 = Int32.ofNat (o + s.2.2.length) := y3.2.2.2.2.1
        have h3 : rS t sl o s.1 s.2.1 s.2.2 (zsI M2 490 (12 * sl + n) (Int32.ofNat (o + s.2.2.length))) := rS_I y3 (by omega)
        have hF3 : uF (300 * sl + o) (12 * sl + n) M (zsI M2 490 (12 * sl + n) (Int32.ofNat (o + s.2.2.length))) := uF_t hF2 (uF_t (uF_q (tF_q y2)) (uF_I (by omega) (Nat.le_refl _)))
        have e2 : zC X (D + 11) 174 [.ref 460, .int (Int32.ofNat n)] M = (zC X (D + 10) 148 [.ref 460, .retAddr 17] (zsI M2 490 (12 * sl + n) (Int32.ofNat (o + s.2.2.length)))).bind fun z => zR X (D + 11) 174 (97, [.ref 460, .int (Int32.ofNat n), .int (Int32.ofNat p), .int (Int32.ofNat (12 * sl + n))], zps z.1 [], z.2) := by
          rw [e1, y1, Option.bind_some]
          dsimp only [zps]
          rw [t174_73 _ _ _ _ (rS_g y3) (hv3 (by omega)), if_neg (not_not_intro y3.2.2.2.1), tn3, y31]
          rfl
        have h148 := r148 (X := X) (d := D + 5) (j := 17) (w := 16) h3 d3 (by omega) (by omega) rfl (by omega)
        dsimp only
        by_cases c3 : kk t s.1 = 257 ∧ kw t s.1 = 16
        · obtain ⟨u1, u2, u3⟩ := kw_257 (t := t) (p := s.1) (by omega)
          rw [c3.2, show (kwd 16).length = 2 from rfl] at u3
          have u4 := (kX_b u1).2
          have b1 := (kA_b u1).1
          have hA2 : ken isB t (s.1 + 2) = kA t s.1 := by unfold kA; rw [u3]
          rw [if_pos c3, show (kwd 16).length = 2 from rfl] at h148
          -- from here on the entries begin anew
          have h4 : rS t sl (o + s.2.2.length) (s.1 + 2) s.2.1 [] (zp (zsI M2 490 (12 * sl + n) (Int32.ofNat (o + s.2.2.length))) (s.1 + 2)) := by
            obtain ⟨g1, g2, g3, g4, g5, g6, g7⟩ := rS_p (q' := s.1 + 2) h3 (by omega)
            exact ⟨g1, g2, g3, g4, g5, g6, True.intro⟩
          have h432 : (zp (zsI M2 490 (12 * sl + n) (Int32.ofNat (o + s.2.2.length))) (s.1 + 2)).1 460 32 = 0 := by rw [zI_s, if_neg (by omega), zI_n (by omega)]; exact y32
          have hv2 := r160 (X := X) (D := D) h4 h432 hA2 (by omega) d5 (by show 2 * (o + s.2.2.length + 0) ≤ _; rw [d6]; omega)
          have hF4 : uF (300 * sl + o) (12 * sl + n) M (zp (zsI M2 490 (12 * sl + n) (Int32.ofNat (o + s.2.2.length))) (s.1 + 2)) := uF_t hF3 (uF_q (tF_q (qF_I (by omega))))
          have e3 : zC X (D + 11) 174 [.ref 460, .int (Int32.ofNat n)] M = (zC X (D + 10) 160 [.ref 460] (zp (zsI M2 490 (12 * sl + n) (Int32.ofNat (o + s.2.2.length))) (s.1 + 2))).bind fun z => zR X (D + 11) 174 (104, [.ref 460, .int (Int32.ofNat n), .int (Int32.ofNat p), .int (Int32.ofNat (12 * sl + n))], zps z.1 [], z.2) := by
            rw [e2, h148, Option.bind_some]
            dsimp only [zps]
            rw [t174_97 _ _ _ _ _ (rS_g h4) (fun h => absurd h (by decide)), if_neg (show ¬ (1 : Int32) = 0 by decide)]
            rfl
          rw [if_pos c3]
          cases hpw : pTsL t (pFct t 10) 400 0 0 (kA t s.1) s.2.1 [] with
          | inl f =>
            rw [hpw] at hv2
            obtain ⟨M5, z1, z2, z3⟩ := hv2
            refine ⟨_, ?_, uF_t hF4 (uF_t (uF_w (by omega) (Nat.le_refl _) (uF_q z2)) (uF_I (a := 491) (k := 12 * sl + n) (x := M5.1 460 31) (by omega) (Nat.le_refl _))), rX_I z3 (by omega)⟩
            rw [e3, z1, Option.bind_some]
            dsimp only [zps]
            rw [t174_104 _ _ _ _ (rX_g z3) (hv3 (by omega)), tn3]
          | inr s2 =>
            rw [hpw] at hv2
            obtain ⟨M5, z1, z2, z3, z4⟩ := hv2
            have hF5 : uF (300 * sl + o) (12 * sl + n) M (zsI M5 491 (12 * sl + n) (M5.1 460 31)) := uF_t hF4 (uF_t (uF_w (by omega) (Nat.le_refl _) (uF_q z2)) (uF_I (by omega) (Nat.le_refl _)))
            refine ⟨_, ?_, hF5, ?_, ?_, ?_, ?_, ?_, ?_⟩
            · rw [e3, z1, Option.bind_some]
              dsimp only [zps]
              rw [t174_104 _ _ _ _ (rS_g z3) (hv3 (by omega)), tn3]
            · obtain ⟨g1, g2, g3, g4, g5, g6, g7⟩ := rS_I (a := 491) (k := 12 * sl + n) (x := M5.1 460 31) z3 (by omega)
              exact ⟨g1, g2, g3, g4, g5, g6, True.intro⟩
            · rw [zI_n (by omega)]; exact z4
            · rw [zI_n (by omega), z2.2.1 489 (by omega) (by omega) (by omega) (by omega), zI_n (by omega), zI_n (by omega)]; exact y489
            · rw [zI_n (by omega), z2.2.1 490 (by omega) (by omega) (by omega) (by omega), zI_n (by omega), zI_s, if_pos rfl]
            · rw [zI_s, if_pos rfl]; exact z3.2.2.2.2.1
            · show zsg idc idw _ _ (300 * sl + o) (s.2.2 ++ s2.2.2)
              rw [zsg_app, zI_n1 (by omega), zI_n1 (by omega)]
              refine ⟨zsg_k (fun k k1 k2 => ?_) h3.2.2.2.2.2.2, ?_⟩
              · have := z2.2.2.2 k (by omega)
                rw [this.1, this.2, zI_n (by omega), zI_n (by omega)]
                exact ⟨rfl, rfl⟩
              · rw [show 300 * sl + o + s.2.2.length = 300 * sl + (o + s.2.2.length) by omega]
                exact z3.2.2.2.2.2.2
        · rw [if_neg c3] at h148
          rw [if_neg c3]
          have hF5 : uF (300 * sl + o) (12 * sl + n) M (zsI (zsI M2 490 (12 * sl + n) (Int32.ofNat (o + s.2.2.length))) 491 (12 * sl + n) ((zsI M2 490 (12 * sl + n) (Int32.ofNat (o + s.2.2.length))).1 460 31)) := uF_t hF3 (uF_I (by omega) (Nat.le_refl _))
          have h31' : (zsI M2 490 (12 * sl + n) (Int32.ofNat (o + s.2.2.length))).1 460 31 = Int32.ofNat (o + s.2.2.length) := h3.2.2.2.2.1
          refine ⟨_, ?_, hF5, ?_, ?_, ?_, ?_, ?_, ?_⟩
          · rw [e2, h148, Option.bind_some]
            dsimp only [zps]
            rw [t174_97 _ _ _ _ _ (rS_g h3) (fun _ => hv3 (by omega)), if_pos rfl, tn3]
          · obtain ⟨g1, g2, g3, g4, g5, g6, g7⟩ := rS_I (a := 491) (k := 12 * sl + n) (x := (zsI M2 490 (12 * sl + n) (Int32.ofNat (o + s.2.2.length))).1 460 31) h3 (by omega)
            exact ⟨g1, g2, g3, g4, g5, g6, True.intro⟩
          · rw [zI_n (by omega), zI_n (by omega)]; exact y32
          · rw [zI_n (by omega), zI_n (by omega)]; exact y489
          · rw [zI_n (by omega), zI_s, if_pos rfl]
          · rw [zI_s, if_pos rfl]; exact h31'
          · show zsg idc idw _ _ (300 * sl + o) (s.2.2 ++ [])
            rw [List.append_nil, zI_n1 (by omega), zI_n1 (by omega)]
            exact h3.2.2.2.2.2.2
  · rw [if_pos c1]
    have hf := rS_f (w := 0) h1 hpt (by omega)
    refine ⟨_, ?_, uF_t hF1 (uF_q (tF_q fM_q)), hf⟩
    rw [hu, if_neg c1, t174_16 _ _ _ _ _ (rS_g h1) (fun h => absurd rfl h), if_neg (show ¬ ¬ (0 : Int32) = 0 by decide), show zC X (D + 10) 143 [.ref 460, .int 0, .int (Int32.ofNat p)] (zp M p) = zC X (D + 10) 143 [.ref 460, .int (Int32.ofNat 0), .int (Int32.ofNat p)] (zp M p) from rfl, r143 (rS_g h1), Option.bind_some]
    dsimp only [zps]
    rw [t174_25 _ _ _ _ (rX_g hf)]
theorem kk_256 {t : zTx} {p : Nat} (hb : ∀ k, k < t.1 → t.2 k < 256) : kk t p = 256 ↔ t.1 ≤ p := by
  constructor
  · intro h0
    rcases kcs (p := p) hb with g | g | g | g | g
    · omega
    · omega
    · omega
    · have := g.2.2.1; split at this <;> omega
    · omega
  · intro h0
    unfold kk
    rw [if_pos h0]
/-- behind a clause -/
theorem r168 {X : (Nat → Int32) × Nat} {d sl o p c : Nat} {t : zTx} {e : List zOp} {M : zM} (h : rS t sl o p c e M) (hn : ken isB t p = p) : zC X (d + 2) 168 [.ref 460] M = (if kk t p = 59 then some (some (.int 1), zp M (p + 1)) else if kk t p = 256 then some (some (.int 0), zp M (p + 1)) else some (some (.int 0), zp (zsI M 460 28 (Int32.ofNat (1 + 8 * p + 0))) (p + 1))) := by
  have hG := rS_g h
  have hL := h.1.2.1.1
  have hb := rS_hb h
  have hz : zp M p = M := zI_id h.2.2.1
  have k59 := kk_b (t := t) (p := p) (x := 59) hb (by omega) (by omega) (by omega) (by omega) (by omega)
  have q59 : (sgR t p = 59) ↔ kk t p = 59 := (sgR_k (x := 59) hb (by omega)).trans k59.1.symm
  have hpl := h.2.1
  have hle : (M.1 460 26 ≤ M.1 460 27) ↔ t.1 ≤ p := by rw [h.1.2.1.2.1, h.2.2.1]; exact of_le (by omega) (by omega)
  have k256 : kk t p = 256 ↔ t.1 ≤ p := kk_256 hb
  show zR X (d + 2) 168 (0, [.ref 460, zjk], [], M) = _
  rw [t168_0 _ _ hG, rS_b h, hn, hz, Option.bind_some]
  dsimp only [zps]
  rw [t168_4 _ _ hG, if_neg (not_not_intro h.2.2.2.1)]
  by_cases c2 : t.1 ≤ p
  · rw [if_pos (hle.mpr c2), if_neg (show ¬ kk t p = 59 by rw [k256.mpr c2]; omega), if_pos (k256.mpr c2), h.2.2.1, of_succ]
  · rw [if_neg (mt hle.mp c2), rS_4 h, Option.bind_some]
    dsimp only [zps]
    rw [t168_26 _ _ _ hG]
    by_cases c1 : kk t p = 59
    · rw [if_pos (q59.mpr c1), if_neg (not_not_intro h.2.2.2.1), if_neg (mt hle.mp c2), if_pos c1, h.2.2.1, of_succ]
    · have hf := rS_f (w := 0) h hpl (by omega)
      have e : fM 0 p M = zsI M 460 28 (Int32.ofNat (1 + 8 * p + 0)) := if_pos h.2.2.2.1
      rw [e] at hf
      rw [if_neg (mt q59.mp c1), if_neg c1, if_neg (mt k256.mp c2), h.2.2.1, show (0 : Int32) = Int32.ofNat 0 from rfl, r143 hG, e, Option.bind_some]
      dsimp only [zps]
      rw [t168_40 _ _ (rX_g hf), if_pos (rX_0 hf), zI_s, if_neg (by omega), h.2.2.1, of_succ]
      rfl
theorem r168x {X : (Nat → Int32) × Nat} {d sl f : Nat} {t : zTx} {M : zM} (h : rX t sl f M) : ∃ q, zC X (d + 2) 168 [.ref 460] M = some (some (.int 0), zp M q) := by
  obtain ⟨hB, h28, f1, f2, q, hq, h27⟩ := id h
  have hL := hB.2.1.1
  have hX : rX t sl f (zp M (ken isB t q)) := rX_p h (by
    by_cases c : q ≤ t.1
    · have := (ken_b (P := isB) (t := t) (p := q)).2.1 c
      omega
    · rw [ken_l (by omega)]; omega)
  refine ⟨ken isB t q + 1, ?_⟩
  show zR X (d + 2) 168 (0, [.ref 460, zjk], [], M) = _
  rw [t168_0 _ _ hB.1, r145z hB.1 hB.2.1 h27 (by omega), Option.bind_some]
  dsimp only [zps]
  rw [t168_4 _ _ (rX_g hX), if_pos (rX_0 hX), zI_s, if_pos rfl, of_succ, zp, zI_zI]
