/-! ===== the reference's roads, clauses, a text ===== -/
theorem rwQ_sym {tb : zTb} {a b : Nat} : ∀ n, rwQ tb a b n = rwQ tb b a n
  | 0 => rfl
  | n + 1 => by
    rw [rwQ, rwQ, rwQ_sym n]
    exact ifq (and_congr ⟨fun h => h.elim Or.inr Or.inl, fun h => h.elim Or.inr Or.inl⟩ Iff.rfl) rfl rfl
theorem r163x {X : (Nat → Int32) × Nat} {D f : Nat} {t : zTx} {M : zM} {x1 x3 x2 : Int32} (h : gX t f M) : ∃ M', ((zC X (D + 4) 161 [.ref 460, .int 1, .int 30] M).bind fun o => zR X (D + 5) 163 (50, [.ref 460, .int x1, .int x2, .int x3, zjk, zjk], zps o.1 [], o.2)) = some (none, M') ∧ nF M M' ∧ gX t f M' := by
  obtain ⟨M1, w1, w2, w3⟩ := r161x (X := X) (d := D) (lo := 1) (hi := 30) h
  refine ⟨zsI M1 475 5 (M1.1 475 5 + 1), ?_, nF_t (nF_p w2) (nF_I (by omega)), gX_I w3 (by omega)⟩
  have hn := gX_0 w3
  rw [w1, Option.bind_some]
  dsimp only [zps]
  rw [t163_50 _ _ _ _ _ _ _ w3.1.1 (fun g => absurd hn g) (fun g => absurd hn g) (fun g => absurd hn g), if_pos hn]
theorem r164_3 {X : (Nat → Int32) × Nat} {D q0 p : Nat} {t : zTx} {cn : Nat → Nat} {tb : zTb} {M : zM} (h : gQ t q0 M) (hp : ken isB t q0 = p) (hE : rE cn tb M) (hV : eV cn tb) (hcs : cn 3 < moE 3) : r164R X D t cn 3 M (pNmL t 3 (cn 3) (nuE 3) 0 p tb) := by
  have hm : moE 3 = 8 := rfl
  obtain ⟨h1, h2, h3, h4⟩ := id hE
  have hb5 : M.1 475 5 = Int32.ofNat (cn 3) := h1 3 (by omega) (by omega)
  have e0 : zC X (D + 6) 164 [.ref 460, .int (Int32.ofNat (krR 3))] M = (zC X (D + 5) 163 [.ref 460] M).bind fun o => zR X (D + 6) 164 (233, [.ref 460, .int (Int32.ofNat 4), zjk], zps o.1 [], o.2) := by
    show zR X (D + 6) 164 (0, [.ref 460, .int (Int32.ofNat 4), zjk], [], M) = _
    rw [t164_0 _ _ _ h.1.1, show zsw 1 228 0 3 #[31, 61, 120, 167] (Int32.ofNat 4) = 229 from rfl, t164_229 _ _ _ h.1.1]
  have e1 : zC X (D + 5) 163 [.ref 460] M = (zC X (D + 4) 161 [.ref 460, .int (Int32.ofNat (loE (3 * 3 + 0))), .int (Int32.ofNat (hiE (3 * 3 + 0)))] M).bind fun o => zR X (D + 5) 163 (7, [.ref 460, zjk, zjk, zjk, zjk, zjk], zps o.1 [], o.2) := by
    show zR X (D + 5) 163 (0, [.ref 460, zjk, zjk, zjk, zjk, zjk], [], M) = _
    rw [t163_0 _ _ _ _ _ _ h.1.1]
    rfl
  -- from a road's end
  have fin : ∀ {M1 M' : zM}, zC X (D + 5) 163 [.ref 460] M = some (none, M') → zGE M' → zC X (D + 6) 164 [.ref 460, .int (Int32.ofNat (krR 3))] M = some (none, M') := fun w hG => by
    rw [e0, w, Option.bind_some]
    dsimp only [zps]
    rw [t164_233 _ _ _ hG]
  -- a fault before the last number
  have fx : ∀ {f : Nat} {v : Int32} {K : zM}, gX t f K → ∃ M', zR X (D + 5) 163 (7, [.ref 460, zjk, zjk, zjk, zjk, zjk], [.int v], K) = some (none, M') ∧ nF K M' ∧ gX t f M' := by
    intro f v K hK
    obtain ⟨K1, w1, w2, w3⟩ := gX_b (X := X) (d := D + 3) hK
    obtain ⟨K2, y1, y2, y3⟩ := r161x (X := X) (d := D) (lo := 0) (hi := 7) w3
    have h27 : ∃ x, K1.1 460 27 = x := ⟨_, rfl⟩
    obtain ⟨K3, z1, z2, z3⟩ := r163x (X := X) (D := D) (x1 := v) (x2 := K1.1 460 27) (x3 := 0) y3
    refine ⟨K3, ?_, nF_t (nF_p w2) (nF_t (nF_p y2) z2), z3⟩
    rw [t163_7 _ _ _ _ _ _ _ hK.1.1, w1, Option.bind_some]
    dsimp only [zps]
    rw [t163_12 _ _ _ _ _ _ w3.1.1, y1, Option.bind_some]
    dsimp only [zps]
    rw [t163_24 _ _ _ _ _ _ _ y3.1.1, if_pos (gX_0 y3)]
    exact z1
  have nu3 : nuE 3 = 3 := rfl
  rcases amt (X := X) (d := D) (s := 3) (i := 0) (r := cn 3) h hp (by omega) (by omega) with ⟨f, v, M1, w1, w2, w3, w4⟩ | ⟨M1, q1, w1, w2, w3, w4, w5⟩
  · obtain ⟨M2, x1, x2, x3⟩ := fx (v := v) w3
    rw [show pNmL t 3 (cn 3) (nuE 3) 0 p tb = _ from w4 2 tb]
    refine ⟨M2, fin (M1 := M) ?_ x3.1.1, nF_t (nF_p w2) x2, x3⟩
    rw [e1, w1, Option.bind_some]
    exact x1
  · rw [show pNmL t 3 (cn 3) (nuE 3) 0 p tb = _ from w5 2 tb]
    have hL := w3.1.2.1
    have hp1 : kA t p ≤ t.1 := by rw [← w4]; exact ken_b.2.1 w3.2.1
    have g1 := gQ_p w3 hp1
    have hn1 : ken isB t (kA t p) = kA t p := kA_n
    have hF1 : pF M (zp M1 (kA t p)) := pF_t w2 (pF_I (by omega))
    have e2 : zC X (D + 5) 163 [.ref 460] M = (zC X (D + 4) 161 [.ref 460, .int (Int32.ofNat 0), .int (Int32.ofNat 7)] (zp M1 (kA t p))).bind fun o => zR X (D + 5) 163 (24, [.ref 460, .int (Int32.ofNat (dvl t p)), .int (Int32.ofNat (kA t p)), zjk, zjk, zjk], zps o.1 [], o.2) := by
      rw [e1, w1, Option.bind_some]
      dsimp only [zps]
      rw [t163_7 _ _ _ _ _ _ _ w3.1.1, r145z w3.1.1 w3.1.2 w3.2.2.1 (by have := w3.2.1; omega), w4, Option.bind_some]
      dsimp only [zps]
      rw [t163_12 _ _ _ _ _ _ g1.1.1, g1.2.2.1]
      rfl
    obtain ⟨k1, k2, k3⟩ := r161 (X := X) (d := D) (lo := 0) (hi := 7) g1 hn1 (by omega) (by omega)
    -- a fault at the second number
    have f2 : ∀ {f : Nat} {v : Int32} {K : zM}, zC X (D + 4) 161 [.ref 460, .int (Int32.ofNat 0), .int (Int32.ofNat 7)] (zp M1 (kA t p)) = some (some (.int v), K) → pF (zp M1 (kA t p)) K → gX t f K → ∃ M', zC X (D + 6) 164 [.ref 460, .int (Int32.ofNat (krR 3))] M = some (none, M') ∧ nF M M' ∧ gX t f M' := by
      intro f v K u1 u2 u3
      obtain ⟨K3, z1, z2, z3⟩ := r163x (X := X) (D := D) (x1 := Int32.ofNat (dvl t p)) (x2 := Int32.ofNat (kA t p)) (x3 := v) u3
      refine ⟨K3, fin (M1 := M) ?_ z3.1.1, nF_t (nF_p (pF_t hF1 u2)) z2, z3⟩
      rw [e2, u1, Option.bind_some]
      dsimp only [zps]
      rw [t163_24 _ _ _ _ _ _ _ u3.1.1, if_pos (gX_0 u3)]
      exact z1
    have lo10 : loE (3 * 3 + (0 + 1)) = 0 := rfl
    have hi10 : hiE (3 * 3 + (0 + 1)) = 7 := rfl
    rw [show pNmL t 3 (cn 3) 2 (0 + 1) (kA t p) (upT tb (3 * 3 + 0) (cn 3) (dvl t p)) = _ from by rw [pNmL]]
    by_cases c1 : kk t (kA t p) = 258
    · rw [if_neg (not_not_intro c1), lo10, hi10]
      have u9 : upT tb (3 * 3 + 0) (cn 3) (dvl t p) 9 (cn 3) = dvl t p := upT_z rfl rfl
      rw [u9]
      by_cases c2 : 5 < ken isD t (kA t p) - kA t p ∨ dvl t (kA t p) < 0 ∨ 7 < dvl t (kA t p)
      · rw [if_pos (c2.elim Or.inl (fun g => g.elim (fun g => Or.inr (Or.inl g)) (fun g => Or.inr (Or.inr (Or.inl g)))))]
        obtain ⟨v, K, u1, u2, u3⟩ := k2 c1 c2
        exact f2 u1 u2 u3
      · obtain ⟨K, q2, u1, u2, u3, u4⟩ := k3 c1 c2
        have nc2 : ¬ 5 < ken isD t (kA t p) - kA t p ∧ ¬ 7 < dvl t (kA t p) := ⟨fun g => c2 (Or.inl g), fun g => c2 (Or.inr (Or.inr g))⟩
        by_cases c3 : dvl t (kA t p) = dvl t p
        · rw [if_pos (Or.inr (Or.inr (Or.inr ⟨rfl, c3⟩)))]
          have hf := gQ_f (w := 1) u3 hp1 (by omega)
          obtain ⟨K3, z1, z2, z3⟩ := r163x (X := X) (D := D) (x1 := Int32.ofNat (dvl t p)) (x2 := Int32.ofNat (kA t p)) (x3 := Int32.ofNat (dvl t (kA t p))) hf
          refine ⟨K3, fin (M1 := M) ?_ z3.1.1, nF_t (nF_p (pF_t (pF_t hF1 u2) (pF_I (k := 28) (by omega)))) z2, z3⟩
          rw [e2, u1, Option.bind_some]
          dsimp only [zps]
          rw [t163_24 _ _ _ _ _ _ _ u3.1.1, if_neg (not_not_intro u3.2.2.2), if_neg (not_not_intro (show Int32.ofNat (dvl t p) = Int32.ofNat (dvl t (kA t p)) by rw [c3])), show zC X (D + 4) 143 [.ref 460, .int 1, .int (Int32.ofNat (kA t p))] K = zC X (D + 4) 143 [.ref 460, .int (Int32.ofNat 1), .int (Int32.ofNat (kA t p))] K from rfl, r143 u3.1.1, gQ_f2 u3.2.2.2, Option.bind_some]
          dsimp only [zps]
          rw [t163_43 _ _ _ _ _ _ hf.1.1]
          exact z1
        · rw [if_neg (fun g => g.elim nc2.1 (fun g => g.elim (fun g => absurd g (Nat.not_lt_zero _)) (fun g => g.elim nc2.2 (fun g => c3 g.2))))]
          -- the days
          have va : dvl t p ≤ 7 ∧ dvl t (kA t p) ≤ 7 := by
            refine ⟨?_, by omega⟩
            have := pNmL_v 1 (t := t) (s := 3) (r := cn 3) (i := 0) (p := p) (tb := tb) (z := (kA t p, upT tb (3 * 3 + 0) (cn 3) (dvl t p))) (by rw [show pNmL t 3 (cn 3) 1 0 p tb = _ from w5 0 tb, pNmL])
            have := this.1 0 (Nat.le_refl _) (by omega)
            dsimp only at this
            rw [upT_s] at this
            exact this.2
          have e3 : zC X (D + 5) 163 [.ref 460] M = (zC X (D + 4) 161 [.ref 460, .int (Int32.ofNat (loE (3 * 3 + 2))), .int (Int32.ofNat (hiE (3 * 3 + 2)))] K).bind fun o => zR X (D + 5) 163 (50, [.ref 460, .int (Int32.ofNat (dvl t p)), .int (Int32.ofNat (kA t p)), .int (Int32.ofNat (dvl t (kA t p))), zjk, zjk], zps o.1 [], o.2) := by
            rw [e2, u1, Option.bind_some]
            dsimp only [zps]
            rw [t163_24 _ _ _ _ _ _ _ u3.1.1, if_neg (not_not_intro u3.2.2.2), if_pos (show ¬ Int32.ofNat (dvl t p) = Int32.ofNat (dvl t (kA t p)) by rw [of_inj (by omega) (by omega)]; omega)]
            rfl
          rcases amt (X := X) (d := D) (s := 3) (i := 2) (r := cn 3) u3 u4 (by omega) (by omega) with ⟨f, v, M4, x1, x2, x3, x4⟩ | ⟨M4, q4, x1, x2, x3, x4, x5⟩
          · rw [show pNmL t 3 (cn 3) 1 (0 + 1 + 1) (kA t (kA t p)) _ = _ from x4 0 _]
            have hn := gX_0 x3
            refine ⟨zsI M4 475 5 (M4.1 475 5 + 1), fin (M1 := M) ?_ x3.1.1, nF_t (nF_p (pF_t (pF_t hF1 u2) x2)) (nF_I (by omega)), gX_I x3 (by omega)⟩
            rw [e3, x1, Option.bind_some]
            dsimp only [zps]
            rw [t163_50 _ _ _ _ _ _ _ x3.1.1 (fun g => absurd hn g) (fun g => absurd hn g) (fun g => absurd hn g), if_pos hn]
          · rw [show pNmL t 3 (cn 3) 1 (0 + 1 + 1) (kA t (kA t p)) _ = _ from x5 0 _, pNmL]
            have vd : dvl t (kA t (kA t p)) ≤ 30 := by
              have := pNmL_v 1 (t := t) (s := 3) (r := cn 3) (i := 2) (p := kA t (kA t p)) (tb := tb) (z := (kA t (kA t (kA t p)), upT tb (3 * 3 + 2) (cn 3) (dvl t (kA t (kA t p))))) (by rw [show pNmL t 3 (cn 3) 1 2 (kA t (kA t p)) tb = _ from x5 0 tb, pNmL])
              have := this.1 2 (Nat.le_refl _) (by omega)
              dsimp only at this
              rw [upT_s] at this
              exact this.2
            generalize hva : dvl t p = a at *
            generalize hvb : dvl t (kA t p) = b at *
            generalize hvd : dvl t (kA t (kA t p)) = dd at *
            have o4 : ∀ c, c ≠ 460 → M4.1 c = M.1 c := fun c hc => by rw [x2.2.1 c hc, u2.2.1 c hc, hF1.2.1 c hc]
            have hw : M4.1 484 (8 * a + b) = Int32.ofNat (rwQ tb a b (cn 3)) := by rw [o4 484 (by omega)]; exact h4 a b (by omega) (by omega)
            have hwl := rwQ_le hV (a := a) (b := b) (Nat.le_refl (cn 3))
            let w : Nat := if dd ≤ rwQ tb a b (cn 3) then dd else rwQ tb a b (cn 3)
            have h50 : zR X (D + 5) 163 (50, [.ref 460, .int (Int32.ofNat a), .int (Int32.ofNat (kA t p)), .int (Int32.ofNat b), zjk, zjk], [.int (Int32.ofNat dd)], M4) = some (none, zsI (zsI (zsI M4 484 (8 * a + b) (Int32.ofNat w)) 484 (8 * b + a) (Int32.ofNat w)) 475 5 (M4.1 475 5 + 1)) := by
              have ta : (8 : Int32) * Int32.ofNat a + Int32.ofNat b = Int32.ofNat (8 * a + b) := of_8 a b
              have tb2 : (8 : Int32) * Int32.ofNat b + Int32.ofNat a = Int32.ofNat (8 * b + a) := of_8 b a
              rw [t163_50 _ _ _ _ _ _ _ x3.1.1 (fun _ => by rw [ta]; exact vp_of (by omega) (by omega)) (fun _ _ => by rw [tb2]; exact vp_of (by omega) (by omega)) (fun _ _ => by rw [tb2]; exact vp_of (by omega) (by omega)), if_neg (not_not_intro x3.2.2.2), ta, tb2, toNat_of (by omega), toNat_of (by omega), hw, fi_le (by omega) (by omega)]
              show (if dd ≤ rwQ tb a b (cn 3) then _ else _) = some (none, zsI (zsI (zsI M4 484 (8 * a + b) (Int32.ofNat (if dd ≤ rwQ tb a b (cn 3) then dd else rwQ tb a b (cn 3)))) 484 (8 * b + a) (Int32.ofNat (if dd ≤ rwQ tb a b (cn 3) then dd else rwQ tb a b (cn 3)))) 475 5 (M4.1 475 5 + 1))
              by_cases cw : dd ≤ rwQ tb a b (cn 3)
              · rw [if_pos cw, if_pos cw]
              · rw [if_neg cw, if_neg cw]
            refine ⟨_, q4, fin (M1 := M) (M' := zsI (zsI (zsI M4 484 (8 * a + b) (Int32.ofNat w)) 484 (8 * b + a) (Int32.ofNat w)) 475 5 (M4.1 475 5 + 1)) ?_ x3.1.1, nF_t (nF_p (pF_t (pF_t hF1 u2) x2)) (nF_t (nF_I (by omega)) (nF_t (nF_I (by omega)) (nF_I (by omega)))), gQ_I (gQ_I (gQ_I x3 (by omega)) (by omega)) (by omega), x4, ?_, fun h0 => ?_, fun s' i r hs' hi hr => ?_, fun x y hx hy => ?_⟩
            · rw [e3, x1, Option.bind_some]
              exact h50
            · intro s' q1 q2
              show (zsI _ 475 5 _).1 475 (ciR s') = Int32.ofNat (if s' = 3 then cn 3 + 1 else cn s')
              have ci : ∀ s', s' < 5 → 1 ≤ s' → (ciR s' = 5 ↔ s' = 3) := by decide
              have cc := ci s' q2 q1
              rw [zI_s, zI_n (by omega), zI_n (by omega)]
              by_cases e : s' = 3
              · rw [if_pos (cc.mpr e), if_pos e, o4 475 (by omega), hb5, of_succ]
              · rw [if_neg (mt cc.mp e), if_neg e, o4 475 (by omega)]; exact h1 s' q1 q2
            · have h0 : 0 < (if 0 = 3 then cn 3 + 1 else cn 0) := h0
              rw [if_neg (by omega)] at h0
              obtain ⟨y1, y2⟩ := h2 h0
              try dsimp only
              rw [zI_s, if_neg (by omega), zI_n (by omega), zI_n (by omega), zI_s, if_neg (by omega), zI_n (by omega), zI_n (by omega), o4 475 (by omega), upT_n (by omega), upT_n (by omega), upT_n (by omega), upT_n (by omega), upT_n (by omega), upT_n (by omega)]
              exact ⟨y1, y2⟩
            · have hr : r < (if s' = 3 then cn 3 + 1 else cn s') := hr
              rw [if_neg (by omega)] at hr
              have co4 : ∀ s, s < 5 → ∀ i, i < 3 → (s = 1 ∨ s = 2 ∨ s = 4) → i < nuE s → 476 ≤ coR (3 * s + i) ∧ coR (3 * s + i) ≤ 483 := by decide
              have n3 := nuE_3 s' (by omega)
              have := co4 s' (by omega) i (by omega) hs' hi
              try dsimp only
              rw [zI_n (by omega), zI_n (by omega), zI_n (by omega), o4 _ (by omega), upT_n (by omega), upT_n (by omega), upT_n (by omega)]
              exact h3 s' i r hs' hi hr
            · show (zsI _ 475 5 _).1 484 (8 * x + y) = Int32.ofNat (rwQ (upT (upT (upT tb (3 * 3 + 0) (cn 3) a) (3 * 3 + (0 + 1)) (cn 3) b) (3 * 3 + 2) (cn 3) dd) x y (cn 3 + 1))
              rw [rwQ, rwQ_c (tb := tb) (cn 3) (fun i hi => ⟨by rw [upT_n (by omega), upT_n (by omega), upT_n (by omega)], by rw [upT_n (by omega), upT_n (by omega), upT_n (by omega)], by rw [upT_n (by omega), upT_n (by omega), upT_n (by omega)]⟩), upT_n (show ¬ (9 = 3 * 3 + 2 ∧ cn 3 = cn 3) by omega), upT_n (show ¬ (9 = 3 * 3 + (0 + 1) ∧ cn 3 = cn 3) by omega), upT_z (show 9 = 3 * 3 + 0 from rfl) rfl, upT_n (show ¬ (10 = 3 * 3 + 2 ∧ cn 3 = cn 3) by omega), upT_z (show 10 = 3 * 3 + (0 + 1) from rfl) rfl, upT_z (show 11 = 3 * 3 + 2 from rfl) rfl, zI_n (by omega), zI_s, zI_s]
              have sy := rwQ_sym (tb := tb) (a := x) (b := y) (cn 3)
              by_cases m1 : 8 * x + y = 8 * b + a
              · have ex : x = b ∧ y = a := by omega
                rw [if_pos m1, ex.1, ex.2]
                show Int32.ofNat (if dd ≤ rwQ tb a b (cn 3) then dd else rwQ tb a b (cn 3)) = _
                rw [rwQ_sym (tb := tb) (a := b) (b := a) (cn 3)]
                congr 1
                split <;> split <;> omega
              · rw [if_neg m1]
                by_cases m2 : 8 * x + y = 8 * a + b
                · have ex : x = a ∧ y = b := by omega
                  rw [if_pos m2, ex.1, ex.2]
                  show Int32.ofNat (if dd ≤ rwQ tb a b (cn 3) then dd else rwQ tb a b (cn 3)) = _
                  congr 1
                  split <;> split <;> omega
                · rw [if_neg m2, if_neg (fun g => g.1.elim (fun g => m2 (by omega)) (fun g => m1 (by omega))), o4 484 (by omega)]
                  exact h4 x y hx hy
    · rw [if_pos c1]
      obtain ⟨v, K, u1, u2, u3⟩ := k1 c1
      exact f2 u1 u2 u3
