/-! ===== the reference reads an empire's text ===== -/
theorem r164 {X : (Nat → Int32) × Nat} {D q0 p s : Nat} {t : zTx} {cn : Nat → Nat} {tb : zTb} {M : zM} (h : gQ t q0 M) (hp : ken isB t q0 = p) (hE : rE cn tb M) (hV : eV cn tb) (hs : s < 5) (hcs : cn s < moE s) : r164R X D t cn s M (pNmL t s (cn s) (nuE s) 0 p tb) := by
  rcases (show s = 0 ∨ s = 1 ∨ s = 2 ∨ s = 3 ∨ s = 4 by omega) with rfl | rfl | rfl | rfl | rfl
  · exact r164_0 h hp hE hcs
  · exact r164_1 h hp hE hcs
  · exact r164_2 h hp hE hcs
  · exact r164_3 h hp hE hV hcs
  · exact r164_4 h hp hE hcs
def skR (k : Nat) : Nat := ([0, 1, 4, 2, 3] : List Nat).getD k 0
theorem skR_f : ∀ k, k < 5 → jw (k + 1) = skR k ∧ skR k < 5 ∧ krR (skR k) = k ∧ (skR k = 0 ↔ k = 0) := by decide
theorem krR_f : ∀ s, s < 5 → krR s < 5 ∧ skR (krR s) = s := by decide
theorem r162 {X : (Nat → Int32) × Nat} {d k : Nat} {M : zM} (hG : zGE M) (hk : k < 5) : zC X d 162 [.int (Int32.ofNat k)] M = some (some (.retAddr (k + 1)), M) := by
  show zR X d 162 (0, [.int (Int32.ofNat k)], [], M) = _
  rw [t162_0 _ _ hG]
  rcases (show k = 0 ∨ k = 1 ∨ k = 2 ∨ k = 3 ∨ k = 4 by omega) with rfl | rfl | rfl | rfl | rfl
  · rw [show zsw 1 46 0 3 #[31, 35, 39, 42] (Int32.ofNat 0) = 32 from rfl, t162_32 _ _ hG]
  · rw [show zsw 1 46 0 3 #[31, 35, 39, 42] (Int32.ofNat 1) = 36 from rfl, t162_36 _ _ hG]
  · rw [show zsw 1 46 0 3 #[31, 35, 39, 42] (Int32.ofNat 2) = 40 from rfl, t162_40 _ _ hG]
  · rw [show zsw 1 46 0 3 #[31, 35, 39, 42] (Int32.ofNat 3) = 43 from rfl, t162_43 _ _ hG]
  · rw [show zsw 1 46 0 3 #[31, 35, 39, 42] (Int32.ofNat 4) = 47 from rfl, t162_47 _ _ hG]
/-- too many -/
theorem r165 {X : (Nat → Int32) × Nat} {d k n : Nat} {cn : Nat → Nat} {tb : zTb} {M : zM} (hG : zGE M) (hE : rE cn tb M) (hV : eV cn tb) (hk : k < 5) (hn : n ≤ 40) (hn0 : n = 0 → cn 0 = 0) : zC X d 165 [.ref 460, .int (Int32.ofNat k), .int (Int32.ofNat n)] M = some (some (.int (if 40 ≤ n ∨ ¬ (skR k = 0 ↔ n = 0) ∨ moE (skR k) ≤ cn (skR k) then 1 else 0)), M) := by
  obtain ⟨h1, -⟩ := hE
  obtain ⟨c0, c1, c2, c3, c4⟩ := eV_c hV
  obtain ⟨-, -, -, s4⟩ := skR_f k hk
  have e40 : (Int32.ofNat n = 40) ↔ n = 40 := of_inj (k := 40) (by omega) (by omega)
  have en : (Int32.ofNat n = 0) ↔ n = 0 := of_inj (k := 0) (by omega) (by omega)
  have ek : (Int32.ofNat k = 0) ↔ k = 0 := of_inj (k := 0) (by omega) (by omega)
  show zR X d 165 (0, [.ref 460, .int (Int32.ofNat k), .int (Int32.ofNat n)], [], M) = _
  rw [t165_0 _ _ _ hG]
  by_cases k1 : n = 40
  · rw [if_pos (e40.mpr k1), if_pos (Or.inl (by omega))]
  · rw [if_neg (mt e40.mp k1)]
    by_cases k2 : (skR k = 0 ↔ n = 0)
    · have sw : (if ¬ Int32.ofNat k = 0 then if ¬ Int32.ofNat n = 0 then zR X d 165 (zsw 30 96 1 4 #[30, 47, 63, 79] (Int32.ofNat k), [.ref 460, .int (Int32.ofNat k), .int (Int32.ofNat n)], [], M) else some (some (.int 1), M) else if ¬ Int32.ofNat n = 0 then some (some (.int 1), M) else zR X d 165 (zsw 30 96 1 4 #[30, 47, 63, 79] (Int32.ofNat k), [.ref 460, .int (Int32.ofNat k), .int (Int32.ofNat n)], [], M)) = zR X d 165 (zsw 30 96 1 4 #[30, 47, 63, 79] (Int32.ofNat k), [.ref 460, .int (Int32.ofNat k), .int (Int32.ofNat n)], [], M) := by
        by_cases k0 : k = 0
        · rw [if_neg (not_not_intro (ek.mpr k0)), if_neg (not_not_intro (en.mpr (k2.mp (s4.mpr k0))))]
        · rw [if_pos (mt ek.mp k0), if_pos (mt en.mp (fun g => k0 (s4.mp (k2.mpr g))))]
      rw [sw]
      have b2 : M.1 475 2 = Int32.ofNat (cn 1) := h1 1 (by omega) (by omega)
      have b3 : M.1 475 3 = Int32.ofNat (cn 4) := h1 4 (by omega) (by omega)
      have b4 : M.1 475 4 = Int32.ofNat (cn 2) := h1 2 (by omega) (by omega)
      have b5 : M.1 475 5 = Int32.ofNat (cn 3) := h1 3 (by omega) (by omega)
      rcases (show k = 0 ∨ k = 1 ∨ k = 2 ∨ k = 3 ∨ k = 4 by omega) with rfl | rfl | rfl | rfl | rfl
      · have := hn0 (k2.mp rfl)
        rw [show zsw 30 96 1 4 #[30, 47, 63, 79] (Int32.ofNat 0) = 126 from rfl, t165_126 _ _ _ hG, if_neg (fun g => g.elim (by omega) (fun g => g.elim (fun g => g k2) (fun g => by have g : 1 ≤ cn 0 := g; omega)))]
      · have e : (M.1 475 2 = 6) ↔ cn 1 = 6 := by rw [b2]; exact of_inj (k := 6) (by omega) (by omega)
        rw [show zsw 30 96 1 4 #[30, 47, 63, 79] (Int32.ofNat 1) = 60 from rfl, t165_60 _ _ _ hG]
        by_cases c : cn 1 = 6
        · rw [if_neg (not_not_intro (e.mpr c)), if_pos (Or.inr (Or.inr (by show 6 ≤ cn 1; omega)))]
        · rw [if_pos (mt e.mp c), if_neg (fun g => g.elim (by omega) (fun g => g.elim (fun g => g k2) (fun g => by have g : 6 ≤ cn 1 := g; omega)))]
      · have e : (M.1 475 3 = 4) ↔ cn 4 = 4 := by rw [b3]; exact of_inj (k := 4) (by omega) (by omega)
        rw [show zsw 30 96 1 4 #[30, 47, 63, 79] (Int32.ofNat 2) = 77 from rfl, t165_77 _ _ _ hG]
        by_cases c : cn 4 = 4
        · rw [if_neg (not_not_intro (e.mpr c)), if_pos (Or.inr (Or.inr (by show 4 ≤ cn 4; omega)))]
        · rw [if_pos (mt e.mp c), if_neg (fun g => g.elim (by omega) (fun g => g.elim (fun g => g k2) (fun g => by have g : 4 ≤ cn 4 := g; omega)))]
      · have e : (M.1 475 4 = 4) ↔ cn 2 = 4 := by rw [b4]; exact of_inj (k := 4) (by omega) (by omega)
        rw [show zsw 30 96 1 4 #[30, 47, 63, 79] (Int32.ofNat 3) = 93 from rfl, t165_93 _ _ _ hG]
        by_cases c : cn 2 = 4
        · rw [if_neg (not_not_intro (e.mpr c)), if_pos (Or.inr (Or.inr (by show 4 ≤ cn 2; omega)))]
        · rw [if_pos (mt e.mp c), if_neg (fun g => g.elim (by omega) (fun g => g.elim (fun g => g k2) (fun g => by have g : 4 ≤ cn 2 := g; omega)))]
      · have e : (M.1 475 5 = 8) ↔ cn 3 = 8 := by rw [b5]; exact of_inj (k := 8) (by omega) (by omega)
        rw [show zsw 30 96 1 4 #[30, 47, 63, 79] (Int32.ofNat 4) = 109 from rfl, t165_109 _ _ _ hG]
        by_cases c : cn 3 = 8
        · rw [if_neg (not_not_intro (e.mpr c)), if_pos (Or.inr (Or.inr (by show 8 ≤ cn 3; omega)))]
        · rw [if_pos (mt e.mp c), if_neg (fun g => g.elim (by omega) (fun g => g.elim (fun g => g k2) (fun g => by have g : 8 ≤ cn 3 := g; omega)))]
    · rw [if_pos (Or.inr (Or.inl k2))]
      by_cases k0 : k = 0
      · rw [if_neg (not_not_intro (ek.mpr k0)), if_pos (mt en.mp (fun g => k2 ⟨fun _ => g, fun _ => s4.mpr k0⟩))]
      · rw [if_pos (mt ek.mp k0), if_neg (not_not_intro (en.mpr (Decidable.byContradiction fun g => k2 ⟨fun g2 => absurd (s4.mp g2) k0, fun g2 => absurd g2 g⟩)))]
theorem rE_p {cn : Nat → Nat} {tb : zTb} {M M' : zM} (h : rE cn tb M) (hF : pF M M') : rE cn tb M' := by
  obtain ⟨h1, h2, h3, h4⟩ := h
  have o : ∀ a, a ≠ 460 → M'.1 a = M.1 a := hF.2.1
  have co4 : ∀ s, s < 5 → ∀ i, i < 3 → (s = 1 ∨ s = 2 ∨ s = 4) → i < nuE s → 476 ≤ coR (3 * s + i) ∧ coR (3 * s + i) ≤ 483 := by decide
  exact ⟨fun s q1 q2 => by rw [o 475 (by omega)]; exact h1 s q1 q2, fun h0 => by rw [o 475 (by omega)]; exact h2 h0, fun s i r hs hi hr => by have := co4 s (by omega) i (by have := nuE_3 s (by omega); omega) hs hi; rw [o _ (by omega)]; exact h3 s i r hs hi hr, fun a b ha hb => by rw [o 484 (by omega)]; exact h4 a b ha hb⟩
def r166R (X : (Nat → Int32) × Nat) (D n : Nat) (t : zTx) (M : zM) (r : Nat ⊕ (Nat × (Nat → Nat) × zTb)) : Prop := match r with
  | .inl f => ∃ M', zC X (D + 7) 166 [.ref 460, .int (Int32.ofNat n)] M = some (none, M') ∧ nF M M' ∧ gX t f M'
  | .inr z => ∃ M' q, zC X (D + 7) 166 [.ref 460, .int (Int32.ofNat n)] M = some (none, M') ∧ nF M M' ∧ gQ t q M' ∧ ken isB t q = z.1 ∧ rE z.2.1 z.2.2 M'
theorem r166 {X : (Nat → Int32) × Nat} {D q0 p n : Nat} {t : zTx} {cn : Nat → Nat} {tb : zTb} {M : zM} (h : gQ t q0 M) (hp : ken isB t q0 = p) (hE : rE cn tb M) (hV : eV cn tb) (hn : n ≤ 40) (hn0 : n = 0 → cn 0 = 0) : r166R X D n t M (pECl t n p cn tb) := by
  have hL := h.1.2.1
  have hpt : p ≤ t.1 := by rw [← hp]; exact ken_b.2.1 h.2.1
  have h1 := gQ_p h hpt
  have hF1 : pF M (zp M p) := pF_I (by omega)
  have hE1 := rE_p hE hF1
  have hG := h1.1.1
  have hu : zC X (D + 7) 166 [.ref 460, .int (Int32.ofNat n)] M = zR X (D + 7) 166 (11, [.ref 460, .int (Int32.ofNat n), .int (Int32.ofNat p), .int (Int32.ofNat 0)], [], zp M p) := by
    show zR X (D + 7) 166 (0, [.ref 460, .int (Int32.ofNat n), zjk, zjk], [], M) = _
    rw [t166_0 _ _ _ _ h.1.1, r145z h.1.1 h.1.2 h.2.2.1 (by have := h.2.1; omega), hp, Option.bind_some]
    dsimp only [zps]
    rw [t166_4 _ _ _ _ hG, h1.2.2.1]
    rfl
  -- the words
  have loop : ∀ m k, k + m = 5 → (∀ j, j < k → ¬ kw t p = skR j) → zR X (D + 7) 166 (11, [.ref 460, .int (Int32.ofNat n), .int (Int32.ofNat p), .int (Int32.ofNat k)], [], zp M p) = if kw t p < 5 then (zC X (D + 6) 165 [.ref 460, .int (Int32.ofNat (krR (kw t p))), .int (Int32.ofNat n)] (zp M p)).bind fun o => zR X (D + 7) 166 (51, [.ref 460, .int (Int32.ofNat n), .int (Int32.ofNat p), .int (Int32.ofNat (krR (kw t p)))], zps o.1 [], o.2) else some (none, fM 0 p (zp M p)) := by
    intro m
    induction m with
    | zero =>
      intro k hk hno
      have ek : k = 5 := by omega
      subst ek
      have hkw : ¬ kw t p < 5 := fun g => by
        obtain ⟨g1, g2⟩ := krR_f (kw t p) g
        exact hno _ g1 g2.symm
      rw [t166_11 _ _ _ _ hG, if_pos (by decide), if_neg (show ¬ ¬ Int32.ofNat 5 = 5 by decide), if_neg hkw, show (0 : Int32) = Int32.ofNat 0 from rfl, r143 hG, Option.bind_some]
      dsimp only [zps]
      rw [t166_44 _ _ _ _ (fM_G hG)]
    | succ m ih =>
      intro k hk hno
      obtain ⟨j1, j2, j3, j4⟩ := skR_f k (by omega)
      have hle : ¬ (5 : Int32) ≤ Int32.ofNat k := by rw [show (5 : Int32) = Int32.ofNat 5 from rfl, of_le (by omega) (by omega)]; omega
      rw [t166_11 _ _ _ _ hG, if_neg hle, r162 hG (by omega), Option.bind_some]
      dsimp only [zps]
      rw [t166_21 _ _ _ _ _ hG, r147 hG h1.1.2 h1.2.2.1 (by omega) (show k + 1 < 21 by omega) (by omega), j1, Option.bind_some]
      dsimp only [zps]
      rw [t166_24 _ _ _ _ _ hG]
      by_cases c2 : kw t p = skR k
      · have hki := (kw_is (t := t) (p := p) (i := skR k) (by omega)).mpr c2
        have hne : ¬ Int32.ofNat k = 5 := by rw [show (5 : Int32) = Int32.ofNat 5 from rfl, of_inj (by omega) (by omega)]; omega
        rw [hki, cond_true, if_pos (show ¬ (1 : Int32) = 0 by decide), if_pos hne, if_pos (show kw t p < 5 by omega), c2, j3]
        rfl
      · have hki : kis t p (skR k) = false := by
          cases hc : kis t p (skR k) with
          | true => exact absurd ((kw_is (by omega)).mp hc) c2
          | false => rfl
        rw [hki, cond_false, if_neg (show ¬ ¬ (0 : Int32) = 0 by decide), of_succ]
        exact ih (k + 1) (by omega) (fun j hj => by
          by_cases e : j = k
          · rw [e]; exact c2
          · exact hno j (by omega))
  have hl := loop 5 0 rfl (fun j hj => absurd hj (Nat.not_lt_zero j))
  unfold pECl
  by_cases c1 : kw t p < 5
  · obtain ⟨w1, w2, w3⟩ := kw_257 (t := t) (p := p) (by omega)
    have w4 := (kX_b w1).2
    rw [if_neg (not_not_intro ⟨w2, c1⟩)]
    rw [if_pos c1] at hl
    generalize hs : kw t p = s at hl c1 w3
    obtain ⟨g1, g2⟩ := krR_f s c1
    obtain ⟨j1, j2, j3, j4⟩ := skR_f (krR s) g1
    rw [g2] at j1 j2
    have h165 := r165 (X := X) (d := D + 6) (n := n) hG hE1 hV g1 hn hn0
    rw [g2] at h165
    rw [h165, Option.bind_some] at hl
    dsimp only [zps] at hl
    by_cases c2 : 40 ≤ n ∨ ¬ (s = 0 ↔ n = 0) ∨ moE s ≤ cn s
    · rw [if_pos c2]
      have hf := gQ_f (w := 4) h1 hpt (by omega)
      rw [if_pos c2, t166_51 _ _ _ _ _ hG, if_neg (by decide), show (4 : Int32) = Int32.ofNat 4 from rfl, r143 hG, gQ_f2 h1.2.2.2, Option.bind_some] at hl
      dsimp only [zps] at hl
      rw [t166_60 _ _ _ _ hf.1.1] at hl
      exact ⟨_, hu.trans hl, nF_p (pF_t hF1 (pF_I (by omega))), hf⟩
    · rw [if_neg c2]
      rw [if_neg c2, t166_51 _ _ _ _ _ hG, if_pos rfl, r162 hG g1, Option.bind_some] at hl
      dsimp only [zps] at hl
      obtain ⟨z1, z2, z3, z4, -⟩ := jw_f (krR s + 1) (by omega) (by omega)
      have h2 := gQ_p (q' := p + (kwd s).length) h1 (by omega)
      have hF2 : pF M (zp (zp M p) (p + (kwd s).length)) := pF_t hF1 (pF_I (by omega))
      rw [t166_70 _ _ _ _ _ _ hG (by omega), j242 hG (by omega), z2, j1, Option.bind_some] at hl
      dsimp only [zps] at hl
      rw [t166_73 _ _ _ _ _ _ hG, h1.2.2.1, ← Int32.ofNat_add] at hl
      have hv := r164 (X := X) (D := D) (s := s) h2 (show ken isB t (p + (kwd s).length) = kA t p by unfold kA; rw [w3]) (rE_p hE hF2) hV c1 (by omega)
      cases hpv : pNmL t s (cn s) (nuE s) 0 (kA t p) tb with
      | inl f =>
        rw [hpv] at hv
        obtain ⟨M3, y1, y2, y3⟩ := hv
        rw [y1, Option.bind_some] at hl
        dsimp only [zps] at hl
        rw [t166_82 _ _ _ _ y3.1.1] at hl
        exact ⟨M3, hu.trans hl, nF_t (nF_p hF2) y2, y3⟩
      | inr z =>
        rw [hpv] at hv
        obtain ⟨M3, q, y1, y2, y3, y4, y5⟩ := hv
        rw [y1, Option.bind_some] at hl
        dsimp only [zps] at hl
        rw [t166_82 _ _ _ _ y3.1.1] at hl
        exact ⟨M3, q, hu.trans hl, nF_t (nF_p hF2) y2, y3, y4, y5⟩
  · rw [if_pos (fun g => c1 g.2)]
    rw [if_neg c1, gQ_f2 h1.2.2.2] at hl
    exact ⟨_, hu.trans hl, nF_p (pF_t hF1 (pF_I (by omega))), gQ_f (w := 0) h1 hpt (by omega)⟩
theorem r168g {X : (Nat → Int32) × Nat} {d p q : Nat} {t : zTx} {M : zM} (h : gQ t q M) (hn : ken isB t q = p) : zC X (d + 2) 168 [.ref 460] M = (if kk t p = 59 then some (some (.int 1), zp M (p + 1)) else if kk t p = 256 then some (some (.int 0), zp M (p + 1)) else some (some (.int 0), zp (zsI M 460 28 (Int32.ofNat (1 + 8 * p + 0))) (p + 1))) := by
  have hL := h.1.2.1
  have hb : ∀ k, k < t.1 → t.2 k < 256 := fun k hk => (h.1.2.2.2 k hk).1
  have hpl : p ≤ t.1 := by rw [← hn]; exact ken_b.2.1 h.2.1
  have h1 := gQ_p h hpl
  have hG := h1.1.1
  have k59 := kk_b (t := t) (p := p) (x := 59) hb (by omega) (by omega) (by omega) (by omega) (by omega)
  have q59 : (sgR t p = 59) ↔ kk t p = 59 := (sgR_k (x := 59) hb (by omega)).trans k59.1.symm
  have hle : ((zp M p).1 460 26 ≤ (zp M p).1 460 27) ↔ t.1 ≤ p := by rw [h1.1.2.2.1, h1.2.2.1]; exact of_le (by omega) (by omega)
  have k256 := kk_256 (p := p) hb
  have h144 := r144 (X := X) (d := d + 1) hG h1.1.2 h1.2.2.1 (by omega)
  have z1 : zsI (zp M p) 460 27 (Int32.ofNat (p + 1)) = zp M (p + 1) := zI_zI
  show zR X (d + 2) 168 (0, [.ref 460, zjk], [], M) = _
  rw [t168_0 _ _ h.1.1, r145z h.1.1 h.1.2 h.2.2.1 (by have := h.2.1; omega), hn, Option.bind_some]
  dsimp only [zps]
  rw [t168_4 _ _ hG, if_neg (not_not_intro h1.2.2.2)]
  by_cases c2 : t.1 ≤ p
  · rw [if_pos (hle.mpr c2), if_neg (show ¬ kk t p = 59 by rw [k256.mpr c2]; omega), if_pos (k256.mpr c2), h1.2.2.1, of_succ, z1]
  · rw [if_neg (mt hle.mp c2), h144, Option.bind_some]
    dsimp only [zps]
    rw [t168_26 _ _ _ hG]
    by_cases c1 : kk t p = 59
    · rw [if_pos (q59.mpr c1), if_neg (not_not_intro h1.2.2.2), if_neg (mt hle.mp c2), if_pos c1, h1.2.2.1, of_succ, z1]
    · have hf := gQ_f (w := 0) h1 hpl (by omega)
      have z2 : zsI (zsI (zp M p) 460 28 (Int32.ofNat (1 + 8 * p + 0))) 460 27 (Int32.ofNat (p + 1)) = zp (zsI M 460 28 (Int32.ofNat (1 + 8 * p + 0))) (p + 1) := by
        have : (zsI (zsI (zp M p) 460 28 (Int32.ofNat (1 + 8 * p + 0))) 460 27 (Int32.ofNat (p + 1))).1 = (zp (zsI M 460 28 (Int32.ofNat (1 + 8 * p + 0))) (p + 1)).1 := by
          funext b j
          by_cases e : b = 460
          · rw [e, zI_s, zI_s, zI_s, zI_s, zI_s]
            by_cases e2 : j = 27
            · rw [if_pos e2, if_pos e2]
            · rw [if_neg e2, if_neg e2, if_neg e2]
          · rw [zI_n e, zI_n e, zI_n e, zI_n e, zI_n e]
        exact Prod.ext this rfl
      rw [if_neg (mt q59.mp c1), if_neg c1, if_neg (mt k256.mp c2), h1.2.2.1, show (0 : Int32) = Int32.ofNat 0 from rfl, r143 hG, gQ_f2 h1.2.2.2, Option.bind_some]
      dsimp only [zps]
      rw [t168_40 _ _ hf.1.1, if_pos (gX_0 hf), zI_s, if_neg (by omega), h1.2.2.1, of_succ, z2]
      rfl
theorem r168h {X : (Nat → Int32) × Nat} {d f : Nat} {t : zTx} {M : zM} (h : gX t f M) : ∃ q, zC X (d + 2) 168 [.ref 460] M = some (some (.int 0), zp M q) := by
  obtain ⟨hB, h28, f1, f2, q, hq, h27⟩ := id h
  have hL := hB.2.1
  have hX : zGE (zp M (ken isB t q)) := hB.1
  have hx0 : ¬ (zp M (ken isB t q)).1 460 28 = 0 := by rw [zI_s, if_neg (by omega)]; exact gX_0 h
  refine ⟨ken isB t q + 1, ?_⟩
  show zR X (d + 2) 168 (0, [.ref 460, zjk], [], M) = _
  rw [t168_0 _ _ hB.1, r145z hB.1 hB.2 h27 (by omega), Option.bind_some]
  dsimp only [zps]
  rw [t168_4 _ _ hX, if_pos hx0, zI_s, if_pos rfl, of_succ, zp, zI_zI]
def r170R (X : (Nat → Int32) × Nat) (D n : Nat) (M : zM) (r : Nat ⊕ ((Nat → Nat) × zTb)) : Prop := match r with
  | .inl f => ∃ M', zR X (D + 8) 170 (52, [.ref 460, .int (Int32.ofNat n), .int 1], [], M) = some (none, zsI M' 460 26 0) ∧ nF M M' ∧ M'.1 460 28 = Int32.ofNat f
  | .inr z => ∃ M', zR X (D + 8) 170 (52, [.ref 460, .int (Int32.ofNat n), .int 1], [], M) = some (none, zsI M' 460 26 0) ∧ nF M M' ∧ M'.1 460 28 = 0 ∧ rE z.1 z.2 M'
theorem r170l {X : (Nat → Int32) × Nat} {D : Nat} {t : zTx} : ∀ m {n q0 p : Nat} {cn : Nat → Nat} {tb : zTb} {M : zM}, n + m = 40 → gQ t q0 M → ken isB t q0 = p → rE cn tb M → eV cn tb → (n = 0 → cn 0 = 0) → r170R X D n M (pEmp t m n p cn tb) := by
  intro m
  induction m using Nat.strongRecOn with
  | _ m ih =>
    intro n q0 p cn tb M hn h hp hE hV hn0
    have hv := r166 (X := X) (D := D) (n := n) h hp hE hV (by omega) hn0
    have hu : zR X (D + 8) 170 (52, [.ref 460, .int (Int32.ofNat n), .int 1], [], M) = (zC X (D + 7) 166 [.ref 460, .int (Int32.ofNat n)] M).bind fun o => zR X (D + 8) 170 (61, [.ref 460, .int (Int32.ofNat n), .int 1], zps o.1 [], o.2) := by
      rw [t170_52 _ _ _ h.1.1, if_neg (by decide)]
    cases hpv : pECl t n p cn tb with
    | inl f =>
      have e : pEmp t m n p cn tb = .inl f := by
        cases m with
        | zero => rw [pEmp, hpv]
        | succ m => rw [pEmp, hpv]
      rw [e]
      rw [hpv] at hv
      obtain ⟨M2, w1, w2, w3⟩ := hv
      obtain ⟨q, y1⟩ := r168h (X := X) (d := D + 5) w3
      have hG3 : zGE (zp M2 q) := w3.1.1
      refine ⟨zp M2 q, ?_, nF_t w2 (nF_p (pF_I (by omega))), by rw [zI_s, if_neg (by omega)]; exact w3.2.1⟩
      rw [hu, w1, Option.bind_some]
      dsimp only [zps]
      rw [t170_61 _ _ _ w3.1.1, y1, Option.bind_some]
      dsimp only [zps]
      rw [t170_68 _ _ _ _ hG3, t170_52 _ _ _ hG3, if_pos rfl]
    | inr s =>
      rw [hpv] at hv
      obtain ⟨M2, q, w1, w2, w3, w4, w5⟩ := hv
      obtain ⟨g1, g2, g3, g4⟩ := pECl_v hV hpv
      obtain ⟨m', rfl⟩ : ∃ m', m = m' + 1 := ⟨m - 1, by omega⟩
      have hb : ∀ k, k < t.1 → t.2 k < 256 := fun k hk => (h.1.2.2.2 k hk).1
      have hpl : s.1 ≤ t.1 := by rw [← w4]; exact ken_b.2.1 w3.2.1
      have h168 := r168g (X := X) (d := D + 5) w3 w4
      have k59 := kk_b (t := t) (p := s.1) (x := 59) hb (by omega) (by omega) (by omega) (by omega) (by omega)
      have e1 : zR X (D + 8) 170 (52, [.ref 460, .int (Int32.ofNat n), .int 1], [], M) = (zC X (D + 7) 168 [.ref 460] M2).bind fun o => zR X (D + 8) 170 (68, [.ref 460, .int (Int32.ofNat n + 1), .int 1], zps o.1 [], o.2) := by
        rw [hu, w1, Option.bind_some]
        dsimp only [zps]
        rw [t170_61 _ _ _ w3.1.1]
        rfl
      rw [pEmp, hpv]
      dsimp only
      by_cases c1 : kk t s.1 = 59
      · rw [if_pos c1] at h168 ⊢
        have u3 := k59.2 c1
        obtain ⟨u4, u5⟩ := kX_b (t := t) (p := s.1) (kk_p (by omega))
        have hS3 := gQ_p (q' := s.1 + 1) w3 (by omega)
        have hF3 : pF M2 (zp M2 (s.1 + 1)) := pF_I (by omega)
        have hi := ih m' (by omega) (n := n + 1) (by omega) hS3 (show ken isB t (s.1 + 1) = kA t s.1 by unfold kA; rw [u3]) (rE_p w5 hF3) g1 (fun h0 => by omega)
        have e2 : zR X (D + 8) 170 (52, [.ref 460, .int (Int32.ofNat n), .int 1], [], M) = zR X (D + 8) 170 (52, [.ref 460, .int (Int32.ofNat (n + 1)), .int 1], [], zp M2 (s.1 + 1)) := by
          rw [e1, h168, Option.bind_some]
          dsimp only [zps]
          rw [t170_68 _ _ _ _ hS3.1.1, of_succ]
        cases hpw : pEmp t m' (n + 1) (kA t s.1) s.2.1 s.2.2 with
        | inl f =>
          rw [hpw] at hi
          obtain ⟨M4, y1, y2, y3⟩ := hi
          exact ⟨M4, e2.trans y1, nF_t (nF_t w2 (nF_p hF3)) y2, y3⟩
        | inr z =>
          rw [hpw] at hi
          obtain ⟨M4, y1, y2, y3, y4⟩ := hi
          exact ⟨M4, e2.trans y1, nF_t (nF_t w2 (nF_p hF3)) y2, y3, y4⟩
      · rw [if_neg c1] at h168 ⊢
        by_cases c2 : kk t s.1 = 256
        · rw [if_pos c2] at h168 ⊢
          have hG3 : zGE (zp M2 (s.1 + 1)) := w3.1.1
          have hF3 : pF M2 (zp M2 (s.1 + 1)) := pF_I (by omega)
          refine ⟨zp M2 (s.1 + 1), ?_, nF_t w2 (nF_p hF3), by rw [zI_s, if_neg (by omega)]; exact w3.2.2.2, rE_p w5 hF3⟩
          rw [e1, h168, Option.bind_some]
          dsimp only [zps]
          rw [t170_68 _ _ _ _ hG3, t170_52 _ _ _ hG3, if_pos rfl]
        · rw [if_neg c2] at h168 ⊢
          have hG3 : zGE (zp (zsI M2 460 28 (Int32.ofNat (1 + 8 * s.1 + 0))) (s.1 + 1)) := w3.1.1
          refine ⟨zp (zsI M2 460 28 (Int32.ofNat (1 + 8 * s.1 + 0))) (s.1 + 1), ?_, nF_t w2 (nF_p (pF_t (pF_I (k := 28) (by omega)) (pF_I (by omega)))), by rw [zI_s, if_neg (by omega), zI_s, if_pos rfl]⟩
          rw [e1, h168, Option.bind_some]
          dsimp only [zps]
          rw [t170_68 _ _ _ _ hG3, t170_52 _ _ _ hG3, if_pos rfl]
