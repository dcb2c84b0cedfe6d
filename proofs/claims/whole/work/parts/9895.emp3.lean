/-! ===== an empire as it was read ===== -/
/-- the roads' matrix -/
def rwQ (tb : zTb) (a b : Nat) : Nat → Nat
  | 0 => 100000
  | i + 1 => if ((tb 9 i = a ∧ tb 10 i = b) ∨ (tb 9 i = b ∧ tb 10 i = a)) ∧ tb 11 i < rwQ tb a b i then tb 11 i else rwQ tb a b i
def rdP (tb : zTb) (n : Nat) (a b : Nat) : Nat := if a = b then 0 else rwQ tb a b n
def zEp (cn : Nat → Nat) (tb : zTb) : zE := fun r j =>
  if r = 0 then (if j < 5 then Int32.ofNat (cn j) else 0)
  else if r < 16 then (if r = 10 ∨ r = 11 ∨ r = 12 ∨ r = 3 ∨ r = 15 then 0 else if j < cn ((r - 1) / 3) then Int32.ofNat (tb (r - 1) j) else 0)
  else if r < 24 then (if j < 8 then Int32.ofNat (cap (fwN (rdP tb (cn 3)) 8) (r - 16) j) else 0)
  else if r < 32 then (if j < 8 then Int32.ofNat (rwQ tb (r - 24) j (cn 3)) else 0)
  else 0
theorem eV_c {cn : Nat → Nat} {tb : zTb} (h : eV cn tb) : cn 0 ≤ 1 ∧ cn 1 ≤ 6 ∧ cn 2 ≤ 4 ∧ cn 3 ≤ 8 ∧ cn 4 ≤ 4 := ⟨h.1 0 (by omega), h.1 1 (by omega), h.1 2 (by omega), h.1 3 (by omega), h.1 4 (by omega)⟩
theorem eV_r {cn : Nat → Nat} {tb : zTb} (h : eV cn tb) {i : Nat} (hi : i < cn 3) : tb 9 i < 8 ∧ tb 10 i < 8 ∧ tb 9 i ≠ tb 10 i ∧ 1 ≤ tb 11 i ∧ tb 11 i ≤ 30 := by
  have h0 : loE 9 ≤ tb 9 i ∧ tb 9 i ≤ hiE 9 := h.2.1 3 0 i (by omega) (by decide) hi
  have h1 : loE 10 ≤ tb 10 i ∧ tb 10 i ≤ hiE 10 := h.2.1 3 1 i (by omega) (by decide) hi
  have h2 : loE 11 ≤ tb 11 i ∧ tb 11 i ≤ hiE 11 := h.2.1 3 2 i (by omega) (by decide) hi
  have h3 := h.2.2 i hi
  have e0 : hiE 9 = 7 := rfl
  have e1 : hiE 10 = 7 := rfl
  have e2 : hiE 11 = 30 := rfl
  have e3 : loE 11 = 1 := rfl
  exact ⟨by omega, by omega, fun h => h3 h.symm, by omega, by omega⟩
theorem rwQ_v {cn : Nat → Nat} {tb : zTb} (h : eV cn tb) {a b : Nat} : ∀ n, n ≤ cn 3 → rwQ tb a b n = 100000 ∨ (1 ≤ rwQ tb a b n ∧ rwQ tb a b n ≤ 30)
  | 0, _ => Or.inl rfl
  | n + 1, hn => by
    obtain ⟨-, -, -, r4, r5⟩ := eV_r h (i := n) (by omega)
    rw [rwQ]
    split
    · exact Or.inr ⟨r4, r5⟩
    · exact rwQ_v h n (by omega)
theorem rwQ_le {cn : Nat → Nat} {tb : zTb} (h : eV cn tb) {a b n : Nat} (hn : n ≤ cn 3) : rwQ tb a b n ≤ 100000 := by
  rcases rwQ_v h (a := a) (b := b) n hn with e | e <;> omega
theorem rwQ_d {cn : Nat → Nat} {tb : zTb} (h : eV cn tb) {a : Nat} : ∀ n, n ≤ cn 3 → rwQ tb a a n = 100000
  | 0, _ => rfl
  | n + 1, hn => by
    obtain ⟨-, -, r3, -, -⟩ := eV_r h (i := n) (by omega)
    rw [rwQ, if_neg (fun h => by omega)]
    exact rwQ_d h n (by omega)
theorem rdP_z {tb : zTb} {n : Nat} : ∀ a, a < 8 → rdP tb n a a = 0 := fun a _ => if_pos rfl
theorem rdP_r {cn : Nat → Nat} {tb : zTb} (h : eV cn tb) : ∀ a b, a < 8 → b < 8 → a ≠ b → rdP tb (cn 3) a b = 100000 ∨ (1 ≤ rdP tb (cn 3) a b ∧ rdP tb (cn 3) a b ≤ 30) := fun a b _ _ hab => by
  unfold rdP
  rw [if_neg hab]
  exact rwQ_v h _ (Nat.le_refl _)
theorem cap_le {D : Nat → Nat → Nat} {a b : Nat} : cap D a b ≤ 1000 := by
  unfold cap
  split <;> omega
/-- rows of it -/
theorem zEp_0 {cn : Nat → Nat} {tb : zTb} {j : Nat} (h : j < 5) : zEp cn tb 0 j = Int32.ofNat (cn j) := by unfold zEp; rw [if_pos rfl, if_pos h]
theorem zEp_c {cn : Nat → Nat} {tb : zTb} {r j : Nat} (h1 : 0 < r) (h2 : r < 16) (h3 : ¬ (r = 10 ∨ r = 11 ∨ r = 12 ∨ r = 3 ∨ r = 15)) (hj : j < cn ((r - 1) / 3)) : zEp cn tb r j = Int32.ofNat (tb (r - 1) j) := by
  unfold zEp; rw [if_neg (by omega), if_pos h2, if_neg h3, if_pos hj]
theorem zEp_w {cn : Nat → Nat} {tb : zTb} {a j : Nat} (ha : a < 8) (hj : j < 8) : zEp cn tb (16 + a) j = Int32.ofNat (cap (fwN (rdP tb (cn 3)) 8) a j) := by
  unfold zEp; rw [if_neg (by omega), if_neg (by omega), if_pos (by omega), if_pos hj, Nat.add_sub_cancel_left]
theorem zEp_r {cn : Nat → Nat} {tb : zTb} {a j : Nat} (ha : a < 8) (hj : j < 8) : zEp cn tb (24 + a) j = Int32.ofNat (rwQ tb a j (cn 3)) := by
  unfold zEp; rw [if_neg (by omega), if_neg (by omega), if_neg (by omega), if_pos (by omega), if_pos hj, Nat.add_sub_cancel_left]
theorem zEp_n {cn : Nat → Nat} {tb : zTb} (h : eV cn tb) : nG (zEp cn tb) = cn 1 ∧ nN (zEp cn tb) = cn 2 ∧ nD (zEp cn tb) = cn 4 := by
  obtain ⟨c0, c1, c2, c3, c4⟩ := eV_c h
  unfold nG nN nD
  rw [zEp_0 (by omega), zEp_0 (by omega), zEp_0 (by omega), toNat_of (by omega), toNat_of (by omega), toNat_of (by omega)]
  exact ⟨rfl, rfl, rfl⟩
theorem zEp_ok {cn : Nat → Nat} {tb : zTb} (h : eV cn tb) (h0 : cn 0 = 1) : okE (zEp cn tb) ∧ okX (zEp cn tb) ∧ okT (zEp cn tb) ∧ okN (zEp cn tb) := by
  obtain ⟨c0, c1, c2, c3, c4⟩ := eV_c h
  obtain ⟨n1, n2, n4⟩ := zEp_n h
  refine ⟨⟨⟨cn 0, c0, zEp_0 (by omega)⟩, ⟨cn 1, c1, zEp_0 (by omega)⟩, ⟨cn 2, c2, zEp_0 (by omega)⟩, ⟨cn 3, c3, zEp_0 (by omega)⟩, ⟨cn 4, c4, zEp_0 (by omega)⟩, fun g hg => ?_, fun a b ha hb => ⟨_, cap_le, zEp_w ha hb⟩⟩, ⟨fun g hg => ?_, fun g hg => ?_, fun g hg => ?_⟩, ⟨by rw [zEp_0 (by omega), h0]; rfl, ?_⟩, ⟨fun a ha => ?_, fun a c b ha hc hb => ?_, fun a c ha hc => ?_⟩⟩
  · rw [n2] at hg
    have := h.2.1 2 0 g (by omega) (by decide) hg
    have e : hiE (3 * 2 + 0) = 7 := rfl
    rw [e] at this
    exact ⟨tb 6 g, by show tb (3 * 2 + 0) g < 8; omega, zEp_c (by omega) (by omega) (by omega) hg⟩
  · rw [n1] at hg
    have := h.2.1 1 0 g (by omega) (by decide) hg
    have e : hiE (3 * 1 + 0) = 30 := rfl
    rw [e] at this
    exact ⟨tb 3 g, this.2, zEp_c (by omega) (by omega) (by omega) hg⟩
  · rw [n2] at hg
    have := h.2.1 2 1 g (by omega) (by decide) hg
    have e : hiE (3 * 2 + 1) = 200 := rfl
    rw [e] at this
    exact ⟨tb 7 g, this.2, zEp_c (by omega) (by omega) (by omega) hg⟩
  · rw [n2] at hg
    have := h.2.1 2 2 g (by omega) (by decide) hg
    have e : hiE (3 * 2 + 2) = 999 := rfl
    rw [e] at this
    exact ⟨tb 8 g, this.2, zEp_c (by omega) (by omega) (by omega) hg⟩
  · have := h.2.1 0 1 0 (by omega) (by decide) (by omega)
    have e : hiE (3 * 0 + 1) = 9 := rfl
    have e1 : loE (3 * 0 + 1) = 1 := rfl
    rw [e, e1] at this
    exact ⟨tb 1 0, this.1, this.2, zEp_c (by omega) (by omega) (by omega) (by show 0 < cn 0; omega)⟩
  · unfold wN
    rw [zEp_w ha ha, toNat_of (by have := cap_le (D := fwN (rdP tb (cn 3)) 8) (a := a) (b := a); omega)]
    unfold cap
    rw [fwN_0 rdP_z 8 a ha]
    rfl
  · unfold wN rN
    have v1 := cap_le (D := fwN (rdP tb (cn 3)) 8) (a := a) (b := b)
    have v2 := cap_le (D := fwN (rdP tb (cn 3)) 8) (a := c) (b := b)
    have v3 := rwQ_le h (a := a) (b := c) (Nat.le_refl (cn 3))
    rw [zEp_w ha hb, zEp_w hc hb, zEp_r ha hc, toNat_of (by omega), toNat_of (by omega), toNat_of (by omega)]
    have t1 := fwN_t (D := rdP tb (cn 3)) rdP_z 8 (Nat.le_refl _) c a b hc
    have t2 : fwN (rdP tb (cn 3)) 8 a c ≤ rdP tb (cn 3) a c := by
      have := fwN_le (D := rdP tb (cn 3)) (k := 0) (a := a) (b := c) 8
      exact this
    have t3 : rdP tb (cn 3) a c ≤ rwQ tb a c (cn 3) := by
      unfold rdP
      split <;> omega
    unfold cap
    repeat' split
    all_goals omega
  · unfold rN
    have v3 := rwQ_le h (a := a) (b := c) (Nat.le_refl (cn 3))
    rw [zEp_r ha hc, toNat_of (by omega)]
    exact ⟨rfl, rwQ_v h _ (Nat.le_refl _)⟩
theorem okA_b {cn : Nat → Nat} {tb : zTb} : okA (zEp cn tb) (pBegin (nD (zEp cn tb)) (zEp cn tb)) := ⟨Or.inl rfl, ⟨0, by omega, rfl⟩, 10, by omega, by omega, rfl⟩
/-! in the class' cells -/
/-- an empire told lies at e -/
def dE (e : Nat) (cn : Nat → Nat) (tb : zTb) (M : zM) : Prop := (∀ s, s < 5 → M.1 (e + 1) s = Int32.ofNat (cn s)) ∧ (∀ s i r, s < 5 → i < nuE s → r < cn s → M.1 (e + 3 + (3 * s + i)) r = Int32.ofNat (tb (3 * s + i) r))
theorem rwD_P {e : Nat} {cn : Nat → Nat} {tb : zTb} {M : zM} (hV : eV cn tb) (h : dE e cn tb M) {a b : Nat} : ∀ n, n ≤ cn 3 → rwD (M.1 (e + 12)) (M.1 (e + 13)) (M.1 (e + 14)) a b n = Int32.ofNat (rwQ tb a b n)
  | 0, _ => rfl
  | n + 1, hn => by
    obtain ⟨r1, r2, r3, r4, r5⟩ := eV_r hV (i := n) (by omega)
    have v := rwQ_le hV (a := a) (b := b) (n := n) (by omega)
    have e1 : M.1 (e + 12) n = Int32.ofNat (tb 9 n) := h.2 3 0 n (by omega) (by decide) (by omega)
    have e2 : M.1 (e + 13) n = Int32.ofNat (tb 10 n) := h.2 3 1 n (by omega) (by decide) (by omega)
    have e3 : M.1 (e + 14) n = Int32.ofNat (tb 11 n) := h.2 3 2 n (by omega) (by decide) (by omega)
    rw [rwD, rwQ, rwD_P hV h n (by omega), e1, e2, e3, toNat_of (by omega), toNat_of (by omega)]
    by_cases c : ((tb 9 n = a ∧ tb 10 n = b) ∨ (tb 9 n = b ∧ tb 10 n = a)) ∧ tb 11 n < rwQ tb a b n
    · rw [if_pos c, if_pos ⟨c.1, (of_lt (by omega) (by omega)).2 c.2⟩]
    · rw [if_neg c, if_neg (fun g => c ⟨g.1, (of_lt (by omega) (by omega)).1 g.2⟩)]
theorem dE_Rd {e : Nat} {cn : Nat → Nat} {tb : zTb} {M : zM} (hV : eV cn tb) (h : dE e cn tb M) : okRd e M := by
  have c3 := (eV_c hV).2.2.2.1
  have hn : (M.1 (e + 1) 3).toNatClampNeg = cn 3 := by rw [h.1 3 (by omega)]; exact toNat_of (by omega)
  refine ⟨by omega, fun i hi => ?_⟩
  rw [hn] at hi
  obtain ⟨r1, r2, r3, r4, r5⟩ := eV_r hV hi
  exact ⟨tb 9 i, tb 10 i, tb 11 i, r1, r2, r3, r4, r5, h.2 3 0 i (by omega) (by decide) hi, h.2 3 1 i (by omega) (by decide) hi, h.2 3 2 i (by omega) (by decide) hi⟩
theorem dE_em {e : Nat} {cn : Nat → Nat} {tb : zTb} {M : zM} (hV : eV cn tb) (h0 : cn 0 = 1) (h : dE e cn tb M) (hw : ∀ i j, i < 8 → j < 8 → M.1 (e + 19 + i) j = Int32.ofNat (cap (fwN (rdP tb (cn 3)) 8) i j)) : emD e M = zEp cn tb := by
  obtain ⟨c0, c1, c2, c3, c4⟩ := eV_c hV
  have hcn : ∀ s, s < 5 → (M.1 (e + 1) s).toNatClampNeg = cn s := fun s hs => by rw [h.1 s hs]; have := hV.1 s hs; have := moE_8 s hs; exact toNat_of (by omega)
  funext r j
  unfold emD zEp
  by_cases q0 : r = 0
  · rw [if_pos q0, if_pos q0]
    by_cases q1 : j < 5
    · rw [if_pos q1, if_pos q1]; exact h.1 j q1
    · rw [if_neg q1, if_neg q1]
  · rw [if_neg q0, if_neg q0]
    by_cases q1 : r < 16
    · rw [if_pos q1, if_pos q1]
      by_cases q2 : r = 10 ∨ r = 11 ∨ r = 12 ∨ r = 3 ∨ r = 15
      · rw [if_pos q2, if_pos q2]
      · rw [if_neg q2, if_neg q2, hcn ((r - 1) / 3) (by omega)]
        by_cases q3 : j < cn ((r - 1) / 3)
        · rw [if_pos q3, if_pos q3]
          have hi : (r - 1) % 3 < nuE ((r - 1) / 3) := by
            rcases (show r = 1 ∨ r = 2 ∨ r = 4 ∨ r = 5 ∨ r = 6 ∨ r = 7 ∨ r = 8 ∨ r = 9 ∨ r = 13 ∨ r = 14 by omega) with rfl | rfl | rfl | rfl | rfl | rfl | rfl | rfl | rfl | rfl <;> decide
          have := h.2 ((r - 1) / 3) ((r - 1) % 3) j (by omega) hi q3
          rw [show 3 * ((r - 1) / 3) + (r - 1) % 3 = r - 1 by omega] at this
          rw [show e + 2 + r = e + 3 + (r - 1) by omega]
          exact this
        · rw [if_neg q3, if_neg q3]
    · rw [if_neg q1, if_neg q1]
      by_cases q2 : r < 24
      · rw [if_pos q2, if_pos q2]
        by_cases q3 : j < 8
        · rw [if_pos q3, if_pos q3, show e + 3 + r = e + 19 + (r - 16) by omega]
          exact hw (r - 16) j (by omega) q3
        · rw [if_neg q3, if_neg q3]
      · rw [if_neg q2, if_neg q2]
        by_cases q3 : r < 32
        · rw [if_pos q3, if_pos q3]
          by_cases q4 : j < 8
          · rw [if_pos q4, if_pos q4, if_neg (by rw [h.1 0 (by omega), h0]; decide), hcn 3 (by omega)]
            exact rwD_P hV h _ (Nat.le_refl _)
          · rw [if_neg q4, if_neg q4]
        · rw [if_neg q3, if_neg q3]
/-- the class' side -/
theorem s102 {X : (Nat → Int32) × Nat} {d : Nat} {t : zTx} {M : zM} (hG : zGE M) (hT : tqD t M) :
    (∀ f, pEmp t 40 0 (kS t 0) (fun _ => 0) (fun _ _ => 0) = .inl f → 0 < f ∧ f < 4000 ∧ ∃ M', zC X (d + 9) 102 [.ref 0] M = some (some (.int (-2 - Int32.ofNat f)), M') ∧ M'.2 = M.2 ∧ (∀ a, ¬ (1 ≤ a ∧ a < 34 ∧ a ≠ 2 ∧ a ≠ 6 ∧ a ≠ 7) → M'.1 a = M.1 a) ∧ M'.1 1 1 = 0) ∧
    (∀ z, pEmp t 40 0 (kS t 0) (fun _ => 0) (fun _ _ => 0) = .inr z → ∃ M', zC X (d + 9) 102 [.ref 0] M = some (some (.int (Int32.ofNat (z.1 1))), M') ∧ M'.2.2 = M.2.2 ∧ (∀ a, ¬ (1 ≤ a ∧ a < 34 ∧ a ≠ 2 ∧ a ≠ 6 ∧ a ≠ 7) → a ≠ 39 → ¬ (40 ≤ a ∧ a < 69) → M'.1 a = M.1 a) ∧ M'.1 1 1 = 0 ∧ (∀ k, k ≠ 5 → k ≠ 8 → M'.1 39 k = M.1 39 k) ∧ M'.1 39 5 = 0 ∧ M'.1 39 8 = 0 ∧ emD 40 M' = zEp z.1 z.2 ∧ okRd 40 M' ∧ stD (nD (zEp z.1 z.2)) 67 M' = pBegin (nD (zEp z.1 z.2)) (zEp z.1 z.2) ∧ M'.1 44 0 = Int32.ofNat (z.2 1 0)) := by
  have hV0 : eV (fun _ => 0) (fun _ _ => 0) := ⟨fun s _ => Nat.zero_le _, fun s i r _ _ hr => absurd hr (Nat.not_lt_zero r), fun r hr => absurd hr (Nat.not_lt_zero r)⟩
  have h22 : zC X (d + 8) 22 [.ref 6] M = zR X (d + 8) 22 (0, [.ref 6, zjk, zjk], [], M) := rfl
  have hu : zC X (d + 9) 102 [.ref 0] M = zR X (d + 9) 102 (0, [.ref 0, zjk], [], M) := rfl
  -- cleared
  have hcl : ∃ M1, zC X (d + 7) 14 [.ref 7] M = some (none, M1) ∧ eF M M1 ∧ M1.1 1 = M.1 1 ∧ ∀ s, s < 5 → M1.1 8 s = 0 := by
    show ∃ M1, zR X (d + 7) 14 (0, [.ref 7, zjk], [], M) = some (none, M1) ∧ _
    have loop : ∀ m i M1, i + m = 5 → zGE M1 → eF M M1 → M1.1 1 = M.1 1 → (∀ s, s < i → M1.1 8 s = 0) → ∃ M2, zR X (d + 7) 14 (2, [.ref 7, .int (Int32.ofNat i)], [], M1) = some (none, M2) ∧ eF M M2 ∧ M2.1 1 = M.1 1 ∧ ∀ s, s < 5 → M2.1 8 s = 0 := by
      intro m
      induction m with
      | zero =>
        intro i M1 hi hG1 hF h1 hs
        have e5 : i = 5 := by omega
        subst e5
        rw [t14_2 _ _ _ hG1 zq_7 (fun h => absurd (by decide) h), if_pos (by decide)]
        exact ⟨M1, rfl, hF, h1, hs⟩
      | succ m ih =>
        intro i M1 hi hG1 hF h1 hs
        have hle : ¬ (5 : Int32) ≤ Int32.ofNat i := by rw [show (5 : Int32) = Int32.ofNat 5 from rfl, of_le (by omega) (by omega)]; omega
        rw [t14_2 _ _ _ hG1 zq_7 (fun _ => vp_of (by omega) (by omega)), if_neg hle, of_succ, toNat_of (by omega)]
        refine ih (i + 1) _ (by omega) hG1 (eF_t hF ⟨z2_I, fun a q1 q2 => zI_n1 (by omega), fun k hk => by rw [zI_n (by omega)]⟩) (by rw [zI_n1 (by omega)]; exact h1) (fun s hs' => ?_)
        rw [zI_s]
        by_cases e : s = i
        · rw [if_pos e]
        · rw [if_neg e]; exact hs s (by omega)
    rw [t14_0 _ _ _ hG zq_7]
    exact loop 5 0 M rfl hG eF_r rfl (fun s hs => absurd hs (Nat.not_lt_zero s))
  obtain ⟨M1, c1, c2, c3, c4⟩ := hcl
  have hG1 := eF_g c2 hG
  have hT1 := eF_q c2 hT
  obtain ⟨M2, w1, w2, w3, w4⟩ := s87 (X := X) (d := d + 1) hG1 hT1
  have hG2 := oF_G w2 hG1
  have hE2 : cE t (kS t 0) (fun _ => 0) (fun _ _ => 0) M2 := ⟨hG2, oF_T w2 hT1, w4, w3, fun s hs => by rw [w2.2.1 8 (by omega) (by omega) (by omega) (by omega)]; exact c4 s hs, fun s i r _ _ hr => absurd hr (Nat.not_lt_zero r)⟩
  have hv := s22l (X := X) (d := d + 5) 40 (n := 0) rfl hE2 hV0
  have e22 : zC X (d + 8) 22 [.ref 6] M = zR X (d + 8) 22 (18, [.ref 6, .int 1, .int (Int32.ofNat 0)], [], M2) := by
    rw [h22, t22_0 _ _ _ hG, c1, Option.bind_some]
    dsimp only [zps]
    rw [t22_7 _ _ _ hG1, w1, Option.bind_some]
    dsimp only [zps]
    rw [t22_14 _ _ _ hG2]
    rfl
  have hO : ∀ {M3 : zM}, eF M2 M3 → ∀ a, ¬ (1 ≤ a ∧ a < 34 ∧ a ≠ 2 ∧ a ≠ 6 ∧ a ≠ 7) → M3.1 a = M.1 a := fun hF a ha => by rw [hF.2.1 a (by omega) (by omega), w2.2.1 a (by omega) (by omega) (by omega) (by omega), c2.2.1 a (by omega) (by omega)]
  have hO2 : ∀ {M3 : zM}, eF M2 M3 → M3.2 = M.2 := fun hF => hF.1.trans (w2.1.trans c2.1)
  refine ⟨fun f hf => ?_, fun z hz => ?_⟩
  · rw [hf] at hv
    obtain ⟨M3, y1, y2, y3, y4⟩ := hv
    have hG3 := eF_g y2 hG2
    refine ⟨y3, y4, zsI M3 1 1 0, ?_, by rw [z2_I]; exact hO2 y2, fun a ha => by rw [zI_n1 (by omega)]; exact hO y2 a ha, by rw [zI_s, if_pos rfl]⟩
    rw [hu, t102_0 _ _ hG, e22, y1, Option.bind_some]
    dsimp only [zps]
    rw [t102_7 _ _ _ hG3, if_neg (f_ne y3 y4)]
  · rw [hz] at hv
    obtain ⟨M3, n', y1, y2, p', y3⟩ := hv
    obtain ⟨v1, v0⟩ := pEmp_v 40 rfl hV0 (fun h => absurd h (Nat.lt_irrefl 0)) hz
    obtain ⟨k0, k1, k2, k3, k4⟩ := eV_c v1
    obtain ⟨o1, o2, o3, o4⟩ := zEp_ok v1 v0
    have hG3 := y3.1
    have hd3 : dE 7 z.1 z.2 M3 := ⟨y3.2.2.2.2.1, y3.2.2.2.2.2⟩
    obtain ⟨M4, x1, x2, x3⟩ := s16 (X := X) (d := d + 6) (e := 7) (n := z.1 3) hG3 zq_7 (hd3.1 3 (by omega)) k3 (dE_Rd v1 hd3)
    have hrD : rD 7 M3 (z.1 3) = rdP z.2 (z.1 3) := by
      funext a b
      unfold rD rdP
      by_cases e : a = b
      · rw [if_pos e, if_pos e]
      · rw [if_neg e, if_neg e, rwD_P v1 hd3 _ (Nat.le_refl _), toNat_of (by have := rwQ_le v1 (a := a) (b := b) (Nat.le_refl (z.1 3)); omega)]
    rw [hrD] at x3
    have hG4 := zfr_G x2 hG3
    have o4c : ∀ a, (a < 26 ∨ 34 ≤ a) → M4.1 a = M3.1 a := fun a ha => (x2.2 a (by omega)).1
    have hG5 : zGE (zsI M4 1 1 0) := hG4
    have h7O : ∀ a, 7 < a → (a < 26 ∨ 34 ≤ a) → (zsI M4 1 1 0).1 a = M3.1 a := fun a q1 q2 => by rw [zI_n1 (by omega), o4c a q2]
    obtain ⟨M6, u1, u2, u3⟩ := s15 (X := X) (d := d + 7) (a := 40) (b := 7) hG5 zq_40 zq_7 (by omega)
    have hG6 := zfr_G u2 hG5
    have d6 : dE 40 z.1 z.2 M6 := by
      refine ⟨fun s hs => ?_, fun s i r hs hi hr => ?_⟩
      · rw [u3.1 s hs, h7O 8 (by omega) (by omega)]; exact hd3.1 s hs
      · have h3 := nuE_3 s hs
        have hm := v1.1 s hs
        have h8 := moE_8 s hs
        rw [u3.2 (3 * s + i) (by omega) (by omega) r (by omega), h7O _ (by omega) (by omega)]
        exact hd3.2 s i r hs hi hr
    have e6 : emD 40 M6 = zEp z.1 z.2 := dE_em v1 v0 d6 (fun i j hi hj => by
      rw [show 40 + 19 + i = 40 + 3 + (16 + i) by omega, u3.2 (16 + i) (by omega) (by omega) j hj, zI_n (by omega), show 7 + 3 + (16 + i) = 7 + 19 + i by omega]
      exact x3 i j hi hj)
    obtain ⟨M7, r1, r2, r3⟩ := s69 (X := X) (d := d + 7) (s := 67) (e := 40) hG6 (by decide) zq_40 (by omega) (by rw [e6]; exact o1) (by rw [e6, zEp_0 (by omega), v0]; rfl)
    rw [e6] at r3
    have hG7 := zfr_G r2 hG6
    have o7 : ∀ a, ¬ (67 ≤ a ∧ a < 69) → M7.1 a = M6.1 a := fun a ha => (r2.2 a (by omega)).1
    have o6 : ∀ a, ¬ (40 ≤ a ∧ a < 67) → M6.1 a = (zsI M4 1 1 0).1 a := fun a ha => (u2.2 a (by omega)).1
    have fin : ∀ a, a ≠ 39 → (zsI (zsI M7 39 5 0) 39 8 0).1 a = M7.1 a := fun a ha => by rw [zI_n1 ha, zI_n1 ha]
    have h52 : zC X (d + 8) 52 [.ref 39, .ref 7] (zsI M4 1 1 0) = some (none, zsI (zsI M7 39 5 0) 39 8 0) := by
      show zR X (d + 8) 52 (0, [.ref 39, .ref 7], [], zsI M4 1 1 0) = _
      rw [t52_0 _ _ _ hG5 zq_39 zq_7, u1, Option.bind_some]
      dsimp only [zps]
      rw [t52_8 _ _ _ hG6 zq_39 zq_7, r1, Option.bind_some]
      dsimp only [zps]
      rw [t52_19 _ _ _ hG7 zq_39 zq_7]
    have em7 : emD 40 (zsI (zsI M7 39 5 0) 39 8 0) = zEp z.1 z.2 := by
      have : emD 40 M7 = emD 40 M6 := zfr_em r2 (by omega)
      rw [← e6, ← this]
      exact zfr_em (lo := 39) (hi := 40) (zfr_I (zfr_I zfr_rf (by omega) (by omega)) (by omega) (by omega)) (by omega)
    have d7 : dE 40 z.1 z.2 (zsI (zsI M7 39 5 0) 39 8 0) := ⟨fun s hs => by rw [fin _ (by omega), o7 _ (by omega)]; exact d6.1 s hs, fun s i r hs hi hr => by have h3 := nuE_3 s hs; rw [fin _ (by omega), o7 _ (by omega)]; exact d6.2 s i r hs hi hr⟩
    refine ⟨zsI (zsI M7 39 5 0) 39 8 0, ?_, ?_, fun a q1 q2 q3 => ?_, ?_, fun k q1 q2 => ?_, ?_, ?_, em7, dE_Rd v1 d7, ?_, ?_⟩
    · have h9 : M4.1 1 9 = 0 := by rw [o4c 1 (by omega)]; exact y3.2.2.2.1
      rw [hu, t102_0 _ _ hG, e22, y1, x1, Option.bind_some]
      dsimp only [zps]
      rw [t22_75 _ _ _ hG4, h9, Option.bind_some]
      dsimp only
      rw [t102_7 _ _ _ hG4, if_pos rfl, h52, Option.bind_some]
      dsimp only [zps]
      rw [t102_39 _ _ (show zGE (zsI (zsI M7 39 5 0) 39 8 0) from hG7), d7.1 1 (by omega)]
    · rw [z2_I, z2_I, r2.1, u2.1, z2_I, x2.1, hO2 y2]
    · rw [fin a q2, o7 a (by omega), o6 a (by omega), zI_n1 (by omega), o4c a (by omega)]
      exact hO y2 a q1
    · rw [fin 1 (by omega), o7 1 (by omega), o6 1 (by omega), zI_s, if_pos rfl]
    · rw [zI_s, if_neg q2, zI_s, if_neg q1, o7 39 (by omega), o6 39 (by omega), zI_n (by omega), o4c 39 (by omega), hO y2 39 (by omega)]
    · rw [zI_s, if_neg (by omega), zI_s, if_pos rfl]
    · rw [zI_s, if_pos rfl]
    · rw [← r3]
      exact stD_cells (fin 67 (by omega)) (fin 68 (by omega))
    · have := d7.2 0 1 0 (by omega) (by decide) (by omega)
      exact this
