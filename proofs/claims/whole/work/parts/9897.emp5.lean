/-! ===== the reference's clauses of an empire ===== -/
theorem amt {X : (Nat → Int32) × Nat} {d q0 p s i r : Nat} {t : zTx} {M : zM} (h : gQ t q0 M) (hp : ken isB t q0 = p) (hc : 3 * s + i < 15) (h10 : 3 * s + i ≠ 10) : (∃ f v M', zC X (d + 4) 161 [.ref 460, .int (Int32.ofNat (loE (3 * s + i))), .int (Int32.ofNat (hiE (3 * s + i)))] M = some (some (.int v), M') ∧ pF M M' ∧ gX t f M' ∧ ∀ m tb, pNmL t s r (m + 1) i p tb = .inl f) ∨ (∃ M' q, zC X (d + 4) 161 [.ref 460, .int (Int32.ofNat (loE (3 * s + i))), .int (Int32.ofNat (hiE (3 * s + i)))] M = some (some (.int (Int32.ofNat (dvl t p))), M') ∧ pF M M' ∧ gQ t q M' ∧ ken isB t q = kA t p ∧ ∀ m tb, pNmL t s r (m + 1) i p tb = pNmL t s r m (i + 1) (kA t p) (upT tb (3 * s + i) r (dvl t p))) := by
  have hl := (arE_c (X := X) (3 * s + i) hc).2.2
  obtain ⟨k1, k2, k3⟩ := r161 (X := X) (d := d) (lo := loE (3 * s + i)) (hi := hiE (3 * s + i)) h hp (by omega) (by omega)
  by_cases c1 : kk t p = 258
  · by_cases c2 : 5 < ken isD t p - p ∨ dvl t p < loE (3 * s + i) ∨ hiE (3 * s + i) < dvl t p
    · obtain ⟨v, M', w1, w2, w3⟩ := k2 c1 c2
      refine Or.inl ⟨_, v, M', w1, w2, w3, fun m tb => ?_⟩
      rw [pNmL, if_neg (not_not_intro c1), if_pos (by omega)]
    · obtain ⟨M', q, w1, w2, w3, w4⟩ := k3 c1 c2
      refine Or.inr ⟨M', q, w1, w2, w3, w4, fun m tb => ?_⟩
      rw [pNmL, if_neg (not_not_intro c1), if_neg (fun g => g.elim (fun g => c2 (Or.inl g)) (fun g => g.elim (fun g => c2 (Or.inr (Or.inl g))) (fun g => g.elim (fun g => c2 (Or.inr (Or.inr g))) (fun g => h10 g.1))))]
  · obtain ⟨v, M', w1, w2, w3⟩ := k1 c1
    refine Or.inl ⟨_, v, M', w1, w2, w3, fun m tb => ?_⟩
    rw [pNmL, if_pos c1]
/-- a number told and laid -/
theorem stp {X : (Nat → Int32) × Nat} {d q0 p s i r c b : Nat} {t : zTx} {M : zM} {Y : zO → Option zO} {W : zM → Option zO} (h : gQ t q0 M) (hp : ken isB t q0 = p) (hc : 3 * s + i < 15) (h10 : 3 * s + i ≠ 10) (hcell : 475 ≤ c ∧ c ≤ 484) (hY : ∀ v M', zGE M' → Y (some (.int v), M') = W (zsI M' c b v)) : (∃ f M1, (zC X (d + 4) 161 [.ref 460, .int (Int32.ofNat (loE (3 * s + i))), .int (Int32.ofNat (hiE (3 * s + i)))] M).bind Y = W M1 ∧ nF M M1 ∧ gX t f M1 ∧ ∀ m tb, pNmL t s r (m + 1) i p tb = .inl f) ∨ (∃ M1 q, (zC X (d + 4) 161 [.ref 460, .int (Int32.ofNat (loE (3 * s + i))), .int (Int32.ofNat (hiE (3 * s + i)))] M).bind Y = W M1 ∧ nF M M1 ∧ (∀ a k, 475 ≤ a → a ≤ 484 → M1.1 a k = if a = c ∧ k = b then Int32.ofNat (dvl t p) else M.1 a k) ∧ gQ t q M1 ∧ ken isB t q = kA t p ∧ ∀ m tb, pNmL t s r (m + 1) i p tb = pNmL t s r m (i + 1) (kA t p) (upT tb (3 * s + i) r (dvl t p))) := by
  rcases amt (X := X) (d := d) (r := r) h hp hc h10 with ⟨f, v, M', w1, w2, w3, w4⟩ | ⟨M', q, w1, w2, w3, w4, w5⟩
  · refine Or.inl ⟨f, zsI M' c b v, ?_, nF_t (nF_p w2) (nF_I hcell), gX_I w3 hcell, w4⟩
    rw [w1, Option.bind_some, hY v M' w3.1.1]
  · refine Or.inr ⟨zsI M' c b (Int32.ofNat (dvl t p)), q, ?_, nF_t (nF_p w2) (nF_I hcell), fun a k q1 q2 => ?_, gQ_I w3 hcell, w4, w5⟩
    · rw [w1, Option.bind_some, hY _ M' w3.1.1]
    · by_cases e : a = c
      · rw [e, zI_s]
        by_cases e2 : k = b
        · rw [if_pos e2, if_pos ⟨rfl, e2⟩]
        · rw [if_neg e2, if_neg (fun g => e2 g.2), w2.2.1 c (by omega)]
      · rw [zI_n e, if_neg (fun g => e g.1), w2.2.1 a (by omega)]
theorem stpx {X : (Nat → Int32) × Nat} {d f c b : Nat} {t : zTx} {M : zM} {lo hi : Int32} {Y : zO → Option zO} {W : zM → Option zO} (h : gX t f M) (hcell : 475 ≤ c ∧ c ≤ 484) (hY : ∀ v M', zGE M' → Y (some (.int v), M') = W (zsI M' c b v)) : ∃ M1, (zC X (d + 4) 161 [.ref 460, .int lo, .int hi] M).bind Y = W M1 ∧ nF M M1 ∧ gX t f M1 := by
  obtain ⟨M', w1, w2, w3⟩ := r161x (X := X) (d := d) (lo := lo) (hi := hi) h
  refine ⟨zsI M' c b 0, ?_, nF_t (nF_p w2) (nF_I hcell), gX_I w3 hcell⟩
  rw [w1, Option.bind_some, hY 0 M' w3.1.1]
def ciR (s : Nat) : Nat := ([0, 2, 4, 5, 3] : List Nat).getD s 0
def coR (c : Nat) : Nat := ([475, 475, 0, 476, 477, 478, 481, 482, 483, 0, 0, 0, 479, 480] : List Nat).getD c 0
def rE (cn : Nat → Nat) (tb : zTb) (M : zM) : Prop := (∀ s, 1 ≤ s → s < 5 → M.1 475 (ciR s) = Int32.ofNat (cn s)) ∧ (0 < cn 0 → M.1 475 0 = Int32.ofNat (tb 0 0) ∧ M.1 475 1 = Int32.ofNat (tb 1 0)) ∧ (∀ s i r, (s = 1 ∨ s = 2 ∨ s = 4) → i < nuE s → r < cn s → M.1 (coR (3 * s + i)) r = Int32.ofNat (tb (3 * s + i) r)) ∧ ∀ a b, a < 8 → b < 8 → M.1 484 (8 * a + b) = Int32.ofNat (rwQ tb a b (cn 3))
theorem rwQ_c {tb tb' : zTb} {a b : Nat} : ∀ n, (∀ i, i < n → tb' 9 i = tb 9 i ∧ tb' 10 i = tb 10 i ∧ tb' 11 i = tb 11 i) → rwQ tb' a b n = rwQ tb a b n
  | 0, _ => rfl
  | n + 1, h => by
    obtain ⟨h1, h2, h3⟩ := h n (by omega)
    rw [rwQ, rwQ, h1, h2, h3, rwQ_c n (fun i hi => h i (by omega))]
/-- a clause of guards, bidders or generals -/
theorem rE_s {cn : Nat → Nat} {tb tb' : zTb} {M M' : zM} {s : Nat} (hs : s = 1 ∨ s = 2 ∨ s = 4) (h : rE cn tb M) (hv : cn s < 10) (H1 : ∀ i, i < nuE s → M'.1 (coR (3 * s + i)) (cn s) = Int32.ofNat (tb' (3 * s + i) (cn s))) (H2 : ∀ i k, i < nuE s → k ≠ cn s → M'.1 (coR (3 * s + i)) k = M.1 (coR (3 * s + i)) k) (H3 : ∀ a k, 476 ≤ a → a ≤ 484 → (∀ i, i < nuE s → a ≠ coR (3 * s + i)) → M'.1 a k = M.1 a k) (H4 : ∀ k, M'.1 475 k = if k = ciR s then Int32.ofNat (cn s + 1) else M.1 475 k) (H5 : ∀ c r, ¬ (r = cn s ∧ 3 * s ≤ c ∧ c < 3 * s + 3) → tb' c r = tb c r) : rE (upC cn s) tb' M' := by
  obtain ⟨h1, h2, h3, h4⟩ := h
  have cs : ∀ s', upC cn s s' = if s' = s then cn s + 1 else cn s' := fun _ => rfl
  have ci : ∀ s s', 1 ≤ s → s < 5 → 1 ≤ s' → s' < 5 → ciR s = ciR s' → s = s' := by
    have : ∀ s, s < 5 → ∀ s', s' < 5 → 1 ≤ s → 1 ≤ s' → ciR s = ciR s' → s = s' := by decide
    exact fun s s' q1 q2 q3 q4 q5 => this s q2 s' q4 q1 q3 q5
  have ci2 : ∀ s, 1 ≤ s → s < 5 → 2 ≤ ciR s := by
    have : ∀ s, s < 5 → 1 ≤ s → 2 ≤ ciR s := by decide
    exact fun s q1 q2 => this s q2 q1
  have co : ∀ s i s' i', (s = 1 ∨ s = 2 ∨ s = 4) → (s' = 1 ∨ s' = 2 ∨ s' = 4) → i < nuE s → i' < nuE s' → coR (3 * s + i) = coR (3 * s' + i') → s = s' ∧ i = i' := by
    intro s i s' i' a1 a2 a3 a4 a5
    have b1 := nuE_3 s (by omega)
    have b2 := nuE_3 s' (by omega)
    have c1 : i = 0 ∨ i = 1 ∨ i = 2 := by omega
    have c2 : i' = 0 ∨ i' = 1 ∨ i' = 2 := by omega
    rcases a1 with rfl | rfl | rfl <;> rcases a2 with rfl | rfl | rfl <;> rcases c1 with rfl | rfl | rfl <;> rcases c2 with rfl | rfl | rfl
    all_goals first | exact ⟨rfl, rfl⟩ | exact absurd a5 (by decide) | exact absurd a3 (by decide) | exact absurd a4 (by decide)
  have co4 : ∀ s i, (s = 1 ∨ s = 2 ∨ s = 4) → i < nuE s → 476 ≤ coR (3 * s + i) ∧ coR (3 * s + i) ≤ 483 := by
    have h0 : ∀ s, s < 5 → ∀ i, i < 3 → (s = 1 ∨ s = 2 ∨ s = 4) → i < nuE s → 476 ≤ coR (3 * s + i) ∧ coR (3 * s + i) ≤ 483 := by decide
    exact fun s i a1 a2 => h0 s (by omega) i (by have := nuE_3 s (by omega); omega) a1 a2
  refine ⟨fun s' q1 q2 => ?_, fun h0 => ?_, fun s' i r hs' hi hr => ?_, fun a b ha hb => ?_⟩
  · rw [H4, cs]
    by_cases e : s' = s
    · rw [if_pos (by rw [e]), if_pos e]
    · rw [if_neg (fun g => e (ci s' s q1 q2 (by omega) (by omega) g)), if_neg e]; exact h1 s' q1 q2
  · rw [cs, if_neg (by omega)] at h0
    have := ci2 s (by omega) (by omega)
    rw [H4, H4, if_neg (by omega), if_neg (by omega), H5 0 0 (by omega), H5 1 0 (by omega)]
    exact h2 h0
  · rw [cs] at hr
    by_cases e : s' = s
    · rw [if_pos e] at hr
      subst e
      by_cases e2 : r = cn s'
      · rw [e2]; exact H1 i hi
      · rw [H2 i r hi e2, H5 _ _ (by omega)]
        exact h3 s' i r hs' hi (by omega)
    · rw [if_neg e] at hr
      have := co4 s' i hs' hi
      have h33 := nuE_3 s' (by omega)
      rw [H3 _ r (by omega) (by omega) (fun i' hi' g => e (co s' i s i' hs' hs hi hi' g).1), H5 _ _ (by omega)]
      exact h3 s' i r hs' hi hr
  · rw [cs, if_neg (by omega), H3 484 _ (by omega) (by omega) (fun i hi g => by have := co4 s i hs hi; omega), h4 a b ha hb, rwQ_c (tb := tb) (tb' := tb') (cn 3) (fun i _ => ⟨H5 _ _ (by omega), H5 _ _ (by omega), H5 _ _ (by omega)⟩)]
