/-! ===== an empire's text, plainly: how many of each sort, and columns ===== -/
abbrev zTb : Type := Nat → Nat → Nat
def nuE (s : Nat) : Nat := ([2, 3, 3, 3, 2] : List Nat).getD s 0
def moE (s : Nat) : Nat := ([1, 6, 4, 8, 4] : List Nat).getD s 0
def loE (c : Nat) : Nat := ([0, 1, 0, 1, 0, 0, 0, 1, 0, 0, 0, 1, 0, 0, 0] : List Nat).getD c 0
def hiE (c : Nat) : Nat := ([9999, 9, 0, 30, 100, 60, 7, 200, 999, 7, 7, 30, 9999, 99, 0] : List Nat).getD c 0
theorem arE_s {X : (Nat → Int32) × Nat} : ∀ s, s < 5 → zxf X 60 s = Int32.ofNat (nuE s) ∧ zxf X 61 s = Int32.ofNat (moE s) ∧ nuE s ≤ 3 ∧ moE s ≤ 8 := by
  intro s hs
  have h : ∀ s, s < 5 → (zsaL.getD 0 []).getD s 0 = Int32.ofNat (nuE s) ∧ (zsaL.getD 1 []).getD s 0 = Int32.ofNat (moE s) ∧ nuE s ≤ 3 ∧ moE s ≤ 8 := by decide
  exact h s hs
theorem arE_c {X : (Nat → Int32) × Nat} : ∀ c, c < 15 → zxf X 62 c = Int32.ofNat (loE c) ∧ zxf X 63 c = Int32.ofNat (hiE c) ∧ loE c ≤ 1 ∧ hiE c ≤ 9999 := by
  intro c hc
  have h : ∀ c, c < 15 → (zsaL.getD 2 []).getD c 0 = Int32.ofNat (loE c) ∧ (zsaL.getD 3 []).getD c 0 = Int32.ofNat (hiE c) ∧ loE c ≤ 1 ∧ hiE c ≤ 9999 := by decide
  exact h c hc
theorem arE_n {X : (Nat → Int32) × Nat} : zxn X 60 = 5 ∧ zxn X 61 = 5 ∧ zxn X 62 = 15 ∧ zxn X 63 = 15 := ⟨rfl, rfl, rfl, rfl⟩
def upT (tb : zTb) (c r v : Nat) : zTb := fun c' r' => if c' = c ∧ r' = r then v else tb c' r'
def upC (cn : Nat → Nat) (s : Nat) : Nat → Nat := fun s' => if s' = s then cn s + 1 else cn s'
def dvl (t : zTx) (p : Nat) : Nat := kdv t.2 p (ken isD t p - p)
def pNmL (t : zTx) (s r : Nat) : Nat → Nat → Nat → zTb → Nat ⊕ (Nat × zTb)
  | 0, _, p, tb => .inr (p, tb)
  | m + 1, i, p, tb => if ¬ kk t p = 258 then .inl (1 + 8 * p + 0) else if 5 < ken isD t p - p ∨ dvl t p < loE (3 * s + i) ∨ hiE (3 * s + i) < dvl t p ∨ (3 * s + i = 10 ∧ dvl t p = tb 9 r) then .inl (1 + 8 * p + 1) else pNmL t s r m (i + 1) (kA t p) (upT tb (3 * s + i) r (dvl t p))
def pECl (t : zTx) (n p : Nat) (cn : Nat → Nat) (tb : zTb) : Nat ⊕ (Nat × (Nat → Nat) × zTb) :=
  if ¬ (kk t p = 257 ∧ kw t p < 5) then .inl (1 + 8 * p + 0) else if 40 ≤ n ∨ ¬ (kw t p = 0 ↔ n = 0) ∨ moE (kw t p) ≤ cn (kw t p) then .inl (1 + 8 * p + 4) else match pNmL t (kw t p) (cn (kw t p)) (nuE (kw t p)) 0 (kA t p) tb with
    | .inl f => .inl f
    | .inr s => .inr (s.1, upC cn (kw t p), s.2)
def pEmp (t : zTx) : Nat → Nat → Nat → (Nat → Nat) → zTb → Nat ⊕ ((Nat → Nat) × zTb)
  | 0, n, p, cn, tb => match pECl t n p cn tb with
    | .inl f => .inl f
    | .inr _ => .inl 1
  | m + 1, n, p, cn, tb => match pECl t n p cn tb with
    | .inl f => .inl f
    | .inr s => if kk t s.1 = 59 then pEmp t m (n + 1) (kA t s.1) s.2.1 s.2.2 else if kk t s.1 = 256 then .inr s.2 else .inl (1 + 8 * s.1 + 0)
/-- as told -/
def eV (cn : Nat → Nat) (tb : zTb) : Prop := (∀ s, s < 5 → cn s ≤ moE s) ∧ (∀ s i r, s < 5 → i < nuE s → r < cn s → loE (3 * s + i) ≤ tb (3 * s + i) r ∧ tb (3 * s + i) r ≤ hiE (3 * s + i)) ∧ ∀ r, r < cn 3 → tb 10 r ≠ tb 9 r
theorem pNmL_v {t : zTx} {s r : Nat} : ∀ m {i p : Nat} {tb : zTb} {z : Nat × zTb}, pNmL t s r m i p tb = .inr z → (∀ i', i ≤ i' → i' < i + m → loE (3 * s + i') ≤ z.2 (3 * s + i') r ∧ z.2 (3 * s + i') r ≤ hiE (3 * s + i')) ∧ (∀ c' r', ¬ (r' = r ∧ 3 * s + i ≤ c' ∧ c' < 3 * s + i + m) → z.2 c' r' = tb c' r') ∧ (3 * s + i ≤ 10 → 10 < 3 * s + i + m → z.2 10 r ≠ z.2 9 r)
  | 0, i, p, tb, z, h => by
    rw [pNmL] at h
    cases h
    exact ⟨fun i' h1 h2 => by omega, fun _ _ _ => rfl, fun h1 h2 => by omega⟩
  | m + 1, i, p, tb, z, h => by
    rw [pNmL] at h
    by_cases c1 : kk t p = 258
    · rw [if_neg (not_not_intro c1)] at h
      by_cases c2 : 5 < ken isD t p - p ∨ dvl t p < loE (3 * s + i) ∨ hiE (3 * s + i) < dvl t p ∨ (3 * s + i = 10 ∧ dvl t p = tb 9 r)
      · rw [if_pos c2] at h; cases h
      · rw [if_neg c2] at h
        obtain ⟨g1, g2, g3⟩ := pNmL_v m h
        have hz : z.2 (3 * s + i) r = dvl t p := by
          rw [g2 (3 * s + i) r (by omega)]
          unfold upT
          rw [if_pos ⟨rfl, rfl⟩]
        refine ⟨fun i' h1 h2 => ?_, fun c' r' hn => ?_, fun h1 h2 => ?_⟩
        · by_cases e : i' = i
          · rw [e, hz]; omega
          · exact g1 i' (by omega) (by omega)
        · rw [g2 c' r' (by omega)]
          unfold upT
          rw [if_neg (by omega)]
        · by_cases e : 3 * s + i = 10
          · rw [← e, hz, g2 9 r (by omega)]
            unfold upT
            rw [if_neg (by omega)]
            omega
          · exact g3 (by omega) (by omega)
    · rw [if_pos c1] at h; cases h
theorem pECl_v {t : zTx} {n p : Nat} {cn : Nat → Nat} {tb : zTb} {z : Nat × (Nat → Nat) × zTb} (hV : eV cn tb) (h : pECl t n p cn tb = .inr z) : eV z.2.1 z.2.2 ∧ n < 40 ∧ (n = 0 → 1 ≤ z.2.1 0) ∧ ∀ s, cn s ≤ z.2.1 s := by
  unfold pECl at h
  by_cases c1 : kk t p = 257 ∧ kw t p < 5
  · rw [if_neg (not_not_intro c1)] at h
    by_cases c2 : 40 ≤ n ∨ ¬ (kw t p = 0 ↔ n = 0) ∨ moE (kw t p) ≤ cn (kw t p)
    · rw [if_pos c2] at h; cases h
    · rw [if_neg c2] at h
      generalize hs : kw t p = s at h c1 c2
      cases hv : pNmL t s (cn s) (nuE s) 0 (kA t p) tb with
      | inl f => rw [hv] at h; cases h
      | inr v =>
        rw [hv] at h
        dsimp only at h
        cases h
        obtain ⟨g1, g2, g3⟩ := pNmL_v _ hv
        have cs : ∀ s', upC cn s s' = if s' = s then cn s + 1 else cn s' := fun _ => rfl
        have hnu : ∀ s, s < 5 → nuE s ≤ 3 := by decide
        refine ⟨⟨fun s' hs' => ?_, fun s' i r hs' hi hr => ?_, fun r hr => ?_⟩, by omega, fun h0 => ?_, fun s' => ?_⟩
        · show upC cn s s' ≤ _
          rw [cs]
          by_cases e : s' = s
          · rw [if_pos e, e]; omega
          · rw [if_neg e]; exact hV.1 s' hs'
        · have hr : r < upC cn s s' := hr
          show loE (3 * s' + i) ≤ v.2 (3 * s' + i) r ∧ v.2 (3 * s' + i) r ≤ hiE (3 * s' + i)
          rw [cs] at hr
          have h3 := hnu s' hs'
          have h4 := hnu s c1.2
          by_cases e : s' = s
          · rw [if_pos e] at hr
            subst e
            by_cases e2 : r = cn s'
            · rw [e2]; exact g1 i (Nat.zero_le _) (by omega)
            · rw [g2 _ r (by omega)]
              exact hV.2.1 s' i r hs' hi (by omega)
          · rw [if_neg e] at hr
            rw [g2 _ r (by omega)]
            exact hV.2.1 s' i r hs' hi hr
        · have hr : r < upC cn s 3 := hr
          show v.2 10 r ≠ v.2 9 r
          rw [cs] at hr
          have h4 := hnu s c1.2
          by_cases e : 3 = s
          · rw [if_pos e] at hr
            subst e
            by_cases e2 : r = cn 3
            · rw [e2]
              exact g3 (by omega) (by have : nuE 3 = 3 := rfl; omega)
            · rw [g2 10 r (by omega), g2 9 r (by omega)]
              exact hV.2.2 r (by omega)
          · rw [if_neg e] at hr
            rw [g2 10 r (by omega), g2 9 r (by omega)]
            exact hV.2.2 r hr
        · show 1 ≤ upC cn s 0
          rw [cs, if_pos (by omega)]
          omega
        · show cn s' ≤ upC cn s s'
          rw [cs]
          by_cases e : s' = s
          · rw [if_pos e, e]; omega
          · rw [if_neg e]; exact Nat.le_refl _
  · rw [if_pos c1] at h; cases h
theorem pEmp_v {t : zTx} : ∀ m {n p : Nat} {cn : Nat → Nat} {tb : zTb} {z : (Nat → Nat) × zTb}, n + m = 40 → eV cn tb → (0 < n → 1 ≤ cn 0) → pEmp t m n p cn tb = .inr z → eV z.1 z.2 ∧ z.1 0 = 1
  | 0, n, p, cn, tb, z, hn, hV, h0, h => by
    rw [pEmp] at h
    cases hv : pECl t n p cn tb with
    | inl f => rw [hv] at h; cases h
    | inr s => rw [hv] at h; cases h
  | m + 1, n, p, cn, tb, z, hn, hV, h0, h => by
    rw [pEmp] at h
    cases hv : pECl t n p cn tb with
    | inl f => rw [hv] at h; cases h
    | inr s =>
      rw [hv] at h
      dsimp only at h
      obtain ⟨g1, g2, g3, g4⟩ := pECl_v hV hv
      have g5 : 1 ≤ s.2.1 0 := by
        by_cases e : n = 0
        · exact g3 e
        · have := h0 (by omega); have := g4 0; omega
      by_cases c1 : kk t s.1 = 59
      · rw [if_pos c1] at h
        exact pEmp_v m (by omega) g1 (fun _ => g5) h
      · rw [if_neg c1] at h
        by_cases c2 : kk t s.1 = 256
        · rw [if_pos c2] at h
          cases h
          have := g1.1 0 (by omega)
          have e : moE 0 = 1 := rfl
          exact ⟨g1, by omega⟩
        · rw [if_neg c2] at h; cases h
/-! the class reads it -/
def eF (M M' : zM) : Prop := M'.2 = M.2 ∧ (∀ a, a ≠ 1 → ¬ (8 ≤ a ∧ a < 34) → M'.1 a = M.1 a) ∧ ∀ k, k < 6 → M'.1 1 k = M.1 1 k
theorem eF_r {M : zM} : eF M M := ⟨rfl, fun _ _ _ => rfl, fun _ _ => rfl⟩
theorem eF_t {M M1 M2 : zM} (h : eF M M1) (h' : eF M1 M2) : eF M M2 := ⟨h'.1.trans h.1, fun a q1 q2 => (h'.2.1 a q1 q2).trans (h.2.1 a q1 q2), fun k hk => (h'.2.2 k hk).trans (h.2.2 k hk)⟩
theorem eF_g {M M' : zM} (h : eF M M') (hG : zGE M) : zGE M' := zGE_of hG (by rw [h.1])
theorem eF_q {t : zTx} {M M' : zM} (h : eF M M') (hT : tqD t M) : tqD t M' := ⟨hT.1, by rw [h.2.2 1 (by omega)]; exact hT.2.1, fun k hk => by rw [h.2.1 2 (by omega) (by omega)]; exact hT.2.2 k hk⟩
def eZ (f : Nat) (M : zM) : Prop := M.1 1 9 = Int32.ofNat f ∧ 0 < f ∧ f < 4000 ∧ zGE M
def cE (t : zTx) (p : Nat) (cn : Nat → Nat) (tb : zTb) (M : zM) : Prop := zGE M ∧ tqD t M ∧ cur t p M ∧ M.1 1 9 = 0 ∧ (∀ s, s < 5 → M.1 8 s = Int32.ofNat (cn s)) ∧ ∀ s i r, s < 5 → i < nuE s → r < cn s → M.1 (10 + (3 * s + i)) r = Int32.ofNat (tb (3 * s + i) r)
theorem e_fail {X : (Nat → Int32) × Nat} {d p w : Nat} {t : zTx} {M : zM} (hG : zGE M) (hT : tqD t M) (hc : cur t p M) (hw : w ≤ 4) : ∃ M', zC X d 97 [.ref 1, .int (Int32.ofNat w)] M = some (some (.int 0), M') ∧ eF M M' ∧ eZ (1 + 8 * p + w) M' := by
  have hp : p ≤ 400 := by
    obtain ⟨n, i, -, -, hp, -⟩ := hc
    have := kS_le (t := t) i
    have := hT.1
    omega
  exact ⟨_, s97 hG hc, ⟨z2_I, fun a q _ => zI_n1 q, fun k hk => by rw [zI_s, if_neg (by omega)]⟩, by rw [zI_s, if_pos rfl], by omega, by omega, hG⟩
theorem s24 {X : (Nat → Int32) × Nat} {d p c r : Nat} {t : zTx} {tb : zTb} {M : zM} (hG : zGE M) (hT : tqD t M) (hcu : cur t p M) (hc : c < 15) (hr : r < 8) (h9 : c = 10 → M.1 19 r = Int32.ofNat (tb 9 r) ∧ tb 9 r < 10000) :
    (¬ kk t p = 258 → ∃ M', zC X (d + 1) 24 [.ref 6, .int (Int32.ofNat c), .int (Int32.ofNat r)] M = some (some (.int 0), M') ∧ eF M M' ∧ eZ (1 + 8 * p + 0) M') ∧
    (kk t p = 258 → (5 < ken isD t p - p ∨ dvl t p < loE c ∨ hiE c < dvl t p ∨ (c = 10 ∧ dvl t p = tb 9 r)) → ∃ M', zC X (d + 1) 24 [.ref 6, .int (Int32.ofNat c), .int (Int32.ofNat r)] M = some (some (.int 0), M') ∧ eF M M' ∧ eZ (1 + 8 * p + 1) M') ∧
    (kk t p = 258 → ¬ (5 < ken isD t p - p ∨ dvl t p < loE c ∨ hiE c < dvl t p ∨ (c = 10 ∧ dvl t p = tb 9 r)) → ∃ M', zC X (d + 1) 24 [.ref 6, .int (Int32.ofNat c), .int (Int32.ofNat r)] M = some (some (.int 1), M') ∧ M'.2 = M.2 ∧ (∀ a, a ≠ 1 → a ≠ 10 + c → M'.1 a = M.1 a) ∧ (∀ k, M'.1 (10 + c) k = if k = r then Int32.ofNat (dvl t p) else M.1 (10 + c) k) ∧ (∀ k, k ≠ 6 → k ≠ 7 → k ≠ 8 → M'.1 1 k = M.1 1 k) ∧ cur t (kA t p) M') := by
  have hb : ∀ k, k < t.1 → t.2 k < 256 := fun k hk => (hT.2.2 k hk).1
  obtain ⟨h7, h8⟩ : M.1 1 7 = kI (kk t p) ∧ M.1 1 8 = kN t p := by obtain ⟨n, i, -, -, -, -, h7, h8⟩ := hcu; exact ⟨h7, h8⟩
  have e3 : (kI (kk t p) = -3) ↔ kk t p = 258 := kI_inj (k := 258) (kk_le hb) (by omega)
  have hu : zC X (d + 1) 24 [.ref 6, .int (Int32.ofNat c), .int (Int32.ofNat r)] M = zR X (d + 1) 24 (0, [.ref 6, .int (Int32.ofNat c), .int (Int32.ofNat r), zjk], [], M) := rfl
  have tc : (Int32.ofNat c).toNatClampNeg = c := toNat_of (by omega)
  have tr : (Int32.ofNat r).toNatClampNeg = r := toNat_of (by omega)
  obtain ⟨a1, a2, a3, a4⟩ := arE_c (X := X) c hc
  obtain ⟨-, -, n2, n3⟩ := arE_n (X := X)
  have vc : vp_in (Int32.ofNat c) 15 := vp_of hc (by omega)
  have vr : vp_in (Int32.ofNat r) 8 := vp_of hr (by omega)
  have vc2 : vp_in (Int32.ofNat c) (zxn X 62) := by rw [n2]; exact vc
  have vc3 : vp_in (Int32.ofNat c) (zxn X 63) := by rw [n3]; exact vc
  have e10 : (Int32.ofNat c = 10) ↔ c = 10 := of_inj (k := 10) (by omega) (by omega)
  have hT0 := t24_0 (X := X) (d := d) (Int32.ofNat c) (Int32.ofNat r) zjk M hG (fun _ _ => vc2) (fun _ _ _ => vc3) (fun _ _ _ _ => vc) (fun _ _ _ _ => vr) (fun _ _ => vr) (fun _ _ _ => vc2) (fun _ _ _ _ => vc3) (fun _ _ _ _ _ => vc) (fun _ _ _ => vc2) (fun _ _ _ _ => vc3)
  rw [h7, h8, tc, tr, a1, a2] at hT0
  have fl : ∀ x : Int32, ∃ M', ((zC X d 97 [.ref 1, .int 1] M).bind fun o => zR X (d + 1) 24 (97, [.ref 6, .int (Int32.ofNat c), .int (Int32.ofNat r), .int x], zps o.1 [], o.2)) = some (some (.int 0), M') ∧ eF M M' ∧ eZ (1 + 8 * p + 1) M' := fun x => by
    obtain ⟨M2, w1, w2, w3⟩ := e_fail (X := X) (d := d) (w := 1) hG hT hcu (by omega)
    rw [show (1 : Int32) = Int32.ofNat 1 from rfl, w1, Option.bind_some]
    dsimp only [zps]
    rw [t24_97 _ _ _ _ _ w3.2.2.2 (Or.inl rfl)]
    exact ⟨M2, rfl, w2, w3⟩
  refine ⟨fun c1 => ?_, fun c1 c2 => ?_, fun c1 c2 => ?_⟩
  · obtain ⟨M2, w1, w2, w3⟩ := e_fail (X := X) (d := d) (w := 0) hG hT hcu (by omega)
    rw [hu, hT0, if_neg (mt e3.mp c1), show (0 : Int32) = Int32.ofNat 0 from rfl, w1, Option.bind_some]
    dsimp only [zps]
    rw [t24_20 _ _ _ _ _ w3.2.2.2 (Or.inl rfl)]
    exact ⟨M2, rfl, w2, w3⟩
  all_goals
    have hN : kN t p = kNd t p := by
      rcases kcs (p := p) hb with h | h | h | h | h
      · omega
      · omega
      · exact h.2.2.2.2
      · have := h.2.2.1; split at this <;> omega
      · omega
  · rw [hu, hT0, if_pos (e3.mpr c1)]
    by_cases k2 : 5 < ken isD t p - p
    · have hm : kN t p = -1 := by rw [hN]; unfold kNd; rw [if_pos k2]
      have hlt : kN t p < Int32.ofNat (loE c) := by
        rw [hm, Int32.lt_iff_toInt_lt, Int32.toInt_ofNat_of_lt (by omega)]
        show (-1 : Int) < _
        omega
      by_cases k6 : c = 10
      · rw [if_neg (not_not_intro (e10.mpr k6))]
        by_cases k7 : kN t p = M.1 19 r
        · rw [if_neg (not_not_intro k7), if_pos hlt]; exact fl _
        · rw [if_pos k7, if_pos hlt]; exact fl _
      · rw [if_pos (mt e10.mp k6), if_pos hlt]; exact fl _
    · have hv : dvl t p ≤ 99999 := dig (t := t) (p := p) k2
      have hm : kN t p = Int32.ofNat (dvl t p) := by rw [hN]; unfold kNd dvl; rw [if_neg k2]
      have l1 : (kN t p < Int32.ofNat (loE c)) ↔ dvl t p < loE c := by rw [hm]; exact of_lt (by omega) (by omega)
      have l2 : (Int32.ofNat (hiE c) < kN t p) ↔ hiE c < dvl t p := by rw [hm]; exact of_lt (by omega) (by omega)
      by_cases k6 : c = 10
      · rw [if_neg (not_not_intro (e10.mpr k6))]
        by_cases k7 : kN t p = M.1 19 r
        · rw [if_neg (not_not_intro k7)]
          by_cases k3 : kN t p < Int32.ofNat (loE c)
          · rw [if_pos k3]; exact fl _
          · rw [if_neg k3]
            by_cases k4 : Int32.ofNat (hiE c) < kN t p
            · rw [if_pos k4]; exact fl _
            · rw [if_neg k4]; exact fl _
        · rw [if_pos k7]
          by_cases k3 : kN t p < Int32.ofNat (loE c)
          · rw [if_pos k3]; exact fl _
          · rw [if_neg k3]
            by_cases k4 : Int32.ofNat (hiE c) < kN t p
            · rw [if_pos k4]; exact fl _
            · exfalso
              have h1 := mt l1.mpr k3
              have h2 := mt l2.mpr k4
              have h3 : dvl t p = tb 9 r := by omega
              exact k7 (by rw [hm, (h9 k6).1, h3])
      · rw [if_pos (mt e10.mp k6)]
        by_cases k3 : kN t p < Int32.ofNat (loE c)
        · rw [if_pos k3]; exact fl _
        · rw [if_neg k3]
          by_cases k4 : Int32.ofNat (hiE c) < kN t p
          · rw [if_pos k4]; exact fl _
          · exfalso
            have h1 := mt l1.mpr k3
            have h2 := mt l2.mpr k4
            omega
  · have k2 : ¬ 5 < ken isD t p - p := fun h => c2 (Or.inl h)
    have k3 : ¬ dvl t p < loE c := fun h => c2 (Or.inr (Or.inl h))
    have k4 : ¬ hiE c < dvl t p := fun h => c2 (Or.inr (Or.inr (Or.inl h)))
    have hv : dvl t p ≤ 99999 := dig (t := t) (p := p) k2
    have hm : kN t p = Int32.ofNat (dvl t p) := by rw [hN]; unfold kNd dvl; rw [if_neg k2]
    have hG2 : zGE (zsI M (10 + c) r (Int32.ofNat (dvl t p))) := hG
    have hcu2 : cur t p (zsI M (10 + c) r (Int32.ofNat (dvl t p))) := cur_c (zI_n1 (by omega)) (zI_n1 (by omega)) (zI_n1 (by omega)) (zI_n1 (by omega)) hcu
    obtain ⟨M2, w1, w2, w3, w4, w5⟩ := s95 (X := X) (d := d) hG2 hcu2
    have go : ∀ x, ((zC X d 95 [.ref 1] (zsI M (10 + c) r (Int32.ofNat (dvl t p)))).bind fun o => zR X (d + 1) 24 (123, [.ref 6, .int (Int32.ofNat c), .int (Int32.ofNat r), .int x], zps o.1 [], o.2)) = some (some (.int 1), M2) := fun x => by
      rw [w1, Option.bind_some]
      dsimp only [zps]
      rw [t24_123 _ _ _ _ (zGE_of hG2 (by rw [w2]))]
    refine ⟨M2, ?_, w2, fun a q1 q2 => by rw [w3 a q1, zI_n1 q2], fun k => by rw [w3 (10 + c) (by omega), zI_s], fun k q1 q2 q3 => by rw [w4 k q1 q2 q3, zI_n (by omega)], w5⟩
    have l1 : ¬ kN t p < Int32.ofNat (loE c) := by rw [hm, of_lt (by omega) (by omega)]; exact k3
    have l2 : ¬ Int32.ofNat (hiE c) < kN t p := by rw [hm, of_lt (by omega) (by omega)]; exact k4
    rw [hu, hT0, if_pos (e3.mpr c1)]
    by_cases k6 : c = 10
    · have hne : ¬ kN t p = M.1 19 r := by
        obtain ⟨u1, u2⟩ := h9 k6
        rw [hm, u1, of_inj (by omega) (by omega)]
        exact fun h => c2 (Or.inr (Or.inr (Or.inr ⟨k6, h⟩)))
      rw [if_neg (not_not_intro (e10.mpr k6)), if_pos hne, if_neg l1, if_neg l2, hm]
      exact go _
    · rw [if_pos (mt e10.mp k6), if_neg l1, if_neg l2, hm]
      exact go _
