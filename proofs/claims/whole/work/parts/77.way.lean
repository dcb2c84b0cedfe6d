/-! ===== ways ===== -/
def wN (E : zE) (a b : Nat) : Nat := (E (16 + a) b).toNatClampNeg
def rN (E : zE) (a b : Nat) : Nat := (E (24 + a) b).toNatClampNeg
/-- the ways are the shortest -/
def okN (E : zE) : Prop := (∀ a, a < 8 → wN E a a = 0) ∧ (∀ a c b, a < 8 → c < 8 → b < 8 → wN E a b ≤ rN E a c + wN E c b) ∧ ∀ a c, a < 8 → c < 8 → E (24 + a) c = Int32.ofNat (rN E a c) ∧ (rN E a c = 100000 ∨ (1 ≤ rN E a c ∧ rN E a c ≤ 30))
/-- the roads told -/
def okRd (e : Nat) (M : zM) : Prop := (M.1 (e + 1) 3).toNatClampNeg ≤ 8 ∧ ∀ i, i < (M.1 (e + 1) 3).toNatClampNeg → ∃ f t dd, f < 8 ∧ t < 8 ∧ f ≠ t ∧ 1 ≤ dd ∧ dd ≤ 30 ∧ M.1 (e + 12) i = Int32.ofNat f ∧ M.1 (e + 13) i = Int32.ofNat t ∧ M.1 (e + 14) i = Int32.ofNat dd
theorem rw_le {fr to da : Nat → Int32} {a b : Nat} : ∀ n i, i < n → (∀ j, j < n → ∃ dd, dd ≤ 30 ∧ da j = Int32.ofNat dd) → (((fr i).toNatClampNeg = a ∧ (to i).toNatClampNeg = b) ∨ ((fr i).toNatClampNeg = b ∧ (to i).toNatClampNeg = a)) → (∃ v, rwD fr to da a b n = Int32.ofNat v ∧ v ≤ 100000 ∧ v ≤ (da i).toNatClampNeg)
  | 0, i, hi, _, _ => absurd hi (Nat.not_lt_zero _)
  | n + 1, i, hi, hd, he => by
    have gen : ∀ n, (∀ j, j < n → ∃ dd, dd ≤ 30 ∧ da j = Int32.ofNat dd) → ∃ v, v ≤ 100000 ∧ rwD fr to da a b n = Int32.ofNat v := by
      intro n
      induction n with
      | zero => intro _; exact ⟨100000, Nat.le_refl _, rfl⟩
      | succ n ih =>
        intro h
        obtain ⟨v, h1, h2⟩ := ih (fun j hj => h j (by omega))
        obtain ⟨dd, h3, h4⟩ := h n (by omega)
        rw [rwD]
        split
        · exact ⟨dd, by omega, h4⟩
        · exact ⟨v, h1, h2⟩
    obtain ⟨dn, hdn, hdn2⟩ := hd n (by omega)
    rw [rwD]
    by_cases e : i = n
    · subst e
      obtain ⟨v, h1, h2⟩ := gen i (fun j hj => hd j (by omega))
      rw [hdn2, toNat_of (by omega), h2]
      by_cases c : Int32.ofNat dn < Int32.ofNat v
      · rw [if_pos ⟨he, c⟩]
        exact ⟨dn, rfl, by omega, Nat.le_refl _⟩
      · rw [if_neg (fun h => c h.2)]
        rw [of_lt (by omega) (by omega)] at c
        exact ⟨v, rfl, h1, by omega⟩
    · obtain ⟨v, h1, h2, h3⟩ := rw_le n i (by omega) (fun j hj => hd j (by omega)) he
      by_cases c : (((fr n).toNatClampNeg = a ∧ (to n).toNatClampNeg = b) ∨ ((fr n).toNatClampNeg = b ∧ (to n).toNatClampNeg = a)) ∧ da n < rwD fr to da a b n
      · rw [if_pos c]
        have c2 := c.2
        rw [hdn2, h1, of_lt (by omega) (by omega)] at c2
        exact ⟨dn, hdn2, by omega, by omega⟩
      · rw [if_neg c]
        exact ⟨v, h1, h2, h3⟩
theorem rw_ex {fr to da : Nat → Int32} {a b : Nat} : ∀ n, rwD fr to da a b n = 100000 ∨ ∃ i, i < n ∧ (((fr i).toNatClampNeg = a ∧ (to i).toNatClampNeg = b) ∨ ((fr i).toNatClampNeg = b ∧ (to i).toNatClampNeg = a)) ∧ rwD fr to da a b n = da i
  | 0 => Or.inl rfl
  | n + 1 => by
    rw [rwD]
    by_cases c : (((fr n).toNatClampNeg = a ∧ (to n).toNatClampNeg = b) ∨ ((fr n).toNatClampNeg = b ∧ (to n).toNatClampNeg = a)) ∧ da n < rwD fr to da a b n
    · rw [if_pos c]
      exact Or.inr ⟨n, by omega, c.1, rfl⟩
    · rw [if_neg c]
      rcases rw_ex (fr := fr) (to := to) (da := da) (a := a) (b := b) n with h | ⟨i, h1, h2, h3⟩
      · exact Or.inl h
      · exact Or.inr ⟨i, by omega, h2, h3⟩
def pNx (E : zE) (f t : Nat) : Nat → Nat → Int32
  | 0, _ => -1
  | m + 1, c => if rN E f c + wN E c t = wN E f t then Int32.ofNat c else pNx E f t m (c + 1)
def pWay (E : zE) (x y w : Int32) : Int32 := if E 0 0 = 0 then -3 else if x < 0 ∨ 7 < x then -3 else if y < 0 ∨ 7 < y then -3 else if w < 0 ∨ 1 < w then -3 else if wN E x.toNatClampNeg y.toNatClampNeg = 1000 then -2 else if w = 0 then Int32.ofNat (wN E x.toNatClampNeg y.toNatClampNeg) else if x = y then -1 else pNx E x.toNatClampNeg y.toNatClampNeg 8 0
theorem pNx_min {E : zE} {f t : Nat} : ∀ m c, (pNx E f t m c = -1 ∧ ∀ j, c ≤ j → j < c + m → ¬ rN E f j + wN E j t = wN E f t) ∨ ∃ j, c ≤ j ∧ j < c + m ∧ pNx E f t m c = Int32.ofNat j ∧ rN E f j + wN E j t = wN E f t ∧ ∀ i, c ≤ i → i < j → ¬ rN E f i + wN E i t = wN E f t
  | 0, c => Or.inl ⟨rfl, fun j h1 h2 => by omega⟩
  | m + 1, c => by
    rw [pNx]
    by_cases h : rN E f c + wN E c t = wN E f t
    · rw [if_pos h]
      exact Or.inr ⟨c, Nat.le_refl _, by omega, rfl, h, fun i h1 h2 => by omega⟩
    · rw [if_neg h]
      rcases pNx_min (E := E) (f := f) (t := t) m (c + 1) with ⟨h1, h2⟩ | ⟨j, h1, h2, h3, h4, h5⟩
      · refine Or.inl ⟨h1, fun j h3 h4 => ?_⟩
        by_cases e : j = c
        · rw [e]; exact h
        · exact h2 j (by omega) (by omega)
      · refine Or.inr ⟨j, by omega, by omega, h3, h4, fun i h6 h7 => ?_⟩
        by_cases e : i = c
        · rw [e]; exact h
        · exact h5 i (by omega) h7
theorem emD_r {e a b : Nat} {M : zM} (ha : a < 8) (hb : b < 8) (h0 : ¬ M.1 (e + 1) 0 = 0) : emD e M (24 + a) b = rwD (M.1 (e + 12)) (M.1 (e + 13)) (M.1 (e + 14)) a b (M.1 (e + 1) 3).toNatClampNeg := by
  unfold emD
  rw [if_neg (by omega), if_neg (by omega), if_neg (by omega), if_pos (by omega), if_pos hb, if_neg h0, Nat.add_sub_cancel_left]
theorem s13g {X : (Nat → Int32) × Nat} {d : Nat} {x : Int32} {M : zM} (hG : zGE M) : zC X d 13 [.int x] M = some (some (.int (if x < 0 ∨ 7 < x then 0 else 1)), M) := by
  show zR X d 13 (0, [.int x], [], M) = _
  rw [t13_0 _ _ hG]
  by_cases h1 : x < 0
  · rw [if_pos h1, if_pos (Or.inl h1)]
  · rw [if_neg h1]
    by_cases h2 : 7 < x
    · rw [if_pos (Or.inr h2)]
      rw [Int32.lt_iff_toInt_lt] at h2
      have h3 : (7 : Int32).toInt = 7 := rfl
      have h4 : (8 : Int32).toInt = 8 := rfl
      first
      | rw [if_pos (show 8 ≤ x by rw [Int32.le_iff_toInt_le]; omega)]
      | rw [if_neg (show ¬ x < 8 by rw [Int32.lt_iff_toInt_lt]; omega)]
    · rw [if_neg (not_or.mpr ⟨h1, h2⟩)]
      rw [Int32.lt_iff_toInt_lt] at h2
      have h3 : (7 : Int32).toInt = 7 := rfl
      have h4 : (8 : Int32).toInt = 8 := rfl
      first
      | rw [if_neg (show ¬ 8 ≤ x by rw [Int32.le_iff_toInt_le]; omega)]
      | rw [if_pos (show x < 8 by rw [Int32.lt_iff_toInt_lt]; omega)]
theorem s18 {X : (Nat → Int32) × Nat} {d f t : Nat} {M : zM} (hG : zGE M) (hE : okE (emD 40 M)) (hN : okN (emD 40 M)) (hR : okRd 40 M) (h0 : ¬ emD 40 M 0 0 = 0) (hf : f < 8) (ht : t < 8) (hw : wN (emD 40 M) f t < 1000) : zC X (d + 1) 18 [.ref 40, .int (Int32.ofNat f), .int (Int32.ofNat t)] M = some (some (.int (if Int32.ofNat f = Int32.ofNat t then -1 else pNx (emD 40 M) f t 8 0)), M) := by
  show zR X (d + 1) 18 (0, [.ref 40, .int (Int32.ofNat f), .int (Int32.ofNat t), zjk, zjk, zjk], [], M) = _
  obtain ⟨n1, n2, n3⟩ := hN
  obtain ⟨hr8, hrd⟩ := hR
  have h0' : ¬ M.1 41 0 = 0 := fun h => h0 (by rw [emD_0 (by decide)]; exact h)
  have hc3 : M.1 41 3 = Int32.ofNat (M.1 41 3).toNatClampNeg := by
    obtain ⟨k, hk, h1⟩ := hE.2.2.2.1
    have e : M.1 41 3 = Int32.ofNat k := by rw [← h1]; exact (emD_0 (by decide)).symm
    rw [e, toNat_of (by omega)]
  generalize hn : (M.1 41 3).toNatClampNeg = n at hr8 hrd hc3
  have hww : ∀ a b, a < 8 → b < 8 → M.1 (59 + a) b = Int32.ofNat (wN (emD 40 M) a b) ∧ wN (emD 40 M) a b ≤ 1000 := fun a b ha hb => by
    obtain ⟨k, hk, h1⟩ := hE.2.2.2.2.2.2 a b ha hb
    have e1 : emD 40 M (16 + a) b = M.1 (40 + 3 + (16 + a)) b := emD_w (by omega) (by omega) hb
    have e2 : wN (emD 40 M) a b = k := by unfold wN; rw [h1, toNat_of (by omega)]
    rw [e2, ← h1, e1, show 40 + 3 + (16 + a) = 59 + a by omega]
    exact ⟨rfl, hk⟩
  have hda : ∀ j, j < n → ∃ dd, dd ≤ 30 ∧ M.1 54 j = Int32.ofNat dd := fun j hj => by
    obtain ⟨f, t, dd, _, _, _, _, h5, _, _, h8⟩ := hrd j hj
    exact ⟨dd, h5, h8⟩
  have hrr : ∀ a c, a < 8 → c < 8 → emD 40 M (24 + a) c = rwD (M.1 52) (M.1 53) (M.1 54) a c n := fun a c ha hc => by
    rw [emD_r ha hc h0', ← hn]
  -- a road that serves
  have good : ∀ c, c < 8 → (rN (emD 40 M) f c + wN (emD 40 M) c t = wN (emD 40 M) f t ↔ ∃ i, i < n ∧ (((M.1 52 i).toNatClampNeg = f ∧ (M.1 53 i).toNatClampNeg = c) ∨ ((M.1 52 i).toNatClampNeg = c ∧ (M.1 53 i).toNatClampNeg = f)) ∧ (M.1 54 i).toNatClampNeg + wN (emD 40 M) c t = wN (emD 40 M) f t) := by
    intro c hc
    have hR := hrr f c hf hc
    have e24 : rN (emD 40 M) f c = (rwD (M.1 52) (M.1 53) (M.1 54) f c n).toNatClampNeg := by unfold rN; rw [hR]
    constructor
    · intro h
      rcases rw_ex (fr := M.1 52) (to := M.1 53) (da := M.1 54) (a := f) (b := c) n with h1 | ⟨i, h1, h2, h3⟩
      · have : rN (emD 40 M) f c = 100000 := by rw [e24, h1]; decide
        omega
      · exact ⟨i, h1, h2, by rw [← h3, ← e24]; exact h⟩
    · rintro ⟨i, h1, h2, h3⟩
      obtain ⟨v, v1, v2, v3⟩ := rw_le (fr := M.1 52) (to := M.1 53) (da := M.1 54) (a := f) (b := c) n i h1 hda h2
      have e : rN (emD 40 M) f c = v := by rw [e24, v1, toNat_of (by omega)]
      have := n2 f c t hf hc ht
      omega
  have loop : ∀ m k best v, k + m = n → ((best = -1 ∧ ∀ i c, i < k → c < 8 → (((M.1 52 i).toNatClampNeg = f ∧ (M.1 53 i).toNatClampNeg = c) ∨ ((M.1 52 i).toNatClampNeg = c ∧ (M.1 53 i).toNatClampNeg = f)) → ¬ (M.1 54 i).toNatClampNeg + wN (emD 40 M) c t = wN (emD 40 M) f t) ∨ ∃ b, b < 8 ∧ best = Int32.ofNat b ∧ rN (emD 40 M) f b + wN (emD 40 M) b t = wN (emD 40 M) f t ∧ ∀ i c, i < k → c < 8 → (((M.1 52 i).toNatClampNeg = f ∧ (M.1 53 i).toNatClampNeg = c) ∨ ((M.1 52 i).toNatClampNeg = c ∧ (M.1 53 i).toNatClampNeg = f)) → (M.1 54 i).toNatClampNeg + wN (emD 40 M) c t = wN (emD 40 M) f t → b ≤ c) → zR X (d + 1) 18 (5, [.ref 40, .int (Int32.ofNat f), .int (Int32.ofNat t), .int best, .int (Int32.ofNat k), v], [], M) = some (some (.int (if Int32.ofNat f = Int32.ofNat t then -1 else pNx (emD 40 M) f t 8 0)), M) := by
    intro m
    induction m with
    | zero =>
      intro k best v hk inv
      have hkn : k = n := by omega
      subst hkn
      have h41 : M.1 (40 + 1) 3 = Int32.ofNat k := hc3
      rw [t18_5 _ _ _ _ _ _ _ hG zq_40, h41, if_pos (Int32.le_refl _)]
      have key : best = if Int32.ofNat f = Int32.ofNat t then -1 else pNx (emD 40 M) f t 8 0 := by
        rw [fi_eq (by omega) (by omega)]
        by_cases e : f = t
        · rw [if_pos e]
          rcases inv with h | ⟨b, h1, h2, h3, h4⟩
          · exact h.1
          · rw [e, n1 t ht] at h3
            have h5 := (n3 t b ht h1).2
            omega
        · rw [if_neg e]
          rcases pNx_min (E := emD 40 M) (f := f) (t := t) 8 0 with ⟨p1, p2⟩ | ⟨j, p1, p2, p3, p4, p5⟩
          · rcases inv with h | ⟨b, h1, h2, h3, h4⟩
            · rw [h.1, p1]
            · exact absurd h3 (p2 b (by omega) (by omega))
          · rcases inv with h | ⟨b, h1, h2, h3, h4⟩
            · obtain ⟨i, i1, i2, i3⟩ := (good j (by omega)).mp p4
              exact absurd i3 (h.2 i j i1 (by omega) i2)
            · obtain ⟨i, i1, i2, i3⟩ := (good j (by omega)).mp p4
              have h5 := h4 i j i1 (by omega) i2 i3
              have h6 : ¬ b < j := fun h => p5 b (by omega) h h3
              rw [h2, p3, show b = j by omega]
      rw [key]
    | succ m ih =>
      intro k best v hk inv
      have hnle : ¬ M.1 (40 + 1) 3 ≤ Int32.ofNat k := by
        have h41 : M.1 (40 + 1) 3 = Int32.ofNat n := hc3
        rw [h41, of_le (by omega) (by omega)]
        omega
      obtain ⟨rf, rt, dd, r1, r2, r3, r4, r5, r6, r7, r8⟩ := hrd k (by omega)
      have kk : (Int32.ofNat k).toNatClampNeg = k := toNat_of (by omega)
      have e19 : zC X d 19 [.ref 40, .int (Int32.ofNat k), .int (Int32.ofNat f)] M = some (some (.int (if rf = f then Int32.ofNat rt else if rt = f then Int32.ofNat rf else -1)), M) := by
        show zR X d 19 (0, [.ref 40, .int (Int32.ofNat k), .int (Int32.ofNat f)], [], M) = _
        have lem := t19_0 (X := X) (d := d) 40 (Int32.ofNat k) (Int32.ofNat f) M hG zq_40 (vp_of (by omega) (by omega))
        rw [kk, r6, r7] at lem
        rw [lem, fi_ne (by omega) (by omega), fi_ne (by omega) (by omega)]
        by_cases c1 : rf = f
        · rw [if_neg (not_not_intro c1), if_pos c1]
        · rw [if_pos c1, if_neg c1]
          by_cases c2 : rt = f
          · rw [if_neg (not_not_intro c2), if_pos c2]
          · rw [if_pos c2, if_neg c2]
      have n52 : (M.1 52 k).toNatClampNeg = rf := by rw [show M.1 52 k = Int32.ofNat rf from r6, toNat_of (by omega)]
      have n53 : (M.1 53 k).toNatClampNeg = rt := by rw [show M.1 53 k = Int32.ofNat rt from r7, toNat_of (by omega)]
      have n54 : (M.1 54 k).toNatClampNeg = dd := by rw [show M.1 54 k = Int32.ofNat dd from r8, toNat_of (by omega)]
      -- the other end, if this road touches f
      have hit : ∀ oc, oc < 8 → ((rf = f ∧ rt = oc) ∨ (rf = oc ∧ rt = f)) → (∀ c, ((rf = f ∧ rt = c) ∨ (rf = c ∧ rt = f)) → c = oc) → zR X (d + 1) 18 (23, [.ref 40, .int (Int32.ofNat f), .int (Int32.ofNat t), .int best, .int (Int32.ofNat k), v], [.int (Int32.ofNat oc)], M) = some (some (.int (if Int32.ofNat f = Int32.ofNat t then -1 else pNx (emD 40 M) f t 8 0)), M) := by
        intro oc hoc hends huniq
        obtain ⟨w1, w2⟩ := hww oc t hoc ht
        obtain ⟨w3, w4⟩ := hww f t hf ht
        have oo : (Int32.ofNat oc).toNatClampNeg = oc := toNat_of (by omega)
        have tt : (Int32.ofNat t).toNatClampNeg = t := toNat_of (by omega)
        have ff : (Int32.ofNat f).toNatClampNeg = f := toNat_of (by omega)
        have hends' : (((M.1 52 k).toNatClampNeg = f ∧ (M.1 53 k).toNatClampNeg = oc) ∨ ((M.1 52 k).toNatClampNeg = oc ∧ (M.1 53 k).toNatClampNeg = f)) := by rw [n52, n53]; exact hends
        rw [t18_23 _ _ _ _ _ _ _ _ hG zq_40, s13 hG hoc, Option.bind_some]
        dsimp only [zps]
        have lem := t18_30 (X := X) (d := d + 1) 40 (Int32.ofNat f) (Int32.ofNat t) best (Int32.ofNat k) (Int32.ofNat oc) 1 M hG zq_40 (fun _ => vp_of (by omega) (by omega)) (fun _ => vp_of (by omega) (by omega)) (fun _ => vp_of (by omega) (by omega)) (fun _ => vp_of (by omega) (by omega))
        rw [kk, oo, tt, ff, r8] at lem
        have lem2 : _ = _ := lem
        rw [show M.1 (40 + 19 + oc) t = Int32.ofNat (wN (emD 40 M) oc t) from w1, show M.1 (40 + 19 + f) t = Int32.ofNat (wN (emD 40 M) f t) from w3, ← Int32.ofNat_add] at lem2
        rw [lem2, if_neg (by decide), fi_ne (by omega) (by omega), of_succ]
        by_cases g1 : dd + wN (emD 40 M) oc t = wN (emD 40 M) f t
        · have hgood : rN (emD 40 M) f oc + wN (emD 40 M) oc t = wN (emD 40 M) f t := (good oc hoc).mpr ⟨k, by omega, hends', by rw [n54]; exact g1⟩
          rw [if_neg (not_not_intro g1)]
          rcases inv with ⟨h1, h2⟩ | ⟨b, h1, h2, h3, h4⟩
          · rw [if_pos h1]
            refine ih (k + 1) _ _ (by omega) (Or.inr ⟨oc, hoc, rfl, hgood, fun i c hi hc he hs => ?_⟩)
            by_cases e : i = k
            · rw [e, n52, n53] at he
              rw [huniq c he]
              exact Nat.le_refl _
            · exact absurd hs (h2 i c (by omega) hc he)
          · rw [h2, if_neg (ne_m1 (by omega)), fi_le (by omega) (by omega)]
            by_cases g2 : b ≤ oc
            · rw [if_pos g2]
              refine ih (k + 1) _ _ (by omega) (Or.inr ⟨b, h1, rfl, h3, fun i c hi hc he hs => ?_⟩)
              by_cases e : i = k
              · rw [e, n52, n53] at he
                rw [huniq c he]
                exact g2
              · exact h4 i c (by omega) hc he hs
            · rw [if_neg g2]
              refine ih (k + 1) _ _ (by omega) (Or.inr ⟨oc, hoc, rfl, hgood, fun i c hi hc he hs => ?_⟩)
              by_cases e : i = k
              · rw [e, n52, n53] at he
                rw [huniq c he]
                exact Nat.le_refl _
              · have := h4 i c (by omega) hc he hs
                omega
        · rw [if_pos g1]
          refine ih (k + 1) _ _ (by omega) ?_
          rcases inv with ⟨h1, h2⟩ | ⟨b, h1, h2, h3, h4⟩
          · refine Or.inl ⟨h1, fun i c hi hc he hs => ?_⟩
            by_cases e : i = k
            · rw [e, n52, n53] at he
              rw [e, n54, huniq c he] at hs
              exact g1 hs
            · exact h2 i c (by omega) hc he hs
          · refine Or.inr ⟨b, h1, h2, h3, fun i c hi hc he hs => ?_⟩
            by_cases e : i = k
            · rw [e, n52, n53] at he
              rw [e, n54, huniq c he] at hs
              exact absurd hs g1
            · exact h4 i c (by omega) hc he hs
      rw [t18_5 _ _ _ _ _ _ _ hG zq_40, if_neg hnle, e19, Option.bind_some]
      dsimp only [zps]
      by_cases c1 : rf = f
      · rw [if_pos c1]
        exact hit rt r2 (Or.inl ⟨c1, rfl⟩) (fun c h => by rcases h with h | h; exact h.2.symm; exact absurd (c1.trans h.2.symm) r3)
      · rw [if_neg c1]
        by_cases c2 : rt = f
        · rw [if_pos c2]
          exact hit rf r1 (Or.inr ⟨rfl, c2⟩) (fun c h => by rcases h with h | h; exact absurd h.1 c1; exact h.1.symm)
        · rw [if_neg c2, t18_23 _ _ _ _ _ _ _ _ hG zq_40, s13g hG, if_pos (Or.inl (by decide)), Option.bind_some]
          dsimp only [zps]
          have lem := t18_30 (X := X) (d := d + 1) 40 (Int32.ofNat f) (Int32.ofNat t) best (Int32.ofNat k) (-1) 0 M hG zq_40 (fun h => absurd rfl h) (fun h => absurd rfl h) (fun h => absurd rfl h) (fun h => absurd rfl h)
          rw [lem, if_pos rfl, of_succ]
          refine ih (k + 1) _ _ (by omega) ?_
          have no : ∀ c, ¬ (((M.1 52 k).toNatClampNeg = f ∧ (M.1 53 k).toNatClampNeg = c) ∨ ((M.1 52 k).toNatClampNeg = c ∧ (M.1 53 k).toNatClampNeg = f)) := fun c h => by
            rw [n52, n53] at h
            rcases h with h | h
            · exact c1 h.1
            · exact c2 h.2
          rcases inv with ⟨h1, h2⟩ | ⟨b, h1, h2, h3, h4⟩
          · refine Or.inl ⟨h1, fun i c hi hc he hs => ?_⟩
            by_cases e : i = k
            · rw [e] at he; exact no c he
            · exact h2 i c (by omega) hc he hs
          · refine Or.inr ⟨b, h1, h2, h3, fun i c hi hc he hs => ?_⟩
            by_cases e : i = k
            · rw [e] at he; exact (no c he).elim
            · exact h4 i c (by omega) hc he hs
  rw [t18_0 _ _ _ _ _ _ _ hG zq_40]
  exact loop n 0 (-1) zjk (by omega) (Or.inl ⟨rfl, fun i c hi => absurd hi (Nat.not_lt_zero _)⟩)
theorem s119 {X : (Nat → Int32) × Nat} {d : Nat} {x y w : Int32} {M : zM} (hG : zGE M) (hE : okE (emD 40 M)) (hN : ¬ emD 40 M 0 0 = 0 → okN (emD 40 M)) (hR : okRd 40 M) : zC X (d + 2) 119 [.ref 0, .int x, .int y, .int w] M = some (some (.int (pWay (emD 40 M) x y w)), M) := by
  show zR X (d + 2) 119 (0, [.ref 0, .int x, .int y, .int w, zjk], [], M) = _
  unfold pWay
  rw [t119_0 _ _ _ _ _ hG, s11 hG zq_40 hE, Option.bind_some]
  dsimp only [zps]
  rw [t119_10 _ _ _ _ _ _ hG]
  by_cases c0 : emD 40 M 0 0 = 0
  · rw [if_pos c0, if_pos c0, if_pos rfl]
  · rw [if_neg c0, if_neg c0, if_neg (by decide), s13g hG, Option.bind_some]
    dsimp only [zps]
    rw [t119_17 _ _ _ _ _ _ hG]
    by_cases c1 : x < 0 ∨ 7 < x
    · rw [if_pos c1, if_pos c1, if_pos rfl]
    · rw [if_neg c1, if_neg c1, if_neg (by decide), s13g hG, Option.bind_some]
      dsimp only [zps]
      rw [t119_24 _ _ _ _ _ _ hG]
      by_cases c2 : y < 0 ∨ 7 < y
      · rw [if_pos c2, if_pos c2, if_pos rfl]
      · rw [if_neg c2, if_neg c2, if_neg (by decide)]
        by_cases c3 : w < 0
        · rw [if_pos c3, if_pos (Or.inl c3)]
        · rw [if_neg c3]
          by_cases c4 : 1 < w
          · rw [if_neg (Int32.not_le.mpr c4), if_pos (Or.inr c4)]
          · obtain ⟨e1, -, e3⟩ := of_range (x := x) (a := 0) (b := 7) (by omega) (by omega) c1
            obtain ⟨g1, -, g3⟩ := of_range (x := y) (a := 0) (b := 7) (by omega) (by omega) c2
            rw [if_pos (Int32.not_lt.mp c4), if_neg (not_or.mpr ⟨c3, c4⟩)]
            generalize x.toNatClampNeg = f at e1 e3 ⊢
            generalize y.toNatClampNeg = t at g1 g3 ⊢
            subst e1
            subst g1
            have ff : (Int32.ofNat f).toNatClampNeg = f := toNat_of (by omega)
            have tt : (Int32.ofNat t).toNatClampNeg = t := toNat_of (by omega)
            obtain ⟨k, hk, h1⟩ := hE.2.2.2.2.2.2 f t (by omega) (by omega)
            have ew : wN (emD 40 M) f t = k := by unfold wN; rw [h1, toNat_of (by omega)]
            have ec : M.1 (40 + 19 + f) t = Int32.ofNat k := by
              rw [← h1, emD_w (by omega) (by omega) (by omega), show 40 + 3 + (16 + f) = 40 + 19 + f by omega]
            have e17 : zC X (d + 1) 17 [.ref 40, .int (Int32.ofNat f), .int (Int32.ofNat t)] M = some (some (.int (if k = 1000 then -1 else Int32.ofNat k)), M) := by
              show zR X (d + 1) 17 (0, [.ref 40, .int (Int32.ofNat f), .int (Int32.ofNat t)], [], M) = _
              have lem := t17_0 (X := X) (d := d + 1) 40 (Int32.ofNat f) (Int32.ofNat t) M hG zq_40 (vp_of (by omega) (by omega)) (vp_of (by omega) (by omega))
              rw [ff, tt, ec] at lem
              rw [lem, show (1000 : Int32) = Int32.ofNat 1000 from rfl, fi_le (by omega) (by omega)]
              by_cases c : k = 1000
              · rw [if_pos (by omega), if_pos c]
              · rw [if_neg (by omega), if_neg c]
            rw [e17, Option.bind_some, ew]
            dsimp only [zps]
            rw [t119_51 _ _ _ _ _ _ hG]
            by_cases c5 : k = 1000
            · rw [if_pos c5, if_neg (not_not_intro rfl), if_pos c5]
            · rw [if_neg c5, if_pos (ne_m1 (by omega)), if_neg c5]
              by_cases c6 : w = 0
              · rw [if_neg (not_not_intro c6), if_pos c6]
              · rw [if_pos c6, if_neg c6, s18 hG hE (hN c0) hR c0 (by omega) (by omega) (by omega), Option.bind_some]
                dsimp only [zps]
                rw [t119_83 _ _ _ _ _ _ hG]
theorem r219 {X : (Nat → Int32) × Nat} {d : Nat} {x y w : Int32} {M : zM} (hM : okM M) (hN : ¬ emR M 0 0 = 0 → okN (emR M)) : zC X (d + 1) 219 [.ref 460, .int x, .int y, .int w] M = some (some (.int (pWay (emR M) x y w)), M) := by
  show zR X (d + 1) 219 (0, [.ref 460, .int x, .int y, .int w, zjk, zjk], [], M) = _
  have hG := hM.1
  have h0 : M.1 460 25 = emR M 0 0 := rfl
  unfold pWay
  rw [t219_0 _ _ _ _ _ _ hG, h0]
  by_cases c0 : emR M 0 0 = 0
  · rw [if_pos c0, if_pos c0]
  · rw [if_neg c0, if_neg c0, r135i (y := 0) (z := 7) (a := 0) (b := 7) hG rfl rfl, Option.bind_some]
    dsimp only [zps]
    rw [t219_16 _ _ _ _ _ _ _ hG]
    by_cases c1 : x < 0 ∨ 7 < x
    · rw [if_pos c1, if_pos c1, if_pos rfl]
    · rw [if_neg c1, if_neg c1, if_neg (by decide), r135i (y := 0) (z := 7) (a := 0) (b := 7) hG rfl rfl, Option.bind_some]
      dsimp only [zps]
      rw [t219_28 _ _ _ _ _ _ _ hG]
      by_cases c2 : y < 0 ∨ 7 < y
      · rw [if_pos c2, if_pos c2, if_pos rfl]
      · rw [if_neg c2, if_neg c2, if_neg (by decide), r135i (y := 0) (z := 1) (a := 0) (b := 1) hG rfl rfl, Option.bind_some]
        dsimp only [zps]
        obtain ⟨e1, -, e3⟩ := of_range (x := x) (a := 0) (b := 7) (by omega) (by omega) c1
        obtain ⟨g1, -, g3⟩ := of_range (x := y) (a := 0) (b := 7) (by omega) (by omega) c2
        generalize x.toNatClampNeg = f at e1 e3 ⊢
        generalize y.toNatClampNeg = t at g1 g3 ⊢
        subst e1
        subst g1
        have e8 : ∀ a b : Nat, 8 * Int32.ofNat a + Int32.ofNat b = Int32.ofNat (8 * a + b) := fun a b => by rw [Int32.ofNat_add, Int32.ofNat_mul]; rfl
        have n8 : ∀ a b : Nat, a < 8 → b < 8 → (8 * Int32.ofNat a + Int32.ofNat b).toNatClampNeg = 8 * a + b := fun a b _ _ => by rw [e8]; exact toNat_of (by omega)
        have vp8 : ∀ a b : Nat, a < 8 → b < 8 → vp_in (8 * Int32.ofNat a + Int32.ofNat b) 64 := fun a b _ _ => by rw [e8]; exact vp_of (by omega) (by omega)
        have far : ∀ a b, a < 8 → b < 8 → (wN (emR M) a b < 1000 ∧ M.1 470 (8 * a + b) = Int32.ofNat (wN (emR M) a b)) ∨ (wN (emR M) a b = 1000 ∧ M.1 470 (8 * a + b) = Int32.ofNat 100000) := fun a b ha hb => by
          have ez := emR_w (M := M) ha hb
          rcases hM.2.2 (8 * a + b) (by omega) with ⟨k, hk, h1⟩ | h1
          · left
            have : wN (emR M) a b = k := by unfold wN; rw [ez, h1, zcp_lt hk, toNat_of (by omega)]
            rw [this]
            exact ⟨hk, h1⟩
          · right
            have : wN (emR M) a b = 1000 := by unfold wN; rw [ez, h1]; decide
            exact ⟨this, h1⟩
        have road : ∀ a b, a < 8 → b < 8 → M.1 493 (8 * a + b) = Int32.ofNat (rN (emR M) a b) ∧ (rN (emR M) a b = 100000 ∨ (1 ≤ rN (emR M) a b ∧ rN (emR M) a b ≤ 30)) := fun a b ha hb => by
          obtain ⟨h1, h2⟩ := (hN c0).2.2 a b ha hb
          refine ⟨?_, h2⟩
          rw [← h1]
          unfold emR
          rw [if_neg (by omega), if_neg (by omega), if_neg (by omega), if_pos (by omega), if_pos hb, if_neg (show ¬ M.1 460 25 = 0 from c0), Nat.add_sub_cancel_left]
        have lem := t219_38 (X := X) (d := d + 1) (Int32.ofNat f) (Int32.ofNat t) w zjk zjk (if w < 0 ∨ 1 < w then 0 else 1) M hG (fun _ => vp8 f t (by omega) (by omega))
        rw [n8 f t (by omega) (by omega)] at lem
        rw [lem]
        by_cases c3 : w < 0 ∨ 1 < w
        · rw [if_pos c3, if_pos c3, if_neg (not_not_intro rfl)]
        · rw [if_neg c3, if_neg c3, if_pos (by decide)]
          rcases far f t (by omega) (by omega) with ⟨a1, a2⟩ | ⟨a1, a2⟩
          · rw [a2, fi_le (by omega) (by omega), if_neg (by omega), if_neg (show ¬ wN (emR M) f t = 1000 by omega)]
            by_cases c6 : w = 0
            · rw [if_neg (not_not_intro c6), fi_lt (by omega) (by omega), if_pos (by omega), if_pos c6]
            · rw [if_pos c6, if_neg c6]
              have loop : ∀ m c, c + m = 8 → zR X (d + 1) 219 (88, [.ref 460, .int (Int32.ofNat f), .int (Int32.ofNat t), .int w, .int (Int32.ofNat (wN (emR M) f t)), .int (Int32.ofNat c)], [], M) = some (some (.int (if Int32.ofNat f = Int32.ofNat t then -1 else pNx (emR M) f t m c)), M) := by
                intro m
                induction m with
                | zero =>
                  intro c hc
                  have hle : (8 : Int32) ≤ Int32.ofNat c := by rw [show (8 : Int32) = Int32.ofNat 8 from rfl, of_le (by omega) (by omega)]; omega
                  rw [t219_88 _ _ _ _ _ _ hG (fun h => absurd hle h) (fun h => absurd hle h), if_pos hle]
                  show _ = some (some (Value.int (if Int32.ofNat f = Int32.ofNat t then -1 else -1)), M)
                  rw [ite_self]
                | succ m ih =>
                  intro c hc
                  have hnle : ¬ (8 : Int32) ≤ Int32.ofNat c := by rw [show (8 : Int32) = Int32.ofNat 8 from rfl, of_le (by omega) (by omega)]; omega
                  have lem := t219_88 (X := X) (d := d + 1) (Int32.ofNat f) (Int32.ofNat t) w (Int32.ofNat (wN (emR M) f t)) (Int32.ofNat c) M hG (fun _ _ => vp8 f c (by omega) (by omega)) (fun _ _ => vp8 c t (by omega) (by omega))
                  rw [n8 f c (by omega) (by omega), n8 c t (by omega) (by omega)] at lem
                  obtain ⟨r1, r2⟩ := road f c (by omega) (by omega)
                  rw [r1] at lem
                  rw [lem, if_neg hnle, of_succ]
                  by_cases e : Int32.ofNat f = Int32.ofNat t
                  · rw [if_pos e, if_pos e]
                  · have h9 := ih (c + 1) (by omega)
                    rw [if_neg e] at h9
                    rw [if_neg e, if_neg e, pNx]
                    rcases far c t (by omega) (by omega) with ⟨b1, b2⟩ | ⟨b1, b2⟩
                    · rw [b2, ← Int32.ofNat_add, fi_ne (by omega) (by omega)]
                      by_cases g : rN (emR M) f c + wN (emR M) c t = wN (emR M) f t
                      · rw [if_neg (not_not_intro g), if_pos g]
                      · rw [if_pos g, if_neg g]
                        exact h9
                    · rw [b2, ← Int32.ofNat_add, fi_ne (by omega) (by omega), if_pos (by omega), if_neg (by omega)]
                      exact h9
              exact loop 8 0 (by omega)
          · rw [a2, if_pos (Int32.le_refl _), if_neg (fun h => Int32.lt_irrefl h), if_pos a1]
