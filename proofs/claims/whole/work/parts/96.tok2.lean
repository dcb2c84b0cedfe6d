/-! ===== the class lays its pieces and goes along ===== -/
/-- the places of the pieces -/
def kS (t : zTx) : Nat → Nat
  | 0 => ken isB t 0
  | i + 1 => kA t (kS t i)
theorem kS_le {t : zTx} : ∀ i, kS t i ≤ t.1
  | 0 => (ken_b (P := isB) (t := t) (p := 0)).2.1 (Nat.zero_le _)
  | i + 1 => (kA_le (kS_le i)).2
theorem kS_n {t : zTx} : ∀ i, ken isB t (kS t i) = kS t i
  | 0 => kB_i
  | _ + 1 => kA_n
theorem kS_ge {t : zTx} : ∀ i, (∀ j, j < i → kS t j < t.1) → i ≤ kS t i
  | 0, _ => Nat.zero_le _
  | i + 1, h => by
    have h1 := kS_ge (t := t) i (fun j hj => h j (by omega))
    have h2 := (kA_b (h i (by omega))).1
    rw [kS]
    omega
/-- n pieces are laid -/
def lai (t : zTx) (n : Nat) (M : zM) : Prop := ∀ i, i < n → M.1 3 i = kI (kk t (kS t i)) ∧ M.1 4 i = kN t (kS t i) ∧ M.1 5 i = Int32.ofNat (kS t i)
def laid (t : zTx) (n : Nat) (M : zM) : Prop := n ≤ 400 ∧ M.1 1 5 = Int32.ofNat (n + 1) ∧ kS t n = t.1 ∧ (∀ i, i < n → kS t i < t.1) ∧ lai t (n + 1) M
def cur (t : zTx) (p : Nat) (M : zM) : Prop := ∃ n i, laid t n M ∧ i ≤ n ∧ p = kS t i ∧ M.1 1 6 = Int32.ofNat i ∧ M.1 1 7 = kI (kk t p) ∧ M.1 1 8 = kN t p
/-- cells that opening and going along may use -/
def oF (M M' : zM) : Prop := M'.2 = M.2 ∧ (∀ a, a ≠ 1 → a ≠ 3 → a ≠ 4 → a ≠ 5 → M'.1 a = M.1 a) ∧ ∀ k, k < 5 → M'.1 1 k = M.1 1 k
theorem oF_T {t : zTx} {M M' : zM} (h : oF M M') (hT : tqD t M) : tqD t M' := ⟨hT.1, by rw [h.2.2 1 (by omega)]; exact hT.2.1, fun k hk => by rw [h.2.1 2 (by omega) (by omega) (by omega) (by omega)]; exact hT.2.2 k hk⟩
theorem oF_G {M M' : zM} (h : oF M M') (hG : zGE M) : zGE M' := zGE_of hG (by rw [h.1])
theorem oF_r {M : zM} : oF M M := ⟨rfl, fun _ _ _ _ _ => rfl, fun _ _ => rfl⟩
theorem oF_t {M M1 M2 : zM} (h : oF M M1) (h' : oF M1 M2) : oF M M2 := ⟨h'.1.trans h.1, fun a q1 q2 q3 q4 => (h'.2.1 a q1 q2 q3 q4).trans (h.2.1 a q1 q2 q3 q4), fun k hk => (h'.2.2 k hk).trans (h.2.2 k hk)⟩
theorem s91 {X : (Nat → Int32) × Nat} {d n : Nat} {t : zTx} {M : zM} {x y : Int32} (hG : zGE M) (h5 : M.1 1 5 = Int32.ofNat n) (hn : n ≤ 400) (hl : lai t n M) (hx : x = kI (kk t (kS t n))) (hy : y = kN t (kS t n)) : ∃ M', zC X d 91 [.ref 1, .int x, .int y, .int (Int32.ofNat (kS t n))] M = some (none, M') ∧ oF M M' ∧ M'.1 1 5 = Int32.ofNat (n + 1) ∧ (∀ k, k ≠ 5 → M'.1 1 k = M.1 1 k) ∧ lai t (n + 1) M' := by
  show ∃ M', zR X d 91 (0, [.ref 1, .int x, .int y, .int (Int32.ofNat (kS t n))], [], M) = some (none, M') ∧ _
  have c : ¬ (400 : Int32) < M.1 1 5 := by rw [h5, show (400 : Int32) = Int32.ofNat 400 from rfl, of_lt (by omega) (by omega)]; omega
  rw [t91_0 _ _ _ _ hG (fun _ => by rw [h5]; exact vp_of (by omega) (by omega)), if_neg c, h5, toNat_of (by omega), of_succ]
  refine ⟨_, rfl, ⟨by rw [z2_I, z2_I, z2_I, z2_I], fun a q1 q2 q3 q4 => by rw [zI_n1 q1, zI_n1 q4, zI_n1 q3, zI_n1 q2], fun k hk => by rw [zI_s, if_neg (by omega), zI_n (by omega), zI_n (by omega), zI_n (by omega)]⟩, by rw [zI_s, if_pos rfl], fun k hk => by rw [zI_s, if_neg hk, zI_n (by omega), zI_n (by omega), zI_n (by omega)], fun i hi => ?_⟩
  rw [zI_n (by omega), zI_n (by omega), zI_n (by omega), zI_s, zI_n (by omega), zI_n (by omega), zI_s, zI_n (by omega), zI_n (by omega), zI_s]
  by_cases e : i = n
  · rw [if_pos e, if_pos e, if_pos e, e]
    exact ⟨hx, hy, rfl⟩
  · rw [if_neg e, if_neg e, if_neg e]
    exact hl i (by omega)
/-- the pieces after the last one -/
theorem s95 {X : (Nat → Int32) × Nat} {d p : Nat} {t : zTx} {M : zM} (hG : zGE M) (hc : cur t p M) : ∃ M', zC X d 95 [.ref 1] M = some (none, M') ∧ M'.2 = M.2 ∧ (∀ a, a ≠ 1 → M'.1 a = M.1 a) ∧ (∀ k, k ≠ 6 → k ≠ 7 → k ≠ 8 → M'.1 1 k = M.1 1 k) ∧ cur t (kA t p) M' := by
  obtain ⟨n, i, hl, hi, hp, h6, h7, h8⟩ := hc
  obtain ⟨l1, l2, l3, l4, l5⟩ := id hl
  show ∃ M', zR X d 95 (0, [.ref 1], [], M) = some (none, M') ∧ _
  rw [t95_0 _ hG (fun h => by rw [h6, of_succ]; exact vp_of (by rw [l2, h6, of_succ, of_le (by omega) (by omega)] at h; omega) (by omega)), l2, h6, of_succ, fi_le (by omega) (by omega), toNat_of (by omega)]
  by_cases c : n + 1 ≤ i + 1
  · have e : i = n := by omega
    subst e
    rw [if_pos c]
    refine ⟨M, rfl, rfl, fun _ _ => rfl, fun _ _ _ _ => rfl, i, i, hl, hi, ?_, h6, ?_, ?_⟩
    · rw [kA_l (by omega), hp]
    · rw [kA_l (by omega), h7]
    · rw [kA_l (by omega), h8]
  · rw [if_neg c]
    obtain ⟨q1, q2, q3⟩ := l5 (i + 1) (by omega)
    have hk : kA t p = kS t (i + 1) := by rw [hp]; rfl
    refine ⟨_, rfl, by rw [z2_I, z2_I, z2_I], fun a ha => by rw [zI_n1 ha, zI_n1 ha, zI_n1 ha], fun k k1 k2 k3 => by rw [zI_s, if_neg k3, zI_s, if_neg k2, zI_s, if_neg k1], n, i + 1, ⟨l1, ?_, l3, l4, fun j hj => ?_⟩, by omega, hk, ?_, ?_, ?_⟩
    · rw [zI_s, if_neg (by omega), zI_s, if_neg (by omega), zI_s, if_neg (by omega)]; exact l2
    · rw [zI_n (by omega), zI_n (by omega), zI_n (by omega), zI_n (by omega), zI_n (by omega), zI_n (by omega), zI_n (by omega), zI_n (by omega), zI_n (by omega)]
      exact l5 j hj
    · rw [zI_s, if_neg (by omega), zI_s, if_neg (by omega), zI_s, if_pos rfl]
    · rw [zI_s, if_neg (by omega), zI_s, if_pos rfl, hk]; exact q1
    · rw [zI_s, if_pos rfl, hk]; exact q2
theorem s97 {X : (Nat → Int32) × Nat} {d p w : Nat} {t : zTx} {M : zM} (hG : zGE M) (hc : cur t p M) : zC X d 97 [.ref 1, .int (Int32.ofNat w)] M = some (some (.int 0), zsI M 1 9 (Int32.ofNat (1 + 8 * p + w))) := by
  obtain ⟨n, i, hl, hi, hp, h6, h7, h8⟩ := hc
  obtain ⟨l1, l2, l3, l4, l5⟩ := hl
  show zR X d 97 (0, [.ref 1, .int (Int32.ofNat w)], [], M) = _
  rw [t97_0 _ _ hG (fun h => by rw [h6]; exact vp_of (by omega) (by omega)), h6, if_neg (nneg (by omega)), toNat_of (by omega), (l5 i (by omega)).2.2, ← hp, show (8 : Int32) = Int32.ofNat 8 from rfl, of_mul, show (1 : Int32) = Int32.ofNat 1 from rfl, ← Int32.ofNat_add, ← Int32.ofNat_add]
theorem s96 {X : (Nat → Int32) × Nat} {d p w : Nat} {t : zTx} {M : zM} (hG : zGE M) (hT : tqD t M) (hc : cur t p M) (hw : w < 20) : zC X d 96 [.ref 1, .int (Int32.ofNat w)] M = some (some (.int (if kk t p = 257 ∧ kw t p = w then 1 else 0)), M) := by
  have hb : ∀ k, k < t.1 → t.2 k < 256 := fun k hk => (hT.2.2 k hk).1
  obtain ⟨n, i, hl, hi, hp, h6, h7, h8⟩ := hc
  show zR X d 96 (0, [.ref 1, .int (Int32.ofNat w)], [], M) = _
  have e7 : (kI (kk t p) = -2) ↔ kk t p = 257 := kI_inj (k := 257) (kk_le hb) (by omega)
  rw [t96_0 _ _ hG, h7, h8]
  by_cases c : kk t p = 257
  · rw [if_neg (not_not_intro (e7.mpr c))]
    have hN : kN t p = kNw t p := by
      rcases kcs (p := p) hb with h | h | h | h | h
      · omega
      · exact h.2.2.2.2
      · omega
      · have := h.2.2.1; split at this <;> omega
      · omega
    rw [hN]
    unfold kNw
    by_cases c2 : kw t p = 20
    · rw [if_pos c2, if_pos (fun h => absurd (congrArg Int32.toInt h) (by rw [Int32.toInt_ofNat_of_lt (by omega)]; show ¬ (-1 : Int) = _; omega)), if_neg (by omega)]
    · rw [if_neg c2]
      have := kw_le (t := t) (p := p)
      rw [fi_ne (by omega) (by omega)]
      by_cases c3 : kw t p = w
      · rw [if_neg (not_not_intro c3), if_pos ⟨c, c3⟩]
      · rw [if_pos c3, if_neg (fun h => c3 h.2)]
  · rw [if_pos (mt e7.mp c), if_neg (fun h => c h.1)]
/-- the greater of the two, where it is known -/
theorem mxf {q a : Nat} (h : q < a) (h2 : a ≤ 400) : (if Int32.ofNat a < Int32.ofNat q + 1 then Int32.ofNat q + 1 else Int32.ofNat a) = Int32.ofNat a := by
  rw [of_succ, fi_lt (by omega) (by omega), if_neg (by omega)]
/-- the class opens the tape -/
theorem s87 {X : (Nat → Int32) × Nat} {d : Nat} {t : zTx} {M : zM} (hG : zGE M) (hT : tqD t M) : ∃ M', zC X (d + 6) 87 [.ref 1] M = some (none, M') ∧ oF M M' ∧ M'.1 1 9 = 0 ∧ cur t (kS t 0) M' := by
  have hb : ∀ k, k < t.1 → t.2 k < 256 := fun k hk => (hT.2.2 k hk).1
  have hL := hT.1
  have loop : ∀ m q n v2 M1, q + m = t.1 → n ≤ q → zGE M1 → oF M M1 → M1.1 1 9 = 0 → M1.1 1 5 = Int32.ofNat n → lai t n M1 → (∀ i, i < n → kS t i < t.1) → ken isB t q = kS t n → ∃ M', zR X (d + 6) 87 (12, [.ref 1, .int (Int32.ofNat q), v2], [], M1) = some (none, M') ∧ oF M M' ∧ M'.1 1 9 = 0 ∧ cur t (kS t 0) M' := by
    intro m
    induction m using Nat.strongRecOn with
    | _ m ih =>
      intro q n v2 M1 hm hnq hG1 hF h9 h5 hl hlt hq
      have hT1 := oF_T hF hT
      have hle : M1.1 1 1 ≤ Int32.ofNat q ↔ t.1 ≤ q := by rw [hT1.2.1]; exact of_le (by omega) (by omega)
      by_cases c : t.1 ≤ q
      · have eq : kS t n = t.1 := by rw [← hq, ken_l c]; omega
        have hkk : kk t t.1 = 256 ∧ kN t t.1 = 0 := by
          rcases kcs (p := t.1) hb with h | h | h | h | h
          · exact ⟨h.2.1, h.2.2.2⟩
          all_goals exact absurd h.1 (Nat.lt_irrefl _)
        obtain ⟨M2, w1, w2, w3, w4, w5⟩ := s91 (X := X) (d := d + 5) (x := -1) (y := 0) hG1 h5 (by omega) hl (by rw [eq, hkk.1]; rfl) (by rw [eq, hkk.2])
        rw [eq] at w1
        rw [t87_12 _ _ _ hG1, if_pos (hle.mpr c), hT1.2.1, w1, Option.bind_some]
        dsimp only [zps]
        have hG2 := oF_G w2 hG1
        have hF2 := oF_t hF w2
        rw [t87_194 _ _ _ hG2]
        -- the piece before the first
        have hd : laid t n M2 := ⟨by omega, w3, eq, hlt, w5⟩
        have h95 : ∃ M', zC X (d + 5) 95 [.ref 1] (zsI M2 1 6 (-1)) = some (none, M') ∧ M'.2 = M2.2 ∧ (∀ a, a ≠ 1 → M'.1 a = M2.1 a) ∧ (∀ k, k ≠ 6 → k ≠ 7 → k ≠ 8 → M'.1 1 k = M2.1 1 k) ∧ cur t (kS t 0) M' := by
          show ∃ M', zR X (d + 5) 95 (0, [.ref 1], [], zsI M2 1 6 (-1)) = some (none, M') ∧ _
          have e6 : (zsI M2 1 6 (-1)).1 1 6 + 1 = Int32.ofNat 0 := by rw [zI_s, if_pos rfl]; rfl
          have e5 : (zsI M2 1 6 (-1)).1 1 5 = Int32.ofNat (n + 1) := by rw [zI_s, if_neg (by omega)]; exact w3
          rw [t95_0 _ (show zGE (zsI M2 1 6 (-1)) from hG2) (fun _ => by rw [e6]; exact vp_of (by omega) (by omega)), e6, e5, fi_le (by omega) (by omega), if_neg (by omega), toNat_of (by omega)]
          obtain ⟨q1, q2, q3⟩ := w5 0 (by omega)
          refine ⟨_, rfl, by rw [z2_I, z2_I, z2_I, z2_I], fun a ha => by rw [zI_n1 ha, zI_n1 ha, zI_n1 ha, zI_n1 ha], fun k k1 k2 k3 => by rw [zI_s, if_neg k3, zI_s, if_neg k2, zI_s, if_neg k1, zI_s, if_neg k1], n, 0, ⟨by omega, ?_, eq, hlt, fun j hj => ?_⟩, Nat.zero_le _, rfl, ?_, ?_, ?_⟩
          · rw [zI_s, if_neg (by omega), zI_s, if_neg (by omega), zI_s, if_neg (by omega), e5]
          · rw [zI_n (by omega), zI_n (by omega), zI_n (by omega), zI_n (by omega), zI_n (by omega), zI_n (by omega), zI_n (by omega), zI_n (by omega), zI_n (by omega), zI_n (by omega), zI_n (by omega), zI_n (by omega)]
            exact w5 j hj
          · rw [zI_s, if_neg (by omega), zI_s, if_neg (by omega), zI_s, if_pos rfl]
          · rw [zI_s, if_neg (by omega), zI_s, if_pos rfl, zI_n (by omega)]; exact q1
          · rw [zI_s, if_pos rfl, zI_n (by omega)]; exact q2
        obtain ⟨M3, y1, y2, y3, y4, y5⟩ := h95
        rw [y1, Option.bind_some]
        dsimp only [zps]
        have hF3 : oF M2 M3 := ⟨y2, fun a q1 q2 q3 q4 => y3 a q1, fun k hk => y4 k (by omega) (by omega) (by omega)⟩
        rw [t87_203 _ _ _ (oF_G hF3 hG2)]
        exact ⟨M3, rfl, oF_t hF2 hF3, by rw [y4 9 (by omega) (by omega) (by omega), w4 9 (by omega)]; exact h9, y5⟩
      · have hlt2 : q < t.1 := by omega
        have hbX := kX_b hlt2
        have hk97 : ∀ x, isL x = true ↔ 97 ≤ x ∧ x ≤ 122 := fun x => isL_i
        have hk48 : ∀ x, isD x = true ↔ 48 ≤ x ∧ x ≤ 57 := fun x => isD_i
        rw [t87_12 _ _ _ hG1, if_neg (mt hle.mp c), show (97 : Int32) = Int32.ofNat 97 from rfl, show (122 : Int32) = Int32.ofNat 122 from rfl, s88 hG1 hT1 (by omega) (by omega) (by omega), Option.bind_some]
        dsimp only [zps]
        rw [t87_33 _ _ _ _ hG1, of_succ]
        -- a piece is laid
        have put : ∀ x y, x = kI (kk t q) → y = kN t q → kS t n = q → ∃ M2, zC X (d + 5) 91 [.ref 1, .int x, .int y, .int (Int32.ofNat q)] M1 = some (none, M2) ∧ zGE M2 ∧ ∀ v2, ∃ M', zR X (d + 6) 87 (12, [.ref 1, .int (Int32.ofNat (kX t q)), v2], [], M2) = some (none, M') ∧ oF M M' ∧ M'.1 1 9 = 0 ∧ cur t (kS t 0) M' := by
          intro x y hx hy hkq
          obtain ⟨M2, w1, w2, w3, w4, w5⟩ := s91 (X := X) (d := d + 5) (x := x) (y := y) hG1 h5 (by omega) hl (by rw [hkq]; exact hx) (by rw [hkq]; exact hy)
          rw [hkq] at w1
          have hb2 := kX_b hlt2
          refine ⟨M2, w1, oF_G w2 hG1, fun v2 => ih (t.1 - kX t q) (by omega) (kX t q) (n + 1) v2 M2 (by omega) (by omega) (oF_G w2 hG1) (oF_t hF w2) (by rw [w4 9 (by omega)]; exact h9) w3 w5 (fun i hi => ?_) ?_⟩
          · by_cases e : i = n
            · rw [e, hkq]; exact hlt2
            · exact hlt i (by omega)
          · rw [kS, hkq]; rfl
        rcases kcs (p := q) hb with h | h | h | h | h
        · omega
        · obtain ⟨-, h1, h2, h3, h4⟩ := h
          have nb : kS t n = q := by rw [← hq]; exact ken_e (bf_of isB_i (by omega))
          rw [if_pos (show q < t.1 ∧ 97 ≤ t.2 q ∧ t.2 q ≤ 122 from ⟨hlt2, h1⟩), if_neg (by decide), show (97 : Int32) = Int32.ofNat 97 from rfl, show (122 : Int32) = Int32.ofNat 122 from rfl, s90 hG1 hT1 hk97 (by omega) (by omega) (show q ≤ t.1 by omega), Option.bind_some]
          dsimp only [zps]
          rw [t87_45 _ _ _ _ hG1, s93 hG1 hT1 (by omega), Option.bind_some]
          dsimp only [zps]
          obtain ⟨M2, w1, w2, w3⟩ := put (-2) (if kw t q = 20 then -1 else Int32.ofNat (kw t q)) (by rw [h2]; rfl) (by rw [h4]; rfl) nb
          rw [t87_55 _ _ _ _ _ hG1, w1, Option.bind_some]
          dsimp only [zps]
          rw [t87_59 _ _ _ w2, ← h3, mxf hbX.1 (by omega)]
          exact w3 _
        · obtain ⟨-, h1, h2, h3, h4⟩ := h
          have nb : kS t n = q := by rw [← hq]; exact ken_e (bf_of isB_i (by omega))
          rw [if_neg (show ¬ (q < t.1 ∧ 97 ≤ t.2 q ∧ t.2 q ≤ 122) by omega), if_pos rfl, show (48 : Int32) = Int32.ofNat 48 from rfl, show (57 : Int32) = Int32.ofNat 57 from rfl, s88 hG1 hT1 (by omega) (by omega) (by omega), Option.bind_some]
          dsimp only [zps]
          obtain ⟨k1, k2, k3, -⟩ := ken_b (P := isD) (t := t) (p := q)
          rw [t87_71 _ _ _ _ hG1, if_pos (show q < t.1 ∧ 48 ≤ t.2 q ∧ t.2 q ≤ 57 from ⟨hlt2, h1⟩), if_neg (by decide), show (48 : Int32) = Int32.ofNat 48 from rfl, show (57 : Int32) = Int32.ofNat 57 from rfl, s90 hG1 hT1 hk48 (by omega) (by omega) (show q ≤ t.1 by omega), Option.bind_some]
          dsimp only [zps]
          rw [t87_83 _ _ _ _ hG1, s92 hG1 hT1 k1 (k2 (by omega)) k3, Option.bind_some]
          dsimp only [zps]
          obtain ⟨M2, w1, w2, w3⟩ := put (-3) (if 5 < ken isD t q - q then -1 else Int32.ofNat (kdv t.2 q (ken isD t q - q))) (by rw [h2]; rfl) (by rw [h4]; rfl) nb
          rw [t87_93 _ _ _ _ _ hG1, w1, Option.bind_some]
          dsimp only [zps]
          rw [t87_97 _ _ _ w2, ← h3, mxf hbX.1 (by omega)]
          exact w3 _
        · obtain ⟨-, h1, h2, h3, h4⟩ := h
          have nb : kS t n = q := by rw [← hq]; exact ken_e (bf_of isB_i (by omega))
          rw [if_neg (show ¬ (q < t.1 ∧ 97 ≤ t.2 q ∧ t.2 q ≤ 122) by omega), if_pos rfl, show (48 : Int32) = Int32.ofNat 48 from rfl, show (57 : Int32) = Int32.ofNat 57 from rfl, s88 hG1 hT1 (by omega) (by omega) (by omega), Option.bind_some]
          dsimp only [zps]
          rw [t87_71 _ _ _ _ hG1, if_neg (show ¬ (q < t.1 ∧ 48 ≤ t.2 q ∧ t.2 q ≤ 57) by omega), if_pos rfl, s89 hG1 hT1 hlt2, Option.bind_some]
          dsimp only [zps]
          rw [if_pos h1.1, t87_105 _ _ _ _ hG1 (fun h => absurd h (by decide)), if_neg (by decide), show (61 : Int32) = Int32.ofNat 61 from rfl, s88 hG1 hT1 (by omega) (by omega) (by omega), Option.bind_some]
          dsimp only [zps]
          rw [if_pos (show q + 1 < t.1 ∧ 61 ≤ t.2 (q + 1) ∧ t.2 (q + 1) ≤ 61 by omega), t87_117 _ _ _ _ hG1 (fun h => absurd h (by decide)) (fun _ => vp_of (by omega) (by omega)), if_neg (by decide), toNat_of (by omega), (hT1.2.2 q hlt2).2, show (60 : Int32) = Int32.ofNat 60 from rfl, fi_ne (by omega) (by omega)]
          by_cases c6 : t.2 q = 60
          · obtain ⟨M2, w1, w2, w3⟩ := put (-4) 0 (by rw [h2, if_pos c6]; rfl) (by rw [h4]) nb
            rw [if_neg (not_not_intro c6), w1, Option.bind_some]
            dsimp only [zps]
            rw [t87_144 _ _ _ w2, of_succ (q + 1), ← h3, mxf hbX.1 (by omega)]
            exact w3 _
          · obtain ⟨M2, w1, w2, w3⟩ := put (-5) 0 (by rw [h2, if_neg c6]; rfl) (by rw [h4]) nb
            rw [if_pos c6, w1, Option.bind_some]
            dsimp only [zps]
            rw [t87_144 _ _ _ w2, of_succ (q + 1), ← h3, mxf hbX.1 (by omega)]
            exact w3 _
        · obtain ⟨-, h1, h2, h3, h4⟩ := h
          rw [if_neg (show ¬ (q < t.1 ∧ 97 ≤ t.2 q ∧ t.2 q ≤ 122) by omega), if_pos rfl, show (48 : Int32) = Int32.ofNat 48 from rfl, show (57 : Int32) = Int32.ofNat 57 from rfl, s88 hG1 hT1 (by omega) (by omega) (by omega), Option.bind_some]
          dsimp only [zps]
          rw [t87_71 _ _ _ _ hG1, if_neg (show ¬ (q < t.1 ∧ 48 ≤ t.2 q ∧ t.2 q ≤ 57) by omega), if_pos rfl, s89 hG1 hT1 hlt2, Option.bind_some]
          dsimp only [zps]
          -- a byte of its own, or a blank
          have fin : ∃ M', (if M1.1 2 (Int32.ofNat q).toNatClampNeg = 32 then zR X (d + 6) 87 (12, [.ref 1, .int (if Int32.ofNat (q + 1) < Int32.ofNat q + 1 then Int32.ofNat q + 1 else Int32.ofNat (q + 1)), .int (Int32.ofNat (q + 1))], [], M1) else (zC X (d + 5) 91 [.ref 1, .int (M1.1 2 (Int32.ofNat q).toNatClampNeg), .int 0, .int (Int32.ofNat q)] M1).bind fun o => zR X (d + 6) 87 (173, [.ref 1, .int (Int32.ofNat q), .int (Int32.ofNat (q + 1))], zps o.1 [], o.2)) = some (none, M') ∧ oF M M' ∧ M'.1 1 9 = 0 ∧ cur t (kS t 0) M' := by
            rw [toNat_of (by omega), (hT1.2.2 q hlt2).2, show (32 : Int32) = Int32.ofNat 32 from rfl, fi_eq (by omega) (by omega)]
            by_cases c3 : t.2 q = 32
            · rw [if_pos c3, mxf (show q < q + 1 by omega) (by omega)]
              exact ih (t.1 - (q + 1)) (by omega) (q + 1) n _ M1 (by omega) (by omega) hG1 hF h9 h5 hl hlt (by rw [← ken_s hlt2 (isB_i.mpr c3)]; exact hq)
            · have nb : kS t n = q := by rw [← hq]; exact ken_e (bf_of isB_i c3)
              obtain ⟨M2, w1, w2, w3⟩ := put (Int32.ofNat (t.2 q)) 0 (by rw [h2]; unfold kI; rw [if_pos h1.1]) (by rw [h4]) nb
              rw [if_neg c3, w1, Option.bind_some]
              dsimp only [zps]
              rw [t87_173 _ _ _ w2, mxf (show q < q + 1 by omega) (by omega), ← h3]
              exact w3 _
          by_cases c6 : t.2 q = 60 ∨ t.2 q = 62
          · rw [if_pos c6, t87_105 _ _ _ _ hG1 (fun h => absurd h (by decide)), if_neg (by decide), show (61 : Int32) = Int32.ofNat 61 from rfl, s88 hG1 hT1 (by omega) (by omega) (by omega), Option.bind_some]
            dsimp only [zps]
            rw [if_neg (show ¬ (q + 1 < t.1 ∧ 61 ≤ t.2 (q + 1) ∧ t.2 (q + 1) ≤ 61) by omega), t87_117 _ _ _ _ hG1 (fun _ => vp_of (by omega) (by omega)) (fun h => absurd rfl h), if_pos rfl]
            exact fin
          · rw [if_neg c6, t87_105 _ _ _ _ hG1 (fun _ => vp_of (by omega) (by omega)), if_pos rfl]
            exact fin
  show ∃ M', zR X (d + 6) 87 (0, [.ref 1, zjk, zjk], [], M) = some (none, M') ∧ _
  rw [t87_0 _ _ _ hG]
  refine loop t.1 0 0 _ _ (by omega) (Nat.le_refl _) hG ⟨rfl, fun a q1 _ _ _ => by rw [zI_n1 q1, zI_n1 q1], fun k hk => by rw [zI_s, if_neg (by omega), zI_s, if_neg (by omega)]⟩ ?_ ?_ (fun i hi => absurd hi (Nat.not_lt_zero i)) (fun i hi => absurd hi (Nat.not_lt_zero i)) rfl
  · rw [zI_s, if_neg (by omega), zI_s, if_pos rfl]
  · rw [zI_s, if_pos rfl]; rfl
/-- between two clauses -/
theorem s98 {X : (Nat → Int32) × Nat} {d p : Nat} {t : zTx} {M : zM} (hG : zGE M) (hT : tqD t M) (hc : cur t p M) :
    (kk t p = 59 → ∃ M', zC X (d + 1) 98 [.ref 1] M = some (some (.int 1), M') ∧ M'.2 = M.2 ∧ (∀ a, a ≠ 1 → M'.1 a = M.1 a) ∧ (∀ k, k ≠ 6 → k ≠ 7 → k ≠ 8 → M'.1 1 k = M.1 1 k) ∧ cur t (kA t p) M') ∧
    (kk t p = 256 → zC X (d + 1) 98 [.ref 1] M = some (some (.int 0), M)) ∧
    (¬ kk t p = 59 → ¬ kk t p = 256 → zC X (d + 1) 98 [.ref 1] M = some (some (.int 0), zsI M 1 9 (Int32.ofNat (1 + 8 * p)))) := by
  have hb : ∀ k, k < t.1 → t.2 k < 256 := fun k hk => (hT.2.2 k hk).1
  have h7 : M.1 1 7 = kI (kk t p) := by obtain ⟨n, i, -, -, -, -, h7, -⟩ := hc; exact h7
  have e59 : (kI (kk t p) = 59) ↔ kk t p = 59 := kI_inj (k := 59) (kk_le hb) (by omega)
  have e56 : (kI (kk t p) = -1) ↔ kk t p = 256 := kI_inj (k := 256) (kk_le hb) (by omega)
  have hu : zC X (d + 1) 98 [.ref 1] M = zR X (d + 1) 98 (0, [.ref 1], [], M) := rfl
  refine ⟨fun c => ?_, fun c => ?_, fun c1 c2 => ?_⟩
  · obtain ⟨M', w1, w2, w3, w4, w5⟩ := s95 (X := X) (d := d) hG hc
    rw [hu, t98_0 _ hG, h7, if_neg (not_not_intro (e59.mpr c)), w1, Option.bind_some]
    dsimp only [zps]
    rw [t98_13 _ (zGE_of hG (by rw [w2]))]
    exact ⟨M', rfl, w2, w3, w4, w5⟩
  · rw [hu, t98_0 _ hG, h7, if_pos (mt e59.mp (by omega)), if_pos (e56.mpr c)]
  · rw [hu, t98_0 _ hG, h7, if_pos (mt e59.mp c1), if_neg (mt e56.mp c2), lit00, s97 hG hc, Option.bind_some]
    dsimp only [zps]
    rw [t98_28 _ _ (show zGE (zsI M 1 9 _) from hG), if_pos rfl]
    rfl
