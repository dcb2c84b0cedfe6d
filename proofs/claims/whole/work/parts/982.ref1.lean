/-! ===== the reference's tape: signs, blanks, digits, words ===== -/
def sgn (b : Nat) : Int32 := if b < 128 then Int32.ofNat b else Int32.ofNat b - 256
def tqR (t : zTx) (M : zM) : Prop := t.1 ≤ 400 ∧ M.1 460 26 = Int32.ofNat t.1 ∧ ∀ k, k < t.1 → t.2 k < 256 ∧ M.1 485 k = sgn (t.2 k)
theorem sgn_f : ∀ b, b < 256 → sgn b &&& 255 = Int32.ofNat b ∧ ((sgn b < 97 ∨ 122 < sgn b) ↔ isL b = false) := by decide +kernel
theorem sgn_e {b x : Nat} (hb : b < 256) (hx : x < 128) : (sgn b = Int32.ofNat x) ↔ b = x := by
  unfold sgn
  by_cases c : b < 128
  · rw [if_pos c]
    exact of_inj (by omega) (by omega)
  · rw [if_neg c]
    constructor
    · intro h
      have h1 := congrArg Int32.toInt h
      rw [Int32.toInt_sub, Int32.toInt_ofNat_of_lt (by omega), Int32.toInt_ofNat_of_lt (by omega), show (256 : Int32).toInt = 256 from rfl, Int.bmod_def] at h1
      split at h1 <;> omega
    · intro h; omega
theorem zI_zI {M : zM} {a k : Nat} {x y : Int32} : zsI (zsI M a k x) a k y = zsI M a k y := by
  have : (zsI (zsI M a k x) a k y).1 = (zsI M a k y).1 := by
    funext b j
    by_cases e : b = a
    · rw [e, zI_s, zI_s, zI_s]
      by_cases e2 : j = k
      · rw [if_pos e2, if_pos e2]
      · rw [if_neg e2, if_neg e2, if_neg e2]
    · rw [zI_n e, zI_n e, zI_n e]
  exact Prod.ext this rfl
theorem zI_id {M : zM} {a k : Nat} {x : Int32} (h : M.1 a k = x) : zsI M a k x = M := by
  have : (zsI M a k x).1 = M.1 := by
    funext b j
    by_cases e : b = a
    · rw [e, zI_s]
      by_cases e2 : j = k
      · rw [if_pos e2, e2, h]
      · rw [if_neg e2]
    · rw [zI_n e]
  exact Prod.ext this rfl
/-- the reference stands at q -/
abbrev zp (M : zM) (q : Nat) : zM := zsI M 460 27 (Int32.ofNat q)
theorem tqR_I {t : zTx} {M : zM} {k : Nat} {x : Int32} (hk : k ≠ 26) (h : tqR t M) : tqR t (zsI M 460 k x) := ⟨h.1, by rw [zI_s, if_neg (by omega)]; exact h.2.1, fun j hj => by rw [zI_n (by omega)]; exact h.2.2 j hj⟩
def sgR (t : zTx) (p : Nat) : Int32 := if t.1 ≤ p then -1 else Int32.ofNat (t.2 p)
theorem r144 {X : (Nat → Int32) × Nat} {d p : Nat} {t : zTx} {M : zM} (hG : zGE M) (hT : tqR t M) (hp : M.1 460 27 = Int32.ofNat p) (hp2 : p < 1000) : zC X d 144 [.ref 460] M = some (some (.int (sgR t p)), M) := by
  have hL := hT.1
  show zR X d 144 (0, [.ref 460], [], M) = _
  rw [t144_0 _ hG (fun h => by rw [hp]; exact vp_of (by rw [hT.2.1, hp, of_le (by omega) (by omega)] at h; omega) (by omega)), hT.2.1, hp, fi_le (by omega) (by omega), toNat_of (by omega)]
  unfold sgR
  by_cases c : t.1 ≤ p
  · rw [if_pos c, if_pos c]
  · rw [if_neg c, if_neg c, (hT.2.2 p (by omega)).2, (sgn_f _ (hT.2.2 p (by omega)).1).1]
theorem sgR_k {t : zTx} {p x : Nat} (hb : ∀ k, k < t.1 → t.2 k < 256) (hx : x < 256) : (sgR t p = Int32.ofNat x) ↔ p < t.1 ∧ t.2 p = x := by
  unfold sgR
  by_cases c : t.1 ≤ p
  · rw [if_pos c]
    constructor
    · intro h
      have := congrArg Int32.toInt h
      rw [Int32.toInt_ofNat_of_lt (by omega)] at this
      have h1 : (-1 : Int32).toInt = -1 := rfl
      omega
    · intro h; omega
  · rw [if_neg c]
    have := hb p (by omega)
    rw [of_inj (by omega) (by omega)]
    omega
theorem r145 {X : (Nat → Int32) × Nat} {d : Nat} {t : zTx} : ∀ m {p : Nat} {M : zM}, t.1 - p ≤ m → zGE M → tqR t M → M.1 460 27 = Int32.ofNat p → p < 1000 → zC X (d + 1) 145 [.ref 460] M = some (none, zp M (ken isB t p)) := by
  intro m
  induction m with
  | zero =>
    intro p M hm hG hT hp hp2
    have hb : ∀ k, k < t.1 → t.2 k < 256 := fun k hk => (hT.2.2 k hk).1
    show zR X (d + 1) 145 (0, [.ref 460], [], M) = _
    rw [t145_0 _ hG, r144 hG hT hp hp2, Option.bind_some]
    dsimp only [zps]
    have h32 : (sgR t p = 32) ↔ p < t.1 ∧ t.2 p = 32 := sgR_k (x := 32) hb (by omega)
    rw [t145_4 _ _ hG, if_pos (by rw [h32]; omega), ken_l (by omega), zp, zI_id hp]
  | succ m ih =>
    intro p M hm hG hT hp hp2
    have hb : ∀ k, k < t.1 → t.2 k < 256 := fun k hk => (hT.2.2 k hk).1
    show zR X (d + 1) 145 (0, [.ref 460], [], M) = _
    rw [t145_0 _ hG, r144 hG hT hp hp2, Option.bind_some]
    dsimp only [zps]
    have h32 : (sgR t p = 32) ↔ p < t.1 ∧ t.2 p = 32 := sgR_k (x := 32) hb (by omega)
    rw [t145_4 _ _ hG]
    by_cases c : p < t.1 ∧ t.2 p = 32
    · have ih1 := ih (p := p + 1) (M := zp M (p + 1)) (by omega) hG (tqR_I (by omega) hT) (by rw [zp, zI_s, if_pos rfl]) (by have := hT.1; omega)
      rw [if_neg (not_not_intro (h32.mpr c)), hp, of_succ, ken_s c.1 (isB_i.mpr c.2)]
      rw [zp, zp, zI_zI] at ih1
      exact ih1
    · rw [if_pos (mt h32.mp c)]
      have : ken isB t p = p := by
        by_cases c2 : p < t.1
        · exact ken_e (bf_of isB_i (fun h => c ⟨c2, h⟩))
        · exact ken_l (by omega)
      rw [this, zp, zI_id hp]
theorem r145z {X : (Nat → Int32) × Nat} {d p : Nat} {t : zTx} {M : zM} (hG : zGE M) (hT : tqR t M) (hp : M.1 460 27 = Int32.ofNat p) (hp2 : p < 1000) : zC X (d + 1) 145 [.ref 460] M = some (none, zp M (ken isB t p)) := r145 (t.1 - p) (Nat.le_refl _) hG hT hp hp2
theorem ite01 (p : Prop) [Decidable p] : (if p then (1 : Int32) else 0) = 0 ∨ (if p then (1 : Int32) else 0) = 1 := by
  by_cases c : p
  · rw [if_pos c]; exact Or.inr rfl
  · rw [if_neg c]; exact Or.inl rfl
theorem ite10 (p : Prop) [Decidable p] : (if p then (0 : Int32) else 1) = 0 ∨ (if p then (0 : Int32) else 1) = 1 := by
  by_cases c : p
  · rw [if_pos c]; exact Or.inl rfl
  · rw [if_neg c]; exact Or.inr rfl
theorem r146 {X : (Nat → Int32) × Nat} {d p : Nat} {t : zTx} {M : zM} (hG : zGE M) (hT : tqR t M) (hp : M.1 460 27 = Int32.ofNat p) (hp2 : p < 1000) : zC X (d + 1) 146 [.ref 460] M = some (some (.int (if p < t.1 ∧ isD (t.2 p) = true then 1 else 0)), M) := by
  have hb : ∀ k, k < t.1 → t.2 k < 256 := fun k hk => (hT.2.2 k hk).1
  show zR X (d + 1) 146 (0, [.ref 460], [], M) = _
  rw [t146_0 _ hG, r144 hG hT hp hp2, Option.bind_some]
  dsimp only [zps]
  rw [t146_4 _ _ hG, r135i (y := 48) (z := 57) (a := 48) (b := 57) hG rfl rfl, Option.bind_some]
  dsimp only [zps]
  have e : (if sgR t p < 48 ∨ 57 < sgR t p then (0 : Int32) else 1) = (if p < t.1 ∧ isD (t.2 p) = true then 1 else 0) := by
    unfold sgR
    by_cases c : t.1 ≤ p
    · rw [if_pos c, if_pos (Or.inl (by decide)), if_neg (by omega)]
    · have hbp := hb p (by omega)
      rw [if_neg c]
      have a1 : (Int32.ofNat (t.2 p) < 48) ↔ t.2 p < 48 := of_lt (k := 48) (by omega) (by omega)
      have a2 : (57 < Int32.ofNat (t.2 p)) ↔ 57 < t.2 p := of_lt (j := 57) (by omega) (by omega)
      by_cases c2 : isD (t.2 p) = true
      · have := isD_i.mp c2
        rw [if_neg (by rw [a1, a2]; omega), if_pos ⟨by omega, c2⟩]
      · have h0 : ¬ (48 ≤ t.2 p ∧ t.2 p ≤ 57) := fun h => c2 (isD_i.mpr h)
        rw [if_pos (by rw [a1, a2]; omega), if_neg (fun h => c2 h.2)]
  rw [t146_14 _ _ hG (ite10 _), e]
/-- the words: the texts' numbers -/
def jw (j : Nat) : Nat := ([20, 0, 1, 4, 2, 3, 15, 5, 6, 7, 8, 9, 10, 11, 12, 13, 14, 16, 19, 18, 17] : List Nat).getD j 20
theorem jw_f : ∀ j, j < 21 → j ≠ 0 → jw j < 20 ∧ (zbyL.getD j []).length = (kwd (jw j)).length ∧ 0 < (kwd (jw j)).length ∧ (kwd (jw j)).length ≤ 8 ∧ ∀ k, k < (kwd (jw j)).length → (zbyL.getD j []).getD k 0 = Int32.ofNat ((kwd (jw j)).getD k 0) ∧ (kwd (jw j)).getD k 0 < 123 := by decide +kernel
theorem r147 {X : (Nat → Int32) × Nat} {d p j : Nat} {t : zTx} {M : zM} (hG : zGE M) (hT : tqR t M) (hp : M.1 460 27 = Int32.ofNat p) (hp2 : p < 1000) (hj : j < 21) (hj0 : j ≠ 0) : zC X (d + 4) 147 [.ref 460, .retAddr j] M = some (some (.int (bif kis t p (jw j) then 1 else 0)), M) := by
  have hL := hT.1
  obtain ⟨w0, w1, w2, w3, w4⟩ := jw_f j hj hj0
  have h242 := j242 (X := X) (d := d + 2) (j := j) (M := M) hG hj
  rw [w1] at h242
  have zero : ∀ v k, k ≤ (kwd (jw j)).length → zR X (d + 4) 147 (63, [.ref 460, .retAddr j, .int v, .int 0, .int (Int32.ofNat k)], [], M) = some (some (.int 0), M) := by
    intro v k hk
    rw [t147_63 _ _ _ _ _ hG hj, h242, Option.bind_some]
    dsimp only [zps]
    rw [t147_69 _ _ _ _ _ _ _ hG (fun _ => Or.inl rfl) (fun _ _ => Or.inl rfl) (fun _ h => absurd rfl h) (fun _ h => absurd rfl h)]
    split
    · rfl
    · rw [if_pos rfl]
  -- the characters
  have chars : ∀ (l : List Nat) k v, (kwd (jw j)).drop k = l → k + l.length = (kwd (jw j)).length → p + (kwd (jw j)).length ≤ t.1 → zR X (d + 4) 147 (63, [.ref 460, .retAddr j, .int v, .int 1, .int (Int32.ofNat k)], [], M) = some (some (.int (bif kal t.2 (p + k) l then 1 else 0)), M) := by
    intro l
    induction l with
    | nil =>
      intro k v h1 h2 h3
      rw [List.length_nil] at h2
      rw [t147_63 _ _ _ _ _ hG hj, h242, Option.bind_some]
      dsimp only [zps]
      have hle : Int32.ofNat (kwd (jw j)).length ≤ Int32.ofNat k := by rw [of_le (by omega) (by omega)]; omega
      rw [t147_69 _ _ _ _ _ _ _ hG (fun _ => Or.inr rfl) (fun h => absurd hle h) (fun h => absurd hle h) (fun h => absurd hle h), if_pos hle]
      rfl
    | cons x l ih =>
      intro k v h1 h2 h3
      rw [List.length_cons] at h2
      obtain ⟨hx, hl⟩ := drop_c h1
      obtain ⟨f3, f4⟩ := w4 k (by omega)
      rw [hx] at f3 f4
      have hch := j244 (X := X) (d := d) (j := j) (k := k) (M := M) hG hj (by rw [w1]; omega)
      rw [f3] at hch
      have hle : ¬ Int32.ofNat (kwd (jw j)).length ≤ Int32.ofNat k := by rw [of_le (by omega) (by omega)]; omega
      have hpk : M.1 460 27 + Int32.ofNat k = Int32.ofNat (p + k) := by rw [hp, ← Int32.ofNat_add]
      rw [t147_63 _ _ _ _ _ hG hj, h242, Option.bind_some]
      dsimp only [zps]
      rw [t147_69 _ _ _ _ _ _ _ hG (fun _ => Or.inr rfl) (fun _ h => absurd h (by decide)) (fun _ _ => by rw [hpk]; exact vp_of (by omega) (by omega)) (fun _ _ => hj), if_neg hle, if_neg (by decide), hch, Option.bind_some]
      dsimp only [zps]
      obtain ⟨q1, q2⟩ := hT.2.2 (p + k) (by omega)
      rw [t147_94 _ _ _ _ _ _ _ hG, hpk, toNat_of (by omega), q2, of_succ, kal]
      by_cases c : t.2 (p + k) = x
      · rw [if_neg (not_not_intro ((sgn_e q1 (by omega)).mpr c)), Nat.beq_eq.mpr c, Bool.true_and]
        exact ih (k + 1) v hl (by omega) h3
      · rw [if_pos (mt (sgn_e q1 (by omega)).mp c), zbqf c, Bool.false_and, zero _ _ (by omega)]
        rfl
  obtain ⟨b1, b2, -, -⟩ := ken_b (P := isL) (t := t) (p := p)
  -- behind the run
  have fin : ∀ v3 v4, ((zC X (d + 3) 242 [.retAddr j] M).bind fun o => zR X (d + 4) 147 (51, [.ref 460, .retAddr j, .int (Int32.ofNat (ken isL t p)), v3, v4], zps o.1 [.int (Int32.ofNat (ken isL t p) - M.1 460 27)], o.2)) = some (some (.int (bif kis t p (jw j) then 1 else 0)), M) := by
    intro v3 v4
    rw [h242, Option.bind_some]
    dsimp only [zps]
    have hb3 : ken isL t p < 1000 + p := by
      by_cases c : p ≤ t.1
      · have := b2 c; omega
      · rw [ken_l (by omega)]; omega
    rw [t147_51 _ _ _ _ _ _ _ hG, hp, of_sub b1, fi_ne (by omega) (by omega)]
    unfold kis
    by_cases c : ken isL t p = p + (kwd (jw j)).length
    · have hpt : p + (kwd (jw j)).length ≤ t.1 := by
        by_cases c2 : p ≤ t.1
        · have := b2 c2; omega
        · rw [ken_l (by omega)] at c; omega
      rw [if_neg (by omega), Nat.beq_eq.mpr c, Bool.true_and]
      exact chars _ 0 _ rfl (by omega) hpt
    · rw [if_pos (by omega), zbqf c, Bool.false_and]
      exact zero _ 0 (Nat.zero_le _)
  have run : ∀ m k v3 v4, t.1 - k ≤ m → k < 1000 → ken isL t k = ken isL t p → zR X (d + 4) 147 (5, [.ref 460, .retAddr j, .int (Int32.ofNat k), v3, v4], [], M) = some (some (.int (bif kis t p (jw j) then 1 else 0)), M) := by
    intro m
    induction m with
    | zero =>
      intro k v3 v4 hm hk he
      have hle : M.1 460 26 ≤ Int32.ofNat k := by rw [hT.2.1, of_le (by omega) (by omega)]; omega
      rw [t147_5 _ _ _ _ _ hG (fun _ => hj) (fun h => absurd hle h) (fun h => absurd hle h) (fun h => absurd hle h), if_pos hle]
      rw [ken_l (by omega)] at he
      rw [he]
      exact fin v3 v4
    | succ m ih =>
      intro k v3 v4 hm hk he
      by_cases c0 : t.1 ≤ k
      · have hle : M.1 460 26 ≤ Int32.ofNat k := by rw [hT.2.1, of_le (by omega) (by omega)]; omega
        rw [t147_5 _ _ _ _ _ hG (fun _ => hj) (fun h => absurd hle h) (fun h => absurd hle h) (fun h => absurd hle h), if_pos hle]
        rw [ken_l (by omega)] at he
        rw [he]
        exact fin v3 v4
      · have hle : ¬ M.1 460 26 ≤ Int32.ofNat k := by rw [hT.2.1, of_le (by omega) (by omega)]; omega
        obtain ⟨q1, q2⟩ := hT.2.2 k (by omega)
        have hs := (sgn_f _ q1).2
        rw [t147_5 _ _ _ _ _ hG (fun _ => hj) (fun _ => vp_of (by omega) (by omega)) (fun _ _ => hj) (fun _ _ _ => hj), if_neg hle, toNat_of (by omega), q2]
        by_cases c1 : isL (t.2 k) = true
        · have h1 : ¬ (sgn (t.2 k) < 97 ∨ 122 < sgn (t.2 k)) := by rw [hs, c1]; decide
          rw [if_neg (fun h => h1 (Or.inl h)), if_neg (fun h => h1 (Or.inr h)), of_succ]
          exact ih (k + 1) v3 v4 (by omega) (by omega) (by rw [← ken_s (by omega) c1]; exact he)
        · have h1 : sgn (t.2 k) < 97 ∨ 122 < sgn (t.2 k) := by
            rw [hs]
            cases hc : isL (t.2 k) with
            | true => exact absurd hc c1
            | false => rfl
          have e2 : ken isL t k = k := ken_e (by cases hc : isL (t.2 k) with | true => exact absurd hc c1 | false => rfl)
          rw [e2] at he
          by_cases c2 : sgn (t.2 k) < 97
          · rw [if_pos c2, he]; exact fin v3 v4
          · rw [if_neg c2, if_pos (h1.resolve_left c2), he]; exact fin v3 v4
  show zR X (d + 4) 147 (0, [.ref 460, .retAddr j, zjk, zjk, zjk], [], M) = _
  rw [t147_0 _ _ _ _ _ hG, hp]
  exact run t.1 p _ _ (by omega) hp2 rfl
/-! faults, counts, entries -/
def fM (w p : Nat) (M : zM) : zM := if M.1 460 28 = 0 then zsI M 460 28 (Int32.ofNat (1 + 8 * p + w)) else M
def nM (p : Nat) (M : zM) : zM := zsI (if M.1 460 33 = 60 then fM 3 p M else M) 460 33 (M.1 460 33 + 1)
def eM (k v : Int32) (M : zM) : zM := if M.1 460 28 = 0 then zsI (zsI (zsI M 486 (300 * M.1 460 29 + M.1 460 31).toNatClampNeg k) 487 (300 * M.1 460 29 + M.1 460 31).toNatClampNeg v) 460 31 (M.1 460 31 + 1) else M
theorem r143 {X : (Nat → Int32) × Nat} {d w p : Nat} {M : zM} (hG : zGE M) : zC X d 143 [.ref 460, .int (Int32.ofNat w), .int (Int32.ofNat p)] M = some (none, fM w p M) := by
  show zR X d 143 (0, [.ref 460, .int (Int32.ofNat w), .int (Int32.ofNat p)], [], M) = _
  rw [t143_0 _ _ _ hG, fM]
  by_cases c : M.1 460 28 = 0
  · rw [if_neg (not_not_intro c), if_pos c, show (8 : Int32) = Int32.ofNat 8 from rfl, of_mul, show (1 : Int32) = Int32.ofNat 1 from rfl, ← Int32.ofNat_add, ← Int32.ofNat_add]
  · rw [if_pos c, if_neg c, zI_id rfl]
theorem fM_33 {w p : Nat} {M : zM} : (fM w p M).1 460 33 = M.1 460 33 := by
  unfold fM
  split
  · rw [zI_s, if_neg (by omega)]
  · rfl
theorem fM_G {w p : Nat} {M : zM} (hG : zGE M) : zGE (fM w p M) := by
  unfold fM
  split
  · exact hG
  · exact hG
theorem r150 {X : (Nat → Int32) × Nat} {d p : Nat} {M : zM} (hG : zGE M) : zC X (d + 1) 150 [.ref 460, .int (Int32.ofNat p)] M = some (none, nM p M) := by
  show zR X (d + 1) 150 (0, [.ref 460, .int (Int32.ofNat p)], [], M) = _
  rw [t150_0 _ _ hG, nM]
  by_cases c : M.1 460 33 = 60
  · rw [if_neg (not_not_intro c), if_pos c, show (3 : Int32) = Int32.ofNat 3 from rfl, r143 hG, Option.bind_some]
    dsimp only [zps]
    rw [t150_15 _ _ (fM_G hG), fM_33]
  · rw [if_pos c, if_neg c]
theorem r149 {X : (Nat → Int32) × Nat} {d : Nat} {k v : Int32} {M : zM} (hG : zGE M) (hv : M.1 460 28 = 0 → vp_in (300 * M.1 460 29 + M.1 460 31) 1800) : zC X d 149 [.ref 460, .int k, .int v] M = some (none, eM k v M) := by
  show zR X d 149 (0, [.ref 460, .int k, .int v], [], M) = _
  rw [t149_0 _ _ _ hG (fun h => hv (Decidable.not_not.mp h)), eM]
  by_cases c : M.1 460 28 = 0
  · rw [if_neg (not_not_intro c), if_pos c]
  · rw [if_pos c, if_neg c]
/-! a rule as it is read: frames, states, faults -/
def qF (b : Nat) (M M' : zM) : Prop := M'.2 = M.2 ∧ (∀ a, a ≠ 460 → a ≠ 486 → a ≠ 487 → M'.1 a = M.1 a) ∧ (∀ k, k ≠ 27 → k ≠ 28 → k ≠ 31 → k ≠ 33 → M'.1 460 k = M.1 460 k) ∧ ∀ k, k < b → M'.1 486 k = M.1 486 k ∧ M'.1 487 k = M.1 487 k
def rB (t : zTx) (sl : Nat) (M : zM) : Prop := zGE M ∧ tqR t M ∧ M.1 460 29 = Int32.ofNat sl ∧ sl < 6 ∧ M.1 460 35 = 11
def rS (t : zTx) (sl o q c : Nat) (e : List zOp) (M : zM) : Prop := rB t sl M ∧ q ≤ t.1 ∧ M.1 460 27 = Int32.ofNat q ∧ M.1 460 28 = 0 ∧ M.1 460 31 = Int32.ofNat (o + e.length) ∧ M.1 460 33 = Int32.ofNat c ∧ zsg idc idw (M.1 486) (M.1 487) (300 * sl + o) e
def rX (t : zTx) (sl f : Nat) (M : zM) : Prop := rB t sl M ∧ M.1 460 28 = Int32.ofNat f ∧ 0 < f ∧ f < 4000 ∧ ∃ q, q ≤ 410 ∧ M.1 460 27 = Int32.ofNat q
theorem qF_r {b : Nat} {M : zM} : qF b M M := ⟨rfl, fun _ _ _ _ => rfl, fun _ _ _ _ _ => rfl, fun _ _ => ⟨rfl, rfl⟩⟩
theorem qF_t {b : Nat} {M M1 M2 : zM} (h : qF b M M1) (h' : qF b M1 M2) : qF b M M2 := ⟨h'.1.trans h.1, fun a q1 q2 q3 => (h'.2.1 a q1 q2 q3).trans (h.2.1 a q1 q2 q3), fun k q1 q2 q3 q4 => (h'.2.2.1 k q1 q2 q3 q4).trans (h.2.2.1 k q1 q2 q3 q4), fun k hk => ⟨(h'.2.2.2 k hk).1.trans (h.2.2.2 k hk).1, (h'.2.2.2 k hk).2.trans (h.2.2.2 k hk).2⟩⟩
theorem qF_w {b b' : Nat} {M M1 : zM} (hb : b ≤ b') (h : qF b' M M1) : qF b M M1 := ⟨h.1, h.2.1, h.2.2.1, fun k hk => h.2.2.2 k (by omega)⟩
theorem qF_I {b k : Nat} {M : zM} {x : Int32} (hk : k = 27 ∨ k = 28 ∨ k = 31 ∨ k = 33) : qF b M (zsI M 460 k x) := ⟨z2_I, fun a q _ _ => zI_n1 q, fun j q1 q2 q3 q4 => by rw [zI_s, if_neg (by omega)], fun j _ => ⟨by rw [zI_n (by omega)], by rw [zI_n (by omega)]⟩⟩
theorem qF_B {b sl : Nat} {t : zTx} {M M' : zM} (h : qF b M M') (hB : rB t sl M) : rB t sl M' := by
  obtain ⟨hG, hT, h29, hs, h35⟩ := hB
  refine ⟨zGE_of hG (by rw [h.1]), ⟨hT.1, by rw [h.2.2.1 26 (by omega) (by omega) (by omega) (by omega)]; exact hT.2.1, fun k hk => ?_⟩, by rw [h.2.2.1 29 (by omega) (by omega) (by omega) (by omega)]; exact h29, hs, by rw [h.2.2.1 35 (by omega) (by omega) (by omega) (by omega)]; exact h35⟩
  rw [h.2.1 485 (by omega) (by omega) (by omega)]
  exact hT.2.2 k hk
theorem fM_q {b w p : Nat} {M : zM} : qF b M (fM w p M) := by
  unfold fM
  split
  · exact qF_I (by omega)
  · exact qF_r
theorem nM_q {b p : Nat} {M : zM} : qF b M (nM p M) := by
  unfold nM
  split
  · exact qF_t fM_q (qF_I (by omega))
  · exact qF_I (by omega)
theorem f_ne {f : Nat} (h0 : 0 < f) (h : f < 4000) : ¬ Int32.ofNat f = 0 := by rw [show (0 : Int32) = Int32.ofNat 0 from rfl, of_inj (by omega) (by omega)]; omega
theorem rX_0 {t : zTx} {sl f : Nat} {M : zM} (h : rX t sl f M) : ¬ M.1 460 28 = 0 := by rw [h.2.1]; exact f_ne h.2.2.1 h.2.2.2.1
theorem rX_e {t : zTx} {sl f : Nat} {k v : Int32} {M : zM} (h : rX t sl f M) : eM k v M = M := if_neg (rX_0 h)
theorem rX_f {t : zTx} {sl f w p : Nat} {M : zM} (h : rX t sl f M) : fM w p M = M := if_neg (rX_0 h)
theorem rX_n {t : zTx} {sl f p : Nat} {M : zM} (h : rX t sl f M) : rX t sl f (nM p M) := by
  have e : (nM p M) = zsI M 460 33 (M.1 460 33 + 1) := by
    unfold nM
    rw [rX_f h]
    split <;> rfl
  obtain ⟨hB, h28, f1, f2, q, hq, h27⟩ := h
  refine ⟨qF_B (nM_q (b := 0)) hB, by rw [e, zI_s, if_neg (by omega)]; exact h28, f1, f2, q, hq, by rw [e, zI_s, if_neg (by omega)]; exact h27⟩
theorem rX_p {t : zTx} {sl f q : Nat} {M : zM} (h : rX t sl f M) (hq : q ≤ 410) : rX t sl f (zp M q) :=
  ⟨qF_B (qF_I (b := 0) (by omega)) h.1, by rw [zI_s, if_neg (by omega)]; exact h.2.1, h.2.2.1, h.2.2.2.1, q, hq, by rw [zI_s, if_pos rfl]⟩
theorem rS_p {t : zTx} {sl o q q' c : Nat} {e : List zOp} {M : zM} (h : rS t sl o q c e M) (hq : q' ≤ t.1) : rS t sl o q' c e (zp M q') := by
  obtain ⟨hB, h1, h27, h28, h31, h33, hz⟩ := h
  exact ⟨qF_B (qF_I (b := 0) (by omega)) hB, hq, by rw [zI_s, if_pos rfl], by rw [zI_s, if_neg (by omega)]; exact h28, by rw [zI_s, if_neg (by omega)]; exact h31, by rw [zI_s, if_neg (by omega)]; exact h33, by rw [zI_n1 (by omega), zI_n1 (by omega)]; exact hz⟩
theorem rS_f {t : zTx} {sl o q c w p : Nat} {e : List zOp} {M : zM} (h : rS t sl o q c e M) (hp : p ≤ t.1) (hw : w ≤ 4) : rX t sl (1 + 8 * p + w) (fM w p M) := by
  obtain ⟨hB, h1, h27, h28, h31, h33, hz⟩ := h
  have hL := hB.2.1.1
  have e : fM w p M = zsI M 460 28 (Int32.ofNat (1 + 8 * p + w)) := if_pos h28
  exact ⟨qF_B (fM_q (b := 0)) hB, by rw [e, zI_s, if_pos rfl], by omega, by omega, q, by omega, by rw [e, zI_s, if_neg (by omega)]; exact h27⟩
theorem rS_n {t : zTx} {sl o q c p : Nat} {e : List zOp} {M : zM} (h : rS t sl o q c e M) (hc : c < 60) : rS t sl o q (c + 1) e (nM p M) := by
  obtain ⟨hB, h1, h27, h28, h31, h33, hz⟩ := h
  have e : nM p M = zsI M 460 33 (M.1 460 33 + 1) := by
    unfold nM
    rw [if_neg (by rw [h33, show (60 : Int32) = Int32.ofNat 60 from rfl, of_inj (by omega) (by omega)]; omega)]
  refine ⟨qF_B (nM_q (b := 0)) hB, h1, by rw [e, zI_s, if_neg (by omega)]; exact h27, by rw [e, zI_s, if_neg (by omega)]; exact h28, by rw [e, zI_s, if_neg (by omega)]; exact h31, by rw [e, zI_s, if_pos rfl, h33, of_succ], ?_⟩
  rw [e, zI_n1 (by omega), zI_n1 (by omega)]
  exact hz
theorem rS_n60 {t : zTx} {sl o q p : Nat} {e : List zOp} {M : zM} (h : rS t sl o q 60 e M) (hp : p ≤ t.1) : rX t sl (1 + 8 * p + 3) (nM p M) := by
  have hf := rS_f (w := 3) h hp (by omega)
  have e : nM p M = zsI (fM 3 p M) 460 33 (M.1 460 33 + 1) := by
    unfold nM
    rw [if_pos (show M.1 460 33 = 60 from h.2.2.2.2.2.1)]
  rw [e]
  obtain ⟨hB, h28, f1, f2, q', hq, h27⟩ := hf
  exact ⟨qF_B (qF_I (b := 0) (by omega)) hB, by rw [zI_s, if_neg (by omega)]; exact h28, f1, f2, q', hq, by rw [zI_s, if_neg (by omega)]; exact h27⟩
theorem rS_v {t : zTx} {sl o q c : Nat} {e : List zOp} {M : zM} (h : rS t sl o q c e M) (hr : o + e.length < 300) : vp_in (300 * M.1 460 29 + M.1 460 31) 1800 ∧ (300 * M.1 460 29 + M.1 460 31).toNatClampNeg = 300 * sl + o + e.length := by
  have hs := h.1.2.2.2.1
  rw [h.1.2.2.1, h.2.2.2.2.1, of_300]
  exact ⟨vp_of (by omega) (by omega), by rw [toNat_of (by omega)]; omega⟩
theorem rS_e {t : zTx} {sl o q c k v : Nat} {e : List zOp} {M : zM} {x y : Int32} (h : rS t sl o q c e M) (hr : o + e.length < 300) (hx : x = Int32.ofNat k) (hy : y = Int32.ofNat v) : qF (300 * sl + o) M (eM x y M) ∧ rS t sl o q c (e ++ [(k, v)]) (eM x y M) := by
  obtain ⟨g1, g2⟩ := rS_v h hr
  obtain ⟨hB, h1, h27, h28, h31, h33, hz⟩ := h
  have e1 : eM x y M = zsI (zsI (zsI M 486 (300 * sl + o + e.length) x) 487 (300 * sl + o + e.length) y) 460 31 (M.1 460 31 + 1) := by
    unfold eM
    rw [if_pos h28, g2]
  have hF : qF (300 * sl + o) M (eM x y M) := by
    rw [e1]
    exact ⟨by rw [z2_I, z2_I, z2_I], fun a q1 q2 q3 => by rw [zI_n1 q1, zI_n1 q3, zI_n1 q2], fun j q1 q2 q3 q4 => by rw [zI_s, if_neg q3, zI_n (by omega), zI_n (by omega)], fun j hj => ⟨by rw [zI_n (by omega), zI_n (by omega), zI_s, if_neg (by omega)], by rw [zI_n (by omega), zI_s, if_neg (by omega), zI_n (by omega)]⟩⟩
  refine ⟨hF, qF_B hF hB, h1, by rw [e1, zI_s, if_neg (by omega), zI_n (by omega), zI_n (by omega)]; exact h27, by rw [e1, zI_s, if_neg (by omega), zI_n (by omega), zI_n (by omega)]; exact h28, by rw [e1, zI_s, if_pos rfl, h31, of_succ, List.length_append]; rfl, by rw [e1, zI_s, if_neg (by omega), zI_n (by omega), zI_n (by omega)]; exact h33, ?_⟩
  rw [zsg_app]
  refine ⟨zsg_k (fun j q1 q2 => ⟨by rw [e1, zI_n (by omega), zI_n (by omega), zI_s, if_neg (by omega)], by rw [e1, zI_n (by omega), zI_s, if_neg (by omega), zI_n (by omega)]⟩) hz, ?_, ?_, True.intro⟩
  · rw [e1, zI_n (by omega), zI_n (by omega), zI_s, if_pos (by omega)]; exact hx
  · rw [e1, zI_n (by omega), zI_s, if_pos (by omega)]; exact hy
