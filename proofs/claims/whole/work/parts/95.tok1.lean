/-! ===== texts, plainly: places, runs, words, numbers ===== -/
abbrev zTx : Type := Nat × (Nat → Nat)
def kre (P : Nat → Bool) : Nat → Nat → Nat
  | 0, p => p
  | m + 1, p => bif P p then kre P m (p + 1) else p
theorem kre_b {P : Nat → Bool} : ∀ m p, p ≤ kre P m p ∧ kre P m p ≤ p + m ∧ (∀ k, p ≤ k → k < kre P m p → P k = true) ∧ (kre P m p < p + m → P (kre P m p) = false)
  | 0, p => ⟨Nat.le_refl _, Nat.le_refl _, fun k h1 h2 => absurd h2 (by show ¬ k < p; omega), fun h => absurd h (by show ¬ p < p + 0; omega)⟩
  | m + 1, p => by
    rw [kre]
    cases c : P p with
    | false =>
      rw [cond_false]
      exact ⟨Nat.le_refl _, by omega, fun k h1 h2 => by omega, fun _ => c⟩
    | true =>
      rw [cond_true]
      obtain ⟨h1, h2, h3, h4⟩ := kre_b (P := P) m (p + 1)
      refine ⟨by omega, by omega, fun k q1 q2 => ?_, fun h => h4 (by omega)⟩
      by_cases e : k = p
      · rw [e]; exact c
      · exact h3 k (by omega) q2
/-- the end of a run -/
def ken (P : Nat → Bool) (t : zTx) (p : Nat) : Nat := kre (fun k => P (t.2 k)) (t.1 - p) p
theorem ken_l {P : Nat → Bool} {t : zTx} {p : Nat} (h : t.1 ≤ p) : ken P t p = p := by
  unfold ken
  rw [show t.1 - p = 0 by omega, kre]
theorem ken_s {P : Nat → Bool} {t : zTx} {p : Nat} (h : p < t.1) (hP : P (t.2 p) = true) : ken P t p = ken P t (p + 1) := by
  unfold ken
  rw [show t.1 - p = (t.1 - (p + 1)) + 1 by omega, kre]
  show (bif P (t.2 p) then _ else _) = _
  rw [hP, cond_true]
theorem ken_e {P : Nat → Bool} {t : zTx} {p : Nat} (hP : P (t.2 p) = false) : ken P t p = p := by
  unfold ken
  cases t.1 - p with
  | zero => rw [kre]
  | succ m =>
    rw [kre]
    show (bif P (t.2 p) then _ else _) = _
    rw [hP, cond_false]
theorem ken_b {P : Nat → Bool} {t : zTx} {p : Nat} : p ≤ ken P t p ∧ (p ≤ t.1 → ken P t p ≤ t.1) ∧ (∀ k, p ≤ k → k < ken P t p → P (t.2 k) = true) ∧ (ken P t p < t.1 → P (t.2 (ken P t p)) = false) := by
  obtain ⟨h1, h2, h3, h4⟩ := kre_b (P := fun k => P (t.2 k)) (t.1 - p) p
  exact ⟨h1, fun h => by unfold ken; omega, h3, fun h => h4 (by unfold ken at h; omega)⟩
def isL (x : Nat) : Bool := Nat.ble 97 x && Nat.ble x 122
def isD (x : Nat) : Bool := Nat.ble 48 x && Nat.ble x 57
def isB (x : Nat) : Bool := Nat.beq x 32
theorem isL_i {x : Nat} : isL x = true ↔ 97 ≤ x ∧ x ≤ 122 := by unfold isL; rw [Bool.and_eq_true, Nat.ble_eq, Nat.ble_eq]
theorem isD_i {x : Nat} : isD x = true ↔ 48 ≤ x ∧ x ≤ 57 := by unfold isD; rw [Bool.and_eq_true, Nat.ble_eq, Nat.ble_eq]
theorem isB_i {x : Nat} : isB x = true ↔ x = 32 := by unfold isB; rw [Nat.beq_eq]
theorem bf_of {b : Bool} {p : Prop} (h : b = true ↔ p) (hn : ¬ p) : b = false := by
  cases c : b with
  | false => rfl
  | true => exact absurd (h.mp c) hn
/-- the words: the class' numbers -/
def kwd (i : Nat) : List Nat := ([[101, 109, 112, 105, 114, 101], [103, 117, 97, 114, 100], [103, 101, 110, 101, 114, 97, 108], [114, 111, 97, 100], [98, 105, 100, 100, 101, 114], [112, 117, 114, 115, 101], [100, 97, 114, 101], [104, 105, 103, 104], [104, 111, 108, 100, 101, 114], [106, 117, 109, 112], [109, 101, 110], [116, 114, 101, 97, 115, 117, 114, 121], [116, 117, 114, 110], [111, 117, 116], [100, 97, 121], [98, 105, 100], [105, 102], [111, 114], [97, 110, 100], [110, 111, 116]] : List (List Nat)).getD i []
def kof (i : Nat) : Nat := ([0, 7, 13, 21, 26, 33, 39, 44, 49, 56, 61, 65, 74, 79, 83, 87, 91, 94, 97, 101, 105] : List Nat).getD i 0
def kal (T : Nat → Nat) : Nat → List Nat → Bool
  | _, [] => true
  | p, x :: r => Nat.beq (T p) x && kal T (p + 1) r
theorem kal_u {T : Nat → Nat} : ∀ {l l' : List Nat} {p : Nat}, kal T p l = true → kal T p l' = true → l.length = l'.length → l = l'
  | [], [], _, _, _, _ => rfl
  | x :: r, y :: r', p, h, h', hl => by
    rw [kal, Bool.and_eq_true, Nat.beq_eq] at h h'
    rw [kal_u h.2 h'.2 (by rw [List.length_cons, List.length_cons] at hl; omega), ← h.1, ← h'.1]
/-- the word i stands at p, as far as letters go on -/
def kis (t : zTx) (p i : Nat) : Bool := Nat.beq (ken isL t p) (p + (kwd i).length) && kal t.2 p (kwd i)
theorem kwd_inj : ∀ i, i < 20 → ∀ j, j < 20 → kwd i = kwd j → i = j := by decide
theorem kis_u {t : zTx} {p i j : Nat} (hi : i < 20) (hj : j < 20) (h : kis t p i = true) (h' : kis t p j = true) : i = j := by
  unfold kis at h h'
  rw [Bool.and_eq_true, Nat.beq_eq] at h h'
  exact kwd_inj i hi j hj (kal_u h.2 h'.2 (by omega))
def kfw (t : zTx) (p : Nat) : Nat → Nat → Nat
  | 0, i => i
  | m + 1, i => bif kis t p i then i else kfw t p m (i + 1)
/-- the word at p, 20: none -/
def kw (t : zTx) (p : Nat) : Nat := kfw t p 20 0
theorem kfw_b {t : zTx} {p : Nat} : ∀ m i, i ≤ kfw t p m i ∧ kfw t p m i ≤ i + m ∧ (kfw t p m i < i + m → kis t p (kfw t p m i) = true) ∧ ∀ j, i ≤ j → j < kfw t p m i → kis t p j = false
  | 0, i => ⟨Nat.le_refl _, Nat.le_refl _, fun h => absurd h (by show ¬ i < i + 0; omega), fun j h1 h2 => absurd h2 (by show ¬ j < i; omega)⟩
  | m + 1, i => by
    rw [kfw]
    cases c : kis t p i with
    | true =>
      rw [cond_true]
      exact ⟨Nat.le_refl _, by omega, fun _ => c, fun j h1 h2 => by omega⟩
    | false =>
      rw [cond_false]
      obtain ⟨h1, h2, h3, h4⟩ := kfw_b (t := t) (p := p) m (i + 1)
      refine ⟨by omega, by omega, fun h => h3 (by omega), fun j q1 q2 => ?_⟩
      by_cases e : j = i
      · rw [e]; exact c
      · exact h4 j (by omega) q2
theorem kw_le {t : zTx} {p : Nat} : kw t p ≤ 20 := by
  have := (kfw_b (t := t) (p := p) 20 0).2.1
  unfold kw; omega
theorem kw_is {t : zTx} {p i : Nat} (hi : i < 20) : kis t p i = true ↔ kw t p = i := by
  obtain ⟨h1, h2, h3, h4⟩ := kfw_b (t := t) (p := p) 20 0
  constructor
  · intro h
    rcases Nat.lt_trichotomy (kw t p) i with c | c | c
    · exact kis_u (by omega) hi (h3 (show kw t p < _ by omega)) h
    · exact c
    · have := h4 i (by omega) c
      rw [this] at h; cases h
  · intro h
    have := h3 (show kw t p < _ by omega)
    rw [← h]; exact this
/-- digits' value -/
def kdv (T : Nat → Nat) (p : Nat) : Nat → Nat
  | 0 => 0
  | n + 1 => 10 * kdv T p n + (T (p + n) - 48)
theorem kdv_b {T : Nat → Nat} {p : Nat} : ∀ n, (∀ k, k < n → isD (T (p + k)) = true) → kdv T p n + 1 ≤ 10 ^ n
  | 0, _ => Nat.le_refl _
  | n + 1, h => by
    have h1 := kdv_b n (fun k hk => h k (by omega))
    have h2 := isD_i.mp (h n (by omega))
    rw [kdv, Nat.pow_succ]
    omega
/-- pieces: kind (a byte, or 256 end, 257 word, 258 number, 259 at most, 260 at least), number, end -/
def kan (t : zTx) (p : Nat) : Bool := (Nat.beq (t.2 p) 60 || Nat.beq (t.2 p) 62) && (Nat.blt (p + 1) t.1 && Nat.beq (t.2 (p + 1)) 61)
def kk (t : zTx) (p : Nat) : Nat := if t.1 ≤ p then 256 else bif isL (t.2 p) then 257 else bif isD (t.2 p) then 258 else bif kan t p then (if t.2 p = 60 then 259 else 260) else t.2 p
def kN (t : zTx) (p : Nat) : Int32 := if t.1 ≤ p then 0 else bif isL (t.2 p) then (if kw t p = 20 then -1 else Int32.ofNat (kw t p)) else bif isD (t.2 p) then (if 5 < ken isD t p - p then -1 else Int32.ofNat (kdv t.2 p (ken isD t p - p))) else 0
def kX (t : zTx) (p : Nat) : Nat := if t.1 ≤ p then p else bif isL (t.2 p) then ken isL t p else bif isD (t.2 p) then ken isD t p else bif kan t p then p + 2 else p + 1
def kI (k : Nat) : Int32 := if k < 256 then Int32.ofNat k else 255 - Int32.ofNat k
theorem kI_i {j : Nat} (h : j ≤ 260) : (kI j).toInt = if j < 256 then (j : Int) else 255 - (j : Int) := by
  unfold kI
  by_cases c : j < 256
  · rw [if_pos c, if_pos c, Int32.toInt_ofNat_of_lt (by omega)]
  · rw [if_neg c, if_neg c, Int32.toInt_sub, Int32.toInt_ofNat_of_lt (by omega), show (255 : Int32).toInt = 255 from rfl, Int.bmod_def]
    split <;> omega
theorem kI_inj {j k : Nat} (hj : j ≤ 260) (hk : k ≤ 260) : (kI j = kI k) ↔ j = k := by
  constructor
  · intro h
    have h1 := congrArg Int32.toInt h
    rw [kI_i hj, kI_i hk] at h1
    by_cases c : j < 256
    · rw [if_pos c] at h1
      by_cases c2 : k < 256
      · rw [if_pos c2] at h1; omega
      · rw [if_neg c2] at h1; omega
    · rw [if_neg c] at h1
      by_cases c2 : k < 256
      · rw [if_pos c2] at h1; omega
      · rw [if_neg c2] at h1; omega
  · intro h; rw [h]
theorem kan_i {t : zTx} {p : Nat} : kan t p = true ↔ (t.2 p = 60 ∨ t.2 p = 62) ∧ p + 1 < t.1 ∧ t.2 (p + 1) = 61 := by
  unfold kan
  rw [Bool.and_eq_true, Bool.and_eq_true, Bool.or_eq_true, Nat.beq_eq, Nat.beq_eq, Nat.beq_eq, Nat.blt_eq]
def kNw (t : zTx) (p : Nat) : Int32 := if kw t p = 20 then -1 else Int32.ofNat (kw t p)
def kNd (t : zTx) (p : Nat) : Int32 := if 5 < ken isD t p - p then -1 else Int32.ofNat (kdv t.2 p (ken isD t p - p))
/-- what can be at p -/
theorem kcs {t : zTx} {p : Nat} (hb : ∀ k, k < t.1 → t.2 k < 256) :
    (t.1 ≤ p ∧ kk t p = 256 ∧ kX t p = p ∧ kN t p = 0) ∨
    (p < t.1 ∧ (97 ≤ t.2 p ∧ t.2 p ≤ 122) ∧ kk t p = 257 ∧ kX t p = ken isL t p ∧ kN t p = kNw t p) ∨
    (p < t.1 ∧ (48 ≤ t.2 p ∧ t.2 p ≤ 57) ∧ kk t p = 258 ∧ kX t p = ken isD t p ∧ kN t p = kNd t p) ∨
    (p < t.1 ∧ ((t.2 p = 60 ∨ t.2 p = 62) ∧ p + 1 < t.1 ∧ t.2 (p + 1) = 61) ∧ kk t p = (if t.2 p = 60 then 259 else 260) ∧ kX t p = p + 2 ∧ kN t p = 0) ∨
    (p < t.1 ∧ (t.2 p < 256 ∧ ¬ (97 ≤ t.2 p ∧ t.2 p ≤ 122) ∧ ¬ (48 ≤ t.2 p ∧ t.2 p ≤ 57) ∧ ¬ ((t.2 p = 60 ∨ t.2 p = 62) ∧ p + 1 < t.1 ∧ t.2 (p + 1) = 61)) ∧ kk t p = t.2 p ∧ kX t p = p + 1 ∧ kN t p = 0) := by
  unfold kk kX kN
  by_cases c0 : t.1 ≤ p
  · rw [if_pos c0, if_pos c0, if_pos c0]
    exact Or.inl ⟨c0, rfl, rfl, rfl⟩
  · rw [if_neg c0, if_neg c0, if_neg c0]
    have hp : p < t.1 := by omega
    cases c1 : isL (t.2 p) with
    | true =>
      rw [cond_true, cond_true, cond_true]
      exact Or.inr (Or.inl ⟨hp, isL_i.mp c1, rfl, rfl, rfl⟩)
    | false =>
      have n1 : ¬ (97 ≤ t.2 p ∧ t.2 p ≤ 122) := fun h => by rw [isL_i.mpr h] at c1; cases c1
      rw [cond_false, cond_false, cond_false]
      cases c2 : isD (t.2 p) with
      | true =>
        rw [cond_true, cond_true, cond_true]
        exact Or.inr (Or.inr (Or.inl ⟨hp, isD_i.mp c2, rfl, rfl, rfl⟩))
      | false =>
        have n2 : ¬ (48 ≤ t.2 p ∧ t.2 p ≤ 57) := fun h => by rw [isD_i.mpr h] at c2; cases c2
        rw [cond_false, cond_false, cond_false]
        cases c3 : kan t p with
        | true =>
          rw [cond_true, cond_true]
          exact Or.inr (Or.inr (Or.inr (Or.inl ⟨hp, kan_i.mp c3, rfl, rfl, rfl⟩)))
        | false =>
          have n3 : ¬ ((t.2 p = 60 ∨ t.2 p = 62) ∧ p + 1 < t.1 ∧ t.2 (p + 1) = 61) := fun h => by rw [kan_i.mpr h] at c3; cases c3
          rw [cond_false, cond_false]
          exact Or.inr (Or.inr (Or.inr (Or.inr ⟨hp, ⟨hb p hp, n1, n2, n3⟩, rfl, rfl, rfl⟩)))
theorem kk_le {t : zTx} {p : Nat} (hb : ∀ k, k < t.1 → t.2 k < 256) : kk t p ≤ 260 := by
  rcases kcs (p := p) hb with h | h | h | h | h
  · omega
  · omega
  · omega
  · rw [h.2.2.1]; split <;> omega
  · omega
/-- the next piece's place -/
def kA (t : zTx) (p : Nat) : Nat := ken isB t (kX t p)
theorem ken_lt {P : Nat → Bool} {t : zTx} {p : Nat} (h : p < t.1) (hP : P (t.2 p) = true) : p < ken P t p := by
  rw [ken_s h hP]
  have := (ken_b (P := P) (t := t) (p := p + 1)).1
  omega
theorem kX_b {t : zTx} {p : Nat} (h : p < t.1) : p < kX t p ∧ kX t p ≤ t.1 := by
  unfold kX
  rw [if_neg (by omega)]
  cases c1 : isL (t.2 p) with
  | true => rw [cond_true]; exact ⟨ken_lt h c1, ken_b.2.1 (by omega)⟩
  | false =>
    rw [cond_false]
    cases c2 : isD (t.2 p) with
    | true => rw [cond_true]; exact ⟨ken_lt h c2, ken_b.2.1 (by omega)⟩
    | false =>
      rw [cond_false]
      cases c3 : kan t p with
      | true =>
        rw [cond_true]
        have := kan_i.mp c3
        exact ⟨by omega, by omega⟩
      | false => rw [cond_false]; exact ⟨by omega, by omega⟩
theorem kA_b {t : zTx} {p : Nat} (h : p < t.1) : p < kA t p ∧ kA t p ≤ t.1 := by
  obtain ⟨h1, h2⟩ := kX_b h
  obtain ⟨h3, h4, -⟩ := ken_b (P := isB) (t := t) (p := kX t p)
  exact ⟨by unfold kA; omega, h4 h2⟩
theorem kA_l {t : zTx} {p : Nat} (h : t.1 ≤ p) : kA t p = p := by
  unfold kA kX
  rw [if_pos h, ken_l h]
theorem kA_le {t : zTx} {p : Nat} (h : p ≤ t.1) : p ≤ kA t p ∧ kA t p ≤ t.1 := by
  by_cases c : p < t.1
  · have := kA_b c; omega
  · rw [kA_l (by omega)]; omega
/-- a place behind blanks -/
theorem kB_i {t : zTx} {p : Nat} : ken isB t (ken isB t p) = ken isB t p := by
  by_cases c : ken isB t p < t.1
  · exact ken_e (ken_b.2.2.2 c)
  · exact ken_l (by omega)
theorem kA_n {t : zTx} {p : Nat} : ken isB t (kA t p) = kA t p := kB_i
/-! ===== the JDK's texts ===== -/
theorem zxn_s {X : (Nat → Int32) × Nat} {j : Nat} (h : j < 21) : zxn X (30 + j) = (zbyL.getD j []).length := by
  unfold zxn
  rw [zbqf (show 30 + j ≠ 70 by omega), zblf (show ¬ 60 ≤ 30 + j by omega), show 30 + j - 30 = j by omega]
  rfl
theorem zxf_s {X : (Nat → Int32) × Nat} {j k : Nat} (h : j < 21) : zxf X (30 + j) k = (zbyL.getD j []).getD k 0 := by
  unfold zxf
  rw [zbqf (show 30 + j ≠ 70 by omega), zblf (show ¬ 60 ≤ 30 + j by omega), show 30 + j - 30 = j by omega]
  rfl
theorem zby_n : ∀ j, j < 21 → (zbyL.getD j []).length ≤ 104 ∧ Int32.ofNat (zbyL.getD j []).length >>> ((0 : Int32) &&& 31) = Int32.ofNat (zbyL.getD j []).length := by decide
theorem zby_c : ∀ j, j < 21 → ∀ k, k < (zbyL.getD j []).length → UInt32.toInt32 (Int32.toUInt32 (((zbyL.getD j []).getD k 0) &&& (255 : Int32)) % 65536) = (zbyL.getD j []).getD k 0 ∧ UInt32.toInt32 (UInt16.toUInt32 (UInt32.toUInt16 (Int32.toUInt32 ((zbyL.getD j []).getD k 0)))) = (zbyL.getD j []).getD k 0 := by decide +kernel
theorem j242 {X : (Nat → Int32) × Nat} {d j : Nat} {M : zM} (hG : zGE M) (hj : j < 21) : zC X (d + 1) 242 [.retAddr j] M = some (some (.int (Int32.ofNat (zbyL.getD j []).length)), M) := by
  show zR X (d + 1) 242 (0, [.retAddr j], [], M) = _
  have h243 : zC X d 243 [.retAddr j] M = some (some (.int 0), M) := by
    show zR X d 243 (0, [.retAddr j], [], M) = _
    rw [t243_0 _ _ hG hj]
  rw [t242_0 _ _ hG hj (Or.inl ⟨by omega, by omega⟩), h243, Option.bind_some]
  dsimp only [zps]
  rw [t242_9 _ _ _ _ hG, zxn_s hj, (zby_n j hj).2]
theorem j244 {X : (Nat → Int32) × Nat} {d j k : Nat} {M : zM} (hG : zGE M) (hj : j < 21) (hk : k < (zbyL.getD j []).length) : zC X (d + 3) 244 [.retAddr j, .int (Int32.ofNat k)] M = some (some (.int ((zbyL.getD j []).getD k 0)), M) := by
  have hn := (zby_n j hj).1
  obtain ⟨c1, c2⟩ := zby_c j hj k hk
  have kk : (Int32.ofNat k).toNatClampNeg = k := toNat_of (by omega)
  have h245 : zC X (d + 2) 245 [.retAddr j] M = some (some (.int 1), M) := by
    show zR X (d + 2) 245 (0, [.retAddr j], [], M) = _
    rw [t245_0 _ _ hG hj]
  have h248 : zC X d 248 [.int (Int32.ofNat k), .int (Int32.ofNat (zbyL.getD j []).length), .float 1] M = some (some (.int (Int32.ofNat k)), M) := by
    show zR X d 248 (0, [.int (Int32.ofNat k), .int (Int32.ofNat (zbyL.getD j []).length), .float 1], [], M) = _
    have a1 : ¬ Int32.ofNat k < 0 := by rw [show (0 : Int32) = Int32.ofNat 0 from rfl, of_lt (by omega) (by omega)]; omega
    have a2 : Int32.ofNat k < Int32.ofNat (zbyL.getD j []).length := by rw [of_lt (by omega) (by omega)]; exact hk
    rw [t248_0 _ _ _ _ hG (fun h => a1 h) (fun _ h => h a2), if_neg a1, if_pos a2]
  have h247 : zC X (d + 1) 247 [.int (Int32.ofNat k), .int (Int32.ofNat (zbyL.getD j []).length)] M = some (none, M) := by
    show zR X (d + 1) 247 (0, [.int (Int32.ofNat k), .int (Int32.ofNat (zbyL.getD j []).length)], [], M) = _
    rw [t247_0 _ _ _ hG, h248, Option.bind_some]
    dsimp only [zps]
    rw [t247_8 _ _ _ _ hG]
  have h246 : zC X (d + 2) 246 [.retAddr (30 + j), .int (Int32.ofNat k)] M = some (some (.int ((zbyL.getD j []).getD k 0)), M) := by
    show zR X (d + 2) 246 (0, [.retAddr (30 + j), .int (Int32.ofNat k)], [], M) = _
    rw [t246_0 _ _ _ hG (Or.inl ⟨by omega, by omega⟩), zxn_s hj, h247, Option.bind_some]
    dsimp only [zps]
    have e : zxf X (30 + j) (Int32.ofNat k).toNatClampNeg = (zbyL.getD j []).getD k 0 := by rw [kk, zxf_s hj]
    rw [t246_6 _ _ _ hG (by omega) (by omega) (by rw [zxn_s hj]; exact vp_of hk (by omega)) (by rw [e, c1]; exact c2), e, c1]
  show zR X (d + 3) 244 (0, [.retAddr j, .int (Int32.ofNat k)], [], M) = _
  rw [t244_0 _ _ _ hG hj, h245, Option.bind_some]
  dsimp only [zps]
  rw [t244_4 _ _ _ _ hG (fun h => absurd h (by decide)) (fun _ => hj), if_neg (by decide), h246, Option.bind_some]
  dsimp only [zps]
  rw [t244_15 _ _ _ _ hG c2]
/-! ===== the class' tape: bytes, runs, words ===== -/
def tqD (t : zTx) (M : zM) : Prop := t.1 ≤ 400 ∧ M.1 1 1 = Int32.ofNat t.1 ∧ ∀ k, k < t.1 → t.2 k < 256 ∧ M.1 2 k = Int32.ofNat (t.2 k)
theorem lit00 : (0 : Int32) = Int32.ofNat 0 := rfl
theorem nneg {k : Nat} (hk : k < 2147483648) : ¬ Int32.ofNat k < 0 := by rw [lit00, of_lt hk (by omega)]; omega
theorem s88 {X : (Nat → Int32) × Nat} {d q a b : Nat} {t : zTx} {M : zM} (hG : zGE M) (hT : tqD t M) (hq : q < 1000) (ha : a < 1000) (hb : b < 1000) : zC X d 88 [.ref 1, .int (Int32.ofNat q), .int (Int32.ofNat a), .int (Int32.ofNat b)] M = some (some (.int (if q < t.1 ∧ a ≤ t.2 q ∧ t.2 q ≤ b then 1 else 0)), M) := by
  show zR X d 88 (0, [.ref 1, .int (Int32.ofNat q), .int (Int32.ofNat a), .int (Int32.ofNat b)], [], M) = _
  obtain ⟨h1, h2, h3⟩ := hT
  have c2 : (M.1 1 1 ≤ Int32.ofNat q) ↔ t.1 ≤ q := by rw [h2]; exact of_le (by omega) (by omega)
  rw [t88_0 _ _ _ _ hG (fun _ h => vp_of (by have := mt c2.mpr h; omega) (by omega)), if_neg (nneg (by omega))]
  by_cases c : t.1 ≤ q
  · rw [if_pos (c2.mpr c), if_neg (by omega)]
  · obtain ⟨h4, h5⟩ := h3 q (by omega)
    rw [if_neg (mt c2.mp c), toNat_of (by omega), h5, fi_lt (by omega) (by omega), fi_lt (by omega) (by omega)]
    by_cases c1 : t.2 q < a
    · rw [if_pos c1, if_neg (by omega)]
    · rw [if_neg c1]
      by_cases c3 : b < t.2 q
      · rw [if_pos c3, if_neg (by omega)]
      · rw [if_neg c3, if_pos (by omega)]
theorem s89 {X : (Nat → Int32) × Nat} {d q : Nat} {t : zTx} {M : zM} (hG : zGE M) (hT : tqD t M) (hq : q < t.1) : zC X (d + 1) 89 [.ref 1, .int (Int32.ofNat q)] M = some (some (.int (if t.2 q = 60 ∨ t.2 q = 62 then 1 else 0)), M) := by
  have hL := hT.1
  show zR X (d + 1) 89 (0, [.ref 1, .int (Int32.ofNat q)], [], M) = _
  rw [t89_0 _ _ hG, show (60 : Int32) = Int32.ofNat 60 from rfl, s88 hG hT (by omega) (by omega) (by omega), Option.bind_some]
  dsimp only [zps]
  rw [t89_9 _ _ _ hG, show (62 : Int32) = Int32.ofNat 62 from rfl, s88 hG hT (by omega) (by omega) (by omega), Option.bind_some]
  dsimp only [zps]
  rw [t89_21 _ _ _ hG]
  by_cases c1 : t.2 q = 60
  · rw [if_pos (show q < t.1 ∧ 60 ≤ t.2 q ∧ t.2 q ≤ 60 by omega), if_pos (show ¬ (1 : Int32) = 0 by decide), if_pos (Or.inl c1)]
  · rw [if_neg (show ¬ (q < t.1 ∧ 60 ≤ t.2 q ∧ t.2 q ≤ 60) by omega), if_neg (show ¬ ¬ (0 : Int32) = 0 by decide)]
    by_cases c2 : t.2 q = 62
    · rw [if_pos (show q < t.1 ∧ 62 ≤ t.2 q ∧ t.2 q ≤ 62 by omega), if_neg (show ¬ (1 : Int32) = 0 by decide), if_pos (Or.inr c2)]
    · rw [if_neg (show ¬ (q < t.1 ∧ 62 ≤ t.2 q ∧ t.2 q ≤ 62) by omega), if_pos rfl, if_neg (by omega)]
theorem s90 {X : (Nat → Int32) × Nat} {d a b : Nat} {P : Nat → Bool} {t : zTx} {M : zM} (hG : zGE M) (hT : tqD t M) (hP : ∀ x, P x = true ↔ a ≤ x ∧ x ≤ b) (ha : a < 1000) (hb : b < 1000) {q : Nat} (hq : q ≤ t.1) : zC X (d + 1) 90 [.ref 1, .int (Int32.ofNat q), .int (Int32.ofNat a), .int (Int32.ofNat b)] M = some (some (.int (Int32.ofNat (ken P t q))), M) := by
  have hL := hT.1
  have loop : ∀ m k, k + m = t.1 → zR X (d + 1) 90 (3, [.ref 1, .int (Int32.ofNat q), .int (Int32.ofNat a), .int (Int32.ofNat b), .int (Int32.ofNat k)], [], M) = some (some (.int (Int32.ofNat (ken P t k))), M) := by
    intro m
    induction m with
    | zero =>
      intro k hk
      rw [t90_3 _ _ _ _ _ hG, hT.2.1, fi_le (by omega) (by omega), if_pos (by omega), ken_l (by omega)]
    | succ m ih =>
      intro k hk
      rw [t90_3 _ _ _ _ _ hG, hT.2.1, fi_le (by omega) (by omega), if_neg (by omega), s88 hG hT (by omega) ha hb, Option.bind_some]
      dsimp only [zps]
      rw [t90_20 _ _ _ _ _ _ hG]
      cases c : P (t.2 k) with
      | true =>
        have := (hP _).mp c
        rw [if_pos (show k < t.1 ∧ a ≤ t.2 k ∧ t.2 k ≤ b by omega), if_neg (by decide), of_succ, ih (k + 1) (by omega), ken_s (by omega) c]
      | false =>
        have h0 : ¬ (a ≤ t.2 k ∧ t.2 k ≤ b) := fun h => by rw [(hP _).mpr h] at c; cases c
        rw [if_neg (show ¬ (k < t.1 ∧ a ≤ t.2 k ∧ t.2 k ≤ b) from fun h => h0 h.2), if_pos rfl, ken_e c]
  show zR X (d + 1) 90 (0, [.ref 1, .int (Int32.ofNat q), .int (Int32.ofNat a), .int (Int32.ofNat b), zjk], [], M) = _
  rw [t90_0 _ _ _ _ _ hG]
  exact loop (t.1 - q) q (by omega)
theorem s92 {X : (Nat → Int32) × Nat} {d p q : Nat} {t : zTx} {M : zM} (hG : zGE M) (hT : tqD t M) (hp : p ≤ q) (hq : q ≤ t.1) (hD : ∀ k, p ≤ k → k < q → isD (t.2 k) = true) : zC X d 92 [.ref 1, .int (Int32.ofNat p), .int (Int32.ofNat q)] M = some (some (.int (if 5 < q - p then -1 else Int32.ofNat (kdv t.2 p (q - p)))), M) := by
  have hL := hT.1
  have loop : ∀ m k, p + k + m = q → q - p ≤ 5 → zR X d 92 (14, [.ref 1, .int (Int32.ofNat p), .int (Int32.ofNat q), .int (Int32.ofNat (kdv t.2 p k)), .int (Int32.ofNat (p + k))], [], M) = some (some (.int (Int32.ofNat (kdv t.2 p (q - p)))), M) := by
    intro m
    induction m with
    | zero =>
      intro k hk h5
      rw [t92_14 _ _ _ _ _ hG (fun h => absurd (show Int32.ofNat q ≤ Int32.ofNat (p + k) by rw [of_le (by omega) (by omega)]; omega) h), fi_le (by omega) (by omega), if_pos (by omega), show q - p = k by omega]
    | succ m ih =>
      intro k hk h5
      have hd := isD_i.mp (hD (p + k) (by omega) (by omega))
      have hs : (Int32.ofNat (kdv t.2 p k) * 10 + M.1 2 (p + k)) - 48 = Int32.ofNat (kdv t.2 p (k + 1)) := by
        rw [(hT.2.2 (p + k) (by omega)).2, show (10 : Int32) = Int32.ofNat 10 from rfl, of_mul, ← Int32.ofNat_add, show (48 : Int32) = Int32.ofNat 48 from rfl, of_sub (by omega), kdv]
        congr 1; omega
      rw [t92_14 _ _ _ _ _ hG (fun _ => vp_of (by omega) (by omega)), fi_le (by omega) (by omega), if_neg (by omega), toNat_of (by omega), hs, of_succ]
      exact ih (k + 1) (by omega) h5
  show zR X d 92 (0, [.ref 1, .int (Int32.ofNat p), .int (Int32.ofNat q), zjk, zjk], [], M) = _
  rw [t92_0 _ _ _ _ _ hG, of_sub hp, show (5 : Int32) = Int32.ofNat 5 from rfl, fi_le (by omega) (by omega)]
  by_cases c : q - p ≤ 5
  · rw [if_pos c, if_neg (by omega)]
    exact loop (q - p) 0 (by omega) c
  · rw [if_neg c, if_pos (by omega)]
/-- the list of all words -/
theorem kwd_f : ∀ w, w < 20 → kof w + (kwd w).length ≤ 104 ∧ kof (w + 1) = kof w + (kwd w).length + 1 ∧ (w < 19 → (zbyL.getD 0 []).getD (kof w + (kwd w).length) 0 = 32) ∧ (w < 19 → kof w + (kwd w).length < 104) ∧ (w = 19 → kof w + (kwd w).length = 104) ∧ ∀ k, k < (kwd w).length → (zbyL.getD 0 []).getD (kof w + k) 0 = Int32.ofNat ((kwd w).getD k 0) ∧ (kwd w).getD k 0 < 123 ∧ 97 ≤ (kwd w).getD k 0 := by decide +kernel
theorem zby_0 : (zbyL.getD 0 []).length = 104 := by decide
theorem drop_c : ∀ {L : List Nat} {k x : Nat} {l : List Nat}, L.drop k = x :: l → L.getD k 0 = x ∧ L.drop (k + 1) = l
  | [], k, x, l, h => by rw [List.drop_nil] at h; cases h
  | y :: L, 0, x, l, h => by
    have h : y :: L = x :: l := h
    cases h
    exact ⟨rfl, rfl⟩
  | y :: L, k + 1, x, l, h => drop_c (L := L) (k := k) h
theorem s94 {X : (Nat → Int32) × Nat} {d p w : Nat} {t : zTx} {M : zM} (hG : zGE M) (hT : tqD t M) (hw : w < 20) (hp : p + (kwd w).length ≤ t.1) : zC X (d + 4) 94 [.ref 1, .int (Int32.ofNat (kof w)), .int (Int32.ofNat (kof w + (kwd w).length)), .int (Int32.ofNat p)] M = some (some (.int (bif kal t.2 p (kwd w) then 1 else 0)), M) := by
  have hL := hT.1
  obtain ⟨f1, -, -, -, -, f2⟩ := kwd_f w hw
  have loop : ∀ (l : List Nat) k, (kwd w).drop k = l → k + l.length = (kwd w).length → zR X (d + 4) 94 (3, [.ref 1, .int (Int32.ofNat (kof w)), .int (Int32.ofNat (kof w + (kwd w).length)), .int (Int32.ofNat p), .int (Int32.ofNat (kof w + k))], [], M) = some (some (.int (bif kal t.2 (p + k) l then 1 else 0)), M) := by
    intro l
    induction l with
    | nil =>
      intro k h1 h2
      rw [List.length_nil] at h2
      rw [t94_3 _ _ _ _ _ hG, fi_le (by omega) (by omega), if_pos (by omega)]
      rfl
    | cons x l ih =>
      intro k h1 h2
      rw [List.length_cons] at h2
      have hk : k < (kwd w).length := by omega
      obtain ⟨hx, hl⟩ := drop_c h1
      obtain ⟨f3, f4, f5⟩ := f2 k hk
      rw [hx] at f3 f4 f5
      have hch := j244 (X := X) (d := d) (j := 0) (k := kof w + k) (M := M) hG (by omega) (by rw [zby_0]; omega)
      rw [f3] at hch
      have e : (Int32.ofNat p + Int32.ofNat (kof w + k)) - Int32.ofNat (kof w) = Int32.ofNat (p + k) := by
        rw [← Int32.ofNat_add, of_sub (by omega)]
        congr 1; omega
      rw [t94_3 _ _ _ _ _ hG, fi_le (by omega) (by omega), if_neg (by omega), hch, Option.bind_some]
      dsimp only [zps]
      rw [t94_23 _ _ _ _ _ _ _ hG, hch, Option.bind_some]
      dsimp only [zps]
      rw [t94_30 _ _ _ _ _ _ _ _ hG, e, s88 hG hT (by omega) (by omega) (by omega), Option.bind_some]
      dsimp only [zps]
      rw [t94_33 _ _ _ _ _ _ hG, of_succ, kal]
      by_cases c : t.2 (p + k) = x
      · rw [if_pos (show p + k < t.1 ∧ x ≤ t.2 (p + k) ∧ t.2 (p + k) ≤ x by omega), if_pos (by decide), Nat.beq_eq.mpr c, Bool.true_and]
        exact ih (k + 1) hl (by omega)
      · rw [if_neg (show ¬ (p + k < t.1 ∧ x ≤ t.2 (p + k) ∧ t.2 (p + k) ≤ x) by omega), if_neg (by decide), zbqf c, Bool.false_and]
        rfl
  show zR X (d + 4) 94 (0, [.ref 1, .int (Int32.ofNat (kof w)), .int (Int32.ofNat (kof w + (kwd w).length)), .int (Int32.ofNat p), zjk], [], M) = _
  rw [t94_0 _ _ _ _ _ hG]
  exact loop (kwd w) 0 rfl (by omega)
theorem s93 {X : (Nat → Int32) × Nat} {d p : Nat} {t : zTx} {M : zM} (hG : zGE M) (hT : tqD t M) (hp : p ≤ t.1) : zC X (d + 5) 93 [.ref 1, .int (Int32.ofNat p), .int (Int32.ofNat (ken isL t p))] M = some (some (.int (if kw t p = 20 then -1 else Int32.ofNat (kw t p))), M) := by
  have hL := hT.1
  obtain ⟨hk1, hk2, -, -⟩ := ken_b (P := isL) (t := t) (p := p)
  have hk3 := hk2 hp
  have h242 := j242 (X := X) (d := d + 3) (j := 0) (M := M) hG (by omega)
  rw [zby_0] at h242
  have st : ∀ w, w < 20 → ∀ k, k ≤ (kwd w).length → zR X (d + 5) 93 (8, [.ref 1, .int (Int32.ofNat p), .int (Int32.ofNat (ken isL t p)), .int (Int32.ofNat w), .int (Int32.ofNat (kof w)), .int (Int32.ofNat (kof w))], [], M) = zR X (d + 5) 93 (8, [.ref 1, .int (Int32.ofNat p), .int (Int32.ofNat (ken isL t p)), .int (Int32.ofNat w), .int (Int32.ofNat (kof w)), .int (Int32.ofNat (kof w + k))], [], M) := by
    intro w hw k
    induction k with
    | zero => intro _; rfl
    | succ k ih =>
      intro hk
      obtain ⟨f1, -, -, -, -, f2⟩ := kwd_f w hw
      obtain ⟨f3, f4, f5⟩ := f2 k (by omega)
      have hch := j244 (X := X) (d := d + 1) (j := 0) (k := kof w + k) (M := M) hG (by omega) (by rw [zby_0]; omega)
      rw [f3] at hch
      rw [ih (by omega), t93_8 _ _ _ _ _ _ hG, h242, Option.bind_some]
      dsimp only [zps]
      rw [t93_15 _ _ _ _ _ _ _ _ hG, fi_lt (by omega) (by omega), if_neg (by omega), h242, Option.bind_some]
      dsimp only [zps]
      rw [t93_25 _ _ _ _ _ _ _ _ hG, fi_eq (by omega) (by omega), if_neg (by omega), hch, Option.bind_some]
      dsimp only [zps]
      rw [t93_35 _ _ _ _ _ _ _ hG, show (32 : Int32) = Int32.ofNat 32 from rfl, fi_ne (by omega) (by omega), if_pos (by omega), of_succ]
      rfl
  have en : ∀ w, w < 20 → zR X (d + 5) 93 (8, [.ref 1, .int (Int32.ofNat p), .int (Int32.ofNat (ken isL t p)), .int (Int32.ofNat w), .int (Int32.ofNat (kof w)), .int (Int32.ofNat (kof w))], [], M) = bif kis t p w then some (some (.int (Int32.ofNat w)), M) else zR X (d + 5) 93 (8, [.ref 1, .int (Int32.ofNat p), .int (Int32.ofNat (ken isL t p)), .int (Int32.ofNat (w + 1)), .int (Int32.ofNat (kof (w + 1))), .int (Int32.ofNat (kof (w + 1)))], [], M) := by
    intro w hw
    obtain ⟨f1, f0, f6, f7, f8, f2⟩ := kwd_f w hw
    have cmp : (if ¬ (Int32.ofNat (kof w + (kwd w).length) - Int32.ofNat (kof w)) = (Int32.ofNat (ken isL t p) - Int32.ofNat p) then zR X (d + 5) 93 (8, [.ref 1, .int (Int32.ofNat p), .int (Int32.ofNat (ken isL t p)), .int (Int32.ofNat w + 1), .int (Int32.ofNat (kof w + (kwd w).length) + 1), .int (Int32.ofNat (kof w + (kwd w).length) + 1)], [], M) else (zC X (d + 4) 94 [.ref 1, .int (Int32.ofNat (kof w)), .int (Int32.ofNat (kof w + (kwd w).length)), .int (Int32.ofNat p)] M).bind fun o => zR X (d + 5) 93 (60, [.ref 1, .int (Int32.ofNat p), .int (Int32.ofNat (ken isL t p)), .int (Int32.ofNat w), .int (Int32.ofNat (kof w)), .int (Int32.ofNat (kof w + (kwd w).length))], zps o.1 [], o.2)) = bif kis t p w then some (some (.int (Int32.ofNat w)), M) else zR X (d + 5) 93 (8, [.ref 1, .int (Int32.ofNat p), .int (Int32.ofNat (ken isL t p)), .int (Int32.ofNat (w + 1)), .int (Int32.ofNat (kof (w + 1))), .int (Int32.ofNat (kof (w + 1)))], [], M) := by
      rw [of_sub (by omega), of_sub hk1, fi_ne (by omega) (by omega), of_succ, of_succ, f0]
      unfold kis
      by_cases c : ken isL t p = p + (kwd w).length
      · rw [if_neg (by omega), s94 hG hT hw (by omega), Option.bind_some, Nat.beq_eq.mpr c, Bool.true_and]
        dsimp only [zps]
        rw [t93_60 _ _ _ _ _ _ _ hG]
        cases kal t.2 p (kwd w) with
        | true => rw [cond_true, cond_true, if_neg (by decide)]
        | false => rw [cond_false, cond_false, if_pos rfl, of_succ, of_succ]
      · rw [if_pos (by omega), zbqf c, Bool.false_and, cond_false]
    rw [st w hw (kwd w).length (Nat.le_refl _), t93_8 _ _ _ _ _ _ hG, h242, Option.bind_some]
    dsimp only [zps]
    rw [t93_15 _ _ _ _ _ _ _ _ hG, fi_lt (by omega) (by omega), if_neg (by omega), h242, Option.bind_some]
    dsimp only [zps]
    rw [t93_25 _ _ _ _ _ _ _ _ hG, fi_eq (by omega) (by omega)]
    by_cases c : w = 19
    · rw [if_pos (f8 c)]
      exact cmp
    · have hch := j244 (X := X) (d := d + 1) (j := 0) (k := kof w + (kwd w).length) (M := M) hG (by omega) (by rw [zby_0]; exact f7 (by omega))
      rw [f6 (by omega)] at hch
      have := f7 (by omega)
      rw [if_neg (by omega), hch, Option.bind_some]
      dsimp only [zps]
      rw [t93_35 _ _ _ _ _ _ _ hG, if_neg (by decide)]
      exact cmp
  have all : ∀ m w, w + m = 20 → zR X (d + 5) 93 (8, [.ref 1, .int (Int32.ofNat p), .int (Int32.ofNat (ken isL t p)), .int (Int32.ofNat w), .int (Int32.ofNat (kof w)), .int (Int32.ofNat (kof w))], [], M) = some (some (.int (if kfw t p m w = 20 then -1 else Int32.ofNat (kfw t p m w))), M) := by
    intro m
    induction m with
    | zero =>
      intro w hw
      have e : w = 20 := by omega
      subst e
      rw [t93_8 _ _ _ _ _ _ hG, h242, Option.bind_some]
      dsimp only [zps]
      rw [t93_15 _ _ _ _ _ _ _ _ hG, if_pos (by decide), kfw, if_pos rfl]
    | succ m ih =>
      intro w hw
      rw [en w (by omega), kfw]
      cases c : kis t p w with
      | true => rw [cond_true, cond_true, if_neg (by omega)]
      | false => rw [cond_false, cond_false]; exact ih (w + 1) (by omega)
  show zR X (d + 5) 93 (0, [.ref 1, .int (Int32.ofNat p), .int (Int32.ofNat (ken isL t p)), zjk, zjk, zjk], [], M) = _
  rw [t93_0 _ _ _ _ _ _ hG]
  exact all 20 0 rfl
