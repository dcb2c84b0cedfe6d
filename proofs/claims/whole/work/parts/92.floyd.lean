/-! ===== the shortest ways ===== -/
def fwF (o : Nat) (D : Nat → Nat → Nat) : Nat → Nat → Nat := fun a b => if D a o + D o b < D a b then D a o + D o b else D a b
def fwN (D : Nat → Nat → Nat) : Nat → Nat → Nat → Nat
  | 0 => D
  | k + 1 => fwF k (fwN D k)
theorem fwF_le {o : Nat} {D : Nat → Nat → Nat} {a b : Nat} : fwF o D a b ≤ D a b ∧ fwF o D a b ≤ D a o + D o b ∧ (fwF o D a b = D a b ∨ fwF o D a b = D a o + D o b) := by
  unfold fwF
  split <;> omega
theorem fwN_0 {D : Nat → Nat → Nat} (h : ∀ a, a < 8 → D a a = 0) : ∀ k, ∀ a, a < 8 → fwN D k a a = 0
  | 0, a, ha => h a ha
  | k + 1, a, ha => by
    have h1 := fwN_0 h k a ha
    have h2 := (fwF_le (o := k) (D := fwN D k) (a := a) (b := a)).1
    show fwF k (fwN D k) a a = 0
    omega
theorem fwF_r {o : Nat} {D : Nat → Nat → Nat} (h : D o o = 0) (a : Nat) : fwF o D a o = D a o ∧ fwF o D o a = D o a := by
  unfold fwF
  rw [h]
  constructor
  · rw [if_neg (by omega)]
  · rw [if_neg (by omega)]
theorem fwN_le {D : Nat → Nat → Nat} {k a b : Nat} : ∀ m, fwN D (k + m) a b ≤ fwN D k a b
  | 0 => Nat.le_refl _
  | m + 1 => Nat.le_trans (fwF_le (o := k + m) (D := fwN D (k + m)) (a := a) (b := b)).1 (fwN_le m)
/-- three corners -/
theorem fwN_t {D : Nat → Nat → Nat} (h : ∀ a, a < 8 → D a a = 0) : ∀ k, k ≤ 8 → ∀ o a b, o < k → fwN D k a b ≤ fwN D k a o + fwN D k o b
  | 0, _, o, _, _, ho => absurd ho (Nat.not_lt_zero o)
  | k + 1, hk, o, a, b, ho => by
    have hkk := fwN_0 h k k (by omega)
    have ih := fwN_t h k (by omega)
    show fwF k (fwN D k) a b ≤ fwF k (fwN D k) a o + fwF k (fwN D k) o b
    have f1 := fwF_le (o := k) (D := fwN D k) (a := a) (b := b)
    by_cases e : o = k
    · subst e
      have r1 := (fwF_r hkk a).1
      have r2 := (fwF_r hkk b).2
      omega
    · have f2 := fwF_le (o := k) (D := fwN D k) (a := a) (b := o)
      have f3 := fwF_le (o := k) (D := fwN D k) (a := o) (b := b)
      have i1 := ih o a b (by omega)
      have i2 := ih o k b (by omega)
      have i3 := ih o a k (by omega)
      omega
/-- the next city -/
theorem fwN_x {D : Nat → Nat → Nat} (h : ∀ a, a < 8 → D a a = 0) : ∀ k, k ≤ 8 → ∀ a b, a < 8 → b < 8 → a ≠ b → fwN D k a b < 100000 → ∃ c, c < 8 ∧ D a c < 100000 ∧ a ≠ c ∧ D a c + fwN D 8 c b ≤ fwN D k a b
  | 0, _, a, b, ha, hb, hne, hf => ⟨b, hb, hf, hne, by rw [fwN_0 h 8 b hb]; exact Nat.le_refl _⟩
  | k + 1, hk, a, b, ha, hb, hne, hf => by
    have ih := fwN_x h k (by omega)
    have f1 := fwF_le (o := k) (D := fwN D k) (a := a) (b := b)
    have hff : fwF k (fwN D k) a b < 100000 := hf
    show ∃ c, c < 8 ∧ D a c < 100000 ∧ a ≠ c ∧ D a c + fwN D 8 c b ≤ fwF k (fwN D k) a b
    rcases f1.2.2 with e | e
    · rw [e] at hff ⊢
      exact ih a b ha hb hne hff
    · by_cases ek : a = k
      · have hkk := fwN_0 h k k (by omega)
        rw [e, ek, hkk] at hff
        rw [e, ek, hkk]
        obtain ⟨c, c1, c2, c3, c4⟩ := ih k b (by omega) hb (by omega) (by omega)
        exact ⟨c, c1, c2, c3, by omega⟩
      · obtain ⟨c, c1, c2, c3, c4⟩ := ih a k ha (by omega) ek (by omega)
        have t := fwN_t h 8 (by omega) k c b (by omega)
        have l := fwN_le (D := D) (k := k) (a := k) (b := b) (8 - k)
        rw [show k + (8 - k) = 8 by omega] at l
        exact ⟨c, c1, c2, c3, by omega⟩
def cnf (f : Nat → Nat) (m : Nat) : Nat → Nat
  | 0 => 0
  | n + 1 => (if f n < m then 1 else 0) + cnf f m n
theorem cnf_le {f : Nat → Nat} {m : Nat} : ∀ n, cnf f m n ≤ n
  | 0 => Nat.le_refl _
  | n + 1 => by
    have := cnf_le (f := f) (m := m) n
    unfold cnf
    split <;> omega
theorem cnf_mono {f : Nat → Nat} {m m' : Nat} (h : m ≤ m') : ∀ n, cnf f m n ≤ cnf f m' n
  | 0 => Nat.le_refl _
  | n + 1 => by
    have := cnf_mono (f := f) h n
    unfold cnf
    split <;> split <;> omega
theorem cnf_lt {f : Nat → Nat} {m m' i : Nat} (h : m ≤ m') (h1 : m ≤ f i) (h2 : f i < m') : ∀ n, i < n → cnf f m n + 1 ≤ cnf f m' n
  | 0, hi => absurd hi (Nat.not_lt_zero i)
  | n + 1, hi => by
    unfold cnf
    by_cases e : i = n
    · subst e
      have := cnf_mono (f := f) h i
      rw [if_neg (by omega), if_pos h2]
      omega
    · have := cnf_lt (f := f) h h1 h2 n (by omega)
      split <;> split <;> omega
theorem hop {f : Nat → Nat} (hs : ∀ a, a < 8 → f a < 100000 → f a ≠ 0 → ∃ c, c < 8 ∧ f c < f a ∧ f a ≤ 30 + f c) : ∀ v a, f a = v → a < 8 → f a < 100000 → f a ≤ 30 * cnf f (f a) 8 := by
  intro v
  induction v using Nat.strongRecOn with
  | _ v ih =>
    intro a ha h8 hl
    by_cases h0 : f a = 0
    · omega
    · obtain ⟨c, c1, c2, c3⟩ := hs a h8 hl h0
      have i1 := ih (f c) (by omega) c rfl c1 (by omega)
      have i2 := cnf_lt (f := f) (m := f c) (m' := f a) (i := c) (by omega) (by omega) c2 8 c1
      omega
/-- a way is short, or there is none -/
theorem fwN_s {D : Nat → Nat → Nat} (h : ∀ a, a < 8 → D a a = 0) (hr : ∀ a b, a < 8 → b < 8 → a ≠ b → D a b = 100000 ∨ (1 ≤ D a b ∧ D a b ≤ 30)) {a b : Nat} (ha : a < 8) (hb : b < 8) : fwN D 8 a b ≤ 240 ∨ fwN D 8 a b = 100000 := by
  have hle : ∀ a b, a < 8 → b < 8 → fwN D 8 a b ≤ 100000 := fun a b ha hb => by
    have l := fwN_le (D := D) (k := 0) (a := a) (b := b) 8
    have l' : fwN D 8 a b ≤ D a b := l
    by_cases e : a = b
    · subst e
      have := fwN_0 h 8 a ha
      omega
    · rcases hr a b ha hb e with q | q <;> omega
  by_cases c : fwN D 8 a b < 100000
  · left
    have hs : ∀ x, x < 8 → fwN D 8 x b < 100000 → fwN D 8 x b ≠ 0 → ∃ c, c < 8 ∧ fwN D 8 c b < fwN D 8 x b ∧ fwN D 8 x b ≤ 30 + fwN D 8 c b := fun x hx hl h0 => by
      have hne : x ≠ b := fun e => h0 (by rw [e]; exact fwN_0 h 8 b hb)
      obtain ⟨c, c1, c2, c3, c4⟩ := fwN_x h 8 (by omega) x b hx hb hne hl
      have hd := hr x c hx c1 c3
      have t := fwN_t h 8 (by omega) c x b c1
      have l := fwN_le (D := D) (k := 0) (a := x) (b := c) 8
      have l' : fwN D 8 x c ≤ D x c := l
      exact ⟨c, c1, by omega, by omega⟩
    have := hop (f := fun x => fwN D 8 x b) hs _ a rfl ha c
    have q := cnf_le (f := fun x => fwN D 8 x b) (m := fwN D 8 a b) 8
    have this' : fwN D 8 a b ≤ 30 * cnf (fun x => fwN D 8 x b) (fwN D 8 a b) 8 := this
    omega
  · right
    have := hle a b ha hb
    omega
/-- the same, with none cut at a thousand -/
def cap (D : Nat → Nat → Nat) : Nat → Nat → Nat := fun a b => if D a b < 1000 then D a b else 1000
theorem fwF_cap {o : Nat} {D : Nat → Nat → Nat} : fwF o (cap D) = cap (fwF o D) := by
  have key : ∀ x y z : Nat, (if (if x < 1000 then x else 1000) + (if y < 1000 then y else 1000) < (if z < 1000 then z else 1000) then (if x < 1000 then x else 1000) + (if y < 1000 then y else 1000) else (if z < 1000 then z else 1000)) = if (if x + y < z then x + y else z) < 1000 then (if x + y < z then x + y else z) else 1000 := by
    intro x y z
    repeat' split
    all_goals omega
  funext a b
  exact key (D a o) (D o b) (D a b)
theorem fwN_cap {D : Nat → Nat → Nat} : ∀ k, fwN (cap D) k = cap (fwN D k)
  | 0 => rfl
  | k + 1 => by
    show fwF k (fwN (cap D) k) = _
    rw [fwN_cap k, fwF_cap]
    rfl
/-- a round under way -/
def fwU (o : Nat) (D : Nat → Nat → Nat) (a b : Nat) : Nat → Nat → Nat := fun i j => if i < a ∨ (i = a ∧ j < b) then fwF o D i j else D i j
theorem fwU_o {o : Nat} {D : Nat → Nat → Nat} (h : D o o = 0) (a b i : Nat) : fwU o D a b i o = D i o ∧ fwU o D a b o i = D o i := by
  unfold fwU
  constructor
  · split
    · exact (fwF_r h i).1
    · rfl
  · split
    · exact (fwF_r h i).2
    · rfl
