/-! ===== rules, plainly: a clause is a sum and a test (none: empty), both as postfix lists of (kind, value) ===== -/
abbrev zOp : Type := Nat × Nat
abbrev zCl : Type := List zOp × List zOp
def pBoth (k : Nat) (a b : Int64) : Int64 :=
  if k = 2 then a + b else if k = 3 then a - b else if k = 13 then a * b else if k = 14 then (if ¬ b = 0 then a / b else 0) else if k = 15 then (if ¬ b = 0 then a - a / b * b else 0) else if k = 4 then (if a < b then 1 else 0) else if k = 5 then (if b < a then 0 else 1) else if k = 6 then (if a = b then 1 else 0) else if k = 7 then (if a < b then 0 else 1) else if k = 8 then (if b < a then 1 else 0) else if k = 10 then a &&& b else a ||| b
def pstB (k : Nat) : List Int64 → List Int64
  | y :: x :: r => pBoth k x y :: r
  | _ => []
def pstN : List Int64 → List Int64
  | x :: r => (1 - x) :: r
  | _ => []
def pst (W : Nat → Int64) (p : zOp) (st : List Int64) : List Int64 :=
  if p.1 = 0 then (Int32.ofNat p.2).toInt64 :: st else if p.1 = 1 then W p.2 :: st else if p.1 = 9 then pstN st else pstB p.1 st
def pv (W : Nat → Int64) : List zOp → List Int64 → List Int64
  | [], st => st
  | p :: l, st => pv W l (pst W p st)
def ptN : List Bool → Option (List Bool)
  | true :: r => some (true :: r)
  | _ => none
def ptB (i o : Bool) : List Bool → Option (List Bool)
  | x :: y :: r => if x = i ∧ y = i then some (o :: r) else none
  | _ => none
def pt1 (p : zOp) (st : List Bool) : Option (List Bool) :=
  if p.1 = 0 then (if p.2 ≤ 99999 then some (false :: st) else none) else if p.1 = 1 then (if p.2 < 11 then some (false :: st) else none) else if p.1 = 9 then ptN st
  else if p.1 = 2 ∨ p.1 = 3 ∨ p.1 = 13 ∨ p.1 = 14 ∨ p.1 = 15 then ptB false false st else if p.1 = 4 ∨ p.1 = 5 ∨ p.1 = 6 ∨ p.1 = 7 ∨ p.1 = 8 then ptB false true st else if p.1 = 10 ∨ p.1 = 11 then ptB true true st else none
def pty : List zOp → List Bool → Option (List Bool)
  | [], st => some st
  | p :: l, st => (pt1 p st).bind (pty l)
def pcn : List zOp → Nat
  | [] => 0
  | p :: l => (if p.1 ≤ 1 then 1 else 0) + pcn l
def pok : List Bool → List Int64 → Prop
  | [], [] => True
  | b :: r, x :: s => (b = true → x = 0 ∨ x = 1) ∧ pok r s
  | _, _ => False
def pvl (W : Nat → Int64) (l : List zOp) : Int64 := (pv W l []).headD 0
def pTold (W : Nat → Int64) : List zCl → Int64
  | [] => 0
  | c :: r => if c.2 = [] ∨ pvl W c.2 = 1 then pvl W c.1 else pTold W r
def okC (c : zCl) : Prop := pty c.1 [] = some [false] ∧ (c.2 = [] ∨ pty c.2 [] = some [true]) ∧ pcn c.1 + pcn c.2 ≤ 60
theorem pok_len : ∀ {ts : List Bool} {st : List Int64}, pok ts st → ts.length = st.length
  | [], [], _ => rfl
  | _ :: r, _ :: s, h => by rw [List.length_cons, List.length_cons, pok_len h.2]
  | [], _ :: _, h => h.elim
  | _ :: _, [], h => h.elim
theorem i01 : ∀ (p : Prop) [Decidable p], (if p then (1 : Int64) else 0) = 0 ∨ (if p then (1 : Int64) else 0) = 1 := by
  intro p _
  by_cases h : p
  · rw [if_pos h]; exact Or.inr rfl
  · rw [if_neg h]; exact Or.inl rfl
theorem i10 : ∀ (p : Prop) [Decidable p], (if p then (0 : Int64) else 1) = 0 ∨ (if p then (0 : Int64) else 1) = 1 := by
  intro p _
  by_cases h : p
  · rw [if_pos h]; exact Or.inl rfl
  · rw [if_neg h]; exact Or.inr rfl
/-- what a sign needs and gives -/
theorem ptB_of {i o : Bool} {ts ts' : List Bool} (h : ptB i o ts = some ts') : ∃ r, ts = i :: i :: r ∧ ts' = o :: r := by
  match ts, h with
  | x :: y :: r, h =>
    have h : (if x = i ∧ y = i then some (o :: r) else none) = some ts' := h
    by_cases c : x = i ∧ y = i
    · rw [if_pos c] at h
      exact ⟨r, by rw [c.1, c.2], (Option.some.inj h).symm⟩
    · rw [if_neg c] at h
      cases h
theorem ptN_of {ts ts' : List Bool} (h : ptN ts = some ts') : ∃ r, ts = true :: r ∧ ts' = true :: r := by
  match ts, h with
  | true :: r, h => exact ⟨r, rfl, (Option.some.inj h).symm⟩
theorem pok_2 {a b : Bool} {r : List Bool} {st : List Int64} (h : pok (a :: b :: r) st) : ∃ y x s, st = y :: x :: s ∧ (a = true → y = 0 ∨ y = 1) ∧ (b = true → x = 0 ∨ x = 1) ∧ pok r s := by
  match st, h with
  | y :: x :: s, h => exact ⟨y, x, s, rfl, h.1, h.2.1, h.2.2⟩
theorem pok_1 {a : Bool} {r : List Bool} {st : List Int64} (h : pok (a :: r) st) : ∃ y s, st = y :: s ∧ (a = true → y = 0 ∨ y = 1) ∧ pok r s := by
  match st, h with
  | y :: s, h => exact ⟨y, s, rfl, h.1, h.2⟩
theorem pBoth_c {k : Nat} {a b : Int64} (h : k = 4 ∨ k = 5 ∨ k = 6 ∨ k = 7 ∨ k = 8) : pBoth k a b = 0 ∨ pBoth k a b = 1 := by
  rcases h with rfl | rfl | rfl | rfl | rfl
  · exact i01 (a < b)
  · exact i10 (b < a)
  · exact i01 (a = b)
  · exact i10 (a < b)
  · exact i01 (b < a)
theorem pBoth_b {k : Nat} {a b : Int64} (h : k = 10 ∨ k = 11) (ha : a = 0 ∨ a = 1) (hb : b = 0 ∨ b = 1) : pBoth k a b = 0 ∨ pBoth k a b = 1 := by
  rcases h with rfl | rfl <;> rcases ha with rfl | rfl <;> rcases hb with rfl | rfl <;> decide
/-- which kinds there are -/
theorem pt1_k {p : zOp} {ts ts' : List Bool} (h : pt1 p ts = some ts') : (p.1 = 0 ∧ p.2 ≤ 99999 ∧ ts' = false :: ts) ∨ (p.1 = 1 ∧ p.2 < 11 ∧ ts' = false :: ts) ∨ (p.1 = 9 ∧ ptN ts = some ts') ∨ ((p.1 = 2 ∨ p.1 = 3 ∨ p.1 = 13 ∨ p.1 = 14 ∨ p.1 = 15) ∧ ptB false false ts = some ts') ∨ ((p.1 = 4 ∨ p.1 = 5 ∨ p.1 = 6 ∨ p.1 = 7 ∨ p.1 = 8) ∧ ptB false true ts = some ts') ∨ ((p.1 = 10 ∨ p.1 = 11) ∧ ptB true true ts = some ts') := by
  unfold pt1 at h
  by_cases c0 : p.1 = 0
  · rw [if_pos c0] at h
    by_cases c : p.2 ≤ 99999
    · rw [if_pos c] at h
      exact Or.inl ⟨c0, c, (Option.some.inj h).symm⟩
    · rw [if_neg c] at h; cases h
  · rw [if_neg c0] at h
    refine Or.inr ?_
    by_cases c1 : p.1 = 1
    · rw [if_pos c1] at h
      by_cases c : p.2 < 11
      · rw [if_pos c] at h
        exact Or.inl ⟨c1, c, (Option.some.inj h).symm⟩
      · rw [if_neg c] at h; cases h
    · rw [if_neg c1] at h
      refine Or.inr ?_
      by_cases c2 : p.1 = 9
      · rw [if_pos c2] at h
        exact Or.inl ⟨c2, h⟩
      · rw [if_neg c2] at h
        refine Or.inr ?_
        by_cases c3 : p.1 = 2 ∨ p.1 = 3 ∨ p.1 = 13 ∨ p.1 = 14 ∨ p.1 = 15
        · rw [if_pos c3] at h
          exact Or.inl ⟨c3, h⟩
        · rw [if_neg c3] at h
          refine Or.inr ?_
          by_cases c4 : p.1 = 4 ∨ p.1 = 5 ∨ p.1 = 6 ∨ p.1 = 7 ∨ p.1 = 8
          · rw [if_pos c4] at h
            exact Or.inl ⟨c4, h⟩
          · rw [if_neg c4] at h
            refine Or.inr ?_
            by_cases c5 : p.1 = 10 ∨ p.1 = 11
            · rw [if_pos c5] at h
              exact ⟨c5, h⟩
            · rw [if_neg c5] at h; cases h
theorem pst_ok {W : Nat → Int64} {p : zOp} {ts ts' : List Bool} {st : List Int64} (h : pt1 p ts = some ts') (hp : pok ts st) : pok ts' (pst W p st) ∧ ∀ base, pst W p (st ++ base) = pst W p st ++ base := by
  unfold pst
  rcases pt1_k h with ⟨c, c2, rfl⟩ | ⟨c, c2, rfl⟩ | ⟨c, h2⟩ | ⟨c, h2⟩ | ⟨c, h2⟩ | ⟨c, h2⟩
  · rw [if_pos c]
    exact ⟨⟨fun e => (Bool.false_ne_true e).elim, hp⟩, fun base => by rw [if_pos c]; rfl⟩
  · rw [if_neg (by omega), if_pos c]
    exact ⟨⟨fun e => (Bool.false_ne_true e).elim, hp⟩, fun base => by rw [if_neg (by omega), if_pos c]; rfl⟩
  · obtain ⟨r, rfl, rfl⟩ := ptN_of h2
    obtain ⟨y, s, rfl, e1, e2⟩ := pok_1 hp
    rw [if_neg (by omega), if_neg (by omega), if_pos c]
    refine ⟨⟨fun _ => ?_, e2⟩, fun base => by rw [if_neg (by omega), if_neg (by omega), if_pos c]; rfl⟩
    rcases e1 rfl with rfl | rfl <;> decide
  · obtain ⟨r, rfl, rfl⟩ := ptB_of h2
    obtain ⟨y, x, s, rfl, e1, e2, e3⟩ := pok_2 hp
    rw [if_neg (by omega), if_neg (by omega), if_neg (by omega)]
    exact ⟨⟨fun e => (Bool.false_ne_true e).elim, e3⟩, fun base => by rw [if_neg (by omega), if_neg (by omega), if_neg (by omega)]; rfl⟩
  · obtain ⟨r, rfl, rfl⟩ := ptB_of h2
    obtain ⟨y, x, s, rfl, e1, e2, e3⟩ := pok_2 hp
    rw [if_neg (by omega), if_neg (by omega), if_neg (by omega)]
    exact ⟨⟨fun e => pBoth_c c, e3⟩, fun base => by rw [if_neg (by omega), if_neg (by omega), if_neg (by omega)]; rfl⟩
  · obtain ⟨r, rfl, rfl⟩ := ptB_of h2
    obtain ⟨y, x, s, rfl, e1, e2, e3⟩ := pok_2 hp
    rw [if_neg (by omega), if_neg (by omega), if_neg (by omega)]
    exact ⟨⟨fun e => pBoth_b c (e2 rfl) (e1 rfl), e3⟩, fun base => by rw [if_neg (by omega), if_neg (by omega), if_neg (by omega)]; rfl⟩
theorem pv_ok {W : Nat → Int64} : ∀ {l : List zOp} {ts ts' : List Bool} {st : List Int64}, pty l ts = some ts' → pok ts st → pok ts' (pv W l st) ∧ ∀ base, pv W l (st ++ base) = pv W l st ++ base
  | [], ts, ts', st, h, hp => by
    cases Option.some.inj h
    exact ⟨hp, fun _ => rfl⟩
  | p :: l, ts, ts', st, h, hp => by
    rw [pty] at h
    cases h1 : pt1 p ts with
    | none => rw [h1] at h; cases h
    | some t1 =>
      rw [h1, Option.bind_some] at h
      have h2 := pst_ok (W := W) h1 hp
      have h3 := pv_ok (W := W) h h2.1
      exact ⟨h3.1, fun base => by rw [pv, pv, h2.2, h3.2]⟩
/-- what stands in the cells of a stack -/
def stk (f : Nat → Int64) : List Int64 → Prop
  | [] => True
  | x :: r => f r.length = x ∧ stk f r
theorem stk_up {f g : Nat → Int64} : ∀ {st : List Int64}, (∀ k, k < st.length → g k = f k) → stk f st → stk g st
  | [], _, _ => True.intro
  | x :: r, h, h1 => ⟨(h r.length (Nat.lt_succ_self _)).trans h1.1, stk_up (fun k hk => h k (Nat.lt_succ_of_lt hk)) h1.2⟩
/-- the entries from o on -/
def zsg (c : Nat → Int32) (w : Nat → Nat → Int32) (S N : Nat → Int32) : Nat → List zOp → Prop
  | _, [] => True
  | o, p :: l => S o = c p.1 ∧ N o = w p.1 p.2 ∧ zsg c w S N (o + 1) l
theorem zsg_app {c : Nat → Int32} {w : Nat → Nat → Int32} {S N : Nat → Int32} : ∀ {l1 l2 : List zOp} {o : Nat}, zsg c w S N o (l1 ++ l2) ↔ (zsg c w S N o l1 ∧ zsg c w S N (o + l1.length) l2)
  | [], l2, o => ⟨fun h => ⟨True.intro, h⟩, fun h => h.2⟩
  | p :: l1, l2, o => by
    have ih := zsg_app (c := c) (w := w) (S := S) (N := N) (l1 := l1) (l2 := l2) (o := o + 1)
    rw [show o + 1 + l1.length = o + (p :: l1).length by rw [List.length_cons]; omega] at ih
    exact ⟨fun h => ⟨⟨h.1, h.2.1, (ih.mp h.2.2).1⟩, (ih.mp h.2.2).2⟩, fun h => ⟨h.1.1, h.1.2.1, ih.mpr ⟨h.1.2.2, h.2⟩⟩⟩
theorem lgc_eq {x y : Int64} : (lg_cmp x y = 0) = (x = y) := by
  unfold lg_cmp
  by_cases h1 : y < x
  · rw [if_pos h1]
    exact propext ⟨fun h => absurd h (by decide), fun h => by rw [h] at h1; exact (Int64.lt_irrefl h1).elim⟩
  · rw [if_neg h1]
    by_cases h2 : x = y
    · rw [if_pos h2]
      exact propext ⟨fun _ => h2, fun _ => rfl⟩
    · rw [if_neg h2]
      exact propext ⟨fun h => absurd h (by decide), fun h => absurd h h2⟩
theorem lgc_ge {x y : Int64} : (0 ≤ lg_cmp x y) = ¬ (x < y) := by
  rw [← lgc_lt, Int32.not_lt]
theorem lgc_le {x y : Int64} : (lg_cmp x y ≤ 0) = ¬ (y < x) := by
  rw [← lgc_gt, Int32.not_lt]
def okK (k : Nat) : Prop := k = 2 ∨ k = 3 ∨ k = 4 ∨ k = 5 ∨ k = 6 ∨ k = 7 ∨ k = 8 ∨ k = 10 ∨ k = 11 ∨ k = 13 ∨ k = 14 ∨ k = 15
theorem r178a {X : (Nat → Int32) × Nat} {d : Nat} {M : zM} (hG : zGE M) : zC X d 178 [.int 0] M = some (some (.long 0), M) := by
  show zR X d 178 (0, [.int 0], [], M) = _
  rw [t178_0 _ _ hG, if_pos rfl]
theorem r178b {X : (Nat → Int32) × Nat} {d : Nat} {M : zM} (hG : zGE M) : zC X d 178 [.int 1] M = some (some (.long 1), M) := by
  show zR X d 178 (0, [.int 1], [], M) = _
  rw [t178_0 _ _ hG, if_neg (by decide)]
theorem r179 {X : (Nat → Int32) × Nat} {d k : Nat} {a b : Int64} {M : zM} (hG : zGE M) (hk : okK k) : zC X (d + 1) 179 [.int (Int32.ofNat k), .long a, .long b] M = some (some (.long (pBoth k a b)), M) := by
  show zR X (d + 1) 179 (0, [.int (Int32.ofNat k), .long a, zjk, .long b, zjk], [], M) = _
  rw [t179_0 _ _ _ _ hG]
  unfold pBoth
  rcases hk with rfl | rfl | rfl | rfl | rfl | rfl | rfl | rfl | rfl | rfl | rfl | rfl
  · rw [show zsw 1 190 2 15 #[71, 75, 111, 126, 141, 156, 171, 190, 186, 190, 190, 79, 83, 97] (Int32.ofNat 2) = 72 from rfl, t179_72 _ _ _ _ hG]
    rfl
  · rw [show zsw 1 190 2 15 #[71, 75, 111, 126, 141, 156, 171, 190, 186, 190, 190, 79, 83, 97] (Int32.ofNat 3) = 76 from rfl, t179_76 _ _ _ _ hG]
    rfl
  · rw [show zsw 1 190 2 15 #[71, 75, 111, 126, 141, 156, 171, 190, 186, 190, 190, 79, 83, 97] (Int32.ofNat 4) = 112 from rfl, t179_112 _ _ _ _ hG, r178a hG, r178b hG, Option.bind_some, Option.bind_some]
    dsimp only [zps]
    rw [t179_126 _ _ _ _ _ hG, t179_126 _ _ _ _ _ hG]
    simp only [lgc_ge, Nat.reduceEqDiff, reduceIte]
    by_cases c : a < b
    · rw [if_neg (not_not_intro c), if_pos c]
    · rw [if_pos c, if_neg c]
  · rw [show zsw 1 190 2 15 #[71, 75, 111, 126, 141, 156, 171, 190, 186, 190, 190, 79, 83, 97] (Int32.ofNat 5) = 127 from rfl, t179_127 _ _ _ _ hG, r178a hG, r178b hG, Option.bind_some, Option.bind_some]
    dsimp only [zps]
    rw [t179_141 _ _ _ _ _ hG, t179_141 _ _ _ _ _ hG]
    simp only [lgc_gt, Nat.reduceEqDiff, reduceIte]
    by_cases c : b < a
    · rw [if_pos c, if_pos c]
    · rw [if_neg c, if_neg c]
  · rw [show zsw 1 190 2 15 #[71, 75, 111, 126, 141, 156, 171, 190, 186, 190, 190, 79, 83, 97] (Int32.ofNat 6) = 142 from rfl, t179_142 _ _ _ _ hG, r178a hG, r178b hG, Option.bind_some, Option.bind_some]
    dsimp only [zps]
    rw [t179_156 _ _ _ _ _ hG, t179_156 _ _ _ _ _ hG]
    simp only [lgc_eq, Nat.reduceEqDiff, reduceIte]
    by_cases c : a = b
    · rw [if_neg (not_not_intro c), if_pos c]
    · rw [if_pos c, if_neg c]
  · rw [show zsw 1 190 2 15 #[71, 75, 111, 126, 141, 156, 171, 190, 186, 190, 190, 79, 83, 97] (Int32.ofNat 7) = 157 from rfl, t179_157 _ _ _ _ hG, r178a hG, r178b hG, Option.bind_some, Option.bind_some]
    dsimp only [zps]
    rw [t179_171 _ _ _ _ _ hG, t179_171 _ _ _ _ _ hG]
    simp only [lgc_lt, Nat.reduceEqDiff, reduceIte]
    by_cases c : a < b
    · rw [if_pos c, if_pos c]
    · rw [if_neg c, if_neg c]
  · rw [show zsw 1 190 2 15 #[71, 75, 111, 126, 141, 156, 171, 190, 186, 190, 190, 79, 83, 97] (Int32.ofNat 8) = 172 from rfl, t179_172 _ _ _ _ hG, r178a hG, r178b hG, Option.bind_some, Option.bind_some]
    dsimp only [zps]
    rw [t179_186 _ _ _ _ _ hG, t179_186 _ _ _ _ _ hG]
    simp only [lgc_le, Nat.reduceEqDiff, reduceIte]
    by_cases c : b < a
    · rw [if_neg (not_not_intro c), if_pos c]
    · rw [if_pos c, if_neg c]
  · rw [show zsw 1 190 2 15 #[71, 75, 111, 126, 141, 156, 171, 190, 186, 190, 190, 79, 83, 97] (Int32.ofNat 10) = 187 from rfl, t179_187 _ _ _ _ hG]
    rfl
  · rw [show zsw 1 190 2 15 #[71, 75, 111, 126, 141, 156, 171, 190, 186, 190, 190, 79, 83, 97] (Int32.ofNat 11) = 191 from rfl, t179_191 _ _ _ _ hG]
    rfl
  · rw [show zsw 1 190 2 15 #[71, 75, 111, 126, 141, 156, 171, 190, 186, 190, 190, 79, 83, 97] (Int32.ofNat 13) = 80 from rfl, t179_80 _ _ _ _ hG]
    rfl
  · rw [show zsw 1 190 2 15 #[71, 75, 111, 126, 141, 156, 171, 190, 186, 190, 190, 79, 83, 97] (Int32.ofNat 14) = 84 from rfl, t179_84 _ _ _ _ hG (fun h => by rw [lgc_eq] at h; exact h)]
    simp only [lgc_eq, Nat.reduceEqDiff, reduceIte]
    split <;> rfl
  · rw [show zsw 1 190 2 15 #[71, 75, 111, 126, 141, 156, 171, 190, 186, 190, 190, 79, 83, 97] (Int32.ofNat 15) = 98 from rfl, t179_98 _ _ _ _ hG (fun h => by rw [lgc_eq] at h; exact h)]
    simp only [lgc_eq, Nat.reduceEqDiff, reduceIte]
    split <;> rfl
