/-! ===== the small machine's places in the great one ===== -/
theorem z1_inv {st : List Value} {f : Int32 → List Value → Option (List Prop × zRs)} {q : List Prop × zRs} (h : z1 st f = some q) : ∃ x r, st = .int x :: r ∧ f x r = some q := by
  unfold z1 at h
  split at h
  · exact ⟨_, _, rfl, h⟩
  · cases h
theorem z2_inv {st : List Value} {f : Int32 → Int32 → List Value → Option (List Prop × zRs)} {q : List Prop × zRs} (h : z2 st f = some q) : ∃ x y r, st = .int y :: .int x :: r ∧ f x y r = some q := by
  unfold z2 at h
  split at h
  · exact ⟨_, _, _, rfl, h⟩
  · cases h
theorem z1l_inv {st : List Value} {f : Int64 → List Value → Option (List Prop × zRs)} {q : List Prop × zRs} (h : z1l st f = some q) : ∃ x r, st = .long x :: r ∧ f x r = some q := by
  unfold z1l at h
  split at h
  · exact ⟨_, _, rfl, h⟩
  · cases h
theorem z2l_inv {st : List Value} {f : Int64 → Int64 → List Value → Option (List Prop × zRs)} {q : List Prop × zRs} (h : z2l st f = some q) : ∃ x y r, st = .long y :: .long x :: r ∧ f x y r = some q := by
  unfold z2l at h
  split at h
  · exact ⟨_, _, _, rfl, h⟩
  · cases h
theorem zldi_inv {ls : List Value} {k : Nat} {f : Int32 → Option (List Prop × zRs)} {q : List Prop × zRs} (h : zldi ls k f = some q) : ∃ x, zget ls k = .int x ∧ f x = some q := by
  unfold zldi at h
  split at h
  · exact ⟨_, ‹_›, h⟩
  · cases h
theorem zldl_inv {ls : List Value} {k : Nat} {f : Int64 → Option (List Prop × zRs)} {q : List Prop × zRs} (h : zldl ls k f = some q) : ∃ x, zget ls k = .long x ∧ f x = some q := by
  unfold zldl at h
  split at h
  · exact ⟨_, ‹_›, h⟩
  · cases h
theorem zlda_inv {ls : List Value} {k : Nat} {f : Value → Option (List Prop × zRs)} {q : List Prop × zRs} (h : zlda ls k f = some q) : ∃ v, zget ls k = v ∧ ((∃ a, v = .ref a) ∨ (∃ a, v = .retAddr a) ∨ v = .null) ∧ f v = some q := by
  unfold zlda at h
  split at h
  · exact ⟨_, ‹_›, Or.inl ⟨_, rfl⟩, h⟩
  · exact ⟨_, ‹_›, Or.inr (Or.inl ⟨_, rfl⟩), h⟩
  · exact ⟨_, ‹_›, Or.inr (Or.inr rfl), h⟩
  · cases h
theorem zsta_inv {st : List Value} {f : Value → List Value → Option (List Prop × zRs)} {q : List Prop × zRs} (h : zsta st f = some q) : ∃ v r, st = v :: r ∧ ((∃ a, v = .ref a) ∨ (∃ a, v = .retAddr a) ∨ v = .null) ∧ f v r = some q := by
  unfold zsta at h
  split at h
  · exact ⟨_, _, rfl, Or.inl ⟨_, rfl⟩, h⟩
  · exact ⟨_, _, rfl, Or.inr (Or.inl ⟨_, rfl⟩), h⟩
  · exact ⟨_, _, rfl, Or.inr (Or.inr rfl), h⟩
  · cases h
theorem zald_inv {st : List Value} {f g : Int32 → Nat → List Value → Option (List Prop × zRs)} {q : List Prop × zRs} (h : zald st f g = some q) : (∃ i a r, st = .int i :: .ref a :: r ∧ f i a r = some q) ∨ (∃ i a r, st = .int i :: .retAddr a :: r ∧ g i a r = some q) := by
  unfold zald at h
  split at h
  · exact Or.inl ⟨_, _, _, rfl, h⟩
  · exact Or.inr ⟨_, _, _, rfl, h⟩
  · cases h
theorem zast_inv {st : List Value} {f : Int32 → Int32 → Nat → List Value → Option (List Prop × zRs)} {q : List Prop × zRs} (h : zast st f = some q) : ∃ x i a r, st = .int x :: .int i :: .ref a :: r ∧ f x i a r = some q := by
  unfold zast at h
  split at h
  · exact ⟨_, _, _, _, rfl, h⟩
  · cases h
theorem zastl_inv {st : List Value} {f : Int64 → Int32 → Nat → List Value → Option (List Prop × zRs)} {q : List Prop × zRs} (h : zastl st f = some q) : ∃ x i a r, st = .long x :: .int i :: .ref a :: r ∧ f x i a r = some q := by
  unfold zastl at h
  split at h
  · exact ⟨_, _, _, _, rfl, h⟩
  · cases h
theorem zasta_inv {st : List Value} {f : Nat → Int32 → Nat → List Value → Option (List Prop × zRs)} {q : List Prop × zRs} (h : zasta st f = some q) : ∃ x i a r, st = .ref x :: .int i :: .ref a :: r ∧ f x i a r = some q := by
  unfold zasta at h
  split at h
  · exact ⟨_, _, _, _, rfl, h⟩
  · cases h
theorem zdup_inv {st : List Value} {f : Value → List Value → Option (List Prop × zRs)} {q : List Prop × zRs} (h : zdup st f = some q) : ∃ v r, st = v :: r ∧ zwide v = false ∧ f v r = some q := by
  unfold zdup at h
  split at h
  · split at h
    · cases h
    · exact ⟨_, _, rfl, ‹_›, h⟩
  · cases h
theorem zdup2_inv {st : List Value} {f : Value → Value → List Value → Option (List Prop × zRs)} {q : List Prop × zRs} (h : zdup2 st f = some q) : ∃ v w r, st = v :: w :: r ∧ zwide v = false ∧ zwide w = false ∧ f v w r = some q := by
  unfold zdup2 at h
  split at h
  · split at h
    · exact ⟨_, _, _, rfl, ‹_›, ‹_›, h⟩
    · cases h
  · cases h
theorem znull_inv {st : List Value} {f : Option Nat → List Value → Option (List Prop × zRs)} {q : List Prop × zRs} (h : znull st f = some q) : (∃ r, st = .null :: r ∧ f none r = some q) ∨ ∃ a r, st = .ref a :: r ∧ f (some a) r = some q := by
  unfold znull at h
  split at h
  · exact Or.inl ⟨_, rfl, h⟩
  · exact Or.inr ⟨_, _, rfl, h⟩
  · cases h
theorem zcpy_inv {st : List Value} {f : Nat → Int32 → Nat → Int32 → Int32 → List Value → Option (List Prop × zRs)} {q : List Prop × zRs} (h : zcpy st f = some q) : ∃ a sp b dp n r, st = .int n :: .int dp :: .ref b :: .int sp :: .ref a :: r ∧ f a sp b dp n r = some q := by
  unfold zcpy at h
  split at h
  · exact ⟨_, _, _, _, _, _, rfl, h⟩
  · cases h
theorem zsm_inv {r : List Value} {x : Option (List Prop × zRs)} {q : List Prop × zRs} (h : zsm r x = some q) : zcat r ≤ 8 ∧ x = some q := by
  unfold zsm at h
  split at h
  · exact ⟨Nat.le_of_ble_eq_true ‹_›, h⟩
  · cases h
theorem zpop_inv : ∀ {n : Nat} {st acc as r : List Value}, zpop n st acc = some (as, r) → ∃ l, st = l.reverse ++ r ∧ as = l ++ acc ∧ l.length = n
  | 0, st, acc, as, r, h => by
    simp only [zpop, Option.some.injEq, Prod.mk.injEq] at h
    obtain ⟨rfl, rfl⟩ := h
    exact ⟨[], rfl, rfl, rfl⟩
  | n + 1, [], acc, as, r, h => by simp [zpop] at h
  | n + 1, v :: st, acc, as, r, h => by
    rw [zpop] at h
    obtain ⟨l, h1, h2, h3⟩ := zpop_inv h
    refine ⟨l ++ [v], ?_, ?_, ?_⟩
    · rw [h1]; simp
    · rw [h2]; simp
    · simp [h3]
theorem zcal_inv {nt z : Nat} {st : List Value} {f : List Value → List Value → Option (List Prop × zRs)} {q : List Prop × zRs} (h : zcal nt z st f = some q) : ∃ as r, st = as.reverse ++ r ∧ as.length = nt ∧ (zcat r ≤ 8 ∧ (zargs as).length ≤ zml z) ∧ f as r = some q := by
  unfold zcal at h
  cases hp : zpop nt st [] with
  | none => rw [hp] at h; cases h
  | some p =>
    obtain ⟨as, r⟩ := p
    rw [hp] at h
    dsimp only at h
    obtain ⟨l, h1, h2, h3⟩ := zpop_inv hp
    rw [List.append_nil] at h2
    subst h2
    split at h
    · exact ⟨_, _, h1, h3, ⟨Nat.le_of_ble_eq_true ‹_›, Nat.le_of_ble_eq_true ‹_›⟩, h⟩
    · cases h
theorem zrcv_inv {as : List Value} {f : Option Nat → Nat → Option (List Prop × zRs)} {q : List Prop × zRs} (h : zrcv as f = some q) : (∃ a l, as = .ref a :: l ∧ f (some a) 0 = some q) ∨ ∃ j l, as = .retAddr j :: l ∧ f none j = some q := by
  unfold zrcv at h
  split at h
  · exact Or.inl ⟨_, _, rfl, h⟩
  · exact Or.inr ⟨_, _, rfl, h⟩
  · cases h
/-! values and locals -/
def ztr (base : Nat) (ad : Nat → Nat) (v : Value) : Value := match v with
  | .ref a => .ref (base + a)
  | .retAddr j => .ref (ad j)
  | .float b => if b = 1 then (if ad 71 = 0 then .null else .ref (ad 72)) else .float b
  | v => v
theorem ztr_cat {base : Nat} {ad : Nat → Nat} (v : Value) : (ztr base ad v).category = v.category := by
  cases v <;> try rfl
  rename_i b
  show (if b = 1 then (if ad 71 = 0 then Value.null else .ref (ad 72)) else .float b).category = 1
  split
  · split <;> rfl
  · rfl
theorem zwide_cat (v : Value) : v.category = if zwide v then 2 else 1 := by cases v <;> rfl
theorem zcat_sum {base : Nat} {ad : Nat → Nat} (l : List Value) : ((l.map (ztr base ad)).map fun v => v.category).sum = zcat l := by
  induction l with
  | nil => rfl
  | cons v l ih =>
    rw [List.map_cons, List.map_cons, List.sum_cons, ih, ztr_cat, zwide_cat, zcat]
    cases zwide v <;> rfl
theorem zget_nil (k : Nat) : zget [] k = zjk := by cases k <;> rfl
theorem zget_out : ∀ {l : List Value} {k : Nat}, l.length ≤ k → zget l k = zjk
  | [], k, _ => zget_nil k
  | _ :: _, 0, h => by simp at h
  | _ :: l, k + 1, h => by
    rw [zget]
    exact zget_out (by simpa using h)
theorem zset_len : ∀ (l : List Value) (k : Nat) (v : Value), (zset l k v).length = l.length
  | [], _, _ => rfl
  | _ :: _, 0, _ => rfl
  | _ :: l, k + 1, v => by rw [zset, List.length_cons, List.length_cons, zset_len l k v]
theorem zget_zset : ∀ (l : List Value) (k : Nat) (v : Value) (j : Nat), zget (zset l k v) j = if j = k ∧ k < l.length then v else zget l j
  | [], k, v, j => by rw [zset, if_neg (by simp)]
  | w :: l, 0, v, 0 => by rw [zset, zget, if_pos ⟨rfl, by simp⟩]
  | w :: l, 0, v, j + 1 => by rw [zset, zget, zget, if_neg (by simp)]
  | w :: l, k + 1, v, 0 => by rw [zset, zget, zget, if_neg (by simp)]
  | w :: l, k + 1, v, j + 1 => by
    rw [zset, zget, zget, zget_zset l k v j]
    simp only [Nat.add_right_cancel_iff, List.length_cons, Nat.add_lt_add_iff_right]
/-- the known locals -/
def zll (base : Nat) (ad : Nat → Nat) (ls : List Value) : List (Nat × Value) := (List.range ls.length).filterMap fun k => if zget ls k = zjk then none else some (k, ztr base ad (zget ls k))
theorem zll_mem {base : Nat} {ad : Nat → Nat} {ls : List Value} {q : Nat × Value} : q ∈ zll base ad ls ↔ ∃ k, zget ls k ≠ zjk ∧ q = (k, ztr base ad (zget ls k)) := by
  unfold zll
  rw [List.mem_filterMap]
  constructor
  · rintro ⟨k, -, h2⟩
    split at h2
    · cases h2
    · cases h2
      exact ⟨k, ‹_›, rfl⟩
  · rintro ⟨k, h1, rfl⟩
    refine ⟨k, List.mem_range.mpr ?_, if_neg h1⟩
    rcases Nat.lt_or_ge k ls.length with h | h
    · exact h
    · exact absurd (zget_out h) h1
abbrev zLv (base : Nat) (ad : Nat → Nat) (nL : Nat) (ls : List Value) (mls : Array Slot) : Prop := lv_has mls nL (zll base ad ls)
theorem zLv_at {base nL k : Nat} {ad : Nat → Nat} {ls : List Value} {mls : Array Slot} (h : zLv base ad nL ls mls) {v : Value} (hv : zget ls k = v) (hj : v ≠ zjk) : mls[k]? = some (.val (ztr base ad v)) := by
  subst hv
  exact h.2.2 (k, ztr base ad (zget ls k)) (zll_mem.mpr ⟨k, hj, rfl⟩)
theorem zkil_get (l : List Value) (k j : Nat) : zget (zkil l k) j = if j + 1 = k ∧ zwide (zget l j) = true then zjk else zget l j := by
  cases k with
  | zero => rw [zkil, if_neg (by simp)]
  | succ k =>
    rw [zkil]
    cases hw : zwide (zget l k) with
    | true =>
      dsimp only
      rw [zget_zset]
      by_cases e : j = k
      · subst e
        have hl : j < l.length := by
          rcases Nat.lt_or_ge j l.length with h | h
          · exact h
          · rw [zget_out h] at hw; cases hw
        rw [if_pos ⟨rfl, hl⟩, if_pos ⟨rfl, hw⟩]
      · rw [if_neg (fun h => e h.1), if_neg (fun h => e (Nat.add_right_cancel h.1))]
    | false =>
      dsimp only
      by_cases e : j = k
      · subst e
        rw [if_neg (fun h => by rw [hw] at h; cases h.2)]
      · rw [if_neg (fun h => e (Nat.add_right_cancel h.1))]
theorem zst1_sub {base nL k : Nat} {ad : Nat → Nat} {ls : List Value} {mls : Array Slot} {v : Value} (hv : zwide v = false) (h : lv_has mls nL ((k, ztr base ad v) :: (zll base ad ls).filter (fun q => !(q.1 == k) && !(q.1 + 1 == k && q.2.category == 2)))) : zLv base ad nL (zst1 ls k v) mls := by
  refine ⟨h.1, h.2.1, fun q hq => ?_⟩
  obtain ⟨j, hj, rfl⟩ := zll_mem.mp hq
  unfold zst1 at hj ⊢
  rw [zget_zset, zkil_get] at hj
  rw [zget_zset, zkil_get]
  by_cases h1 : j = k ∧ k < (zkil ls k).length
  · rw [if_pos h1]
    rw [h1.1]
    exact h.2.2 _ List.mem_cons_self
  · rw [if_neg h1] at hj ⊢
    by_cases h2 : j + 1 = k ∧ zwide (zget ls j) = true
    · rw [if_pos h2] at hj
      exact absurd rfl hj
    · rw [if_neg h2] at hj ⊢
      have hjk : j ≠ k := by
        intro e
        subst e
        refine h1 ⟨rfl, ?_⟩
        rcases Nat.lt_or_ge j ls.length with g | g
        · have : (zkil ls j).length = ls.length := by
            cases j with
            | zero => rfl
            | succ i =>
              rw [zkil]
              split
              · exact zset_len _ _ _
              · rfl
          omega
        · exact absurd (zget_out g) hj
      refine h.2.2 _ (List.mem_cons_of_mem _ (List.mem_filter.mpr ⟨zll_mem.mpr ⟨j, hj, rfl⟩, ?_⟩))
      simp only [Bool.and_eq_true, Bool.not_eq_true', beq_eq_false_iff_ne, ne_eq, Bool.and_eq_false_iff]
      refine ⟨hjk, ?_⟩
      rcases Nat.lt_or_ge 0 1 with _ | _
      · by_cases h3 : j + 1 = k
        · right
          rw [ztr_cat, zwide_cat]
          have : zwide (zget ls j) = false := by
            cases hw : zwide (zget ls j) with
            | true => exact absurd ⟨h3, hw⟩ h2
            | false => rfl
          rw [this]
          decide
        · left
          simpa using h3
      · omega
theorem zst2_sub {base nL k : Nat} {ad : Nat → Nat} {ls : List Value} {mls : Array Slot} {v : Value} (h : lv_has mls nL ((k, ztr base ad v) :: (zll base ad ls).filter (fun q => !(q.1 == k) && (!(q.1 == k + 1) && !(q.1 + 1 == k && q.2.category == 2))))) : zLv base ad nL (zst2 ls k v) mls := by
  refine ⟨h.1, h.2.1, fun q hq => ?_⟩
  obtain ⟨j, hj, rfl⟩ := zll_mem.mp hq
  unfold zst2 at hj ⊢
  have hlen : (zkil ls k).length = ls.length := by
    cases k with
    | zero => rfl
    | succ i =>
      rw [zkil]
      split
      · exact zset_len _ _ _
      · rfl
  rw [zget_zset, zget_zset, zkil_get, zset_len, hlen] at hj
  rw [zget_zset, zget_zset, zkil_get, zset_len, hlen]
  by_cases h0 : j = k + 1 ∧ k + 1 < ls.length
  · rw [if_pos h0] at hj
    exact absurd rfl hj
  · rw [if_neg h0] at hj ⊢
    by_cases h1 : j = k ∧ k < ls.length
    · rw [if_pos h1]
      rw [h1.1]
      exact h.2.2 _ List.mem_cons_self
    · rw [if_neg h1] at hj ⊢
      by_cases h2 : j + 1 = k ∧ zwide (zget ls j) = true
      · rw [if_pos h2] at hj
        exact absurd rfl hj
      · rw [if_neg h2] at hj ⊢
        have hl : j < ls.length := by
          rcases Nat.lt_or_ge j ls.length with g | g
          · exact g
          · exact absurd (zget_out g) hj
        have hjk : j ≠ k := fun e => h1 ⟨e, by omega⟩
        have hjk1 : j ≠ k + 1 := fun e => h0 ⟨e, by omega⟩
        refine h.2.2 _ (List.mem_cons_of_mem _ (List.mem_filter.mpr ⟨zll_mem.mpr ⟨j, hj, rfl⟩, ?_⟩))
        simp only [Bool.and_eq_true, Bool.not_eq_true', beq_eq_false_iff_ne, ne_eq, Bool.and_eq_false_iff]
        refine ⟨hjk, hjk1, ?_⟩
        by_cases h3 : j + 1 = k
        · right
          rw [ztr_cat, zwide_cat]
          have : zwide (zget ls j) = false := by
            cases hw : zwide (zget ls j) with
            | true => exact absurd ⟨h3, hw⟩ h2
            | false => rfl
          rw [this]
          decide
        · left
          simpa using h3
/-- a method's first locals -/
theorem zargs_sub {base : Nat} {ad : Nat → Nat} : ∀ (as : List Value) (n i j : Nat), zget (zargs as ++ zpad n) j ≠ zjk → (i + j, ztr base ad (zget (zargs as ++ zpad n) j)) ∈ lv_args i (as.map (ztr base ad))
  | [], n, i, j, h => by
    exfalso
    apply h
    show zget (zpad n) j = zjk
    clear h
    induction n generalizing j with
    | zero => exact zget_nil j
    | succ n ih => cases j with
      | zero => rfl
      | succ j => exact ih j
  | v :: as, n, i, j, h => by
    rw [zargs] at h ⊢
    rw [List.map_cons, lv_args, ztr_cat, zwide_cat]
    cases hw : zwide v with
    | true =>
      rw [hw] at h
      dsimp only [List.cons_append] at h ⊢
      match j, h with
      | 0, h => exact List.mem_cons_self
      | 1, h => exact absurd rfl h
      | j + 2, h =>
        have h3 := zargs_sub (base := base) (ad := ad) as n (i + 2) j h
        rw [show i + 2 + j = i + (j + 2) by omega] at h3
        exact List.mem_cons_of_mem _ h3
    | false =>
      rw [hw] at h
      dsimp only [List.cons_append] at h ⊢
      match j, h with
      | 0, h => exact List.mem_cons_self
      | j + 1, h =>
        have h3 := zargs_sub (base := base) (ad := ad) as n (i + 1) j h
        rw [show i + 1 + j = i + (j + 1) by omega] at h3
        exact List.mem_cons_of_mem _ h3
theorem zsl_len (base : Nat) (ad : Nat → Nat) (as : List Value) : (lg_sl (as.map (ztr base ad))).length = (zargs as).length := by
  induction as with
  | nil => rfl
  | cons v as ih =>
    unfold lg_sl at ih ⊢
    rw [List.map_cons, List.flatMap_cons, List.length_append, ih, ztr_cat, zwide_cat, zargs]
    cases zwide v with
    | true => simp; omega
    | false => simp; omega
