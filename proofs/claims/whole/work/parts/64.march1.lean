/-! ===== generals who march or wait: plainly ===== -/
/-- y is there before x -/
def lx (D : Nat → Int32) (y x : Nat) : Prop := D y < D x ∨ (D y = D x ∧ y < x)
theorem lx_asym {D : Nat → Int32} {y x : Nat} (h : lx D y x) (h2 : lx D x y) : False := by
  rcases h with h | h <;> rcases h2 with h2 | h2
  · exact Int32.lt_irrefl (Int32.lt_trans h h2)
  · rw [h2.1] at h; exact Int32.lt_irrefl h
  · rw [h.1] at h2; exact Int32.lt_irrefl h2
  · omega
def insR (D : Nat → Int32) (g : Nat) : List Nat → List Nat
  | [] => [g]
  | x :: r => if D x ≤ D g then g :: x :: r else x :: insR D g r
def pOr (D : Nat → Int32) (f : Nat → Bool) : Nat → List Nat
  | 0 => []
  | k + 1 => bif f k then insR D k (pOr D f k) else pOr D f k
theorem insR_m {D : Nat → Int32} {g y : Nat} : ∀ {r : List Nat}, y ∈ insR D g r ↔ y = g ∨ y ∈ r
  | [] => by rw [insR, List.mem_singleton]; exact ⟨Or.inl, fun h => h.resolve_right (fun h => by cases h)⟩
  | x :: r => by
    rw [insR]
    by_cases c : D x ≤ D g
    · rw [if_pos c, List.mem_cons]
    · rw [if_neg c, List.mem_cons, insR_m, List.mem_cons]
      exact ⟨fun h => by rcases h with h | h | h; exact Or.inr (Or.inl h); exact Or.inl h; exact Or.inr (Or.inr h), fun h => by rcases h with h | h | h; exact Or.inr (Or.inl h); exact Or.inl h; exact Or.inr (Or.inr h)⟩
theorem insR_l {D : Nat → Int32} {g : Nat} : ∀ {r : List Nat}, (insR D g r).length = r.length + 1
  | [] => rfl
  | x :: r => by
    rw [insR]
    by_cases c : D x ≤ D g
    · rw [if_pos c]; rfl
    · rw [if_neg c, List.length_cons, insR_l, List.length_cons]
theorem pOr_m {D : Nat → Int32} {f : Nat → Bool} {y : Nat} : ∀ k, y ∈ pOr D f k ↔ (y < k ∧ f y = true)
  | 0 => ⟨fun h => (List.not_mem_nil h).elim, fun h => absurd h.1 (Nat.not_lt_zero _)⟩
  | k + 1 => by
    rw [pOr]
    cases hf : f k
    · rw [cond_false, pOr_m k]
      exact ⟨fun h => ⟨by omega, h.2⟩, fun h => ⟨by
        have : y ≠ k := fun e => by rw [e, hf] at h; cases h.2
        omega, h.2⟩⟩
    · rw [cond_true, insR_m, pOr_m k]
      constructor
      · intro h
        rcases h with h | h
        · rw [h]; exact ⟨by omega, hf⟩
        · exact ⟨by omega, h.2⟩
      · intro h
        by_cases e : y = k
        · exact Or.inl e
        · exact Or.inr ⟨by omega, h.2⟩
theorem insR_p {D : Nat → Int32} {g : Nat} : ∀ {r : List Nat}, r.Pairwise (fun a b => lx D b a) → (∀ y, y ∈ r → y < g) → (insR D g r).Pairwise (fun a b => lx D b a)
  | [], _, _ => List.pairwise_singleton _ _
  | x :: r, h, hg => by
    rw [insR]
    obtain ⟨h1, h2⟩ := List.pairwise_cons.mp h
    by_cases c : D x ≤ D g
    · rw [if_pos c]
      refine List.pairwise_cons.mpr ⟨fun y hy => ?_, h⟩
      have hyg := hg y hy
      rcases List.mem_cons.mp hy with e | e
      · subst e
        by_cases c2 : D y = D g
        · exact Or.inr ⟨c2, hyg⟩
        · exact Or.inl (Int32.lt_of_le_of_ne c c2)
      · have h3 : D y ≤ D x := by
          rcases h1 y e with h4 | h4
          · exact Int32.le_of_lt h4
          · rw [h4.1]; exact Int32.le_refl _
        have h5 := Int32.le_trans h3 c
        by_cases c2 : D y = D g
        · exact Or.inr ⟨c2, hyg⟩
        · exact Or.inl (Int32.lt_of_le_of_ne h5 c2)
    · rw [if_neg c]
      refine List.pairwise_cons.mpr ⟨fun y hy => ?_, insR_p h2 (fun y hy => hg y (List.mem_cons_of_mem _ hy))⟩
      rcases insR_m.mp hy with e | e
      · rw [e]; exact Or.inl (Int32.not_le.mp c)
      · exact h1 y e
theorem pOr_p {D : Nat → Int32} {f : Nat → Bool} : ∀ k, (pOr D f k).Pairwise (fun a b => lx D b a)
  | 0 => List.Pairwise.nil
  | k + 1 => by
    rw [pOr]
    cases f k
    · exact pOr_p k
    · exact insR_p (pOr_p k) (fun y hy => ((pOr_m k).mp hy).1)
theorem pOr_l {D : Nat → Int32} {f : Nat → Bool} : ∀ k, (pOr D f k).length ≤ k
  | 0 => Nat.le_refl _
  | k + 1 => by
    rw [pOr]
    have := pOr_l (D := D) (f := f) k
    cases f k
    · rw [cond_false]; omega
    · rw [cond_true, insR_l]; omega
/-- the order, last one first, as it stands in a row -/
def ord (f : Nat → Int32) : List Nat → Prop
  | [] => True
  | x :: r => f r.length = Int32.ofNat x ∧ ord f r
def ordF (f : Nat → Int32) : Nat → List Nat → Prop
  | _, [] => True
  | i, x :: r => f i = Int32.ofNat x ∧ ordF f (i + 1) r
theorem ord_up {f g : Nat → Int32} : ∀ {r : List Nat}, (∀ k, k < r.length → g k = f k) → ord f r → ord g r
  | [], _, _ => True.intro
  | x :: r, h, h1 => ⟨(h r.length (Nat.lt_succ_self _)).trans h1.1, ord_up (fun k hk => h k (Nat.lt_succ_of_lt hk)) h1.2⟩
theorem ordF_app {f : Nat → Int32} {x : Nat} : ∀ {l : List Nat} {i : Nat}, ordF f i l → f (i + l.length) = Int32.ofNat x → ordF f i (l ++ [x])
  | [], i, _, h => ⟨h, True.intro⟩
  | y :: l, i, h, h2 => ⟨h.1, ordF_app h.2 (by rw [List.length_cons] at h2; rw [show i + 1 + l.length = i + (l.length + 1) by omega]; exact h2)⟩
theorem ord_F {f : Nat → Int32} : ∀ {r : List Nat}, ord f r → ordF f 0 r.reverse
  | [], _ => True.intro
  | x :: r, h => by
    rw [List.reverse_cons]
    refine ordF_app (ord_F h.2) ?_
    rw [List.length_reverse, Nat.zero_add]
    exact h.1
def pLH (a : Nat → Int32) (s : Int32) : List Nat → Int32 → Int32 → Int32
  | [], _, h => h
  | g :: F, th, h => bif pb s g then (if a g ≤ th then pLH a s F (th - a g) h else pLH a s F (a g - th) (Int32.ofNat g)) else pLH a s F th h
theorem pLH_m {a : Nat → Int32} {s : Int32} : ∀ {F : List Nat} {th h : Int32}, pLH a s F th h = h ∨ ∃ g, g ∈ F ∧ pb s g = true ∧ pLH a s F th h = Int32.ofNat g
  | [], _, _ => Or.inl rfl
  | g :: F, th, h => by
    rw [pLH]
    cases hb : pb s g
    · rw [cond_false]
      rcases pLH_m (a := a) (s := s) (F := F) (th := th) (h := h) with e | ⟨g', m, b, e⟩
      · exact Or.inl e
      · exact Or.inr ⟨g', List.mem_cons_of_mem _ m, b, e⟩
    · rw [cond_true]
      by_cases c : a g ≤ th
      · rw [if_pos c]
        rcases pLH_m (a := a) (s := s) (F := F) (th := th - a g) (h := h) with e | ⟨g', m, b, e⟩
        · exact Or.inl e
        · exact Or.inr ⟨g', List.mem_cons_of_mem _ m, b, e⟩
      · rw [if_neg c]
        rcases pLH_m (a := a) (s := s) (F := F) (th := a g - th) (h := Int32.ofNat g) with e | ⟨g', m, b, e⟩
        · exact Or.inr ⟨g, List.mem_cons_self .., hb, e⟩
        · exact Or.inr ⟨g', List.mem_cons_of_mem _ m, b, e⟩
def pGain (a : Nat → Int32) (F : List Nat) (th s : Int32) (g : Nat) : Int32 := bif pb s g then (if pLH a s F th (-1) = Int32.ofNat g then 2 else 0) else 1
def pRest (a : Nat → Int32) (F : List Nat) (th s : Int32) : Bool := F.all (fun g => decide (pGain a F th (s ^^^ (1 <<< (Int32.ofNat g &&& 31))) g ≤ pGain a F th s g))
/-- rests of the sets below c -/
def pRt (a : Nat → Int32) (F : List Nat) (th able : Int32) : Nat → Int32 × Int32
  | 0 => (0, -2)
  | c + 1 => if Int32.ofNat c &&& (able ^^^ -1) = 0 ∧ pRest a F th (Int32.ofNat c) = true then ((pRt a F th able c).1 + 1, if (pRt a F th able c).1 = 0 then Int32.ofNat c else (pRt a F th able c).2) else pRt a F th able c
def pAb (E : zE) (A : zA) (g : Nat) : Bool := pFree A g && ! decide (pMarch E g = -1)
def pOrd (E : zE) (A : zA) : List Nat := pOr (pMarch E) (pAb E A) (nN E)
theorem pb_ext {x y : Int32} (h : ∀ k, k < 32 → pb x k = pb y k) : x = y := by
  rw [← Int32.toBitVec_inj]
  refine BitVec.eq_of_getLsbD_eq (fun k hk => ?_)
  rw [← pb_bv hk, ← pb_bv hk]
  exact h k hk
theorem pb_one : ∀ b, b < 8 → ∀ k, k < 32 → pb (1 <<< (Int32.ofNat b &&& 31)) k = decide (k = b) := by decide +kernel
theorem pCn_bit {f : Nat → Bool} {k : Nat} (hk : k < 32) : ∀ n, n ≤ 8 → pb (pCn f n) k = (Nat.blt k n && f k)
  | 0, _ => by
    rw [pCn, pb_bv hk]
    show (0#32).getLsbD k = _
    rw [BitVec.getLsbD_zero]
    rfl
  | n + 1, hn => by
    rw [pCn]
    have ih := pCn_bit (f := f) hk n (by omega)
    cases hf : f n
    · rw [cond_false, ih]
      by_cases e : k = n
      · rw [e, hf, Bool.and_false, Bool.and_false]
      · congr 1
        exact Bool.eq_iff_iff.mpr (by rw [Nat.blt_eq, Nat.blt_eq]; omega)
    · rw [cond_true, pb_or, ih, pb_one n (by omega) k hk]
      by_cases e : k = n
      · rw [e, hf, decide_eq_true rfl, Bool.or_true, Bool.and_true]
        exact (Nat.blt_eq.mpr (by omega)).symm
      · rw [decide_eq_false e, Bool.or_false]
        congr 1
        exact Bool.eq_iff_iff.mpr (by rw [Nat.blt_eq, Nat.blt_eq]; omega)
theorem pb_xor {x y : Int32} {k : Nat} (hk : k < 32) : pb (x ^^^ y) k = (pb x k ^^ pb y k) := by
  rw [pb_bv hk, pb_bv hk, pb_bv hk, Int32.toBitVec_xor, BitVec.getLsbD_xor]
def pRests (E : zE) (A : zA) (x : Int32) : Int32 := if E 0 0 = 0 then -1 else if x < 0 ∨ 1 < x then -1 else if x = 0 then (pRt (E 8) (pOrd E A).reverse (pMen E A) (pCn (pAb E A) (nN E)) ((pCn (pAb E A) (nN E)).toNatClampNeg + 1)).1 else (pRt (E 8) (pOrd E A).reverse (pMen E A) (pCn (pAb E A) (nN E)) ((pCn (pAb E A) (nN E)).toNatClampNeg + 1)).2
def pFirst (E : zE) (A : zA) (x : Int32) : Int32 := if E 0 0 = 0 then -3 else if x < 0 ∨ 1 < x then -3 else match (pOrd E A).reverse with
  | [] => -2
  | g :: _ => if x = 0 then Int32.ofNat g else pMarch E g
