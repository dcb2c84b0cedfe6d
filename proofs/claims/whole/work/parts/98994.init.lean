/-! ===== the constructors, by evaluation ===== -/
abbrev zD : Type := List (Nat × Nat × Int32) × List (Nat × Nat × Nat) × Nat
abbrev zDc : Type := Nat × List Value × List Value × zD
def lkI : List (Nat × Nat × Int32) → Nat → Nat → Int32
  | [], _, _ => 0
  | q :: l, a, k => bif Nat.beq a q.1 && Nat.beq k q.2.1 then q.2.2 else lkI l a k
def lkR : List (Nat × Nat × Nat) → Nat → Nat → Nat
  | [], _, _ => zNul
  | q :: l, a, k => bif Nat.beq a q.1 && Nat.beq k q.2.1 then q.2.2 else lkR l a k
/-- what is written, as a memory -/
def mD (D : zD) : zM := (lkI D.1, fun _ _ => 0, lkR D.2.1, D.2.2)
def okD (D : zD) : Prop := (∀ q ∈ D.1, q.1 < D.2.2) ∧ ∀ q ∈ D.2.1, q.1 < D.2.2
theorem upI (l : List (Nat × Nat × Int32)) (a k : Nat) (x : Int32) : zup (lkI l) a k x = lkI ((a, k, x) :: l) := by
  funext b j
  show (if b = a then fun j => if j = k then x else lkI l b j else lkI l b) j = (bif Nat.beq b a && Nat.beq j k then x else lkI l b j)
  by_cases h : b = a
  · rw [if_pos h]
    by_cases h2 : j = k
    · rw [h, h2, Nat.beq_refl, Nat.beq_refl]
      exact if_pos rfl
    · rw [zbqf h2, Bool.and_false]
      exact if_neg h2
  · rw [if_neg h, zbqf h, Bool.false_and]
    rfl
theorem upR (l : List (Nat × Nat × Nat)) (a k : Nat) (x : Nat) : zup (lkR l) a k x = lkR ((a, k, x) :: l) := by
  funext b j
  show (if b = a then fun j => if j = k then x else lkR l b j else lkR l b) j = (bif Nat.beq b a && Nat.beq j k then x else lkR l b j)
  by_cases h : b = a
  · rw [if_pos h]
    by_cases h2 : j = k
    · rw [h, h2, Nat.beq_refl, Nat.beq_refl]
      exact if_pos rfl
    · rw [zbqf h2, Bool.and_false]
      exact if_neg h2
  · rw [if_neg h, zbqf h, Bool.false_and]
    rfl
theorem lkI_f {s a k : Nat} (ha : s ≤ a) : ∀ {l : List (Nat × Nat × Int32)}, (∀ q ∈ l, q.1 < s) → lkI l a k = 0
  | [], _ => rfl
  | q :: l, h => by
    have h1 := h q (List.mem_cons_self ..)
    show (bif Nat.beq a q.1 && Nat.beq k q.2.1 then q.2.2 else lkI l a k) = 0
    rw [zbqf (show ¬ a = q.1 by omega), Bool.false_and]
    exact lkI_f ha (fun q hq => h q (List.mem_cons_of_mem _ hq))
theorem lkR_f {s a k : Nat} (ha : s ≤ a) : ∀ {l : List (Nat × Nat × Nat)}, (∀ q ∈ l, q.1 < s) → lkR l a k = zNul
  | [], _ => rfl
  | q :: l, h => by
    have h1 := h q (List.mem_cons_self ..)
    show (bif Nat.beq a q.1 && Nat.beq k q.2.1 then q.2.2 else lkR l a k) = zNul
    rw [zbqf (show ¬ a = q.1 by omega), Bool.false_and]
    exact lkR_f ha (fun q hq => h q (List.mem_cons_of_mem _ hq))
theorem mD_nw {D : zD} (h : okD D) : znw (mD D) = mD (D.1, D.2.1, D.2.2 + 1) := by
  have e1 : zro (lkI D.1) D.2.2 (fun _ => 0) = lkI D.1 := by
    funext b
    unfold zro
    by_cases hb : b = D.2.2
    · rw [if_pos hb]
      funext k
      exact (lkI_f (by omega) h.1).symm
    · rw [if_neg hb]
  have e2 : zro (lkR D.2.1) D.2.2 (fun _ => zNul) = lkR D.2.1 := by
    funext b
    unfold zro
    by_cases hb : b = D.2.2
    · rw [if_pos hb]
      funext k
      exact (lkR_f (by omega) h.2).symm
    · rw [if_neg hb]
  have e3 : zro (fun (_ _ : Nat) => (0 : Int64)) D.2.2 (fun _ => 0) = fun _ _ => 0 := by
    funext b
    unfold zro
    by_cases hb : b = D.2.2
    · rw [if_pos hb]
    · rw [if_neg hb]
  show (zro (lkI D.1) D.2.2 (fun _ => 0), zro (fun (_ _ : Nat) => (0 : Int64)) D.2.2 (fun _ => 0), zro (lkR D.2.1) D.2.2 (fun _ => zNul), D.2.2 + 1) = _
  rw [e1, e2, e3]
  rfl
theorem okD_nw {D : zD} (h : okD D) (n : Nat) : okD (D.1, D.2.1, D.2.2 + n) := ⟨fun q hq => Nat.lt_of_lt_of_le (h.1 q hq) (Nat.le_add_right _ _), fun q hq => Nat.lt_of_lt_of_le (h.2 q hq) (Nat.le_add_right _ _)⟩
/-- a new array's rows -/
def rwN (s : Nat) : Nat → List (Nat × Nat × Nat) → List (Nat × Nat × Nat)
  | 0, R => R
  | n + 1, R => (s, n, s + 1 + n) :: rwN s n R
theorem rwN_lk (s : Nat) (R : List (Nat × Nat × Nat)) (b j : Nat) : ∀ n, lkR (rwN s n R) b j = if b = s ∧ j < n then s + 1 + j else lkR R b j := by
  intro n
  induction n with
  | zero => rw [if_neg (by omega)]; rfl
  | succ n ih =>
    show (bif Nat.beq b s && Nat.beq j n then s + 1 + n else lkR (rwN s n R) b j) = _
    by_cases h1 : b = s
    · by_cases h2 : j = n
      · rw [h1, h2, Nat.beq_refl, Nat.beq_refl, if_pos (by omega)]
        rfl
      · rw [zbqf h2, Bool.and_false]
        show lkR (rwN s n R) b j = _
        rw [ih]
        by_cases h3 : j < n
        · rw [if_pos ⟨h1, h3⟩, if_pos ⟨h1, by omega⟩]
        · rw [if_neg (by omega), if_neg (by omega)]
    · rw [zbqf h1, Bool.false_and]
      show lkR (rwN s n R) b j = _
      rw [ih, if_neg (by omega), if_neg (by omega)]
theorem rwN_lt (s : Nat) (R : List (Nat × Nat × Nat)) (t : Nat) (ht : s < t) (h : ∀ q ∈ R, q.1 < t) : ∀ n, ∀ q ∈ rwN s n R, q.1 < t := by
  intro n
  induction n with
  | zero => exact h
  | succ n ih =>
    intro q hq
    rcases List.mem_cons.mp hq with e | e
    · rw [e]; exact ht
    · exact ih q e
theorem mD_nm {D : zD} (h : okD D) (n : Nat) : znm (mD D) n = mD (D.1, rwN D.2.2 n D.2.1, D.2.2 + 1 + n) := by
  have e1 : (fun b => if D.2.2 ≤ b then fun _ => (0 : Int32) else lkI D.1 b) = lkI D.1 := by
    funext b
    by_cases hb : D.2.2 ≤ b
    · rw [if_pos hb]
      funext k
      exact (lkI_f hb h.1).symm
    · rw [if_neg hb]
  have e2 : (fun b => if b = D.2.2 then (fun j => if j < n then D.2.2 + 1 + j else zNul) else if D.2.2 < b then fun _ => zNul else lkR D.2.1 b) = lkR (rwN D.2.2 n D.2.1) := by
    funext b
    by_cases hb : b = D.2.2
    · rw [if_pos hb]
      funext j
      rw [rwN_lk]
      by_cases hj : j < n
      · rw [if_pos hj, if_pos ⟨hb, hj⟩]
      · rw [if_neg hj, if_neg (fun e => hj e.2)]
        exact (lkR_f (by omega) h.2).symm
    · rw [if_neg hb]
      funext j
      rw [rwN_lk, if_neg (show ¬ (b = D.2.2 ∧ j < n) from fun e => hb e.1)]
      by_cases h2 : D.2.2 < b
      · rw [if_pos h2]
        exact (lkR_f (by omega) h.2).symm
      · rw [if_neg h2]
  have e3 : (fun b => if D.2.2 ≤ b then fun _ => (0 : Int64) else fun _ => 0) = fun (_ _ : Nat) => (0 : Int64) := by
    funext b
    by_cases hb : D.2.2 ≤ b
    · rw [if_pos hb]
    · rw [if_neg hb]
  show ((fun b => if D.2.2 ≤ b then fun _ => (0 : Int32) else lkI D.1 b), (fun b => if D.2.2 ≤ b then fun _ => (0 : Int64) else fun _ => 0), (fun b => if b = D.2.2 then (fun j => if j < n then D.2.2 + 1 + j else zNul) else if D.2.2 < b then fun _ => zNul else lkR D.2.1 b), D.2.2 + 1 + n) = _
  rw [e1, e2, e3]
  rfl
theorem okD_nm {D : zD} (h : okD D) (n : Nat) : okD (D.1, rwN D.2.2 n D.2.1, D.2.2 + 1 + n) := ⟨fun q hq => Nat.lt_of_lt_of_le (h.1 q hq) (show D.2.2 ≤ D.2.2 + 1 + n by omega), rwN_lt _ _ _ (show D.2.2 < D.2.2 + 1 + n by omega) (fun q hq => Nat.lt_of_lt_of_le (h.2 q hq) (show D.2.2 ≤ D.2.2 + 1 + n by omega)) n⟩
theorem okD_I {D : zD} (h : okD D) {a k : Nat} {x : Int32} (ha : a < D.2.2) : okD ((a, k, x) :: D.1, D.2.1, D.2.2) := ⟨fun q hq => by
  rcases List.mem_cons.mp hq with e | e
  · rw [e]; exact ha
  · exact h.1 q e, h.2⟩
theorem okD_R {D : zD} (h : okD D) {a k b : Nat} (ha : a < D.2.2) : okD (D.1, (a, k, b) :: D.2.1, D.2.2) := ⟨h.1, fun q hq => by
  rcases List.mem_cons.mp hq with e | e
  · rw [e]; exact ha
  · exact h.2 q e⟩
theorem mD_I {D : zD} {a k : Nat} {x : Int32} : zsI (mD D) a k x = mD ((a, k, x) :: D.1, D.2.1, D.2.2) := by
  show (zup (lkI D.1) a k x, _, _, _) = _
  rw [upI]
  rfl
theorem mD_R {D : zD} {a k b : Nat} : zsR (mD D) a k b = mD (D.1, (a, k, b) :: D.2.1, D.2.2) := by
  show (_, _, zup (lkR D.2.1) a k b, _) = _
  rw [upR]
  rfl
/-- instructions that leave the cells alone -/
def vp (i : Instr) (aux pc : Nat) (ls st : List Value) : Option (Nat × List Value × List Value) := match i with
  | .iconst _ => some (pc + 1, ls, .int (zicT aux) :: st)
  | .bipush _ => some (pc + 2, ls, .int (zicT aux) :: st)
  | .sipush _ => some (pc + 3, ls, .int (zicT aux) :: st)
  | .iload_n k => match zget ls k with
    | .int x => some (pc + 1, ls, .int x :: st)
    | _ => none
  | .aload_n k => match zget ls k with
    | .ref x => some (pc + 1, ls, .ref x :: st)
    | _ => none
  | .istore_n k => match st with
    | .int x :: r => some (pc + 1, zst1 ls k (.int x), r)
    | _ => none
  | .astore_n k => match st with
    | .ref x :: r => some (pc + 1, zst1 ls k (.ref x), r)
    | _ => none
  | .iinc k _ => match zget ls k with
    | .int x => some (pc + 3, zst1 ls k (.int (x + zicT aux)), st)
    | _ => none
  | .dup => match st with
    | .ref x :: r => some (pc + 1, ls, .ref x :: .ref x :: r)
    | _ => none
  | .goto _ => some (aux, ls, st)
  | .if_icmp c _ => match st with
    | .int y :: .int x :: r => some (zif c x y aux (pc + 3), ls, r)
    | _ => none
  | .invokespecial _ => match Nat.beq aux 9999 with
    | true => match st with
      | .ref _ :: r => match Nat.ble (zcat r) 8 with
        | true => some (pc + 3, ls, r)
        | false => none
      | _ => none
    | false => none
  | _ => none
theorem vp_ok {X : (Nat → Int32) × Nat} {rk : Nat} {i : Instr} {aux pc : Nat} {ls st : List Value} {M : zM} {q : Nat × List Value × List Value} (h : vp i aux pc ls st = some q) : zst X rk i aux pc ls st M = some ([], .inr (.inl (q.1, q.2.1, q.2.2, M))) := by
  unfold vp at h
  split at h
  · cases h; rfl
  · cases h; rfl
  · cases h; rfl
  · split at h
    · rename_i e
      cases h
      show zldi ls _ _ = _
      unfold zldi
      rw [e]
    · cases h
  · split at h
    · rename_i e
      cases h
      unfold zst
      dsimp only [zlda]
      rw [e]
    · cases h
  · split at h
    · cases h; rfl
    · cases h
  · split at h
    · cases h; rfl
    · cases h
  · split at h
    · rename_i e
      cases h
      show zldi ls _ _ = _
      unfold zldi
      rw [e]
    · cases h
  · split at h
    · cases h; rfl
    · cases h
  · cases h; rfl
  · split at h
    · cases h; rfl
    · cases h
  · split at h
    · rename_i e
      split at h
      · split at h
        · rename_i e2
          cases h
          unfold zst
          rw [e]
          dsimp only
          rw [e2]
        · cases h
      · cases h
    · cases h
  · cases h
/-- instructions that write cells, or read references -/
def vm (i : Instr) (aux pc : Nat) (ls st : List Value) (D : zD) : Option zDc := match i with
  | .new _ => if D.2.2 < zNC ∧ zsh D.2.2 = (aux, znf aux) then some (pc + 3, ls, .ref D.2.2 :: st, (D.1, D.2.1, D.2.2 + 1)) else none
  | .newarray _ => match st with
    | .int n :: r => if D.2.2 < zNC ∧ ¬ n < 0 ∧ zsh D.2.2 = (aux, n.toNatClampNeg) then some (pc + 2, ls, .ref D.2.2 :: r, (D.1, D.2.1, D.2.2 + 1)) else none
    | _ => none
  | .anewarray _ => match st with
    | .int n :: r => if D.2.2 < zNC ∧ ¬ n < 0 ∧ zsh D.2.2 = (aux, n.toNatClampNeg) then some (pc + 3, ls, .ref D.2.2 :: r, (D.1, D.2.1, D.2.2 + 1)) else none
    | _ => none
  | .multianewarray _ _ => match st with
    | .int k :: .int n :: r => if D.2.2 + n.toNatClampNeg < zNC ∧ ¬ n < 0 ∧ ¬ k < 0 ∧ zsh D.2.2 = (24, n.toNatClampNeg) ∧ (∀ j, j < n.toNatClampNeg → zsh (D.2.2 + 1 + j) = (20, k.toNatClampNeg)) ∧ k.toNatClampNeg ≤ 3000 then some (pc + 4, ls, .ref D.2.2 :: r, (D.1, rwN D.2.2 n.toNatClampNeg D.2.1, D.2.2 + 1 + n.toNatClampNeg)) else none
    | _ => none
  | .putfield _ => match st with
    | .int x :: .ref a :: r => if zft (aux / 100) (aux % 100) = 0 ∧ a < D.2.2 ∧ (zsh a).1 = aux / 100 then some (pc + 3, ls, r, ((a, aux % 100, x) :: D.1, D.2.1, D.2.2)) else none
    | .ref b :: .ref a :: r => if zft (aux / 100) (aux % 100) = 2 ∧ a < D.2.2 ∧ (zsh a).1 = aux / 100 ∧ b < zNul then some (pc + 3, ls, r, (D.1, (a, aux % 100, b) :: D.2.1, D.2.2)) else none
    | _ => none
  | .getfield _ => match st with
    | .ref a :: r => if zft (aux / 100) (aux % 100) = 2 ∧ a < D.2.2 ∧ (zsh a).1 = aux / 100 ∧ lkR D.2.1 a (aux % 100) < zNul then some (pc + 3, ls, .ref (lkR D.2.1 a (aux % 100)) :: r, D) else none
    | _ => none
  | .iastore => match st with
    | .int v :: .int i :: .ref a :: r => if (a < D.2.2 ∧ (zsh a).1 = 20) ∧ ¬ i < 0 ∧ ¬ (zsh a).2 ≤ i.toNatClampNeg then some (pc + 1, ls, r, ((a, i.toNatClampNeg, v) :: D.1, D.2.1, D.2.2)) else none
    | _ => none
  | .aastore => match st with
    | .ref v :: .int i :: .ref a :: r => if (a < D.2.2 ∧ (zsh a).1 = aux) ∧ (¬ i < 0 ∧ ¬ (zsh a).2 ≤ i.toNatClampNeg) ∧ (v < D.2.2 ∧ (zsh v).1 = zel aux) ∧ v < zNul then some (pc + 1, ls, r, (D.1, (a, i.toNatClampNeg, v) :: D.2.1, D.2.2)) else none
    | _ => none
  | _ => none
theorem vm_ok {X : (Nat → Int32) × Nat} {rk : Nat} {i : Instr} {aux pc : Nat} {ls st : List Value} {D : zD} {c : zDc} (h : vm i aux pc ls st D = some c) (hD : okD D) : ∃ gs, zst X rk i aux pc ls st (mD D) = some (gs, .inr (.inl (c.1, c.2.1, c.2.2.1, mD c.2.2.2))) ∧ zall gs ∧ okD c.2.2.2 := by
  unfold vm at h
  split at h
  · split at h
    · rename_i g
      cases h
      dsimp only
      rw [← mD_nw hD]
      exact ⟨_, rfl, ⟨g.1, g.2⟩, okD_nw hD 1⟩
    · cases h
  · split at h
    · split at h
      · rename_i g
        cases h
        dsimp only
        rw [← mD_nw hD]
        exact ⟨_, rfl, ⟨g.1, g.2.1, g.2.2⟩, okD_nw hD 1⟩
      · cases h
    · cases h
  · split at h
    · split at h
      · rename_i g
        cases h
        dsimp only
        rw [← mD_nw hD]
        exact ⟨_, rfl, ⟨g.1, g.2.1, g.2.2⟩, okD_nw hD 1⟩
      · cases h
    · cases h
  · split at h
    · split at h
      · rename_i g
        cases h
        dsimp only
        rw [← mD_nm hD]
        exact ⟨_, rfl, ⟨g.1, g.2.1, g.2.2.1, g.2.2.2.1, g.2.2.2.2.1, g.2.2.2.2.2⟩, okD_nm hD _⟩
      · cases h
    · cases h
  · split at h
    · split at h
      · rename_i g
        cases h
        dsimp only
        rw [← mD_I]
        unfold zst
        dsimp only
        rw [g.1]
        exact ⟨_, rfl, ⟨g.2.1, g.2.2⟩, okD_I hD g.2.1⟩
      · cases h
    · split at h
      · rename_i g
        cases h
        dsimp only
        rw [← mD_R]
        unfold zst
        dsimp only
        rw [g.1]
        exact ⟨_, rfl, ⟨⟨g.2.1, g.2.2.1⟩, g.2.2.2⟩, okD_R hD g.2.1⟩
      · cases h
    · cases h
  · split at h
    · split at h
      · rename_i g
        cases h
        show ∃ gs, zgo (zis (mD D) _ (aux / 100) :: zfg (mD D) _ (aux % 100) (zft (aux / 100) (aux % 100))) (pc + 3) ls (zfv (mD D) _ (aux % 100) (zft (aux / 100) (aux % 100)) :: _) (mD D) = _ ∧ _
        rw [g.1]
        exact ⟨_, rfl, ⟨⟨g.2.1, g.2.2.1⟩, g.2.2.2⟩, hD⟩
      · cases h
    · cases h
  · split at h
    · split at h
      · rename_i g
        cases h
        dsimp only
        rw [← mD_I]
        exact ⟨_, rfl, ⟨g.1, vp_iff.mpr g.2⟩, okD_I hD g.1.1⟩
      · cases h
    · cases h
  · split at h
    · split at h
      · rename_i g
        cases h
        dsimp only
        rw [← mD_R]
        exact ⟨_, rfl, ⟨g.1, vp_iff.mpr g.2.1, g.2.2.1, g.2.2.2⟩, okD_R hD g.1.1⟩
      · cases h
    · cases h
  · cases h
/-- calls, and a method's end -/
def vc (i : Instr) (aux y d : Nat) (st : List Value) : Option (Unit ⊕ (Nat × Nat × List Value × List Value)) := match i with
  | .return_ => match st with
    | [] => match Nat.beq (zrk y) 0 with
      | true => some (.inl ())
      | false => none
    | _ => none
  | .invokespecial _ => match Nat.beq aux 9999 with
    | true => none
    | false => match d with
      | 0 => none
      | d' + 1 => match zpop (aux % 10) st [] with
        | some (.ref a :: as, r) => match Nat.ble (zcat r) 8, Nat.ble (zargs (.ref a :: as)).length (zml (aux / 10)) with
          | true, true => some (.inr (aux / 10, d', .ref a :: as, r))
          | _, _ => none
        | _ => none
  | _ => none
theorem vc_ret {X : (Nat → Int32) × Nat} {i : Instr} {aux y d pc : Nat} {ls st : List Value} {M : zM} (h : vc i aux y d st = some (.inl ())) : ∃ gs, zst X (zrk y) i aux pc ls st M = some (gs, .inl (none, M)) ∧ zall gs := by
  unfold vc at h
  split at h
  · split at h
    · split at h
      · rename_i e
        exact ⟨_, rfl, Nat.eq_of_beq_eq_true e⟩
      · cases h
    · cases h
  · split at h
    · cases h
    · split at h
      · cases h
      · split at h
        · split at h
          · cases h
          · cases h
        · cases h
  · cases h
theorem vc_call {X : (Nat → Int32) × Nat} {i : Instr} {aux y d pc z d' : Nat} {ls st as r : List Value} {M : zM} (h : vc i aux y d st = some (.inr (z, d', as, r))) : d = d' + 1 ∧ zst X (zrk y) i aux pc ls st M = some ([], .inr (.inr (z, as, M, pc + 3, ls, r))) := by
  unfold vc at h
  split at h
  · split at h
    · split at h
      · cases h
      · cases h
    · cases h
  · split at h
    · cases h
    · rename_i e
      split at h
      · cases h
      · split at h
        · rename_i e1
          split at h
          · rename_i e2 e3
            cases h
            refine ⟨rfl, ?_⟩
            unfold zst
            rw [e]
            dsimp only
            unfold zcal
            rw [e1]
            dsimp only
            rw [e2, e3]
            rfl
          · cases h
        · cases h
  · cases h
noncomputable def zev : Nat → Nat → Nat → Nat → zDc → Option ((Option Value × zD) ⊕ zDc)
  | 0, _, _, _, _ => none
  | n + 1, d, y, stop, c => match Nat.beq c.1 stop with
    | true => some (.inr c)
    | false => match zt y c.1 with
      | none => none
      | some (i, aux) => match vp i aux c.1 c.2.1 c.2.2.1 with
        | some q => zev n d y stop (q.1, q.2.1, q.2.2, c.2.2.2)
        | none => match vm i aux c.1 c.2.1 c.2.2.1 c.2.2.2 with
          | some c' => zev n d y stop c'
          | none => match vc i aux y d c.2.2.1 with
            | none => none
            | some (.inl _) => some (.inl (none, c.2.2.2))
            | some (.inr (z, d', as, r)) => match zev n d' z 99999 (0, zloc (zml z) as, [], c.2.2.2) with
              | some (.inl o) => zev n d y stop (c.1 + 3, c.2.1, zps o.1 r, o.2)
              | _ => none
def mC (c : zDc) : zCf := (c.1, c.2.1, c.2.2.1, mD c.2.2.2)
def resD (X : (Nat → Int32) × Nat) (d y : Nat) (c : zDc) : (Option Value × zD) ⊕ zDc → Prop
  | .inl o => zR X d y (mC c) = some (o.1, mD o.2) ∧ okD o.2
  | .inr c' => zR X d y (mC c) = zR X d y (mC c') ∧ okD c'.2.2.2
theorem resD_e {X : (Nat → Int32) × Nat} {d y : Nat} {c c2 : zDc} {r : (Option Value × zD) ⊕ zDc} (h : zR X d y (mC c) = zR X d y (mC c2)) (h2 : resD X d y c2 r) : resD X d y c r := by
  cases r with
  | inl o => exact ⟨h.trans h2.1, h2.2⟩
  | inr c' => exact ⟨h.trans h2.1, h2.2⟩
theorem zev_ok (X : (Nat → Int32) × Nat) : ∀ (n d y stop : Nat) (c : zDc) (r : (Option Value × zD) ⊕ zDc), zev n d y stop c = some r → okD c.2.2.2 → resD X d y c r := by
  intro n
  induction n with
  | zero => intro d y stop c r h; cases h
  | succ n ih =>
    intro d y stop c r h hD
    rw [zev] at h
    split at h
    · cases h
      exact ⟨rfl, hD⟩
    · split at h
      · cases h
      · rename_i i aux e0
        have key : ∀ {gs : List Prop} {q : zRs}, zst X (zrk y) i aux c.1 c.2.1 c.2.2.1 (mD c.2.2.2) = some (gs, q) → zall gs → zR X d y (mC c) = zfin X d y q := by
          intro gs q h1 h2
          refine zR_stp X (gs := gs) ?_ h2
          show (match zt y c.1 with | some (i, aux) => zst X (zrk y) i aux c.1 c.2.1 c.2.2.1 (mD c.2.2.2) | none => none) = _
          rw [e0]
          exact h1
        split at h
        · rename_i q e1
          refine resD_e (c2 := (q.1, q.2.1, q.2.2, c.2.2.2)) (key (vp_ok e1) trivial) (ih _ _ _ _ _ h hD)
        · split at h
          · rename_i c' e2
            obtain ⟨gs, h1, h2, h3⟩ := vm_ok (X := X) (rk := zrk y) e2 hD
            exact resD_e (c2 := c') (key h1 h2) (ih _ _ _ _ _ h h3)
          · split at h
            · cases h
            · rename_i e3
              cases h
              obtain ⟨gs, h1, h2⟩ := vc_ret (X := X) (pc := c.1) (ls := c.2.1) (M := mD c.2.2.2) e3
              exact ⟨key h1 h2, hD⟩
            · rename_i z d' as r' e3
              split at h
              · rename_i o e4
                obtain ⟨rfl, h1⟩ := vc_call (X := X) (pc := c.1) (ls := c.2.1) (M := mD c.2.2.2) e3
                obtain ⟨g1, g2⟩ := ih _ _ _ _ _ e4 hD
                refine resD_e (c2 := (c.1 + 3, c.2.1, zps o.1 r', o.2)) ?_ (ih _ _ _ _ _ h g2)
                rw [key h1 trivial]
                show ((zC X d' z as (mD c.2.2.2)).bind fun o => zR X (d' + 1) y (c.1 + 3, c.2.1, zps o.1 r', o.2)) = _
                rw [show zC X d' z as (mD c.2.2.2) = some (o.1, mD o.2) from g1]
                rfl
              · cases h
