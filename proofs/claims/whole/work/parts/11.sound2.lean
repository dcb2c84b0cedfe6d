/-! ===== the small machine's cells in the great one's heap ===== -/
def zrf (base r : Nat) : Option Nat := if r < zNul then some (base + r) else none
def zfw (base : Nat) (M : zM) (a k : Nat) (t : Nat) : Value := match t with
  | 1 => .long (M.2.1 a k)
  | 2 => va_rf (zrf base (M.2.2.1 a k))
  | _ => .int (M.1 a k)
def zen (base : Nat) (dA : Nat → ClassId) (M : zM) (a : Nat) : va_E :=
  if (zsh a).1 < 20 then .inr ((zsh a).1, (List.range (znf (zsh a).1)).map fun k => zfw base M a k (zft (zsh a).1 k))
  else if (zsh a).1 = 23 then .inl (dA 23, zln a, .inr (.inl (M.2.1 a)))
  else if (zsh a).1 < 24 then .inl (dA (zsh a).1, zln a, .inl (M.1 a))
  else .inl (dA (zsh a).1, zln a, .inr (.inr (.inr (.inr fun j => zrf base (M.2.2.1 a j)))))
def zW (base : Nat) (dA : Nat → ClassId) (D : va_G) (M : zM) (H : Heap) : Prop := H.size = base + M.2.2.2 ∧ ∀ a, a < M.2.2.2 → va_at D zcl (base + a, zen base dA M a) H
theorem zen_cong {base : Nat} {dA : Nat → ClassId} {M M' : zM} {b : Nat} (h1 : M'.1 b = M.1 b) (h2 : M'.2.1 b = M.2.1 b) (h3 : M'.2.2.1 b = M.2.2.1 b) : zen base dA M' b = zen base dA M b := by
  unfold zen zfw
  rw [h1, h2, h3]
theorem zen_obj {base : Nat} {dA : Nat → ClassId} {M : zM} {a ci : Nat} (h : (zsh a).1 = ci) (hc : ci < 13) : zen base dA M a = .inr (ci, (List.range (znf ci)).map fun k => zfw base M a k (zft ci k)) := by
  unfold zen
  rw [h, if_pos (by omega)]
theorem zen_i {base : Nat} {dA : Nat → ClassId} {M : zM} {a k : Nat} (h : (zsh a).1 = k) (hk : k = 20 ∨ k = 21 ∨ k = 22) : zen base dA M a = .inl (dA k, zln a, .inl (M.1 a)) := by
  unfold zen
  rw [h, if_neg (by omega), if_neg (by omega), if_pos (by omega)]
theorem zen_l {base : Nat} {dA : Nat → ClassId} {M : zM} {a : Nat} (h : (zsh a).1 = 23) : zen base dA M a = .inl (dA 23, zln a, .inr (.inl (M.2.1 a))) := by
  unfold zen
  rw [h, if_neg (by omega), if_pos rfl]
theorem zen_q {base : Nat} {dA : Nat → ClassId} {M : zM} {a k : Nat} (h : (zsh a).1 = k) (hk : 24 ≤ k) : zen base dA M a = .inl (dA k, zln a, .inr (.inr (.inr (.inr fun j => zrf base (M.2.2.1 a j))))) := by
  unfold zen
  rw [h, if_neg (by omega), if_neg (by omega), if_neg (by omega)]
theorem zup_ne {α : Type} {f : Nat → Nat → α} {a k b : Nat} {x : α} (h : b ≠ a) : zup f a k x b = f b := if_neg h
theorem zup_eq {α : Type} {f : Nat → Nat → α} {a k : Nat} {x : α} : zup f a k x a = fun j => if j = k then x else f a j := if_pos rfl
theorem zro_ne {α : Type} {f : Nat → Nat → α} {a b : Nat} {r : Nat → α} (h : b ≠ a) : zro f a r b = f b := if_neg h
theorem zro_eq {α : Type} {f : Nat → Nat → α} {a : Nat} {r : Nat → α} : zro f a r a = r := if_pos rfl
/-- one cell is new -/
theorem zW.set {base : Nat} {dA : Nat → ClassId} {D : va_G} {M M' : zM} {H H' : Heap} {a : Nat} (h : zW base dA D M H) (hs : M'.2.2.2 = M.2.2.2) (hz : H'.size = H.size) (ho : ∀ q : Nat, q ≠ base + a → H'[q]? = H[q]?) (hb : ∀ b, b ≠ a → zen base dA M' b = zen base dA M b) (ha : va_at D zcl (base + a, zen base dA M' a) H') : zW base dA D M' H' := by
  refine ⟨by rw [hz, hs]; exact h.1, fun b hb2 => ?_⟩
  by_cases e : b = a
  · subst e
    exact ha
  · rw [hb b e]
    rw [hs] at hb2
    exact (h.2 b hb2).kept (ho (base + b) (fun q => e (Nat.add_left_cancel q)))
theorem zW.obj {base : Nat} {dA : Nat → ClassId} {D : va_G} {M : zM} {H : Heap} {a ci : Nat} (h : zW base dA D M H) (hi : zis M a ci) (hc : ci < 13) : t_OB (base + a) (D.1 ci) (znf ci) (D.2 ci) H (vp_V ((List.range (znf ci)).map fun k => zfw base M a k (zft ci k))) := by
  have h2 := h.2 a hi.1
  rw [zen_obj hi.2 hc] at h2
  obtain ⟨r, h3, h4⟩ := h2
  have e : r = (zcn ci, zcT ci, znf ci) := Option.some.inj (h3.symm.trans (zcl_at hc))
  subst e
  exact h4
theorem zrange_get {ci k : Nat} {f : Nat → Value} (hk : k < znf ci) : vp_V ((List.range (znf ci)).map f) k = f k := by
  unfold vp_V
  rw [List.getD_eq_getElem?_getD, List.getElem?_map, List.getElem?_range hk]
  rfl
/-- array types -/
def zty (k : Nat) : FieldType := match k with
  | 20 => .int
  | 21 => .byte
  | 22 => .boolean
  | 23 => .long
  | 24 => .array .int
  | 25 => .object "ThroneSale$State"
  | 26 => .object "ThroneSale$Realm"
  | _ => .object "ThroneSale$Rule"
def zKt (dA : Nat → ClassId) (U : State) : Prop := ∀ k, 20 ≤ k → k ≤ 27 → ArrOfT U (dA k) (zty k) ∧ va_RA U (dA k) (zty k)
def zAO (t : FieldType) (U : State) : Prop := (Cond.arrayOver t).before #[] U = true
/-- what is read alone: the texts, the static arrays, the script, the statics -/
def zX (base : Nat) (ad : Nat → Nat) (X : (Nat → Int32) × Nat) (U : State) (H : Heap) : Prop :=
  vk_S znS zleL zbyL (fun i => ad i) (fun i => ad (30 + i)) (fun q => base ≤ q) U H ∧
  (∀ j, j < 4 → va_T .int (ad (60 + j)) (zxn X (60 + j)) (fun k => .int (zxf X (60 + j) k)) (fun q => base ≤ q) U H) ∧
  va_T .int (ad 70) X.2 (fun k => .int (X.1 k)) (fun q => base ≤ q) U H ∧
  (∀ a, 1 ≤ a → a ≤ 4 → va_Z (zgs a).1 (zgs a).2.1 (zgs a).2.2 (.ref (ad (59 + a))) (fun q => base ≤ q) U H) ∧
  va_Z (zgs 0).1 (zgs 0).2.1 (zgs 0).2.2 (.int 1) (fun q => base ≤ q) U H ∧ va_Z (zgs 12).1 (zgs 12).2.1 (zgs 12).2.2 (ztr base ad (.float 1)) (fun q => base ≤ q) U H
/-- what is told of the tables beside the good words -/
def zT (ad : Nat → Nat) (U : State) : Prop := (∀ q ∈ zSL, vk_R (zcn q.1) q.2.1 (ztxL.getD (q.2.2.1 - 1) "") (ad (q.2.2.1 - 1)) U) ∧ (∀ q ∈ zNM, va_Nw (zNw q) U) ∧ (zAO (.array .int) U ∧ va_AO "ThroneSale$State" U ∧ va_AO "ThroneSale$Realm" U ∧ va_AO "ThroneSale$Rule" U)
theorem zX.kept {base : Nat} {ad : Nat → Nat} {X : (Nat → Int32) × Nat} {U : State} {H H1 : Heap} (h : zX base ad X U H) (hq : ∀ a : Nat, a < H.size → ¬ base ≤ a → H1[a]? = H[a]?) : zX base ad X U H1 :=
  ⟨h.1.kept hq, fun j hj => (h.2.1 j hj).kept hq, h.2.2.1.kept hq, fun a h1 h2 => (h.2.2.2.1 a h1 h2).kept hq, h.2.2.2.2.1.kept hq, h.2.2.2.2.2.kept hq⟩
theorem zX.moved {base : Nat} {ad : Nat → Nat} {X : (Nat → Int32) × Nat} {u U : State} {H : Heap} (hvm : u.vm.Alike U.vm) (h : zX base ad X u H) : zX base ad X U H :=
  ⟨h.1.moved hvm, fun j hj => (h.2.1 j hj).moved hvm, h.2.2.1.moved hvm, fun a h1 h2 => (h.2.2.2.1 a h1 h2).moved hvm, h.2.2.2.2.1.moved hvm, h.2.2.2.2.2.moved hvm⟩
theorem zidx (vm : Vm) (g : Kind → Bool) : (vm.bare.classes.findIdx? fun (x : Class) => g x.kind) = (vm.classes.findIdx? fun (x : Class) => g x.kind) := by
  simp only [Vm.bare, Array.findIdx?_map]
  rfl
def zkg (comp : ClassId) (k : Kind) : Bool := match k with
  | .array component _ => component == comp
  | _ => false
theorem zAO.moved {t : FieldType} {u U : State} (hvm : u.vm.Alike U.vm) (h : zAO (.array t) u) : zAO (.array t) U := by
  obtain ⟨comp, c, k, h1, h2, h3, h4, h5⟩ := arrayOverA_spec h
  obtain ⟨k', hk', he⟩ := hvm.2.2 _ _ h3
  have h2' : (u.vm.classes.findIdx? fun (x : Class) => zkg comp x.kind) = some c := h2
  have hi : (U.vm.classes.findIdx? fun (x : Class) => zkg comp x.kind) = some c := by
    rw [← zidx] at h2' ⊢
    first | rw [← hvm.bare_eq]; exact h2' | rw [hvm.bare_eq]; exact h2'
  have hkind : k'.kind = .array comp (.array t) := by rw [he]; exact h4
  have f1 : U.vm.findClass (FieldType.array t).toString = some comp := by rw [hvm.findClass]; exact h1
  have f2 : U.vm.findClass ("[" ++ (FieldType.array t).toString) = some c := by rw [hvm.findClass]; exact h5
  unfold zAO Cond.before Cond.holds
  simp only [Cond.value]
  rw [f1, Option.bind_some]
  refine (congrArg (fun o : Option Nat => (o.bind (fun c => (U.vm.classes[c]?).map fun (k : Class) => match k.kind with | .array _ ty => decide (ty = FieldType.array t) && decide (U.vm.findClass ("[" ++ (FieldType.array t).toString) = some c) | _ => false) == some true)) hi).trans ?_
  simp [hk', hkind, f2]
theorem zT.warm {ad : Nat → Nat} {s U : State} (hW : s.WarmedH U.vm) (h : zT ad s) : zT ad U :=
  ⟨fun q hq => (h.1 q hq).warm hW, fun q hq => va_Nw.warmM hW (h.2.1 q hq), h.2.2.1.moved hW.alike, h.2.2.2.1.moved hW.alike, h.2.2.2.2.1.moved hW.alike, h.2.2.2.2.2.moved hW.alike⟩
theorem zKt.moved {dA : Nat → ClassId} {u U : State} (hvm : u.vm.Alike U.vm) (h : zKt dA u) : zKt dA U := fun k h1 h2 => ⟨arrOfT_moved hvm (h k h1 h2).1, (h k h1 h2).2.moved hvm⟩
def zKc (D : va_G) (U : State) : Prop := ∀ (c : Nat), c < 13 → u_Kn U (zcn c) (zcT c) (znf c) (D.1 c) (D.2 c)
theorem zKc.moved {D : va_G} {u U : State} (hvm : u.vm.Alike U.vm) (h : zKc D u) : zKc D U := fun c hc => u_Kn_moved hvm (h c hc)
/-- slots of the cells that are made first -/
def zss (n : Nat) : Nat := ((List.range n).map zln).sum
theorem zss_succ (n : Nat) : zss (n + 1) = zss n + zln n := by
  unfold zss
  rw [List.range_succ, List.map_append, List.sum_append]
  simp
theorem zss_mono {a b : Nat} (h : a ≤ b) : zss a ≤ zss b := by
  induction h with
  | refl => exact Nat.le_refl _
  | step _ ih => rw [zss_succ]; omega
