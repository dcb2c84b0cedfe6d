theorem zck_inv {y pc aux : Nat} {i : Instr} (h : zck y pc = true) (hz : zt y pc = some (i, aux)) : ∃ len, decode (zcd y) pc = .ok (i, len) ∧ zcq y i len aux pc = true := by
  unfold zck at h
  rw [hz] at h
  dsimp only at h
  split at h
  · rename_i i' len hd
    simp only [Bool.and_eq_true, decide_eq_true_eq] at h
    obtain ⟨rfl, h2⟩ := h
    exact ⟨len, hd, h2⟩
  · cases h
theorem zss_rows (n k : Nat) : ∀ (z : Nat), (∀ j, j < n → zln (z + j) = k) → zss (z + n) = zss z + n * k := by
  induction n with
  | zero => intro z _; simp
  | succ n ih =>
    intro z h
    rw [show z + (n + 1) = z + n + 1 by omega, zss_succ, ih z (fun j hj => h j (by omega)), h n (by omega), Nat.succ_mul]
    omega
theorem zst_at {k : Nat} {mls : Array Slot} {base nL : Nat} {ad : Nat → Nat} {ls : List Value} (h : zLv base ad nL ls mls) {x : Int32} (hv : zget ls k = .int x) : mls[k]? = some (.val (.int x)) := zLv_at h hv (by simp)
theorem zup_at {α : Type} {f : Nat → Nat → α} {a k j : Nat} {x : α} : zup f a k x a j = if j = k then x else f a j := by rw [zup_eq]
theorem zis_lt {M : zM} {a ci : Nat} (h : zis M a ci) : ci < 100 := by
  rw [← h.2]
  rcases Nat.lt_or_ge a zNC with g | g
  · have := (zsh_ok a g).1
    omega
  · rw [zsh_out g]
    decide
theorem zfv_tr {base : Nat} {ad : Nat → Nat} {M : zM} {a k t : Nat} {yt : FieldType} (h : zfk t yt = true) (hg : zall (zfg M a k t)) : zfw base M a k t = ztr base ad (zfv M a k t) := by
  match t, h, hg with
  | 0, _, _ => rfl
  | 1, _, _ => rfl
  | 2, _, hg =>
    have h2 : M.2.2.1 a k < zNul := hg
    show va_rf (zrf base (M.2.2.1 a k)) = .ref (base + M.2.2.1 a k)
    unfold zrf
    rw [if_pos h2]
    rfl
  | 3, _, _ => rfl
theorem zfk_0 {yt : FieldType} (h : zfk 0 yt = true) : yt = .int := by cases yt <;> first | rfl | cases h
theorem zfk_1 {yt : FieldType} (h : zfk 1 yt = true) : yt = .long := by cases yt <;> first | rfl | cases h
theorem zfk_3 {yt : FieldType} (h : zfk 3 yt = true) : yt = .boolean := by cases yt <;> first | rfl | cases h
theorem zfk_2 {yt : FieldType} (h : zfk 2 yt = true) {a : Nat} : narrow yt (.ref a) = .ref a ∧ fits yt (.ref a) = true := by cases yt <;> first | exact ⟨rfl, rfl⟩ | cases h
theorem zfwI {base : Nat} {M : zM} {a k t : Nat} {x : Int32} (h : t = 0) : zfw base (zsI M a k x) a k t = .int x := by
  subst h
  show Value.int (zup M.1 a k x a k) = .int x
  rw [zup_at, if_pos rfl]
theorem zfwI3 {base : Nat} {M : zM} {a k : Nat} {x : Int32} : zfw base (zsI M a k x) a k 3 = .int x := by
  show Value.int (zup M.1 a k x a k) = .int x
  rw [zup_at, if_pos rfl]
theorem zfwL {base : Nat} {M : zM} {a k t : Nat} {x : Int64} (h : t = 1) : zfw base (zsL M a k x) a k t = .long x := by
  subst h
  show Value.long (zup M.2.1 a k x a k) = .long x
  rw [zup_at, if_pos rfl]
theorem zfwR {base : Nat} {M : zM} {a k b : Nat} (h : b < zNul) : zfw base (zsR M a k b) a k 2 = .ref (base + b) := by
  show va_rf (zrf base (zup M.2.2.1 a k b a k)) = .ref (base + b)
  rw [zup_at, if_pos rfl]
  unfold zrf
  rw [if_pos h]
  rfl
theorem zfwIn {base : Nat} {M : zM} {a k j t : Nat} {x : Int32} (h : j ≠ k) : zfw base (zsI M a k x) a j t = zfw base M a j t := by
  unfold zfw
  have e : (zsI M a k x).1 a j = M.1 a j := by show zup M.1 a k x a j = _; rw [zup_at, if_neg h]
  rw [e]
  rfl
theorem zfwLn {base : Nat} {M : zM} {a k j t : Nat} {x : Int64} (h : j ≠ k) : zfw base (zsL M a k x) a j t = zfw base M a j t := by
  unfold zfw
  have e : (zsL M a k x).2.1 a j = M.2.1 a j := by show zup M.2.1 a k x a j = _; rw [zup_at, if_neg h]
  rw [e]
  rfl
theorem zfwRn {base : Nat} {M : zM} {a k j t b : Nat} (h : j ≠ k) : zfw base (zsR M a k b) a j t = zfw base M a j t := by
  unfold zfw
  have e : (zsR M a k b).2.2.1 a j = M.2.2.1 a j := by show zup M.2.2.1 a k b a j = _; rw [zup_at, if_neg h]
  rw [e]
  rfl
theorem zlk_off {pc : Nat} {x : Int} : ∀ (l : List (Int × Int)) (df : Int), 0 ≤ (pc : Int) + df → (∀ q ∈ l, 0 ≤ (pc : Int) + q.2) → 0 ≤ (pc : Int) + Op.lookupswitch.offset l df x
  | [], _, h1, _ => h1
  | (a, o) :: l, df, h1, h2 => by
    rw [Op.lookupswitch.offset_cons]
    split
    · exact h2 (a, o) List.mem_cons_self
    · exact zlk_off l df h1 (fun q hq => h2 q (List.mem_cons_of_mem _ hq))
section ZJ
variable {p : Program} {l : Launch} {e : Env} {R : Room} {s : State} {m : MethodId} {args : Array Value} {below : List Frame} {meth : Method} {c : Code} {Q : State → Prop}
variable {base : Nat} {ad : Nat → Nat} {dA : Nat → ClassId} {D : va_G} {X : (Nat → Int32) × Nat} {d y : Nat}
set_option maxRecDepth 200000 in
theorem zs_jump (C0 : zCx p s m args meth c R base ad dA D X d y) (hd : 1 ≤ d) {pc aux : Nat} {i : Instr} (hck : zck y pc = true) (hz : zt y pc = some (i, aux)) {ls st : List Value} {M : zM} {gs : List Prop} {c' : zCf} (hst : zst X (zrk y) i aux pc ls st M = some (gs, .inr (.inl c'))) (hg : zall gs) {z0 : Nat} (hz0 : z0 ≤ M.2.2.2) (hroom : c'.2.2.2.2.2.2 - z0 ≤ R.cells ∧ zss c'.2.2.2.2.2.2 - zss z0 ≤ R.slots)
    (hk : zOK p l e R s m args below meth c Q base ad dA D (zml y) z0 c') : zOK p l e R s m args below meth c Q base ad dA D (zml y) z0 (pc, ls, st, M) := by
  obtain ⟨len, hdg, hcq⟩ := zck_inv hck hz
  have C1 := C0
  obtain ⟨hx, hb, hml, ho, hts, hK, hKt, hX, hT, hbs, hnm, hfr, hlo, hy⟩ := C0
  intro H locs mls hW hS hL
  cases i
  case iconst n =>
    simp only [zst, zgo, Option.some.injEq, Prod.mk.injEq, Sum.inr.injEq, Sum.inl.injEq] at hst
    obtain ⟨-, rfl⟩ := hst
    simp only [zcq, Bool.and_eq_true, decide_eq_true_eq] at hcq
    have e1 := zlen hcq.1
    subst e1
    exact lv_iconst hx hb hdg hcq.2 (hk H locs mls hW hS hL)
  case bipush n =>
    simp only [zst, zgo, Option.some.injEq, Prod.mk.injEq, Sum.inr.injEq, Sum.inl.injEq] at hst
    obtain ⟨-, rfl⟩ := hst
    simp only [zcq, Bool.and_eq_true, decide_eq_true_eq] at hcq
    have e1 := zlen hcq.1
    subst e1
    exact lv_bipush hx hb hdg hcq.2 (hk H locs mls hW hS hL)
  case sipush n =>
    simp only [zst, zgo, Option.some.injEq, Prod.mk.injEq, Sum.inr.injEq, Sum.inl.injEq] at hst
    obtain ⟨-, rfl⟩ := hst
    simp only [zcq, Bool.and_eq_true, decide_eq_true_eq] at hcq
    have e1 := zlen hcq.1
    subst e1
    exact lv_sipush hx hb hdg hcq.2 (hk H locs mls hW hS hL)
  case lconst n =>
    simp only [zst, zgo, Option.some.injEq, Prod.mk.injEq, Sum.inr.injEq, Sum.inl.injEq] at hst
    obtain ⟨-, rfl⟩ := hst
    simp only [zcq, Bool.and_eq_true, decide_eq_true_eq] at hcq
    have e1 := zlen hcq.1
    subst e1
    exact lv_lconst hx hb hdg hcq.2 (hk H locs mls hW hS hL)
  case aconst_null =>
    simp only [zst, zgo, Option.some.injEq, Prod.mk.injEq, Sum.inr.injEq, Sum.inl.injEq] at hst
    obtain ⟨-, rfl⟩ := hst
    have e1 := zlen hcq
    subst e1
    exact lv_null hx hb hdg (hk H locs mls hW hS hL)
  case ldc idx =>
    simp only [zcq, Bool.and_eq_true] at hcq
    have e1 := zlen hcq.1
    subst e1
    cases aux with
    | zero => simp [zst] at hst
    | succ a =>
      simp only [zst] at hst
      cases hb9 : Nat.ble a 99 with
      | true =>
        rw [hb9] at hst
        simp only [zgo, Option.some.injEq, Prod.mk.injEq, Sum.inr.injEq, Sum.inl.injEq] at hst
        obtain ⟨-, rfl⟩ := hst
        have h2 := hcq.2
        rw [show Nat.ble (a + 1) 100 = true from Nat.ble_eq_true_of_le (by have := Nat.le_of_ble_eq_true hb9; omega)] at h2
        simp only [cond_true, Bool.and_eq_true] at h2
        exact zs_ldcS C1 hdg (zfind_eq h2.1) (hk H locs mls hW hS hL)
      | false =>
        rw [hb9] at hst
        simp only [zgo, Option.some.injEq, Prod.mk.injEq, Sum.inr.injEq, Sum.inl.injEq] at hst
        obtain ⟨-, rfl⟩ := hst
        have h2 := hcq.2
        rw [show Nat.ble (a + 1) 100 = false from by
          cases h7 : Nat.ble (a + 1) 100 with
          | false => rfl
          | true => rw [Nat.ble_eq_true_of_le (show a ≤ 99 by have := Nat.le_of_ble_eq_true h7; omega)] at hb9; cases hb9] at h2
        simp only [cond_false] at h2
        obtain ⟨k0, hw⟩ := zI_in (zfind_eq h2)
        have hlink := hts _ hw
        unfold zIw at hlink
        dsimp only at hlink
        rw [zown hy] at hlink
        exact lv_ldc hx hb ho hlink hdg (hk H locs mls hW hS hL)
  case ldc_w idx =>
    simp only [zcq, Bool.and_eq_true] at hcq
    have e1 := zlen hcq.1
    subst e1
    cases aux with
    | zero => simp [zst] at hst
    | succ a =>
      simp only [zst] at hst
      cases hb9 : Nat.ble a 99 with
      | true =>
        rw [hb9] at hst
        simp only [zgo, Option.some.injEq, Prod.mk.injEq, Sum.inr.injEq, Sum.inl.injEq] at hst
        obtain ⟨-, rfl⟩ := hst
        have h2 := hcq.2
        rw [show Nat.ble (a + 1) 100 = true from Nat.ble_eq_true_of_le (by have := Nat.le_of_ble_eq_true hb9; omega)] at h2
        simp only [cond_true, Bool.and_eq_true] at h2
        exact zs_ldcwS C1 hdg (zfind_eq h2.1) (hk H locs mls hW hS hL)
      | false =>
        rw [hb9] at hst
        simp only [zgo, Option.some.injEq, Prod.mk.injEq, Sum.inr.injEq, Sum.inl.injEq] at hst
        obtain ⟨-, rfl⟩ := hst
        have h2 := hcq.2
        rw [show Nat.ble (a + 1) 100 = false from by
          cases h7 : Nat.ble (a + 1) 100 with
          | false => rfl
          | true => rw [Nat.ble_eq_true_of_le (show a ≤ 99 by have := Nat.le_of_ble_eq_true h7; omega)] at hb9; cases hb9] at h2
        simp only [cond_false] at h2
        obtain ⟨k0, hw⟩ := zI_in (zfind_eq h2)
        have hlink := hts _ hw
        unfold zIw at hlink
        dsimp only at hlink
        rw [zown hy] at hlink
        exact lv_ldcw hx hb ho hlink hdg (hk H locs mls hW hS hL)
  case ldc2_w idx =>
    simp only [zst, zgo, Option.some.injEq, Prod.mk.injEq, Sum.inr.injEq, Sum.inl.injEq] at hst
    obtain ⟨-, rfl⟩ := hst
    simp only [zcq, Bool.and_eq_true] at hcq
    have e1 := zlen hcq.1
    subst e1
    obtain ⟨k0, hw⟩ := zL_in (zfind_eq hcq.2)
    have hlink := hts _ hw
    unfold zLw at hlink
    dsimp only at hlink
    rw [zown hy] at hlink
    exact lv_ldc2 hx hb ho hlink hdg (hk H locs mls hW hS hL)
  case iload_n k =>
    simp only [zst] at hst
    obtain ⟨x, hv, h⟩ := zldi_inv hst
    cases h
    have e1 := zlen hcq
    subst e1
    exact lv_iload_n hx hb hdg rfl (zLv_at hL hv (by simp)) (hk H locs mls hW hS hL)
  case iload k =>
    simp only [zst] at hst
    obtain ⟨x, hv, h⟩ := zldi_inv hst
    cases h
    have e1 := zlen hcq
    subst e1
    exact lv_iload hx hb hdg (zLv_at hL hv (by simp)) (hk H locs mls hW hS hL)
  case lload_n k =>
    simp only [zst] at hst
    obtain ⟨x, hv, h⟩ := zldl_inv hst
    cases h
    have e1 := zlen hcq
    subst e1
    exact lv_lload_n hx hb hdg rfl (zLv_at hL hv (by simp)) (hk H locs mls hW hS hL)
  case lload k =>
    simp only [zst] at hst
    obtain ⟨x, hv, h⟩ := zldl_inv hst
    cases h
    have e1 := zlen hcq
    subst e1
    exact lv_lload hx hb hdg (zLv_at hL hv (by simp)) (hk H locs mls hW hS hL)
  case aload_n k =>
    simp only [zst] at hst
    obtain ⟨v, hv, hr, h⟩ := zlda_inv hst
    cases h
    have e1 := zlen hcq
    subst e1
    rcases hr with ⟨a, rfl⟩ | ⟨a, rfl⟩ | rfl
    · exact lv_aload_n hx hb hdg rfl (zLv_at hL hv (by simp)) (hk H locs mls hW hS hL)
    · exact lv_aload_n hx hb hdg rfl (zLv_at hL hv (by simp)) (hk H locs mls hW hS hL)
    · exact lv_aload_nN hx hb hdg rfl (zLv_at hL hv (by simp)) (hk H locs mls hW hS hL)
  case aload k =>
    simp only [zst] at hst
    obtain ⟨v, hv, hr, h⟩ := zlda_inv hst
    cases h
    have e1 := zlen hcq
    subst e1
    rcases hr with ⟨a, rfl⟩ | ⟨a, rfl⟩ | rfl
    · exact lv_aload hx hb hdg (zLv_at hL hv (by simp)) (hk H locs mls hW hS hL)
    · exact lv_aload hx hb hdg (zLv_at hL hv (by simp)) (hk H locs mls hW hS hL)
    · exact lv_aloadN hx hb hdg (zLv_at hL hv (by simp)) (hk H locs mls hW hS hL)
  case istore_n k =>
    simp only [zst] at hst
    obtain ⟨x, r, rfl, h⟩ := z1_inv hst
    cases h
    simp only [zcq, Bool.and_eq_true] at hcq
    have e1 := zlen hcq.1
    subst e1
    exact lv_istore_n hx hb hdg rfl hL (Nat.le_of_ble_eq_true hcq.2) rfl (fun ls2 h2 => hk H locs ls2 hW hS (zst1_sub rfl h2))
  case istore k =>
    simp only [zst] at hst
    obtain ⟨x, r, rfl, h⟩ := z1_inv hst
    cases h
    simp only [zcq, Bool.and_eq_true] at hcq
    have e1 := zlen hcq.1
    subst e1
    exact lv_istore hx hb hdg hL (Nat.le_of_ble_eq_true hcq.2) rfl (fun ls2 h2 => hk H locs ls2 hW hS (zst1_sub rfl h2))
  case lstore_n k =>
    simp only [zst] at hst
    obtain ⟨x, r, rfl, h⟩ := z1l_inv hst
    cases h
    simp only [zcq, Bool.and_eq_true] at hcq
    have e1 := zlen hcq.1
    subst e1
    exact lv_lstore_n hx hb hdg rfl hL (Nat.le_of_ble_eq_true hcq.2) rfl (fun ls2 h2 => hk H locs ls2 hW hS (zst2_sub h2))
  case lstore k =>
    simp only [zst] at hst
    obtain ⟨x, r, rfl, h⟩ := z1l_inv hst
    cases h
    simp only [zcq, Bool.and_eq_true] at hcq
    have e1 := zlen hcq.1
    subst e1
    exact lv_lstore hx hb hdg hL (Nat.le_of_ble_eq_true hcq.2) rfl (fun ls2 h2 => hk H locs ls2 hW hS (zst2_sub h2))
  case astore_n k =>
    simp only [zst] at hst
    obtain ⟨v, r, rfl, hr, h⟩ := zsta_inv hst
    cases h
    simp only [zcq, Bool.and_eq_true] at hcq
    have e1 := zlen hcq.1
    subst e1
    rcases hr with ⟨a, rfl⟩ | ⟨a, rfl⟩ | rfl
    · exact lv_astore_n hx hb hdg rfl hL (Nat.le_of_ble_eq_true hcq.2) rfl (fun ls2 h2 => hk H locs ls2 hW hS (zst1_sub (v := .ref a) rfl h2))
    · exact lv_astore_n hx hb hdg rfl hL (Nat.le_of_ble_eq_true hcq.2) rfl (fun ls2 h2 => hk H locs ls2 hW hS (zst1_sub (v := .retAddr a) rfl h2))
    · exact lv_astore_nN hx hb hdg rfl hL (Nat.le_of_ble_eq_true hcq.2) rfl (fun ls2 h2 => hk H locs ls2 hW hS (zst1_sub (v := .null) rfl h2))
  case astore k =>
    simp only [zst] at hst
    obtain ⟨v, r, rfl, hr, h⟩ := zsta_inv hst
    cases h
    simp only [zcq, Bool.and_eq_true] at hcq
    have e1 := zlen hcq.1
    subst e1
    rcases hr with ⟨a, rfl⟩ | ⟨a, rfl⟩ | rfl
    · exact lv_astore hx hb hdg hL (Nat.le_of_ble_eq_true hcq.2) rfl (fun ls2 h2 => hk H locs ls2 hW hS (zst1_sub (v := .ref a) rfl h2))
    · exact lv_astore hx hb hdg hL (Nat.le_of_ble_eq_true hcq.2) rfl (fun ls2 h2 => hk H locs ls2 hW hS (zst1_sub (v := .retAddr a) rfl h2))
    · exact lv_astoreN hx hb hdg hL (Nat.le_of_ble_eq_true hcq.2) rfl (fun ls2 h2 => hk H locs ls2 hW hS (zst1_sub (v := .null) rfl h2))
  case iinc k n =>
    simp only [zst] at hst
    obtain ⟨x, hv, h⟩ := zldi_inv hst
    cases h
    simp only [zcq, Bool.and_eq_true, decide_eq_true_eq] at hcq
    have e1 := zlen hcq.1.1
    subst e1
    obtain ⟨q, hq⟩ := List.getElem?_of_mem (zll_mem (base := base) (ad := ad).mpr ⟨k, by rw [hv]; simp, rfl⟩)
    rw [hv] at hq
    exact lv_iinc hx hb hdg hL hq (by rw [hcq.2]) (Nat.le_of_ble_eq_true hcq.1.2) rfl (fun ls2 h2 => hk H locs ls2 hW hS (zst1_sub (v := .int (x + zicT aux)) rfl h2))
  case iadd =>
    simp only [zst] at hst
    obtain ⟨x, w, r, rfl, h⟩ := z2_inv hst
    cases h
    have e1 := zlen hcq
    subst e1
    exact lv_iadd hx hb hdg (hk H locs mls hW hS hL)
  case isub =>
    simp only [zst] at hst
    obtain ⟨x, w, r, rfl, h⟩ := z2_inv hst
    cases h
    have e1 := zlen hcq
    subst e1
    exact lv_isub hx hb hdg (hk H locs mls hW hS hL)
  case imul =>
    simp only [zst] at hst
    obtain ⟨x, w, r, rfl, h⟩ := z2_inv hst
    cases h
    have e1 := zlen hcq
    subst e1
    exact lv_imul hx hb hdg (hk H locs mls hW hS hL)
  case iand =>
    simp only [zst] at hst
    obtain ⟨x, w, r, rfl, h⟩ := z2_inv hst
    cases h
    have e1 := zlen hcq
    subst e1
    exact lv_iand hx hb hdg (hk H locs mls hW hS hL)
  case ior =>
    simp only [zst] at hst
    obtain ⟨x, w, r, rfl, h⟩ := z2_inv hst
    cases h
    have e1 := zlen hcq
    subst e1
    exact lv_ior hx hb hdg (hk H locs mls hW hS hL)
  case ixor =>
    simp only [zst] at hst
    obtain ⟨x, w, r, rfl, h⟩ := z2_inv hst
    cases h
    have e1 := zlen hcq
    subst e1
    exact lv_ixor hx hb hdg (hk H locs mls hW hS hL)
  case ishl =>
    simp only [zst] at hst
    obtain ⟨x, w, r, rfl, h⟩ := z2_inv hst
    cases h
    have e1 := zlen hcq
    subst e1
    exact lv_ishl hx hb hdg (hk H locs mls hW hS hL)
  case ishr =>
    simp only [zst] at hst
    obtain ⟨x, w, r, rfl, h⟩ := z2_inv hst
    cases h
    have e1 := zlen hcq
    subst e1
    exact lv_ishr hx hb hdg (hk H locs mls hW hS hL)
  case idiv =>
    simp only [zst] at hst
    obtain ⟨x, w, r, rfl, h⟩ := z2_inv hst
    cases h
    have e1 := zlen hcq
    subst e1
    exact lv_idiv hx hb hdg hg (hk H locs mls hW hS hL)
  case irem =>
    simp only [zst] at hst
    obtain ⟨x, w, r, rfl, h⟩ := z2_inv hst
    cases h
    have e1 := zlen hcq
    subst e1
    exact lv_irem hx hb hdg hg (hk H locs mls hW hS hL)
  case ladd =>
    simp only [zst] at hst
    obtain ⟨x, w, r, rfl, h⟩ := z2l_inv hst
    cases h
    have e1 := zlen hcq
    subst e1
    exact lv_ladd hx hb hdg (hk H locs mls hW hS hL)
  case lsub =>
    simp only [zst] at hst
    obtain ⟨x, w, r, rfl, h⟩ := z2l_inv hst
    cases h
    have e1 := zlen hcq
    subst e1
    exact lv_lsub hx hb hdg (hk H locs mls hW hS hL)
  case lmul =>
    simp only [zst] at hst
    obtain ⟨x, w, r, rfl, h⟩ := z2l_inv hst
    cases h
    have e1 := zlen hcq
    subst e1
    exact lv_lmul hx hb hdg (hk H locs mls hW hS hL)
  case land =>
    simp only [zst] at hst
    obtain ⟨x, w, r, rfl, h⟩ := z2l_inv hst
    cases h
    have e1 := zlen hcq
    subst e1
    exact lv_land hx hb hdg (hk H locs mls hW hS hL)
  case lor =>
    simp only [zst] at hst
    obtain ⟨x, w, r, rfl, h⟩ := z2l_inv hst
    cases h
    have e1 := zlen hcq
    subst e1
    exact lv_lor hx hb hdg (hk H locs mls hW hS hL)
  case ldiv =>
    simp only [zst] at hst
    obtain ⟨x, w, r, rfl, h⟩ := z2l_inv hst
    cases h
    have e1 := zlen hcq
    subst e1
    exact lv_ldiv hx hb hdg hg (hk H locs mls hW hS hL)
  case lrem =>
    simp only [zst] at hst
    obtain ⟨x, w, r, rfl, h⟩ := z2l_inv hst
    cases h
    have e1 := zlen hcq
    subst e1
    exact lv_lrem hx hb hdg hg (hk H locs mls hW hS hL)
  case lcmp =>
    simp only [zst] at hst
    obtain ⟨x, w, r, rfl, h⟩ := z2l_inv hst
    cases h
    have e1 := zlen hcq
    subst e1
    exact W.lcmp hx hb hdg (hk H locs mls hW hS hL)
  case ineg =>
    simp only [zst] at hst
    obtain ⟨x, r, rfl, h⟩ := z1_inv hst
    cases h
    have e1 := zlen hcq
    subst e1
    exact lv_ineg hx hb hdg (hk H locs mls hW hS hL)
  case i2l =>
    simp only [zst] at hst
    obtain ⟨x, r, rfl, h⟩ := z1_inv hst
    cases h
    have e1 := zlen hcq
    subst e1
    exact lv_i2l hx hb hdg rfl (hk H locs mls hW hS hL)
  case i2b =>
    simp only [zst] at hst
    obtain ⟨x, r, rfl, h⟩ := z1_inv hst
    cases h
    have e1 := zlen hcq
    subst e1
    exact lv_i2b hx hb hdg rfl (hk H locs mls hW hS hL)
  case i2c =>
    simp only [zst] at hst
    obtain ⟨x, r, rfl, h⟩ := z1_inv hst
    cases h
    have e1 := zlen hcq
    subst e1
    exact lv_i2c hx hb hdg rfl (hk H locs mls hW hS hL)
  case l2i =>
    simp only [zst] at hst
    obtain ⟨x, r, rfl, h⟩ := z1l_inv hst
    cases h
    have e1 := zlen hcq
    subst e1
    exact lv_l2i hx hb hdg rfl (hk H locs mls hW hS hL)
  case dup =>
    simp only [zst] at hst
    obtain ⟨v, r, rfl, hv, h⟩ := zdup_inv hst
    cases h
    have e1 := zlen hcq
    subst e1
    exact lv_dup hx hb hdg (by rw [ztr_cat, zwide_cat, hv]; rfl) (hk H locs mls hW hS hL)
  case pop =>
    simp only [zst] at hst
    obtain ⟨v, r, rfl, hv, h⟩ := zdup_inv hst
    cases h
    have e1 := zlen hcq
    subst e1
    exact lv_pop hx hb hdg (by rw [ztr_cat, zwide_cat, hv]; rfl) (hk H locs mls hW hS hL)
  case dup2 =>
    simp only [zst] at hst
    obtain ⟨v, w, r, rfl, hv, hw, h⟩ := zdup2_inv hst
    cases h
    have e1 := zlen hcq
    subst e1
    exact lv_dup2_11 hx hb hdg (by rw [ztr_cat, zwide_cat, hv]; rfl) (by rw [ztr_cat, zwide_cat, hw]; rfl) (hk H locs mls hW hS hL)
  case goto off =>
    simp only [zst, zgo, Option.some.injEq, Prod.mk.injEq, Sum.inr.injEq, Sum.inl.injEq] at hst
    obtain ⟨-, rfl⟩ := hst
    simp only [zcq, Bool.and_eq_true, decide_eq_true_eq] at hcq
    have e1 := zlen hcq.1
    subst e1
    exact lv_goto hx hb hdg hcq.2 (hk H locs mls hW hS hL)
  case ifCond cnd off =>
    simp only [zst] at hst
    obtain ⟨x, r, rfl, h⟩ := z1_inv hst
    cases h
    simp only [zcq, Bool.and_eq_true, decide_eq_true_eq] at hcq
    have e1 := zlen hcq.1
    subst e1
    have hk2 := hk H locs mls hW hS hL
    dsimp only [zif] at hk2
    cases cnd
    · exact lv_if_eq hx hb hdg hcq.2 (fun h => by rw [if_pos (show zbr .eq x 0 from h)] at hk2; exact hk2) (fun h => by rw [if_neg (show ¬ zbr .eq x 0 from h)] at hk2; exact hk2)
    · exact lv_if_ne hx hb hdg hcq.2 (fun h => by rw [if_pos (show zbr .ne x 0 from h)] at hk2; exact hk2) (fun h => by rw [if_neg (show ¬ zbr .ne x 0 from fun g => g h)] at hk2; exact hk2)
    · exact lv_if_lt hx hb hdg hcq.2 (fun h => by rw [if_pos (show zbr .lt x 0 from h)] at hk2; exact hk2) (fun h => by rw [if_neg (show ¬ zbr .lt x 0 from h)] at hk2; exact hk2)
    · exact lv_if_ge hx hb hdg hcq.2 (fun h => by rw [if_pos (show zbr .ge x 0 from h)] at hk2; exact hk2) (fun h => by rw [if_neg (show ¬ zbr .ge x 0 from h)] at hk2; exact hk2)
    · exact lv_if_gt hx hb hdg hcq.2 (fun h => by rw [if_pos (show zbr .gt x 0 from h)] at hk2; exact hk2) (fun h => by rw [if_neg (show ¬ zbr .gt x 0 from h)] at hk2; exact hk2)
    · exact lv_if_le hx hb hdg hcq.2 (fun h => by rw [if_pos (show zbr .le x 0 from h)] at hk2; exact hk2) (fun h => by rw [if_neg (show ¬ zbr .le x 0 from h)] at hk2; exact hk2)
  case if_icmp cnd off =>
    simp only [zst] at hst
    obtain ⟨x, w, r, rfl, h⟩ := z2_inv hst
    cases h
    simp only [zcq, Bool.and_eq_true, decide_eq_true_eq] at hcq
    have e1 := zlen hcq.1
    subst e1
    have hk2 := hk H locs mls hW hS hL
    dsimp only [zif] at hk2
    cases cnd
    · exact lv_icmp_eq hx hb hdg hcq.2 (fun h => by rw [if_pos (show zbr .eq x w from h)] at hk2; exact hk2) (fun h => by rw [if_neg (show ¬ zbr .eq x w from h)] at hk2; exact hk2)
    · exact lv_icmp_ne hx hb hdg hcq.2 (fun h => by rw [if_pos (show zbr .ne x w from h)] at hk2; exact hk2) (fun h => by rw [if_neg (show ¬ zbr .ne x w from fun g => g h)] at hk2; exact hk2)
    · exact lv_icmp_lt hx hb hdg hcq.2 (fun h => by rw [if_pos (show zbr .lt x w from h)] at hk2; exact hk2) (fun h => by rw [if_neg (show ¬ zbr .lt x w from h)] at hk2; exact hk2)
    · exact lv_icmp_ge hx hb hdg hcq.2 (fun h => by rw [if_pos (show zbr .ge x w from h)] at hk2; exact hk2) (fun h => by rw [if_neg (show ¬ zbr .ge x w from h)] at hk2; exact hk2)
    · exact lv_icmp_gt hx hb hdg hcq.2 (fun h => by rw [if_pos (show zbr .gt x w from h)] at hk2; exact hk2) (fun h => by rw [if_neg (show ¬ zbr .gt x w from h)] at hk2; exact hk2)
    · exact lv_icmp_le hx hb hdg hcq.2 (fun h => by rw [if_pos (show zbr .le x w from h)] at hk2; exact hk2) (fun h => by rw [if_neg (show ¬ zbr .le x w from h)] at hk2; exact hk2)
  case ifnonnull off =>
    simp only [zcq, Bool.and_eq_true, decide_eq_true_eq] at hcq
    have e1 := zlen hcq.1
    subst e1
    simp only [zst] at hst
    rcases znull_inv hst with ⟨r, rfl, h⟩ | ⟨a, r, rfl, h⟩
    · cases h
      exact lv_ifnonnullN hx hb hdg (hk H locs mls hW hS hL)
    · cases h
      exact lv_ifnonnull hx hb hdg hcq.2 (hk H locs mls hW hS hL)
  case tableswitch df lo hi offs =>
    simp only [zst] at hst
    obtain ⟨x, r, rfl, h⟩ := z1_inv hst
    cases h
    simp only [zcq, Bool.and_eq_true, decide_eq_true_eq] at hcq
    obtain ⟨⟨h1, h2⟩, h3⟩ := hcq
    have hk2 := hk H locs mls hW hS hL
    dsimp only [zsw] at hk2
    by_cases hr : x.toInt < lo ∨ hi < x.toInt
    · rw [if_pos hr] at hk2
      exact lv_tableOut hx hb hdg hr (Int.toNat_of_nonneg h1).symm hk2
    · rw [if_neg hr] at hk2
      have hlo : ¬ x.toInt < lo := fun h => hr (Or.inl h)
      have hhi : ¬ hi < x.toInt := fun h => hr (Or.inr h)
      have hlt : (x.toInt - lo).toNat < offs.size := by omega
      have hget : offs[(x.toInt - lo).toNat]? = some (offs.getD (x.toInt - lo).toNat df) := by
        rw [Array.getD_eq_getD_getElem?, Array.getElem?_eq_getElem hlt]
        rfl
      have h4 : 0 ≤ (pc : Int) + offs.getD (x.toInt - lo).toNat df := by
        have h5 := Array.all_eq_true.mp h2 _ hlt
        simp only [decide_eq_true_eq] at h5
        rw [Array.getD_eq_getD_getElem?, Array.getElem?_eq_getElem hlt]
        exact h5
      exact lv_tableIn hx hb hdg hlo hhi hget (Int.toNat_of_nonneg h4).symm hk2
  case lookupswitch df ps =>
    simp only [zst] at hst
    obtain ⟨x, r, rfl, h⟩ := z1_inv hst
    cases h
    simp only [zcq, Bool.and_eq_true, decide_eq_true_eq] at hcq
    obtain ⟨⟨h1, h2⟩, h3⟩ := hcq
    have hk2 := hk H locs mls hW hS hL
    dsimp only [zlk] at hk2
    have h4 : 0 ≤ (pc : Int) + Op.lookupswitch.offset ps.toList df x.toInt := zlk_off _ _ h1 (fun q hq => by
      obtain ⟨k, hk3, hk4⟩ := List.mem_iff_getElem.mp hq
      have h5 := Array.all_eq_true.mp h2 k (by simpa using hk3)
      simp only [decide_eq_true_eq] at h5
      rw [← hk4]
      exact h5)
    exact lv_lookup hx hb hdg (by simpa using h3) rfl (Int.toNat_of_nonneg h4).symm hk2
  case getfield idx =>
    simp only [zcq, Bool.and_eq_true] at hcq
    obtain ⟨⟨e1, hl⟩, h3⟩ := hcq
    have e1 := zlen e1
    subst e1
    have hl := zfind_eq hl
    simp only [zst] at hst
    split at hst
    · rename_i a r
      simp only [zgo, Option.some.injEq, Prod.mk.injEq, Sum.inr.injEq, Sum.inl.injEq] at hst
      obtain ⟨rfl, rfl⟩ := hst
      have hg2 := zall_cons.mp hg
      have hlt := zis_lt hg2.1
      simp only [Bool.or_eq_true, Bool.and_eq_true] at h3
      have h4 : Nat.blt (aux / 100) 13 = true ∧ Nat.blt (aux % 100) (znf (aux / 100)) = true := by
        rcases h3 with (h3 | h3) | h3
        · have := zlen h3; omega
        · have := zlen h3; omega
        · exact h3
      have g1 : aux / 100 < 13 := Nat.le_of_ble_eq_true h4.1
      have g2 : aux % 100 < znf (aux / 100) := Nat.le_of_ble_eq_true h4.2
      have hk2 := hk H locs mls hW hS hL
      refine zs_getf C1 hW hdg hl g1 g2 (by omega) hg2.1 (v := ztr base ad (zfv M a (aux % 100) (zft (aux / 100) (aux % 100)))) ?_ hk2
      exact zfv_tr (zft_ok _ g1 _ g2) hg2.2
    · rename_i j r
      cases hb9 : Nat.ble 100000 aux with
      | false => rw [hb9] at hst; simp at hst
      | true =>
        rw [hb9] at hst
        simp only [zgo, Option.some.injEq, Prod.mk.injEq, Sum.inr.injEq, Sum.inl.injEq] at hst
        obtain ⟨rfl, rfl⟩ := hst
        have hj : j < znS := hg
        have hge := Nat.le_of_ble_eq_true hb9
        simp only [Bool.or_eq_true, Bool.and_eq_true] at h3
        have h4 : aux = 100000 ∨ aux = 100001 := by
          rcases h3 with (h3 | h3) | h3
          · exact Or.inl (zlen h3)
          · exact Or.inr (zlen h3)
          · have : aux / 100 < 13 := Nat.le_of_ble_eq_true h3.1
            omega
        have hk2 := hk H locs mls hW hS hL
        refine zs_getfX C1 hS hdg hl h4 hj ?_
        rcases h4 with rfl | rfl
        · exact hk2
        · exact hk2
    · cases hst
  case putfield idx =>
    simp only [zcq, Bool.and_eq_true] at hcq
    obtain ⟨⟨⟨⟨e1, hl⟩, g1⟩, g2⟩, g3⟩ := hcq
    have e1 := zlen e1
    subst e1
    have hl := zfind_eq hl
    have g1 : aux / 100 < 13 := Nat.le_of_ble_eq_true g1
    have g2 : aux % 100 < znf (aux / 100) := Nat.le_of_ble_eq_true g2
    have hfin : (zcT (aux / 100) (aux % 100)).2.2.2 = true → (zyn y).name = "<init>" ∧ zoc y = aux / 100 := by
      intro hf
      rw [hf] at g3
      simp only [Bool.not_true, Bool.false_or, Bool.and_eq_true, decide_eq_true_eq] at g3
      exact ⟨g3.1, zlen g3.2⟩
    have hty := zft_ok _ g1 _ g2
    simp only [zst] at hst
    unfold zfp at hst
    split at hst
    · rename_i t x a r ht
      cases hst
      rw [ht] at hty
      have hy2 := zfk_0 hty
      have hg2 := zall_cons.mp hg
      exact zs_putf (M' := zsI M a (aux % 100) x) C1 hW hS hdg hl g1 g2 hfin hg2.1 rfl (fun b hb => zen_cong (zup_ne hb) rfl rfl) (by rw [ht]; exact zfwI rfl) (fun j hj t => zfwIn hj) (by rw [hy2]; rfl) (by rw [hy2]; rfl) (fun H1 locs1 hW1 hS1 => hk H1 locs1 mls hW1 hS1 hL)
    · rename_i t x a r ht
      cases hst
      rw [ht] at hty
      have hy2 := zfk_1 hty
      have hg2 := zall_cons.mp hg
      exact zs_putf (M' := zsL M a (aux % 100) x) C1 hW hS hdg hl g1 g2 hfin hg2.1 rfl (fun b hb => zen_cong rfl (zup_ne hb) rfl) (by rw [ht]; exact zfwL rfl) (fun j hj t => zfwLn hj) (by rw [hy2]; rfl) (by rw [hy2]; rfl) (fun H1 locs1 hW1 hS1 => hk H1 locs1 mls hW1 hS1 hL)
    · rename_i t b a r ht
      cases hst
      rw [ht] at hty
      have hg2 := zall_cons.mp hg
      have hr : b < zNul := hg2.2
      exact zs_putf (M' := zsR M a (aux % 100) b) C1 hW hS hdg hl g1 g2 hfin hg2.1 rfl (fun b hb => zen_cong rfl rfl (zup_ne hb)) (by rw [ht]; exact zfwR hr) (fun j hj t => zfwRn hj) (zfk_2 hty).1 (zfk_2 hty).2 (fun H1 locs1 hW1 hS1 => hk H1 locs1 mls hW1 hS1 hL)
    · rename_i t x a r ht
      cases hst
      rw [ht] at hty
      have hy2 := zfk_3 hty
      have hg2 := zall_cons.mp hg
      have hx2 : x = 0 ∨ x = 1 := hg2.2
      exact zs_putf (M' := zsI M a (aux % 100) x) C1 hW hS hdg hl g1 g2 hfin hg2.1 rfl (fun b hb => zen_cong (zup_ne hb) rfl rfl) (by rw [ht]; exact zfwI3) (fun j hj t => zfwIn hj) (by rw [hy2]; rcases hx2 with rfl | rfl <;> rfl) (by rw [hy2]; rcases hx2 with rfl | rfl <;> rfl) (fun H1 locs1 hW1 hS1 => hk H1 locs1 mls hW1 hS1 hL)
    · cases hst
  case getstatic idx =>
    simp only [zst, zgo, Option.some.injEq, Prod.mk.injEq, Sum.inr.injEq, Sum.inl.injEq] at hst
    obtain ⟨-, rfl⟩ := hst
    simp only [zcq, Bool.and_eq_true, Bool.or_eq_true] at hcq
    obtain ⟨⟨e1, hl⟩, h3⟩ := hcq
    have e1 := zlen e1
    subst e1
    have hk2 := hk H locs mls hW hS hL
    refine zs_gets C1 hS hdg (zfind_eq hl) (h3.imp Nat.le_of_ble_eq_true zlen) ?_
    by_cases h12 : aux = 12
    · subst h12
      exact hk2
    · cases aux with
      | zero => exact hk2
      | succ a =>
        rw [if_neg (by omega), if_neg h12, show 59 + (a + 1) = 60 + a by omega]
        dsimp only at hk2
        split at hk2
        · omega
        · omega
        · rename_i a' _ h9
          have : a' = a := by omega
          subst this
          exact hk2
  case iaload =>
    have e1 := zlen hcq
    subst e1
    simp only [zst] at hst
    rcases zald_inv hst with ⟨x, a, r, rfl, h⟩ | ⟨x, a, r, rfl, h⟩
    · cases h
      exact zs_iald C1 hW hdg hg.1 hg.2 (hk H locs mls hW hS hL)
    · cases h
      exact zs_ialdX C1 hS hdg hg.1 hg.2.1 hg.2.2 (hk H locs mls hW hS hL)
  case baload =>
    simp only [zcq, Bool.and_eq_true, Bool.or_eq_true] at hcq
    have e1 := zlen hcq.1
    subst e1
    simp only [zst] at hst
    rcases zald_inv hst with ⟨x, a, r, rfl, h⟩ | ⟨x, a, r, rfl, h⟩
    · cases h
      rcases hcq.2 with h2 | h2
      · have e2 := zlen h2
        subst e2
        exact zs_bald C1 hW hdg hg.1 hg.2 (hk H locs mls hW hS hL)
      · have e2 := zlen h2
        subst e2
        exact zs_zald C1 hW hdg hg.1 hg.2 (hk H locs mls hW hS hL)
    · cases h
      exact zs_baldX C1 hS hdg hg.1 hg.2.1 hg.2.2 (hk H locs mls hW hS hL)
  case laload =>
    have e1 := zlen hcq
    subst e1
    simp only [zst] at hst
    rcases zald_inv hst with ⟨x, a, r, rfl, h⟩ | ⟨x, a, r, rfl, h⟩
    · cases h
      exact zs_lald C1 hW hdg hg.1 hg.2 (hk H locs mls hW hS hL)
    · cases h
  case aaload =>
    simp only [zcq, Bool.and_eq_true] at hcq
    obtain ⟨⟨e1, h1⟩, h2⟩ := hcq
    have e1 := zlen e1
    subst e1
    simp only [zst] at hst
    rcases zald_inv hst with ⟨x, a, r, rfl, h⟩ | ⟨x, a, r, rfl, h⟩
    · cases h
      exact zs_qald C1 hW hdg (Nat.le_of_ble_eq_true h1) (Nat.le_of_ble_eq_true h2) hg.1 hg.2.1 hg.2.2 (hk H locs mls hW hS hL)
    · cases h
  case iastore =>
    have e1 := zlen hcq
    subst e1
    simp only [zst] at hst
    obtain ⟨v, x, a, r, rfl, h⟩ := zast_inv hst
    cases h
    exact zs_iast C1 hW hS hdg hg.1 hg.2 (fun H1 locs1 hW1 hS1 => hk H1 locs1 mls hW1 hS1 hL)
  case bastore =>
    simp only [zcq, Bool.and_eq_true, Bool.or_eq_true] at hcq
    have e1 := zlen hcq.1
    subst e1
    simp only [zst] at hst
    obtain ⟨v, x, a, r, rfl, h⟩ := zast_inv hst
    cases h
    rcases hcq.2 with h2 | h2
    · have e2 := zlen h2
      subst e2
      exact zs_bast C1 hW hS hdg hg.1 hg.2 (fun H1 locs1 hW1 hS1 => hk H1 locs1 mls hW1 hS1 hL)
    · have e2 := zlen h2
      subst e2
      exact zs_zast C1 hW hS hdg hg.1 hg.2 (fun H1 locs1 hW1 hS1 => hk H1 locs1 mls hW1 hS1 hL)
  case lastore =>
    have e1 := zlen hcq
    subst e1
    simp only [zst] at hst
    obtain ⟨v, x, a, r, rfl, h⟩ := zastl_inv hst
    cases h
    exact zs_last C1 hW hS hdg hg.1 hg.2 (fun H1 locs1 hW1 hS1 => hk H1 locs1 mls hW1 hS1 hL)
  case aastore =>
    simp only [zcq, Bool.and_eq_true] at hcq
    obtain ⟨⟨e1, h1⟩, h2⟩ := hcq
    have e1 := zlen e1
    subst e1
    simp only [zst] at hst
    obtain ⟨v, x, a, r, rfl, h⟩ := zasta_inv hst
    cases h
    exact zs_qast C1 hW hS hdg (Nat.le_of_ble_eq_true h1) (Nat.le_of_ble_eq_true h2) hg.1 hg.2.1 hg.2.2.1 hg.2.2.2 (fun H1 locs1 hW1 hS1 => hk H1 locs1 mls hW1 hS1 hL)
  case arraylength =>
    have e1 := zlen hcq
    subst e1
    simp only [zst] at hst
    split at hst
    · cases hst
      exact zs_alen C1 hW hdg hg.1 hg.2.1 hg.2.2 (hk H locs mls hW hS hL)
    · cases hst
      exact zs_alenX C1 hS hdg hg (hk H locs mls hW hS hL)
    · cases hst
  case new idx =>
    simp only [zcq, Bool.and_eq_true] at hcq
    obtain ⟨⟨e1, hl⟩, h1⟩ := hcq
    have e1 := zlen e1
    subst e1
    simp only [zst, zgo, Option.some.injEq, Prod.mk.injEq, Sum.inr.injEq, Sum.inl.injEq] at hst
    obtain ⟨rfl, rfl⟩ := hst
    have h1 : aux < 13 := Nat.le_of_ble_eq_true h1
    have hz9 : zln M.2.2.2 = znf aux := by unfold zln; rw [hg.2]
    have r1 : M.2.2.2 + 1 - z0 ≤ R.cells := hroom.1
    have r2 : zss (M.2.2.2 + 1) - zss z0 ≤ R.slots := hroom.2
    have hm9 := zss_mono hz0
    rw [zss_succ, hz9] at r2
    refine zs_new C1 hW hS hdg (zfind_eq hl) h1 hg.2 (by show M.2.2.2 - z0 + 1 ≤ _; omega) (by show zss M.2.2.2 - zss z0 + _ ≤ _; omega) (fun H1 hW1 hS1 => ?_)
    exact W.cs (by show M.2.2.2 - z0 + 1 = M.2.2.2 + 1 - z0; omega) (by show zss M.2.2.2 - zss z0 + znf aux = zss (M.2.2.2 + 1) - zss z0; rw [zss_succ, hz9]; omega) (hk H1 locs mls hW1 hS1 hL)
  case newarray t =>
    simp only [zcq, Bool.and_eq_true] at hcq
    have e1 := zlen hcq.1
    subst e1
    simp only [zst] at hst
    obtain ⟨n, r, rfl, h⟩ := z1_inv hst
    cases h
    have ht : zty aux = newarray.typeOf t ∧ 20 ≤ aux ∧ aux ≤ 23 := by
      have h2 := hcq.2
      cases t <;> first | (cases h2; done) | (have e2 := zlen h2; subst e2; exact ⟨rfl, by decide, by decide⟩)
    have hz9 : zln M.2.2.2 = n.toNatClampNeg := by unfold zln; rw [hg.2.2]
    have r1 : M.2.2.2 + 1 - z0 ≤ R.cells := hroom.1
    have r2 : zss (M.2.2.2 + 1) - zss z0 ≤ R.slots := hroom.2
    have hm9 := zss_mono hz0
    rw [zss_succ, hz9] at r2
    refine zs_newa C1 hW hS hdg ht.1 ht.2.1 ht.2.2 hg.1 hg.2.1 hg.2.2 (by show M.2.2.2 - z0 + 1 ≤ _; omega) (by show zss M.2.2.2 - zss z0 + _ ≤ _; omega) (fun H1 hW1 hS1 => ?_)
    exact W.cs (by show M.2.2.2 - z0 + 1 = M.2.2.2 + 1 - z0; omega) (by show zss M.2.2.2 - zss z0 + n.toNatClampNeg = zss (M.2.2.2 + 1) - zss z0; rw [zss_succ, hz9]; omega) (hk H1 locs mls hW1 hS1 hL)
  case anewarray idx =>
    simp only [zcq, Bool.and_eq_true] at hcq
    obtain ⟨⟨⟨e1, hl⟩, h1⟩, h2⟩ := hcq
    have e1 := zlen e1
    subst e1
    simp only [zst] at hst
    obtain ⟨n, r, rfl, h⟩ := z1_inv hst
    cases h
    have hz9 : zln M.2.2.2 = n.toNatClampNeg := by unfold zln; rw [hg.2.2]
    have r1 : M.2.2.2 + 1 - z0 ≤ R.cells := hroom.1
    have r2 : zss (M.2.2.2 + 1) - zss z0 ≤ R.slots := hroom.2
    have hm9 := zss_mono hz0
    rw [zss_succ, hz9] at r2
    refine zs_newq C1 hW hS hdg (zfind_eq hl) (Nat.le_of_ble_eq_true h1) (Nat.le_of_ble_eq_true h2) hg.1 hg.2.1 hg.2.2 (by show M.2.2.2 - z0 + 1 ≤ _; omega) (by show zss M.2.2.2 - zss z0 + _ ≤ _; omega) (fun H1 hW1 hS1 => ?_)
    exact W.cs (by show M.2.2.2 - z0 + 1 = M.2.2.2 + 1 - z0; omega) (by show zss M.2.2.2 - zss z0 + n.toNatClampNeg = zss (M.2.2.2 + 1) - zss z0; rw [zss_succ, hz9]; omega) (hk H1 locs mls hW1 hS1 hL)
  case multianewarray idx dm =>
    simp only [zcq, Bool.and_eq_true] at hcq
    obtain ⟨⟨e1, e2⟩, hl⟩ := hcq
    have e1 := zlen e1
    subst e1
    have e2 := zlen e2
    subst e2
    simp only [zst] at hst
    obtain ⟨n, k, r, rfl, h⟩ := z2_inv hst
    cases h
    obtain ⟨g1, g2, g3, g4, g5, hk3⟩ := hg
    have hz9 : zln M.2.2.2 = n.toNatClampNeg := by unfold zln; rw [g4]
    have hrows : zss (M.2.2.2 + 1 + n.toNatClampNeg) = zss M.2.2.2 + n.toNatClampNeg + n.toNatClampNeg * k.toNatClampNeg := by
      rw [zss_rows n.toNatClampNeg k.toNatClampNeg (M.2.2.2 + 1) (fun j hj => by unfold zln; rw [g5 j hj]), zss_succ, hz9]
    have r1 : M.2.2.2 + 1 + n.toNatClampNeg - z0 ≤ R.cells := hroom.1
    have r2 : zss (M.2.2.2 + 1 + n.toNatClampNeg) - zss z0 ≤ R.slots := hroom.2
    have hm9 := zss_mono hz0
    rw [hrows] at r2
    refine zs_newm C1 hW hS hdg (zfind_eq hl) g1 g2 g3 g4 g5 (Or.inl hk3) (by show M.2.2.2 - z0 + (1 + _) ≤ _; omega) (by show zss M.2.2.2 - zss z0 + _ ≤ _; omega) (fun H1 hW1 hS1 => ?_)
    exact W.cs (by show M.2.2.2 - z0 + 1 + n.toNatClampNeg = M.2.2.2 + 1 + n.toNatClampNeg - z0; omega) (by show zss M.2.2.2 - zss z0 + n.toNatClampNeg + n.toNatClampNeg * k.toNatClampNeg = zss (M.2.2.2 + 1 + n.toNatClampNeg) - zss z0; rw [hrows]; omega) (hk H1 locs mls hW1 hS1 hL)
  case invokestatic idx =>
    simp only [zcq, Bool.and_eq_true] at hcq
    have e1 := zlen hcq.1
    subst e1
    have h2 := hcq.2
    simp only [zst] at hst
    cases hb9 : Nat.beq aux 9998 with
    | true =>
      rw [hb9] at hst
      have e2 := zlen hb9
      subst e2
      have h2 := (show (zfind zML (zoc y) idx == some 9998 && true) = true from h2)
      have h2 : zfind zML (zoc y) idx = some 9998 := zfind_eq (by rw [Bool.and_true] at h2; exact h2)
      dsimp only at hst
      obtain ⟨a, sp, b, dp, n, r, rfl, h⟩ := zcpy_inv hst
      split at h
      · rename_i hr
        cases h
        obtain ⟨g1, g2, g3, g4, g5, g6, g7, g8⟩ := hg
        exact zs_copy C1 hW hS hL.1 hdg h2 g1 g2 g3 g4 g5 g6 g7 g8 hd (by rw [zcat_sum]; exact Nat.le_of_ble_eq_true hr) (fun H1 locs1 hW1 hS1 => hk H1 locs1 mls hW1 hS1 hL)
      · cases h
    | false =>
      rw [hb9] at hst
      dsimp only at hst
      cases hb8 : Nat.beq aux 9990 with
      | true =>
        rw [hb8] at hst
        have e2 := zlen hb8
        subst e2
        have h2 := (show (zfind zML (zoc y) idx == some 9990 && true) = true from h2)
        have h2 : zfind zML (zoc y) idx = some 9990 := zfind_eq (by rw [Bool.and_true] at h2; exact h2)
        dsimp only at hst
        obtain ⟨x, w, r, rfl, h⟩ := z2_inv hst
        obtain ⟨hr, h⟩ := zsm_inv h
        cases h
        obtain ⟨k0, hw⟩ := zM_in h2
        have hlink := hts _ hw
        unfold zMw at hlink
        dsimp only at hlink
        rw [zown hy, show zMn 9990 = Lib.Math.min.name from rfl] at hlink
        exact va_mmin hx hb (by rw [hml]; exact hL.1.symm) ho hlink (hts _ zmath_in.1.1) (hts _ zmath_in.2.2.2) (hts _ zmath_in.1.2) (by omega) (by rw [zcat_sum]; omega) (by exact hroom.1) (by exact hroom.2) hdg (hk H locs mls hW hS hL)
      | false =>
        rw [hb8] at hst
        dsimp only at hst
        cases hb7 : Nat.beq aux 9991 with
        | true =>
          rw [hb7] at hst
          have e2 := zlen hb7
          subst e2
          have h2 := (show (zfind zML (zoc y) idx == some 9991 && true) = true from h2)
          have h2 : zfind zML (zoc y) idx = some 9991 := zfind_eq (by rw [Bool.and_true] at h2; exact h2)
          dsimp only at hst
          obtain ⟨x, w, r, rfl, h⟩ := z2_inv hst
          obtain ⟨hr, h⟩ := zsm_inv h
          cases h
          obtain ⟨k0, hw⟩ := zM_in h2
          have hlink := hts _ hw
          unfold zMw at hlink
          dsimp only at hlink
          rw [zown hy, show zMn 9991 = Lib.Math.max.name from rfl] at hlink
          exact va_mmax hx hb (by rw [hml]; exact hL.1.symm) ho hlink (hts _ zmath_in.2.1.1) (hts _ zmath_in.2.2.2) (hts _ zmath_in.2.1.2) (by omega) (by rw [zcat_sum]; omega) (by exact hroom.1) (by exact hroom.2) hdg (hk H locs mls hW hS hL)
        | false =>
          rw [hb7] at hst
          dsimp only at hst
          cases hb6 : Nat.beq aux 9992 with
          | true =>
            rw [hb6] at hst
            have e2 := zlen hb6
            subst e2
            have h2 := (show (zfind zML (zoc y) idx == some 9992 && true) = true from h2)
            have h2 : zfind zML (zoc y) idx = some 9992 := zfind_eq (by rw [Bool.and_true] at h2; exact h2)
            dsimp only at hst
            obtain ⟨x, r, rfl, h⟩ := z1_inv hst
            obtain ⟨hr, h⟩ := zsm_inv h
            cases h
            obtain ⟨k0, hw⟩ := zM_in h2
            have hlink := hts _ hw
            unfold zMw at hlink
            dsimp only at hlink
            rw [zown hy, show zMn 9992 = Lib.Math.abs.name from rfl] at hlink
            exact va_mabs hx hb (by rw [hml]; exact hL.1.symm) ho hlink (hts _ zmath_in.2.2.1.1) (hts _ zmath_in.2.2.2) (hts _ zmath_in.2.2.1.2) (by omega) (by rw [zcat_sum]; omega) (by exact hroom.1) (by exact hroom.2) hdg (hk H locs mls hW hS hL)
          | false =>
            rw [hb6] at hst
            dsimp only at hst
            obtain ⟨as, r, rfl, h3, h4, h⟩ := zcal_inv hst
            cases h
  case invokespecial idx =>
    simp only [zcq, Bool.and_eq_true] at hcq
    have e1 := zlen hcq.1
    subst e1
    have h2 := hcq.2
    simp only [zst] at hst
    cases hb9 : Nat.beq aux 9999 with
    | true =>
      rw [hb9] at hst
      have e2 := zlen hb9
      subst e2
      have h2 : zfind zML (zoc y) idx = some 9999 := zfind_eq h2
      dsimp only at hst
      split at hst
      · rename_i a r
        split at hst
        · rename_i hr
          cases hst
          obtain ⟨k0, hw⟩ := zM_in h2
          have hlink := hts _ hw
          unfold zMw at hlink
          dsimp only at hlink
          rw [zown hy, show zMn 9999 = Lib.objectInit from rfl] at hlink
          exact W.objInit hx hb ho hlink (hts _ zobj_in.1) (hts _ zobj_in.2) rfl (by rw [hml]; exact hL.1) rfl hdg (by omega) (by have := Nat.le_of_ble_eq_true hr; show 2 * 0 + ((r.map (ztr base ad)).map fun v => v.category).sum + 12 ≤ _; rw [zcat_sum]; omega) (hk H locs mls hW hS hL)
        · cases hst
      · cases hst
    | false =>
      rw [hb9] at hst
      dsimp only at hst
      obtain ⟨as, r, rfl, h3, h4, h⟩ := zcal_inv hst
      rcases zrcv_inv h with ⟨a, lst, rfl, h⟩ | ⟨a, lst, rfl, h⟩
      · cases h
      · cases h
  case invokevirtual idx =>
    simp only [zst] at hst
    obtain ⟨as, r, rfl, h3, h4, h⟩ := zcal_inv hst
    rcases zrcv_inv h with ⟨a, lst, rfl, h⟩ | ⟨a, lst, rfl, h⟩
    · cases h
    · cases h
  case ireturn =>
    simp only [zst] at hst
    split at hst <;> simp at hst
  case lreturn =>
    simp only [zst] at hst
    split at hst <;> simp at hst
  case areturn =>
    simp only [zst] at hst
    split at hst <;> simp at hst
  case return_ =>
    simp only [zst] at hst
    split at hst <;> simp at hst

  all_goals (simp [zst] at hst; done)
end ZJ
