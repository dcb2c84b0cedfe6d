/-! ===== what is read alone; constants; library members; calls ===== -/
section ZR
variable {p : Program} {l : Launch} {e : Env} {R : Room} {s : State} {m : MethodId} {args : Array Value} {below : List Frame} {meth : Method} {c : Code} {H : Heap} {locs : List Loc} {cells slots : Nat} {Q : State → Prop}
variable {base : Nat} {ad : Nat → Nat} {dA : Nat → ClassId} {D : va_G} {X : (Nat → Int32) × Nat} {d y : Nat}
theorem zbqf {a b : Nat} (h : a ≠ b) : Nat.beq a b = false := by
  cases h2 : Nat.beq a b with
  | false => rfl
  | true => exact absurd (Nat.eq_of_beq_eq_true h2) h
theorem zblf {a b : Nat} (h : ¬ a ≤ b) : Nat.ble a b = false := by
  cases h2 : Nat.ble a b with
  | false => rfl
  | true => exact absurd (Nat.le_of_ble_eq_true h2) h
/-- an int array beside the world -/
theorem zX.ints (hX : zX base ad X s s.heap) {j : Nat} (h1 : 60 ≤ j) (h2 : j ≤ 70) (h3 : 0 < zxn X j) : va_T .int (ad j) (zxn X j) (fun k => .int (zxf X j k)) (fun q => base ≤ q) s s.heap := by
  rcases Nat.lt_or_ge j 64 with h | h
  · have h4 := hX.2.1 (j - 60) (by omega)
    rw [show 60 + (j - 60) = j by omega] at h4
    exact h4
  · rcases Nat.lt_or_ge j 70 with g | g
    · exfalso
      rcases (show j = 64 ∨ j = 65 ∨ j = 66 ∨ j = 67 ∨ j = 68 ∨ j = 69 by omega) with rfl | rfl | rfl | rfl | rfl | rfl <;> exact absurd h3 (by show ¬ 0 < 0; omega)
    · have e : j = 70 := by omega
      subst e
      exact hX.2.2.1
theorem zs_ialdX (C0 : zCx p s m args meth c R base ad dA D X d y) (hS0 : va_S (fun q => base ≤ q) s.heap H locs) {pc j : Nat} {i : Int32} {mls : Array Slot} {rest : List Value} (hdg : decode (zcd y) pc = .ok (.iaload, 1)) (h1 : 60 ≤ j) (h2 : j ≤ 70) (hin : vp_in i (zxn X j))
    (kk : W p l e R s m args below meth c H locs cells slots Q (F0 m (pc + 1) mls (.int (zxf X j i.toNatClampNeg) :: rest))) : W p l e R s m args below meth c H locs cells slots Q (F0 m pc mls (.int i :: .ref (ad j) :: rest)) := by
  obtain ⟨hx, hb, hml, ho, hts, hK, hKt, hX, hT, hbs, hnm, hfr, hlo, hy⟩ := C0
  have h3 : 0 < zxn X j := by
    rcases Nat.eq_zero_or_pos (zxn X j) with h | h
    · exact absurd (Or.inr (by rw [h]; exact Nat.zero_le _)) hin
    · exact h
  exact va_ti hx hb (hX.ints h1 h2 h3) hS0 hin rfl hdg kk
theorem zs_baldX (C0 : zCx p s m args meth c R base ad dA D X d y) (hS0 : va_S (fun q => base ≤ q) s.heap H locs) {pc j : Nat} {i : Int32} {mls : Array Slot} {rest : List Value} (hdg : decode (zcd y) pc = .ok (.baload, 1)) (h1 : 30 ≤ j) (h2 : j < 30 + znS) (hin : vp_in i (zxn X j))
    (kk : W p l e R s m args below meth c H locs cells slots Q (F0 m (pc + 1) mls (.int (zxf X j i.toNatClampNeg) :: rest))) : W p l e R s m args below meth c H locs cells slots Q (F0 m pc mls (.int i :: .ref (ad j) :: rest)) := by
  obtain ⟨hx, hb, hml, ho, hts, hK, hKt, hX, hT, hbs, hnm, hfr, hlo, hy⟩ := C0
  obtain ⟨k, rfl⟩ : ∃ k, j = 30 + k := ⟨j - 30, by omega⟩
  have hk : k < znS := by omega
  have h3 := (hX.1.1 k hk).2.2.2
  have e1 : zxn X (30 + k) = zleL.getD k 0 ∧ ∀ q, zxf X (30 + k) q = (zbyL.getD k []).getD q 0 := by
    have h4 : ∀ k, k < znS → zxn X (30 + k) = zleL.getD k 0 := by
      intro k hk
      have h5 : ∀ k, k < znS → (zbyL.getD k []).length = zleL.getD k 0 := by decide +kernel
      rw [← h5 k hk]
      unfold zxn
      rw [show Nat.beq (30 + k) 70 = false from zbqf (by have hs : znS = 21 := rfl; omega), show Nat.ble 60 (30 + k) = false from zblf (by have hs : znS = 21 := rfl; omega), show 30 + k - 30 = k by omega]
      rfl
    refine ⟨h4 k hk, fun q => ?_⟩
    unfold zxf
    rw [show Nat.beq (30 + k) 70 = false from zbqf (by have hs : znS = 21 := rfl; omega), show Nat.ble 60 (30 + k) = false from zblf (by have hs : znS = 21 := rfl; omega), show 30 + k - 30 = k by omega]
    rfl
  rw [e1.1] at hin
  rw [e1.2] at kk
  exact va_tb hx hb h3 hS0 hin rfl hdg kk
theorem zs_alenX (C0 : zCx p s m args meth c R base ad dA D X d y) (hS0 : va_S (fun q => base ≤ q) s.heap H locs) {pc j : Nat} {mls : Array Slot} {rest : List Value} (hdg : decode (zcd y) pc = .ok (.arraylength, 1)) (h1 : (30 ≤ j ∧ j < 30 + znS) ∨ j = 70)
    (kk : W p l e R s m args below meth c H locs cells slots Q (F0 m (pc + 1) mls (.int (Int32.ofNat (zxn X j)) :: rest))) : W p l e R s m args below meth c H locs cells slots Q (F0 m pc mls (.ref (ad j) :: rest)) := by
  obtain ⟨hx, hb, hml, ho, hts, hK, hKt, hX, hT, hbs, hnm, hfr, hlo, hy⟩ := C0
  rcases h1 with ⟨h1, h2⟩ | rfl
  · obtain ⟨k, rfl⟩ : ∃ k, j = 30 + k := ⟨j - 30, by omega⟩
    have hk : k < znS := by omega
    have h3 := (hX.1.1 k hk).2.2.2
    have h5 : ∀ k, k < znS → (zbyL.getD k []).length = zleL.getD k 0 := by decide +kernel
    have e1 : zxn X (30 + k) = zleL.getD k 0 := by
      rw [← h5 k hk]
      unfold zxn
      rw [show Nat.beq (30 + k) 70 = false from zbqf (by have hs : znS = 21 := rfl; omega), show Nat.ble 60 (30 + k) = false from zblf (by have hs : znS = 21 := rfl; omega), show 30 + k - 30 = k by omega]
      rfl
    rw [e1] at kk
    exact va_tlen hx hb h3 hS0 rfl hdg kk
  · exact va_tlen hx hb hX.2.2.1 hS0 rfl hdg kk
theorem zs_getfX (C0 : zCx p s m args meth c R base ad dA D X d y) (hS0 : va_S (fun q => base ≤ q) s.heap H locs) {pc idx aux j : Nat} {mls : Array Slot} {rest : List Value} (hdg : decode (zcd y) pc = .ok (.getfield idx, 3)) (hl : zfind zFL (zoc y) idx = some aux) (ha : aux = 100000 ∨ aux = 100001) (hj : j < znS)
    (kk : W p l e R s m args below meth c H locs cells slots Q (F0 m (pc + 3) mls ((if aux = 100000 then .ref (ad (30 + j)) else .int 0) :: rest))) : W p l e R s m args below meth c H locs cells slots Q (F0 m pc mls (.ref (ad j) :: rest)) := by
  obtain ⟨hx, hb, hml, ho, hts, hK, hKt, hX, hT, hbs, hnm, hfr, hlo, hy⟩ := C0
  obtain ⟨k0, hw⟩ := zF_in hl
  have hlink := hts _ hw
  obtain ⟨-, h2, h3, -⟩ := hX.1.1 j hj
  rcases ha with rfl | rfl
  · unfold zFw at hlink
    rw [if_pos rfl] at hlink
    dsimp only at hlink
    rw [zown hy] at hlink
    rw [if_pos rfl] at kk
    exact vk_getf hx hb h3 hS0 ho hlink (fun x h => h) hdg kk
  · unfold zFw at hlink
    rw [if_neg (show ¬ (100001 : Nat) = 100000 by decide), if_pos rfl] at hlink
    dsimp only at hlink
    rw [zown hy] at hlink
    rw [if_neg (show ¬ (100001 : Nat) = 100000 by decide)] at kk
    exact vk_getf hx hb h2 hS0 ho hlink (fun x h => h) hdg kk
theorem zs_gets (C0 : zCx p s m args meth c R base ad dA D X d y) (hS0 : va_S (fun q => base ≤ q) s.heap H locs) {pc idx aux : Nat} {mls : Array Slot} {rest : List Value} (hdg : decode (zcd y) pc = .ok (.getstatic idx, 3)) (hl : zfind zGL (zoc y) idx = some aux) (ha : aux ≤ 4 ∨ aux = 12)
    (kk : W p l e R s m args below meth c H locs cells slots Q (F0 m (pc + 3) mls ((if aux = 0 then .int 1 else if aux = 12 then ztr base ad (.float 1) else .ref (ad (59 + aux))) :: rest))) : W p l e R s m args below meth c H locs cells slots Q (F0 m pc mls rest) := by
  obtain ⟨hx, hb, hml, ho, hts, hK, hKt, hX, hT, hbs, hnm, hfr, hlo, hy⟩ := C0
  obtain ⟨k0, hw⟩ := zG_in hl
  have hlink := hts _ hw
  unfold zGw at hlink
  dsimp only at hlink
  rw [zown hy] at hlink
  by_cases h0 : aux = 0
  · subst h0
    rw [if_pos rfl] at kk
    exact va_gets hx hb hX.2.2.2.2.1 hS0 ho hlink (fun x h => h) hdg kk
  · rw [if_neg h0] at kk
    by_cases h12 : aux = 12
    · subst h12
      rw [if_pos rfl] at kk
      exact va_gets hx hb hX.2.2.2.2.2 hS0 ho hlink (fun x h => h) hdg kk
    · rw [if_neg h12] at kk
      exact va_gets hx hb (hX.2.2.2.1 aux (by omega) (by omega)) hS0 ho hlink (fun x h => h) hdg kk
/-- ldc_w of a text -/
theorem zldcwS {T : State} (X : Stand p l e R s m args below meth c T locs cells slots) (hexec : p.tables.exec = Jvm.exec) {own text : String} {index : Nat} {a : Addr} (hown : s.vm.findClass own = some m.cls)
    (hconst : (Cond.stringRef own index text).before args s = true) (hev : (Term.string own index).eval args s none [] s = some (.ref a)) {g : JFrame} (hg : g.method = m) (hdg : decode c.code g.pc = .ok (.ldc_w index, 3)) :
    ∀ target, Steps p.tables e below (T.setTop { g with pc := g.pc + 3, stack := .ref a :: g.stack }) target → Steps p.tables e below (T.setTop g) target := by
  obtain ⟨k, cf, i, a', hk, hcf, hcp, -, hr, hev'⟩ := Cond.stringRef_spec hown hconst
  cases hev.symm.trans hev'
  obtain ⟨k', hk', he⟩ := X.warmed.alike.2.2 _ _ hk
  have hr' : k'.resolved[index]? = some (some (.string a)) := by
    rcases X.warmed.entry hk hk' index with h | ⟨h, -⟩
    · rw [h]; exact hr
    · rw [hr] at h; cases h
  intro target hrest
  subst hg
  jvm_step X.here [hexec, hdg, ldc_w.wp_string (e := e) (s := T) (f := g) X.here.top hk' (by rw [he]; exact hcf) hcp hr']
  exact hrest
theorem zs_str (C0 : zCx p s m args meth c R base ad dA D X d y) {idx a : Nat} (hl : zfind zSL (zoc y) idx = some (a + 1)) : ∃ tx, vk_R (zyn y).cls idx tx (ad a) s := by
  obtain ⟨hx, hb, hml, ho, hts, hK, hKt, hX, hT, hbs, hnm, hfr, hlo, hy⟩ := C0
  obtain ⟨k0, hk⟩ := zfind_to hl
  have h := hT.1 _ hk
  dsimp only at h
  rw [zown hy] at h
  exact ⟨_, h⟩
theorem zs_ldcS (C0 : zCx p s m args meth c R base ad dA D X d y) {pc idx a : Nat} {mls : Array Slot} {rest : List Value} (hdg : decode (zcd y) pc = .ok (.ldc idx, 2)) (hl : zfind zSL (zoc y) idx = some (a + 1))
    (kk : W p l e R s m args below meth c H locs cells slots Q (F0 m (pc + 2) mls (.ref (ad a) :: rest))) : W p l e R s m args below meth c H locs cells slots Q (F0 m pc mls rest) := by
  obtain ⟨tx, hZ⟩ := zs_str C0 hl
  obtain ⟨hx, hb, hml, ho, -⟩ := C0
  exact va_ldcS hx hb ho hZ hdg kk
theorem zs_ldcwS (C0 : zCx p s m args meth c R base ad dA D X d y) {pc idx a : Nat} {mls : Array Slot} {rest : List Value} (hdg : decode (zcd y) pc = .ok (.ldc_w idx, 3)) (hl : zfind zSL (zoc y) idx = some (a + 1))
    (kk : W p l e R s m args below meth c H locs cells slots Q (F0 m (pc + 3) mls (.ref (ad a) :: rest))) : W p l e R s m args below meth c H locs cells slots Q (F0 m pc mls rest) := by
  obtain ⟨tx, hZ⟩ := zs_str C0 hl
  obtain ⟨hx, hb, hml, ho, -⟩ := C0
  intro T hT X
  obtain ⟨t, a1, b1⟩ := kk T hT X
  exact ⟨t, zldcwS X hx ho (text := tx) (a := ad a) hZ.1 hZ.2 (g := F0 m pc mls rest) rfl (by rw [hb]; exact hdg) t a1, b1⟩
/-- System.arraycopy between two int arrays -/
theorem zs_copy (C0 : zCx p s m args meth c R base ad dA D X d y) {M : zM} (hW : zW base dA D M H) (hS0 : va_S (fun q => base ≤ q) s.heap H locs) {pc idx a b : Nat} {sp dp n : Int32} {mls : Array Slot} {rest : List Value} (hL : mls.size = zml y) (hdg : decode (zcd y) pc = .ok (.invokestatic idx, 3)) (hl : zfind zML (zoc y) idx = some 9998) (ha : zis M a 20) (hb2 : zis M b 20) (hab : ¬ a = b) (h1 : ¬ sp < 0) (h2 : ¬ dp < 0) (h3 : ¬ n < 0) (h4 : sp.toNatClampNeg + n.toNatClampNeg ≤ zln a) (h5 : dp.toNatClampNeg + n.toNatClampNeg ≤ zln b) (hd : 1 ≤ d) (hr : (rest.map fun v => v.category).sum ≤ 8)
    (kk : ∀ (H1 : Heap) (locs1 : List Loc), zW base dA D (zrI M b (va_cpy (M.1 a) (M.1 b) sp.toNatClampNeg dp.toNatClampNeg n.toNatClampNeg)) H1 → va_S (fun q => base ≤ q) s.heap H1 locs1 → W p l e R s m args below meth c H1 locs1 cells slots Q (F0 m (pc + 3) mls rest)) : W p l e R s m args below meth c H locs cells slots Q (F0 m pc mls (.int n :: .int dp :: .ref (base + b) :: .int sp :: .ref (base + a) :: rest)) := by
  obtain ⟨hx, hb, hml, ho, hts, hK, hKt, hX, hT, hbs, hnm, hfr, hlo, hy⟩ := C0
  obtain ⟨k0, hw⟩ := zM_in hl
  have hlink := hts _ hw
  unfold zMw at hlink
  dsimp only at hlink
  rw [zown hy, show zMn 9998 = arraycopyName from rfl] at hlink
  have nn : ∀ z : Int32, ¬ z < 0 → z.toInt = (z.toNatClampNeg : Int) := by
    intro z hz
    have hz0 : (0 : Int) ≤ z.toInt := by
      have := Int32.not_lt.mp hz
      simpa using Int32.le_iff_toInt_le.mp this
    show z.toInt = ((z.toInt.toNat : Nat) : Int)
    omega
  intro T hT2 Xs
  have hc0 := hW.ari ha (Or.inl rfl)
  have hc1 := hW.ari hb2 (Or.inl rfl)
  obtain ⟨-, k0, hk0, cm0, hkk0⟩ := (hKt 20 (by decide) (by decide)).1 (zln a) (fun j => .int (M.1 a j))
  obtain ⟨vm', X', step⟩ := Xs.arraycopy hx ho hlink (hts _ zcpy_in.1) (hts _ zcpy_in.2.1) (hts _ zcpy_in.2.2) (src := base + a) (dst := base + b) (cs := vp_cell (dA 20) (zln a, .inl (M.1 a))) (cd := vp_cell (dA 20) (zln b, .inl (M.1 b))) (srcPos := sp) (destPos := dp) (n := n) (by rw [hT2]; exact hc0) (by rw [hT2]; exact hc1)
    (fun _ h => by cases h) (fun _ h => by cases h) (fun h => by cases h) (fun h => by cases h) hk0 hk0 hkk0 hkk0 (by rfl) h1 h2 h3
    (by rw [nn sp h1, nn n h3]; show ¬ _ > ((arrV (dA 20) (zln a) (fun j => .int (M.1 a j))).slots.size : Int); rw [arrV_size]; omega)
    (by rw [nn dp h2, nn n h3]; show ¬ _ > ((arrV (dA 20) (zln b) (fun j => .int (M.1 b j))).slots.size : Int); rw [arrV_size]; omega)
    (fun vm₁ _ i hi => by
      have e : (vp_cell (dA 20) (zln a, .inl (M.1 a))).slots.getD (sp.toNatClampNeg + i) .null = .int (M.1 a (sp.toNatClampNeg + i)) := by
        show (arrV (dA 20) (zln a) (fun j => .int (M.1 a j))).slots.getD _ _ = _
        rw [Array.getD_eq_getD_getElem?, arrV_read _ _ (by omega)]
        rfl
      refine ⟨?_, ?_⟩
      · rw [e]
        rfl
      · rw [e]
        exact trivial)
    (g := F0 m pc mls (.int n :: .int dp :: .ref (base + b) :: .int sp :: .ref (base + a) :: rest)) rfl (by rw [hml]; exact hL) (rest := rest) rfl (by rw [hb]; exact hdg) (by omega) (by
      have : nativeFrameWords "java/lang/System" "arraycopy" 5 + 11 ≤ 80 := by decide +kernel
      show 2 * 0 + _ + _ ≤ _
      omega)
  have e1 : copied (vp_cell (dA 20) (zln a, .inl (M.1 a))) (vp_cell (dA 20) (zln b, .inl (M.1 b))) sp dp n = vp_cell (dA 20) (zln b, .inl (va_cpy (M.1 a) (M.1 b) sp.toNatClampNeg dp.toNatClampNeg n.toNatClampNeg)) := va_copied (fun z => .int z) (dA 20) (dA 20) (M.1 a) (M.1 b) h4
  rw [e1] at X' step
  have hlb : base + b < H.size := (Array.getElem?_eq_some_iff.mp hc1).1
  generalize hg1 : vp_cell (dA 20) (zln b, .inl (va_cpy (M.1 a) (M.1 b) sp.toNatClampNeg dp.toNatClampNeg n.toNatClampNeg)) = cell1 at X' step
  have hheap : ((T.setVm vm').setCell (base + b) cell1).heap = H.setIfInBounds (base + b) cell1 := by rw [← hT2]; rfl
  have oq : ∀ q : Nat, q ≠ base + b → (H.setIfInBounds (base + b) cell1)[q]? = H[q]? := fun q hq => by simp [Array.getElem?_setIfInBounds, Ne.symm hq]
  have hnew : zW base dA D (zrI M b (va_cpy (M.1 a) (M.1 b) sp.toNatClampNeg dp.toNatClampNeg n.toNatClampNeg)) (H.setIfInBounds (base + b) cell1) := by
    refine hW.set rfl (by simp) oq (fun b' hb' => zen_cong (zro_ne hb') rfl rfl) ?_
    rw [zen_i hb2.2 (Or.inl rfl)]
    show (H.setIfInBounds (base + b) cell1)[base + b]? = some (vp_cell _ _)
    rw [show (zrI M b (va_cpy (M.1 a) (M.1 b) sp.toNatClampNeg dp.toNatClampNeg n.toNatClampNeg)).1 b = va_cpy (M.1 a) (M.1 b) sp.toNatClampNeg dp.toNatClampNeg n.toNatClampNeg from zro_eq, hg1]
    simp [Array.getElem?_setIfInBounds, hlb]
  obtain ⟨t, a1, b1⟩ := kk _ _ hnew ⟨by simp; exact hS0.1, fun q g1 g2 => by
      rw [oq q (fun e => g2 (by rw [e]; exact Nat.le_add_right _ _))]
      exact hS0.2.1 q g1 g2, fun q hq => by
      rcases List.mem_append.mp hq with h | h
      · exact hS0.2.2 q h
      · obtain ⟨z, -, hz⟩ := List.mem_map.mp h
        rw [← hz]
        exact Nat.le_add_right _ _⟩ _ hheap X'
  exact ⟨t, step t a1, b1⟩
/-! a call -/
def zPc (base : Nat) (ad : Nat → Nat) (dA : Nat → ClassId) (D : va_G) (X : (Nat → Int32) × Nat) (as : List Value) (M : zM) : Array Value → State → Prop := fun v U => v = (as.map (ztr base ad)).toArray ∧ zW base dA D M U.heap ∧ zKc D U ∧ zKt dA U ∧ zX base ad X U U.heap ∧ zT ad U
def zQc (base : Nat) (ad : Nat → Nat) (dA : Nat → ClassId) (D : va_G) (o : zO) : Array Value → State → Outcome → State → Prop := fun _ st oc t => oc = .returned (o.1.map (ztr base ad)) ∧ zW base dA D o.2 t.heap ∧ va_F (fun q => base ≤ q) st t
def zws (z : Nat) : List Cond := Cond.code (zyn z) (zcd z) (zml z) (zrt z) :: zbig
abbrev zrm (d : Nat) (M M' : zM) : Room := { frames := d, cells := M'.2.2.2 - M.2.2.2, slots := zss M'.2.2.2 - zss M.2.2.2, locals := 100 * d }
def zMet (l : Launch) (base : Nat) (ad : Nat → Nat) (dA : Nat → ClassId) (D : va_G) (X : (Nat → Int32) × Nat) (d z : Nat) (as : List Value) (M : zM) (o : zO) : Prop :=
  Met l (zyn z) (zws z) (zrm d M o.2) (zPc base ad dA D X as M) (zQc base ad dA D o) (o.2.2.2.2 - M.2.2.2) (zss o.2.2.2.2 - zss M.2.2.2) (fun q => base ≤ q)
theorem zPc_blind {as : List Value} {M : zM} : FrameBlind (zPc base ad dA D X as M) := by
  intro a U g mk h
  obtain ⟨h1, h2, h3, h4, h5, h6⟩ := h
  have hv : (U.calling g mk a).vm = U.vm := rfl
  exact ⟨h1, h2, h3.moved (u := U) (Vm.Alike.refl U.vm), h4.moved (u := U) (Vm.Alike.refl U.vm), h5.moved (u := U) (Vm.Alike.refl U.vm), ⟨fun q hq => vk_R.same rfl (h6.1 q hq), fun q hq => va_Nw.same rfl rfl (h6.2.1 q hq), h6.2.2.1.moved (u := U) (Vm.Alike.refl U.vm), h6.2.2.2.1.moved (u := U) (Vm.Alike.refl U.vm), h6.2.2.2.2.1.moved (u := U) (Vm.Alike.refl U.vm), h6.2.2.2.2.2.moved (u := U) (Vm.Alike.refl U.vm)⟩⟩
theorem zPc_at (C0 : zCx p s m args meth c R base ad dA D X d y) {M : zM} (hW : zW base dA D M H) (hS0 : va_S (fun q => base ≤ q) s.heap H locs) (as : List Value) : ∀ U : State, U.heap = H → s.WarmedH U.vm → zPc base ad dA D X as M (as.map (ztr base ad)).toArray U := by
  obtain ⟨hx, hb, hml, ho, hts, hK, hKt, hX, hT, hbs, hnm, hfr, hlo, hy⟩ := C0
  intro U hU hW2
  refine ⟨rfl, by rw [hU]; exact hW, hK.moved hW2.alike, hKt.moved hW2.alike, ?_, hT.warm hW2⟩
  rw [hU]
  exact (hX.kept (fun a h1 h2 => hS0.2.1 a h1 h2)).moved hW2.alike
/-- behind a call -/
theorem zs_back (hS0 : va_S (fun q => base ≤ q) s.heap H locs) {o : zO} {mc ms pc : Nat} {mls : Array Slot} {st0 r : List Value} {a : Array Value} (hr : va_Run p l e R s m args below meth c H locs cells slots mc ms (F0 m pc mls st0) (r.map (ztr base ad)) (zQc base ad dA D o a) (fun q => base ≤ q))
    (kk : ∀ (H1 : Heap) (locs1 : List Loc), zW base dA D o.2 H1 → va_S (fun q => base ≤ q) s.heap H1 locs1 → W p l e R s m args below meth c H1 locs1 (cells + mc) (slots + ms) Q (F0 m (pc + 3) mls ((zps o.1 r).map (ztr base ad)))) : W p l e R s m args below meth c H locs cells slots Q (F0 m pc mls st0) := by
  intro T hT Xs
  obtain ⟨v, st₀, t, T', L, h0, X', hL, e1, e2, ⟨hv, hw, hz, hk⟩, st⟩ := hr T hT Xs
  have hv2 : v = o.1.map (ztr base ad) := by cases hv; rfl
  rw [h0] at hz hk
  obtain ⟨t2, a1, b1⟩ := kk t.heap (locs ++ L) hw ⟨Nat.le_trans hS0.1 hz, fun q h1 h2 => by rw [hk q (Nat.lt_of_lt_of_le h1 hS0.1) h2]; exact hS0.2.1 q h1 h2, fun q hq => by
      rcases List.mem_append.mp hq with h | h
      · exact hS0.2.2 q h
      · exact hL q h⟩ T' e1 X'
  refine ⟨t2, st t2 ?_, b1⟩
  have e3 : v.toList ++ r.map (ztr base ad) = (zps o.1 r).map (ztr base ad) := by
    rw [hv2]
    cases o.1 <;> rfl
  rw [e3]
  exact a1
theorem zws_good {z : Nat} (h1 : 1 ≤ z) (h2 : z < zNY) : GoodIn zbig (zws z) := by
  intro w hw
  rcases List.mem_cons.mp hw with rfl | h
  · exact ⟨(zY_in h1 h2).1, zbig_good _ (zY_in h1 h2).1⟩
  · exact ⟨h, zbig_good _ h⟩
theorem zmd_inv {aux : Nat} {i st : Bool} (h : zmd aux i st = true) : 10 ≤ aux ∧ aux / 10 < zNY ∧ aux % 10 = zna (aux / 10) ∧ zstt (aux / 10) = st ∧ (decide ((zyn (aux / 10)).name = "<init>") = i) := by
  simp only [zmd, Bool.and_eq_true, beq_iff_eq] at h
  obtain ⟨⟨⟨⟨h1, h2⟩, h3⟩, h4⟩, h5⟩ := h
  exact ⟨Nat.le_of_ble_eq_true h1, Nat.le_of_ble_eq_true h2, Nat.eq_of_beq_eq_true h3, h4, h5⟩
theorem zym_inv {z : Nat} (h : z < zNY) : plainName (zyn z).cls = true ∧ zcn (zoc z) = (zyn z).cls ∧ ((zyn z).cls ≠ "java/lang/invoke/MethodHandle" ∧ (zyn z).cls ≠ "java/lang/invoke/VarHandle") ∧ (parseMethodDescriptor (zyn z).desc).map (fun d => d.parameters.length) = some (zna z - (bif zstt z then 0 else 1)) ∧ (zstt z = false → 1 ≤ zna z) ∧ zoc z < 17 ∧ zml z ≤ 60 := by
  have h2 := zym_ok z h
  simp only [zym, Bool.and_eq_true, decide_eq_true_eq] at h2
  obtain ⟨⟨⟨⟨⟨⟨h1, h3⟩, h4⟩, h5⟩, h6⟩, h7⟩, h8⟩ := h2
  refine ⟨h1, h3, h4, h5, fun hs => ?_, Nat.le_of_ble_eq_true h7, Nat.le_of_ble_eq_true h8⟩
  rw [hs] at h6
  exact Nat.le_of_ble_eq_true h6
end ZR
