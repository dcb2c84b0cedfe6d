/-! ===== new cells ===== -/
section ZN
variable {p : Program} {l : Launch} {e : Env} {R : Room} {s : State} {m : MethodId} {args : Array Value} {below : List Frame} {meth : Method} {c : Code} {H : Heap} {locs : List Loc} {cells slots : Nat} {Q : State → Prop}
variable {base : Nat} {ad : Nat → Nat} {dA : Nat → ClassId} {D : va_G} {X : (Nat → Int32) × Nat} {d y : Nat}
theorem zS_grow {H1 : Heap} {locs : List Loc} (hS : va_S (fun q => base ≤ q) s.heap H locs) (z1 : H.size ≤ H1.size) (o1 : ∀ q, q < H.size → H1[q]? = H[q]?) : va_S (fun q => base ≤ q) s.heap H1 locs :=
  ⟨Nat.le_trans hS.1 z1, fun q h1 h2 => (o1 q (Nat.lt_of_lt_of_le h1 hS.1)).trans (hS.2.1 q h1 h2), hS.2.2⟩
theorem zW.push {M : zM} (hW : zW base dA D M H) {H1 : Heap} (z1 : H1.size = H.size + 1) (o1 : ∀ q, q < H.size → H1[q]? = H[q]?) (hn : va_at D zcl (base + M.2.2.2, zen base dA (znw M) M.2.2.2) H1) : zW base dA D (znw M) H1 := by
  refine ⟨by rw [z1, hW.1]; rfl, fun a ha => ?_⟩
  have ha2 : a < M.2.2.2 + 1 := ha
  by_cases h : a = M.2.2.2
  · subst h
    exact hn
  · have h3 : zen base dA (znw M) a = zen base dA M a := zen_cong (zro_ne h) (zro_ne h) (zro_ne h)
    rw [h3]
    have h4 := hW.2 a (by omega)
    exact h4.kept (o1 _ h4.lt)
theorem zfk_def {ci k : Nat} (hc : ci < 13) (hk : k < znf ci) (M : zM) : zfw base (znw M) M.2.2.2 k (zft ci k) = defaultValue (zfy ci k) := by
  have h := zft_ok ci hc k hk
  unfold zfw
  have e1 : (znw M).1 M.2.2.2 k = 0 := by show zro _ _ _ _ k = 0; rw [zro_eq]
  have e2 : (znw M).2.1 M.2.2.2 k = 0 := by show zro _ _ _ _ k = 0; rw [zro_eq]
  have e3 : (znw M).2.2.1 M.2.2.2 k = zNul := by show zro _ _ _ _ k = zNul; rw [zro_eq]
  rw [e1, e2, e3]
  revert h
  generalize zft ci k = t
  generalize zfy ci k = y
  intro h
  unfold zfk at h
  split at h <;> first | (cases h; done) | simp [defaultValue, zrf, va_rf]
theorem zs_new (C0 : zCx p s m args meth c R base ad dA D X d y) {M : zM} (hW : zW base dA D M H) (hS0 : va_S (fun q => base ≤ q) s.heap H locs) {pc idx ci : Nat} {mls : Array Slot} {rest : List Value} (hdg : decode (zcd y) pc = .ok (.new idx, 3)) (hl : zfind zCL (zoc y) idx = some ci) (hc : ci < 13) (hsh : zsh M.2.2.2 = (ci, znf ci)) (hcells : cells + 1 ≤ R.cells) (hslots : slots + znf ci ≤ R.slots)
    (kk : ∀ (H1 : Heap), zW base dA D (znw M) H1 → va_S (fun q => base ≤ q) s.heap H1 locs → W p l e R s m args below meth c H1 locs (cells + 1) (slots + znf ci) Q (F0 m (pc + 3) mls (.ref (base + M.2.2.2) :: rest))) : W p l e R s m args below meth c H locs cells slots Q (F0 m pc mls rest) := by
  obtain ⟨hx, hb, hml, ho, hts, hK, hKt, hX, hT, hbs, hnm, hfr, hlo, hy⟩ := C0
  obtain ⟨k0, hw⟩ := zC_in hl
  have hlink := hts _ hw
  unfold zCw at hlink
  rw [if_neg (show ¬ ci = 124 by omega)] at hlink
  dsimp only at hlink
  rw [zown hy] at hlink
  have hKn := hK ci hc
  refine W.newcK hx hb ho hlink (hts _ (zK_in hc)) (hts _ (zN_in (by omega))) rfl hdg hcells hslots hKn.2.1 rfl fun H1 kC hkC e1 z1 o1 => ?_
  rw [hW.1] at e1
  have hnew : zW base dA D (znw M) H1 := by
    refine hW.push z1 o1 ?_
    rw [zen_obj (ci := ci) (by rw [hsh]) hc]
    refine ⟨_, zcl_at hc, (u_born (zfy ci) hts (zP_in hc) hKn hkC e1 (fun k hk => (zcT_ok ci hc k hk).1)).to (fun j hj => ?_)⟩
    have hj' : j < znf ci := hj
    rw [zrange_get hj', zfk_def hc hj']
  have hk2 := kk H1 hnew (zS_grow hS0 (by omega) o1)
  rw [← hW.1] at hk2
  exact hk2
theorem zs_newa (C0 : zCx p s m args meth c R base ad dA D X d y) {M : zM} (hW : zW base dA D M H) (hS0 : va_S (fun q => base ≤ q) s.heap H locs) {pc k : Nat} {t : ArrayType} {n : Int32} {mls : Array Slot} {rest : List Value} (hdg : decode (zcd y) pc = .ok (.newarray t, 2)) (ht : zty k = newarray.typeOf t) (hk1 : 20 ≤ k) (hk2 : k ≤ 23) (hlt : M.2.2.2 < zNC) (hn : ¬ n < 0) (hsh : zsh M.2.2.2 = (k, n.toNatClampNeg)) (hcells : cells + 1 ≤ R.cells) (hslots : slots + n.toNatClampNeg ≤ R.slots)
    (kk : ∀ (H1 : Heap), zW base dA D (znw M) H1 → va_S (fun q => base ≤ q) s.heap H1 locs → W p l e R s m args below meth c H1 locs (cells + 1) (slots + n.toNatClampNeg) Q (F0 m (pc + 2) mls (.ref (base + M.2.2.2) :: rest))) : W p l e R s m args below meth c H locs cells slots Q (F0 m pc mls (.int n :: rest)) := by
  obtain ⟨hx, hb, hml, ho, hts, hK, hKt, hX, hT, hbs, hnm, hfr, hlo, hy⟩ := C0
  have hln : n.toNatClampNeg ≤ 3000 := by have := (zsh_ok _ hlt).2; rw [hsh] at this; exact this
  have hz : zln M.2.2.2 = n.toNatClampNeg := by unfold zln; rw [hsh]
  have harr : (Cond.arrayClass (newarray.typeOf t)).before args s = true := by
    rw [← ht]
    rcases (show k = 20 ∨ k = 21 ∨ k = 22 ∨ k = 23 by omega) with rfl | rfl | rfl | rfl
    · exact hts _ zarr_in.1
    · exact hts _ zarr_in.2.1
    · exact hts _ zarr_in.2.2.1
    · exact hts _ zarr_in.2.2.2
  refine va_newaK hx hb harr rfl hdg rfl hn rfl (by
    have : componentBytes (newarray.typeOf t) ≤ 8 := by cases t <;> decide
    calc n.toNatClampNeg * componentBytes (newarray.typeOf t) ≤ 3000 * 8 := Nat.mul_le_mul hln this
      _ ≤ 536870912 := by decide) hcells hslots rfl fun H1 cA e1 z1 o1 hAr hNm => ?_
  rw [hW.1] at e1
  have hcA : cA = dA k := by
    have h2 := (hKt k hk1 (by omega)).2
    rw [← ht] at hNm
    rcases (show k = 20 ∨ k = 21 ∨ k = 22 ∨ k = 23 by omega) with rfl | rfl | rfl | rfl <;> exact Option.some.inj (hNm.symm.trans h2)
  subst hcA
  have hnew : zW base dA D (znw M) H1 := by
    refine hW.push z1 o1 ?_
    have e0 : (znw M).1 M.2.2.2 = fun _ => 0 := zro_eq
    have e4 : (znw M).2.1 M.2.2.2 = fun _ => 0 := zro_eq
    rcases (show (k = 20 ∨ k = 21 ∨ k = 22) ∨ k = 23 by omega) with g | g
    · rw [zen_i (by rw [hsh]) g, e0, hz]
      show H1[base + M.2.2.2]? = some (vp_cell _ _)
      rw [e1, vp_cell_i, ← ht]
      rcases g with rfl | rfl | rfl <;> rfl
    · subst g
      rw [zen_l (by rw [hsh]), e4, hz]
      show H1[base + M.2.2.2]? = some (vp_cell _ _)
      rw [e1, vp_cell_l, ← ht]
      rfl
  have hk2 := kk H1 hnew (zS_grow hS0 (by omega) o1)
  rw [← hW.1] at hk2
  exact hk2
theorem zs_newq (C0 : zCx p s m args meth c R base ad dA D X d y) {M : zM} (hW : zW base dA D M H) (hS0 : va_S (fun q => base ≤ q) s.heap H locs) {pc idx k : Nat} {n : Int32} {mls : Array Slot} {rest : List Value} (hdg : decode (zcd y) pc = .ok (.anewarray idx, 3)) (hl : zfind zCL (zoc y) idx = some (zel k)) (hk1 : 25 ≤ k) (hk2 : k ≤ 27) (hlt : M.2.2.2 < zNC) (hn : ¬ n < 0) (hsh : zsh M.2.2.2 = (k, n.toNatClampNeg)) (hcells : cells + 1 ≤ R.cells) (hslots : slots + n.toNatClampNeg ≤ R.slots)
    (kk : ∀ (H1 : Heap), zW base dA D (znw M) H1 → va_S (fun q => base ≤ q) s.heap H1 locs → W p l e R s m args below meth c H1 locs (cells + 1) (slots + n.toNatClampNeg) Q (F0 m (pc + 3) mls (.ref (base + M.2.2.2) :: rest))) : W p l e R s m args below meth c H locs cells slots Q (F0 m pc mls (.int n :: rest)) := by
  obtain ⟨hx, hb, hml, ho, hts, hK, hKt, hX, hT, hbs, hnm, hfr, hlo, hy⟩ := C0
  have hln : n.toNatClampNeg ≤ 3000 := by have := (zsh_ok _ hlt).2; rw [hsh] at this; exact this
  have hz : zln M.2.2.2 = n.toNatClampNeg := by unfold zln; rw [hsh]
  obtain ⟨g1, g2⟩ := zel_ok hk1 hk2
  obtain ⟨k0, hw⟩ := zC_in hl
  have hlink := hts _ hw
  unfold zCw at hlink
  rw [if_neg (show ¬ zel k = 124 by omega)] at hlink
  dsimp only at hlink
  rw [zown hy] at hlink
  have hover : va_AO (zcn (zel k)) s := by
    rcases (show k = 25 ∨ k = 26 ∨ k = 27 by omega) with rfl | rfl | rfl
    · exact hT.2.2.2.1
    · exact hT.2.2.2.2.1
    · exact hT.2.2.2.2.2
  refine W.anew hx hb ho hlink (va_AO.use hover) rfl hdg rfl hn (by omega) hcells hslots fun cA kA comp f1 f2 f3 f4 => ?_
  generalize hH1 : H.push ({ cls := cA, slots := Array.replicate n.toNatClampNeg .null, vm := .none } : Cell) = H1
  have z1 : H1.size = H.size + 1 := by rw [← hH1, Array.size_push]
  have e1 : H1[H.size]? = some (arrV cA n.toNatClampNeg (fun _ => .null)) := by rw [← hH1, Array.getElem?_push_size, ← arrV_new]
  have o1 : ∀ q : Nat, q < H.size → H1[q]? = H[q]? := fun q hq => by rw [← hH1, Array.getElem?_push, if_neg (Nat.ne_of_lt hq)]
  rw [hW.1] at e1
  have hcA : cA = dA k := by
    have h2 := (hKt k (by omega) hk2).2
    rw [g2] at h2
    obtain ⟨_, _, _, _, _, h4⟩ := h2
    exact Option.some.inj (f1.symm.trans h4)
  subst hcA
  have hnew : zW base dA D (znw M) H1 := by
    refine hW.push z1 o1 ?_
    have e0 : (znw M).2.2.1 M.2.2.2 = fun _ => zNul := zro_eq
    rw [zen_q (k := k) (by rw [hsh]) (by omega), e0, hz]
    show H1[base + M.2.2.2]? = some (vp_cell _ _)
    rw [e1, vp_cell_q]
    rfl
  have hk2 := kk H1 hnew (zS_grow hS0 (by omega) o1)
  rw [← hW.1] at hk2
  exact hk2
theorem zouter (c : ClassId) (N h0 : Nat) : ∀ i : Nat, Jvm.Free.Multi.outerC c N h0 i = arrV c N (fun j => va_rf (if j < i then some (h0 + 1 + j) else none))
  | 0 => by
    show ({ cls := c, slots := Array.replicate N .null, vm := .none } : Cell) = _
    rw [arrV_new]
    refine congrArg (arrV c N) (funext fun j => ?_)
    simp [va_rf]
  | i + 1 => by
    show (Jvm.Free.Multi.outerC c N h0 i).setSlot i (.ref (h0 + 1 + i)) = _
    rw [zouter c N h0 i, arrV_store]
    refine congrArg (arrV c N) (funext fun j => ?_)
    by_cases e : j = i
    · subst e
      simp [updV, va_rf]
    · by_cases h : j < i
      · simp [updV, e, h, Nat.lt_succ_of_lt h]
      · simp [updV, e, h, show ¬ j < i + 1 by omega]
theorem zs_newm (C0 : zCx p s m args meth c R base ad dA D X d y) {M : zM} (hW : zW base dA D M H) (hS0 : va_S (fun q => base ≤ q) s.heap H locs) {pc idx : Nat} {n k : Int32} {mls : Array Slot} {rest : List Value} (hdg : decode (zcd y) pc = .ok (.multianewarray idx 2, 4)) (hl : zfind zCL (zoc y) idx = some 124) (hlt : M.2.2.2 + n.toNatClampNeg < zNC) (hn : ¬ n < 0) (hk : ¬ k < 0) (hsh : zsh M.2.2.2 = (24, n.toNatClampNeg)) (hrow : ∀ j, j < n.toNatClampNeg → zsh (M.2.2.2 + 1 + j) = (20, k.toNatClampNeg))
    (hkl : k.toNatClampNeg ≤ 3000 ∨ n.toNatClampNeg = 0 ∧ k.toNatClampNeg ≤ 3000) (hcells : cells + (1 + n.toNatClampNeg) ≤ R.cells) (hslots : slots + (n.toNatClampNeg + n.toNatClampNeg * k.toNatClampNeg) ≤ R.slots)
    (kk : ∀ (H1 : Heap), zW base dA D (znm M n.toNatClampNeg) H1 → va_S (fun q => base ≤ q) s.heap H1 locs → W p l e R s m args below meth c H1 locs (cells + 1 + n.toNatClampNeg) (slots + n.toNatClampNeg + n.toNatClampNeg * k.toNatClampNeg) Q (F0 m (pc + 4) mls (.ref (base + M.2.2.2) :: rest))) : W p l e R s m args below meth c H locs cells slots Q (F0 m pc mls (.int k :: .int n :: rest)) := by
  obtain ⟨hx, hb, hml, ho, hts, hK, hKt, hX, hT, hbs, hnm, hfr, hlo, hy⟩ := C0
  have hln : n.toNatClampNeg ≤ 3000 := by have := (zsh_ok M.2.2.2 (by omega)).2; rw [hsh] at this; exact this
  have hz : zln M.2.2.2 = n.toNatClampNeg := by unfold zln; rw [hsh]
  obtain ⟨k0, hw⟩ := zC_in hl
  have hlink := hts _ hw
  unfold zCw at hlink
  rw [if_pos rfl] at hlink
  dsimp only at hlink
  rw [zown hy] at hlink
  intro T hTT Xs
  obtain ⟨vm₁, cA, comp, -, fA, fC, hO, -, X', step⟩ := Xs.multianewarray2F hx (ty := .int) ho hlink hT.2.2.1 (hts _ zarr_in.1) (g := F0 m pc mls (.int k :: .int n :: rest)) rfl (by rw [hb]; exact hdg) rfl hn hk (by omega) (by show k.toNatClampNeg * 4 ≤ _; omega) (by omega) rfl rfl hcells hslots
  have hA0 : cA = dA 24 := Option.some.inj (fA.symm.trans (hKt 24 (by decide) (by decide)).2)
  have hC0 : comp = dA 20 := Option.some.inj (fC.symm.trans (hKt 20 (by decide) (by decide)).2)
  subst hA0
  subst hC0
  generalize hF : Jvm.Free.Multi.fill (T.setVm vm₁) (dA 24) (dA 20) n.toNatClampNeg k.toNatClampNeg (defaultValue .int) n.toNatClampNeg = F at X' step
  have hTh : (T.setVm vm₁).heap = H := hTT
  obtain ⟨f1, f2, -, -⟩ := Jvm.Free.Multi.fill_facts (T.setVm vm₁) (dA 24) (dA 20) n.toNatClampNeg k.toNatClampNeg (defaultValue .int) n.toNatClampNeg
  rw [hF, hTh] at f1 f2
  have hold : ∀ x : Nat, x < H.size → F.heap[x]? = H[x]? := fun x hx => by
    have := Jvm.Free.Multi.fill_old (T.setVm vm₁) (dA 24) (dA 20) n.toNatClampNeg k.toNatClampNeg (defaultValue .int) (a := x) (by rw [hTh]; exact hx) n.toNatClampNeg
    rw [hF, hTh] at this
    exact this
  have hinn : ∀ j : Nat, j < n.toNatClampNeg → F.heap[H.size + 1 + j]? = some (arrV (dA 20) k.toNatClampNeg (fun _ => .int 0)) := fun j hj => by
    have := Jvm.Free.Multi.fill_inner (T.setVm vm₁) (dA 24) (dA 20) n.toNatClampNeg k.toNatClampNeg (defaultValue .int) n.toNatClampNeg j hj
    rw [hF, hTh] at this
    rw [this, ← arrV_new]
    rfl
  rw [zouter] at f2
  rw [hW.1] at f1 f2 hinn
  have hnew : zW base dA D (znm M n.toNatClampNeg) F.heap := by
    refine ⟨by rw [f1]; show _ = base + (M.2.2.2 + 1 + n.toNatClampNeg); omega, fun a ha => ?_⟩
    have ha2 : a < M.2.2.2 + 1 + n.toNatClampNeg := ha
    rcases Nat.lt_trichotomy a M.2.2.2 with h | h | h
    · have h3 : zen base dA (znm M n.toNatClampNeg) a = zen base dA M a := by
        refine zen_cong ?_ ?_ ?_
        · exact if_neg (by omega)
        · exact if_neg (by omega)
        · show (if a = M.2.2.2 then _ else if M.2.2.2 < a then _ else _) = _
          rw [if_neg (by omega), if_neg (by omega)]
      rw [h3]
      have h4 := hW.2 a h
      exact h4.kept (hold _ h4.lt)
    · subst h
      rw [zen_q (k := 24) (by rw [hsh]) (by omega), hz]
      show F.heap[base + M.2.2.2]? = some (vp_cell _ _)
      rw [f2, vp_cell_q]
      refine congrArg some (congrArg (arrV (dA 24) n.toNatClampNeg) (funext fun j => congrArg va_rf ?_))
      have e6 : (znm M n.toNatClampNeg).2.2.1 M.2.2.2 j = if j < n.toNatClampNeg then M.2.2.2 + 1 + j else zNul := by
        show (if M.2.2.2 = M.2.2.2 then (fun j => if j < n.toNatClampNeg then M.2.2.2 + 1 + j else zNul) else if M.2.2.2 < M.2.2.2 then fun _ => zNul else M.2.2.1 M.2.2.2) j = _
        rw [if_pos rfl]
      rw [e6]
      by_cases hj : j < n.toNatClampNeg
      · rw [if_pos hj, if_pos hj]
        have : M.2.2.2 + 1 + j < zNul := by
          have : (505 : Nat) < zNul := by decide
          have h9 : zNC ≤ 3000 := by decide
          have h8 : (6000 : Nat) < zNul := by decide
          omega
        unfold zrf
        rw [if_pos this]
        congr 1
        omega
      · rw [if_neg hj, if_neg hj]
        unfold zrf
        rw [if_neg (by decide)]
    · obtain ⟨j, rfl⟩ : ∃ j, a = M.2.2.2 + 1 + j := ⟨a - M.2.2.2 - 1, by omega⟩
      have hj : j < n.toNatClampNeg := by omega
      rw [zen_i (k := 20) (by rw [hrow j hj]) (Or.inl rfl)]
      show F.heap[base + (M.2.2.2 + 1 + j)]? = some (vp_cell _ _)
      rw [show base + (M.2.2.2 + 1 + j) = base + M.2.2.2 + 1 + j by omega, hinn j hj, vp_cell_i]
      have hz2 : zln (M.2.2.2 + 1 + j) = k.toNatClampNeg := by unfold zln; rw [hrow j hj]
      have e5 : (znm M n.toNatClampNeg).1 (M.2.2.2 + 1 + j) = fun _ => 0 := if_pos (by omega)
      rw [hz2, e5]
  obtain ⟨t, a1, b1⟩ := kk F.heap hnew (zS_grow hS0 (by rw [f1, hW.1]; omega) hold) F rfl X'
  refine ⟨t, step t ?_, b1⟩
  have e : T.heap.size = base + M.2.2.2 := by rw [hTT, hW.1]
  rw [e]
  exact a1
end ZN
