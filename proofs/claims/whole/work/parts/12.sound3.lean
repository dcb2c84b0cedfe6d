/-! ===== one instruction ===== -/
section ZS
variable {p : Program} {l : Launch} {e : Env} {R : Room} {s : State} {m : MethodId} {args : Array Value} {below : List Frame} {meth : Method} {c : Code} {H : Heap} {locs : List Loc} {cells slots : Nat} {Q : State → Prop}
variable {base : Nat} {ad : Nat → Nat} {dA : Nat → ClassId} {D : va_G} {X : (Nat → Int32) × Nat} {d y : Nat}
def zCx (p : Program) (s : State) (m : MethodId) (args : Array Value) (meth : Method) (c : Code) (R : Room) (base : Nat) (ad : Nat → Nat) (dA : Nat → ClassId) (D : va_G) (X : (Nat → Int32) × Nat) (d y : Nat) : Prop :=
  p.tables.exec = Jvm.exec ∧ c.code = zcd y ∧ c.maxLocals = zml y ∧ s.vm.findClass (zyn y).cls = some m.cls ∧ (∀ w ∈ zbig, w.before args s = true) ∧ zKc D s ∧ zKt dA s ∧ zX base ad X s s.heap ∧ zT ad s ∧ base ≤ s.heap.size ∧ (zoc y < 13 → meth.name = (zyn y).name) ∧ d ≤ R.frames ∧ 100 * d ≤ R.locals ∧ y < zNY
/-- from here on the machine comes to Q, whatever the heap, if it holds the small machine's cells -/
def zOK (p : Program) (l : Launch) (e : Env) (R : Room) (s : State) (m : MethodId) (args : Array Value) (below : List Frame) (meth : Method) (c : Code) (Q : State → Prop) (base : Nat) (ad : Nat → Nat) (dA : Nat → ClassId) (D : va_G) (nL z0 : Nat) (f : zCf) : Prop :=
  ∀ (H : Heap) (locs : List Loc) (mls : Array Slot), zW base dA D f.2.2.2 H → va_S (fun q => base ≤ q) s.heap H locs → zLv base ad nL f.2.1 mls → W p l e R s m args below meth c H locs (f.2.2.2.2.2.2 - z0) (zss f.2.2.2.2.2.2 - zss z0) Q (F0 m f.1 mls (f.2.2.1.map (ztr base ad)))
theorem zlen {a b : Nat} (h : Nat.beq a b = true) : a = b := Nat.eq_of_beq_eq_true h
theorem zfind_eq {L : List z4} {own idx a : Nat} (h : (zfind L own idx == some a) = true) : zfind L own idx = some a := by simpa using h
theorem zW.put {M : zM} {a ci k : Nat} {v : Value} {M' : zM} {t : Nat} (h : zW base dA D M H) (hi : zis M a ci) (hc : ci < 13) (hk : k < znf ci) (hap : ∀ x y, x < znf ci → y < znf ci → x ≠ y → (D.2 ci) x ≠ (D.2 ci) y) {H' : Heap} (hz : H'.size = H.size) (ho : ∀ q : Nat, q ≠ base + a → H'[q]? = H[q]?) {cell : Cell} (q1 : H[base + a]? = some cell) (e1 : H'[base + a]? = some (cell.setSlot (D.2 ci k) v))
    (hs : M'.2.2.2 = M.2.2.2) (hb : ∀ b, b ≠ a → zen base dA M' b = zen base dA M b) (hv : zfw base M' a k (zft ci k) = v) (hn : ∀ j, j ≠ k → ∀ t, zfw base M' a j t = zfw base M a j t) : zW base dA D M' H' := by
  refine h.set hs hz ho hb ?_
  rw [zen_obj hi.2 hc]
  obtain ⟨cell', g1, g2, g3, g4⟩ := h.obj hi hc
  have e : cell' = cell := Option.some.inj (g1.symm.trans q1)
  subst e
  refine ⟨_, zcl_at hc, t_OB.to (V := updV (vp_V ((List.range (znf ci)).map fun k => zfw base M a k (zft ci k))) k v) ⟨_, e1, g2, g3, t_set g4 hap hk v⟩ (fun j hj => ?_)⟩
  have hj' : j < znf ci := hj
  show updV (vp_V ((List.range (znf ci)).map fun k => zfw base M a k (zft ci k))) k v j = vp_V ((List.range (znf ci)).map fun k => zfw base M' a k (zft ci k)) j
  rw [zrange_get hj']
  unfold updV
  by_cases e : j = k
  · subst e
    rw [if_pos rfl, hv]
  · rw [if_neg e, zrange_get hj', hn j e]
theorem zD_apart (C0 : zCx p s m args meth c R base ad dA D X d y) {ci : Nat} (hc : ci < 13) : ∀ x y, x < znf ci → y < znf ci → x ≠ y → (D.2 ci) x ≠ (D.2 ci) y := by
  obtain ⟨-, -, -, -, hts, hK, -⟩ := C0
  intro x y hx hy hne
  obtain ⟨hS, -⟩ := hK ci hc
  obtain ⟨_, _, _, fa, hia, ea⟩ := hS x hx
  obtain ⟨_, _, _, fb, hib, eb⟩ := hS y hy
  rw [← ea, ← eb]
  refine u_apart (u_lays hts (zP_in hc) hx) (u_lays hts (zP_in hc) hy) hia hib ?_
  rw [(State.fieldFound?_type hia (zcT_ok ci hc x hx).1).1, (State.fieldFound?_type hib (zcT_ok ci hc y hy).1).1]
  exact zcT_apart ci hc x hx y hy hne
theorem zown (hy : y < zNY) : zcn (zoc y) = (zyn y).cls := by
  have h := zym_ok y hy
  simp only [zym, Bool.and_eq_true, decide_eq_true_eq] at h
  exact h.1.1.1.1.1.2
/-- getfield of an own object -/
theorem zs_getf (C0 : zCx p s m args meth c R base ad dA D X d y) {M : zM} (hW : zW base dA D M H) {pc idx aux a : Nat} {mls : Array Slot} {rest : List Value} (hdg : decode (zcd y) pc = .ok (.getfield idx, 3)) (hl : zfind zFL (zoc y) idx = some aux) (h1 : aux / 100 < 13) (h2 : aux % 100 < znf (aux / 100)) (ha : aux < 100000) (hi : zis M a (aux / 100)) {v : Value} (hv : zfw base M a (aux % 100) (zft (aux / 100) (aux % 100)) = v)
    (kk : W p l e R s m args below meth c H locs cells slots Q (F0 m (pc + 3) mls (v :: rest))) : W p l e R s m args below meth c H locs cells slots Q (F0 m pc mls (.ref (base + a) :: rest)) := by
  obtain ⟨hx, hb, hml, ho, hts, hK, hKt, hX, hT, hbs, hnm, hfr, hlo, hy⟩ := C0
  obtain ⟨cell, q1, q2, q3, q4⟩ := hW.obj hi h1
  obtain ⟨hS, hfc, kC, hkC, hkind⟩ := hK _ h1
  obtain ⟨cf, kf, fi, f, hif, hsl⟩ := hS _ h2
  obtain ⟨k0, hw⟩ := zF_in hl
  have hlink := hts _ hw
  unfold zFw at hlink
  rw [if_neg (show ¬ aux = 100000 by omega), if_neg (show ¬ aux = 100001 by omega)] at hlink
  dsimp only at hlink
  rw [zown hy] at hlink
  rw [(zcT_ok _ h1 _ h2).2] at hif
  refine W.getf hx hb ho hlink hif (u_facts hfc hkC (u_lays hts (zP_in h1) h2) (by rw [(zcT_ok _ h1 _ h2).2]; exact hif)).1 q1 (by rw [q3]; exact fun h => by cases h) (v := v) ?_ rfl rfl hdg kk
  rw [hsl, q4 _ h2, zrange_get h2, hv]
/-- putfield of an own object -/
theorem zs_putf (C0 : zCx p s m args meth c R base ad dA D X d y) {M M' : zM} (hW : zW base dA D M H) (hS0 : va_S (fun q => base ≤ q) s.heap H locs) {pc idx aux a : Nat} {mls : Array Slot} {rest : List Value} (hdg : decode (zcd y) pc = .ok (.putfield idx, 3)) (hl : zfind zFL (zoc y) idx = some aux) (h1 : aux / 100 < 13) (h2 : aux % 100 < znf (aux / 100)) (hfin : (zcT (aux / 100) (aux % 100)).2.2.2 = true → (zyn y).name = "<init>" ∧ zoc y = aux / 100) (hi : zis M a (aux / 100)) {v : Value}
    (hs : M'.2.2.2 = M.2.2.2) (hbq : ∀ b, b ≠ a → zen base dA M' b = zen base dA M b) (hv : zfw base M' a (aux % 100) (zft (aux / 100) (aux % 100)) = v) (hn : ∀ j, j ≠ aux % 100 → ∀ t, zfw base M' a j t = zfw base M a j t) (hnar : narrow (zfy (aux / 100) (aux % 100)) v = v) (hfit : fits (zfy (aux / 100) (aux % 100)) v = true)
    (kk : ∀ (H1 : Heap) (locs1 : List Loc), zW base dA D M' H1 → va_S (fun q => base ≤ q) s.heap H1 locs1 → W p l e R s m args below meth c H1 locs1 cells slots Q (F0 m (pc + 3) mls rest)) : W p l e R s m args below meth c H locs cells slots Q (F0 m pc mls (v :: .ref (base + a) :: rest)) := by
  have hap := zD_apart C0 h1
  obtain ⟨hx, hb, hml, ho, hts, hK, hKt, hX, hT, hbs, hnm, hfr, hlo, hy⟩ := C0
  obtain ⟨cell, q1, q2, q3, q4⟩ := hW.obj hi h1
  obtain ⟨hS, hfc, kC, hkC, hkind⟩ := hK _ h1
  obtain ⟨cf, kf, fi, f, hif, hsl⟩ := hS _ h2
  obtain ⟨k0, hw⟩ := zF_in hl
  have hlink := hts _ hw
  have hau : aux < 100000 := by omega
  unfold zFw at hlink
  rw [if_neg (show ¬ aux = 100000 by omega), if_neg (show ¬ aux = 100001 by omega)] at hlink
  dsimp only at hlink
  rw [zown hy] at hlink
  have hty := (zcT_ok _ h1 _ h2).1
  have hown1 := (zcT_ok _ h1 _ h2).2
  have hst := (u_facts hfc hkC (u_lays hts (zP_in h1) h2) hif).1
  have hlay := hts _ (zP_in h1 _ (u_in_lay h2))
  unfold u_lay at hlay
  by_cases hf : (zcT (aux / 100) (aux % 100)).2.2.2 = true
  · obtain ⟨g1, g2⟩ := hfin hf
    rw [if_pos hf] at hlay
    have hcf : m.cls = cf := by
      obtain ⟨_, _, c', _, _, _, -, -, hf', -, -, -, hown2, -⟩ := Cond.laysFinal_spec hlay
      have e1 : c' = cf := by have := hif.symm.trans hf'; simp at this; exact this.1.symm
      rw [hown1, ← g2, zown hy] at hown2
      rw [← e1]; exact Option.some.inj (ho.symm.trans hown2)
    have h6 := u_fits hfc hkC hkind (Or.inr hlay) hif hty hnar hfit
    refine W.putFinK hx hb ho hlink (by rw [← hown1]; exact hif) hst hcf (by rw [hnm (by omega)]; exact g1) (by rw [q2]; exact h6) q1 q3 (by rw [hsl]; exact k2_hasslot (q4 _ h2)) rfl rfl hdg fun H' e1 e2 e3 => ?_
    rw [hsl] at e1 ⊢
    exact kk H' _ (hW.put (t := 0) hi h1 h2 hap e2 e3 q1 e1 hs hbq hv hn) (hS0.put e2 e3 (Nat.le_add_right _ _))
  · rw [if_neg hf] at hlay
    have h6 := u_store hfc hkC hkind hlay hif hty hnar hfit
    refine W.putK hx hb (f := f) ⟨ho, hlink, ⟨_, _, _, by rw [← hown1]; exact hif⟩, hst⟩ (by rw [q2]; exact h6) q1 q3 (by rw [hsl]; exact k2_hasslot (q4 _ h2)) rfl rfl hdg fun H' e1 e2 e3 => ?_
    rw [hsl] at e1 ⊢
    exact kk H' _ (hW.put (t := 0) hi h1 h2 hap e2 e3 q1 e1 hs hbq hv hn) (hS0.put e2 e3 (Nat.le_add_right _ _))
theorem zW.ari {M : zM} {a k : Nat} (h : zW base dA D M H) (hi : zis M a k) (hk : k = 20 ∨ k = 21 ∨ k = 22) : H[base + a]? = some (vp_cell (dA k) (zln a, .inl (M.1 a))) := by
  have h2 := h.2 a hi.1
  rw [zen_i hi.2 hk] at h2
  exact h2
theorem zW.arl {M : zM} {a : Nat} (h : zW base dA D M H) (hi : zis M a 23) : H[base + a]? = some (vp_cell (dA 23) (zln a, .inr (.inl (M.2.1 a)))) := by
  have h2 := h.2 a hi.1
  rw [zen_l hi.2] at h2
  exact h2
theorem zW.arq {M : zM} {a k : Nat} (h : zW base dA D M H) (hi : zis M a k) (hk : 24 ≤ k) : H[base + a]? = some (vp_cell (dA k) (zln a, .inr (.inr (.inr (.inr fun j => zrf base (M.2.2.1 a j)))))) := by
  have h2 := h.2 a hi.1
  rw [zen_q hi.2 hk] at h2
  exact h2
/-- iaload, baload -/
theorem zs_iald (C0 : zCx p s m args meth c R base ad dA D X d y) {M : zM} (hW : zW base dA D M H) {pc a : Nat} {i : Int32} {mls : Array Slot} {rest : List Value} (hdg : decode (zcd y) pc = .ok (.iaload, 1)) (hi : zis M a 20) (hin : vp_in i (zln a))
    (kk : W p l e R s m args below meth c H locs cells slots Q (F0 m (pc + 1) mls (.int (M.1 a i.toNatClampNeg) :: rest))) : W p l e R s m args below meth c H locs cells slots Q (F0 m pc mls (.int i :: .ref (base + a) :: rest)) := by
  obtain ⟨hx, hb, hml, ho, hts, hK, hKt, hX, hT, hbs, hnm, hfr, hlo, hy⟩ := C0
  have hlt : i.toNatClampNeg < zln a := Nat.not_le.mp fun q => hin (Or.inr q)
  exact W.iald (v := .int (M.1 a i.toNatClampNeg)) hx hb (hW.ari hi (Or.inl rfl)) ((hKt 20 (by decide) (by decide)).1 (zln a) (fun j => .int (M.1 a j))) (fun q => by cases q) (by show ¬ (i < 0 ∨ (arrV _ _ _).slots.size ≤ _); rw [arrV_size]; exact hin) (by show (arrV _ _ _).slots[_]? = _; rw [arrV_read _ _ hlt]) rfl rfl hdg kk
theorem zs_bald (C0 : zCx p s m args meth c R base ad dA D X d y) {M : zM} (hW : zW base dA D M H) {pc a : Nat} {i : Int32} {mls : Array Slot} {rest : List Value} (hdg : decode (zcd y) pc = .ok (.baload, 1)) (hi : zis M a 21) (hin : vp_in i (zln a))
    (kk : W p l e R s m args below meth c H locs cells slots Q (F0 m (pc + 1) mls (.int (M.1 a i.toNatClampNeg) :: rest))) : W p l e R s m args below meth c H locs cells slots Q (F0 m pc mls (.int i :: .ref (base + a) :: rest)) := by
  obtain ⟨hx, hb, hml, ho, hts, hK, hKt, hX, hT, hbs, hnm, hfr, hlo, hy⟩ := C0
  have hlt : i.toNatClampNeg < zln a := Nat.not_le.mp fun q => hin (Or.inr q)
  exact W.bald (v := .int (M.1 a i.toNatClampNeg)) hx hb (hW.ari hi (Or.inr (Or.inl rfl))) ((hKt 21 (by decide) (by decide)).1 (zln a) (fun j => .int (M.1 a j))) (fun q => by cases q) (by show ¬ (i < 0 ∨ (arrV _ _ _).slots.size ≤ _); rw [arrV_size]; exact hin) (by show (arrV _ _ _).slots[_]? = _; rw [arrV_read _ _ hlt]) rfl rfl hdg kk
theorem zs_zald (C0 : zCx p s m args meth c R base ad dA D X d y) {M : zM} (hW : zW base dA D M H) {pc a : Nat} {i : Int32} {mls : Array Slot} {rest : List Value} (hdg : decode (zcd y) pc = .ok (.baload, 1)) (hi : zis M a 22) (hin : vp_in i (zln a))
    (kk : W p l e R s m args below meth c H locs cells slots Q (F0 m (pc + 1) mls (.int (M.1 a i.toNatClampNeg) :: rest))) : W p l e R s m args below meth c H locs cells slots Q (F0 m pc mls (.int i :: .ref (base + a) :: rest)) := by
  obtain ⟨hx, hb, hml, ho, hts, hK, hKt, hX, hT, hbs, hnm, hfr, hlo, hy⟩ := C0
  have hlt : i.toNatClampNeg < zln a := Nat.not_le.mp fun q => hin (Or.inr q)
  exact W.zald (v := .int (M.1 a i.toNatClampNeg)) hx hb (hW.ari hi (Or.inr (Or.inr rfl))) ((hKt 22 (by decide) (by decide)).1 (zln a) (fun j => .int (M.1 a j))) (fun q => by cases q) (by show ¬ (i < 0 ∨ (arrV _ _ _).slots.size ≤ _); rw [arrV_size]; exact hin) (by show (arrV _ _ _).slots[_]? = _; rw [arrV_read _ _ hlt]) rfl rfl hdg kk
theorem zs_lald (C0 : zCx p s m args meth c R base ad dA D X d y) {M : zM} (hW : zW base dA D M H) {pc a : Nat} {i : Int32} {mls : Array Slot} {rest : List Value} (hdg : decode (zcd y) pc = .ok (.laload, 1)) (hi : zis M a 23) (hin : vp_in i (zln a))
    (kk : W p l e R s m args below meth c H locs cells slots Q (F0 m (pc + 1) mls (.long (M.2.1 a i.toNatClampNeg) :: rest))) : W p l e R s m args below meth c H locs cells slots Q (F0 m pc mls (.int i :: .ref (base + a) :: rest)) := by
  obtain ⟨hx, hb, hml, ho, hts, hK, hKt, hX, hT, hbs, hnm, hfr, hlo, hy⟩ := C0
  have hlt : i.toNatClampNeg < zln a := Nat.not_le.mp fun q => hin (Or.inr q)
  exact W.lald (v := .long (M.2.1 a i.toNatClampNeg)) hx hb (hW.arl hi) ((hKt 23 (by decide) (by decide)).1 (zln a) (fun j => .long (M.2.1 a j))) (fun q => by cases q) (by show ¬ (i < 0 ∨ (arrV _ _ _).slots.size ≤ _); rw [arrV_size]; exact hin) (by show (arrV _ _ _).slots[_]? = _; rw [arrV_read _ _ hlt]) rfl rfl hdg kk
theorem zty_ref {k : Nat} (h1 : 24 ≤ k) (h2 : k ≤ 27) : (zty k).isReference = true := by
  rcases (show k = 24 ∨ k = 25 ∨ k = 26 ∨ k = 27 by omega) with rfl | rfl | rfl | rfl <;> rfl
theorem zs_qald (C0 : zCx p s m args meth c R base ad dA D X d y) {M : zM} (hW : zW base dA D M H) {pc a k : Nat} {i : Int32} {mls : Array Slot} {rest : List Value} (hdg : decode (zcd y) pc = .ok (.aaload, 1)) (h1 : 24 ≤ k) (h2 : k ≤ 27) (hi : zis M a k) (hin : vp_in i (zln a)) (hr : M.2.2.1 a i.toNatClampNeg < zNul)
    (kk : W p l e R s m args below meth c H locs cells slots Q (F0 m (pc + 1) mls (.ref (base + M.2.2.1 a i.toNatClampNeg) :: rest))) : W p l e R s m args below meth c H locs cells slots Q (F0 m pc mls (.int i :: .ref (base + a) :: rest)) := by
  obtain ⟨hx, hb, hml, ho, hts, hK, hKt, hX, hT, hbs, hnm, hfr, hlo, hy⟩ := C0
  have hlt : i.toNatClampNeg < zln a := Nat.not_le.mp fun q => hin (Or.inr q)
  have hz : va_rf (zrf base (M.2.2.1 a i.toNatClampNeg)) = .ref (base + M.2.2.1 a i.toNatClampNeg) := by unfold zrf; rw [if_pos hr]; rfl
  exact W.aald (v := .ref (base + M.2.2.1 a i.toNatClampNeg)) (ty := zty k) hx hb (hW.arq hi h1) ((hKt k (by omega) h2).1 (zln a) (fun j => va_rf (zrf base (M.2.2.1 a j)))) (zty_ref h1 h2) (fun q => by cases q) (by show ¬ (i < 0 ∨ (arrV _ _ _).slots.size ≤ _); rw [arrV_size]; exact hin) (by show (arrV _ _ _).slots[_]? = _; rw [arrV_read _ _ hlt, hz]) rfl rfl hdg kk
/-- iastore, bastore, lastore, aastore -/
theorem zs_store {M M' : zM} {a : Nat} (hW : zW base dA D M H) {H1 : Heap} (hs : M'.2.2.2 = M.2.2.2) (e2 : H1.size = H.size) (e3 : ∀ q : Nat, q ≠ base + a → H1[q]? = H[q]?) (hb : ∀ b, b ≠ a → zen base dA M' b = zen base dA M b) (ha : va_at D zcl (base + a, zen base dA M' a) H1) : zW base dA D M' H1 := hW.set hs e2 e3 hb ha
theorem zs_iast (C0 : zCx p s m args meth c R base ad dA D X d y) {M : zM} (hW : zW base dA D M H) (hS0 : va_S (fun q => base ≤ q) s.heap H locs) {pc a : Nat} {i x : Int32} {mls : Array Slot} {rest : List Value} (hdg : decode (zcd y) pc = .ok (.iastore, 1)) (hi : zis M a 20) (hin : vp_in i (zln a))
    (kk : ∀ (H1 : Heap) (locs1 : List Loc), zW base dA D (zsI M a i.toNatClampNeg x) H1 → va_S (fun q => base ≤ q) s.heap H1 locs1 → W p l e R s m args below meth c H1 locs1 cells slots Q (F0 m (pc + 1) mls rest)) : W p l e R s m args below meth c H locs cells slots Q (F0 m pc mls (.int x :: .int i :: .ref (base + a) :: rest)) := by
  obtain ⟨hx, hb, hml, ho, hts, hK, hKt, hX, hT, hbs, hnm, hfr, hlo, hy⟩ := C0
  refine W.iast hx hb (hW.ari hi (Or.inl rfl)) ((hKt 20 (by decide) (by decide)).1 (zln a) (fun j => .int (M.1 a j))) (fun q => by cases q) (by show ¬ (i < 0 ∨ (arrV _ _ _).slots.size ≤ _); rw [arrV_size]; exact hin) rfl rfl hdg fun H1 e1 e2 e3 => ?_
  refine kk H1 _ (zs_store hW rfl e2 e3 (fun b hb => zen_cong (zup_ne hb) rfl rfl) ?_) (hS0.put e2 e3 (Nat.le_add_right _ _))
  rw [zen_i hi.2 (Or.inl rfl)]
  show H1[base + a]? = some (vp_cell _ _)
  rw [e1, vp_cell_i, vp_cell_i, arrV_store]
  congr 2
  funext q
  show updV _ _ _ q = Value.int (zup M.1 a i.toNatClampNeg x a q)
  rw [zup_eq]
  by_cases hq : q = i.toNatClampNeg
  · simp [updV, hq]
  · simp [updV, hq]
theorem zs_bast (C0 : zCx p s m args meth c R base ad dA D X d y) {M : zM} (hW : zW base dA D M H) (hS0 : va_S (fun q => base ≤ q) s.heap H locs) {pc a : Nat} {i x : Int32} {mls : Array Slot} {rest : List Value} (hdg : decode (zcd y) pc = .ok (.bastore, 1)) (hi : zis M a 21) (hin : vp_in i (zln a))
    (kk : ∀ (H1 : Heap) (locs1 : List Loc), zW base dA D (zsI M a i.toNatClampNeg x.toInt8.toInt32) H1 → va_S (fun q => base ≤ q) s.heap H1 locs1 → W p l e R s m args below meth c H1 locs1 cells slots Q (F0 m (pc + 1) mls rest)) : W p l e R s m args below meth c H locs cells slots Q (F0 m pc mls (.int x :: .int i :: .ref (base + a) :: rest)) := by
  obtain ⟨hx, hb, hml, ho, hts, hK, hKt, hX, hT, hbs, hnm, hfr, hlo, hy⟩ := C0
  refine W.bast hx hb (hW.ari hi (Or.inr (Or.inl rfl))) ((hKt 21 (by decide) (by decide)).1 (zln a) (fun j => .int (M.1 a j))) (fun q => by cases q) (by show ¬ (i < 0 ∨ (arrV _ _ _).slots.size ≤ _); rw [arrV_size]; exact hin) rfl rfl hdg fun H1 e1 e2 e3 => ?_
  refine kk H1 _ (zs_store hW rfl e2 e3 (fun b hb => zen_cong (zup_ne hb) rfl rfl) ?_) (hS0.put e2 e3 (Nat.le_add_right _ _))
  rw [zen_i hi.2 (Or.inr (Or.inl rfl))]
  show H1[base + a]? = some (vp_cell _ _)
  rw [e1, vp_cell_i, vp_cell_i, arrV_store]
  congr 2
  funext q
  show updV _ _ _ q = Value.int (zup M.1 a i.toNatClampNeg x.toInt8.toInt32 a q)
  rw [zup_eq]
  by_cases hq : q = i.toNatClampNeg
  · simp [updV, hq, narrow]
  · simp [updV, hq]
theorem zs_zast (C0 : zCx p s m args meth c R base ad dA D X d y) {M : zM} (hW : zW base dA D M H) (hS0 : va_S (fun q => base ≤ q) s.heap H locs) {pc a : Nat} {i x : Int32} {mls : Array Slot} {rest : List Value} (hdg : decode (zcd y) pc = .ok (.bastore, 1)) (hi : zis M a 22) (hin : vp_in i (zln a))
    (kk : ∀ (H1 : Heap) (locs1 : List Loc), zW base dA D (zsI M a i.toNatClampNeg (x &&& 1)) H1 → va_S (fun q => base ≤ q) s.heap H1 locs1 → W p l e R s m args below meth c H1 locs1 cells slots Q (F0 m (pc + 1) mls rest)) : W p l e R s m args below meth c H locs cells slots Q (F0 m pc mls (.int x :: .int i :: .ref (base + a) :: rest)) := by
  obtain ⟨hx, hb, hml, ho, hts, hK, hKt, hX, hT, hbs, hnm, hfr, hlo, hy⟩ := C0
  refine W.zast hx hb (hW.ari hi (Or.inr (Or.inr rfl))) ((hKt 22 (by decide) (by decide)).1 (zln a) (fun j => .int (M.1 a j))) (fun q => by cases q) (by show ¬ (i < 0 ∨ (arrV _ _ _).slots.size ≤ _); rw [arrV_size]; exact hin) rfl rfl hdg fun H1 e1 e2 e3 => ?_
  refine kk H1 _ (zs_store hW rfl e2 e3 (fun b hb => zen_cong (zup_ne hb) rfl rfl) ?_) (hS0.put e2 e3 (Nat.le_add_right _ _))
  rw [zen_i hi.2 (Or.inr (Or.inr rfl))]
  show H1[base + a]? = some (vp_cell _ _)
  rw [e1, vp_cell_i, vp_cell_i, arrV_store]
  congr 2
  funext q
  show updV _ _ _ q = Value.int (zup M.1 a i.toNatClampNeg (x &&& 1) a q)
  rw [zup_eq]
  by_cases hq : q = i.toNatClampNeg
  · simp [updV, hq, narrow]
  · simp [updV, hq]
theorem zs_last (C0 : zCx p s m args meth c R base ad dA D X d y) {M : zM} (hW : zW base dA D M H) (hS0 : va_S (fun q => base ≤ q) s.heap H locs) {pc a : Nat} {i : Int32} {x : Int64} {mls : Array Slot} {rest : List Value} (hdg : decode (zcd y) pc = .ok (.lastore, 1)) (hi : zis M a 23) (hin : vp_in i (zln a))
    (kk : ∀ (H1 : Heap) (locs1 : List Loc), zW base dA D (zsL M a i.toNatClampNeg x) H1 → va_S (fun q => base ≤ q) s.heap H1 locs1 → W p l e R s m args below meth c H1 locs1 cells slots Q (F0 m (pc + 1) mls rest)) : W p l e R s m args below meth c H locs cells slots Q (F0 m pc mls (.long x :: .int i :: .ref (base + a) :: rest)) := by
  obtain ⟨hx, hb, hml, ho, hts, hK, hKt, hX, hT, hbs, hnm, hfr, hlo, hy⟩ := C0
  refine W.last hx hb (hW.arl hi) ((hKt 23 (by decide) (by decide)).1 (zln a) (fun j => .long (M.2.1 a j))) (fun q => by cases q) (by show ¬ (i < 0 ∨ (arrV _ _ _).slots.size ≤ _); rw [arrV_size]; exact hin) rfl rfl hdg fun H1 e1 e2 e3 => ?_
  refine kk H1 _ (zs_store hW rfl e2 e3 (fun b hb => zen_cong rfl (zup_ne hb) rfl) ?_) (hS0.put e2 e3 (Nat.le_add_right _ _))
  rw [zen_l hi.2]
  show H1[base + a]? = some (vp_cell _ _)
  rw [e1, vp_cell_l, vp_cell_l, arrV_store]
  congr 2
  funext q
  show updV _ _ _ q = Value.long (zup M.2.1 a i.toNatClampNeg x a q)
  rw [zup_eq]
  by_cases hq : q = i.toNatClampNeg
  · simp [updV, hq]
  · simp [updV, hq]
theorem zel_ok {k : Nat} (h1 : 25 ≤ k) (h2 : k ≤ 27) : zel k < 13 ∧ zty k = .object (zcn (zel k)) := by
  rcases (show k = 25 ∨ k = 26 ∨ k = 27 by omega) with rfl | rfl | rfl <;> exact ⟨by decide, rfl⟩
theorem zs_qast (C0 : zCx p s m args meth c R base ad dA D X d y) {M : zM} (hW : zW base dA D M H) (hS0 : va_S (fun q => base ≤ q) s.heap H locs) {pc a v k : Nat} {i : Int32} {mls : Array Slot} {rest : List Value} (hdg : decode (zcd y) pc = .ok (.aastore, 1)) (h1 : 25 ≤ k) (h2 : k ≤ 27) (hi : zis M a k) (hin : vp_in i (zln a)) (hv : zis M v (zel k)) (hr : v < zNul)
    (kk : ∀ (H1 : Heap) (locs1 : List Loc), zW base dA D (zsR M a i.toNatClampNeg v) H1 → va_S (fun q => base ≤ q) s.heap H1 locs1 → W p l e R s m args below meth c H1 locs1 cells slots Q (F0 m (pc + 1) mls rest)) : W p l e R s m args below meth c H locs cells slots Q (F0 m pc mls (.ref (base + v) :: .int i :: .ref (base + a) :: rest)) := by
  obtain ⟨hx, hb, hml, ho, hts, hK, hKt, hX, hT, hbs, hnm, hfr, hlo, hy⟩ := C0
  have hlt : i.toNatClampNeg < zln a := Nat.not_le.mp fun q => hin (Or.inr q)
  have h0 : ¬ i < 0 := fun q => hin (Or.inl q)
  obtain ⟨g1, g2⟩ := zel_ok h1 h2
  obtain ⟨cellV, f1, f2, f3, -⟩ := hW.obj hv g1
  have hcls := (hK _ g1).2
  have hra := (hKt k (by omega) h2).2
  rw [g2] at hra
  obtain ⟨kA, comp, k1, k2, k3, -⟩ := hra
  have hcomp : comp = D.1 (zel k) := Option.some.inj (k3.symm.trans hcls.1)
  subst hcomp
  obtain ⟨kC, hkC, hkd⟩ := hcls.2
  refine W.aast hx hb (hW.arq hi (by omega)) (fun q h => by cases h) (fun h => by cases h) k1 k2 rfl hkC ⟨h0, by show _ < (arrV _ _ _).slots.size; rw [arrV_size]; exact hlt⟩ f1 (fun q h => by rw [f3] at h; cases h) (by rw [f2]; exact hkC) (by rw [f2]; exact va_assign hcls) rfl rfl hdg fun H1 e1 e2 e3 => ?_
  refine kk H1 _ (zs_store hW rfl e2 e3 (fun b hb => zen_cong rfl rfl (zup_ne hb)) ?_) (hS0.put e2 e3 (Nat.le_add_right _ _))
  rw [zen_q hi.2 (by omega)]
  show H1[base + a]? = some (vp_cell _ _)
  rw [e1, vp_cell_q, vp_cell_q, arrV_store]
  congr 2
  funext q
  show updV _ _ _ q = va_rf (zrf base (zup M.2.2.1 a i.toNatClampNeg v a q))
  rw [zup_eq]
  by_cases hq : q = i.toNatClampNeg
  · simp [updV, hq, zrf, hr, va_rf]
  · simp [updV, hq]
/-- arraylength -/
theorem zs_alen (C0 : zCx p s m args meth c R base ad dA D X d y) {M : zM} (hW : zW base dA D M H) {pc a : Nat} {mls : Array Slot} {rest : List Value} (hdg : decode (zcd y) pc = .ok (.arraylength, 1)) (ha : a < M.2.2.2) (h1 : 20 ≤ (zsh a).1) (h2 : (zsh a).1 < 30)
    (kk : W p l e R s m args below meth c H locs cells slots Q (F0 m (pc + 1) mls (.int (Int32.ofNat (zln a)) :: rest))) : W p l e R s m args below meth c H locs cells slots Q (F0 m pc mls (.ref (base + a) :: rest)) := by
  obtain ⟨hx, hb, hml, ho, hts, hK, hKt, hX, hT, hbs, hnm, hfr, hlo, hy⟩ := C0
  have h27 : (zsh a).1 ≤ 27 := by
    rcases Nat.lt_or_ge a zNC with g | g
    · have := (zsh_ok a g).1
      omega
    · rw [zsh_out g] at h2
      exact absurd h2 (by decide)
  generalize hk : (zsh a).1 = k at h1 h27
  rcases (show (k = 20 ∨ k = 21 ∨ k = 22) ∨ k = 23 ∨ 24 ≤ k by omega) with g | g | g
  · exact W.alen (n := Int32.ofNat (zln a)) hx hb (hW.ari ⟨ha, hk⟩ g) ((hKt k h1 h27).1 (zln a) (fun j => .int (M.1 a j))) (by show (arrV _ _ _).slots.size.toInt32 = _; rw [arrV_size]) rfl rfl hdg kk
  · subst g
    exact W.alen (n := Int32.ofNat (zln a)) hx hb (hW.arl ⟨ha, hk⟩) ((hKt 23 h1 h27).1 (zln a) (fun j => .long (M.2.1 a j))) (by show (arrV _ _ _).slots.size.toInt32 = _; rw [arrV_size]) rfl rfl hdg kk
  · exact W.alen (n := Int32.ofNat (zln a)) hx hb (hW.arq ⟨ha, hk⟩ g) ((hKt k h1 h27).1 (zln a) (fun j => va_rf (zrf base (M.2.2.1 a j)))) (by show (arrV _ _ _).slots.size.toInt32 = _; rw [arrV_size]) rfl rfl hdg kk
end ZS
