section ZCL
variable {p : Program} {l : Launch} {e : Env} {R : Room} {s : State} {m : MethodId} {args : Array Value} {below : List Frame} {meth : Method} {c : Code} {H : Heap} {locs : List Loc} {cells slots : Nat} {Q : State → Prop}
variable {base : Nat} {ad : Nat → Nat} {dA : Nat → ClassId} {D : va_G} {X : (Nat → Int32) × Nat} {d y : Nat}
theorem zs_fix (C0 : zCx p s m args meth c R base ad dA D X (d + 1) y) : CallFix p m c (zcd y) (zml y) s args zbig (zyn y).cls := by
  obtain ⟨hx, hb, hml, ho, hts, -⟩ := C0
  exact ⟨hx, hb, hml, ho, hts⟩
theorem zs_cb (C0 : zCx p s m args meth c R base ad dA D X (d + 1) y) {idx aux : Nat} {M M' : zM} (hl : zfind zML (zoc y) idx = some aux) (ha : aux < 9990) (h1 : 1 ≤ aux / 10) (h2 : aux / 10 < zNY) {n : Nat} (hn : (parseMethodDescriptor (zyn (aux / 10)).desc).map (fun d => d.parameters.length) = some n) : CallB R s args (zyn y).cls idx (zyn (aux / 10)) (zcd (aux / 10)) (zml (aux / 10)) (zrt (aux / 10)) (zws (aux / 10)) (zrm d M M') (M'.2.2.2 - M.2.2.2) (zss M'.2.2.2 - zss M.2.2.2) n := by
  obtain ⟨hx, hb, hml, ho, hts, hK, hKt, hX, hT, hbs, hnm, hfr, hlo, hy⟩ := C0
  obtain ⟨k0, hw⟩ := zM_in hl
  have hlink := hts _ hw
  unfold zMw at hlink
  dsimp only at hlink
  have hz : zMn aux = zyn (aux / 10) := by
    unfold zMn
    rw [if_neg (by omega), if_neg (by omega), if_neg (by omega), if_neg (by omega), if_neg (by omega)]
  rw [zown hy, hz] at hlink
  obtain ⟨g1, g2, g3, g4, g5, g6, g7⟩ := zym_inv h2
  refine callB_of n hts (zws_good h1 h2) rfl rfl rfl ?_ hlink ⟨g3.1, g3.2, hn⟩ ⟨hfr, ?_⟩
  · rw [← g2]
    exact hts _ (zN_in g6)
  · show 8 + (zml (aux / 10) + 11) + 100 * d ≤ R.locals
    omega
theorem zs_cn (C0 : zCx p s m args meth c R base ad dA D X (d + 1) y) {idx aux : Nat} {M M' : zM} (hl : zfind zNM (zoc y) idx = some aux) (h1 : 1 ≤ aux / 10) (h2 : aux / 10 < zNY) {n : Nat} (hn : (parseMethodDescriptor (zyn (aux / 10)).desc).map (fun d => d.parameters.length) = some n) : va_CN R s args (zyn y).cls idx (zyn (aux / 10)) "ThroneSale" (zcd (aux / 10)) (zml (aux / 10)) (zrt (aux / 10)) (zws (aux / 10)) (zrm d M M') (M'.2.2.2 - M.2.2.2) (zss M'.2.2.2 - zss M.2.2.2) n := by
  obtain ⟨hx, hb, hml, ho, hts, hK, hKt, hX, hT, hbs, hnm, hfr, hlo, hy⟩ := C0
  obtain ⟨k0, hk⟩ := zfind_to hl
  have hlink := hT.2.1 _ hk
  unfold zNw at hlink
  dsimp only at hlink
  rw [zown hy] at hlink
  obtain ⟨g1, g2, g3, g4, g5, g6, g7⟩ := zym_inv h2
  refine va_cnB n hts (zws_good h1 h2) rfl rfl rfl hlink ?_ ⟨g3.1, g3.2, hn⟩ ⟨hfr, ?_⟩
  · rw [← g2]
    exact hts _ (zN_in g6)
  · show 8 + (zml (aux / 10) + 11) + 100 * d ≤ R.locals
    omega
theorem zs_callV (C0 : zCx p s m args meth c R base ad dA D X (d + 1) y) {M : zM} (hW : zW base dA D M H) (hS0 : va_S (fun q => base ≤ q) s.heap H locs) {pc idx aux a : Nat} {mls : Array Slot} {lst r : List Value} {o : zO} (hL : mls.size = zml y) (hdg : decode (zcd y) pc = .ok (.invokevirtual idx, 3)) (hl : zfind zML (zoc y) idx = some aux ∨ zfind zNM (zoc y) idx = some aux) (ha : aux < 9990) (hm : zmd aux false false = true) (hlen : (Value.ref a :: lst).length = aux % 10) (hr : zcat r ≤ 8) (hrecv : ∃ cell : Cell, H[base + a]? = some cell ∧ cell.vm.isStatics = false ∧ s.vm.findClass (zyn (aux / 10)).cls = some cell.cls)
    (hM : zMet l base ad dA D X d (aux / 10) (.ref a :: lst) M o) (hc : cells + (o.2.2.2.2 - M.2.2.2) ≤ R.cells ∧ slots + (zss o.2.2.2.2 - zss M.2.2.2) ≤ R.slots)
    (kk : ∀ (H1 : Heap) (locs1 : List Loc), zW base dA D o.2 H1 → va_S (fun q => base ≤ q) s.heap H1 locs1 → W p l e R s m args below meth c H1 locs1 (cells + (o.2.2.2.2 - M.2.2.2)) (slots + (zss o.2.2.2.2 - zss M.2.2.2)) Q (F0 m (pc + 3) mls ((zps o.1 r).map (ztr base ad)))) : W p l e R s m args below meth c H locs cells slots Q (F0 m pc mls (((Value.ref a :: lst).reverse ++ r).map (ztr base ad))) := by
  obtain ⟨q1, q2, q3, q4, q5⟩ := zmd_inv hm
  obtain ⟨g1, g2, g3, g4, g5, g6, g7⟩ := zym_inv q2
  have hts := C0.2.2.2.2.1
  have h1 : 1 ≤ aux / 10 := by omega
  have hY := (zY_in h1 q2).2.2 q4
  have hsel := hY.2 (by simpa using q5)
  rw [q4] at g4
  have hn : (lst.map (ztr base ad)).length = zna (aux / 10) - 1 := by
    rw [List.length_map, ← q3, ← hlen]
    rfl
  have hpc := zPc_at C0 hW hS0 (.ref a :: lst)
  have hst : (((Value.ref a :: lst).reverse ++ r).map (ztr base ad)) = (lst.map (ztr base ad)).reverse ++ .ref (base + a) :: r.map (ztr base ad) := by simp [ztr]
  rw [hst]
  refine zs_back (o := o) (a := (Value.ref (base + a) :: lst.map (ztr base ad)).toArray) hS0 ?_ kk
  rcases hl with hl | hl
  · exact va_runV (C := (zyn (aux / 10)).cls) (zs_fix C0) hM ⟨zs_cb C0 hl ha h1 q2 g4, hts _ hY.1, hts _ hsel⟩ ⟨zPc_blind, hrecv, hpc⟩ rfl hn hL rfl (lv_room (by rw [zcat_sum]; exact hr)) hdg hc
  · exact va_runVN (C := (zyn (aux / 10)).cls) (zs_fix C0) hM ⟨zs_cn C0 hl h1 q2 g4, hts _ hY.1, hts _ hsel⟩ ⟨zPc_blind, hrecv, hpc⟩ rfl hn hL rfl (lv_room (by rw [zcat_sum]; exact hr)) hdg hc
theorem zs_callVX (C0 : zCx p s m args meth c R base ad dA D X (d + 1) y) {M : zM} (hW : zW base dA D M H) (hS0 : va_S (fun q => base ≤ q) s.heap H locs) {pc idx aux j : Nat} {mls : Array Slot} {lst r : List Value} {o : zO} (hL : mls.size = zml y) (hdg : decode (zcd y) pc = .ok (.invokevirtual idx, 3)) (hl : zfind zML (zoc y) idx = some aux) (ha : aux < 9990) (hm : zmd aux false false = true) (hlen : (Value.retAddr j :: lst).length = aux % 10) (hr : zcat r ≤ 8) (hrecv : ∃ cell : Cell, H[ad j]? = some cell ∧ cell.vm.isStatics = false ∧ s.vm.findClass (zyn (aux / 10)).cls = some cell.cls)
    (hM : zMet l base ad dA D X d (aux / 10) (.retAddr j :: lst) M o) (hc : cells + (o.2.2.2.2 - M.2.2.2) ≤ R.cells ∧ slots + (zss o.2.2.2.2 - zss M.2.2.2) ≤ R.slots)
    (kk : ∀ (H1 : Heap) (locs1 : List Loc), zW base dA D o.2 H1 → va_S (fun q => base ≤ q) s.heap H1 locs1 → W p l e R s m args below meth c H1 locs1 (cells + (o.2.2.2.2 - M.2.2.2)) (slots + (zss o.2.2.2.2 - zss M.2.2.2)) Q (F0 m (pc + 3) mls ((zps o.1 r).map (ztr base ad)))) : W p l e R s m args below meth c H locs cells slots Q (F0 m pc mls (((Value.retAddr j :: lst).reverse ++ r).map (ztr base ad))) := by
  obtain ⟨q1, q2, q3, q4, q5⟩ := zmd_inv hm
  obtain ⟨g1, g2, g3, g4, g5, g6, g7⟩ := zym_inv q2
  have hts := C0.2.2.2.2.1
  have h1 : 1 ≤ aux / 10 := by omega
  have hY := (zY_in h1 q2).2.2 q4
  have hsel := hY.2 (by simpa using q5)
  rw [q4] at g4
  have hn : (lst.map (ztr base ad)).length = zna (aux / 10) - 1 := by
    rw [List.length_map, ← q3, ← hlen]
    rfl
  have hpc := zPc_at C0 hW hS0 (.retAddr j :: lst)
  have hst : (((Value.retAddr j :: lst).reverse ++ r).map (ztr base ad)) = (lst.map (ztr base ad)).reverse ++ .ref (ad j) :: r.map (ztr base ad) := by simp [ztr]
  rw [hst]
  exact zs_back (o := o) hS0 (va_runV (C := (zyn (aux / 10)).cls) (zs_fix C0) hM ⟨zs_cb C0 hl ha h1 q2 g4, hts _ hY.1, hts _ hsel⟩ ⟨zPc_blind, hrecv, hpc⟩ rfl hn hL rfl (lv_room (by rw [zcat_sum]; exact hr)) hdg hc) kk
theorem zs_callI (C0 : zCx p s m args meth c R base ad dA D X (d + 1) y) {M : zM} (hW : zW base dA D M H) (hS0 : va_S (fun q => base ≤ q) s.heap H locs) {pc idx aux a : Nat} {mls : Array Slot} {lst r : List Value} {o : zO} (hL : mls.size = zml y) (hdg : decode (zcd y) pc = .ok (.invokespecial idx, 3)) (hl : zfind zML (zoc y) idx = some aux ∨ zfind zNM (zoc y) idx = some aux) (ha : aux < 9990) (hm : zmd aux true false = true) (hrt : zrt (aux / 10) = none) (hlen : (Value.ref a :: lst).length = aux % 10) (hr : zcat r ≤ 8)
    (hM : zMet l base ad dA D X d (aux / 10) (.ref a :: lst) M o) (hc : cells + (o.2.2.2.2 - M.2.2.2) ≤ R.cells ∧ slots + (zss o.2.2.2.2 - zss M.2.2.2) ≤ R.slots)
    (kk : ∀ (H1 : Heap) (locs1 : List Loc), zW base dA D o.2 H1 → va_S (fun q => base ≤ q) s.heap H1 locs1 → W p l e R s m args below meth c H1 locs1 (cells + (o.2.2.2.2 - M.2.2.2)) (slots + (zss o.2.2.2.2 - zss M.2.2.2)) Q (F0 m (pc + 3) mls ((zps o.1 r).map (ztr base ad)))) : W p l e R s m args below meth c H locs cells slots Q (F0 m pc mls (((Value.ref a :: lst).reverse ++ r).map (ztr base ad))) := by
  obtain ⟨q1, q2, q3, q4, q5⟩ := zmd_inv hm
  obtain ⟨g1, g2, g3, g4, g5, g6, g7⟩ := zym_inv q2
  have hts := C0.2.2.2.2.1
  have h1 : 1 ≤ aux / 10 := by omega
  have hY := (zY_in h1 q2).2.2 q4
  have hnm : (zyn (aux / 10)).name = "<init>" := by simpa using q5
  rw [q4] at g4
  have hn : (lst.map (ztr base ad)).length = zna (aux / 10) - 1 := by
    rw [List.length_map, ← q3, ← hlen]
    rfl
  have hpc := zPc_at C0 hW hS0 (.ref a :: lst)
  have hst : (((Value.ref a :: lst).reverse ++ r).map (ztr base ad)) = (lst.map (ztr base ad)).reverse ++ .ref (base + a) :: r.map (ztr base ad) := by simp [ztr]
  rw [hst]
  refine zs_back (o := o) (a := (Value.ref (base + a) :: lst.map (ztr base ad)).toArray) hS0 ?_ kk
  rcases hl with hl | hl
  · have hcb := zs_cb C0 (M := M) (M' := o.2) hl ha h1 q2 g4
    rw [hrt] at hcb
    exact va_runI (zs_fix C0) hM ⟨hcb, hnm, hts _ hY.1⟩ ⟨zPc_blind, hpc⟩ rfl hn hL rfl (lv_room (by rw [zcat_sum]; exact hr)) hdg hc
  · have hcb := zs_cn C0 (M := M) (M' := o.2) hl h1 q2 g4
    rw [hrt] at hcb
    exact va_runIN (zs_fix C0) hM ⟨hcb, hnm, hts _ hY.1⟩ ⟨zPc_blind, hpc⟩ rfl hn hL rfl (lv_room (by rw [zcat_sum]; exact hr)) hdg hc
theorem zs_callS (C0 : zCx p s m args meth c R base ad dA D X (d + 1) y) {M : zM} (hW : zW base dA D M H) (hS0 : va_S (fun q => base ≤ q) s.heap H locs) {pc idx aux : Nat} {mls : Array Slot} {as r : List Value} {o : zO} (hL : mls.size = zml y) (hdg : decode (zcd y) pc = .ok (.invokestatic idx, 3)) (hl : zfind zML (zoc y) idx = some aux ∨ zfind zNM (zoc y) idx = some aux) (ha : aux < 9990) (hm : zmd aux false true = true) (hlen : as.length = aux % 10) (hr : zcat r ≤ 8)
    (hM : zMet l base ad dA D X d (aux / 10) as M o) (hc : cells + (o.2.2.2.2 - M.2.2.2) ≤ R.cells ∧ slots + (zss o.2.2.2.2 - zss M.2.2.2) ≤ R.slots)
    (kk : ∀ (H1 : Heap) (locs1 : List Loc), zW base dA D o.2 H1 → va_S (fun q => base ≤ q) s.heap H1 locs1 → W p l e R s m args below meth c H1 locs1 (cells + (o.2.2.2.2 - M.2.2.2)) (slots + (zss o.2.2.2.2 - zss M.2.2.2)) Q (F0 m (pc + 3) mls ((zps o.1 r).map (ztr base ad)))) : W p l e R s m args below meth c H locs cells slots Q (F0 m pc mls ((as.reverse ++ r).map (ztr base ad))) := by
  obtain ⟨q1, q2, q3, q4, q5⟩ := zmd_inv hm
  obtain ⟨g1, g2, g3, g4, g5, g6, g7⟩ := zym_inv q2
  have hts := C0.2.2.2.2.1
  have h1 : 1 ≤ aux / 10 := by omega
  have hY := (zY_in h1 q2).2.1 q4
  rw [q4] at g4
  have hn : (as.map (ztr base ad)).length = zna (aux / 10) - 0 := by
    rw [List.length_map, ← q3, ← hlen]
    rfl
  have hpc := zPc_at C0 hW hS0 as
  have hst : ((as.reverse ++ r).map (ztr base ad)) = (as.map (ztr base ad)).reverse ++ r.map (ztr base ad) := by simp
  rw [hst]
  refine zs_back (o := o) (a := (as.map (ztr base ad)).toArray) hS0 ?_ kk
  rcases hl with hl | hl
  · exact va_runS (zs_fix C0) hM ⟨zs_cb C0 hl ha h1 q2 g4, hts _ hY⟩ ⟨zPc_blind, hpc⟩ rfl hn hL rfl (lv_room (by rw [zcat_sum]; exact hr)) hdg hc
  · exact va_runSN (zs_fix C0) hM ⟨zs_cn C0 hl h1 q2 g4, hts _ hY, trivial⟩ ⟨zPc_blind, hpc⟩ rfl hn hL rfl (lv_room (by rw [zcat_sum]; exact hr)) hdg hc
end ZCL
