/-! ===== from the law's entry ===== -/
def zM0 : zM := (fun _ _ => 0, fun _ _ => 0, fun _ _ => zNul, 0)
def zfl : List Cond := flatC (Jvm.Cond.and given_1 narrow_1)
def zkL : List (Nat × Nat) := [(10, 63), (12, 280), (12, 282), (12, 163), (12, 284), (12, 286), (12, 334), (12, 165), (12, 166), (12, 167), (12, 169), (12, 171), (12, 173), (12, 174), (12, 176), (12, 178), (12, 180), (12, 336), (12, 262), (12, 276), (12, 278)]
def ztm (i : Nat) : Term := .string (zcn (zkL.getD i (0, 0)).1) (zkL.getD i (0, 0)).2
theorem zf1 : ∀ i, i < znS → Cond.exactly (ztm i) "java/lang/String" ∈ zfl := by decide +kernel
theorem zf2 : ∀ i, i < znS → Cond.eq (.field (ztm i) "java/lang/String" "coder" "B") (.int 0) ∈ zfl := by decide +kernel
theorem zf3 : ∀ i, i < znS → Cond.arrayOf (.field (ztm i) "java/lang/String" "value" "[B") .byte ∈ zfl := by decide +kernel
theorem zf4 : ∀ i, i < znS → Cond.eq (.length (.field (ztm i) "java/lang/String" "value" "[B")) (.int (Int32.ofNat (zleL.getD i 0))) ∈ zfl := by decide +kernel
theorem zf5 : ∀ i, i < znS → ∀ j, j < zleL.getD i 0 → Cond.eq (.elem (.field (ztm i) "java/lang/String" "value" "[B") (.int (Int32.ofNat j))) (.int ((zbyL.getD i []).getD j 0)) ∈ zfl := by decide +kernel
theorem zf6 : ∀ i, i < znS → ∀ j, j < znS → i ≠ j → Cond.not (Cond.eq (ztm i) (ztm j)) ∈ zfl ∨ Cond.not (Cond.eq (ztm j) (ztm i)) ∈ zfl := by decide +kernel
def zst4 (j : Nat) : Term := .static (zgs (j + 1)).1 (zgs (j + 1)).2.1 (zgs (j + 1)).2.2
theorem zf7 : ∀ j, j < 4 → Cond.arrayOf (zst4 j) .int ∈ zfl ∧ Cond.eq (.length (zst4 j)) (.int (Int32.ofNat (zsaL.getD j []).length)) ∈ zfl ∧ ∀ k, k < (zsaL.getD j []).length → Cond.eq (.elem (zst4 j) (.int (Int32.ofNat k))) (.int ((zsaL.getD j []).getD k 0)) ∈ zfl := by decide +kernel
theorem zf8 : Cond.eq (.static (zgs 0).1 (zgs 0).2.1 (zgs 0).2.2) (.int 1) ∈ zfl ∧ Cond.isRef (.static (zgs 12).1 (zgs 12).2.1 (zgs 12).2.2) ∈ zfl := by decide +kernel
theorem zf9 : (∀ a, a < 5 → Cond.laysStatic (zgs a).1 (zgs a).2.1 (zgs a).2.2 ∈ lw_tbl) ∧ Cond.laysStatic (zgs 12).1 (zgs 12).2.1 (zgs 12).2.2 ∈ lw_tbl := by decide +kernel
theorem zf10 : (∀ a, a < 5 → Cond.initialized (zgs a).1 ∈ lw_tbl) ∧ Cond.initialized (zgs 12).1 ∈ lw_tbl := by decide +kernel
theorem zf11 : ∀ q ∈ zSL, ztm (q.2.2.1 - 1) = .string (zcn q.1) q.2.1 ∧ Cond.stringRef (zcn q.1) q.2.1 (ztxL.getD (q.2.2.1 - 1) "") ∈ lw_tbl ∧ q.2.2.1 - 1 < znS := by
  intro q hq
  have h := List.all_eq_true.mp zSL_ok q hq
  simp only [decide_eq_true_eq] at h
  have h2 : (zSL.all fun q => decide (ztm (q.2.2.1 - 1) = .string (zcn q.1) q.2.1) && Nat.blt (q.2.2.1 - 1) znS) = true := by decide +kernel
  have h3 := List.all_eq_true.mp h2 q hq
  simp only [Bool.and_eq_true, decide_eq_true_eq] at h3
  exact ⟨h3.1, List.mem_of_getElem? h, Nat.le_of_ble_eq_true h3.2⟩
theorem zf12 : ∀ q ∈ zNM, zNw q ∈ lw_tbl := by
  intro q hq
  have h := List.all_eq_true.mp zNM_ok q hq
  simp only [decide_eq_true_eq] at h
  exact List.mem_of_getElem? h
theorem zclass_of {args : Array Value} {s : State} {t : FieldType} (h : (Cond.arrayClass t).before args s = true) : ∃ cA, s.vm.findClass ("[" ++ t.toString) = some cA ∧ ArrOfT s cA t := by
  obtain ⟨c, k, comp, h1, h2, h3⟩ := Cond.arrayClass_spec h
  exact ⟨c, h1, fun n z => ⟨fun k h => (by cases h), k, h2, comp, h3⟩⟩
theorem zKt_of {args : Array Value} {s : State} (hts : ∀ w ∈ lw_tbl, w.before args s = true) : ∃ dA : Nat → ClassId, zKt dA s := by
  have hz : ∀ w ∈ zbig, w.before args s = true := fun w hw => hts w (List.mem_filter.mp hw).1
  have h : ∀ k, ∃ cA, 20 ≤ k → k ≤ 27 → ArrOfT s cA (zty k) ∧ va_RA s cA (zty k) := by
    intro k
    by_cases hk : 20 ≤ k ∧ k ≤ 27
    · rcases (show k = 20 ∨ k = 21 ∨ k = 22 ∨ k = 23 ∨ k = 24 ∨ k = 25 ∨ k = 26 ∨ k = 27 by omega) with rfl | rfl | rfl | rfl | rfl | rfl | rfl | rfl
      · obtain ⟨cA, h1, h2⟩ := zclass_of (hz _ zarr_in.1)
        exact ⟨cA, fun _ _ => ⟨h2, h1⟩⟩
      · obtain ⟨cA, h1, h2⟩ := zclass_of (hz _ zarr_in.2.1)
        exact ⟨cA, fun _ _ => ⟨h2, h1⟩⟩
      · obtain ⟨cA, h1, h2⟩ := zclass_of (hz _ zarr_in.2.2.1)
        exact ⟨cA, fun _ _ => ⟨h2, h1⟩⟩
      · obtain ⟨cA, h1, h2⟩ := zclass_of (hz _ zarr_in.2.2.2)
        exact ⟨cA, fun _ _ => ⟨h2, h1⟩⟩
      · obtain ⟨comp, c, k, h1, h2, h3, h4, h5⟩ := arrayOverA_spec (hts _ zover_in.1)
        exact ⟨c, fun _ _ => ⟨fun n z => ⟨fun k h => (by cases h), k, h3, comp, h4⟩, h5⟩⟩
      · obtain ⟨comp, c, k, h1, h2, h3, h4, h5⟩ := Cond.arrayOver_spec (hts _ zover_in.2.1)
        exact ⟨c, fun _ _ => ⟨fun n z => ⟨fun k h => (by cases h), k, h3, comp, h4⟩, k, comp, h3, h4, h1, h5⟩⟩
      · obtain ⟨comp, c, k, h1, h2, h3, h4, h5⟩ := Cond.arrayOver_spec (hts _ zover_in.2.2.1)
        exact ⟨c, fun _ _ => ⟨fun n z => ⟨fun k h => (by cases h), k, h3, comp, h4⟩, k, comp, h3, h4, h1, h5⟩⟩
      · obtain ⟨comp, c, k, h1, h2, h3, h4, h5⟩ := Cond.arrayOver_spec (hts _ zover_in.2.2.2)
        exact ⟨c, fun _ _ => ⟨fun n z => ⟨fun k h => (by cases h), k, h3, comp, h4⟩, k, comp, h3, h4, h1, h5⟩⟩
    · exact ⟨0, fun h1 h2 => absurd ⟨h1, h2⟩ hk⟩
  exact ⟨fun k => Classical.choose (h k), fun k h1 h2 => Classical.choose_spec (h k) h1 h2⟩
theorem zKc_of {args : Array Value} {s : State} (hts : ∀ w ∈ lw_tbl, w.before args s = true) : ∃ D : va_G, zKc D s := by
  have hz : ∀ w ∈ zbig, w.before args s = true := fun w hw => hts w (List.mem_filter.mp hw).1
  have h : ∀ c, ∃ q : ClassId × (Nat → Nat), c < 13 → u_Kn s (zcn c) (zcT c) (znf c) q.1 q.2 := by
    intro c
    by_cases hc : c < 13
    · obtain ⟨cC, iS, hK⟩ := u_known (C := zcn c) (T := zcT c) (N := znf c) (n := znf c) hz (zP_in hc) (hz _ (zK_in hc))
      exact ⟨(cC, iS), fun _ => hK⟩
    · exact ⟨(0, fun _ => 0), fun h => absurd h hc⟩
  exact ⟨(fun c => (Classical.choose (h c)).1, fun c => (Classical.choose (h c)).2), fun c hc => Classical.choose_spec (h c) hc⟩
theorem zX_of {args : Array Value} {s : State} (hts : ∀ w ∈ lw_tbl, w.before args s = true) (hgv : ∀ w ∈ zfl, w.before args s = true) {b L : Nat} {xs : Nat → Int32} (hX : va_X b L xs s s.heap) (hbl : b < s.heap.size) : ∃ ad : Nat → Nat, ad 70 = b ∧ zX s.heap.size ad (xs, L) s s.heap ∧ zT ad s := by
  have hA : ∀ a : Nat, a < s.heap.size → ¬ (fun q : Nat => s.heap.size ≤ q) a := fun a h => Nat.not_le.mpr h
  obtain ⟨adK, adV, hS, hSe⟩ := vk_Sof (N := znS) (tm := ztm) (len := zleL) (byt := zbyL) (A := fun q => s.heap.size ≤ q) (by decide +kernel) (fun i hi => hgv _ (zf1 i hi)) (fun i hi => hgv _ (zf2 i hi)) (fun i hi => hgv _ (zf3 i hi)) (fun i hi => hgv _ (zf4 i hi)) (fun i hi j hj => hgv _ (zf5 i hi j hj)) (fun i j hi hj hij => (zf6 i hi j hj hij).imp (hgv _) (hgv _)) hA
  have hst : ∀ j, ∃ t : Nat, j < 4 → (zst4 j).eval args s none [] s = some (.ref t) ∧ va_T .int t (zsaL.getD j []).length (fun k => .int ((zsaL.getD j []).getD k 0)) (fun q => s.heap.size ≤ q) s s.heap := by
    intro j
    by_cases hj : j < 4
    · obtain ⟨g1, g2, g3⟩ := zf7 j hj
      obtain ⟨t, h1, h2⟩ := va_Tof (N := (zsaL.getD j []).length) (f := fun k => .int ((zsaL.getD j []).getD k 0)) (A := fun q => s.heap.size ≤ q) (by
        have : ∀ j, j < 4 → (zsaL.getD j []).length < 2 ^ 31 := by decide +kernel
        exact this j hj) (hgv _ g1) (va_eqt (hgv _ g2)) (fun k hk => va_eqt (hgv _ (g3 k hk))) hA
      exact ⟨t, fun _ => ⟨h1, h2⟩⟩
    · exact ⟨0, fun h => absurd h hj⟩
  obtain ⟨adS, hadS⟩ := Classical.axiomOfChoice hst
  have hq := va_Zqof (C := (zgs 12).1) (n := (zgs 12).2.1) (d := (zgs 12).2.2) (A := fun q => s.heap.size ≤ q) (hts _ zf9.2) (hts _ zf10.2) (hgv _ zf8.2) hA
  obtain ⟨fl, ft, hfm⟩ : ∃ fl ft : Nat, va_Z (zgs 12).1 (zgs 12).2.1 (zgs 12).2.2 (if fl = 0 then .null else .ref ft) (fun q => s.heap.size ≤ q) s s.heap := by
    rcases hq with h | ⟨t, h⟩
    · exact ⟨0, 0, h⟩
    · exact ⟨1, t, h⟩
  refine ⟨fun k => if k < 30 then adK k else if k < 60 then adV (k - 30) else if k < 64 then adS (k - 60) else if k = 70 then b else if k = 71 then fl else ft, rfl, ⟨?_, ?_, ?_, ?_, ?_, ?_⟩, ?_, ?_, ?_⟩
  · refine ⟨fun i hi => ?_, fun i j hi hj h => ?_⟩
    · have h1 := hS.1 i hi
      have hi2 : i < 21 := hi
      dsimp only
      rw [if_pos (show i < 30 by omega), if_neg (show ¬ 30 + i < 30 by omega), if_pos (show 30 + i < 60 by omega), show 30 + i - 30 = i by omega]
      exact h1
    · have hi2 : i < 21 := hi
      have hj2 : j < 21 := hj
      dsimp only at h
      rw [if_pos (show i < 30 by omega), if_pos (show j < 30 by omega)] at h
      exact hS.2 i j hi hj h
  · intro j hj
    dsimp only
    rw [if_neg (show ¬ 60 + j < 30 by omega), if_neg (show ¬ 60 + j < 60 by omega), if_pos (show 60 + j < 64 by omega), show 60 + j - 60 = j by omega]
    have h1 := (hadS j hj).2
    have e1 : zxn (xs, L) (60 + j) = (zsaL.getD j []).length := by
      unfold zxn
      rw [zbqf (show 60 + j ≠ 70 by omega), Nat.ble_eq_true_of_le (show 60 ≤ 60 + j by omega), show 60 + j - 60 = j by omega]
      rfl
    have e2 : (fun k => Value.int (zxf (xs, L) (60 + j) k)) = fun k => .int ((zsaL.getD j []).getD k 0) := by
      funext k
      unfold zxf
      rw [zbqf (show 60 + j ≠ 70 by omega), Nat.ble_eq_true_of_le (show 60 ≤ 60 + j by omega), show 60 + j - 60 = j by omega]
      rfl
    rw [e1, e2]
    exact h1
  · obtain ⟨scr, h1, h2, h3, h4, h5⟩ := hX
    exact ⟨scr, h1, h2, h3, Nat.le_of_eq h4.symm, by rw [h4]; rfl, h5, Nat.not_le.mpr hbl⟩
  · intro a h1 h2
    obtain ⟨j, rfl⟩ : ∃ j, a = j + 1 := ⟨a - 1, by omega⟩
    dsimp only
    rw [if_neg (show ¬ 59 + (j + 1) < 30 by omega), if_neg (show ¬ 59 + (j + 1) < 60 by omega), if_pos (show 59 + (j + 1) < 64 by omega), show 59 + (j + 1) - 60 = j by omega]
    exact va_Zof (hts _ (zf9.1 (j + 1) (by omega))) (hts _ (zf10.1 (j + 1) (by omega))) (hadS j (by omega)).1 hA
  · exact va_Zof (hts _ (zf9.1 0 (by omega))) (hts _ (zf10.1 0 (by omega))) (va_eqi (hgv _ zf8.1)) hA
  · exact hfm
  · intro q hq
    obtain ⟨g1, g2, g3⟩ := zf11 q hq
    have g4 : q.2.2.1 - 1 < 21 := g3
    dsimp only
    rw [if_pos (show q.2.2.1 - 1 < 30 by omega)]
    have h1 := hSe _ g3
    rw [g1] at h1
    have h2 : vk_R (zcn q.1) q.2.1 (ztxL.getD (q.2.2.1 - 1) "") (adK (q.2.2.1 - 1)) s := by
      refine ⟨?_, ?_⟩
      · exact va_tabs rfl rfl (hts _ g2)
      · rw [← Term.string_eval_of_vm (args := args) (rfl : s.vm = s.vm)]
        exact h1
    exact h2
  · intro q hq
    exact va_Nw.of rfl (hts _ (zf12 q hq))
  · exact ⟨va_tabs rfl rfl (hts _ zover_in.1), va_tabs rfl rfl (hts _ zover_in.2.1), va_tabs rfl rfl (hts _ zover_in.2.2.1), va_tabs rfl rfl (hts _ zover_in.2.2.2)⟩
def R_law : String := "ThroneSaleLaw"
def lw_P (b : Addr) (xs : List Int32) (args : Array Value) (s : State) : Prop := args = #[.ref b] ∧ s.IntsAt b xs ∧ xs.length ≤ 3072 ∧ (Jvm.Cond.and given_1 narrow_1).before args s = true
def lw_Q (_ : Array Value) (s : State) (o : Outcome) (t : State) : Prop := o = .returned (some (.int 1)) ∧ Framed s o t [] 600000 7302250
def lw_Z (below : List Frame) (a : Array Value) (s : State) : State → Prop := fun t => ∃ o, t.status = .running ∧ Ended t below o ∧ lw_Q a s o t
/-- the law's own end, with 1 on the stack, nothing written that was there before, its room as the claim has it -/
theorem lw_ret {p : Program} {l : Launch} {e : Env} {s : State} {m : MethodId} {below : List Frame} {meth : Method} {c : Code} {b : Nat} (hx : p.tables.exec = Jvm.exec) (hb : c.code = code) (hr : meth.sig.returnType = ret) (hlocks : meth.locks = false) {pc : Nat} {H : Heap} {ls : Array Slot} (hdg : decode code pc = .ok (.ireturn, 1)) : W p l e room_1 s m #[Value.ref b] below meth c H [] 600000 7302250 (lw_Z below #[Value.ref b] s) (F0 m pc ls [.int 1]) := by
  intro T hT X
  obtain ⟨fs, hret, hrun, hended, hW, hframe⟩ := X.leave (v := some (.int 1)) (hlocks := hlocks) (fun h => by rw [hr] at h; cases h)
  have hmeth' : T.vm.method? m = some meth := X.method'
  refine ⟨T.setFrames fs, ?_, .returned (some (.int 1)), hrun, hended, rfl, ⟨_, rfl⟩, hW, hframe⟩
  jvm_step X.here [X.here.top, hx, hb, hdg, hmeth', hr, ret, narrow_b1]
  (try refine ⟨rfl, ?_⟩); (try refine ⟨rfl, ?_⟩)
  first | (intro acts; rw [hret _ acts rfl rfl rfl]) | rw [hret _ _ rfl rfl rfl]
  exact Steps.refl _
/-- what holds at the law's entry: the machine, the code, the tables' words (any of lw_tbl by 'hts w (by decide +kernel)'), the script of L ints xs at the cell b, what the Statement gives of the start (any of its parts by flat_of_before) -/
def lw_At (p : Program) (s : State) (m : MethodId) (meth : Method) (c : Code) (b L : Nat) (xs : Nat → Int32) : Prop :=
  p.tables.exec = Jvm.exec ∧ c.code = code ∧ meth.sig.returnType = ret ∧ c.maxLocals = 4 ∧ s.vm.findClass R_law = some m.cls ∧ (∀ w ∈ lw_tbl, w.before #[Value.ref b] s = true) ∧ va_X b L xs s s.heap ∧ b < s.heap.size ∧ meth.locks = false ∧ (Jvm.Cond.and given_1 narrow_1).before #[Value.ref b] s = true
theorem zss_505 : zss 505 = 20013 := by decide +kernel
/-- the law's end, if the small machine ends with 1 -/
theorem zstart {p : Program} {e : Env} {s : State} {m : MethodId} {below : List Frame} {meth : Method} {c : Code} (l : Launch) {b L : Nat} {xs : Nat → Int32} (C0 : lw_At p s m meth c b L xs) {n d : Nat} (hd : d ≤ 800) {o : zO} (hrun : zrun (xs, L) n d 0 (0, zloc (zml 0) [.retAddr 70], [], zM0) = some o) (ho : o.1 = some (.int 1)) (hsz : o.2.2.2.2 ≤ 505) : W p l e room_1 s m #[Value.ref b] below meth c s.heap [] 0 0 (lw_Z below #[Value.ref b] s) (entryFrame m ([Value.ref b] : List Value).toArray 4) := by
  obtain ⟨hx, hb, hr, hml, hcl, hts, hX, hbl, hlk, hgv⟩ := C0
  have hz : ∀ w ∈ zbig, w.before #[Value.ref b] s = true := fun w hw => hts w (List.mem_filter.mp hw).1
  obtain ⟨D, hK⟩ := zKc_of hts
  obtain ⟨dA, hKt⟩ := zKt_of hts
  obtain ⟨ad, h70, hZX, hZT⟩ := zX_of hts (fun w hw => flat_of_before _ hgv w hw) hX hbl
  have C1 : zCx p s m #[Value.ref b] meth c room_1 s.heap.size ad dA D (xs, L) (d + 1) 0 := ⟨hx, hb, hml, hcl, hz, hK, hKt, hZX, hZT, Nat.le_refl _, fun h => absurd h (by decide), by show d + 1 ≤ 2048; omega, by show 100 * (d + 1) ≤ 84000; omega, by decide⟩
  have hss : zss o.2.2.2.2 ≤ 20013 := by rw [← zss_505]; exact zss_mono hsz
  have hret : zRet p l e room_1 s m #[Value.ref b] below meth c (lw_Z below #[Value.ref b] s) s.heap.size ad dA D 0 0 o := by
    intro H locs mls pc i st aux X ls gs hW hS hdg hst hg
    rcases (zst_ret hst).2 with ⟨rfl, x, rfl, -, h1⟩ | ⟨-, x, -, -, h1⟩ | ⟨-, v, -, -, h1, h2⟩ | ⟨-, -, -, h1⟩
    · rw [ho] at h1
      cases h1
      refine va_forget hS.2.2 (W.widen (cells := o.2.2.2.2 - 0) (slots := zss o.2.2.2.2 - zss 0) (k := 600000) (n := 7302250) (by omega) (by omega) ?_)
      exact lw_ret hx hb hr hlk hdg
    · rw [ho] at h1
      cases h1
    · rw [ho] at h1
      cases h1
      rcases h2 with ⟨a, h2⟩ | ⟨a, h2⟩ <;> cases h2
    · rw [ho] at h1
      cases h1
  have h := zsound l s.heap.size ad dA D n d 0 _ o hrun C1 (z0 := 0) (Nat.zero_le _) (by show o.2.2.2.2 - 0 ≤ 600000; omega) (by show zss o.2.2.2.2 - zss 0 ≤ 7302250; omega) hret
  have h3 : (zargs [Value.retAddr 70]).length ≤ zml 0 := by decide
  have hl := lv_entry ([Value.retAddr 70].map (ztr s.heap.size ad)) (n := zml 0) (by rw [zsl_len]; exact h3)
  have hE : ([Value.ref b] : List Value) = [Value.retAddr 70].map (ztr s.heap.size ad) := by
    rw [← h70]; rfl
  rw [hE, lg_entry_eq]
  rw [show zml 0 = 4 from rfl] at hl
  generalize (lg_sl ([Value.retAddr 70].map (ztr s.heap.size ad)) ++ List.replicate (4 - (lg_sl ([Value.retAddr 70].map (ztr s.heap.size ad))).length) Slot.unset).toArray = mls at hl ⊢
  have hlv : zLv s.heap.size ad 4 (zloc 4 [Value.retAddr 70]) mls := ⟨hl.1, hl.2.1, fun q hq => by
    obtain ⟨k, hk, rfl⟩ := zll_mem.mp hq
    have h9 := zargs_sub (base := s.heap.size) (ad := ad) [Value.retAddr 70] _ 0 k hk
    rw [Nat.zero_add] at h9
    exact hl.2.2 _ h9⟩
  exact h s.heap [] mls ⟨rfl, fun a ha => absurd ha (Nat.not_lt_zero _)⟩ va_S.rf hlv
