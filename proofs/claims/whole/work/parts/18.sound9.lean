theorem zst_ret {X : (Nat → Int32) × Nat} {rk : Nat} {i : Instr} {aux pc : Nat} {ls st : List Value} {M : zM} {gs : List Prop} {o : zO} (h : zst X rk i aux pc ls st M = some (gs, .inl o)) : o.2 = M ∧ ((i = .ireturn ∧ ∃ x, st = [.int x] ∧ gs = [zrg rk x] ∧ o.1 = some (.int x)) ∨ (i = .lreturn ∧ ∃ x, st = [.long x] ∧ gs = [rk = 3] ∧ o.1 = some (.long x)) ∨ (i = .areturn ∧ ∃ v, st = [v] ∧ gs = [rk = 4] ∧ o.1 = some v ∧ ((∃ a, v = .ref a) ∨ ∃ a, v = .retAddr a)) ∨ (i = .return_ ∧ st = [] ∧ gs = [rk = 0] ∧ o.1 = none)) := by
  have J : ∀ {gs' : List Prop} {pc' : Nat} {ls' st' : List Value} {M' : zM}, zgo gs' pc' ls' st' M' = some (gs, .inl o) → False := by
    intro gs' pc' ls' st' M' h1
    cases h1
  cases i <;> simp only [zst] at h <;> first
    | (cases h; done)
    | (exact (J h).elim)
    | (obtain ⟨x, hv, h⟩ := zldi_inv h; exact (J h).elim)
    | (obtain ⟨x, hv, h⟩ := zldl_inv h; exact (J h).elim)
    | (obtain ⟨x, hv, hr, h⟩ := zlda_inv h; exact (J h).elim)
    | (obtain ⟨x, r, rfl, h⟩ := z1_inv h; exact (J h).elim)
    | (obtain ⟨x, r, rfl, h⟩ := z1l_inv h; exact (J h).elim)
    | (obtain ⟨x, w, r, rfl, h⟩ := z2_inv h; exact (J h).elim)
    | (obtain ⟨x, w, r, rfl, h⟩ := z2l_inv h; exact (J h).elim)
    | (obtain ⟨v, r, rfl, hr, h⟩ := zsta_inv h; exact (J h).elim)
    | (obtain ⟨v, r, rfl, hr, h⟩ := zdup_inv h; exact (J h).elim)
    | (obtain ⟨v, w, r, rfl, hr, hr2, h⟩ := zdup2_inv h; exact (J h).elim)
    | (rcases znull_inv h with ⟨r, rfl, h⟩ | ⟨a, r, rfl, h⟩ <;> exact (J h).elim)
    | (rcases zald_inv h with ⟨x, a, r, rfl, h⟩ | ⟨x, a, r, rfl, h⟩ <;> first | exact (J h).elim | (cases h; done))
    | (obtain ⟨v, x, a, r, rfl, h⟩ := zast_inv h; exact (J h).elim)
    | (obtain ⟨v, x, a, r, rfl, h⟩ := zastl_inv h; exact (J h).elim)
    | (obtain ⟨v, x, a, r, rfl, h⟩ := zasta_inv h; exact (J h).elim)
    | skip
  case ldc idx =>
    cases aux with
    | zero => cases h
    | succ a =>
      dsimp only at h
      split at h <;> exact (J h).elim
  case ldc_w idx =>
    cases aux with
    | zero => cases h
    | succ a =>
      dsimp only at h
      split at h <;> exact (J h).elim
  case getfield idx =>
    split at h
    · exact (J h).elim
    · split at h
      · exact (J h).elim
      · cases h
    · cases h
  case putfield idx =>
    unfold zfp at h
    split at h <;> first | exact (J h).elim | (cases h; done)
  case arraylength =>
    split at h <;> first | exact (J h).elim | (cases h; done)
  case invokevirtual idx =>
    obtain ⟨as, r, rfl, h3, h4, h⟩ := zcal_inv h
    rcases zrcv_inv h with ⟨a, lst, rfl, h⟩ | ⟨a, lst, rfl, h⟩ <;> cases h
  case invokestatic idx =>
    split at h
    · obtain ⟨a, sp, b, dp, n, r, rfl, h5⟩ := zcpy_inv h
      split at h5
      · exact (J h5).elim
      · cases h5
    · split at h
      · obtain ⟨x, w, r, rfl, h⟩ := z2_inv h
        exact (J (zsm_inv h).2).elim
      · split at h
        · obtain ⟨x, w, r, rfl, h⟩ := z2_inv h
          exact (J (zsm_inv h).2).elim
        · split at h
          · obtain ⟨x, r, rfl, h⟩ := z1_inv h
            exact (J (zsm_inv h).2).elim
          · obtain ⟨as, r, rfl, h3, h4, h⟩ := zcal_inv h
            cases h
  case invokespecial idx =>
    split at h
    · split at h
      · split at h
        · exact (J h).elim
        · cases h
      · cases h
    · obtain ⟨as, r, rfl, h3, h4, h⟩ := zcal_inv h
      rcases zrcv_inv h with ⟨a, lst, rfl, h⟩ | ⟨a, lst, rfl, h⟩ <;> cases h
  case ireturn =>
    split at h
    · cases h
      exact ⟨rfl, Or.inl ⟨rfl, _, rfl, rfl, rfl⟩⟩
    · cases h
  case lreturn =>
    split at h
    · cases h
      exact ⟨rfl, Or.inr (Or.inl ⟨rfl, _, rfl, rfl, rfl⟩)⟩
    · cases h
  case areturn =>
    split at h
    · cases h
      exact ⟨rfl, Or.inr (Or.inr (Or.inl ⟨rfl, _, rfl, rfl, rfl, Or.inl ⟨_, rfl⟩⟩))⟩
    · cases h
      exact ⟨rfl, Or.inr (Or.inr (Or.inl ⟨rfl, _, rfl, rfl, rfl, Or.inr ⟨_, rfl⟩⟩))⟩
    · cases h
  case return_ =>
    split at h
    · cases h
      exact ⟨rfl, Or.inr (Or.inr (Or.inr ⟨rfl, rfl, rfl, rfl⟩))⟩
    · cases h
theorem zst_ret1 {X : (Nat → Int32) × Nat} {rk y len : Nat} {i : Instr} {aux pc : Nat} {ls st : List Value} {M : zM} {gs : List Prop} {o : zO} (h : zst X rk i aux pc ls st M = some (gs, .inl o)) (hc : zcq y i len aux pc = true) : len = 1 := by
  rcases (zst_ret h).2 with ⟨rfl, -⟩ | ⟨rfl, -⟩ | ⟨rfl, -⟩ | ⟨rfl, -⟩ <;> exact zlen hc
theorem zNM_own : (zNM.all fun q => Nat.blt (zci (q.2.2.1 / 10)) 13) = true := by decide +kernel
section ZCC
variable {p : Program} {l : Launch} {e : Env} {R : Room} {s : State} {m : MethodId} {args : Array Value} {below : List Frame} {meth : Method} {c : Code} {Q : State → Prop}
variable {base : Nat} {ad : Nat → Nat} {dA : Nat → ClassId} {D : va_G} {X : (Nat → Int32) × Nat} {d y : Nat}
theorem zs_call (C0 : zCx p s m args meth c R base ad dA D X (d + 1) y) {pc aux : Nat} {i : Instr} (hck : zck y pc = true) (hz : zt y pc = some (i, aux)) {ls st : List Value} {M : zM} {gs : List Prop} {z : Nat} {as : List Value} {pc' : Nat} {ls' rest : List Value} (hst : zst X (zrk y) i aux pc ls st M = some (gs, .inr (.inr (z, as, M, pc', ls', rest)))) (hg : zall gs) {z0 : Nat} (hz0 : z0 ≤ M.2.2.2) {o : zO} (h1 : M.2.2.2 ≤ o.2.2.2.2) (hroom : o.2.2.2.2 - z0 ≤ R.cells ∧ zss o.2.2.2.2 - zss z0 ≤ R.slots)
    (hM : 1 ≤ z ∧ z < zNY ∧ (zargs as).length ≤ zml z → zMet l base ad dA D X d z as M o) (hk : zOK p l e R s m args below meth c Q base ad dA D (zml y) z0 (pc', ls', zps o.1 rest, o.2)) : zOK p l e R s m args below meth c Q base ad dA D (zml y) z0 (pc, ls, st, M) := by
  obtain ⟨len, hdg, hcq⟩ := zck_inv hck hz
  have hm1 := zss_mono hz0
  have hm2 := zss_mono h1
  intro H locs mls hW hS hL
  have W9 : ∀ {H1 : Heap} {locs1 : List Loc} {g : JFrame}, W p l e R s m args below meth c H1 locs1 (o.2.2.2.2 - z0) (zss o.2.2.2.2 - zss z0) Q g → W p l e R s m args below meth c H1 locs1 (M.2.2.2 - z0 + (o.2.2.2.2 - M.2.2.2)) (zss M.2.2.2 - zss z0 + (zss o.2.2.2.2 - zss M.2.2.2)) Q g := fun k => W.cs (by omega) (by omega) k
  have R9 : M.2.2.2 - z0 + (o.2.2.2.2 - M.2.2.2) ≤ R.cells ∧ zss M.2.2.2 - zss z0 + (zss o.2.2.2.2 - zss M.2.2.2) ≤ R.slots := ⟨by omega, by omega⟩
  cases i <;> simp only [zst] at hst <;> first
    | (cases hst; done)
    | (obtain ⟨x, hv, h⟩ := zldi_inv hst; cases h; done)
    | (obtain ⟨x, hv, h⟩ := zldl_inv hst; cases h; done)
    | (obtain ⟨x, hv, hr, h⟩ := zlda_inv hst; cases h; done)
    | (obtain ⟨x, r, rfl, h⟩ := z1_inv hst; cases h; done)
    | (obtain ⟨x, r, rfl, h⟩ := z1l_inv hst; cases h; done)
    | (obtain ⟨x, w, r, rfl, h⟩ := z2_inv hst; cases h; done)
    | (obtain ⟨x, w, r, rfl, h⟩ := z2l_inv hst; cases h; done)
    | (obtain ⟨v, r, rfl, hr, h⟩ := zsta_inv hst; cases h; done)
    | (obtain ⟨v, r, rfl, hr, h⟩ := zdup_inv hst; cases h; done)
    | (obtain ⟨v, w, r, rfl, hr, hr2, h⟩ := zdup2_inv hst; cases h; done)
    | (rcases znull_inv hst with ⟨r, rfl, h⟩ | ⟨a, r, rfl, h⟩ <;> (cases h; done))
    | (rcases zald_inv hst with ⟨x, a, r, rfl, h⟩ | ⟨x, a, r, rfl, h⟩ <;> (cases h; done))
    | (obtain ⟨v, x, a, r, rfl, h⟩ := zast_inv hst; cases h; done)
    | (obtain ⟨v, x, a, r, rfl, h⟩ := zastl_inv hst; cases h; done)
    | (obtain ⟨v, x, a, r, rfl, h⟩ := zasta_inv hst; cases h; done)
    | skip
  case ldc idx =>
    cases aux with
    | zero => cases hst
    | succ a =>
      dsimp only at hst
      split at hst <;> cases hst
  case ldc_w idx =>
    cases aux with
    | zero => cases hst
    | succ a =>
      dsimp only at hst
      split at hst <;> cases hst
  case getfield idx =>
    split at hst
    · cases hst
    · split at hst <;> cases hst
    · cases hst
  case putfield idx =>
    unfold zfp at hst
    split at hst <;> cases hst
  case arraylength => split at hst <;> cases hst
  case ireturn => split at hst <;> cases hst
  case lreturn => split at hst <;> cases hst
  case areturn => split at hst <;> cases hst
  case return_ => split at hst <;> cases hst
  case invokevirtual idx =>
    simp only [zcq, Bool.and_eq_true, Bool.or_eq_true] at hcq
    obtain ⟨⟨e1, hmd⟩, hl⟩ := hcq
    have e1 := zlen e1
    subst e1
    obtain ⟨q1, q2, q3, q4, q5⟩ := zmd_inv hmd
    obtain ⟨as, r, rfl, h3, h4, h⟩ := zcal_inv hst
    have ha : aux < 9990 := by have hn : zNY = 249 := rfl; omega
    rcases zrcv_inv h with ⟨a, lst, rfl, h⟩ | ⟨j, lst, rfl, h⟩
    · cases h
      have hzi : zis M a (zci (aux / 10)) := hg
      have hz1 : 1 ≤ aux / 10 := by omega
      rw [zci_ok _ q2] at hzi
      obtain ⟨g1, g2, g3, g4, g5, g6, g7⟩ := zym_inv q2
      have hlt : zoc (aux / 10) < 13 := by
        have h9 := hzi.2
        rcases Nat.lt_or_ge a zNC with g | g
        · have := (zsh_ok a g).1
          omega
        · rw [zsh_out g] at h9
          have h9 : 99 = zoc (aux / 10) := h9
          omega
      have hK := C0.2.2.2.2.2.1
      obtain ⟨cell, f1, f2, f3, -⟩ := hW.obj hzi hlt
      refine zs_callV C0 hW hS hL.1 hdg (hl.imp zfind_eq zfind_eq) ha hmd h3 h4.1 ⟨cell, f1, by rw [f3]; rfl, ?_⟩ (hM ⟨hz1, q2, h4.2⟩) R9 (fun H1 locs1 hW1 hS1 => W9 (hk H1 locs1 mls hW1 hS1 hL))
      rw [f2, ← g2]
      exact (hK _ hlt).2.1
    · cases h
      obtain ⟨hz14, hj⟩ := hg
      have hz1 : 1 ≤ aux / 10 := by omega
      have hl2 : zfind zML (zoc y) idx = some aux := by
        rcases hl with hl | hl
        · exact zfind_eq hl
        · obtain ⟨k0, hk0⟩ := zfind_to (zfind_eq hl)
          have h9 := Nat.le_of_ble_eq_true (List.all_eq_true.mp zNM_own _ hk0)
          have h9 : zci (aux / 10) < 13 := h9
          omega
      obtain ⟨g1, g2, g3, g4, g5, g6, g7⟩ := zym_inv q2
      have hX := C0.2.2.2.2.2.2.2.1
      obtain ⟨cell, f1, f2, f3⟩ := vk_recv hX.1 hj hS
      refine zs_callVX C0 hW hS hL.1 hdg hl2 ha hmd h3 h4.1 ⟨cell, f1, f2, ?_⟩ (hM ⟨hz1, q2, h4.2⟩) R9 (fun H1 locs1 hW1 hS1 => W9 (hk H1 locs1 mls hW1 hS1 hL))
      rw [← f3, ← g2, ← zci_ok _ q2, hz14]
      rfl
  case invokestatic idx =>
    simp only [zcq, Bool.and_eq_true] at hcq
    obtain ⟨e1, hc2⟩ := hcq
    have e1 := zlen e1
    subst e1
    split at hst
    · obtain ⟨a, sp, b, dp, n, r, rfl, h5⟩ := zcpy_inv hst
      split at h5 <;> cases h5
    · split at hst
      · obtain ⟨x, w, r, rfl, h⟩ := z2_inv hst
        cases (zsm_inv h).2
      · split at hst
        · obtain ⟨x, w, r, rfl, h⟩ := z2_inv hst
          cases (zsm_inv h).2
        · split at hst
          · obtain ⟨x, r, rfl, h⟩ := z1_inv hst
            cases (zsm_inv h).2
          · rename_i _ b1 _ b2 _ b3 _ b4
            obtain ⟨as, r, rfl, h3, h4, h⟩ := zcal_inv hst
            cases h
            cases hb9 : Nat.ble 9990 aux with
            | true =>
              rw [hb9] at hc2
              simp only [cond_true] at hc2
              rw [b1, b2, b3, b4] at hc2
              simp at hc2
            | false =>
              rw [hb9] at hc2
              simp only [cond_false, Bool.and_eq_true, Bool.or_eq_true] at hc2
              obtain ⟨hmd, hl⟩ := hc2
              obtain ⟨q1, q2, q3, q4, q5⟩ := zmd_inv hmd
              have ha : aux < 9990 := by have hn : zNY = 249 := rfl; omega
              exact zs_callS C0 hW hS hL.1 hdg (hl.imp zfind_eq zfind_eq) ha hmd h3 h4.1 (hM ⟨by omega, q2, h4.2⟩) R9 (fun H1 locs1 hW1 hS1 => W9 (hk H1 locs1 mls hW1 hS1 hL))
  case invokespecial idx =>
    simp only [zcq, Bool.and_eq_true] at hcq
    obtain ⟨e1, hc2⟩ := hcq
    have e1 := zlen e1
    subst e1
    split at hst
    · split at hst
      · split at hst <;> cases hst
      · cases hst
    · rename_i b1
      obtain ⟨as, r, rfl, h3, h4, h⟩ := zcal_inv hst
      rcases zrcv_inv h with ⟨a, lst, rfl, h⟩ | ⟨a, lst, rfl, h⟩
      · cases h
        rw [b1] at hc2
        simp only [cond_false, Bool.and_eq_true, Bool.or_eq_true] at hc2
        obtain ⟨hmd, hl⟩ := hc2
        obtain ⟨q1, q2, q3, q4, q5⟩ := zmd_inv hmd
        have ha : aux < 9990 := by have hn : zNY = 249 := rfl; omega
        have hrt : zrt (aux / 10) = none := zin_ret _ q2 (by simpa using q5)
        exact zs_callI C0 hW hS hL.1 hdg (hl.imp zfind_eq zfind_eq) ha hmd hrt h3 h4.1 (hM ⟨by omega, q2, h4.2⟩) R9 (fun H1 locs1 hW1 hS1 => W9 (hk H1 locs1 mls hW1 hS1 hL))
      · cases h
end ZCC
theorem zret_of {p : Program} {l : Launch} {e : Env} {R : Room} {s : State} {m : MethodId} {args : Array Value} {below : List Frame} {meth : Method} {c : Code} {base : Nat} {ad : Nat → Nat} {dA : Nat → ClassId} {D : va_G} {X : (Nat → Int32) × Nat} {d y : Nat} {z0 : Nat} {o : zO} (C0 : zCx p s m args meth c R base ad dA D X d y) (hr : meth.sig.returnType = zrt y) (hlocks : meth.locks = false) : zRet p l e R s m args below meth c (MQ below (zQc base ad dA D o) args s (o.2.2.2.2 - z0) (zss o.2.2.2.2 - zss z0) (fun q => base ≤ q)) base ad dA D y z0 o := by
  obtain ⟨hx, hb, hml, ho, hts, hK, hKt, hX, hT, hbs, hnm, hfr, hlo, hy⟩ := C0
  intro H locs mls pc i st aux X ls gs hW hS hdg hst hg
  have hk := zrk_ok y hy
  have hq : ∀ (v : Option Value) (t : State), o.1.map (ztr base ad) = v → t.heap = H → zQc base ad dA D o args s (.returned v) t := by
    intro v t hv ht
    exact ⟨by rw [hv], by rw [ht]; exact hW, hS.F ht⟩
  rcases (zst_ret hst).2 with ⟨rfl, x, rfl, rfl, h1⟩ | ⟨rfl, x, rfl, rfl, h1⟩ | ⟨rfl, v, rfl, rfl, h1, h2⟩ | ⟨rfl, rfl, rfl, h1⟩
  · have hg2 : zrg (zrk y) x := hg
    have hv : o.1.map (ztr base ad) = some (.int x) := by rw [h1]; rfl
    revert hk hg2
    generalize zrk y = rk
    intro hk hg2
    unfold zrg at hg2
    split at hg2
    · have e : zrt y = some .int := by
        revert hk
        cases zrt y with
        | none => intro hk; cases hk
        | some t => cases t <;> intro hk <;> first | rfl | cases hk
      exact W.iret hx hb (hr.trans e) (fun t ht _ => hq _ t hv ht) hS.2.2 hdg
    · have e : zrt y = some .boolean := by
        revert hk
        cases zrt y with
        | none => intro hk; cases hk
        | some t => cases t <;> intro hk <;> first | rfl | cases hk
      exact W.zret hx hb (hr.trans e) (by rcases hg2 with rfl | rfl <;> rfl) (fun t ht _ => hq _ t hv ht) hS.2.2 hdg
    · have e : zrt y = some .char := by
        revert hk
        cases zrt y with
        | none => intro hk; cases hk
        | some t => cases t <;> intro hk <;> first | rfl | cases hk
      exact W.zret hx hb (hr.trans e) (congrArg Value.int hg2) (fun t ht _ => hq _ t hv ht) hS.2.2 hdg
    · have e : zrt y = some .byte := by
        revert hk
        cases zrt y with
        | none => intro hk; cases hk
        | some t => cases t <;> intro hk <;> first | rfl | cases hk
      exact W.zret hx hb (hr.trans e) (congrArg Value.int hg2) (fun t ht _ => hq _ t hv ht) hS.2.2 hdg
    · exact hg2.elim
  · have hg2 : zrk y = 3 := hg
    have hv : o.1.map (ztr base ad) = some (.long x) := by rw [h1]; rfl
    rw [hg2] at hk
    have e : zrt y = some .long := by
      revert hk
      cases zrt y with
      | none => intro hk; cases hk
      | some t => cases t <;> intro hk <;> first | rfl | cases hk
    exact W.lret hx hb (hr.trans e) (fun t ht _ => hq _ t hv ht) hS.2.2 hdg
  · have hg2 : zrk y = 4 := hg
    have hv : o.1.map (ztr base ad) = some (ztr base ad v) := by rw [h1]; rfl
    rw [hg2] at hk
    have e : ∃ rt, zrt y = some rt ∧ ((∃ n, rt = .object n) ∨ ∃ t, rt = .array t) := by
      revert hk
      cases zrt y with
      | none => intro hk; cases hk
      | some t => cases t <;> intro hk <;> first | exact ⟨_, rfl, Or.inl ⟨_, rfl⟩⟩ | exact ⟨_, rfl, Or.inr ⟨_, rfl⟩⟩ | cases hk
    obtain ⟨rt, e, hrt⟩ := e
    have hv2 : ztr base ad v = .null ∨ ∃ a, ztr base ad v = .ref a := by
      rcases h2 with ⟨a, rfl⟩ | ⟨a, rfl⟩ <;> exact Or.inr ⟨_, rfl⟩
    exact W.aret hx hb (hr.trans e) hrt hv2 (fun t ht _ => hq _ t hv ht) hS.2.2 hdg
  · have hg2 : zrk y = 0 := hg
    have hv : o.1.map (ztr base ad) = none := by rw [h1]; rfl
    rw [hg2] at hk
    have e : zrt y = none := by
      revert hk
      cases zrt y with
      | none => intro _; rfl
      | some t => cases t <;> intro hk <;> cases hk
    exact W.vret hx hb (hr.trans e) (fun t ht _ => hq _ t hv ht) hS.2.2 hdg
theorem zmet_of {l : Launch} {base : Nat} {ad : Nat → Nat} {dA : Nat → ClassId} {D : va_G} {X : (Nat → Int32) × Nat} {d z : Nat} {as : List Value} {M : zM} {o : zO}
    (hrun : ∀ {p : Program} {e : Env} {R : Room} {s : State} {m : MethodId} {args : Array Value} {below : List Frame} {meth : Method} {c : Code} {Q : State → Prop} {z0 : Nat}, zCx p s m args meth c R base ad dA D X (d + 1) z → z0 ≤ M.2.2.2 → o.2.2.2.2 - z0 ≤ R.cells → zss o.2.2.2.2 - zss z0 ≤ R.slots → zRet p l e R s m args below meth c Q base ad dA D z z0 o → zOK p l e R s m args below meth c Q base ad dA D (zml z) z0 (0, zloc (zml z) as, [], M))
    (hz : 1 ≤ z ∧ z < zNY ∧ (zargs as).length ≤ zml z) : zMet l base ad dA D X (d + 1) z as M o := by
  obtain ⟨h1, h2, h3⟩ := hz
  obtain ⟨g1, g2, g3, g4, g5, g6, g7⟩ := zym_inv h2
  refine Met.ofW (cc := zcd z) (maxL := zml z) (ret := zrt z) g1 rfl ?_
  intro p e s m args below meth c s₁ B hml hv
  obtain ⟨rfl, hW, hK, hKt, hX, hT⟩ := hv
  have hts := atoms_spec (ws := zws z) B.pre
  have C1 : zCx p s m ((as.map (ztr base ad)).toArray) meth c (headSpec (zws z) (zrm (d + 1) M o.2)).room base ad dA D X (d + 1) z :=
    ⟨B.exec, B.bytes, hml, findClass_of_methodNamed B.named, fun w hw => hts w (List.mem_cons_of_mem _ hw), hK, hKt, hX, hT, by rw [hW.1]; exact Nat.le_add_right _ _, fun _ => (name_of_methodNamed B.named B.method).1, Nat.le_refl _, Nat.le_refl _, h2⟩
  have hl := lv_entry (as.map (ztr base ad)) (n := zml z) (by rw [zsl_len]; exact h3)
  rw [lg_entry_eq]
  generalize (lg_sl (as.map (ztr base ad)) ++ List.replicate (zml z - (lg_sl (as.map (ztr base ad))).length) Slot.unset).toArray = mls at hl ⊢
  have hlv : zLv base ad (zml z) (zloc (zml z) as) mls := ⟨hl.1, hl.2.1, fun q hq => by
    obtain ⟨k, hk, rfl⟩ := zll_mem.mp hq
    have h9 := zargs_sub (base := base) (ad := ad) as _ 0 k hk
    rw [Nat.zero_add] at h9
    exact hl.2.2 _ h9⟩
  have hret : zRet p l e (headSpec (zws z) (zrm (d + 1) M o.2)).room s m ((as.map (ztr base ad)).toArray) below meth c (MQ below (zQc base ad dA D o) ((as.map (ztr base ad)).toArray) s (o.2.2.2.2 - M.2.2.2) (zss o.2.2.2.2 - zss M.2.2.2) (fun q => base ≤ q)) base ad dA D z M.2.2.2 o := zret_of C1 B.returns B.notSynchronized
  have h9 := hrun C1 (Nat.le_refl _) (Nat.le_refl _) (Nat.le_refl _) hret s.heap [] mls hW va_S.rf hlv
  exact W.cs (Nat.sub_self _).symm (Nat.sub_self _).symm h9
