/-! ===== the whole run ===== -/
def zrsz (M : zM) (r : zRs) : Prop := match r with
  | .inl o => o.2.2.2.2 = M.2.2.2
  | .inr (.inl c) => M.2.2.2 ≤ c.2.2.2.2.2.2
  | .inr (.inr (_, _, M', _)) => M' = M
theorem zst_sz {X : (Nat → Int32) × Nat} {rk : Nat} {i : Instr} {aux pc : Nat} {ls st : List Value} {M : zM} {gs : List Prop} {r : zRs} (h : zst X rk i aux pc ls st M = some (gs, r)) : zrsz M r := by
  have J : ∀ {gs' : List Prop} {pc' : Nat} {ls' st' : List Value} {M' : zM}, zgo gs' pc' ls' st' M' = some (gs, r) → M.2.2.2 ≤ M'.2.2.2 → zrsz M r := by
    intro gs' pc' ls' st' M' h1 h2
    cases h1
    exact h2
  have E : M.2.2.2 ≤ M.2.2.2 := Nat.le_refl _
  cases i <;> simp only [zst] at h <;> first
    | (cases h; done)
    | (exact J h E)
    | (obtain ⟨x, hv, h⟩ := zldi_inv h; exact J h E)
    | (obtain ⟨x, hv, h⟩ := zldl_inv h; exact J h E)
    | (obtain ⟨x, hv, hr, h⟩ := zlda_inv h; exact J h E)
    | (obtain ⟨x, r, rfl, h⟩ := z1_inv h; exact J h E)
    | (obtain ⟨x, r, rfl, h⟩ := z1l_inv h; exact J h E)
    | (obtain ⟨x, w, r, rfl, h⟩ := z2_inv h; exact J h E)
    | (obtain ⟨x, w, r, rfl, h⟩ := z2l_inv h; exact J h E)
    | (obtain ⟨v, r, rfl, hr, h⟩ := zsta_inv h; exact J h E)
    | (obtain ⟨v, r, rfl, hr, h⟩ := zdup_inv h; exact J h E)
    | (obtain ⟨v, w, r, rfl, hr, hr2, h⟩ := zdup2_inv h; exact J h E)
    | (rcases znull_inv h with ⟨r, rfl, h⟩ | ⟨a, r, rfl, h⟩ <;> exact J h E)
    | (rcases zald_inv h with ⟨x, a, r, rfl, h⟩ | ⟨x, a, r, rfl, h⟩ <;> first | exact J h E | (cases h; done))
    | (obtain ⟨v, x, a, r, rfl, h⟩ := zast_inv h; exact J h E)
    | (obtain ⟨v, x, a, r, rfl, h⟩ := zastl_inv h; exact J h E)
    | (obtain ⟨v, x, a, r, rfl, h⟩ := zasta_inv h; exact J h E)
    | skip
  case ldc idx =>
    cases aux with
    | zero => cases h
    | succ a =>
      dsimp only at h
      split at h <;> exact J h E
  case ldc_w idx =>
    cases aux with
    | zero => cases h
    | succ a =>
      dsimp only at h
      split at h <;> exact J h E
  case getfield idx =>
    split at h
    · exact J h E
    · split at h
      · exact J h E
      · cases h
    · cases h
  case putfield idx =>
    unfold zfp at h
    split at h <;> first | exact J h E | (cases h; done)
  case arraylength =>
    split at h <;> first | exact J h E | (cases h; done)
  case new idx => exact J h (Nat.le_succ _)
  case newarray t =>
    obtain ⟨x, r, rfl, h⟩ := z1_inv h
    exact J h (Nat.le_succ _)
  case anewarray t =>
    obtain ⟨x, r, rfl, h⟩ := z1_inv h
    exact J h (Nat.le_succ _)
  case multianewarray idx dm =>
    obtain ⟨n, k, r, rfl, h⟩ := z2_inv h
    exact J h (by show M.2.2.2 ≤ M.2.2.2 + 1 + n.toNatClampNeg; omega)
  case invokevirtual idx =>
    obtain ⟨as, r, rfl, h3, h4, h⟩ := zcal_inv h
    rcases zrcv_inv h with ⟨a, lst, rfl, h⟩ | ⟨a, lst, rfl, h⟩ <;> (cases h; exact rfl)
  case invokestatic idx =>
    split at h
    · obtain ⟨a, sp, b, dp, n, r, rfl, h5⟩ := zcpy_inv h
      split at h5
      · exact J h5 E
      · cases h5
    · split at h
      · obtain ⟨x, w, r, rfl, h⟩ := z2_inv h
        exact J (zsm_inv h).2 E
      · split at h
        · obtain ⟨x, w, r, rfl, h⟩ := z2_inv h
          exact J (zsm_inv h).2 E
        · split at h
          · obtain ⟨x, r, rfl, h⟩ := z1_inv h
            exact J (zsm_inv h).2 E
          · obtain ⟨as, r, rfl, h3, h4, h⟩ := zcal_inv h
            cases h
            exact rfl
  case invokespecial idx =>
    split at h
    · split at h
      · split at h
        · exact J h E
        · cases h
      · cases h
    · obtain ⟨as, r, rfl, h3, h4, h⟩ := zcal_inv h
      rcases zrcv_inv h with ⟨a, lst, rfl, h⟩ | ⟨a, lst, rfl, h⟩
      · cases h
        exact rfl
      · cases h
  case ireturn =>
    split at h <;> first | (cases h; exact rfl) | (cases h; done)
  case lreturn =>
    split at h <;> first | (cases h; exact rfl) | (cases h; done)
  case areturn =>
    split at h <;> first | (cases h; exact rfl) | (cases h; done)
  case return_ =>
    split at h <;> first | (cases h; exact rfl) | (cases h; done)
theorem zrun_sz {X : (Nat → Int32) × Nat} : ∀ (n d y : Nat) (c : zCf) (o : zO), zrun X n d y c = some o → c.2.2.2.2.2.2 ≤ o.2.2.2.2 := by
  intro n
  induction n with
  | zero => intro d y c o h; simp [zrun] at h
  | succ n ih =>
    intro d y c o h
    rw [zrun] at h
    cases hs : zstp X y c with
    | none => rw [hs] at h; simp at h
    | some q =>
      obtain ⟨gs, r⟩ := q
      rw [hs] at h
      dsimp only at h
      have hz : zrsz c.2.2.2 r := by
        unfold zstp at hs
        split at hs
        · exact zst_sz hs
        · cases hs
      by_cases hg : zall gs
      · rw [if_pos hg] at h
        rcases r with o' | c' | ⟨z, as, M, pc, ls, rest⟩
        · cases h
          exact Nat.le_of_eq hz.symm
        · exact Nat.le_trans hz (ih _ _ _ _ h)
        · have hz : M = c.2.2.2 := hz
          subst hz
          dsimp only [zrb] at h
          cases d with
          | zero => simp at h
          | succ d =>
            dsimp only at h
            cases hc : zrun X n d z (0, zloc (zml z) as, [], c.2.2.2) with
            | none => rw [hc] at h; simp at h
            | some o1 =>
              rw [hc] at h
              have e1 : c.2.2.2.2.2.2 ≤ o1.2.2.2.2 := ih d z (0, zloc (zml z) as, [], c.2.2.2) o1 hc
              have e2 : o1.2.2.2.2 ≤ o.2.2.2.2 := ih _ _ _ _ h
              exact Nat.le_trans e1 e2
      · rw [if_neg hg] at h
        simp at h
/-- a place with its end: what stands there when the method returns -/
def zRet (p : Program) (l : Launch) (e : Env) (R : Room) (s : State) (m : MethodId) (args : Array Value) (below : List Frame) (meth : Method) (c : Code) (Q : State → Prop) (base : Nat) (ad : Nat → Nat) (dA : Nat → ClassId) (D : va_G) (y z0 : Nat) (o : zO) : Prop :=
  ∀ (H : Heap) (locs : List Loc) (mls : Array Slot) (pc : Nat) (i : Instr) (st : List Value) (aux : Nat) (X : (Nat → Int32) × Nat) (ls : List Value) (gs : List Prop), zW base dA D o.2 H → va_S (fun q => base ≤ q) s.heap H locs → decode (zcd y) pc = .ok (i, 1) → zst X (zrk y) i aux pc ls st o.2 = some (gs, .inl o) → zall gs → W p l e R s m args below meth c H locs (o.2.2.2.2 - z0) (zss o.2.2.2.2 - zss z0) Q (F0 m pc mls (st.map (ztr base ad)))
