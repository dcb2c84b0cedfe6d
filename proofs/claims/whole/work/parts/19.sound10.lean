/-- THE MAIN ROW: where the small machine's run comes to an end, the great one comes to its caller's end -/
theorem zsound {X : (Nat → Int32) × Nat} (l : Launch) (base : Nat) (ad : Nat → Nat) (dA : Nat → ClassId) (D : va_G) : ∀ (n d y : Nat) (f : zCf) (o : zO), zrun X n d y f = some o → ∀ {p : Program} {e : Env} {R : Room} {s : State} {m : MethodId} {args : Array Value} {below : List Frame} {meth : Method} {c : Code} {Q : State → Prop} {z0 : Nat}, zCx p s m args meth c R base ad dA D X (d + 1) y → z0 ≤ f.2.2.2.2.2.2 → o.2.2.2.2 - z0 ≤ R.cells → zss o.2.2.2.2 - zss z0 ≤ R.slots → zRet p l e R s m args below meth c Q base ad dA D y z0 o → zOK p l e R s m args below meth c Q base ad dA D (zml y) z0 f := by
  intro n
  induction n with
  | zero => intro d y f o h; simp [zrun] at h
  | succ n ih =>
    intro d y f o h p e R s m args below meth c Q z0 C0 hz0 hrc hrs hret
    have hfin := zrun_sz _ _ _ _ _ h
    have hy := C0.2.2.2.2.2.2.2.2.2.2.2.2.2
    rw [zrun] at h
    cases hs : zstp X y f with
    | none => rw [hs] at h; simp at h
    | some q =>
      obtain ⟨gs, r⟩ := q
      rw [hs] at h
      dsimp only at h
      by_cases hg : zall gs
      · rw [if_pos hg] at h
        obtain ⟨pc, ls, st, M⟩ := f
        unfold zstp at hs
        dsimp only at hs
        split at hs
        · rename_i i aux hzt
          have hck := zck_all y (Nat.zero_le _) hy pc
          have hsz := zst_sz hs
          rcases r with o' | c' | ⟨z, as, M', pc', ls', rest⟩
          · dsimp only [zrb] at h
            have ho : o' = o := Option.some.inj h
            subst ho
            obtain ⟨len, hdg, hcq⟩ := zck_inv hck hzt
            have hM : o'.2 = M := (zst_ret hs).1
            intro H locs mls hW hS hL
            have e1 : len = 1 := zst_ret1 hs hcq
            subst e1
            have h9 := hret H locs mls pc i st aux X ls gs (by rw [hM]; exact hW) hS hdg (by rw [hM]; exact hs) hg
            rw [hM] at h9
            exact h9
          · dsimp only [zrb] at h
            have h2 := zrun_sz _ _ _ _ _ h
            have hm := zss_mono h2
            have hz1 : M.2.2.2 ≤ c'.2.2.2.2.2.2 := hsz
            have hz2 : z0 ≤ M.2.2.2 := hz0
            exact zs_jump C0 (by omega) hck hzt hs hg hz0 ⟨by omega, by omega⟩ (ih d y c' o h C0 (by omega) hrc hrs hret)
          · have hM : M' = M := hsz
            subst hM
            dsimp only [zrb] at h
            cases d with
            | zero => simp at h
            | succ d =>
              dsimp only at h
              cases hc : zrun X n d z (0, zloc (zml z) as, [], M') with
              | none => rw [hc] at h; simp at h
              | some o1 =>
                rw [hc] at h
                dsimp only at h
                have h1 : M'.2.2.2 ≤ o1.2.2.2.2 := zrun_sz _ _ _ _ _ hc
                have h2 : o1.2.2.2.2 ≤ o.2.2.2.2 := zrun_sz _ _ _ _ _ h
                have hz2 : z0 ≤ M'.2.2.2 := hz0
                refine zs_call (o := o1) C0 hck hzt hs hg hz0 h1 ⟨by omega, ?_⟩ ?_ (ih (d + 1) y _ o h C0 (by show z0 ≤ o1.2.2.2.2; omega) hrc hrs hret)
                · have := zss_mono h1
                  have := zss_mono h2
                  have := zss_mono hz2
                  omega
                · intro hz
                  exact zmet_of (fun C1 a1 a2 a3 a4 => ih d z _ o1 hc C1 a1 a2 a3 a4) hz
        · cases hs
      · rw [if_neg hg] at h
        simp at h
