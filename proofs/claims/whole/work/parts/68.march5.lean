/-! ===== generals who march or wait: the reference ===== -/
theorem pMr_le {M : zM} {g : Nat} (hE : okE (emR M)) (hW : okW M) (hg : g < nN (emR M)) : (Int32.ofNat 100000 ≤ pMr (emR M) g) ↔ pMarch (emR M) g = -1 := by
  obtain ⟨c, hc, h7⟩ := hE.2.2.2.2.2.1 g hg
  unfold pMr
  rcases pMarch_R hW hc h7 with ⟨k, hk, h1, h2⟩ | ⟨h1, h2⟩
  · rw [h2, if_neg (ne_m1 (by omega)), of_le (by omega) (by omega)]
    exact ⟨fun h => by omega, fun h => absurd h (ne_m1 (by omega))⟩
  · rw [h2, if_pos rfl]
    exact ⟨fun _ => rfl, fun _ => Int32.le_refl _⟩
theorem pMr_e {E : zE} {g : Nat} (h : ¬ pMarch E g = -1) : pMr E g = pMarch E g := if_neg h
theorem r220 {X : (Nat → Int32) × Nat} {d g : Nat} {M : zM} (hM : okM M) (hg : g < nN (emR M)) : zC X (d + 2) 220 [.ref 460, .int (Int32.ofNat g)] M = some (some (.int (bif pAb (emR M) (aR M) g then 1 else 0)), M) := by
  show zR X (d + 2) 220 (0, [.ref 460, .int (Int32.ofNat g)], [], M) = _
  have hG := hM.1
  unfold pAb
  rw [t220_0 _ _ hG, r197 (n := nD (emR M)) hG, Option.bind_some]
  dsimp only [zps]
  rw [t220_5 _ _ _ hG]
  cases hF : pFree (aR M) g
  · rw [cond_false, if_pos rfl]; rfl
  · rw [cond_true, if_neg (by decide), r183 hG hM.2.1 hM.2.2 hg, Option.bind_some]
    dsimp only [zps]
    rw [t220_13 _ _ _ hG]
    by_cases c : pMarch (emR M) g = -1
    · rw [if_pos ((pMr_le hM.2.1 hM.2.2 hg).mpr c), decide_eq_true c]; rfl
    · rw [if_neg (fun h => c ((pMr_le hM.2.1 hM.2.2 hg).mp h)), decide_eq_false c]; rfl
/-- only the gains have changed -/
def rg (M M' : zM) : Prop := M'.2 = M.2 ∧ ∀ c, c ≠ 499 → M'.1 c = M.1 c
theorem rg_rf {M : zM} : rg M M := ⟨rfl, fun _ _ => rfl⟩
theorem rg_tr {M M' M'' : zM} (h : rg M M') (h2 : rg M' M'') : rg M M'' := ⟨h2.1.trans h.1, fun c hc => (h2.2 c hc).trans (h.2 c hc)⟩
theorem rg_I {M M' : zM} {k : Nat} {x : Int32} (h : rg M M') : rg M (zsI M' 499 k x) := ⟨(z2_I).trans h.1, fun c hc => (zI_n1 hc).trans (h.2 c hc)⟩
theorem rg_w {M M' : zM} (h : rg M M') : zwk M M' :=
  ⟨by rw [h.1], fun a q1 q2 q3 => ⟨h.2 a (by omega), by rw [h.1]⟩, fun k _ _ _ => by rw [h.2 460 (by decide)], fun k _ _ _ => by rw [h.2 461 (by decide)], fun k _ => by rw [h.2 502 (by decide)]⟩
theorem rg_st {M M' : zM} {n : Nat} (h : rg M M') : stR n M' = stR n M := by
  unfold stR
  rw [h.2 461 (by decide), h.2 462 (by decide)]
theorem rg_a {M M' : zM} (h : rg M M') : aR M' = aR M := by
  show stR (nD (emR M')) M' = _
  rw [zwk_em (rg_w h), rg_st h]
theorem rg_s {M M' : zM} (h : rg M M') : rsm M M' := ⟨rg_w h, fun _ _ => by rw [h.2 461 (by decide)], fun _ _ => by rw [h.2 462 (by decide)]⟩
theorem r222 {X : (Nat → Int32) × Nat} {d : Nat} {s : Int32} {F : List Nat} {M : zM} (hM : okM M) (hF : F = (pOrd (emR M) (aR M)).reverse) (hs : ∀ k, k < 32 → pb s k = true → k ∈ F) : ∃ M', zC X (d + 2) 222 [.ref 460, .int s] M = some (none, M') ∧ rg M M' ∧ ∀ g, g < 4 → M'.1 499 g = pGain (emR M 8) F (pMen (emR M) (aR M)) s g := by
  show ∃ M', zR X (d + 2) 222 (0, [.ref 460, .int s, zjk, zjk, zjk, zjk, zjk], [], M) = some (none, M') ∧ _
  have hG := hM.1
  obtain ⟨hn, hc⟩ := okR_N hM.2.1
  have hmem : ∀ g, g ∈ F ↔ (g < nN (emR M) ∧ pAb (emR M) (aR M) g = true) := fun g => by rw [hF, List.mem_reverse]; exact pOr_m _
  have hpw : F.Pairwise (fun a b => lx (pMarch (emR M)) a b) := by rw [hF, List.pairwise_reverse]; exact pOr_p _
  have hab : ∀ g, g ∈ F → ¬ pMarch (emR M) g = -1 := fun g hg h => by
    have h2 := ((hmem g).mp hg).2
    unfold pAb at h2
    rw [decide_eq_true h, Bool.not_true, Bool.and_false] at h2
    cases h2
  have lxi : ∀ g : Nat, ¬ lx (pMarch (emR M)) g g := fun g h => lx_asym h h
  have scan : ∀ (g : Nat) (left th hd : Int32) (M1 : zM), rg M M1 → g < nN (emR M) → pb left g = true → (∀ j, j < 32 → pb left j = true → j ∈ F ∧ (j ≠ g → lx (pMarch (emR M)) g j)) → ∀ m k best, k + m = nN (emR M) → ((best = -1 ∧ ∀ j, j < k → pb left j = false) ∨ ∃ b, b < k ∧ best = Int32.ofNat b ∧ pb left b = true ∧ ∀ j, j < k → pb left j = true → j ≠ b → lx (pMarch (emR M)) b j) → zR X (d + 2) 222 (53, [.ref 460, .int s, .int th, .int hd, .int left, .int best, .int (Int32.ofNat k)], [], M1) = zR X (d + 2) 222 (53, [.ref 460, .int s, .int th, .int hd, .int left, .int (Int32.ofNat g), .int (Int32.ofNat (nN (emR M)))], [], M1) := by
    intro g left th hd M1 hr hgn hgl hlf m
    induction m with
    | zero =>
      intro k best hk inv
      have e : k = nN (emR M) := by omega
      subst e
      rcases inv with ⟨h1, h2⟩ | ⟨b, h1, h2, h3, h4⟩
      · have := h2 g hgn
        rw [hgl] at this
        cases this
      · by_cases e : g = b
        · rw [h2, e]
        · exact (lx_asym (h4 g hgn hgl e) ((hlf b (by omega) h3).2 (fun h => e h.symm))).elim
    | succ m ih =>
      intro k best hk inv
      have hG1 : zGE M1 := zwk_G (rg_w hr) hG
      have hM1 := zwk_M (rg_w hr) hM
      have em := zwk_em (rg_w hr)
      have e4 : M1.1 461 4 = Int32.ofNat (nN (emR M)) := by rw [hr.2 461 (by decide)]; exact hc
      have hnle : ¬ M1.1 461 4 ≤ Int32.ofNat k := by rw [e4, of_le (by omega) (by omega)]; omega
      rw [t222_53 _ _ _ _ _ _ _ hG1 (fun h => absurd h hnle), if_neg hnle, r136 hG1, Option.bind_some]
      dsimp only [zps]
      rw [t222_71 _ _ _ _ _ _ _ _ hG1, of_succ]
      cases hb : pb left k
      · rw [cond_false, if_pos rfl]
        refine ih (k + 1) best (by omega) ?_
        rcases inv with ⟨h1, h2⟩ | ⟨b, h1, h2, h3, h4⟩
        · refine Or.inl ⟨h1, fun j hj => ?_⟩
          by_cases e : j = k
          · rw [e]; exact hb
          · exact h2 j (by omega)
        · refine Or.inr ⟨b, by omega, h2, h3, fun j hj hl hne => ?_⟩
          have : j ≠ k := fun e => by rw [e, hb] at hl; cases hl
          exact h4 j (by omega) hl hne
      · rw [cond_true, if_neg (by decide)]
        rcases inv with ⟨h1, h2⟩ | ⟨b, h1, h2, h3, h4⟩
        · rw [if_pos h1]
          refine ih (k + 1) _ (by omega) (Or.inr ⟨k, by omega, rfl, hb, fun j hj hl hne => ?_⟩)
          rw [h2 j (by omega)] at hl
          cases hl
        · have hkF := (hlf k (by omega) hb).1
          have hbF := (hlf b (by omega) h3).1
          rw [h2, if_neg (ne_m1 (by omega)), r183 hG1 hM1.2.1 hM1.2.2 (by rw [em]; omega), Option.bind_some]
          dsimp only [zps]
          rw [t222_86 _ _ _ _ _ _ _ _ hG1, r183 hG1 hM1.2.1 hM1.2.2 (by rw [em]; omega), Option.bind_some, em, pMr_e (hab k hkF), pMr_e (hab b hbF)]
          dsimp only [zps]
          rw [t222_92 _ _ _ _ _ _ _ _ _ hG1, of_succ]
          by_cases c : pMarch (emR M) b ≤ pMarch (emR M) k
          · rw [if_pos c]
            refine ih (k + 1) _ (by omega) (Or.inr ⟨b, by omega, rfl, h3, fun j hj hl hne => ?_⟩)
            by_cases e : j = k
            · rw [e]
              by_cases c2 : pMarch (emR M) b = pMarch (emR M) k
              · exact Or.inr ⟨c2, h1⟩
              · exact Or.inl (Int32.lt_of_le_of_ne c c2)
            · exact h4 j (by omega) hl hne
          · rw [if_neg c]
            refine ih (k + 1) _ (by omega) (Or.inr ⟨k, by omega, rfl, hb, fun j hj hl hne => ?_⟩)
            by_cases e : j = b
            · rw [e]; exact Or.inl (Int32.not_le.mp c)
            · rcases h4 j (by omega) hl e with h5 | h5
              · exact Or.inl (Int32.lt_trans (Int32.not_le.mp c) h5)
              · exact Or.inl (by rw [← h5.1]; exact Int32.not_le.mp c)
  have loop : ∀ (G : List Nat) (th hd left : Int32) (v5 v6 : Value) (M1 : zM), rg M M1 → G.Pairwise (fun a b => lx (pMarch (emR M)) a b) → (∀ g, g ∈ G → g ∈ F) → (∀ k, k < 32 → pb left k = (pb s k && decide (k ∈ G))) → (hd = -1 ∨ ∃ g, g < 4 ∧ hd = Int32.ofNat g) → ∃ M', zR X (d + 2) 222 (42, [.ref 460, .int s, .int th, .int hd, .int left, v5, v6], [], M1) = some (none, M') ∧ M' = (if pLH (emR M 8) s G th hd = -1 then M1 else zsI M1 499 (pLH (emR M 8) s G th hd).toNatClampNeg 2) := by
    intro G
    induction G with
    | nil =>
      intro th hd left v5 v6 M1 hr hp hGF hl hh
      have hG1 : zGE M1 := zwk_G (rg_w hr) hG
      have e0 : left = 0 := pb_ext (fun k hk => by rw [hl k hk, pb_0, decide_eq_false (fun h => (List.not_mem_nil h).elim), Bool.and_false])
      rw [t222_42 _ _ _ _ _ _ _ hG1 (fun _ hne => by rcases hh with h | ⟨g, h1, h2⟩; exact absurd h hne; rw [h2]; exact vp_of h1 (by omega)), if_pos e0]
      show ∃ M', _ ∧ M' = (if hd = -1 then M1 else zsI M1 499 hd.toNatClampNeg 2)
      by_cases c : hd = -1
      · rw [if_pos c, if_pos c]; exact ⟨_, rfl, rfl⟩
      · rw [if_neg c, if_neg c]; exact ⟨_, rfl, rfl⟩
    | cons g G ih =>
      intro th hd left v5 v6 M1 hr hp hGF hl hh
      have hG1 : zGE M1 := zwk_G (rg_w hr) hG
      obtain ⟨hp1, hp2⟩ := List.pairwise_cons.mp hp
      have hgF := hGF g (List.mem_cons_self ..)
      have hgn := ((hmem g).mp hgF).1
      have hgG : ¬ g ∈ G := fun h => lxi g (hp1 g h)
      rw [pLH]
      cases hb : pb s g
      · rw [cond_false]
        refine ih th hd left v5 v6 M1 hr hp2 (fun x hx => hGF x (List.mem_cons_of_mem _ hx)) (fun k hk => ?_) hh
        rw [hl k hk]
        by_cases e : k = g
        · rw [e, hb, Bool.false_and, Bool.false_and]
        · congr 1
          exact Bool.eq_iff_iff.mpr (by rw [decide_eq_true_eq, decide_eq_true_eq, List.mem_cons]; exact ⟨fun h => h.resolve_left e, Or.inr⟩)
      · rw [cond_true]
        have hlg : pb left g = true := by rw [hl g (by omega), hb, decide_eq_true (List.mem_cons_self ..)]; rfl
        have hne : ¬ left = 0 := fun h => by rw [h, pb_0] at hlg; cases hlg
        have e4 : M1.1 461 4 = Int32.ofNat (nN (emR M)) := by rw [hr.2 461 (by decide)]; exact hc
        have e8 : M1.1 468 g = emR M 8 g := by rw [hr.2 468 (by decide)]; exact (emR_N (Or.inr (Or.inl rfl)) hgn).symm
        have gg : (Int32.ofNat g).toNatClampNeg = g := toNat_of (by omega)
        have sc := scan g left th hd M1 hr hgn hlg (fun j hj hjl => by
          rw [hl j hj, Bool.and_eq_true, decide_eq_true_eq] at hjl
          exact ⟨hGF j hjl.2, fun hne => hp1 j ((List.mem_cons.mp hjl.2).resolve_left hne)⟩) (nN (emR M)) 0 (-1) (by omega) (Or.inl ⟨rfl, fun j hj => absurd hj (Nat.not_lt_zero _)⟩)
        have sc' : zR X (d + 2) 222 (53, [.ref 460, .int s, .int th, .int hd, .int left, .int (-1), .int 0], [], M1) = _ := sc
        have hl2 : ∀ k, k < 32 → pb (left &&& (1 <<< (Int32.ofNat g &&& 31) ^^^ -1)) k = (pb s k && decide (k ∈ G)) := by
          intro k hk
          rw [pb_and hk, pb_not hk, pb_one g (by omega) k hk, hl k hk, Bool.and_assoc]
          congr 1
          by_cases e : k = g
          · rw [decide_eq_true e, Bool.not_true, Bool.and_false, e, decide_eq_false hgG]
          · rw [decide_eq_false e, Bool.not_false, Bool.and_true]
            exact Bool.eq_iff_iff.mpr (by rw [decide_eq_true_eq, decide_eq_true_eq, List.mem_cons]; exact ⟨fun h => h.resolve_left e, Or.inr⟩)
        rw [t222_42 _ _ _ _ _ _ _ hG1 (fun h => absurd h hne), if_neg hne, sc', t222_53 _ _ _ _ _ _ _ hG1 (fun _ => vp_of (by omega) (by omega)), e4, if_pos (Int32.le_refl _), gg, e8]
        by_cases c : emR M 8 g ≤ th
        · rw [if_pos c, if_pos c]
          exact ih _ _ _ _ _ M1 hr hp2 (fun x hx => hGF x (List.mem_cons_of_mem _ hx)) hl2 hh
        · rw [if_neg c, if_neg c]
          exact ih _ _ _ _ _ M1 hr hp2 (fun x hx => hGF x (List.mem_cons_of_mem _ hx)) hl2 (Or.inr ⟨g, by omega, rfl⟩)
  have base : ∀ m k M1, k + m = 4 → rg M M1 → (∀ j, j < k → M1.1 499 j = bif pb s j then 0 else 1) → ∃ M', zR X (d + 2) 222 (2, [.ref 460, .int s, .int (Int32.ofNat k), zjk, zjk, zjk, zjk], [], M1) = some (none, M') ∧ rg M M' ∧ ∀ g, g < 4 → M'.1 499 g = pGain (emR M 8) F (pMen (emR M) (aR M)) s g := by
    intro m
    induction m with
    | zero =>
      intro k M1 hk hr hj
      have hG1 : zGE M1 := zwk_G (rg_w hr) hG
      have hM1 := zwk_M (rg_w hr) hM
      have em := zwk_em (rg_w hr)
      have est : stR (nD (emR M)) M1 = aR M := rg_st hr
      rw [t222_2 _ _ _ _ _ _ _ hG1, if_pos (by rw [show (4 : Int32) = Int32.ofNat 4 from rfl, of_le (by omega) (by omega)]; omega), r181 (n := nD (emR M)) hG1 hM1.2.1, Option.bind_some, em, est]
      dsimp only [zps]
      rw [t222_36 _ _ _ _ _ _ _ _ hG1]
      obtain ⟨M', q1, q2⟩ := loop F (pMen (emR M) (aR M)) (-1) s zjk zjk M1 hr hpw (fun _ h => h) (fun k hk => by
        cases hb : pb s k
        · rfl
        · rw [decide_eq_true (hs k hk hb)]; rfl) (Or.inl rfl)
      refine ⟨M', q1, ?_, fun g hg => ?_⟩
      · rw [q2]
        split
        · exact hr
        · exact rg_I hr
      · rw [q2]
        unfold pGain
        rcases pLH_m (a := emR M 8) (s := s) (F := F) (th := pMen (emR M) (aR M)) (h := -1) with e | ⟨g', m1, b1, e⟩
        · rw [e, if_pos rfl, hj g (by omega)]
          cases pb s g
          · rfl
          · rw [cond_true, cond_true, if_neg (fun h => ne_m1 (by omega) h.symm)]
        · have hg' := ((hmem g').mp m1).1
          rw [e, if_neg (ne_m1 (by omega)), zI_s, toNat_of (by omega)]
          by_cases eg : g = g'
          · rw [if_pos eg, eg, b1, cond_true, if_pos rfl]
          · rw [if_neg eg, hj g (by omega), if_neg (fun h => eg ((of_inj (by omega) (by omega)).mp h).symm)]
    | succ m ih =>
      intro k M1 hk hr hj
      have hG1 : zGE M1 := zwk_G (rg_w hr) hG
      have kk : (Int32.ofNat k).toNatClampNeg = k := toNat_of (by omega)
      rw [t222_2 _ _ _ _ _ _ _ hG1, if_neg (by rw [show (4 : Int32) = Int32.ofNat 4 from rfl, of_le (by omega) (by omega)]; omega), r136 hG1, Option.bind_some]
      dsimp only [zps]
      rw [t222_17 _ _ _ _ _ _ _ _ _ _ hG1 (fun _ => zis_q hG1 zq_499) (fun _ => by rw [zl_499]; exact vp_of (by omega) (by omega)) (fun _ => zis_q hG1 zq_499) (fun _ => by rw [zl_499]; exact vp_of (by omega) (by omega)), kk, of_succ]
      have nx : ∀ v : Int32, v = (bif pb s k then 0 else 1) → ∃ M', zR X (d + 2) 222 (2, [.ref 460, .int s, .int (Int32.ofNat (k + 1)), zjk, zjk, zjk, zjk], [], zsI M1 499 k v) = some (none, M') ∧ rg M M' ∧ ∀ g, g < 4 → M'.1 499 g = pGain (emR M 8) F (pMen (emR M) (aR M)) s g := fun v hv => by
        refine ih (k + 1) _ (by omega) (rg_I hr) (fun j hj2 => ?_)
        rw [zI_s]
        by_cases e : j = k
        · rw [if_pos e, e]; exact hv
        · rw [if_neg e]; exact hj j (by omega)
      cases hb : pb s k
      · rw [cond_false, if_pos rfl]; exact nx 1 (by rw [hb]; rfl)
      · rw [cond_true, if_neg (by decide)]; exact nx 0 (by rw [hb]; rfl)
  rw [t222_0 _ _ _ _ _ _ _ hG]
  exact base 4 0 M (by omega) rg_rf (fun j hj => absurd hj (Nat.not_lt_zero _))
