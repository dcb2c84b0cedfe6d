/-! ===== rests, first: the reference ===== -/
theorem r223 {X : (Nat → Int32) × Nat} {d : Nat} {s : Int32} {F : List Nat} {M : zM} (hM : okM M) (hF : F = (pOrd (emR M) (aR M)).reverse) (hs : ∀ k, k < 32 → pb s k = true → k ∈ F) : ∃ M', zC X (d + 3) 223 [.ref 460, .int s, .int (pCn (pAb (emR M) (aR M)) (nN (emR M)))] M = some (some (.int (bif pRest (emR M 8) F (pMen (emR M) (aR M)) s then 1 else 0)), M') ∧ rg M M' := by
  show ∃ M', zR X (d + 3) 223 (0, [.ref 460, .int s, .int (pCn (pAb (emR M) (aR M)) (nN (emR M))), zjk, zjk], [], M) = some (some (.int _), M') ∧ _
  have hG := hM.1
  obtain ⟨hn, hc⟩ := okR_N hM.2.1
  have hmem : ∀ g, g ∈ F ↔ (g < nN (emR M) ∧ pAb (emR M) (aR M) g = true) := fun g => by rw [hF, List.mem_reverse]; exact pOr_m _
  have hbit : ∀ k, k < nN (emR M) → (pb (pCn (pAb (emR M) (aR M)) (nN (emR M))) k = true ↔ k ∈ F) := fun k hk => by
    rw [pCn_bit (by omega) _ (by omega), hmem, Bool.and_eq_true, Nat.blt_eq]
  have loop : ∀ m k v4 M1, k + m = nN (emR M) → rg M M1 → (∀ j, j < k → j ∈ F → pGain (emR M 8) F (pMen (emR M) (aR M)) (s ^^^ (1 <<< (Int32.ofNat j &&& 31))) j ≤ pGain (emR M 8) F (pMen (emR M) (aR M)) s j) → ∃ M', zR X (d + 3) 223 (2, [.ref 460, .int s, .int (pCn (pAb (emR M) (aR M)) (nN (emR M))), .int (Int32.ofNat k), v4], [], M1) = some (some (.int (bif pRest (emR M 8) F (pMen (emR M) (aR M)) s then 1 else 0)), M') ∧ rg M M' := by
    intro m
    induction m with
    | zero =>
      intro k v4 M1 hk hr hj
      have hG1 : zGE M1 := zwk_G (rg_w hr) hG
      have e4 : M1.1 461 4 = Int32.ofNat (nN (emR M)) := by rw [hr.2 461 (by decide)]; exact hc
      have ha : pRest (emR M 8) F (pMen (emR M) (aR M)) s = true := by
        unfold pRest
        rw [List.all_eq_true]
        intro j hjF
        exact decide_eq_true (hj j (by have := ((hmem j).mp hjF).1; omega) hjF)
      rw [t223_2 _ _ _ _ _ hG1, e4, if_pos (by rw [of_le (by omega) (by omega)]; omega), ha]
      exact ⟨M1, rfl, hr⟩
    | succ m ih =>
      intro k v4 M1 hk hr hj
      have hG1 : zGE M1 := zwk_G (rg_w hr) hG
      have hM1 := zwk_M (rg_w hr) hM
      have em := zwk_em (rg_w hr)
      have ea := rg_a hr
      have e4 : M1.1 461 4 = Int32.ofNat (nN (emR M)) := by rw [hr.2 461 (by decide)]; exact hc
      have kk : (Int32.ofNat k).toNatClampNeg = k := toNat_of (by omega)
      rw [t223_2 _ _ _ _ _ hG1, e4, if_neg (by rw [of_le (by omega) (by omega)]; omega), r136 hG1, Option.bind_some]
      dsimp only [zps]
      rw [t223_17 _ _ _ _ _ _ hG1, of_succ]
      cases hb : pb (pCn (pAb (emR M) (aR M)) (nN (emR M))) k
      · rw [cond_false, if_pos rfl]
        refine ih (k + 1) v4 M1 (by omega) hr (fun j hj2 hjF => ?_)
        have : j ≠ k := fun e => by rw [e] at hjF; rw [(hbit k (by omega)).mpr hjF] at hb; cases hb
        exact hj j (by omega) hjF
      · have hkF := (hbit k (by omega)).mp hb
        obtain ⟨M2, q1, q2, q3⟩ := r222 (X := X) (d := d) (s := s) (F := F) (M := M1) hM1 (by rw [em, ea]; exact hF) hs
        rw [em, ea] at q3
        have hr2 := rg_tr hr q2
        have hG2 : zGE M2 := zwk_G (rg_w hr2) hG
        have em2 := zwk_em (rg_w hr2)
        have ea2 := rg_a hr2
        obtain ⟨M3, w1, w2, w3⟩ := r222 (X := X) (d := d) (s := s ^^^ (1 <<< (Int32.ofNat k &&& 31))) (F := F) (M := M2) (zwk_M (rg_w hr2) hM) (by rw [em2, ea2]; exact hF) (fun j hj2 hjb => by
          rw [pb_xor hj2, pb_one k (by omega) j hj2] at hjb
          by_cases e : j = k
          · rw [e]; exact hkF
          · rw [decide_eq_false e, Bool.xor_false] at hjb
            exact hs j hj2 hjb)
        rw [em2, ea2] at w3
        have hr3 := rg_tr hr2 w2
        have hG3 : zGE M3 := zwk_G (rg_w hr3) hG
        rw [cond_true, if_neg (by decide), q1, Option.bind_some]
        dsimp only [zps]
        rw [t223_25 _ _ _ _ _ hG2 (vp_of (by omega) (by omega)), kk, q3 k (by omega), w1, Option.bind_some]
        dsimp only [zps]
        rw [t223_42 _ _ _ _ _ hG3 (vp_of (by omega) (by omega)), kk, w3 k (by omega), of_succ]
        by_cases c : pGain (emR M 8) F (pMen (emR M) (aR M)) (s ^^^ (1 <<< (Int32.ofNat k &&& 31))) k ≤ pGain (emR M 8) F (pMen (emR M) (aR M)) s k
        · rw [if_pos c]
          refine ih (k + 1) _ M3 (by omega) hr3 (fun j hj2 hjF => ?_)
          by_cases e : j = k
          · rw [e]; exact c
          · exact hj j (by omega) hjF
        · have ha : pRest (emR M 8) F (pMen (emR M) (aR M)) s = false := by
            cases h : pRest (emR M 8) F (pMen (emR M) (aR M)) s
            · rfl
            · unfold pRest at h
              rw [List.all_eq_true] at h
              exact absurd (of_decide_eq_true (h k hkF)) c
          rw [if_neg c, ha]
          exact ⟨M3, rfl, hr3⟩
  rw [t223_0 _ _ _ _ _ hG]
  exact loop (nN (emR M)) 0 zjk M (by omega) rg_rf (fun j hj => absurd hj (Nat.not_lt_zero _))
theorem r224 {X : (Nat → Int32) × Nat} {d : Nat} {x : Int32} {M : zM} (hM : okM M) : ∃ M', zC X (d + 4) 224 [.ref 460, .int x] M = some (some (.int (pRests (emR M) (aR M) x)), M') ∧ rsm M M' := by
  show ∃ M', zR X (d + 4) 224 (0, [.ref 460, .int x, zjk, zjk, zjk, zjk], [], M) = some (some (.int _), M') ∧ _
  have hG := hM.1
  obtain ⟨hn, hc⟩ := okR_N hM.2.1
  have h0 : M.1 460 25 = emR M 0 0 := rfl
  unfold pRests
  rw [t224_0 _ _ _ _ _ _ hG, h0]
  by_cases c0 : emR M 0 0 = 0
  · rw [if_pos c0, if_pos c0]
    exact ⟨M, rfl, rsm_rf⟩
  · rw [if_neg c0, if_neg c0, r135i (y := 0) (z := 1) (a := 0) (b := 1) hG rfl rfl, Option.bind_some]
    dsimp only [zps]
    rw [t224_14 _ _ _ _ _ _ _ hG]
    by_cases c : x < 0 ∨ 1 < x
    · rw [if_pos c, if_pos c, if_neg (by decide)]
      exact ⟨M, rfl, rsm_rf⟩
    · rw [if_neg c, if_neg c, if_pos (by decide)]
      obtain ⟨v, hv2, hv⟩ := pCn_r (f := pAb (emR M) (aR M)) hn
      have hpw : 2 ^ nN (emR M) ≤ 2 ^ 4 := Nat.pow_le_pow_right (by omega) hn
      have hvv : (pCn (pAb (emR M) (aR M)) (nN (emR M))).toNatClampNeg = v := by rw [hv, toNat_of (by omega)]
      rw [hvv]
      have hmem : ∀ g, g ∈ (pOrd (emR M) (aR M)).reverse ↔ (g < nN (emR M) ∧ pAb (emR M) (aR M) g = true) := fun g => by rw [List.mem_reverse]; exact pOr_m _
      have loop : ∀ m k M1, k + m = v + 1 → rg M M1 → ∃ M', zR X (d + 4) 224 (66, [.ref 460, .int x, .int (pCn (pAb (emR M) (aR M)) (nN (emR M))), .int (pRt (emR M 8) (pOrd (emR M) (aR M)).reverse (pMen (emR M) (aR M)) (pCn (pAb (emR M) (aR M)) (nN (emR M))) k).1, .int (pRt (emR M 8) (pOrd (emR M) (aR M)).reverse (pMen (emR M) (aR M)) (pCn (pAb (emR M) (aR M)) (nN (emR M))) k).2, .int (Int32.ofNat k)], [], M1) = some (some (.int (if x = 0 then (pRt (emR M 8) (pOrd (emR M) (aR M)).reverse (pMen (emR M) (aR M)) (pCn (pAb (emR M) (aR M)) (nN (emR M))) (v + 1)).1 else (pRt (emR M 8) (pOrd (emR M) (aR M)).reverse (pMen (emR M) (aR M)) (pCn (pAb (emR M) (aR M)) (nN (emR M))) (v + 1)).2)), M') ∧ rsm M M' := by
        intro m
        induction m with
        | zero =>
          intro k M1 hk hr
          have hG1 : zGE M1 := zwk_G (rg_w hr) hG
          have hlt : pCn (pAb (emR M) (aR M)) (nN (emR M)) < Int32.ofNat k := by rw [hv, of_lt (by omega) (by omega)]; omega
          rw [t224_66 _ _ _ _ _ _ hG1, if_pos hlt, show k = v + 1 by omega]
          refine ⟨M1, ?_, rg_s hr⟩
          by_cases c4 : x = 0
          · rw [if_neg (not_not_intro c4), if_pos c4]
          · rw [if_pos c4, if_neg c4]
        | succ m ih =>
          intro k M1 hk hr
          have hG1 : zGE M1 := zwk_G (rg_w hr) hG
          have hM1 := zwk_M (rg_w hr) hM
          have em := zwk_em (rg_w hr)
          have ea := rg_a hr
          have hlt : ¬ pCn (pAb (emR M) (aR M)) (nN (emR M)) < Int32.ofNat k := by rw [hv, of_lt (by omega) (by omega)]; omega
          have hst : pRt (emR M 8) (pOrd (emR M) (aR M)).reverse (pMen (emR M) (aR M)) (pCn (pAb (emR M) (aR M)) (nN (emR M))) (k + 1) = if Int32.ofNat k &&& (pCn (pAb (emR M) (aR M)) (nN (emR M)) ^^^ -1) = 0 ∧ pRest (emR M 8) (pOrd (emR M) (aR M)).reverse (pMen (emR M) (aR M)) (Int32.ofNat k) = true then ((pRt (emR M 8) (pOrd (emR M) (aR M)).reverse (pMen (emR M) (aR M)) (pCn (pAb (emR M) (aR M)) (nN (emR M))) k).1 + 1, if (pRt (emR M 8) (pOrd (emR M) (aR M)).reverse (pMen (emR M) (aR M)) (pCn (pAb (emR M) (aR M)) (nN (emR M))) k).1 = 0 then Int32.ofNat k else (pRt (emR M 8) (pOrd (emR M) (aR M)).reverse (pMen (emR M) (aR M)) (pCn (pAb (emR M) (aR M)) (nN (emR M))) k).2) else pRt (emR M 8) (pOrd (emR M) (aR M)).reverse (pMen (emR M) (aR M)) (pCn (pAb (emR M) (aR M)) (nN (emR M))) k := rfl
          rw [t224_66 _ _ _ _ _ _ hG1, if_neg hlt, of_succ]
          by_cases c1 : Int32.ofNat k &&& (pCn (pAb (emR M) (aR M)) (nN (emR M)) ^^^ -1) = 0
          · have hs : ∀ j, j < 32 → pb (Int32.ofNat k) j = true → j ∈ (pOrd (emR M) (aR M)).reverse := fun j hj hb => by
              have h2 : pb (Int32.ofNat k &&& (pCn (pAb (emR M) (aR M)) (nN (emR M)) ^^^ -1)) j = false := by rw [c1, pb_0]
              rw [pb_and hj, pb_not hj, hb, Bool.true_and, pCn_bit hj _ (by omega)] at h2
              rw [hmem]
              cases h3 : (Nat.blt j (nN (emR M)) && pAb (emR M) (aR M) j)
              · rw [h3] at h2; cases h2
              · rw [Bool.and_eq_true, Nat.blt_eq] at h3
                exact h3
            obtain ⟨M2, q1, q2⟩ := r223 (X := X) (d := d) (s := Int32.ofNat k) (F := (pOrd (emR M) (aR M)).reverse) (M := M1) hM1 (by rw [em, ea]) hs
            rw [em, ea] at q1
            have hr2 := rg_tr hr q2
            have hG2 : zGE M2 := zwk_G (rg_w hr2) hG
            rw [if_neg (not_not_intro c1), q1, Option.bind_some]
            dsimp only [zps]
            rw [t224_88 _ _ _ _ _ _ _ hG2, of_succ]
            have h9 := ih (k + 1) M2 (by omega) hr2
            cases hrr : pRest (emR M 8) (pOrd (emR M) (aR M)).reverse (pMen (emR M) (aR M)) (Int32.ofNat k)
            · rw [if_neg (fun h => by rw [hrr] at h; cases h.2)] at hst
              rw [hst] at h9
              rw [cond_false, if_pos rfl]
              exact h9
            · rw [if_pos ⟨c1, hrr⟩] at hst
              rw [cond_true, if_neg (by decide)]
              by_cases c2 : (pRt (emR M 8) (pOrd (emR M) (aR M)).reverse (pMen (emR M) (aR M)) (pCn (pAb (emR M) (aR M)) (nN (emR M))) k).1 = 0
              · rw [if_pos c2] at hst
                rw [hst] at h9
                rw [if_neg (not_not_intro c2)]
                exact h9
              · rw [if_neg c2] at hst
                rw [hst] at h9
                rw [if_pos c2]
                exact h9
          · rw [if_neg (fun h => c1 h.1)] at hst
            have h9 := ih (k + 1) M1 (by omega) hr
            rw [hst] at h9
            rw [if_pos c1]
            exact h9
      have cans : ∀ m k, k + m = nN (emR M) → ∃ M', zR X (d + 4) 224 (23, [.ref 460, .int x, .int (pCn (pAb (emR M) (aR M)) k), .int (Int32.ofNat k), zjk, zjk], [], M) = some (some (.int (if x = 0 then (pRt (emR M 8) (pOrd (emR M) (aR M)).reverse (pMen (emR M) (aR M)) (pCn (pAb (emR M) (aR M)) (nN (emR M))) (v + 1)).1 else (pRt (emR M 8) (pOrd (emR M) (aR M)).reverse (pMen (emR M) (aR M)) (pCn (pAb (emR M) (aR M)) (nN (emR M))) (v + 1)).2)), M') ∧ rsm M M' := by
        intro m
        induction m with
        | zero =>
          intro k hk
          rw [t224_23 _ _ _ _ _ _ hG, hc, if_pos (by rw [of_le (by omega) (by omega)]; omega), show k = nN (emR M) by omega]
          exact loop (v + 1) 0 M (by omega) rg_rf
        | succ m ih =>
          intro k hk
          have h9 := ih (k + 1) (by omega)
          rw [t224_23 _ _ _ _ _ _ hG, hc, if_neg (by rw [of_le (by omega) (by omega)]; omega), r220 hM (by omega), Option.bind_some]
          dsimp only [zps]
          rw [t224_39 _ _ _ _ _ _ _ _ hG, of_succ]
          rw [pCn] at h9
          cases hF : pAb (emR M) (aR M) k
          · rw [hF] at h9
            rw [cond_false, if_pos rfl, Int32.or_zero]
            exact h9
          · rw [hF] at h9
            rw [cond_true, if_neg (by decide)]
            exact h9
      exact cans (nN (emR M)) 0 (by omega)
theorem r221 {X : (Nat → Int32) × Nat} {d : Nat} {x : Int32} {M : zM} (hM : okM M) : zC X (d + 3) 221 [.ref 460, .int x] M = some (some (.int (pFirst (emR M) (aR M) x)), M) := by
  show zR X (d + 3) 221 (0, [.ref 460, .int x, zjk, zjk], [], M) = _
  have hG := hM.1
  obtain ⟨hn, hc⟩ := okR_N hM.2.1
  have h0 : M.1 460 25 = emR M 0 0 := rfl
  have hmem : ∀ g, g ∈ (pOrd (emR M) (aR M)).reverse ↔ (g < nN (emR M) ∧ pAb (emR M) (aR M) g = true) := fun g => by rw [List.mem_reverse]; exact pOr_m _
  have hpw : (pOrd (emR M) (aR M)).reverse.Pairwise (fun a b => lx (pMarch (emR M)) a b) := by rw [List.pairwise_reverse]; exact pOr_p _
  have hab : ∀ g, pAb (emR M) (aR M) g = true → ¬ pMarch (emR M) g = -1 := fun g hg h => by
    unfold pAb at hg
    rw [decide_eq_true h, Bool.not_true, Bool.and_false] at hg
    cases hg
  unfold pFirst
  rw [t221_0 _ _ _ _ hG, h0]
  by_cases c0 : emR M 0 0 = 0
  · rw [if_pos c0, if_pos c0]
  · rw [if_neg c0, if_neg c0, r135i (y := 0) (z := 1) (a := 0) (b := 1) hG rfl rfl, Option.bind_some]
    dsimp only [zps]
    rw [t221_14 _ _ _ _ _ hG]
    by_cases c : x < 0 ∨ 1 < x
    · rw [if_pos c, if_pos c, if_neg (by decide)]
    · rw [if_neg c, if_neg c, if_pos (by decide)]
      have loop : ∀ m k best, k + m = nN (emR M) → ((best = -2 ∧ ∀ j, j < k → pAb (emR M) (aR M) j = false) ∨ ∃ b, b < k ∧ best = Int32.ofNat b ∧ pAb (emR M) (aR M) b = true ∧ ∀ j, j < k → pAb (emR M) (aR M) j = true → j ≠ b → lx (pMarch (emR M)) b j) → zR X (d + 3) 221 (25, [.ref 460, .int x, .int best, .int (Int32.ofNat k)], [], M) = some (some (.int (match (pOrd (emR M) (aR M)).reverse with
          | [] => -2
          | g :: _ => if x = 0 then Int32.ofNat g else pMarch (emR M) g)), M) := by
        intro m
        induction m with
        | zero =>
          intro k best hk inv
          have e : k = nN (emR M) := by omega
          subst e
          rw [t221_25 _ _ _ _ hG, hc, if_pos (Int32.le_refl _)]
          generalize (pOrd (emR M) (aR M)).reverse = F at hmem hpw ⊢
          rcases inv with ⟨h1, h2⟩ | ⟨b, h1, h2, h3, h4⟩
          · rw [if_pos h1]
            cases F with
            | nil => rw [h1]
            | cons g F =>
              have := (hmem g).mp (List.mem_cons_self ..)
              rw [h2 g this.1] at this
              cases this.2
          · rw [h2, if_neg (ne_m2 (by omega))]
            cases F with
            | nil => exact (List.not_mem_nil ((hmem b).mpr ⟨h1, h3⟩)).elim
            | cons g F =>
              have hg := (hmem g).mp (List.mem_cons_self ..)
              have e : g = b := by
                by_cases e : g = b
                · exact e
                · have hbF := (List.mem_cons.mp ((hmem b).mpr ⟨h1, h3⟩)).resolve_left (fun h => e h.symm)
                  exact (lx_asym (h4 g hg.1 hg.2 e) ((List.pairwise_cons.mp hpw).1 b hbF)).elim
              show _ = some (some (Value.int (if x = 0 then Int32.ofNat g else pMarch (emR M) g)), M)
              rw [e]
              by_cases c4 : x = 0
              · rw [if_neg (not_not_intro c4), if_pos c4]
              · rw [if_pos c4, if_neg c4, r183 hG hM.2.1 hM.2.2 h1, Option.bind_some, pMr_e (hab b h3)]
                dsimp only [zps]
                rw [t221_89 _ _ _ _ _ hG]
        | succ m ih =>
          intro k best hk inv
          rw [t221_25 _ _ _ _ hG, hc, if_neg (by rw [of_le (by omega) (by omega)]; omega), r220 hM (by omega), Option.bind_some]
          dsimp only [zps]
          rw [t221_40 _ _ _ _ _ hG, of_succ]
          cases hb : pAb (emR M) (aR M) k
          · rw [cond_false, if_pos rfl]
            refine ih (k + 1) best (by omega) ?_
            rcases inv with ⟨h1, h2⟩ | ⟨b, h1, h2, h3, h4⟩
            · refine Or.inl ⟨h1, fun j hj => ?_⟩
              by_cases e : j = k
              · rw [e]; exact hb
              · exact h2 j (by omega)
            · refine Or.inr ⟨b, by omega, h2, h3, fun j hj hl hne => ?_⟩
              have : j ≠ k := fun e => by rw [e, hb] at hl; cases hl
              exact h4 j (by omega) hl hne
          · rw [cond_true, if_neg (by decide)]
            rcases inv with ⟨h1, h2⟩ | ⟨b, h1, h2, h3, h4⟩
            · rw [if_pos h1]
              refine ih (k + 1) _ (by omega) (Or.inr ⟨k, by omega, rfl, hb, fun j hj hl hne => ?_⟩)
              rw [h2 j (by omega)] at hl
              cases hl
            · rw [h2, if_neg (ne_m2 (by omega)), r183 hG hM.2.1 hM.2.2 (by omega), Option.bind_some]
              dsimp only [zps]
              rw [t221_54 _ _ _ _ _ hG, r183 hG hM.2.1 hM.2.2 (by omega), Option.bind_some, pMr_e (hab k hb), pMr_e (hab b h3)]
              dsimp only [zps]
              rw [t221_59 _ _ _ _ _ _ hG, of_succ]
              by_cases c : pMarch (emR M) b ≤ pMarch (emR M) k
              · rw [if_pos c]
                refine ih (k + 1) _ (by omega) (Or.inr ⟨b, by omega, rfl, h3, fun j hj hl hne => ?_⟩)
                by_cases e : j = k
                · rw [e]
                  by_cases c2 : pMarch (emR M) b = pMarch (emR M) k
                  · exact Or.inr ⟨c2, h1⟩
                  · exact Or.inl (Int32.lt_of_le_of_ne c c2)
                · exact h4 j (by omega) hl hne
              · rw [if_neg c]
                refine ih (k + 1) _ (by omega) (Or.inr ⟨k, by omega, rfl, hb, fun j hj hl hne => ?_⟩)
                by_cases e : j = b
                · rw [e]; exact Or.inl (Int32.not_le.mp c)
                · rcases h4 j (by omega) hl e with h5 | h5
                  · exact Or.inl (Int32.lt_trans (Int32.not_le.mp c) h5)
                  · exact Or.inl (by rw [← h5.1]; exact Int32.not_le.mp c)
      exact loop (nN (emR M)) 0 (-2) (by omega) (Or.inl ⟨rfl, fun j hj => absurd hj (Nat.not_lt_zero _)⟩)
