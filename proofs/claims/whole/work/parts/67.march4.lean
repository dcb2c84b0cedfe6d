/-! ===== rests: the class; first: the class ===== -/
def orL : Int32 → List Nat → Int32
  | acc, [] => acc
  | acc, g :: F => orL (acc ||| (1 <<< (Int32.ofNat g &&& 31))) F
theorem orL_b {k : Nat} (hk : k < 32) : ∀ {F : List Nat} {acc : Int32}, (∀ g, g ∈ F → g < 8) → pb (orL acc F) k = (pb acc k || decide (k ∈ F))
  | [], acc, _ => by
    show pb acc k = _
    rw [decide_eq_false (fun h => (List.not_mem_nil h).elim), Bool.or_false]
  | g :: F, acc, h => by
    rw [orL, orL_b hk (fun g hg => h g (List.mem_cons_of_mem _ hg)), pb_or, pb_one g (h g (List.mem_cons_self ..)) k hk, Bool.or_assoc]
    congr 1
    exact Bool.eq_iff_iff.mpr (by rw [Bool.or_eq_true, decide_eq_true_eq, decide_eq_true_eq, decide_eq_true_eq, List.mem_cons])
theorem pb_0 {k : Nat} : pb 0 k = false := by
  unfold pb
  rw [Int32.zero_shiftRight]
  decide
theorem pOrd_able {E : zE} {A : zA} (hn : nN E ≤ 4) : orL 0 (pOrd E A).reverse = pCn (pAb E A) (nN E) := by
  refine pb_ext (fun k hk => ?_)
  have hm : ∀ g, g ∈ (pOrd E A).reverse ↔ (g < nN E ∧ pAb E A g = true) := fun g => by rw [List.mem_reverse]; exact pOr_m (nN E)
  rw [orL_b hk (fun g hg => by have := ((hm g).mp hg).1; omega), pb_0, Bool.false_or, pCn_bit hk (nN E) (by omega)]
  exact Bool.eq_iff_iff.mpr (by rw [decide_eq_true_eq, hm, Bool.and_eq_true, Nat.blt_eq])
theorem mOk_I {M : zM} {a : Nat → Int32} {F : List Nat} {th x : Int32} {k : Nat} (h : mOk M a F th) (h1 : k ≠ 1) (h2 : k ≠ 6) : mOk (zsI M 146 k x) a F th := by
  obtain ⟨q1, q2, q3, q4, q5, q6⟩ := h
  refine ⟨q1, ?_, ?_, ?_, ?_, q6⟩
  · rw [zI_s, if_neg (fun e => h1 e.symm)]; exact q2
  · rw [zI_s, if_neg (fun e => h2 e.symm)]; exact q3
  · rw [zI_n1 (by decide)]; exact q4
  · intro g hg
    rw [zI_n (by decide)]
    exact q5 g hg
theorem s47 {X : (Nat → Int32) × Nat} {d v : Nat} {th able : Int32} {a : Nat → Int32} {F : List Nat} {M : zM} (hm : mOk M a F th) (ha : orL 0 F = able) (hv : able = Int32.ofNat v) (hv2 : v < 16) : ∃ M', zC X (d + 3) 47 [.ref 146] M = some (none, M') ∧ zfr 146 150 M M' ∧ M'.1 146 2 = (pRt a F th able (v + 1)).1 ∧ M'.1 146 3 = (pRt a F th able (v + 1)).2 := by
  show ∃ M', zR X (d + 3) 47 (0, [.ref 146, zjk, zjk], [], M) = some (none, M') ∧ _
  obtain ⟨hG, h1, h6, h7, h8, hl⟩ := id hm
  have hz := zis_q hG zq_147
  have sets : ∀ m c M1, c + m = v + 1 → zfr 146 150 M M1 → mOk M1 a F th → M1.1 146 2 = (pRt a F th able c).1 → M1.1 146 3 = (pRt a F th able c).2 → ∃ M', zR X (d + 3) 47 (42, [.ref 146, .int able, .int (Int32.ofNat c)], [], M1) = some (none, M') ∧ zfr 146 150 M M' ∧ M'.1 146 2 = (pRt a F th able (v + 1)).1 ∧ M'.1 146 3 = (pRt a F th able (v + 1)).2 := by
    intro m
    induction m with
    | zero =>
      intro c M1 hc hf hm1 h2 h3
      rw [t47_42 _ _ _ hm1.1, hv, if_pos (by rw [of_lt (by omega) (by omega)]; omega)]
      rw [show c = v + 1 by omega] at h2 h3
      rw [← hv]
      exact ⟨M1, rfl, hf, h2, h3⟩
    | succ m ih =>
      intro c M1 hc hf hm1 h2 h3
      have hst : pRt a F th able (c + 1) = if Int32.ofNat c &&& (able ^^^ -1) = 0 ∧ pRest a F th (Int32.ofNat c) = true then ((pRt a F th able c).1 + 1, if (pRt a F th able c).1 = 0 then Int32.ofNat c else (pRt a F th able c).2) else pRt a F th able c := rfl
      have hlt : ¬ able < Int32.ofNat c := by rw [hv, of_lt (by omega) (by omega)]; omega
      rw [t47_42 _ _ _ hm1.1, if_neg hlt, of_succ]
      have skip : ¬ (Int32.ofNat c &&& (able ^^^ -1) = 0 ∧ pRest a F th (Int32.ofNat c) = true) → ∃ M', zR X (d + 3) 47 (42, [.ref 146, .int able, .int (Int32.ofNat (c + 1))], [], M1) = some (none, M') ∧ zfr 146 150 M M' ∧ M'.1 146 2 = (pRt a F th able (v + 1)).1 ∧ M'.1 146 3 = (pRt a F th able (v + 1)).2 := fun hs => by
        rw [if_neg hs] at hst
        exact ih (c + 1) M1 (by omega) hf hm1 (by rw [hst]; exact h2) (by rw [hst]; exact h3)
      by_cases c1 : Int32.ofNat c &&& (able ^^^ -1) = 0
      · rw [if_neg (not_not_intro c1), s48 hm1, Option.bind_some]
        dsimp only [zps]
        rw [t47_60 _ _ _ _ hm1.1, of_succ]
        cases hr : pRest a F th (Int32.ofNat c)
        · rw [cond_false, if_pos rfl]
          exact skip (fun h => by rw [hr] at h; cases h.2)
        · rw [if_pos ⟨c1, hr⟩] at hst
          rw [cond_true, if_neg (by decide), h2, h3]
          by_cases c2 : (pRt a F th able c).1 = 0
          · rw [if_pos c2] at hst
            rw [if_neg (not_not_intro c2)]
            exact ih (c + 1) _ (by omega) (zfr_I (zfr_I hf (by omega) (by omega)) (by omega) (by omega)) (mOk_I (mOk_I hm1 (by omega) (by omega)) (by omega) (by omega)) (by rw [zI_s, if_pos rfl, hst]) (by rw [zI_s, if_neg (by decide), zI_s, if_pos rfl, hst])
          · rw [if_neg c2] at hst
            rw [if_pos c2]
            exact ih (c + 1) _ (by omega) (zfr_I (zfr_I hf (by omega) (by omega)) (by omega) (by omega)) (mOk_I (mOk_I hm1 (by omega) (by omega)) (by omega) (by omega)) (by rw [zI_s, if_pos rfl, hst]) (by rw [zI_s, if_neg (by decide), zI_s, if_pos rfl, hst])
      · rw [if_pos c1]
        exact skip (fun h => c1 h.1)
  have loop : ∀ (G : List Nat) (i : Nat) (acc : Int32), i + G.length = F.length → ordF (M.1 147) i G → (∀ g, g ∈ G → g < 4) → orL acc G = able → ∃ M', zR X (d + 3) 47 (4, [.ref 146, .int acc, .int (Int32.ofNat i)], [], M) = some (none, M') ∧ zfr 146 150 M M' ∧ M'.1 146 2 = (pRt a F th able (v + 1)).1 ∧ M'.1 146 3 = (pRt a F th able (v + 1)).2 := by
    intro G
    induction G with
    | nil =>
      intro i acc hi ho hg hacc
      rw [List.length_nil] at hi
      have hle : M.1 146 1 ≤ Int32.ofNat i := by rw [h1, of_le (by omega) (by omega)]; omega
      rw [t47_4 _ _ _ hG (fun h => absurd hle h) (fun h => absurd hle h) (fun h => absurd hle h), if_pos hle, show acc = able from hacc]
      exact sets (v + 1) 0 _ (by omega) (zfr_I (zfr_I zfr_rf (by omega) (by omega)) (by omega) (by omega)) (mOk_I (mOk_I hm (by omega) (by omega)) (by omega) (by omega)) (by rw [zI_s, if_neg (by decide), zI_s, if_pos rfl]; rfl) (by rw [zI_s, if_pos rfl]; rfl)
    | cons g G ih =>
      intro i acc hi ho hg hacc
      rw [List.length_cons] at hi
      have hnle : ¬ M.1 146 1 ≤ Int32.ofNat i := by rw [h1, of_le (by omega) (by omega)]; omega
      have ii : (Int32.ofNat i).toNatClampNeg = i := toNat_of (by omega)
      have lem := t47_4 (X := X) (d := d + 3) acc (Int32.ofNat i) M hG
      rw [hm_0 hG, zl_147, ii, ho.1] at lem
      rw [lem (fun _ => by omega) (fun _ => hz) (fun _ => vp_of (by omega) (by omega)), if_neg hnle, of_succ]
      exact ih (i + 1) _ (by omega) ho.2 (fun g hg2 => hg g (List.mem_cons_of_mem _ hg2)) hacc
  rw [t47_0 _ _ _ hG]
  exact loop F 0 0 (by omega) h7 (fun g hg => (h8 g hg).1) ha
theorem mOk_of {M M' : zM} (hG : zGE M') (hE : okE (emD 40 M)) (h1 : M'.1 146 1 = Int32.ofNat (pOrd (emD 40 M) (aD 40 67 M)).length) (h6 : M'.1 146 6 = pMen (emD 40 M) (aD 40 67 M)) (h7 : ord (M'.1 147) (pOrd (emD 40 M) (aD 40 67 M))) (h8 : ∀ g, g < nN (emD 40 M) → M'.1 148 g = emD 40 M 8 g) : mOk M' (emD 40 M 8) (pOrd (emD 40 M) (aD 40 67 M)).reverse (pMen (emD 40 M) (aD 40 67 M)) := by
  have hn := (okE_N hE).1
  refine ⟨hG, by rw [List.length_reverse]; exact h1, h6, ord_F h7, fun g hg => ?_, ?_⟩
  · have h := ((pOr_m _).mp (List.mem_reverse.mp hg)).1
    exact ⟨by omega, h8 g h⟩
  · rw [List.length_reverse]
    exact Nat.le_trans (pOr_l _) hn
theorem s121 {X : (Nat → Int32) × Nat} {d : Nat} {x : Int32} {M : zM} (hG : zGE M) (hE : okE (emD 40 M)) : ∃ M', zC X (d + 4) 121 [.ref 0, .int x] M = some (some (.int (pRests (emD 40 M) (aD 40 67 M) x)), M') ∧ zfr 114 150 M M' := by
  show ∃ M', zR X (d + 4) 121 (0, [.ref 0, .int x], [], M) = some (some (.int _), M') ∧ _
  have hn := (okE_N hE).1
  unfold pRests
  rw [t121_0 _ _ hG, s11 hG zq_40 hE, Option.bind_some]
  dsimp only [zps]
  rw [t121_10 _ _ _ hG]
  by_cases c0 : emD 40 M 0 0 = 0
  · rw [if_pos c0, if_pos c0, if_pos rfl]
    exact ⟨M, rfl, zfr_rf⟩
  · rw [if_neg c0, if_neg c0, if_neg (by decide)]
    by_cases c1 : x < 0
    · rw [if_pos c1, if_pos (Or.inl c1)]
      exact ⟨M, rfl, zfr_rf⟩
    · rw [if_neg c1]
      by_cases c2 : 1 < x
      · rw [if_neg (Int32.not_le.mpr c2), if_pos (Or.inr c2)]
        exact ⟨M, rfl, zfr_rf⟩
      · obtain ⟨M1, q1, q2, q3, q4, q5, q6⟩ := s45 (X := X) (d := d + 1) hG hE
        have hm := mOk_of (zfr_G q2 hG) hE q3 q4 q5 q6
        obtain ⟨v, hv2, hv⟩ := pCn_r (f := pAb (emD 40 M) (aD 40 67 M)) hn
        have hpw : 2 ^ nN (emD 40 M) ≤ 2 ^ 4 := Nat.pow_le_pow_right (by omega) hn
        obtain ⟨M2, y1, y2, y3, y4⟩ := s47 (X := X) (d := d) (v := v) hm (pOrd_able hn) hv (by omega)
        have hf2 : zfr 146 150 M M2 := zfr_tr q2 y2
        rw [if_pos (Int32.not_lt.mp c2), if_neg (not_or.mpr ⟨c1, c2⟩), q1, Option.bind_some]
        dsimp only [zps]
        rw [t121_45 _ _ hm.1, y1, Option.bind_some]
        dsimp only [zps]
        rw [t121_52 _ _ (zfr_G hf2 hG), y3, y4, show (pCn (pAb (emD 40 M) (aD 40 67 M)) (nN (emD 40 M))).toNatClampNeg = v by rw [hv, toNat_of (by omega)]]
        refine ⟨M2, ?_, zfr_up hf2 (by omega) (by omega)⟩
        by_cases c4 : x = 0
        · rw [if_neg (not_not_intro c4), if_pos c4]
        · rw [if_pos c4, if_neg c4]
theorem s120 {X : (Nat → Int32) × Nat} {d : Nat} {x : Int32} {M : zM} (hG : zGE M) (hE : okE (emD 40 M)) : ∃ M', zC X (d + 3) 120 [.ref 0, .int x] M = some (some (.int (pFirst (emD 40 M) (aD 40 67 M) x)), M') ∧ zfr 114 150 M M' := by
  show ∃ M', zR X (d + 3) 120 (0, [.ref 0, .int x, zjk], [], M) = some (some (.int _), M') ∧ _
  have hn := (okE_N hE).1
  unfold pFirst
  rw [t120_0 _ _ _ hG, s11 hG zq_40 hE, Option.bind_some]
  dsimp only [zps]
  rw [t120_10 _ _ _ _ hG]
  by_cases c0 : emD 40 M 0 0 = 0
  · rw [if_pos c0, if_pos c0, if_pos rfl]
    exact ⟨M, rfl, zfr_rf⟩
  · rw [if_neg c0, if_neg c0, if_neg (by decide)]
    by_cases c1 : x < 0
    · rw [if_pos c1, if_pos (Or.inl c1)]
      exact ⟨M, rfl, zfr_rf⟩
    · rw [if_neg c1]
      by_cases c2 : 1 < x
      · rw [if_neg (Int32.not_le.mpr c2), if_pos (Or.inr c2)]
        exact ⟨M, rfl, zfr_rf⟩
      · obtain ⟨M1, q1, q2, q3, q4, q5, q6⟩ := s45 (X := X) (d := d) hG hE
        have hG1 := zfr_G q2 hG
        have em : emD 40 M1 = emD 40 M := zfr_em q2 (by omega)
        have hF := ord_F q5
        have hl : (pOrd (emD 40 M) (aD 40 67 M)).reverse.length = (pOrd (emD 40 M) (aD 40 67 M)).length := List.length_reverse
        have hmem : ∀ g, g ∈ (pOrd (emD 40 M) (aD 40 67 M)).reverse → g < nN (emD 40 M) := fun g hg => ((pOr_m _).mp (List.mem_reverse.mp hg)).1
        rw [← hl] at q3
        refine ⟨M1, ?_, zfr_up q2 (by omega) (by omega)⟩
        rw [if_pos (Int32.not_lt.mp c2), if_neg (not_or.mpr ⟨c1, c2⟩), q1, Option.bind_some]
        dsimp only [zps]
        have lem := t120_46 (X := X) (d := d + 2) x zjk M1 hG1
        rw [hm_0 hG1, zl_147] at lem
        have lem2 := lem (fun _ => by omega) (fun _ => zis_q hG1 zq_147) (fun _ => vp_of (k := 0) (by omega) (by omega))
        rw [lem2]
        clear lem lem2
        have hlF : (pOrd (emD 40 M) (aD 40 67 M)).reverse.length ≤ 4 := by rw [hl]; exact Nat.le_trans (pOr_l _) hn
        generalize (pOrd (emD 40 M) (aD 40 67 M)).reverse = F at q3 hF hmem hlF ⊢
        cases F with
        | nil =>
          rw [q3, if_neg (by decide)]
        | cons g F =>
          have hg := hmem g (List.mem_cons_self ..)
          have e0 : M1.1 147 0 = Int32.ofNat g := hF.1
          rw [q3, if_pos (by rw [show (0 : Int32) = Int32.ofNat 0 from rfl, of_inj (by omega) (by omega), List.length_cons]; omega), e0]
          by_cases c4 : x = 0
          · rw [if_neg (not_not_intro c4)]
            show _ = some (some (Value.int (if x = 0 then Int32.ofNat g else pMarch (emD 40 M) g)), M1)
            rw [if_pos c4]
          · have e20 := s20 (X := X) (d := d + 1) (e := 40) (g := g) hG1 zq_40 (by rw [em]; exact hE) (by rw [em]; exact hg)
            rw [em] at e20
            rw [if_pos c4, e20, Option.bind_some]
            dsimp only [zps]
            rw [t120_88 _ _ _ _ hG1]
            show _ = some (some (Value.int (if x = 0 then Int32.ofNat g else pMarch (emD 40 M) g)), M1)
            rw [if_neg c4]
