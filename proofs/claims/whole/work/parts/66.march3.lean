/-! ===== generals who march or wait: the class, on ===== -/
theorem insR_c {D D' : Nat → Int32} {g : Nat} (hg : D g = D' g) : ∀ {r : List Nat}, (∀ y, y ∈ r → D y = D' y) → insR D g r = insR D' g r
  | [], _ => rfl
  | x :: r, h => by
    rw [insR, insR, h x (List.mem_cons_self ..), hg, insR_c hg (fun y hy => h y (List.mem_cons_of_mem _ hy))]
theorem s45 {X : (Nat → Int32) × Nat} {d : Nat} {M : zM} (hG : zGE M) (hE : okE (emD 40 M)) : ∃ M', zC X (d + 2) 45 [.ref 146, .ref 40, .ref 67] M = some (none, M') ∧ zfr 146 150 M M' ∧ M'.1 146 1 = Int32.ofNat (pOrd (emD 40 M) (aD 40 67 M)).length ∧ M'.1 146 6 = pMen (emD 40 M) (aD 40 67 M) ∧ ord (M'.1 147) (pOrd (emD 40 M) (aD 40 67 M)) ∧ ∀ g, g < nN (emD 40 M) → M'.1 148 g = emD 40 M 8 g := by
  show ∃ M', zR X (d + 2) 45 (0, [.ref 146, .ref 40, .ref 67, zjk], [], M) = some (none, M') ∧ _
  obtain ⟨hn, hc⟩ := okE_N hE
  have loop : ∀ m k M1, k + m = nN (emD 40 M) → zfr 146 150 M M1 → M1.1 146 1 = Int32.ofNat (pOr (pMarch (emD 40 M)) (pAb (emD 40 M) (aD 40 67 M)) k).length → M1.1 146 6 = pMen (emD 40 M) (aD 40 67 M) → ord (M1.1 147) (pOr (pMarch (emD 40 M)) (pAb (emD 40 M) (aD 40 67 M)) k) → (∀ g, g < k → M1.1 148 g = emD 40 M 8 g) → (∀ g, g < k → M1.1 149 g = pMarch (emD 40 M) g) → ∃ M', zR X (d + 2) 45 (16, [.ref 146, .ref 40, .ref 67, .int (Int32.ofNat k)], [], M1) = some (none, M') ∧ zfr 146 150 M M' ∧ M'.1 146 1 = Int32.ofNat (pOrd (emD 40 M) (aD 40 67 M)).length ∧ M'.1 146 6 = pMen (emD 40 M) (aD 40 67 M) ∧ ord (M'.1 147) (pOrd (emD 40 M) (aD 40 67 M)) ∧ ∀ g, g < nN (emD 40 M) → M'.1 148 g = emD 40 M 8 g := by
    intro m
    induction m with
    | zero =>
      intro k M1 hk hf h1 h6 h7 h8 h9
      have hG1 := zfr_G hf hG
      have e41 : M1.1 41 2 = Int32.ofNat (nN (emD 40 M)) := by rw [(hf.2 41 (by omega)).1]; exact hc
      have hle : M1.1 41 2 ≤ Int32.ofNat k := by rw [e41, of_le (by omega) (by omega)]; omega
      have lem := t45_16 (X := X) (d := d + 1) 40 67 (Int32.ofNat k) M1 hG1 zq_40 zq_67
      rw [lem (fun h => absurd hle h) (fun h => absurd hle h) (fun h => absurd hle h) (fun h => absurd hle h) (fun h => absurd hle h), if_pos hle]
      rw [show k = nN (emD 40 M) by omega] at h1 h7 h8
      exact ⟨M1, rfl, hf, h1, h6, h7, h8⟩
    | succ m ih =>
      intro k M1 hk hf h1 h6 h7 h8 h9
      have hG1 := zfr_G hf hG
      have em : emD 40 M1 = emD 40 M := zfr_em hf (by omega)
      have e41 : M1.1 41 2 = Int32.ofNat (nN (emD 40 M)) := by rw [(hf.2 41 (by omega)).1]; exact hc
      have hnle : ¬ M1.1 41 2 ≤ Int32.ofNat k := by rw [e41, of_le (by omega) (by omega)]; omega
      have kk : (Int32.ofNat k).toNatClampNeg = k := toNat_of (by omega)
      have e50 : M1.1 50 k = emD 40 M 8 k := by rw [(hf.2 50 (by omega)).1]; exact (emD_N (Or.inr (Or.inl rfl)) (by omega)).symm
      have hst : pOr (pMarch (emD 40 M)) (pAb (emD 40 M) (aD 40 67 M)) (k + 1) = bif pAb (emD 40 M) (aD 40 67 M) k then insR (pMarch (emD 40 M)) k (pOr (pMarch (emD 40 M)) (pAb (emD 40 M) (aD 40 67 M)) k) else pOr (pMarch (emD 40 M)) (pAb (emD 40 M) (aD 40 67 M)) k := rfl
      have hab : pAb (emD 40 M) (aD 40 67 M) k = (pFree (aD 40 67 M) k && ! decide (pMarch (emD 40 M) k = -1)) := rfl
      have hl := pOr_l (D := pMarch (emD 40 M)) (f := pAb (emD 40 M) (aD 40 67 M)) k
      have hmem : ∀ y, y ∈ pOr (pMarch (emD 40 M)) (pAb (emD 40 M) (aD 40 67 M)) k → y < k := fun y hy => ((pOr_m k).mp hy).1
      have lem := t45_16 (X := X) (d := d + 1) 40 67 (Int32.ofNat k) M1 hG1 zq_40 zq_67
      rw [hm_4 hG1, hm_5 hG1, zl_148, kk] at lem
      rw [lem (fun _ => by omega) (fun _ => vp_of (by omega) (by omega)) (fun _ => zis_q hG1 zq_148) (fun _ => vp_of (by omega) (by omega)) (fun _ => by omega), if_neg hnle]
      clear lem
      have hfa : zfr 146 150 M (zsI M1 148 k (M1.1 50 k)) := zfr_I hf (by omega) (by omega)
      have hGa := zfr_G hfa hG
      have ema : emD 40 (zsI M1 148 k (M1.1 50 k)) = emD 40 M := zfr_em hfa (by omega)
      have e20 := s20 (X := X) (d := d) (e := 40) (g := k) hGa zq_40 (by rw [ema]; exact hE) (by rw [ema]; omega)
      rw [ema] at e20
      rw [e20, Option.bind_some]
      dsimp only [zps]
      have hfb : zfr 146 150 M (zsI (zsI M1 148 k (M1.1 50 k)) 149 k (pMarch (emD 40 M) k)) := zfr_I hfa (by omega) (by omega)
      have hGb := zfr_G hfb hG
      have estb : stD (nD (emD 40 M)) 67 (zsI (zsI M1 148 k (M1.1 50 k)) 149 k (pMarch (emD 40 M) k)) = aD 40 67 M := zfr_st hfb (by omega)
      rw [t45_51 _ _ _ _ _ _ _ hGa zq_40 zq_67 (zis_q hGa zq_149) (by rw [zl_149]; exact vp_of (by omega) (by omega)), kk, s76 (n := nD (emD 40 M)) hGb zq_67, Option.bind_some, estb]
      dsimp only [zps]
      generalize hMb : zsI (zsI M1 148 k (M1.1 50 k)) 149 k (pMarch (emD 40 M) k) = Mb at hfb hGb ⊢
      have b1 : Mb.1 146 = M1.1 146 := by rw [← hMb, zI_n1 (by decide), zI_n1 (by decide)]
      have b7 : Mb.1 147 = M1.1 147 := by rw [← hMb, zI_n1 (by decide), zI_n1 (by decide)]
      have b8 : ∀ g, g < k + 1 → Mb.1 148 g = emD 40 M 8 g := fun g hg => by
        rw [← hMb, zI_n (by decide), zI_s]
        by_cases e : g = k
        · rw [if_pos e, e50, e]
        · rw [if_neg e]; exact h8 g (by omega)
      have b9 : ∀ g, g < k + 1 → Mb.1 149 g = pMarch (emD 40 M) g := fun g hg => by
        rw [← hMb, zI_s]
        by_cases e : g = k
        · rw [if_pos e, e]
        · rw [if_neg e, zI_n (by decide)]; exact h9 g (by omega)
      have lem := t45_57 (X := X) (d := d + 1) 40 67 (Int32.ofNat k) (bif pFree (aD 40 67 M) k then 1 else 0) Mb hGb zq_40 zq_67
      rw [hm_5 hGb, kk, zl_149] at lem
      rw [lem (fun _ => by omega) (fun _ => zis_q hGb zq_149) (fun _ => vp_of (by omega) (by omega)), b9 k (by omega), of_succ]
      clear lem
      have skip : pAb (emD 40 M) (aD 40 67 M) k = false → ∃ M', zR X (d + 1 + 1) 45 (16, [.ref 146, .ref 40, .ref 67, .int (Int32.ofNat (k + 1))], [], Mb) = some (none, M') ∧ zfr 146 150 M M' ∧ M'.1 146 1 = Int32.ofNat (pOrd (emD 40 M) (aD 40 67 M)).length ∧ M'.1 146 6 = pMen (emD 40 M) (aD 40 67 M) ∧ ord (M'.1 147) (pOrd (emD 40 M) (aD 40 67 M)) ∧ ∀ g, g < nN (emD 40 M) → M'.1 148 g = emD 40 M 8 g := by
        intro hs
        rw [hs, cond_false] at hst
        exact ih (k + 1) Mb (by omega) hfb (by rw [hst, b1]; exact h1) (by rw [b1]; exact h6) (by rw [hst, b7]; exact h7) b8 b9
      cases hF : pFree (aD 40 67 M) k
      · rw [cond_false, if_pos rfl]
        exact skip (by rw [hab, hF]; rfl)
      · rw [cond_true, if_neg (by decide)]
        by_cases c : pMarch (emD 40 M) k = -1
        · rw [if_pos c]
          exact skip (by rw [hab, decide_eq_true c, Bool.not_true, Bool.and_false])
        · rw [if_neg c]
          rw [hab, hF, decide_eq_false c, Bool.not_false, Bool.and_self, cond_true] at hst
          obtain ⟨M2, q1, q2, q3, q4, q5⟩ := s46 (X := X) (d := d + 1) (g := k) (R := pOr (pMarch (emD 40 M)) (pAb (emD 40 M) (aD 40 67 M)) k) (M := Mb) hGb (by omega) (by omega) (fun y hy => by have := hmem y hy; omega) (by rw [b1]; exact h1) (by rw [b7]; exact h7)
          have hf2 : zfr 146 150 M M2 := zfr_tr hfb (zfr_up q2 (by omega) (by omega))
          rw [insR_c (D' := pMarch (emD 40 M)) (b9 k (by omega)) (fun y hy => b9 y (by have := hmem y hy; omega))] at q5
          rw [q1, Option.bind_some]
          dsimp only [zps]
          rw [t45_75 _ _ _ _ (zfr_G hf2 hG) zq_40 zq_67, of_succ]
          exact ih (k + 1) M2 (by omega) hf2 (by rw [hst, insR_l]; exact q4) (by rw [q3 6 (by omega), b1]; exact h6) (by rw [hst]; exact q5) (fun g hg => by rw [(q2.2 148 (by omega)).1]; exact b8 g hg) (fun g hg => by rw [(q2.2 149 (by omega)).1]; exact b9 g hg)
  have hf0 : zfr 146 150 M (zsI M 146 1 0) := zfr_I zfr_rf (by omega) (by omega)
  have hG0 := zfr_G hf0 hG
  have em0 : emD 40 (zsI M 146 1 0) = emD 40 M := zfr_em hf0 (by omega)
  have est0 : stD (nD (emD 40 M)) 67 (zsI M 146 1 0) = aD 40 67 M := zfr_st hf0 (by omega)
  rw [t45_0 _ _ _ _ hG zq_40 zq_67, s71 (n := nD (emD 40 M)) hG0 zq_67 zq_40 (by rw [em0]; exact hE), Option.bind_some, em0, est0]
  dsimp only [zps]
  rw [t45_11 _ _ _ _ _ hG0 zq_40 zq_67]
  exact loop (nN (emD 40 M)) 0 _ (by omega) (zfr_I hf0 (by omega) (by omega)) (by rw [zI_s, if_neg (by decide), zI_s, if_pos rfl]; rfl) (by rw [zI_s, if_pos rfl]) True.intro (fun g hg => absurd hg (Nat.not_lt_zero _)) (fun g hg => absurd hg (Nat.not_lt_zero _))
/-- the class' march stands ready: guards th, order F, armies a -/
def mOk (M : zM) (a : Nat → Int32) (F : List Nat) (th : Int32) : Prop := zGE M ∧ M.1 146 1 = Int32.ofNat F.length ∧ M.1 146 6 = th ∧ ordF (M.1 147) 0 F ∧ (∀ g, g ∈ F → g < 4 ∧ M.1 148 g = a g) ∧ F.length ≤ 4
theorem s50 {X : (Nat → Int32) × Nat} {d : Nat} {s th : Int32} {a : Nat → Int32} {F : List Nat} {M : zM} (hm : mOk M a F th) : zC X d 50 [.ref 146, .int s] M = some (some (.int (pLH a s F th (-1))), M) := by
  show zR X d 50 (0, [.ref 146, .int s, zjk, zjk, zjk, zjk], [], M) = _
  obtain ⟨hG, h1, h6, h7, h8, hl⟩ := hm
  have hz := zis_q hG zq_147
  have hz8 := zis_q hG zq_148
  have loop : ∀ (G : List Nat) (i : Nat) (th h : Int32) (v : Value), i + G.length = F.length → ordF (M.1 147) i G → (∀ g, g ∈ G → g < 4 ∧ M.1 148 g = a g) → zR X d 50 (10, [.ref 146, .int s, .int th, .int h, .int (Int32.ofNat i), v], [], M) = some (some (.int (pLH a s G th h)), M) := by
    intro G
    induction G with
    | nil =>
      intro i th h v hi ho hg
      rw [List.length_nil] at hi
      have hle : M.1 146 1 ≤ Int32.ofNat i := by rw [h1, of_le (by omega) (by omega)]; omega
      rw [t50_10 _ _ _ _ _ _ hG (fun h => absurd hle h) (fun h => absurd hle h) (fun h => absurd hle h) (fun h => absurd hle h) (fun h => absurd hle h) (fun h => absurd hle h), if_pos hle]
      rfl
    | cons g G ih =>
      intro i th h v hi ho hg
      rw [List.length_cons] at hi
      have hnle : ¬ M.1 146 1 ≤ Int32.ofNat i := by rw [h1, of_le (by omega) (by omega)]; omega
      have ii : (Int32.ofNat i).toNatClampNeg = i := toNat_of (by omega)
      have hgg := hg g (List.mem_cons_self ..)
      have gg : (Int32.ofNat g).toNatClampNeg = g := toNat_of (by omega)
      have lem := t50_10 (X := X) (d := d) s th h (Int32.ofNat i) v M hG
      rw [hm_0 hG, hm_4 hG, zl_147, zl_148, ii, ho.1, gg, hgg.2] at lem
      rw [lem (fun _ => by omega) (fun _ => hz) (fun _ => vp_of (by omega) (by omega)) (fun _ _ => by omega) (fun _ _ => hz8) (fun _ _ => vp_of (by omega) (by omega)), if_neg hnle, of_succ, pLH]
      have nx := fun th h v => ih (i + 1) th h v (by omega) ho.2 (fun g hg2 => hg g (List.mem_cons_of_mem _ hg2))
      cases hb : pb s g
      · rw [if_pos (pb_f hb), cond_false]
        exact nx _ _ _
      · rw [if_neg (pb_t hb), cond_true]
        by_cases c : a g ≤ th
        · rw [if_pos c, if_pos c]
          exact nx _ _ _
        · rw [if_neg c, if_neg c]
          exact nx _ _ _
  rw [t50_0 _ _ _ _ _ _ hG, h6]
  exact loop F 0 th (-1) zjk (by omega) h7 h8
theorem s49 {X : (Nat → Int32) × Nat} {d g : Nat} {s th : Int32} {a : Nat → Int32} {F : List Nat} {M : zM} (hm : mOk M a F th) : zC X (d + 1) 49 [.ref 146, .int s, .int (Int32.ofNat g)] M = some (some (.int (pGain a F th s g)), M) := by
  show zR X (d + 1) 49 (0, [.ref 146, .int s, .int (Int32.ofNat g)], [], M) = _
  have hG := hm.1
  unfold pGain
  rw [t49_0 _ _ _ hG]
  cases hb : pb s g
  · rw [if_neg (not_not_intro (pb_f hb)), cond_false]
  · rw [if_pos (pb_t hb), s50 hm, Option.bind_some, cond_true]
    dsimp only [zps]
    rw [t49_15 _ _ _ _ hG]
    by_cases c : pLH a s F th (-1) = Int32.ofNat g
    · rw [if_neg (not_not_intro c), if_pos c]
    · rw [if_pos c, if_neg c]
theorem s48 {X : (Nat → Int32) × Nat} {d : Nat} {s th : Int32} {a : Nat → Int32} {F : List Nat} {M : zM} (hm : mOk M a F th) : zC X (d + 2) 48 [.ref 146, .int s] M = some (some (.int (bif pRest a F th s then 1 else 0)), M) := by
  show zR X (d + 2) 48 (0, [.ref 146, .int s, zjk, zjk], [], M) = _
  obtain ⟨hG, h1, h6, h7, h8, hl⟩ := id hm
  have hz := zis_q hG zq_147
  have loop : ∀ (G : List Nat) (i : Nat) (v : Value), i + G.length = F.length → ordF (M.1 147) i G → (∀ g, g ∈ G → g < 4) → zR X (d + 2) 48 (2, [.ref 146, .int s, .int (Int32.ofNat i), v], [], M) = some (some (.int (bif G.all (fun g => decide (pGain a F th (s ^^^ (1 <<< (Int32.ofNat g &&& 31))) g ≤ pGain a F th s g)) then 1 else 0)), M) := by
    intro G
    induction G with
    | nil =>
      intro i v hi ho hg
      rw [List.length_nil] at hi
      have hle : M.1 146 1 ≤ Int32.ofNat i := by rw [h1, of_le (by omega) (by omega)]; omega
      rw [t48_2 _ _ _ _ hG (fun h => absurd hle h) (fun h => absurd hle h) (fun h => absurd hle h), if_pos hle]
      rfl
    | cons g G ih =>
      intro i v hi ho hg
      rw [List.length_cons] at hi
      have hnle : ¬ M.1 146 1 ≤ Int32.ofNat i := by rw [h1, of_le (by omega) (by omega)]; omega
      have ii : (Int32.ofNat i).toNatClampNeg = i := toNat_of (by omega)
      have lem := t48_2 (X := X) (d := d + 1) s (Int32.ofNat i) v M hG
      rw [hm_0 hG, zl_147, ii, ho.1] at lem
      rw [lem (fun _ => by omega) (fun _ => hz) (fun _ => vp_of (by omega) (by omega)), if_neg hnle, s49 hm, Option.bind_some]
      dsimp only [zps]
      rw [t48_27 _ _ _ _ _ hG, s49 hm, Option.bind_some]
      dsimp only [zps]
      rw [t48_33 _ _ _ _ _ _ hG, of_succ, List.all_cons]
      by_cases c : pGain a F th (s ^^^ (1 <<< (Int32.ofNat g &&& 31))) g ≤ pGain a F th s g
      · rw [if_pos c, decide_eq_true c, Bool.true_and]
        exact ih (i + 1) _ (by omega) ho.2 (fun g hg2 => hg g (List.mem_cons_of_mem _ hg2))
      · rw [if_neg c, decide_eq_false c, Bool.false_and, cond_false]
  rw [t48_0 _ _ _ _ hG]
  exact loop F 0 zjk (by omega) h7 (fun g hg => (h8 g hg).1)
