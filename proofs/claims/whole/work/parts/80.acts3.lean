/-! ===== acts kept by the class ===== -/
theorem zupR_s {f : Nat → Nat → Nat} {a k j v : Nat} : zup f a k v a j = if j = k then v else f a j := by simp [zup]
theorem zupR_n {f : Nat → Nat → Nat} {a k c v : Nat} (h : c ≠ a) : zup f a k v c = f c := by
  funext j
  simp [zup, h]
def pRem (p : Nat) (P : Nat → zA) (A : zA) (j : Nat) : zA := if p < 20 then (if j = p then A else P j) else (if j = 19 then A else P (j + 1))
def pRemN (p : Nat) : Nat := if p < 20 then p + 1 else 20
theorem stD_cells {n s : Nat} {M M' : zM} (h1 : M'.1 s = M.1 s) (h2 : M'.1 (s + 1) = M.1 (s + 1)) : stD n s M' = stD n s M := by
  unfold stD
  rw [h1, h2]
theorem past_c {M : zM} (hG : zGE M) {i : Nat} (hi : i < 20) : ∃ j, j < 20 ∧ M.2.2.1 69 i = 72 + 2 * j := by
  obtain ⟨j, h1, h2⟩ := (hG.2.2 39 zq_39).1 i hi
  exact ⟨j, h1, by have : M.2.2.1 69 i = 39 + 33 + 2 * j := h2; omega⟩
theorem past_i {M : zM} (hG : zGE M) {i j : Nat} (hi : i < 20) (hj : j < 20) (h : M.2.2.1 69 i = M.2.2.1 69 j) : i = j := (hG.2.2 39 zq_39).2 i j hi hj h
theorem zq_past : ∀ j, j < 20 → zqk (72 + 2 * j) 9 = true := by decide +kernel
/-- what remembering may change in the class -/
def fp (M M' : zM) : Prop := zGE M' ∧ (∀ c, c < 72 ∨ 112 ≤ c → c ≠ 39 → M'.1 c = M.1 c) ∧ (∀ k, k ≠ 5 → M'.1 39 k = M.1 39 k) ∧ ∀ c, c ≠ 69 → M'.2.2.1 c = M.2.2.1 c
theorem s54c {X : (Nat → Int32) × Nat} {d n p : Nat} {v1 v2 : Value} {M : zM} (hG : zGE M) (hn : n ≤ 4) (hp : p < 20) (h5 : M.1 39 5 = Int32.ofNat p) : ∃ M', ((zC X d 70 [.ref (M.2.2.1 69 p), .ref 67] M).bind fun o => zR X (d + 1) 54 (74, [.ref 39, v1, v2], zps o.1 [], o.2)) = some (none, M') ∧ fp M M' ∧ M'.1 39 5 = Int32.ofNat (p + 1) ∧ ∀ j, j < p + 1 → stD n (M'.2.2.1 69 j) M' = if j = p then stD n 67 M else stD n (M.2.2.1 69 j) M := by
  obtain ⟨a, ha, hra⟩ := past_c hG hp
  obtain ⟨M1, q1, q2, q3⟩ := s70 (X := X) (d := d) (n := n) (s := 72 + 2 * a) (t := 67) hG (zq_past a ha) zq_67 (by omega) hn
  have hG1 := zfr_G q2 hG
  have e39 : M1.1 39 = M.1 39 := (q2.2 39 (by omega)).1
  rw [hra, q1, Option.bind_some]
  dsimp only [zps]
  rw [t54_74 _ _ _ _ hG1 zq_39, e39, h5, of_succ]
  refine ⟨_, rfl, ⟨hG1, fun c hc h39 => by rw [zI_n1 h39]; exact (q2.2 c (by omega)).1, fun k hk => by rw [zI_s, if_neg hk, e39], fun c _ => by show M1.2.2.1 c = _; rw [q2.1]⟩, by rw [zI_s, if_pos rfl], fun j hj => ?_⟩
  have er : (zsI M1 39 5 (Int32.ofNat (p + 1))).2.2.1 69 j = M.2.2.1 69 j := by
    show M1.2.2.1 69 j = _
    rw [q2.1]
  rw [er]
  by_cases e : j = p
  · rw [if_pos e, e, hra, ← q3]
    exact stD_cells (zI_n1 (by omega)) (zI_n1 (by omega))
  · rw [if_neg e]
    obtain ⟨b, hb, hrb⟩ := past_c hG (i := j) (by omega)
    have hne : b ≠ a := fun h => e (past_i hG (by omega) hp (by rw [hrb, hra, h]))
    rw [hrb]
    exact stD_cells ((zI_n1 (by omega)).trans (q2.2 _ (by omega)).1) ((zI_n1 (by omega)).trans (q2.2 _ (by omega)).1)
theorem s54 {X : (Nat → Int32) × Nat} {d n p : Nat} {M : zM} (hG : zGE M) (hn : n ≤ 4) (hp : p ≤ 20) (h5 : M.1 39 5 = Int32.ofNat p) : ∃ M', zC X (d + 1) 54 [.ref 39] M = some (none, M') ∧ fp M M' ∧ M'.1 39 5 = Int32.ofNat (pRemN p) ∧ ∀ j, j < pRemN p → stD n (M'.2.2.1 69 j) M' = pRem p (fun j => stD n (M.2.2.1 69 j) M) (stD n 67 M) j := by
  show ∃ M', zR X (d + 1) 54 (0, [.ref 39, zjk, zjk], [], M) = some (none, M') ∧ _
  by_cases c : p < 20
  · have hlt : M.1 39 5 < 20 := by rw [h5, show (20 : Int32) = Int32.ofNat 20 from rfl, of_lt (by omega) (by omega)]; exact c
    have pp : (Int32.ofNat p).toNatClampNeg = p := toNat_of (by omega)
    obtain ⟨a, ha, hra⟩ := past_c hG c
    obtain ⟨M', q1, q2, q3, q4⟩ := s54c (X := X) (d := d) (n := n) (p := p) (v1 := zjk) (v2 := zjk) hG hn c h5
    have lem := t54_0 (X := X) (d := d) 39 zjk zjk M hG zq_39
    have hra' : M.2.2.1 (39 + 30) p = 72 + 2 * a := hra
    rw [h5, pp, hra'] at lem
    rw [h5] at hlt
    rw [lem (fun _ => vp_of (by omega) (by omega)) (fun _ => by omega) (fun _ => zis_q hG (zq_past a ha)) (fun h => absurd hlt h), if_pos hlt]
    rw [hra] at q1
    refine ⟨M', q1, q2, ?_, fun j hj => ?_⟩
    · unfold pRemN
      rw [if_pos c]
      exact q3
    · unfold pRemN at hj
      rw [if_pos c] at hj
      unfold pRem
      rw [if_pos c]
      exact q4 j hj
  · have hp20 : p = 20 := by omega
    subst hp20
    have hnlt : ¬ M.1 39 5 < 20 := by rw [h5]; decide
    obtain ⟨a0, ha0, hr0⟩ := past_c hG (i := 0) (by omega)
    have hr0' : M.2.2.1 (39 + 30) 0 = 72 + 2 * a0 := hr0
    have h39 : ∀ M1 : zM, (∀ c, c ≠ 69 → M1.2.2.1 c = M.2.2.1 c) → M1.2.2.1 39 4 = 69 := fun M1 h => by rw [h 39 (by decide)]; exact zge_rd hG rfl (by decide)
    have zi : ∀ (M1 : zM) (b c : Nat), M1.2.2.2 = M.2.2.2 → zqk b c = true → zis M1 b c := fun M1 b c h hq => ⟨by rw [h]; exact (zis_q hG hq).1, (zis_q hG hq).2⟩
    have z69 : zqk 69 25 = true := zq_69
    have l69 : zln 69 = 20 := zl_69
    have loop : ∀ m i M1, i + m = 20 → 1 ≤ i → M1.1 = M.1 → M1.2.2.2 = M.2.2.2 → (∀ c, c ≠ 69 → M1.2.2.1 c = M.2.2.1 c) → (∀ k, k < 20 → M1.2.2.1 69 k = if k + 1 < i then M.2.2.1 69 (k + 1) else M.2.2.1 69 k) → (∀ k, 20 ≤ k → M1.2.2.1 69 k = M.2.2.1 69 k) → ∃ M', zR X (d + 1) 54 (18, [.ref 39, .ref (72 + 2 * a0), .int (Int32.ofNat i)], [], M1) = some (none, M') ∧ fp M M' ∧ M'.1 39 5 = Int32.ofNat 20 ∧ ∀ j, j < 20 → stD n (M'.2.2.1 69 j) M' = pRem 20 (fun j => stD n (M.2.2.1 69 j) M) (stD n 67 M) j := by
      intro m
      induction m with
      | zero =>
        intro i M1 hi h1 e1 e2 e3 e4 e5
        have hi20 : i = 20 := by omega
        subst hi20
        have t19 : (19 : Int32).toNatClampNeg = 19 := by decide
        have b1 := b54_18 (X := X) (d := d + 1) (M := M1) 39 (72 + 2 * a0) (Int32.ofNat 20)
        have b2 := b54_44 (X := X) (d := d + 1) (M := M1) 39 (72 + 2 * a0) (Int32.ofNat 20) (zi M1 39 6 e2 zq_39) (by rw [h39 M1 e3]; omega) (by rw [h39 M1 e3]; exact zi M1 69 25 e2 z69) (by rw [h39 M1 e3, l69]; exact vp_of (k := 19) (by omega) (by omega)) (zi M1 _ 9 e2 (zq_past a0 ha0)) (by omega)
        rw [h39 M1 e3, t19] at b2
        rw [b1, if_pos (by decide), b2]
        generalize hM2 : zsI (zsR M1 69 19 (72 + 2 * a0)) 39 5 19 = M2
        have r2 : ∀ k, k < 20 → M2.2.2.1 69 k = if k < 19 then M.2.2.1 69 (k + 1) else M.2.2.1 69 0 := fun k hk => by
          rw [← hM2]
          show zup M1.2.2.1 69 19 (72 + 2 * a0) 69 k = _
          rw [zupR_s]
          by_cases e : k = 19
          · rw [if_pos e, if_neg (by omega), hr0]
          · rw [if_neg e, e4 k hk, if_pos (by omega), if_pos (by omega)]
        have r3 : ∀ c, c ≠ 69 → M2.2.2.1 c = M.2.2.1 c := fun c hc => by
          rw [← hM2]
          show zup M1.2.2.1 69 19 (72 + 2 * a0) c = _
          rw [zupR_n hc, e3 c hc]
        have r4 : M2.2.2.2 = M.2.2.2 := by rw [← hM2]; exact e2
        have r1 : ∀ c, c ≠ 39 → M2.1 c = M.1 c := fun c hc => by
          rw [← hM2, zI_n1 hc]
          show M1.1 c = _
          rw [e1]
        have r5 : ∀ k, M2.1 39 k = if k = 5 then 19 else M.1 39 k := fun k => by
          rw [← hM2, zI_s]
          show (if k = 5 then 19 else M1.1 39 k) = _
          rw [e1]
        have hG2 : zGE M2 := by
          refine ⟨r4.trans hG.1, fun b k hb => ?_, fun r hr => ?_⟩
          · by_cases e : b = 69
            · subst e
              have hzg : ∀ k, k < 20 → ¬ zgr 69 k < 1000000 := by decide +kernel
              by_cases hk : k < 20
              · exact absurd hb (hzg k hk)
              · have e : M2.2.2.1 69 k = M.2.2.1 69 k := by
                  rw [← hM2]
                  show zup M1.2.2.1 69 19 (72 + 2 * a0) 69 k = _
                  rw [zupR_s, if_neg (by omega)]
                  exact e5 k (by omega)
                rw [e]
                exact hG.2.1 69 k hb
            · rw [r3 b e]; exact hG.2.1 b k hb
          · by_cases e : r = 39
            · subst e
              refine ⟨fun i hi => ?_, fun i j hi hj hij => ?_⟩
              · show ∃ j, j < 20 ∧ M2.2.2.1 69 i = _
                rw [r2 i hi]
                split
                · exact (hG.2.2 39 zq_39).1 (i + 1) (by omega)
                · exact (hG.2.2 39 zq_39).1 0 (by omega)
              · have hij' : M2.2.2.1 69 i = M2.2.2.1 69 j := hij
                rw [r2 i hi, r2 j hj] at hij'
                by_cases c1 : i < 19
                · rw [if_pos c1] at hij'
                  by_cases c2 : j < 19
                  · rw [if_pos c2] at hij'
                    have := past_i hG (show i + 1 < 20 by omega) (show j + 1 < 20 by omega) hij'
                    omega
                  · rw [if_neg c2] at hij'
                    have := past_i hG (show i + 1 < 20 by omega) (show 0 < 20 by omega) hij'
                    omega
                · rw [if_neg c1] at hij'
                  by_cases c2 : j < 19
                  · rw [if_pos c2] at hij'
                    have := past_i hG (show 0 < 20 by omega) (show j + 1 < 20 by omega) hij'
                    omega
                  · omega
            · have hr30 : r + 30 ≠ 69 := by omega
              rw [r3 _ hr30]
              exact hG.2.2 r hr
        have h5' : M2.1 39 5 = Int32.ofNat 19 := by rw [r5, if_pos rfl]; rfl
        obtain ⟨b19, hb19, hrb⟩ := past_c hG2 (i := 19) (by omega)
        have h1919 : (Int32.ofNat 19).toNatClampNeg = 19 := rfl
        have lem := t54_58 (X := X) (d := d) 39 (.ref (72 + 2 * a0)) (.int (Int32.ofNat 20)) M2 hG2 zq_39
        have hrb' : M2.2.2.1 (39 + 30) 19 = 72 + 2 * b19 := hrb
        rw [h5', h1919, hrb'] at lem
        obtain ⟨M', q1, ⟨f1, f2, f3, f4⟩, q3, q4⟩ := s54c (X := X) (d := d) (n := n) (p := 19) (v1 := .ref (72 + 2 * a0)) (v2 := .int (Int32.ofNat 20)) hG2 hn (by omega) h5'
        rw [hrb] at q1
        refine ⟨M', (lem (vp_of (by omega) (by omega)) (by omega) (zis_q hG2 (zq_past b19 hb19))).trans q1, ⟨f1, fun c hc h => (f2 c hc h).trans (r1 c h), fun k hk => (f3 k hk).trans (by rw [r5, if_neg hk]), fun c hc => (f4 c hc).trans (r3 c hc)⟩, q3, fun j hj => ?_⟩
        have hpr : pRem 20 (fun j => stD n (M.2.2.1 69 j) M) (stD n 67 M) j = if j = 19 then stD n 67 M else stD n (M.2.2.1 69 (j + 1)) M := if_neg (by omega)
        rw [q4 j (by omega), hpr]
        by_cases e : j = 19
        · rw [if_pos e, if_pos e]
          exact stD_cells (r1 _ (by decide)) (r1 _ (by decide))
        · rw [if_neg e, if_neg e, r2 j hj, if_pos (by omega)]
          obtain ⟨b, hb, hrbb⟩ := past_c hG (i := j + 1) (by omega)
          rw [hrbb]
          exact stD_cells (r1 _ (by omega)) (r1 _ (by omega))
      | succ m ih =>
        intro i M1 hi h1 e1 e2 e3 e4 e5
        have ii : (Int32.ofNat i).toNatClampNeg = i := toNat_of (by omega)
        have ip : Int32.ofNat i - 1 = Int32.ofNat (i - 1) := of_pred (by omega)
        have ipp : (Int32.ofNat (i - 1)).toNatClampNeg = i - 1 := toNat_of (by omega)
        obtain ⟨b, hb, hrb⟩ := past_c hG (i := i) (by omega)
        have eri : M1.2.2.1 69 i = 72 + 2 * b := by rw [e4 i (by omega), if_neg (by omega), hrb]
        have b1 := b54_18 (X := X) (d := d + 1) (M := M1) 39 (72 + 2 * a0) (Int32.ofNat i)
        have b2 := b54_24 (X := X) (d := d + 1) (M := M1) 39 (72 + 2 * a0) (Int32.ofNat i) (zi M1 39 6 e2 zq_39) (by rw [h39 M1 e3]; omega) (by rw [h39 M1 e3]; exact zi M1 69 25 e2 z69) (by rw [h39 M1 e3, l69]; exact vp_of (by omega) (by omega)) (by rw [h39 M1 e3, ii, eri]; omega) (by rw [h39 M1 e3, l69, ip]; exact vp_of (by omega) (by omega)) (by rw [h39 M1 e3, ii, eri]; exact zi M1 _ 9 e2 (zq_past b hb))
        rw [h39 M1 e3, ii, ip, ipp, eri, of_succ] at b2
        rw [b1, if_neg (by rw [show (20 : Int32) = Int32.ofNat 20 from rfl, of_le (by omega) (by omega)]; omega), b2]
        refine ih (i + 1) _ (by omega) (by omega) e1 e2 (fun c hc => ?_) (fun k hk => ?_) (fun k hk => ?_)
        · show zup M1.2.2.1 69 (i - 1) (72 + 2 * b) c = _
          rw [zupR_n hc, e3 c hc]
        · show zup M1.2.2.1 69 (i - 1) (72 + 2 * b) 69 k = _
          rw [zupR_s]
          by_cases e : k = i - 1
          · rw [if_pos e, if_pos (by omega), show k + 1 = i by omega, hrb]
          · rw [if_neg e, e4 k hk]
            by_cases c3 : k + 1 < i
            · rw [if_pos c3, if_pos (by omega)]
            · rw [if_neg c3, if_neg (by omega)]
        · show zup M1.2.2.1 69 (i - 1) (72 + 2 * b) 69 k = _
          rw [zupR_s, if_neg (by omega)]
          exact e5 k hk
    have lem := t54_0 (X := X) (d := d) 39 zjk zjk M hG zq_39
    rw [hr0'] at lem
    rw [lem (fun h => absurd h hnlt) (fun h => absurd h hnlt) (fun h => absurd h hnlt) (fun _ => by omega), if_neg hnlt]
    obtain ⟨M', w1, w2, w3, w4⟩ := loop 19 1 M (by omega) (by omega) rfl rfl (fun _ _ => rfl) (fun k hk => by rw [if_neg (by omega)]) (fun _ _ => rfl)
    refine ⟨M', w1, w2, ?_, fun j hj => ?_⟩
    · unfold pRemN
      rw [if_neg (by omega)]
      exact w3
    · unfold pRemN at hj
      rw [if_neg (by omega)] at hj
      exact w4 j hj
