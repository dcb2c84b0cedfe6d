/-! ===== log, count, end ===== -/
def pLw (E : zE) (w : Int32) : Bool := bif decide (w = -1) then true else bif ! decide (w < 0 ∨ E 0 4 ≤ w) then true else bif decide (w < 10) then false else ! decide (w - 10 < 0 ∨ E 0 2 ≤ w - 10)
abbrev pLgOk (E : zE) (g x w : Int32) : Prop := ¬ E 0 0 = 0 ∧ pLw E w = true ∧ ¬ x < 0 ∧ ¬ 60 < x ∧ g < 10
theorem pLw_1 {E : zE} {w : Int32} (h : w = -1) : pLw E w = true := by
  unfold pLw; rw [decide_eq_true h, cond_true]
theorem pLw_2 {E : zE} {w : Int32} (h : ¬ w = -1) (h2 : ¬ (w < 0 ∨ E 0 4 ≤ w)) : pLw E w = true := by
  unfold pLw; rw [decide_eq_false h, cond_false, decide_eq_false h2, Bool.not_false, cond_true]
theorem pLw_3 {E : zE} {w : Int32} (h : ¬ w = -1) (h2 : w < 0 ∨ E 0 4 ≤ w) (h3 : w < 10) : pLw E w = false := by
  unfold pLw; rw [decide_eq_false h, cond_false, decide_eq_true h2, Bool.not_true, cond_false, decide_eq_true h3, cond_true]
theorem pLw_4 {E : zE} {w : Int32} (h : ¬ w = -1) (h2 : w < 0 ∨ E 0 4 ≤ w) (h3 : ¬ w < 10) : pLw E w = ! decide (w - 10 < 0 ∨ E 0 2 ≤ w - 10) := by
  unfold pLw; rw [decide_eq_false h, cond_false, decide_eq_true h2, Bool.not_true, cond_false, decide_eq_false h3, cond_false]
theorem w10 {w : Int32} {n : Nat} (hn : n ≤ 4) (h : w < 10) : w - 10 < 0 ∨ Int32.ofNat n ≤ w - 10 := by
  rw [Int32.lt_iff_toInt_lt] at h
  rw [Int32.lt_iff_toInt_lt, Int32.le_iff_toInt_le, Int32.toInt_sub, Int32.toInt_ofNat_of_lt (by omega), show (10 : Int32).toInt = 10 from rfl, show (0 : Int32).toInt = 0 from rfl]
  rw [show (10 : Int32).toInt = 10 from rfl] at h
  have h1 := Int32.toInt_lt w
  have h2 := Int32.le_toInt w
  rw [Int.bmod_def]
  omega
theorem s56 {X : (Nat → Int32) × Nat} {d k : Nat} {x w : Int32} {v3 : Value} {M : zM} (hG : zGE M) (hE : okE (emD 40 M)) (hk : M.1 39 8 = Int32.ofNat k) (hk2 : k ≤ 10) : zR X (d + 3) 56 (0, [.ref 39, .int x, .int w, v3], [], M) = if pLgOk (emD 40 M) (M.1 39 8) x w then some (some (.int 1), zsI (zsI (zsI M 70 k x) 71 k w) 39 8 (Int32.ofNat k + 1)) else some (some (.int 0), M) := by
  have hnc : M.1 39 8 < 10 ↔ k < 10 := by rw [hk, show (10 : Int32) = Int32.ofNat 10 from rfl, of_lt (by omega) (by omega)]
  have kk : (Int32.ofNat k).toNatClampNeg = k := toNat_of (by omega)
  have tail : ∀ (b : Bool), pLw (emD 40 M) w = b → ((zC X (d + 2) 11 [.ref (39 + 1)] M).bind fun o => zR X (d + 3) 56 (51, [.ref 39, .int x, .int w, .int (bif b then 1 else 0)], zps o.1 [], o.2)) = if pLgOk (emD 40 M) (M.1 39 8) x w then some (some (.int 1), zsI (zsI (zsI M 70 k x) 71 k w) 39 8 (Int32.ofNat k + 1)) else some (some (.int 0), M) := fun b hb => by
    rw [s11 hG zq_40 hE, Option.bind_some]
    dsimp only [zps]
    rw [t56_51 _ _ _ _ _ _ hG zq_39 (fun _ _ _ _ h => by rw [hk]; exact vp_of (hnc.1 h) (by omega))]
    unfold pLgOk
    rw [hb]
    by_cases c0 : emD 40 M 0 0 = 0
    · rw [if_pos c0, if_pos rfl, if_neg (fun h => h.1 c0)]
    · rw [if_neg c0, if_neg (by decide)]
      cases b
      · rw [cond_false, if_pos rfl, if_neg (fun h => Bool.noConfusion h.2.1)]
      · rw [cond_true, if_neg (by decide)]
        by_cases c1 : x < 0
        · rw [if_pos c1, if_neg (fun h => h.2.2.1 c1)]
        · rw [if_neg c1]
          by_cases c2 : 60 < x
          · rw [if_pos c2, if_neg (fun h => h.2.2.2.1 c2)]
          · rw [if_neg c2]
            by_cases c3 : M.1 39 8 < 10
            · rw [if_pos c3, if_pos ⟨c0, rfl, c1, c2, c3⟩, hk, kk]
            · rw [if_neg c3, if_neg (fun h => c3 h.2.2.2.2)]
  have h12 := s12y (X := X) (d := d + 2) (e := 40) (c := 4) (x := w) (y := 4) rfl hG zq_40 (by omega)
  have h12b := s12y (X := X) (d := d + 2) (e := 40) (c := 2) (x := w - 10) (y := 2) rfl hG zq_40 (by omega)
  rw [t56_0 _ _ _ _ _ hG zq_39]
  by_cases c0 : w = -1
  · rw [if_pos c0]
    exact tail true (pLw_1 c0)
  · rw [if_neg c0, h12, Option.bind_some]
    dsimp only [zps]
    rw [t56_14 _ _ _ _ _ _ hG zq_39]
    by_cases c1 : w < 0 ∨ emD 40 M 0 4 ≤ w
    · rw [if_pos c1, if_neg (by decide)]
      by_cases c2 : w < 10
      · rw [if_pos c2]
        exact tail false (pLw_3 c0 c1 c2)
      · rw [if_neg c2, h12b, Option.bind_some]
        dsimp only [zps]
        rw [t56_35 _ _ _ _ _ _ hG zq_39]
        have e4 := pLw_4 c0 c1 c2
        by_cases c3 : w - 10 < 0 ∨ emD 40 M 0 2 ≤ w - 10
        · rw [decide_eq_true c3, Bool.not_true] at e4
          rw [if_pos c3, if_pos rfl]
          exact tail false e4
        · rw [decide_eq_false c3, Bool.not_false] at e4
          rw [if_neg c3, if_neg (by decide)]
          exact tail true e4
    · rw [if_neg c1, if_pos (by decide)]
      exact tail true (pLw_2 c0 c1)
theorem r229 {X : (Nat → Int32) × Nat} {d k : Nat} {x w : Int32} {v3 v4 : Value} {M : zM} (hM : okM M) (hx : ¬ x = -1) (hk : M.1 461 15 = Int32.ofNat k) (hk2 : k ≤ 10) : zR X (d + 3) 229 (0, [.ref 460, .int x, .int w, v3, v4], [], M) = if pLgOk (emR M) (M.1 461 15) x w then some (some (.int (Int32.ofNat k + 1)), zsI (zsI (zsI M 471 k x) 472 k w) 461 15 (Int32.ofNat k + 1)) else some (some (.int (-2)), M) := by
  have hG := hM.1
  obtain ⟨hnN, hcN⟩ := okR_N hM.2.1
  have e02 : emR M 0 2 = Int32.ofNat (nN (emR M)) := hcN
  have e00 : emR M 0 0 = M.1 460 25 := rfl
  have hnc : M.1 461 15 < 10 ↔ ¬ M.1 461 15 = 10 := by rw [hk, show (10 : Int32) = Int32.ofNat 10 from rfl, of_lt (by omega) (by omega), of_inj (by omega) (by omega)]; omega
  have kk : (Int32.ofNat k).toNatClampNeg = k := toNat_of (by omega)
  have tail : ∀ (b : Bool), pLw (emR M) w = b → (if M.1 460 25 = 0 then some (some (.int (-2)), M) else (zC X (d + 2) 135 [.long x.toInt64, .long 0, .long 60] M).bind fun o => zR X (d + 3) 229 (70, [.ref 460, .int x, .int w, .int (M.1 461 15), .int (bif b then 1 else 0)], zps o.1 [], o.2)) = if pLgOk (emR M) (M.1 461 15) x w then some (some (.int (Int32.ofNat k + 1)), zsI (zsI (zsI M 471 k x) 472 k w) 461 15 (Int32.ofNat k + 1)) else some (some (.int (-2)), M) := fun b hb => by
    unfold pLgOk
    rw [hb, e00]
    by_cases c0 : M.1 460 25 = 0
    · rw [if_pos c0, if_neg (fun h => h.1 c0)]
    · rw [if_neg c0, r135i (y := 0) (z := 60) (a := 0) (b := 60) hG rfl rfl, Option.bind_some]
      dsimp only [zps]
      rw [t229_70 _ _ _ _ _ _ hG (fun _ _ h => by rw [hk]; exact vp_of (by have := hnc.2 h; rw [hk, show (10 : Int32) = Int32.ofNat 10 from rfl, of_lt (by omega) (by omega)] at this; exact this) (by omega))]
      by_cases c1 : x < 0 ∨ 60 < x
      · rw [if_pos c1, if_pos rfl, if_neg (fun h => c1.elim h.2.2.1 h.2.2.2.1)]
      · rw [if_neg c1, if_neg (by decide)]
        cases b
        · rw [cond_false, if_pos rfl, if_neg (fun h => Bool.noConfusion h.2.1)]
        · rw [cond_true, if_neg (by decide)]
          by_cases c3 : M.1 461 15 = 10
          · rw [if_neg (not_not_intro c3), if_neg (fun h => hnc.1 h.2.2.2.2 c3)]
          · rw [if_pos c3, if_pos ⟨c0, rfl, fun h => c1 (Or.inl h), fun h => c1 (Or.inr h), hnc.2 c3⟩, hk, kk]
  rw [t229_0 _ _ _ _ _ hG, if_pos hx]
  by_cases c0 : w = -1
  · rw [if_pos c0]
    exact tail true (pLw_1 c0)
  · rw [if_neg c0, r137 (d := d + 1) hG hM.2.1, Option.bind_some]
    dsimp only [zps]
    rw [t229_33 _ _ _ _ _ _ hG]
    by_cases c1 : w < 0 ∨ emR M 0 4 ≤ w
    · rw [if_pos c1, if_neg (by decide), r138 (d := d + 1) hG hM.2.1, Option.bind_some]
      dsimp only [zps]
      rw [t229_44 _ _ _ _ _ _ hG]
      by_cases c2 : w < 10
      · rw [if_pos (show w - 10 < 0 ∨ emR M 0 2 ≤ w - 10 by rw [e02]; exact w10 hnN c2), if_pos rfl]
        exact tail false (pLw_3 c0 c1 c2)
      · have e4 := pLw_4 c0 c1 c2
        by_cases c3 : w - 10 < 0 ∨ emR M 0 2 ≤ w - 10
        · rw [decide_eq_true c3, Bool.not_true] at e4
          rw [if_pos c3, if_pos rfl]
          exact tail false e4
        · rw [decide_eq_false c3, Bool.not_false] at e4
          rw [if_neg c3, if_neg (by decide)]
          exact tail true e4
    · rw [if_neg c1, if_pos (by decide)]
      exact tail true (pLw_2 c0 c1)
theorem o_log {X : (Nat → Int32) × Nat} {d : Nat} {x w : Int32} {M : zM} (hI : INV M) : zOp2 X (d + 10) 125 229 [.int x, .int w] M := by
  have hG := hI.1
  obtain ⟨rl, g, i, y, hc⟩ := INV_cx hI
  obtain ⟨q1, q2, q3, q4, q5, q6, q7, q8, q9, q10, q11, q12, q13, q14, q15, q16, q17, q18, q19, q20, q21⟩ := id hc
  obtain ⟨g10, g60⟩ := id q19
  have l8 : M.1 39 8 = Int32.ofNat g.1 := q20.1
  have l15 : M.1 461 15 = Int32.ofNat g.1 := q21.1
  have s16 : ∀ (A B : zM → zM) (M2 : zM), M2.1 39 3 = M.1 39 3 → M2.1 461 16 = M.1 461 16 → ∃ x, x < 2147483648 ∧ M2.1 39 3 = Int32.ofNat x ∧ M2.1 461 16 = Int32.ofNat x := fun _ _ M2 h1 h2 => ⟨y, q16, by rw [h1]; exact q17, by rw [h2]; exact q18⟩
  by_cases c0 : x = -1
  · refine ⟨0, zsI M 39 8 0, zsI (zsI M 39 8 0) 461 15 0, ?_, ?_, INV_S hI ⟨rfl, fun c q1 q2 => by rw [zI_n1 (by omega), zI_n1 (by omega)], fun k q1 q2 q3 => by rw [zI_n (by decide), zI_s, if_neg q3], fun k q1 => by rw [zI_n (by decide), zI_n (by decide)], fun k q1 => by rw [zI_s, if_neg (by omega), zI_n (by decide)]⟩ (iTp_c hI.2.1 (by rw [zI_n1 (by decide), zI_n1 (by decide)]) (by rw [zI_n1 (by decide), zI_n1 (by decide)]) (by rw [zI_n1 (by decide), zI_n1 (by decide)]) (by rw [zI_n1 (by decide), zI_n1 (by decide)])) (fun n hn6 hn h => ?_) (s16 id id _ (by rw [zI_n (by decide), zI_s, if_neg (by decide)]) (by rw [zI_s, if_neg (by decide), zI_n (by decide)])) (fun h => ⟨(0, g.2), ⟨Nat.zero_le 10, fun k hk => absurd hk (Nat.not_lt_zero k)⟩, ⟨?_, fun k hk => absurd hk (Nat.not_lt_zero k)⟩, ⟨?_, fun k hk => absurd hk (Nat.not_lt_zero k)⟩⟩)⟩
    · show zR X (d + 10) 125 (0, [.ref 0, .int x, .int w], [], M) = _
      rw [t125_0 _ _ _ hG, if_neg (not_not_intro c0)]
    · show zR X (d + 10) 229 (0, [.ref 460, .int x, .int w, zjk, zjk], [], zsI M 39 8 0) = _
      rw [t229_0 _ _ _ _ _ (show zGE (zsI M 39 8 0) from hG), if_neg (not_not_intro c0)]
    · rw [zI_n (by decide), zI_s, if_neg (by decide), zI_s, if_neg (by decide), zI_n (by decide)]
      exact h
    · rw [zI_n (by decide), zI_s, if_pos rfl]; rfl
    · rw [zI_s, if_pos rfl]; rfl
  · have hs : zC X (d + 10) 125 [.ref 0, .int x, .int w] M = if pLgOk (emR M) (Int32.ofNat g.1) x w then some (some (.int (Int32.ofNat g.1 + 1)), zsI (zsI (zsI M 70 g.1 x) 71 g.1 w) 39 8 (Int32.ofNat g.1 + 1)) else some (some (.int (-2)), M) := by
      show zR X (d + 10) 125 (0, [.ref 0, .int x, .int w], [], M) = _
      have h56 : zC X (d + 9) 56 [.ref 39, .int x, .int w] M = _ := s56 (X := X) (d := d + 6) (k := g.1) (x := x) (w := w) (v3 := zjk) hG (by rw [q6]; exact q2.2.1) l8 g10
      rw [q6, l8] at h56
      rw [t125_0 _ _ _ hG, if_pos c0, h56]
      by_cases c : pLgOk (emR M) (Int32.ofNat g.1) x w
      · rw [if_pos c, if_pos c, Option.bind_some]
        dsimp only [zps]
        rw [t125_24 _ _ _ _ (show zGE (zsI (zsI (zsI M 70 g.1 x) 71 g.1 w) 39 8 (Int32.ofNat g.1 + 1)) from hG), if_neg (by decide), zI_s, if_pos rfl]
      · rw [if_neg c, if_neg c, Option.bind_some]
        dsimp only [zps]
        rw [t125_24 _ _ _ _ hG, if_pos rfl]
    by_cases c : pLgOk (emR M) (Int32.ofNat g.1) x w
    · rw [if_pos c] at hs
      obtain ⟨c1, c2, c3, c4, c5⟩ := id c
      have hk : g.1 < 10 := by rw [show (10 : Int32) = Int32.ofNat 10 from rfl, of_lt (by omega) (by omega)] at c5; exact c5
      have hz : ∀ a, 460 ≤ a → (zsI (zsI (zsI M 70 g.1 x) 71 g.1 w) 39 8 (Int32.ofNat g.1 + 1)).1 a = M.1 a := fun a ha => by rw [zI_n1 (by omega), zI_n1 (by omega), zI_n1 (by omega)]
      have hG1 : zGE (zsI (zsI (zsI M 70 g.1 x) 71 g.1 w) 39 8 (Int32.ofNat g.1 + 1)) := hG
      have he1 := emR_ag q2.2.1 (agR_eq hz)
      have hM1 : okM (zsI (zsI (zsI M 70 g.1 x) 71 g.1 w) 39 8 (Int32.ofNat g.1 + 1)) := ⟨hG1, by rw [he1]; exact q2.2.1, fun a ha => by rw [hz 470 (by omega)]; exact q2.2.2 a ha⟩
      have hr := r229 (X := X) (d := d + 7) (k := g.1) (x := x) (w := w) (v3 := zjk) (v4 := zjk) hM1 c0 (by rw [hz 461 (by omega)]; exact l15) g10
      rw [he1, hz 461 (by omega), l15, if_pos c] at hr
      refine ⟨_, _, _, hs, hr, INV_S hI ⟨rfl, fun c q1 q2 => by rw [zI_n1 (by omega), zI_n1 (by omega), zI_n1 (by omega), zI_n1 (by omega), zI_n1 (by omega), zI_n1 (by omega)], fun k q1 q2 q3 => by rw [zI_n (by decide), zI_n (by decide), zI_n (by decide), zI_s, if_neg q3, zI_n (by decide), zI_n (by decide)], fun k q1 => by rw [zI_n (by decide), zI_n (by decide), zI_n (by decide), hz 460 (by omega)], fun k q1 => by rw [zI_s, if_neg (by omega), zI_n (by decide), zI_n (by decide), hz 461 (by omega)]⟩ (iTp_c hI.2.1 (by rw [zI_n1 (by decide), zI_n1 (by decide), zI_n1 (by decide), zI_n1 (by decide), zI_n1 (by decide), zI_n1 (by decide)]) (by rw [zI_n1 (by decide), zI_n1 (by decide), zI_n1 (by decide), zI_n1 (by decide), zI_n1 (by decide), zI_n1 (by decide)]) (by rw [zI_n1 (by decide), zI_n1 (by decide), zI_n1 (by decide), hz 460 (by omega)]) (by rw [zI_n1 (by decide), zI_n1 (by decide), zI_n1 (by decide), hz 485 (by omega)])) (fun n hn6 hn h => ?_) (s16 id id _ (by rw [zI_n (by decide), zI_n (by decide), zI_n (by decide), zI_s, if_neg (by decide), zI_n (by decide), zI_n (by decide)]) (by rw [zI_s, if_neg (by decide), zI_n (by decide), zI_n (by decide), hz 461 (by omega)])) (fun h => ?_)⟩
      · rw [zI_n (by decide), zI_n (by decide), zI_n (by decide), zI_s, if_neg (by decide), zI_n (by decide), zI_n (by decide), zI_s, if_neg (by decide), zI_n (by decide), zI_n (by decide), hz 461 (by omega)]
        exact h
      · have ex : x = Int32.ofNat x.toNatClampNeg ∧ 0 ≤ x.toNatClampNeg ∧ x.toNatClampNeg ≤ 60 := of_range (a := 0) (b := 60) (by omega) (by omega) (fun h => h.elim c3 c4)
        refine ⟨(g.1 + 1, fun k => if k = g.1 then x.toNatClampNeg else g.2.1 k, fun k => if k = g.1 then w else g.2.2 k), ⟨by show g.1 + 1 ≤ 10; omega, fun k hk => ?_⟩, ⟨?_, fun k hk => ⟨?_, ?_⟩⟩, ⟨?_, fun k hk => ⟨?_, ?_⟩⟩⟩
        · show (if k = g.1 then _ else _) ≤ 60
          by_cases e : k = g.1
          · rw [if_pos e]; exact ex.2.2
          · rw [if_neg e]; exact g60 k (by have : k < g.1 + 1 := hk; omega)
        · rw [zI_n (by decide), zI_n (by decide), zI_n (by decide), zI_s, if_pos rfl, of_succ]
        · show _ = Int32.ofNat (if k = g.1 then _ else _)
          rw [zI_n (by decide), zI_n (by decide), zI_n (by decide), zI_n (by decide), zI_n (by decide), zI_s]
          by_cases e : k = g.1
          · rw [if_pos e, if_pos e]; exact ex.1
          · rw [if_neg e, if_neg e]; exact (q20.2 k (by have : k < g.1 + 1 := hk; omega)).1
        · show _ = if k = g.1 then _ else _
          rw [zI_n (by decide), zI_n (by decide), zI_n (by decide), zI_n (by decide), zI_s]
          by_cases e : k = g.1
          · rw [if_pos e, if_pos e]
          · rw [if_neg e, if_neg e, zI_n (by decide)]; exact (q20.2 k (by have : k < g.1 + 1 := hk; omega)).2
        · rw [zI_s, if_pos rfl, of_succ]
        · show _ = Int32.ofNat (if k = g.1 then _ else _)
          rw [zI_n (by decide), zI_n (by decide), zI_s]
          by_cases e : k = g.1
          · rw [if_pos e, if_pos e]; exact ex.1
          · rw [if_neg e, if_neg e, hz 471 (by omega)]; exact (q21.2 k (by have : k < g.1 + 1 := hk; omega)).1
        · show _ = if k = g.1 then _ else _
          rw [zI_n (by decide), zI_s]
          by_cases e : k = g.1
          · rw [if_pos e, if_pos e]
          · rw [if_neg e, if_neg e, zI_n (by decide), hz 472 (by omega)]; exact (q21.2 k (by have : k < g.1 + 1 := hk; omega)).2
    · rw [if_neg c] at hs
      refine ⟨-2, M, M, hs, ?_, hI⟩
      show zR X (d + 10) 229 (0, [.ref 460, .int x, .int w, zjk, zjk], [], M) = _
      rw [r229 (d := d + 7) (k := g.1) q2 c0 l15 g10, l15, if_neg c]
