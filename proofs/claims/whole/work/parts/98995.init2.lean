/-! ===== the memory that the constructors leave ===== -/
def ini (f : List (Nat × Nat × Int32) → List (Nat × Nat × Nat) → Bool) : Option ((Option Value × zD) ⊕ zDc) → Bool
  | some (.inr (pc, [.retAddr a, .ref b, _, _], [.ref r], (I, R, s))) => (Nat.beq pc 15 && (Nat.beq a 70 && (Nat.beq b 0 && (Nat.beq r 460 && Nat.beq s 505)))) && f I R
  | _ => false
/-- what is asked of single places -/
def zTw : List (Nat × Nat × Int32) := [(39, 2, -1), (39, 3, 0), (39, 5, 0), (39, 8, 0), (67, 0, 0), (67, 1, 100), (67, 2, 0), (67, 3, -1), (67, 4, 0), (67, 5, -1), (67, 6, 0), (67, 7, 0), (67, 8, 0), (67, 9, 0), (460, 25, 0), (460, 26, 0), (460, 30, 0), (460, 35, 11), (460, 55, 0), (461, 0, 0), (461, 1, 0), (461, 2, 0), (461, 3, 0), (461, 4, 0), (461, 5, 0), (461, 6, 0), (461, 7, -1), (461, 8, -1), (461, 9, 0), (461, 10, 0), (461, 11, 100), (461, 12, 0), (461, 13, 0), (461, 14, 0), (461, 15, 0), (461, 16, 0), (461, 17, -1)]
/-- cells that may be written with numbers -/
def zwr (a : Nat) : Bool := (Nat.beq (zsh a).1 9 || Nat.beq (zsh a).1 6) || (Nat.beq a 460 || Nat.beq a 461)
def inf (I : List (Nat × Nat × Int32)) (R : List (Nat × Nat × Nat)) : Bool :=
  (I.all (fun q => zwr q.1) && zTw.all (fun q => decide (lkI I q.1 q.2.1 = q.2.2))) &&
  ((List.range 505).all (fun a => (List.range (zgrL.getD a []).length).all fun k => Nat.ble 1000000 (zgr a k) || Nat.beq (lkR R a k) (zgr a k)) &&
  (List.range 505).all (fun r => (! zqk r 6) || (List.range 20).all fun i => Nat.beq (lkR R (r + 30) i) (r + 33 + 2 * i)))
theorem ini_t : ini inf (zev 3000 800 0 15 (0, zloc (zml 0) [.retAddr 70], [], ([], [], 0))) = true := by decide +kernel
theorem ini_x {f : List (Nat × Nat × Int32) → List (Nat × Nat × Nat) → Bool} {r : Option ((Option Value × zD) ⊕ zDc)} (h : ini f r = true) : ∃ v1 v2 I R, r = some (.inr (15, [.retAddr 70, .ref 0, v1, v2], [.ref 460], (I, R, 505))) ∧ f I R = true := by
  unfold ini at h
  split at h
  · rw [Bool.and_eq_true, Bool.and_eq_true, Bool.and_eq_true, Bool.and_eq_true, Bool.and_eq_true] at h
    obtain ⟨⟨h1, h2, h3, h4, h5⟩, h6⟩ := h
    rw [Nat.eq_of_beq_eq_true h1, Nat.eq_of_beq_eq_true h2, Nat.eq_of_beq_eq_true h3, Nat.eq_of_beq_eq_true h4, Nat.eq_of_beq_eq_true h5]
    exact ⟨_, _, _, _, rfl, h6⟩
  · cases h
theorem lkI_z {a k : Nat} (ha : zwr a = false) : ∀ {l : List (Nat × Nat × Int32)}, (∀ q ∈ l, zwr q.1 = true) → lkI l a k = 0
  | [], _ => rfl
  | q :: l, h => by
    have h1 := h q (List.mem_cons_self ..)
    show (bif Nat.beq a q.1 && Nat.beq k q.2.1 then q.2.2 else lkI l a k) = 0
    rw [zbqf (show ¬ a = q.1 by rintro rfl; rw [ha] at h1; cases h1), Bool.false_and]
    exact lkI_z ha (fun q hq => h q (List.mem_cons_of_mem _ hq))
def zIm (M : zM) : Prop := zGE M ∧ (∀ a, zwr a = false → ∀ k, M.1 a k = 0) ∧ ∀ q ∈ zTw, M.1 q.1 q.2.1 = q.2.2
theorem zgrL_n : zgrL.length = 505 := by decide +kernel
theorem ini_m {I : List (Nat × Nat × Int32)} {R : List (Nat × Nat × Nat)} (h : inf I R = true) : zIm (mD (I, R, 505)) := by
  unfold inf at h
  rw [Bool.and_eq_true, Bool.and_eq_true, Bool.and_eq_true] at h
  obtain ⟨⟨h1, h2⟩, h3, h4⟩ := h
  refine ⟨⟨rfl, fun a k hk => ?_, fun r hr => ?_⟩, fun a ha k => lkI_z ha (List.all_eq_true.mp h1), fun q hq => of_decide_eq_true (List.all_eq_true.mp h2 q hq)⟩
  · have ha : a < 505 := by
      rw [← zgrL_n]
      by_cases c : a < zgrL.length
      · exact c
      · unfold zgr at hk
        rw [List.getD_eq_getElem?_getD, List.getD_eq_getElem?_getD, List.getElem?_eq_none (show zgrL.length ≤ a by omega)] at hk
        exact absurd hk (show ¬ (1000000 < 1000000) by omega)
    have hk2 : k < (zgrL.getD a []).length := by
      by_cases c : k < (zgrL.getD a []).length
      · exact c
      · unfold zgr at hk
        rw [List.getD_eq_getElem?_getD, List.getElem?_eq_none (show (zgrL.getD a []).length ≤ k by omega)] at hk
        exact absurd hk (show ¬ (1000000 < 1000000) by omega)
    have h5 := List.all_eq_true.mp (List.all_eq_true.mp h3 a (List.mem_range.mpr ha)) k (List.mem_range.mpr hk2)
    rw [Bool.or_eq_true] at h5
    rcases h5 with h5 | h5
    · exact absurd (Nat.le_of_ble_eq_true h5) (by omega)
    · exact Nat.eq_of_beq_eq_true h5
  · have h5 := List.all_eq_true.mp h4 r (List.mem_range.mpr (zqk_lt hr))
    rw [hr] at h5
    have key : ∀ i, i < 20 → (mD (I, R, 505)).2.2.1 (r + 30) i = r + 33 + 2 * i := fun i hi => Nat.eq_of_beq_eq_true (List.all_eq_true.mp h5 i (List.mem_range.mpr hi))
    refine ⟨fun i hi => ⟨i, hi, key i hi⟩, fun i j hi hj e => ?_⟩
    rw [key i hi, key j hj] at e
    omega
theorem okD_0 : okD ([], [], 0) := ⟨fun q hq => (List.not_mem_nil hq).elim, fun q hq => (List.not_mem_nil hq).elim⟩
/-- the law, up to its loop -/
theorem ini_r (X : (Nat → Int32) × Nat) : ∃ M, zIm M ∧ zR X 800 0 (0, zloc (zml 0) [.retAddr 70], [], ((fun _ _ => 0, fun _ _ => 0, fun _ _ => zNul, 0) : zM)) = zR X 800 0 (18, [.retAddr 70, .ref 0, .ref 460, .int 0], [], M) := by
  obtain ⟨v1, v2, I, R, h1, h2⟩ := ini_x ini_t
  refine ⟨mD (I, R, 505), ini_m h2, ?_⟩
  have h3 := zev_ok X _ _ _ _ _ _ h1 okD_0
  exact (h3.1).trans (b0_15 70 0 v1 v2 460 _)
theorem zIm_0 {M : zM} (h : zIm M) {a : Nat} (ha : zwr a = false) (k : Nat) : M.1 a k = 0 := h.2.1 a ha k
theorem zwr_of {a : Nat} (h1 : ¬ (zsh a).1 = 9) (h2 : ¬ (zsh a).1 = 6) (h3 : a ≠ 460) (h4 : a ≠ 461) : zwr a = false := by
  unfold zwr
  rw [zbqf h1, zbqf h2, zbqf h3, zbqf h4]
  rfl
theorem zwr_t : ([0, 1, 2, 41, 52, 53, 54, 113, 462, 463, 464, 465, 466, 467, 468, 469, 470, 473, 474, 493, 503].all fun a => ! zwr a) = true := by decide +kernel
theorem zwr_l {a : Nat} (h : a ∈ [0, 1, 2, 41, 52, 53, 54, 113, 462, 463, 464, 465, 466, 467, 468, 469, 470, 473, 474, 493, 503]) : zwr a = false := by
  have := List.all_eq_true.mp zwr_t a h
  rw [Bool.not_eq_true'] at this
  exact this
theorem zwr_e : ∀ r, r < 24 → zwr (43 + r) = false := by decide +kernel
theorem ini_emR {M : zM} (h : zIm M) : emR M = fun _ _ => 0 := by
  have t := h.2.2
  have c25 : M.1 460 25 = 0 := t (460, 25, 0) (by decide)
  have c1 : M.1 461 1 = 0 := t (461, 1, 0) (by decide)
  have c2 : M.1 461 2 = 0 := t (461, 2, 0) (by decide)
  have c3 : M.1 461 3 = 0 := t (461, 3, 0) (by decide)
  have c4 : M.1 461 4 = 0 := t (461, 4, 0) (by decide)
  have c5 : M.1 461 5 = 0 := t (461, 5, 0) (by decide)
  have hct : ∀ r, rct M r = 0 := fun r => by
    unfold rct
    rw [c25, c2, c3, c4]
    split
    · rfl
    · split
      · rfl
      · split <;> rfl
  funext r j
  unfold emR
  rw [hct, c25, c1, c2, c3, c4, c5, if_neg (Nat.not_lt_zero j), zIm_0 h (zwr_l (by decide)), show zcp 0 = 0 by decide]
  split
  · split
    · rfl
    · split
      · rfl
      · split
        · rfl
        · split
          · rfl
          · split <;> rfl
  · split
    · split <;> rfl
    · split
      · split <;> rfl
      · split
        · split
          · rw [if_pos rfl]
          · rfl
        · rfl
theorem ini_emD {M : zM} (h : zIm M) : emD 40 M = fun _ _ => 0 := by
  have z41 : ∀ k, M.1 (40 + 1) k = 0 := fun k => zIm_0 h (zwr_l (by decide)) k
  funext r j
  unfold emD
  rw [z41, z41, z41]
  split
  · split <;> rfl
  · split
    · split
      · rfl
      · rw [if_neg (show ¬ j < (0 : Int32).toNatClampNeg from Nat.not_lt_zero j)]
    · split
      · split
        · rename_i c1 c2 c3 c4
          have := zIm_0 h (zwr_e r (by omega)) j
          rw [show 40 + 3 + r = 43 + r by omega]
          exact this
        · rfl
      · split
        · split
          · rw [if_pos rfl]
          · rfl
        · rfl
theorem ini_st {M : zM} (h : zIm M) : stD 0 67 M = stR 0 M := by
  have t := h.2.2
  have k : ∀ k, k < 10 → M.1 67 k = M.1 461 (prm k) := by
    intro k hk
    rcases (show k = 0 ∨ k = 1 ∨ k = 2 ∨ k = 3 ∨ k = 4 ∨ k = 5 ∨ k = 6 ∨ k = 7 ∨ k = 8 ∨ k = 9 by omega) with rfl | rfl | rfl | rfl | rfl | rfl | rfl | rfl | rfl | rfl
    · exact (t (67, 0, 0) (by decide)).trans (t (461, 0, 0) (by decide)).symm
    · exact (t (67, 1, 100) (by decide)).trans (t (461, 11, 100) (by decide)).symm
    · exact (t (67, 2, 0) (by decide)).trans (t (461, 6, 0) (by decide)).symm
    · exact (t (67, 3, -1) (by decide)).trans (t (461, 7, -1) (by decide)).symm
    · exact (t (67, 4, 0) (by decide)).trans (t (461, 10, 0) (by decide)).symm
    · exact (t (67, 5, -1) (by decide)).trans (t (461, 8, -1) (by decide)).symm
    · exact (t (67, 6, 0) (by decide)).trans (t (461, 9, 0) (by decide)).symm
    · exact (t (67, 7, 0) (by decide)).trans (t (461, 12, 0) (by decide)).symm
    · exact (t (67, 8, 0) (by decide)).trans (t (461, 13, 0) (by decide)).symm
    · exact (t (67, 9, 0) (by decide)).trans (t (461, 14, 0) (by decide)).symm
  funext j
  unfold stD stR
  by_cases c : j < 10
  · rw [if_pos c, if_pos c, k j c]
  · rw [if_neg c, if_neg c, if_neg (by omega), if_neg (by omega)]
theorem ini_INV {M : zM} (h : zIm M) : INV M := by
  have t := h.2.2
  have eR := ini_emR h
  have eD := ini_emD h
  have hE : okE (fun _ _ => (0 : Int32)) := ⟨⟨0, by omega, rfl⟩, ⟨0, by omega, rfl⟩, ⟨0, by omega, rfl⟩, ⟨0, by omega, rfl⟩, ⟨0, by omega, rfl⟩, fun g hg => absurd hg (Nat.not_lt_zero g), fun _ _ _ _ => ⟨0, by omega, rfl⟩⟩
  refine ⟨h.1, ⟨⟨0, by omega, zIm_0 h (zwr_l (by decide)) 1, t (460, 26, 0) (by decide), fun k hk => absurd hk (Nat.not_lt_zero k)⟩, t (460, 35, 11) (by decide)⟩, (0, fun _ => []), ⟨by show 0 ≤ 6; omega, fun i hi => absurd hi (Nat.not_lt_zero i)⟩, ⟨zIm_0 h (zwr_l (by decide)) 4, fun i hi => absurd hi (Nat.not_lt_zero i)⟩, ⟨t (460, 30, 0) (by decide), fun i hi => absurd hi (Nat.not_lt_zero i)⟩, ⟨⟨?_, ?_, ?_, ?_, ?_, ?_, ?_⟩, ⟨?_, ?_⟩, ?_, ?_, ?_, ?_, ?_⟩, fun k hk => ?_⟩
  · exact eD.trans eR.symm
  · rw [eR]; exact hE
  · exact fun c hc => Or.inl ⟨0, by omega, zIm_0 h (zwr_l (by decide)) c⟩
  · rw [eR]
    exact ⟨fun g hg => absurd hg (Nat.not_lt_zero g), fun g hg => absurd hg (Nat.not_lt_zero g), fun g hg => absurd hg (Nat.not_lt_zero g)⟩
  · have e0 : M.1 (40 - 0 + 1) 3 = 0 := zIm_0 h (zwr_l (by decide)) 3
    have e1 : M.1 (39 + 1 + 1) 3 = 0 := e0
    unfold okRd
    rw [e1]
    exact ⟨Nat.zero_le _, fun i hi => absurd hi (Nat.not_lt_zero i)⟩
  · rw [eR]
    exact fun e => absurd e (by decide)
  · rw [eR]
    exact fun _ => rfl
  · show stD (nD (emR M)) 67 M = stR (nD (emR M)) M
    rw [eR]
    exact ini_st h
  · show okA (emR M) (stR (nD (emR M)) M)
    rw [eR]
    exact ⟨Or.inl (t (461, 7, -1) (by decide)), ⟨0, by omega, t (461, 6, 0) (by decide)⟩, 10, by omega, by omega, t (461, 11, 100) (by decide)⟩
  · exact ⟨0, Nat.le_refl _, t (39, 2, -1) (by decide), t (461, 17, -1) (by decide)⟩
  · exact ⟨0, by omega, t (39, 3, 0) (by decide), t (461, 16, 0) (by decide)⟩
  · exact (zIm_0 h (show zwr (39 + 5) = false by decide +kernel) 0).trans (t (461, 1, 0) (by decide)).symm
  · exact ⟨(0, fun _ => 0, fun _ => 0), ⟨Nat.zero_le _, fun k hk => absurd hk (Nat.not_lt_zero k)⟩, ⟨t (39, 8, 0) (by decide), fun k hk => absurd hk (Nat.not_lt_zero k)⟩, t (461, 15, 0) (by decide), fun k hk => absurd hk (Nat.not_lt_zero k)⟩
  · exact ⟨0, by omega, t (39, 5, 0) (by decide), t (460, 55, 0) (by decide), fun j hj => absurd hj (Nat.not_lt_zero j)⟩
  · have e1 := zIm_0 h (zwr_l (a := 113) (by decide)) k
    have e2 := zIm_0 h (zwr_l (a := 503) (by decide)) k
    exact ⟨e1.trans e2.symm, Or.inl e2⟩
