/-! ===== acts kept by the reference ===== -/
theorem r201 {X : (Nat → Int32) × Nat} {d q : Nat} {x : Int32} {M : zM} (hG : zGE M) (hq : q < 280) (h : M.1 460 56 = Int32.ofNat q) : zC X d 201 [.ref 460, .int x] M = some (some (.int (if M.1 460 57 = 0 then x else M.1 497 q)), zsI (zsI M 497 q (if M.1 460 57 = 0 then x else M.1 497 q)) 460 56 (Int32.ofNat (q + 1))) := by
  show zR X d 201 (0, [.ref 460, .int x, zjk], [], M) = _
  rw [t201_0 _ _ _ hG (fun _ => by rw [h]; exact vp_of hq (by omega)) (fun _ => by rw [h]; exact vp_of hq (by omega)), h, toNat_of (by omega), of_succ]
  by_cases c : M.1 460 57 = 0
  · rw [if_pos c, if_pos c]
  · rw [if_neg c, if_neg c]
def slv (M : zM) (s : Nat) : Int32 := if s = 0 then M.1 461 0 else if s < 10 then M.1 461 (s + 5) else M.1 462 (s - 10)
/-- s slots of act i are kept -/
def svI (i s : Nat) (M M1 : zM) : Prop := M1.2 = M.2 ∧ (∀ c, c ≠ 460 → c ≠ 461 → c ≠ 462 → c ≠ 497 → M1.1 c = M.1 c) ∧ (∀ k, M1.1 461 k = M.1 461 k) ∧ (∀ k, M1.1 462 k = M.1 462 k) ∧ (∀ k, k ≠ 56 → k ≠ 57 → M1.1 460 k = M.1 460 k) ∧ M1.1 460 56 = Int32.ofNat (14 * i + s) ∧ M1.1 460 57 = 0 ∧ ∀ j, M1.1 497 j = if 14 * i ≤ j ∧ j < 14 * i + s then slv M (j - 14 * i) else M.1 497 j
theorem sv_step {i s c k : Nat} {M M1 : zM} (h : svI i s M M1) (hc : c = 461 ∨ c = 462) (hv : M.1 c k = slv M s) : svI i (s + 1) M (zsI (zsI (zsI M1 497 (14 * i + s) (slv M s)) 460 56 (Int32.ofNat (14 * i + s + 1))) c k (slv M s)) := by
  obtain ⟨h1, h2, h3, h4, h5, h6, h7, h8⟩ := h
  refine ⟨by rw [z2_I, z2_I, z2_I]; exact h1, fun b q1 q2 q3 q4 => by rw [zI_n1 (by omega), zI_n1 q1, zI_n1 q4]; exact h2 b q1 q2 q3 q4, fun j => ?_, fun j => ?_, fun j q1 q2 => ?_, ?_, ?_, fun j => ?_⟩
  · rcases hc with rfl | rfl
    · rw [zI_s]
      by_cases e : j = k
      · rw [if_pos e, e]; exact hv.symm
      · rw [if_neg e, zI_n (by decide), zI_n (by decide)]; exact h3 j
    · rw [zI_n (by decide), zI_n (by decide), zI_n (by decide)]; exact h3 j
  · rcases hc with rfl | rfl
    · rw [zI_n (by decide), zI_n (by decide), zI_n (by decide)]; exact h4 j
    · rw [zI_s]
      by_cases e : j = k
      · rw [if_pos e, e]; exact hv.symm
      · rw [if_neg e, zI_n (by decide), zI_n (by decide)]; exact h4 j
  · rw [zI_n (by omega), zI_s, if_neg q1, zI_n (by decide)]; exact h5 j q1 q2
  · rw [zI_n (by omega), zI_s, if_pos rfl]; rfl
  · rw [zI_n (by omega), zI_s, if_neg (by decide), zI_n (by decide)]; exact h7
  · rw [zI_n (by omega), zI_n (by decide), zI_s, h8]
    by_cases e : j = 14 * i + s
    · rw [if_pos e, if_pos (by omega), e, Nat.add_sub_cancel_left]
    · rw [if_neg e]
      by_cases e2 : 14 * i ≤ j ∧ j < 14 * i + s
      · rw [if_pos e2, if_pos (by omega)]
      · rw [if_neg e2, if_neg (by omega)]
theorem r202s {X : (Nat → Int32) × Nat} {d i : Nat} {M : zM} (hG : zGE M) (hi : i < 20) : ∃ M', zC X (d + 1) 202 [.ref 460, .int (Int32.ofNat i), .int 0] M = some (none, M') ∧ svI i 14 M M' := by
  show ∃ M', zR X (d + 1) 202 (0, [.ref 460, .int (Int32.ofNat i), .int 0, zjk], [], M) = some (none, M') ∧ _
  have gG : ∀ {s : Nat} {M1 : zM}, svI i s M M1 → zGE M1 := fun h => zGE_of hG (by rw [h.1])
  have purses : ∀ m b M1, b + m = 4 → svI i (10 + b) M M1 → ∃ M', zR X (d + 1) 202 (62, [.ref 460, .int (Int32.ofNat i), .int 0, .int (Int32.ofNat b)], [], M1) = some (none, M') ∧ svI i 14 M M' := by
    intro m
    induction m with
    | zero =>
      intro b M1 hb h
      have hle : (4 : Int32) ≤ Int32.ofNat b := by rw [show (4 : Int32) = Int32.ofNat 4 from rfl, of_le (by omega) (by omega)]; omega
      rw [t202_62 _ _ _ _ (gG h) (fun h => absurd hle h), if_pos hle]
      rw [show 10 + b = 14 by omega] at h
      exact ⟨M1, rfl, h⟩
    | succ m ih =>
      intro b M1 hb h
      have hnle : ¬ (4 : Int32) ≤ Int32.ofNat b := by rw [show (4 : Int32) = Int32.ofNat 4 from rfl, of_le (by omega) (by omega)]; omega
      have bb : (Int32.ofNat b).toNatClampNeg = b := toNat_of (by omega)
      have hv : M.1 462 b = slv M (10 + b) := by unfold slv; rw [if_neg (by omega), if_neg (by omega), Nat.add_sub_cancel_left]
      have h6 : M1.1 460 56 = Int32.ofNat (14 * i + (10 + b)) := h.2.2.2.2.2.1
      rw [t202_62 _ _ _ _ (gG h) (fun _ => vp_of (by omega) (by omega)), if_neg hnle, bb, h.2.2.2.1 b, r201 (q := 14 * i + (10 + b)) (gG h) (by omega) h6, if_pos h.2.2.2.2.2.2.1, Option.bind_some]
      dsimp only [zps]
      have hGa : zGE (zsI (zsI M1 497 (14 * i + (10 + b)) (M.1 462 b)) 460 56 (Int32.ofNat (14 * i + (10 + b) + 1))) := (gG h : zGE M1)
      rw [t202_82 _ _ _ _ _ _ _ hGa (zis_q hGa zq_462) (by rw [zl_462]; exact vp_of (by omega) (by omega)), bb, of_succ]
      have h9 := sv_step (c := 462) (k := b) h (Or.inr rfl) hv
      rw [← hv] at h9
      exact ih (b + 1) _ (by omega) h9
  have scal : ∀ m s M1, s + m = 9 → svI i (1 + s) M M1 → ∃ M', zR X (d + 1) 202 (32, [.ref 460, .int (Int32.ofNat i), .int 0, .int (Int32.ofNat (6 + s))], [], M1) = some (none, M') ∧ svI i 14 M M' := by
    intro m
    induction m with
    | zero =>
      intro s M1 hs h
      have hlt : (14 : Int32) < Int32.ofNat (6 + s) := by rw [show (14 : Int32) = Int32.ofNat 14 from rfl, of_lt (by omega) (by omega)]; omega
      rw [t202_32 _ _ _ _ (gG h) (fun h => absurd hlt h), if_pos hlt]
      exact purses 4 0 M1 (by omega) (by rw [show 10 + 0 = 1 + s by omega]; exact h)
    | succ m ih =>
      intro s M1 hs h
      have hnlt : ¬ (14 : Int32) < Int32.ofNat (6 + s) := by rw [show (14 : Int32) = Int32.ofNat 14 from rfl, of_lt (by omega) (by omega)]; omega
      have ss : (Int32.ofNat (6 + s)).toNatClampNeg = 6 + s := toNat_of (by omega)
      have hv : M.1 461 (6 + s) = slv M (1 + s) := by unfold slv; rw [if_neg (by omega), if_pos (by omega), show 1 + s + 5 = 6 + s by omega]
      have h6 : M1.1 460 56 = Int32.ofNat (14 * i + (1 + s)) := h.2.2.2.2.2.1
      rw [t202_32 _ _ _ _ (gG h) (fun _ => vp_of (by omega) (by omega)), if_neg hnlt, ss, h.2.2.1 (6 + s), r201 (q := 14 * i + (1 + s)) (gG h) (by omega) h6, if_pos h.2.2.2.2.2.2.1, Option.bind_some]
      dsimp only [zps]
      have hGa : zGE (zsI (zsI M1 497 (14 * i + (1 + s)) (M.1 461 (6 + s))) 460 56 (Int32.ofNat (14 * i + (1 + s) + 1))) := (gG h : zGE M1)
      rw [t202_53 _ _ _ _ _ _ _ hGa (zis_q hGa zq_461) (by rw [zl_461]; exact vp_of (by omega) (by omega)), ss, of_succ]
      have h9 := sv_step (c := 461) (k := 6 + s) h (Or.inl rfl) hv
      rw [← hv] at h9
      exact ih (s + 1) _ (by omega) h9
  have h0 : svI i 0 M (zsI (zsI M 460 56 (Int32.ofNat (14 * i))) 460 57 0) := by
    refine ⟨by rw [z2_I, z2_I], fun c q1 _ _ _ => by rw [zI_n1 q1, zI_n1 q1], fun k => by rw [zI_n (by decide), zI_n (by decide)], fun k => by rw [zI_n (by decide), zI_n (by decide)], fun k q1 q2 => by rw [zI_s, if_neg q2, zI_s, if_neg q1], by rw [zI_s, if_neg (by decide), zI_s, if_pos rfl]; rfl, by rw [zI_s, if_pos rfl], fun j => ?_⟩
    rw [zI_n (by decide), zI_n (by decide), if_neg (by omega)]
  have e14 : 14 * Int32.ofNat i = Int32.ofNat (14 * i) := by rw [show (14 : Int32) = Int32.ofNat 14 from rfl, of_mul]
  have hv : M.1 461 0 = slv M 0 := rfl
  have h6 : (zsI (zsI M 460 56 (Int32.ofNat (14 * i))) 460 57 0).1 460 56 = Int32.ofNat (14 * i + 0) := h0.2.2.2.2.2.1
  rw [t202_0 _ _ _ _ hG (Or.inl rfl), e14, r201 (q := 14 * i + 0) (gG h0) (by omega) h6, if_pos h0.2.2.2.2.2.2.1, Option.bind_some]
  dsimp only [zps]
  have hGa : zGE (zsI (zsI (zsI (zsI M 460 56 (Int32.ofNat (14 * i))) 460 57 0) 497 (14 * i + 0) (M.1 461 0)) 460 56 (Int32.ofNat (14 * i + 0 + 1))) := (hG : zGE M)
  rw [t202_28 _ _ _ _ _ _ _ hGa (zis_q hGa zq_461) (by rw [zl_461]; exact vp_of (k := 0) (by omega) (by omega))]
  have h9 := sv_step (c := 461) (k := 0) h0 (Or.inl rfl) hv
  exact scal 9 0 _ (by omega) h9
/-- what keeping an act may change in the reference -/
def fk (M M' : zM) : Prop := M'.2 = M.2 ∧ (∀ c, c ≠ 460 → c ≠ 497 → M'.1 c = M.1 c) ∧ ∀ k, k ≠ 55 → k ≠ 56 → k ≠ 57 → M'.1 460 k = M.1 460 k
theorem sv_past {n i : Nat} {M M' : zM} (h : svI i 14 M M') (hn : n ≤ 4) : pastR n M' i = stR n M ∧ ∀ j, j ≠ i → pastR n M' j = pastR n M j := by
  have hp : ∀ k, k < 10 → (pmo k = 0 ∧ prm k = 0) ∨ (pmo k ≠ 0 ∧ pmo k < 10 ∧ pmo k + 5 = prm k) := by decide
  have h8 := h.2.2.2.2.2.2.2
  constructor
  · funext k
    unfold pastR stR
    by_cases c : k < 10
    · rw [if_pos c, if_pos c, h8]
      rcases hp k c with ⟨u1, u2⟩ | ⟨u1, u2, u3⟩
      · rw [u1, u2, if_pos (by omega), Nat.add_zero, Nat.sub_self]
        rfl
      · rw [if_pos (by omega), Nat.add_sub_cancel_left]
        unfold slv
        rw [if_neg u1, if_pos u2, u3]
    · rw [if_neg c, if_neg c]
      by_cases c2 : k < 10 + n
      · rw [if_pos c2, if_pos c2, h8, if_pos (by omega), Nat.add_sub_cancel_left]
        unfold slv
        rw [if_neg (by omega), if_neg c]
      · rw [if_neg c2, if_neg c2]
  · intro j hj
    funext k
    unfold pastR
    by_cases c : k < 10
    · have := pmo_lt k c
      rw [if_pos c, if_pos c, h8, if_neg (by omega)]
    · rw [if_neg c, if_neg c]
      by_cases c2 : k < 10 + n
      · rw [if_pos c2, if_pos c2, h8, if_neg (by omega)]
      · rw [if_neg c2, if_neg c2]
theorem r203 {X : (Nat → Int32) × Nat} {d n p : Nat} {M : zM} (hG : zGE M) (hn : n ≤ 4) (hp : p ≤ 20) (h5 : M.1 460 55 = Int32.ofNat p) : ∃ M', zC X (d + 2) 203 [.ref 460] M = some (none, M') ∧ fk M M' ∧ M'.1 460 55 = Int32.ofNat (pRemN p) ∧ ∀ j, j < pRemN p → pastR n M' j = pRem p (fun j => pastR n M j) (stR n M) j := by
  show ∃ M', zR X (d + 2) 203 (0, [.ref 460, zjk], [], M) = some (none, M') ∧ _
  have of_sv : ∀ (q : Nat) (M0 M1 : zM), svI q 14 M0 M1 → M0.1 460 55 = Int32.ofNat q → (zsI M1 460 55 (M1.1 460 55 + 1)).1 460 55 = Int32.ofNat (q + 1) ∧ fk M0 (zsI M1 460 55 (M1.1 460 55 + 1)) ∧ ∀ j, pastR n (zsI M1 460 55 (M1.1 460 55 + 1)) j = pastR n M1 j := by
    intro q M0 M1 h h0
    refine ⟨by rw [zI_s, if_pos rfl, h.2.2.2.2.1 55 (by decide) (by decide), h0, of_succ], ⟨by rw [z2_I]; exact h.1, fun c q1 q2 => ?_, fun k q1 q2 q3 => by rw [zI_s, if_neg q1]; exact h.2.2.2.2.1 k q2 q3⟩, fun j => rfl⟩
    rw [zI_n1 q1]
    by_cases e1 : c = 461
    · subst e1; funext k; exact h.2.2.1 k
    · by_cases e2 : c = 462
      · subst e2; funext k; exact h.2.2.2.1 k
      · exact h.2.1 c q1 e1 e2 q2
  by_cases c : p < 20
  · obtain ⟨M1, q1, q2⟩ := r202s (X := X) (d := d) (i := p) hG c
    have hG1 : zGE M1 := zGE_of hG (by rw [q2.1])
    obtain ⟨u1, u2, u3⟩ := of_sv p M M1 q2 h5
    obtain ⟨w1, w2⟩ := sv_past (n := n) q2 hn
    rw [t203_0 _ _ hG, if_pos (by rw [h5, show (20 : Int32) = Int32.ofNat 20 from rfl, of_inj (by omega) (by omega)]; omega), h5, q1, Option.bind_some]
    dsimp only [zps]
    rw [t203_59 _ _ hG1]
    refine ⟨_, rfl, u2, ?_, fun j hj => ?_⟩
    · unfold pRemN
      rw [if_pos c]
      exact u1
    · have hpr : pRem p (fun j => pastR n M j) (stR n M) j = if j = p then stR n M else pastR n M j := if_pos c
      rw [hpr, u3]
      by_cases e : j = p
      · rw [if_pos e, e, w1]
      · rw [if_neg e, w2 j e]
  · have hp20 : p = 20 := by omega
    subst hp20
    rw [t203_0 _ _ hG, if_neg (not_not_intro (by rw [h5]; rfl))]
    have loop : ∀ m k M1, k + m = 280 → 14 ≤ k → M1.2 = M.2 → (∀ c, c ≠ 497 → M1.1 c = M.1 c) → (∀ j, M1.1 497 j = if j + 14 < k then M.1 497 (j + 14) else M.1 497 j) → ∃ M', zR X (d + 2) 203 (12, [.ref 460, .int (Int32.ofNat k)], [], M1) = some (none, M') ∧ fk M M' ∧ M'.1 460 55 = Int32.ofNat (pRemN 20) ∧ ∀ j, j < pRemN 20 → pastR n M' j = pRem 20 (fun j => pastR n M j) (stR n M) j := by
      intro m
      induction m with
      | zero =>
        intro k M1 hk h14 e1 e2 e3
        have hk280 : k = 280 := by omega
        subst hk280
        have hG1 : zGE M1 := zGE_of hG (by rw [e1])
        have hle : (280 : Int32) ≤ Int32.ofNat 280 := by decide
        have e55 : M1.1 460 55 - 1 = Int32.ofNat 19 := by rw [e2 460 (by decide), h5]; rfl
        have hG2 : zGE (zsI M1 460 55 (Int32.ofNat 19)) := hG1
        obtain ⟨M2, q1, q2⟩ := r202s (X := X) (d := d) (i := 19) hG2 (by omega)
        have hG3 : zGE M2 := zGE_of hG2 (by rw [q2.1])
        obtain ⟨u1, u2, u3⟩ := of_sv 19 _ M2 q2 (by rw [zI_s, if_pos rfl])
        obtain ⟨w1, w2⟩ := sv_past (n := n) q2 hn
        rw [t203_12 _ _ hG1 (fun h => absurd hle h) (fun h => absurd hle h), if_pos hle, e55, q1, Option.bind_some]
        dsimp only [zps]
        rw [t203_59 _ _ hG3]
        refine ⟨_, rfl, ⟨by rw [u2.1, z2_I]; exact e1, fun c q1 q2 => by rw [u2.2.1 c q1 q2, zI_n1 q1]; exact e2 c q2, fun k q1 q2 q3 => by rw [u2.2.2 k q1 q2 q3, zI_s, if_neg q1, e2 460 (by decide)]⟩, u1, fun j hj => ?_⟩
        have hj : j < 20 := hj
        have hpr : pRem 20 (fun j => pastR n M j) (stR n M) j = if j = 19 then stR n M else pastR n M (j + 1) := if_neg (by omega)
        rw [hpr, u3]
        by_cases e : j = 19
        · rw [if_pos e, e, w1]
          unfold stR
          rw [zI_n1 (by decide), zI_n1 (by decide), e2 461 (by decide), e2 462 (by decide)]
        · rw [if_neg e, w2 j e]
          funext s
          unfold pastR
          by_cases c : s < 10
          · have := pmo_lt s c
            rw [if_pos c, if_pos c, zI_n (by decide), e3, if_pos (by omega), show 14 * j + pmo s + 14 = 14 * (j + 1) + pmo s by omega]
          · rw [if_neg c, if_neg c]
            by_cases c2 : s < 10 + n
            · rw [if_pos c2, if_pos c2, zI_n (by decide), e3, if_pos (by omega), show 14 * j + s + 14 = 14 * (j + 1) + s by omega]
            · rw [if_neg c2, if_neg c2]
      | succ m ih =>
        intro k M1 hk h14 e1 e2 e3
        have hG1 : zGE M1 := zGE_of hG (by rw [e1])
        have hnle : ¬ (280 : Int32) ≤ Int32.ofNat k := by rw [show (280 : Int32) = Int32.ofNat 280 from rfl, of_le (by omega) (by omega)]; omega
        have k14 : Int32.ofNat k - 14 = Int32.ofNat (k - 14) := by rw [show (14 : Int32) = Int32.ofNat 14 from rfl, of_sub h14]
        rw [t203_12 _ _ hG1 (fun _ => vp_of (by omega) (by omega)) (fun _ => by rw [k14]; exact vp_of (by omega) (by omega)), if_neg hnle, k14, toNat_of (by omega), toNat_of (by omega), of_succ]
        refine ih (k + 1) _ (by omega) (by omega) (by rw [z2_I]; exact e1) (fun c hc => by rw [zI_n1 hc]; exact e2 c hc) (fun j => ?_)
        rw [zI_s, e3, e3]
        by_cases e : j = k - 14
        · rw [if_pos e, if_neg (by omega), if_pos (by omega), show j + 14 = k by omega]
        · rw [if_neg e]
          by_cases e4 : j + 14 < k
          · rw [if_pos e4, if_pos (by omega)]
          · rw [if_neg e4, if_neg (by omega)]
    exact loop 266 14 M (by omega) (by omega) rfl (fun _ _ => rfl) (fun j => by rw [if_neg (by omega)])
