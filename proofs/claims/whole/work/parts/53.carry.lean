/-! ===== rows carried away and back ===== -/
theorem r238s {X : (Nat → Int32) × Nat} {d c p : Nat} {M : zM} (hG : zGE M) (hc : zqk c 20 = true) (h0 : M.1 460 65 = 0) (hp : M.1 460 64 = Int32.ofNat p) (hL : p + zln c ≤ 2750) (h1 : c ≠ 460) (h2 : c ≠ 502) : ∃ M', zC X d 238 [.ref 460, .ref c] M = some (none, M') ∧ M'.2 = M.2 ∧ (∀ a, a ≠ 460 → a ≠ 502 → M'.1 a = M.1 a) ∧ (∀ k, k ≠ 64 → M'.1 460 k = M.1 460 k) ∧ M'.1 460 64 = Int32.ofNat (p + zln c) ∧ ∀ k, M'.1 502 k = if p ≤ k ∧ k < p + zln c then M.1 c (k - p) else M.1 502 k := by
  show ∃ M', zR X d 238 (0, [.ref 460, .ref c, zjk], [], M) = some (none, M') ∧ _
  have loop : ∀ m i M1, i + m = zln c → M1.2 = M.2 → (∀ a, a ≠ 460 → a ≠ 502 → M1.1 a = M.1 a) → (∀ k, k ≠ 64 → M1.1 460 k = M.1 460 k) → M1.1 460 64 = Int32.ofNat (p + i) → (∀ k, M1.1 502 k = if p ≤ k ∧ k < p + i then M.1 c (k - p) else M.1 502 k) → ∃ M', zR X d 238 (2, [.ref 460, .ref c, .int (Int32.ofNat i)], [], M1) = some (none, M') ∧ M'.2 = M.2 ∧ (∀ a, a ≠ 460 → a ≠ 502 → M'.1 a = M.1 a) ∧ (∀ k, k ≠ 64 → M'.1 460 k = M.1 460 k) ∧ M'.1 460 64 = Int32.ofNat (p + zln c) ∧ ∀ k, M'.1 502 k = if p ≤ k ∧ k < p + zln c then M.1 c (k - p) else M.1 502 k := by
    intro m
    induction m with
    | zero =>
      intro i M1 hi a1 a2 a3 a4 a5
      have hG1 : zGE M1 := zGE_of hG (by rw [a1])
      have hz := zis_q hG1 hc
      have e : i = zln c := by omega
      subst e
      have hle : Int32.ofNat (zln c) ≤ Int32.ofNat (zln c) := Int32.le_refl _
      rw [t238_2 _ _ _ hG1 hz.1 (by rw [hz.2]; omega) (by rw [hz.2]; omega) (fun h => absurd hle h) (fun h => absurd hle h) (fun h => absurd hle h) (fun h => absurd hle h) (fun h => absurd hle h) (fun h => absurd hle h), if_pos hle]
      exact ⟨M1, rfl, a1, a2, a3, a4, a5⟩
    | succ m ih =>
      intro i M1 hi a1 a2 a3 a4 a5
      have hG1 : zGE M1 := zGE_of hG (by rw [a1])
      have hz := zis_q hG1 hc
      have h65 : M1.1 460 65 = 0 := by rw [a3 65 (by omega)]; exact h0
      have hcx : M1.1 c = M.1 c := a2 c h1 h2
      rw [t238_2 _ _ _ hG1 hz.1 (by rw [hz.2]; omega) (by rw [hz.2]; omega) (fun _ _ => hz) (fun _ _ => vp_of (by omega) (by omega)) (fun _ _ => by rw [a4]; exact vp_of (by omega) (by omega)) (fun _ h => absurd h65 h) (fun _ h => absurd h65 h) (fun _ h => absurd h65 h), if_neg (by rw [of_le (by omega) (by omega)]; omega), if_pos h65, of_succ, a4, of_succ, toNat_of (by omega), toNat_of (by omega)]
      refine ih (i + 1) _ (by omega) a1 (fun a q1 q2 => ?_) (fun k hk => ?_) ?_ (fun k => ?_)
      · rw [zI_n1 q1, zI_n1 q2]; exact a2 a q1 q2
      · rw [zI_s, if_neg hk, zI_n (by decide)]; exact a3 k hk
      · rw [zI_s, if_pos rfl]
        rfl
      · rw [zI_n (by decide), zI_s, hcx, a5]
        by_cases e : k = p + i
        · rw [if_pos e, if_pos (by omega), e, Nat.add_sub_cancel_left]
        · rw [if_neg e]
          by_cases e2 : p ≤ k ∧ k < p + i
          · rw [if_pos e2, if_pos (by omega)]
          · rw [if_neg e2, if_neg (by omega)]
  rw [t238_0 _ _ _ hG]
  exact loop (zln c) 0 M (by omega) rfl (fun _ _ _ => rfl) (fun _ _ => rfl) hp (fun k => by rw [if_neg (by omega)])
theorem r238l {X : (Nat → Int32) × Nat} {d c p : Nat} {M : zM} (hG : zGE M) (hc : zqk c 20 = true) (h0 : ¬ M.1 460 65 = 0) (hp : M.1 460 64 = Int32.ofNat p) (hL : p + zln c ≤ 2750) (h1 : c ≠ 460) (h2 : c ≠ 502) : ∃ M', zC X d 238 [.ref 460, .ref c] M = some (none, M') ∧ M'.2 = M.2 ∧ (∀ a, a ≠ 460 → a ≠ c → M'.1 a = M.1 a) ∧ (∀ k, k ≠ 64 → M'.1 460 k = M.1 460 k) ∧ M'.1 460 64 = Int32.ofNat (p + zln c) ∧ ∀ k, M'.1 c k = if k < zln c then M.1 502 (p + k) else M.1 c k := by
  show ∃ M', zR X d 238 (0, [.ref 460, .ref c, zjk], [], M) = some (none, M') ∧ _
  have loop : ∀ m i M1, i + m = zln c → M1.2 = M.2 → (∀ a, a ≠ 460 → a ≠ c → M1.1 a = M.1 a) → (∀ k, k ≠ 64 → M1.1 460 k = M.1 460 k) → M1.1 460 64 = Int32.ofNat (p + i) → (∀ k, M1.1 c k = if k < i then M.1 502 (p + k) else M.1 c k) → ∃ M', zR X d 238 (2, [.ref 460, .ref c, .int (Int32.ofNat i)], [], M1) = some (none, M') ∧ M'.2 = M.2 ∧ (∀ a, a ≠ 460 → a ≠ c → M'.1 a = M.1 a) ∧ (∀ k, k ≠ 64 → M'.1 460 k = M.1 460 k) ∧ M'.1 460 64 = Int32.ofNat (p + zln c) ∧ ∀ k, M'.1 c k = if k < zln c then M.1 502 (p + k) else M.1 c k := by
    intro m
    induction m with
    | zero =>
      intro i M1 hi a1 a2 a3 a4 a5
      have hG1 : zGE M1 := zGE_of hG (by rw [a1])
      have hz := zis_q hG1 hc
      have e : i = zln c := by omega
      subst e
      have hle : Int32.ofNat (zln c) ≤ Int32.ofNat (zln c) := Int32.le_refl _
      rw [t238_2 _ _ _ hG1 hz.1 (by rw [hz.2]; omega) (by rw [hz.2]; omega) (fun h => absurd hle h) (fun h => absurd hle h) (fun h => absurd hle h) (fun h => absurd hle h) (fun h => absurd hle h) (fun h => absurd hle h), if_pos hle]
      exact ⟨M1, rfl, a1, a2, a3, a4, a5⟩
    | succ m ih =>
      intro i M1 hi a1 a2 a3 a4 a5
      have hG1 : zGE M1 := zGE_of hG (by rw [a1])
      have hz := zis_q hG1 hc
      have h65 : ¬ M1.1 460 65 = 0 := by rw [a3 65 (by omega)]; exact h0
      have hcx : M1.1 502 = M.1 502 := a2 502 (by decide) (fun h => h2 h.symm)
      have n1 : ¬ 460 = c := fun h => h1 h.symm
      rw [t238_2 _ _ _ hG1 hz.1 (by rw [hz.2]; omega) (by rw [hz.2]; omega) (fun _ h => absurd h h65) (fun _ h => absurd h h65) (fun _ h => absurd h h65) (fun _ _ => by rw [a4]; exact vp_of (by omega) (by omega)) (fun _ _ => hz) (fun _ _ => vp_of (by omega) (by omega)), if_neg (by rw [of_le (by omega) (by omega)]; omega), if_neg h65, of_succ, zI_n n1, a4, of_succ, toNat_of (by omega), toNat_of (by omega), hcx]
      refine ih (i + 1) _ (by omega) a1 (fun a q1 q2 => ?_) (fun k hk => ?_) ?_ (fun k => ?_)
      · rw [zI_n1 q1, zI_n1 q2]; exact a2 a q1 q2
      · rw [zI_s, if_neg hk, zI_n n1]; exact a3 k hk
      · rw [zI_s, if_pos rfl]
        rfl
      · rw [zI_n h1, zI_s, a5]
        by_cases e : k = i
        · rw [if_pos e, if_pos (by omega), e]
        · rw [if_neg e]
          by_cases e2 : k < i
          · rw [if_pos e2, if_pos (by omega)]
          · rw [if_neg e2, if_neg (by omega)]
  rw [t238_0 _ _ _ hG]
  exact loop (zln c) 0 M (by omega) rfl (fun _ _ _ => rfl) (fun _ _ => rfl) hp (fun k => by rw [if_neg (by omega)])
/-- M holds what K had, to be laid back -/
def kp (K M : zM) : Prop := (∀ k, k < 18 → M.1 502 (2200 + k) = K.1 461 k) ∧ ∀ k, k < 4 → M.1 502 (2218 + k) = K.1 462 k
theorem r211 {X : (Nat → Int32) × Nat} {d : Nat} {M : zM} (hG : zGE M) : ∃ M', zC X (d + 2) 211 [.ref 460] M = some (none, M') ∧ zwk M M' ∧ M'.1 461 = M.1 461 ∧ M'.1 462 = M.1 462 ∧ M'.1 496 = M.1 496 ∧ kp M M' := by
  show ∃ M', zR X (d + 2) 211 (0, [.ref 460], [], M) = some (none, M') ∧ _
  have e0 : zC X (d + 1) 239 [.ref 460, .int 4, .int 0] M = zR X (d + 1) 239 (0, [.ref 460, .int 4, .int 0], [], M) := rfl
  have l1 : zln 461 = 18 := zl_461
  have l2 : zln 462 = 4 := zl_462
  have hGa : zGE (zsI (zsI M 460 64 (550 * 4)) 460 65 0) := hG
  obtain ⟨M1, q1, q2, q3, q4, q5, q6⟩ := r238s (X := X) (d := d) (c := 461) (p := 2200) (M := zsI (zsI M 460 64 (550 * 4)) 460 65 0) hGa zq_461 (by rw [zI_s, if_pos rfl]) (by rw [zI_s, if_neg (by decide), zI_s, if_pos rfl]; rfl) (by rw [l1]; omega) (by decide) (by decide)
  rw [l1] at q5 q6
  have hG1 : zGE M1 := zGE_of hG (by rw [q2]; rfl)
  obtain ⟨M2, w1, w2, w3, w4, w5, w6⟩ := r238s (X := X) (d := d) (c := 462) (p := 2218) (M := M1) hG1 zq_462 (by rw [q4 65 (by decide), zI_s, if_pos rfl]) q5 (by rw [l2]; omega) (by decide) (by decide)
  rw [l2] at w5 w6
  have hG2 : zGE M2 := zGE_of hG1 (by rw [w2])
  have a61 : M1.1 461 = M.1 461 := q3 461 (by decide) (by decide)
  have a62 : M1.1 462 = M.1 462 := q3 462 (by decide) (by decide)
  have all : ∀ a, a ≠ 460 → a ≠ 502 → M2.1 a = M.1 a := fun a h1 h2 => by
    rw [w3 a h1 h2, q3 a h1 h2, zI_n1 h1, zI_n1 h1]
  refine ⟨M2, ?_, ⟨by rw [w2, q2]; rfl, fun a h1 h2 h3 => ⟨all a (by omega) (by omega), by rw [w2, q2]; rfl⟩, fun k h1 h2 h3 => ?_, fun k h1 h2 h3 => by rw [all 461 (by decide) (by decide)], fun k hk => ?_⟩, all 461 (by decide) (by decide), all 462 (by decide) (by decide), all 496 (by decide) (by decide), fun k hk => ?_, fun k hk => ?_⟩
  · rw [t211_0 _ hG, e0, t239_0 _ _ _ hG (Or.inl rfl), q1, Option.bind_some]
    dsimp only [zps]
    rw [t239_22 _ _ _ hG1, w1, Option.bind_some]
    dsimp only [zps]
    rw [t239_30 _ _ _ hG2, if_neg (by decide), Option.bind_some]
    dsimp only [zps]
    rw [t211_6 _ hG2]
  · rw [w4 k (by omega), q4 k (by omega), zI_s, if_neg (by omega), zI_s, if_neg (by omega)]
  · rw [w6, if_neg (by omega), q6, if_neg (by omega), zI_n (by decide), zI_n (by decide)]
  · rw [w6, if_neg (by omega), q6, if_pos (by omega), Nat.add_sub_cancel_left, zI_n (by decide), zI_n (by decide)]
  · rw [w6, if_pos (by omega), Nat.add_sub_cancel_left, a62]
theorem r212 {X : (Nat → Int32) × Nat} {d : Nat} {K M : zM} (hG : zGE M) (hf : zwk K M) (hk : kp K M) : ∃ M', zC X (d + 2) 212 [.ref 460] M = some (none, M') ∧ zwk K M' ∧ (∀ k, k < 18 → M'.1 461 k = K.1 461 k) ∧ (∀ k, k < 4 → M'.1 462 k = K.1 462 k) ∧ M'.1 496 = M.1 496 ∧ kp K M' := by
  show ∃ M', zR X (d + 2) 212 (0, [.ref 460], [], M) = some (none, M') ∧ _
  have e0 : zC X (d + 1) 239 [.ref 460, .int 4, .int 1] M = zR X (d + 1) 239 (0, [.ref 460, .int 4, .int 1], [], M) := rfl
  have l1 : zln 461 = 18 := zl_461
  have l2 : zln 462 = 4 := zl_462
  have hGa : zGE (zsI (zsI M 460 64 (550 * 4)) 460 65 1) := hG
  obtain ⟨M1, q1, q2, q3, q4, q5, q6⟩ := r238l (X := X) (d := d) (c := 461) (p := 2200) (M := zsI (zsI M 460 64 (550 * 4)) 460 65 1) hGa zq_461 (by rw [zI_s, if_pos rfl]; decide) (by rw [zI_s, if_neg (by decide), zI_s, if_pos rfl]; rfl) (by rw [l1]; omega) (by decide) (by decide)
  rw [l1] at q5 q6
  have hG1 : zGE M1 := zGE_of hG (by rw [q2]; rfl)
  obtain ⟨M2, w1, w2, w3, w4, w5, w6⟩ := r238l (X := X) (d := d) (c := 462) (p := 2218) (M := M1) hG1 zq_462 (by rw [q4 65 (by decide), zI_s, if_pos rfl]; decide) q5 (by rw [l2]; omega) (by decide) (by decide)
  rw [l2] at w5 w6
  have hG2 : zGE M2 := zGE_of hG1 (by rw [w2])
  have a02 : M1.1 502 = M.1 502 := (q3 502 (by decide) (by decide)).trans (by rw [zI_n1 (by decide), zI_n1 (by decide)])
  have a61 : M2.1 461 = M1.1 461 := w3 461 (by decide) (by decide)
  have all : ∀ a, a ≠ 460 → a ≠ 461 → a ≠ 462 → M2.1 a = M.1 a := fun a h1 h2 h3 => by
    rw [w3 a h1 h3, q3 a h1 h2, zI_n1 h1, zI_n1 h1]
  have h61 : ∀ k, M2.1 461 k = if k < 18 then K.1 461 k else M.1 461 k := fun k => by
    rw [a61, q6, zI_n (by decide), zI_n (by decide), zI_n (by decide), zI_n (by decide)]
    by_cases c : k < 18
    · rw [if_pos c, if_pos c]; exact hk.1 k c
    · rw [if_neg c, if_neg c]
  refine ⟨M2, ?_, ⟨by rw [w2, q2]; exact hf.1, fun a h1 h2 h3 => ⟨(all a (by omega) (by omega) (by omega)).trans (hf.2.1 a h1 h2 h3).1, by rw [w2, q2]; exact (hf.2.1 a h1 h2 h3).2⟩, fun k h1 h2 h3 => ?_, fun k h1 h2 h3 => ?_, fun k hk => ?_⟩, fun k hk => by rw [h61, if_pos hk], fun k hk2 => ?_, all 496 (by decide) (by decide) (by decide), fun k hk2 => ?_, fun k hk2 => ?_⟩
  · rw [t212_0 _ hG, e0, t239_0 _ _ _ hG (Or.inr rfl), q1, Option.bind_some]
    dsimp only [zps]
    rw [t239_22 _ _ _ hG1, w1, Option.bind_some]
    dsimp only [zps]
    rw [t239_30 _ _ _ hG2, if_neg (by decide), Option.bind_some]
    dsimp only [zps]
    rw [t212_6 _ hG2]
  · rw [w4 k (by omega), q4 k (by omega), zI_s, if_neg (by omega), zI_s, if_neg (by omega)]
    exact hf.2.2.1 k h1 h2 h3
  · rw [h61]
    by_cases c : k < 18
    · rw [if_pos c]
    · rw [if_neg c]; exact hf.2.2.2.1 k h1 h2 h3
  · rw [all 502 (by decide) (by decide) (by decide)]
    exact hf.2.2.2.2 k hk
  · rw [w6, if_pos hk2, a02]
    exact hk.2 k hk2
  · rw [all 502 (by decide) (by decide) (by decide)]
    exact hk.1 k hk2
  · rw [all 502 (by decide) (by decide) (by decide)]
    exact hk.2 k hk2
theorem kp_st {n : Nat} {K M : zM} (hn : n ≤ 4) (h1 : ∀ k, k < 18 → M.1 461 k = K.1 461 k) (h2 : ∀ k, k < 4 → M.1 462 k = K.1 462 k) : stR n M = stR n K := by
  have hp : ∀ i, i < 10 → prm i < 18 := by decide
  funext j
  unfold stR
  by_cases c : j < 10
  · rw [if_pos c, if_pos c, h1 _ (hp j c)]
  · rw [if_neg c, if_neg c]
    by_cases c2 : j < 10 + n
    · rw [if_pos c2, if_pos c2, h2 _ (by omega)]
    · rw [if_neg c2, if_neg c2]
/-- what is kept stays while it is tried out -/
theorem kp_w {K M M' : zM} (hk : kp K M) (h : M'.1 502 = M.1 502) : kp K M' := by
  unfold kp
  rw [h]
  exact hk
