/-! ===== images, in the reference ===== -/
theorem car_q : ∀ c, car c → zqk c 20 = true ∧ offR c + zln c ≤ 490 ∧ 461 ≤ c ∧ c ≤ 497 ∧ c ≠ 498 := by
  intro c hc
  have h : ∀ c, c < 500 → carb c = true → zqk c 20 = true ∧ offR c + zln c ≤ 490 := by decide +kernel
  have := h c (by unfold car at hc; omega) (carb_iff.mpr hc)
  unfold car at hc
  exact ⟨this.1, this.2, by omega, by omega, by omega⟩
def car2b (c e : Nat) : Bool := ! carb c || (! carb e || (! Nat.ble (offR e + zln e) (offR c + zln c) || (Nat.beq e c || Nat.ble (offR e + zln e) (offR c))))
theorem car_2 : ∀ c e, car c → car e → (offR e + zln e ≤ offR c + zln c → e = c ∨ offR e + zln e ≤ offR c) := by
  intro c e hc he
  have h : ∀ c, c < 37 → ∀ e, e < 37 → car2b (461 + c) (461 + e) = true := by decide +kernel
  obtain ⟨-, -, c1, c2, -⟩ := car_q c hc
  obtain ⟨-, -, e1, e2, -⟩ := car_q e he
  obtain ⟨c', rfl⟩ : ∃ c', c = 461 + c' := ⟨c - 461, by omega⟩
  obtain ⟨e', rfl⟩ : ∃ e', e = 461 + e' := ⟨e - 461, by omega⟩
  intro q
  have hh := h c' (by omega) e' (by omega)
  unfold car2b at hh
  rw [carb_iff.mpr hc, carb_iff.mpr he, Nat.ble_eq_true_of_le q, Bool.not_true, Bool.false_or, Bool.false_or, Bool.false_or, Bool.or_eq_true, Nat.beq_eq, Nat.ble_eq] at hh
  exact hh
theorem car_23 : ∀ e, car e → offR e + zln e ≤ 23 → offR e + zln e ≤ 22 := by
  intro e he
  have h : ∀ c, c < 500 → carb c = true → offR c + zln c ≤ 23 → offR c + zln c ≤ 22 := by decide +kernel
  exact h e (by unfold car at he; omega) (carb_iff.mpr he)
/-- p values of an image at base have been written -/
def svc (base p : Nat) (M M1 : zM) : Prop := M1.2 = M.2 ∧ (∀ a, a ≠ 460 → a ≠ 498 → a ≠ 502 → M1.1 a = M.1 a) ∧ (∀ k, k ≠ 64 → k ≠ 65 → M1.1 460 k = M.1 460 k) ∧ M1.1 460 64 = Int32.ofNat (base + p) ∧ M1.1 460 65 = 0 ∧ (∀ c, car c → offR c + zln c ≤ p → ∀ j, j < zln c → M1.1 502 (base + offR c + j) = M.1 c j) ∧ (23 ≤ p → M1.1 502 (base + 22) = M.1 460 55) ∧ ∀ j, j < base ∨ base + 490 ≤ j → M1.1 502 j = M.1 502 j
theorem svc_s {X : (Nat → Int32) × Nat} {d c base p : Nat} {M M1 : zM} (hG : zGE M) (h : svc base p M M1) (hc : car c) (ho : offR c = p) (hb : base ≤ 1650) (h22 : p ≠ 22) (h22b : p < 22 → p + zln c ≤ 22) : ∃ M2, zC X d 238 [.ref 460, .ref c] M1 = some (none, M2) ∧ svc base (p + zln c) M M2 := by
  obtain ⟨a1, a2, a3, a4, a5, a6, a7, a8⟩ := h
  obtain ⟨q1, q2, q3, q4, q5⟩ := car_q c hc
  obtain ⟨M2, w1, w2, w3, w4, w5, w6⟩ := r238s (X := X) (d := d) (c := c) (p := base + p) (M := M1) (zGE_of hG (by rw [a1])) q1 a5 a4 (by omega) (by omega) (by omega)
  have ec : M1.1 c = M.1 c := a2 c (by omega) (by omega) (by omega)
  refine ⟨M2, w1, by rw [w2, a1], fun a u1 u2 u3 => by rw [w3 a u1 u3]; exact a2 a u1 u2 u3, fun k u1 u2 => by rw [w4 k u1]; exact a3 k u1 u2, by rw [w5, Nat.add_assoc], by rw [w4 65 (by decide)]; exact a5, fun e he hl j hj => ?_, fun h => ?_, fun j hj => ?_⟩
  · rw [w6]
    rcases car_2 c e hc he (by omega) with h | h
    · subst h
      rw [if_pos (by omega), show base + offR e + j - (base + p) = j by omega, ec]
    · rw [if_neg (by omega)]
      exact a6 e he (by omega) j hj
  · rw [w6, if_neg (by omega)]
    exact a7 (by omega)
  · rw [w6, if_neg (by omega)]
    exact a8 j hj
/-- p values of the image at base have been laid back -/
def ldc (base p : Nat) (M M1 : zM) : Prop := M1.2 = M.2 ∧ (∀ a, a ≠ 460 → a ≠ 498 → ¬ car a → M1.1 a = M.1 a) ∧ (∀ k, k ≠ 55 → k ≠ 64 → k ≠ 65 → M1.1 460 k = M.1 460 k) ∧ M1.1 460 64 = Int32.ofNat (base + p) ∧ M1.1 460 65 = 1 ∧ (∀ c, car c → offR c + zln c ≤ p → ∀ j, j < zln c → M1.1 c j = M.1 502 (base + offR c + j)) ∧ (23 ≤ p → M1.1 460 55 = M.1 502 (base + 22))
theorem ldc_s {X : (Nat → Int32) × Nat} {d c base p : Nat} {M M1 : zM} (hG : zGE M) (h : ldc base p M M1) (hc : car c) (ho : offR c = p) (hb : base ≤ 1650) (h22 : p ≠ 22) (h22b : p < 22 → p + zln c ≤ 22) : ∃ M2, zC X d 238 [.ref 460, .ref c] M1 = some (none, M2) ∧ ldc base (p + zln c) M M2 := by
  obtain ⟨a1, a2, a3, a4, a5, a6, a7⟩ := h
  obtain ⟨q1, q2, q3, q4, q5⟩ := car_q c hc
  obtain ⟨M2, w1, w2, w3, w4, w5, w6⟩ := r238l (X := X) (d := d) (c := c) (p := base + p) (M := M1) (zGE_of hG (by rw [a1])) q1 (by rw [a5]; decide) a4 (by omega) (by omega) (by omega)
  have n02 : ¬ car 502 := by unfold car; omega
  have e02 : M1.1 502 = M.1 502 := a2 502 (by omega) (by omega) n02
  refine ⟨M2, w1, by rw [w2, a1], fun a u1 u2 u3 => by rw [w3 a u1 (fun e => u3 (e ▸ hc))]; exact a2 a u1 u2 u3, fun k u0 u1 u2 => by rw [w4 k u1]; exact a3 k u0 u1 u2, by rw [w5, Nat.add_assoc], by rw [w4 65 (by decide)]; exact a5, fun e he hl j hj => ?_, fun h => ?_⟩
  · by_cases ec : e = c
    · subst ec
      rw [w6, if_pos hj, e02, ho]
    · rcases car_2 c e hc he (by omega) with h | h
      · exact absurd h ec
      · obtain ⟨-, -, e1, -⟩ := car_q e he
        rw [w3 e (by omega) ec]
        exact a6 e he (by omega) j hj
  · rw [w4 55 (by decide)]
    exact a7 (by omega)
theorem r239s {X : (Nat → Int32) × Nat} {d k : Nat} {M : zM} (hG : zGE M) (hk : k < 4) : ∃ M', zC X (d + 1) 239 [.ref 460, .int (Int32.ofNat k), .int 0] M = some (none, M') ∧ svc (550 * k) 490 M M' := by
  show ∃ M', zR X (d + 1) 239 (0, [.ref 460, .int (Int32.ofNat k), .int 0], [], M) = some (none, M') ∧ _
  have e55 : (550 : Int32) * Int32.ofNat k = Int32.ofNat (550 * k) := by rw [show (550 : Int32) = Int32.ofNat 550 from rfl, of_mul]
  have gG : ∀ {p N}, svc (550 * k) p M N → zGE N := fun h => zGE_of hG (by rw [h.1])
  have n4 : ¬ Int32.ofNat k = 4 := by rw [show (4 : Int32) = Int32.ofNat 4 from rfl, of_inj (by omega) (by omega)]; omega
  have neg : ∀ c, car c → ¬ offR c + zln c ≤ 0 := by
    intro c hc
    have h : ∀ c, c < 500 → carb c = true → ¬ offR c + zln c ≤ 0 := by decide +kernel
    exact h c (by unfold car at hc; omega) (carb_iff.mpr hc)
  have h0 : svc (550 * k) 0 M (zsI (zsI M 460 64 (550 * Int32.ofNat k)) 460 65 0) := ⟨rfl, fun a q1 _ _ => by rw [zI_n1 q1, zI_n1 q1], fun j q1 q2 => by rw [zI_s, if_neg q2, zI_s, if_neg q1], by rw [zI_s, if_neg (by decide), zI_s, if_pos rfl]; exact e55, by rw [zI_s, if_pos rfl], fun c hc h => absurd h (neg c hc), fun h => absurd h (by omega), fun j _ => by rw [zI_n (by decide), zI_n (by decide)]⟩
  obtain ⟨N1, u1, h1⟩ := svc_s (X := X) (d := d) (c := 461) hG h0 (carb_iff.mp rfl) rfl (by omega) (by omega) (fun _ => by rw [zl_461]; omega)
  rw [zl_461] at h1
  have h1 : svc (550 * k) 18 M N1 := h1
  obtain ⟨N2, u2, h2⟩ := svc_s (X := X) (d := d) (c := 462) hG h1 (carb_iff.mp rfl) rfl (by omega) (by omega) (fun _ => by rw [zl_462]; omega)
  rw [zl_462] at h2
  have h2 : svc (550 * k) 22 M N2 := h2
  have hGa : zGE (zsI N2 498 0 (N2.1 460 55)) := (gG h2 : zGE N2)
  obtain ⟨N3a, u3, v2, v3, v4, v5, v6⟩ := r238s (X := X) (d := d) (c := 498) (p := 550 * k + 22) (M := (zsI N2 498 0 (N2.1 460 55))) hGa zq_498 (by rw [zI_n (by decide)]; exact h2.2.2.2.2.1) (by rw [zI_n (by decide)]; exact h2.2.2.2.1) (by rw [zl_498]; omega) (by decide) (by decide)
  rw [zl_498] at v5 v6
  have e98 : N3a.1 498 0 = M.1 460 55 := by rw [v3 498 (by decide) (by decide), zI_s, if_pos rfl]; exact h2.2.2.1 55 (by decide) (by decide)
  have h3 : svc (550 * k) 23 M (zsI N3a 460 55 (N3a.1 498 0)) := by
    obtain ⟨a1, a2, a3, a4, a5, a6, a7, a8⟩ := h2
    refine ⟨by rw [z2_I, v2]; exact a1, fun a q1 q2 q3 => by rw [zI_n1 q1, v3 a q1 q3, zI_n1 q2]; exact a2 a q1 q2 q3, fun j q1 q2 => ?_, by rw [zI_s, if_neg (by decide), v5], by rw [zI_s, if_neg (by decide), v4 65 (by decide), zI_n (by decide)]; exact a5, fun c hc hl j hj => ?_, fun _ => ?_, fun j hj => ?_⟩
    · rw [zI_s]
      by_cases e : j = 55
      · rw [if_pos e, e98, e]
      · rw [if_neg e, v4 j q1, zI_n (by decide)]; exact a3 j q1 q2
    · have h22 := car_23 c hc hl
      rw [zI_n (by decide), v6, if_neg (by omega), zI_n (by decide)]
      exact a6 c hc h22 j hj
    · rw [zI_n (by decide), v6, if_pos (by omega), Nat.sub_self, zI_s, if_pos rfl]
      exact a3 55 (by decide) (by decide)
    · rw [zI_n (by decide), v6, if_neg (by omega), zI_n (by decide)]
      exact a8 j hj
  have hG3a : zGE N3a := (gG h3 : zGE (zsI N3a 460 55 (N3a.1 498 0)))
  obtain ⟨N4, u4, h4⟩ := svc_s (X := X) (d := d) (c := 463) hG h3 (carb_iff.mp rfl) rfl (by omega) (by omega) (fun h => absurd h (by omega))
  rw [zl_463] at h4
  have h4 : svc (550 * k) 29 M N4 := h4
  obtain ⟨N5, u5, h5⟩ := svc_s (X := X) (d := d) (c := 464) hG h4 (carb_iff.mp rfl) rfl (by omega) (by omega) (fun h => absurd h (by omega))
  rw [zl_464] at h5
  have h5 : svc (550 * k) 35 M N5 := h5
  obtain ⟨N6, u6, h6⟩ := svc_s (X := X) (d := d) (c := 465) hG h5 (carb_iff.mp rfl) rfl (by omega) (by omega) (fun h => absurd h (by omega))
  rw [zl_465] at h6
  have h6 : svc (550 * k) 41 M N6 := h6
  obtain ⟨N7, u7, h7⟩ := svc_s (X := X) (d := d) (c := 466) hG h6 (carb_iff.mp rfl) rfl (by omega) (by omega) (fun h => absurd h (by omega))
  rw [zl_466] at h7
  have h7 : svc (550 * k) 45 M N7 := h7
  obtain ⟨N8, u8, h8⟩ := svc_s (X := X) (d := d) (c := 467) hG h7 (carb_iff.mp rfl) rfl (by omega) (by omega) (fun h => absurd h (by omega))
  rw [zl_467] at h8
  have h8 : svc (550 * k) 49 M N8 := h8
  obtain ⟨N9, u9, h9⟩ := svc_s (X := X) (d := d) (c := 468) hG h8 (carb_iff.mp rfl) rfl (by omega) (by omega) (fun h => absurd h (by omega))
  rw [zl_468] at h9
  have h9 : svc (550 * k) 53 M N9 := h9
  obtain ⟨N10, u10, h10⟩ := svc_s (X := X) (d := d) (c := 469) hG h9 (carb_iff.mp rfl) rfl (by omega) (by omega) (fun h => absurd h (by omega))
  rw [zl_469] at h10
  have h10 : svc (550 * k) 57 M N10 := h10
  obtain ⟨N11, u11, h11⟩ := svc_s (X := X) (d := d) (c := 493) hG h10 (carb_iff.mp rfl) rfl (by omega) (by omega) (fun h => absurd h (by omega))
  rw [zl_493] at h11
  have h11 : svc (550 * k) 121 M N11 := h11
  obtain ⟨N12, u12, h12⟩ := svc_s (X := X) (d := d) (c := 470) hG h11 (carb_iff.mp rfl) rfl (by omega) (by omega) (fun h => absurd h (by omega))
  rw [zl_470] at h12
  have h12 : svc (550 * k) 185 M N12 := h12
  obtain ⟨N13, u13, h13⟩ := svc_s (X := X) (d := d) (c := 471) hG h12 (carb_iff.mp rfl) rfl (by omega) (by omega) (fun h => absurd h (by omega))
  rw [zl_471] at h13
  have h13 : svc (550 * k) 195 M N13 := h13
  obtain ⟨N14, u14, h14⟩ := svc_s (X := X) (d := d) (c := 472) hG h13 (carb_iff.mp rfl) rfl (by omega) (by omega) (fun h => absurd h (by omega))
  rw [zl_472] at h14
  have h14 : svc (550 * k) 205 M N14 := h14
  obtain ⟨N15, u15, h15⟩ := svc_s (X := X) (d := d) (c := 473) hG h14 (carb_iff.mp rfl) rfl (by omega) (by omega) (fun h => absurd h (by omega))
  rw [zl_473] at h15
  have h15 : svc (550 * k) 209 M N15 := h15
  obtain ⟨N16, u16, h16⟩ := svc_s (X := X) (d := d) (c := 474) hG h15 (carb_iff.mp rfl) rfl (by omega) (by omega) (fun h => absurd h (by omega))
  rw [zl_474] at h16
  have h16 : svc (550 * k) 210 M N16 := h16
  obtain ⟨N17, u17, h17⟩ := svc_s (X := X) (d := d) (c := 497) hG h16 (carb_iff.mp rfl) rfl (by omega) (by omega) (fun h => absurd h (by omega))
  rw [zl_497] at h17
  have h17 : svc (550 * k) 490 M N17 := h17
  refine ⟨N17, ?_, h17⟩
  rw [t239_0 _ _ _ hG (Or.inl rfl), u1, Option.bind_some]
  dsimp only [zps]
  rw [t239_22 _ _ _ (gG h1), u2, Option.bind_some]
  dsimp only [zps]
  rw [t239_30 _ _ _ (gG h2), if_pos n4, u3, Option.bind_some]
  dsimp only [zps]
  rw [t239_54 _ _ _ hG3a, u4, Option.bind_some]
  dsimp only [zps]
  rw [t239_72 _ _ _ (gG h4), u5, Option.bind_some]
  dsimp only [zps]
  rw [t239_80 _ _ _ (gG h5), u6, Option.bind_some]
  dsimp only [zps]
  rw [t239_88 _ _ _ (gG h6), u7, Option.bind_some]
  dsimp only [zps]
  rw [t239_96 _ _ _ (gG h7), u8, Option.bind_some]
  dsimp only [zps]
  rw [t239_104 _ _ _ (gG h8), u9, Option.bind_some]
  dsimp only [zps]
  rw [t239_112 _ _ _ (gG h9), u10, Option.bind_some]
  dsimp only [zps]
  rw [t239_120 _ _ _ (gG h10), u11, Option.bind_some]
  dsimp only [zps]
  rw [t239_128 _ _ _ (gG h11), u12, Option.bind_some]
  dsimp only [zps]
  rw [t239_136 _ _ _ (gG h12), u13, Option.bind_some]
  dsimp only [zps]
  rw [t239_144 _ _ _ (gG h13), u14, Option.bind_some]
  dsimp only [zps]
  rw [t239_152 _ _ _ (gG h14), u15, Option.bind_some]
  dsimp only [zps]
  rw [t239_160 _ _ _ (gG h15), u16, Option.bind_some]
  dsimp only [zps]
  rw [t239_168 _ _ _ (gG h16), u17, Option.bind_some]
  dsimp only [zps]
  rw [t239_176 _ _ _ (gG h17)]
theorem r239l {X : (Nat → Int32) × Nat} {d k : Nat} {M : zM} (hG : zGE M) (hk : k < 4) : ∃ M', zC X (d + 1) 239 [.ref 460, .int (Int32.ofNat k), .int 1] M = some (none, M') ∧ ldc (550 * k) 490 M M' := by
  show ∃ M', zR X (d + 1) 239 (0, [.ref 460, .int (Int32.ofNat k), .int 1], [], M) = some (none, M') ∧ _
  have e55 : (550 : Int32) * Int32.ofNat k = Int32.ofNat (550 * k) := by rw [show (550 : Int32) = Int32.ofNat 550 from rfl, of_mul]
  have gG : ∀ {p N}, ldc (550 * k) p M N → zGE N := fun h => zGE_of hG (by rw [h.1])
  have n4 : ¬ Int32.ofNat k = 4 := by rw [show (4 : Int32) = Int32.ofNat 4 from rfl, of_inj (by omega) (by omega)]; omega
  have neg : ∀ c, car c → ¬ offR c + zln c ≤ 0 := by
    intro c hc
    have h : ∀ c, c < 500 → carb c = true → ¬ offR c + zln c ≤ 0 := by decide +kernel
    exact h c (by unfold car at hc; omega) (carb_iff.mpr hc)
  have h0 : ldc (550 * k) 0 M (zsI (zsI M 460 64 (550 * Int32.ofNat k)) 460 65 1) := ⟨rfl, fun a q1 _ _ => by rw [zI_n1 q1, zI_n1 q1], fun j _ q1 q2 => by rw [zI_s, if_neg q2, zI_s, if_neg q1], by rw [zI_s, if_neg (by decide), zI_s, if_pos rfl]; exact e55, by rw [zI_s, if_pos rfl], fun c hc h => absurd h (neg c hc), fun h => absurd h (by omega)⟩
  obtain ⟨N1, u1, h1⟩ := ldc_s (X := X) (d := d) (c := 461) hG h0 (carb_iff.mp rfl) rfl (by omega) (by omega) (fun _ => by rw [zl_461]; omega)
  rw [zl_461] at h1
  have h1 : ldc (550 * k) 18 M N1 := h1
  obtain ⟨N2, u2, h2⟩ := ldc_s (X := X) (d := d) (c := 462) hG h1 (carb_iff.mp rfl) rfl (by omega) (by omega) (fun _ => by rw [zl_462]; omega)
  rw [zl_462] at h2
  have h2 : ldc (550 * k) 22 M N2 := h2
  have hGa : zGE (zsI N2 498 0 (N2.1 460 55)) := (gG h2 : zGE N2)
  obtain ⟨N3a, u3, v2, v3, v4, v5, v6⟩ := r238l (X := X) (d := d) (c := 498) (p := 550 * k + 22) (M := (zsI N2 498 0 (N2.1 460 55))) hGa zq_498 (by rw [zI_n (by decide), h2.2.2.2.2.1]; decide) (by rw [zI_n (by decide)]; exact h2.2.2.2.1) (by rw [zl_498]; omega) (by decide) (by decide)
  rw [zl_498] at v5 v6
  have e98 : N3a.1 498 0 = M.1 502 (550 * k + 22) := by
    rw [v6, if_pos (by decide), zI_n (by decide), Nat.add_zero]
    have n02 : ¬ car 502 := by unfold car; omega
    rw [h2.2.1 502 (by decide) (by decide) n02]
  have h3 : ldc (550 * k) 23 M (zsI N3a 460 55 (N3a.1 498 0)) := by
    obtain ⟨a1, a2, a3, a4, a5, a6, a7⟩ := h2
    refine ⟨by rw [z2_I, v2]; exact a1, fun a q1 q2 q3 => by rw [zI_n1 q1, v3 a q1 q2, zI_n1 q2]; exact a2 a q1 q2 q3, fun j q0 q1 q2 => by rw [zI_s, if_neg q0, v4 j q1, zI_n (by decide)]; exact a3 j q0 q1 q2, by rw [zI_s, if_neg (by decide), v5], by rw [zI_s, if_neg (by decide), v4 65 (by decide), zI_n (by decide)]; exact a5, fun c hc hl j hj => ?_, fun _ => by rw [zI_s, if_pos rfl]; exact e98⟩
    obtain ⟨-, -, e1, -, e3⟩ := car_q c hc
    rw [zI_n1 (by omega), v3 c (by omega) e3, zI_n1 e3]
    exact a6 c hc (car_23 c hc hl) j hj
  have hG3a : zGE N3a := (gG h3 : zGE (zsI N3a 460 55 (N3a.1 498 0)))
  obtain ⟨N4, u4, h4⟩ := ldc_s (X := X) (d := d) (c := 463) hG h3 (carb_iff.mp rfl) rfl (by omega) (by omega) (fun h => absurd h (by omega))
  rw [zl_463] at h4
  have h4 : ldc (550 * k) 29 M N4 := h4
  obtain ⟨N5, u5, h5⟩ := ldc_s (X := X) (d := d) (c := 464) hG h4 (carb_iff.mp rfl) rfl (by omega) (by omega) (fun h => absurd h (by omega))
  rw [zl_464] at h5
  have h5 : ldc (550 * k) 35 M N5 := h5
  obtain ⟨N6, u6, h6⟩ := ldc_s (X := X) (d := d) (c := 465) hG h5 (carb_iff.mp rfl) rfl (by omega) (by omega) (fun h => absurd h (by omega))
  rw [zl_465] at h6
  have h6 : ldc (550 * k) 41 M N6 := h6
  obtain ⟨N7, u7, h7⟩ := ldc_s (X := X) (d := d) (c := 466) hG h6 (carb_iff.mp rfl) rfl (by omega) (by omega) (fun h => absurd h (by omega))
  rw [zl_466] at h7
  have h7 : ldc (550 * k) 45 M N7 := h7
  obtain ⟨N8, u8, h8⟩ := ldc_s (X := X) (d := d) (c := 467) hG h7 (carb_iff.mp rfl) rfl (by omega) (by omega) (fun h => absurd h (by omega))
  rw [zl_467] at h8
  have h8 : ldc (550 * k) 49 M N8 := h8
  obtain ⟨N9, u9, h9⟩ := ldc_s (X := X) (d := d) (c := 468) hG h8 (carb_iff.mp rfl) rfl (by omega) (by omega) (fun h => absurd h (by omega))
  rw [zl_468] at h9
  have h9 : ldc (550 * k) 53 M N9 := h9
  obtain ⟨N10, u10, h10⟩ := ldc_s (X := X) (d := d) (c := 469) hG h9 (carb_iff.mp rfl) rfl (by omega) (by omega) (fun h => absurd h (by omega))
  rw [zl_469] at h10
  have h10 : ldc (550 * k) 57 M N10 := h10
  obtain ⟨N11, u11, h11⟩ := ldc_s (X := X) (d := d) (c := 493) hG h10 (carb_iff.mp rfl) rfl (by omega) (by omega) (fun h => absurd h (by omega))
  rw [zl_493] at h11
  have h11 : ldc (550 * k) 121 M N11 := h11
  obtain ⟨N12, u12, h12⟩ := ldc_s (X := X) (d := d) (c := 470) hG h11 (carb_iff.mp rfl) rfl (by omega) (by omega) (fun h => absurd h (by omega))
  rw [zl_470] at h12
  have h12 : ldc (550 * k) 185 M N12 := h12
  obtain ⟨N13, u13, h13⟩ := ldc_s (X := X) (d := d) (c := 471) hG h12 (carb_iff.mp rfl) rfl (by omega) (by omega) (fun h => absurd h (by omega))
  rw [zl_471] at h13
  have h13 : ldc (550 * k) 195 M N13 := h13
  obtain ⟨N14, u14, h14⟩ := ldc_s (X := X) (d := d) (c := 472) hG h13 (carb_iff.mp rfl) rfl (by omega) (by omega) (fun h => absurd h (by omega))
  rw [zl_472] at h14
  have h14 : ldc (550 * k) 205 M N14 := h14
  obtain ⟨N15, u15, h15⟩ := ldc_s (X := X) (d := d) (c := 473) hG h14 (carb_iff.mp rfl) rfl (by omega) (by omega) (fun h => absurd h (by omega))
  rw [zl_473] at h15
  have h15 : ldc (550 * k) 209 M N15 := h15
  obtain ⟨N16, u16, h16⟩ := ldc_s (X := X) (d := d) (c := 474) hG h15 (carb_iff.mp rfl) rfl (by omega) (by omega) (fun h => absurd h (by omega))
  rw [zl_474] at h16
  have h16 : ldc (550 * k) 210 M N16 := h16
  obtain ⟨N17, u17, h17⟩ := ldc_s (X := X) (d := d) (c := 497) hG h16 (carb_iff.mp rfl) rfl (by omega) (by omega) (fun h => absurd h (by omega))
  rw [zl_497] at h17
  have h17 : ldc (550 * k) 490 M N17 := h17
  refine ⟨N17, ?_, h17⟩
  rw [t239_0 _ _ _ hG (Or.inr rfl), u1, Option.bind_some]
  dsimp only [zps]
  rw [t239_22 _ _ _ (gG h1), u2, Option.bind_some]
  dsimp only [zps]
  rw [t239_30 _ _ _ (gG h2), if_pos n4, u3, Option.bind_some]
  dsimp only [zps]
  rw [t239_54 _ _ _ hG3a, u4, Option.bind_some]
  dsimp only [zps]
  rw [t239_72 _ _ _ (gG h4), u5, Option.bind_some]
  dsimp only [zps]
  rw [t239_80 _ _ _ (gG h5), u6, Option.bind_some]
  dsimp only [zps]
  rw [t239_88 _ _ _ (gG h6), u7, Option.bind_some]
  dsimp only [zps]
  rw [t239_96 _ _ _ (gG h7), u8, Option.bind_some]
  dsimp only [zps]
  rw [t239_104 _ _ _ (gG h8), u9, Option.bind_some]
  dsimp only [zps]
  rw [t239_112 _ _ _ (gG h9), u10, Option.bind_some]
  dsimp only [zps]
  rw [t239_120 _ _ _ (gG h10), u11, Option.bind_some]
  dsimp only [zps]
  rw [t239_128 _ _ _ (gG h11), u12, Option.bind_some]
  dsimp only [zps]
  rw [t239_136 _ _ _ (gG h12), u13, Option.bind_some]
  dsimp only [zps]
  rw [t239_144 _ _ _ (gG h13), u14, Option.bind_some]
  dsimp only [zps]
  rw [t239_152 _ _ _ (gG h14), u15, Option.bind_some]
  dsimp only [zps]
  rw [t239_160 _ _ _ (gG h15), u16, Option.bind_some]
  dsimp only [zps]
  rw [t239_168 _ _ _ (gG h16), u17, Option.bind_some]
  dsimp only [zps]
  rw [t239_176 _ _ _ (gG h17)]
