/-! ===== generals who march or wait: the class ===== -/
theorem hm_0 {M : zM} (h : zGE M) : M.2.2.1 146 0 = 147 := zge_rd h rfl (by decide)
theorem hm_4 {M : zM} (h : zGE M) : M.2.2.1 146 4 = 148 := zge_rd h rfl (by decide)
theorem hm_5 {M : zM} (h : zGE M) : M.2.2.1 146 5 = 149 := zge_rd h rfl (by decide)
theorem s46 {X : (Nat → Int32) × Nat} {d g : Nat} {R : List Nat} {M : zM} (hG : zGE M) (hg : g < 4) (hR : R.length < 4) (hR2 : ∀ y, y ∈ R → y < 4) (h1 : M.1 146 1 = Int32.ofNat R.length) (ho : ord (M.1 147) R) : ∃ M', zC X d 46 [.ref 146, .int (Int32.ofNat g)] M = some (none, M') ∧ zfr 146 148 M M' ∧ (∀ k, k ≠ 1 → M'.1 146 k = M.1 146 k) ∧ M'.1 146 1 = Int32.ofNat (R.length + 1) ∧ ord (M'.1 147) (insR (M.1 149) g R) := by
  show ∃ M', zR X d 46 (0, [.ref 146, .int (Int32.ofNat g), zjk], [], M) = some (none, M') ∧ _
  have z3 : Int32.ofNat 4 - 1 = Int32.ofNat 3 := rfl
  have z0 : (0 : Int32) = Int32.ofNat 0 := rfl
  have gg : (Int32.ofNat g).toNatClampNeg = g := toNat_of (by omega)
  have loop : ∀ (r : List Nat) (M1 : zM), r.length ≤ R.length → (∀ y, y ∈ r → y < 4) → zfr 146 148 M M1 → M1.1 146 = M.1 146 → ord (M1.1 147) r → ∃ M', zR X d 46 (15, [.ref 146, .int (Int32.ofNat g), .int (Int32.ofNat r.length)], [], M1) = some (none, M') ∧ zfr 146 148 M M' ∧ (∀ k, k ≠ 1 → M'.1 146 k = M.1 146 k) ∧ M'.1 146 1 = Int32.ofNat (R.length + 1) ∧ ord (M'.1 147) (insR (M.1 149) g r) ∧ ∀ k, r.length < k → M'.1 147 k = M1.1 147 k := by
    intro r
    induction r with
    | nil =>
      intro M1 hl hy hf h146 ho
      have hG1 := zfr_G hf hG
      have hz := zis_q hG1 zq_147
      have lem := t46_15 (X := X) (d := d) (Int32.ofNat g) (Int32.ofNat ([] : List Nat).length) M1 hG1
      have hle : Int32.ofNat ([] : List Nat).length ≤ 0 := by rw [List.length_nil]; exact Int32.le_refl _
      have e0 : (Int32.ofNat ([] : List Nat).length).toNatClampNeg = 0 := rfl
      rw [hm_0 hG1, hm_5 hG1, zl_147] at lem
      rw [lem (fun _ => by omega) (fun _ => hz) (fun _ => vp_of (by rw [List.length_nil]; omega) (by omega)) (fun _ => hz.1) (fun _ => by rw [hz.2]; omega) (fun _ => by rw [hz.2]; omega) (fun h => absurd hle h) (fun h => absurd hle h) (fun h => absurd hle h) (fun h => absurd hle h) (fun h => absurd hle h) (fun h => absurd hle h) (fun h => absurd hle h) (fun h => absurd hle h) (fun h => absurd hle h) (fun h => absurd hle h) (fun h => absurd hle h) (fun h => absurd hle h), if_pos hle, zI_n (show ¬ 146 = 147 by decide), h146, h1, of_succ, if_neg (by rw [of_lt (by omega) (by omega)]; omega), e0]
      refine ⟨_, rfl, zfr_I (zfr_I hf (by omega) (by omega)) (by omega) (by omega), fun k hk => by rw [zI_s, if_neg hk, zI_n (by decide), h146], by rw [zI_s, if_pos rfl], ?_, fun k hk => ?_⟩
      · rw [insR]
        exact ⟨by rw [zI_n (by decide), zI_s]; exact if_pos rfl, True.intro⟩
      · rw [List.length_nil] at hk
        rw [zI_n (by decide), zI_s, if_neg (by omega)]
    | cons x r ih =>
      intro M1 hl hy hf h146 ho
      have hG1 := zfr_G hf hG
      have hz := zis_q hG1 zq_147
      have hz9 := zis_q hG1 zq_149
      have lem := t46_15 (X := X) (d := d) (Int32.ofNat g) (Int32.ofNat (x :: r).length) M1 hG1
      rw [List.length_cons] at lem hl
      have hx : x < 4 := hy x (List.mem_cons_self ..)
      have hn : ¬ Int32.ofNat (r.length + 1) ≤ 0 := by rw [z0, of_le (by omega) (by omega)]; omega
      have ep : Int32.ofNat (r.length + 1) - 1 = Int32.ofNat r.length := by rw [of_pred (by omega)]; rfl
      have e0 : (Int32.ofNat r.length).toNatClampNeg = r.length := toNat_of (by omega)
      have e1 : (Int32.ofNat (r.length + 1)).toNatClampNeg = r.length + 1 := toNat_of (by omega)
      have ex : M1.1 147 r.length = Int32.ofNat x := ho.1
      have exx : (Int32.ofNat x).toNatClampNeg = x := toNat_of (by omega)
      have e9 : M1.1 149 = M.1 149 := (hf.2 149 (by omega)).1
      rw [hm_0 hG1, hm_5 hG1, zl_147, zl_149, ep, e0, e1, ex, exx, gg, e9] at lem
      have lem2 := lem (fun h => absurd h hn) (fun h => absurd h hn) (fun h => absurd h hn) (fun h => absurd h hn) (fun h => absurd h hn) (fun h => absurd h hn) (fun _ => by omega) (fun _ => by omega) (fun _ => hz) (fun _ => vp_of (by omega) (by omega)) (fun _ => hz9) (fun _ => vp_of hx (by omega)) (fun _ => vp_of hg (by omega)) (fun _ _ => vp_of (by omega) (by omega)) (fun _ _ => hz.1) (fun _ _ => by rw [hz.2]; omega) (fun _ _ => by rw [hz.2]; omega) (fun _ _ => vp_of (by omega) (by omega))
      rw [List.length_cons, lem2, if_neg hn, insR]
      by_cases c : M.1 149 x ≤ M.1 149 g
      · rw [if_pos c, if_pos c, zI_n (show ¬ 146 = 147 by decide), h146, h1, of_succ, if_neg (by rw [of_lt (by omega) (by omega)]; omega)]
        refine ⟨_, rfl, zfr_I (zfr_I hf (by omega) (by omega)) (by omega) (by omega), fun k hk => by rw [zI_s, if_neg hk, zI_n (by decide), h146], by rw [zI_s, if_pos rfl], ?_, fun k hk => ?_⟩
        · refine ⟨by rw [zI_n (by decide), zI_s]; exact if_pos rfl, ?_⟩
          refine ord_up (fun k hk => ?_) ho
          rw [List.length_cons] at hk
          rw [zI_n (by decide), zI_s, if_neg (by omega)]
        · rw [zI_n (by decide), zI_s, if_neg (by omega)]
      · rw [if_neg c, if_neg c, of_m1 (by omega), show r.length + 1 - 1 = r.length by omega]
        obtain ⟨M', q1, q2, q3, q4, q5, q6⟩ := ih (zsI M1 147 (r.length + 1) (Int32.ofNat x)) (by omega) (fun y hy2 => hy y (List.mem_cons_of_mem _ hy2)) (zfr_I hf (by omega) (by omega)) (by rw [zI_n1 (by decide)]; exact h146) (ord_up (fun k hk => by rw [zI_s, if_neg (by omega)]) ho.2)
        refine ⟨M', q1, q2, q3, q4, ⟨?_, q5⟩, fun k hk => ?_⟩
        · rw [insR_l, q6 _ (by omega), zI_s, if_pos rfl]
        · rw [q6 k (by omega), zI_s, if_neg (by omega)]
  have hz := zis_q hG zq_147
  have lem := t46_0 (X := X) (d := d) (Int32.ofNat g) zjk M hG
  rw [hm_0 hG, zl_147] at lem
  rw [lem (by omega) hz.1 (by rw [hz.2]; omega) (by rw [hz.2]; omega), z3, h1, if_neg (by rw [of_lt (by omega) (by omega)]; omega)]
  obtain ⟨M', q1, q2, q3, q4, q5, q6⟩ := loop R M (Nat.le_refl _) hR2 zfr_rf rfl ho
  exact ⟨M', q1, q2, q3, q4, q5⟩
