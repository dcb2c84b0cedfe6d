/-! ===== the class reads a rule ===== -/
def cF (b : Nat) (M M' : zM) : Prop := M'.2 = M.2 ∧ (∀ a, a ≠ 1 → a ≠ 34 → a ≠ 35 → a ≠ 36 → a ≠ 37 → M'.1 a = M.1 a) ∧ (∀ k, k < 6 → M'.1 1 k = M.1 1 k) ∧ ∀ k, k < b → M'.1 36 k = M.1 36 k ∧ M'.1 37 k = M.1 37 k
def cS (t : zTx) (b p c : Nat) (e : List zOp) (M : zM) : Prop := zGE M ∧ tqD t M ∧ cur t p M ∧ M.1 1 9 = 0 ∧ M.1 34 2 = Int32.ofNat c ∧ M.1 35 2 = Int32.ofNat (b + e.length) ∧ zsg pcd pwd (M.1 36) (M.1 37) b e
/-- a fault, and some steps -/
def cZ (f : Nat) (M : zM) : Prop := M.1 1 9 = Int32.ofNat f ∧ 0 < f ∧ f < 4000 ∧ ∃ z, z ≤ 400 ∧ M.1 35 2 = Int32.ofNat z
def cR (t : zTx) (b : Nat) (M0 : zM) (r : zPs) (o : Option zO) : Prop := match r with
  | .inl f => ∃ M', o = some (some (.int 0), M') ∧ cF b M0 M' ∧ cZ f M'
  | .inr s => ∃ M', o = some (some (.int 1), M') ∧ cF b M0 M' ∧ cS t b s.1 s.2.1 s.2.2 M'
theorem cF_r {b : Nat} {M : zM} : cF b M M := ⟨rfl, fun _ _ _ _ _ _ => rfl, fun _ _ => rfl, fun _ _ => ⟨rfl, rfl⟩⟩
theorem cF_t {b : Nat} {M M1 M2 : zM} (h : cF b M M1) (h' : cF b M1 M2) : cF b M M2 := ⟨h'.1.trans h.1, fun a q1 q2 q3 q4 q5 => (h'.2.1 a q1 q2 q3 q4 q5).trans (h.2.1 a q1 q2 q3 q4 q5), fun k hk => (h'.2.2.1 k hk).trans (h.2.2.1 k hk), fun k hk => ⟨(h'.2.2.2 k hk).1.trans (h.2.2.2 k hk).1, (h'.2.2.2 k hk).2.trans (h.2.2.2 k hk).2⟩⟩
theorem cF_w {b b' : Nat} {M M1 : zM} (hb : b ≤ b') (h : cF b' M M1) : cF b M M1 := ⟨h.1, h.2.1, h.2.2.1, fun k hk => h.2.2.2 k (by omega)⟩
theorem cR_t {t : zTx} {b : Nat} {M0 M : zM} {r : zPs} {o : Option zO} (h : cF b M0 M) (hr : cR t b M r o) : cR t b M0 r o := by
  cases r with
  | inl f => obtain ⟨M', w1, w2, w3⟩ := hr; exact ⟨M', w1, cF_t h w2, w3⟩
  | inr s => obtain ⟨M', w1, w2, w3⟩ := hr; exact ⟨M', w1, cF_t h w2, w3⟩
theorem zsg_k {c : Nat → Int32} {w : Nat → Nat → Int32} {S N S' N' : Nat → Int32} : ∀ {l : List zOp} {o : Nat}, (∀ k, o ≤ k → k < o + l.length → S' k = S k ∧ N' k = N k) → zsg c w S N o l → zsg c w S' N' o l
  | [], _, _, _ => True.intro
  | p :: l, o, h, h1 => by
    have h0 := h o (Nat.le_refl _) (by rw [List.length_cons]; omega)
    exact ⟨h0.1.trans h1.1, h0.2.trans h1.2.1, zsg_k (fun k q1 q2 => h k (by omega) (by rw [List.length_cons]; omega)) h1.2.2⟩
theorem cF_g {b : Nat} {M M' : zM} (h : cF b M M') (hG : zGE M) : zGE M' := zGE_of hG (by rw [h.1])
theorem cF_q {b : Nat} {t : zTx} {M M' : zM} (h : cF b M M') (hT : tqD t M) : tqD t M' := ⟨hT.1, by rw [h.2.2.1 1 (by omega)]; exact hT.2.1, fun k hk => by rw [h.2.1 2 (by omega) (by omega) (by omega) (by omega) (by omega)]; exact hT.2.2 k hk⟩
theorem cur_c {t : zTx} {p : Nat} {M M' : zM} (h1 : M'.1 1 = M.1 1) (h3 : M'.1 3 = M.1 3) (h4 : M'.1 4 = M.1 4) (h5 : M'.1 5 = M.1 5) (h : cur t p M) : cur t p M' := by
  obtain ⟨n, i, ⟨l1, l2, l3, l4, l5⟩, hi, hp, h6, h7, h8⟩ := h
  refine ⟨n, i, ⟨l1, by rw [h1]; exact l2, l3, l4, fun j hj => ?_⟩, hi, hp, by rw [h1]; exact h6, by rw [h1]; exact h7, by rw [h1]; exact h8⟩
  rw [h3, h4, h5]
  exact l5 j hj
theorem c_adv {X : (Nat → Int32) × Nat} {d b p c : Nat} {t : zTx} {e : List zOp} {M : zM} (h : cS t b p c e M) : ∃ M', zC X d 95 [.ref 1] M = some (none, M') ∧ cF b M M' ∧ cS t b (kA t p) c e M' := by
  obtain ⟨hG, hT, hc, h9, h34, h35, hz⟩ := h
  obtain ⟨M', w1, w2, w3, w4, w5⟩ := s95 (X := X) (d := d) hG hc
  have hF : cF b M M' := ⟨w2, fun a q _ _ _ _ => w3 a q, fun k hk => w4 k (by omega) (by omega) (by omega), fun k hk => by rw [w3 36 (by omega), w3 37 (by omega)]; exact ⟨rfl, rfl⟩⟩
  exact ⟨M', w1, hF, cF_g hF hG, cF_q hF hT, w5, by rw [w4 9 (by omega) (by omega) (by omega)]; exact h9, by rw [w3 34 (by omega)]; exact h34, by rw [w3 35 (by omega)]; exact h35, by rw [w3 36 (by omega), w3 37 (by omega)]; exact hz⟩
theorem c_fail {X : (Nat → Int32) × Nat} {d b p c w : Nat} {t : zTx} {e : List zOp} {M : zM} (h : cS t b p c e M) (hr : b + e.length ≤ 400) (hw : w ≤ 4) : ∃ M', zC X d 97 [.ref 1, .int (Int32.ofNat w)] M = some (some (.int 0), M') ∧ cF b M M' ∧ cZ (1 + 8 * p + w) M' := by
  have hp : p ≤ 400 := by
    obtain ⟨-, hT, ⟨n, i, -, -, hp, -⟩, -⟩ := h
    have := kS_le (t := t) i
    have := hT.1
    omega
  refine ⟨_, s97 h.1 h.2.2.1, ⟨z2_I, fun a q _ _ _ _ => zI_n1 q, fun k hk => by rw [zI_s, if_neg (by omega)], fun k hk => ⟨by rw [zI_n (by omega)], by rw [zI_n (by omega)]⟩⟩, by rw [zI_s, if_pos rfl], by omega, by omega, b + e.length, hr, by rw [zI_n (by omega)]; exact h.2.2.2.2.2.1⟩
theorem c_cnt {b p c : Nat} {t : zTx} {e : List zOp} {M : zM} (h : cS t b p c e M) : cF b M (zsI M 34 2 (M.1 34 2 + 1)) ∧ cS t b p (c + 1) e (zsI M 34 2 (M.1 34 2 + 1)) := by
  obtain ⟨hG, hT, hc, h9, h34, h35, hz⟩ := h
  have hF : cF b M (zsI M 34 2 (M.1 34 2 + 1)) := ⟨z2_I, fun a _ q _ _ _ => zI_n1 q, fun k hk => by rw [zI_n (by omega)], fun k hk => ⟨by rw [zI_n (by omega)], by rw [zI_n (by omega)]⟩⟩
  exact ⟨hF, cF_g hF hG, cF_q hF hT, cur_c (zI_n1 (by omega)) (zI_n1 (by omega)) (zI_n1 (by omega)) (zI_n1 (by omega)) hc, by rw [zI_n (by omega)]; exact h9, by rw [zI_s, if_pos rfl, h34, of_succ], by rw [zI_n (by omega)]; exact h35, by rw [zI_n1 (by omega), zI_n1 (by omega)]; exact hz⟩
theorem s58 {X : (Nat → Int32) × Nat} {d n : Nat} {x y : Int32} {M : zM} (hG : zGE M) (h : M.1 35 2 = Int32.ofNat n) (hn : n < 400) : zC X d 58 [.ref 35, .int x, .int y] M = some (none, zsI (zsI (zsI M 36 n x) 37 n y) 35 2 (Int32.ofNat (n + 1))) := by
  show zR X d 58 (0, [.ref 35, .int x, .int y], [], M) = _
  have c : ¬ (400 : Int32) ≤ M.1 35 2 := by rw [h, show (400 : Int32) = Int32.ofNat 400 from rfl, of_le (by omega) (by omega)]; omega
  rw [t58_0 _ _ _ _ hG zq_35 (fun _ => by rw [h]; exact vp_of hn (by omega)), if_neg c, h, toNat_of (by omega), of_succ]
theorem c_addF {b n : Nat} {x y z : Int32} {M : zM} (hb : b ≤ n) : cF b M (zsI (zsI (zsI M 36 n x) 37 n y) 35 2 z) :=
  ⟨by rw [z2_I, z2_I, z2_I], fun a _ _ q3 q4 q5 => by rw [zI_n1 q3, zI_n1 q5, zI_n1 q4], fun k hk => by rw [zI_n (by omega), zI_n (by omega), zI_n (by omega)], fun k hk => ⟨by rw [zI_n (by omega), zI_n (by omega), zI_s, if_neg (by omega)], by rw [zI_n (by omega), zI_s, if_neg (by omega), zI_n (by omega)]⟩⟩
theorem c_add {X : (Nat → Int32) × Nat} {d b p c k v : Nat} {t : zTx} {e : List zOp} {M : zM} {x y : Int32} (h : cS t b p c e M) (hr : b + e.length < 400) (hx : x = pcd k) (hy : y = pwd k v) : ∃ M', zC X d 58 [.ref 35, .int x, .int y] M = some (none, M') ∧ cF b M M' ∧ cS t b p c (e ++ [(k, v)]) M' := by
  obtain ⟨hG, hT, hc, h9, h34, h35, hz⟩ := h
  have hF : cF b M (zsI (zsI (zsI M 36 (b + e.length) x) 37 (b + e.length) y) 35 2 (Int32.ofNat (b + e.length + 1))) := c_addF (by omega)
  refine ⟨_, s58 hG h35 hr, hF, cF_g hF hG, cF_q hF hT, cur_c (by rw [zI_n1 (by omega), zI_n1 (by omega), zI_n1 (by omega)]) (by rw [zI_n1 (by omega), zI_n1 (by omega), zI_n1 (by omega)]) (by rw [zI_n1 (by omega), zI_n1 (by omega), zI_n1 (by omega)]) (by rw [zI_n1 (by omega), zI_n1 (by omega), zI_n1 (by omega)]) hc, by rw [zI_n (by omega), zI_n (by omega), zI_n (by omega)]; exact h9, by rw [zI_n (by omega), zI_n (by omega), zI_n (by omega)]; exact h34, by rw [zI_s, if_pos rfl, List.length_append]; rfl, ?_⟩
  rw [zsg_app]
  refine ⟨zsg_k (fun j q1 q2 => ⟨by rw [zI_n (by omega), zI_n (by omega), zI_s, if_neg (by omega)], by rw [zI_n (by omega), zI_s, if_neg (by omega), zI_n (by omega)]⟩) hz, ?_, ?_, True.intro⟩
  · rw [zI_n (by omega), zI_n (by omega), zI_s, if_pos rfl]; exact hx
  · rw [zI_n (by omega), zI_s, if_pos rfl]; exact hy
/-- a sign, if there is one -/
theorem c_sgn {X : (Nat → Int32) × Nat} {d b p c k : Nat} {t : zTx} {e : List zOp} {M : zM} {x : Int32} (h : cS t b p c e M) (hk : ¬ k = 0) (hk1 : 1 < k) (hr : b + e.length < 400) (hx : x = pcd k) : ∃ M', zC X d 58 [.ref 35, .int x, .int 0] M = some (none, M') ∧ cF b M M' ∧ cS t b p c (zsn k e) M' := by
  unfold zsn
  rw [if_neg hk]
  exact c_add h hr hx (by unfold pwd; rw [if_neg (by omega), if_neg (by omega)])
theorem s67 {X : (Nat → Int32) × Nat} {d b p c : Nat} {t : zTx} {e : List zOp} {M : zM} (h : cS t b p c e M) (hc : c ≤ 60) (hr : b + e.length < 400) : cR t b M (pVal t p c e) (zC X (d + 1) 67 [.ref 34] M) := by
  obtain ⟨hG, hT, hcu, h9, h34, h35, hz⟩ := id h
  have hb : ∀ k, k < t.1 → t.2 k < 256 := fun k hk => (hT.2.2 k hk).1
  obtain ⟨h7, h8⟩ : M.1 1 7 = kI (kk t p) ∧ M.1 1 8 = kN t p := by obtain ⟨n, i, -, -, -, -, h7, h8⟩ := hcu; exact ⟨h7, h8⟩
  have e3 : (kI (kk t p) = -3) ↔ kk t p = 258 := kI_inj (k := 258) (kk_le hb) (by omega)
  have e2 : (kI (kk t p) = -2) ↔ kk t p = 257 := kI_inj (k := 257) (kk_le hb) (by omega)
  have c60 : (M.1 34 2 < 60) ↔ c < 60 := by rw [h34]; exact of_lt (k := 60) (by omega) (by omega)
  show cR t b M (pVal t p c e) (zR X (d + 1) 67 (0, [.ref 34, zjk, zjk], [], M))
  -- a piece that may stand
  have good : ∀ (w v : Nat) (x x1 x2 : Int32), x = pcd w → kN t p = pwd w v → cR t b M (.inr (kA t p, c + 1, e ++ [(w, v)])) ((zC X d 58 [.ref 35, .int x, .int (kN t p)] (zsI M 34 2 (M.1 34 2 + 1))).bind fun o => zR X (d + 1) 67 (151, [.ref 34, .int x1, .int x2], zps o.1 [], o.2)) := by
    intro w v x x1 x2 hx hy
    obtain ⟨f1, f2⟩ := c_cnt h
    obtain ⟨M2, w1, w2, w3⟩ := c_add (X := X) (d := d) (k := w) (v := v) f2 hr hx hy
    obtain ⟨M3, y1, y2, y3⟩ := c_adv (X := X) (d := d) w3
    rw [w1, Option.bind_some]
    dsimp only [zps]
    rw [t67_151 _ _ _ w3.1, y1, Option.bind_some]
    dsimp only [zps]
    rw [t67_158 _ _ _ y3.1]
    exact ⟨M3, rfl, cF_t (cF_t f1 w2) y2, y3⟩
  have bad : ∀ (w pc : Nat) (x1 x2 : Int32), w ≤ 4 → (∀ M2, zGE M2 → zR X (d + 1) 67 (pc, [.ref 34, .int x1, .int x2], [.int 0], M2) = some (some (.int 0), M2)) → cR t b M (.inl (1 + 8 * p + w)) ((zC X d 97 [.ref 1, .int (Int32.ofNat w)] M).bind fun o => zR X (d + 1) 67 (pc, [.ref 34, .int x1, .int x2], zps o.1 [], o.2)) := by
    intro w pc x1 x2 hw hpc
    obtain ⟨M2, w1, w2, w3⟩ := c_fail (X := X) (d := d) (w := w) h (by omega) hw
    rw [w1, Option.bind_some]
    dsimp only [zps]
    rw [hpc M2 (cF_g w2 hG)]
    exact ⟨M2, rfl, w2, w3⟩
  have b75 : ∀ x1 x2, ∀ M2, zGE M2 → zR X (d + 1) 67 (75, [.ref 34, .int x1, .int x2], [.int 0], M2) = some (some (.int 0), M2) := fun x1 x2 M2 hG2 => t67_75 _ _ _ _ hG2 (Or.inl rfl)
  have b95 : ∀ x1 x2, ∀ M2, zGE M2 → zR X (d + 1) 67 (95, [.ref 34, .int x1, .int x2], [.int 0], M2) = some (some (.int 0), M2) := fun x1 x2 M2 hG2 => t67_95 _ _ _ _ hG2 (Or.inl rfl)
  have b113 : ∀ x1 x2, ∀ M2, zGE M2 → zR X (d + 1) 67 (113, [.ref 34, .int x1, .int x2], [.int 0], M2) = some (some (.int 0), M2) := fun x1 x2 M2 hG2 => t67_113 _ _ _ _ hG2 (Or.inl rfl)
  rw [t67_0 _ _ _ hG, h7]
  unfold pVal
  by_cases k1 : kk t p = 258
  · have hN : kN t p = kNd t p := by
      rcases kcs (p := p) hb with h | h | h | h | h
      · omega
      · omega
      · exact h.2.2.2.2
      · have := h.2.2.1; split at this <;> omega
      · omega
    rw [if_neg (not_not_intro (e3.mpr k1)), t67_17 _ _ _ _ hG, h7, if_pos (mt e2.mp (by omega)), t67_57 _ _ _ hG, if_pos (show ¬ (1 : Int32) = 0 by decide), if_pos k1, h8]
    by_cases k2 : 5 < ken isD t p - p
    · have hm : kN t p = -1 := by rw [hN]; unfold kNd; rw [if_pos k2]
      rw [if_neg (not_not_intro hm), if_pos k2]
      exact bad 1 95 _ _ (by omega) (b95 _ _)
    · have hv := dig (t := t) (p := p) k2
      have hm : kN t p = Int32.ofNat (kdv t.2 p (ken isD t p - p)) := by rw [hN]; unfold kNd; rw [if_neg k2]
      have hm1 : ¬ kN t p = -1 := by
        rw [hm]
        intro h0
        have := congrArg Int32.toInt h0
        rw [Int32.toInt_ofNat_of_lt (by omega)] at this
        have h1 : (-1 : Int32).toInt = -1 := rfl
        omega
      rw [if_pos hm1, if_neg k2]
      by_cases k3 : 60 ≤ c
      · rw [if_neg (mt c60.mp (by omega)), if_pos k3]
        exact bad 3 113 _ _ (by omega) (b113 _ _)
      · rw [if_pos (c60.mpr (by omega)), if_neg (show ¬ (1 : Int32) = 0 by decide), if_neg k3]
        exact good 0 _ 256 _ _ rfl hm
  · rw [if_pos (mt e3.mp k1), t67_17 _ _ _ _ hG, h7, if_neg k1]
    by_cases k4 : kk t p = 257
    · have hN : kN t p = kNw t p := by
        rcases kcs (p := p) hb with h | h | h | h | h
        · omega
        · exact h.2.2.2.2
        · omega
        · have := h.2.2.1; split at this <;> omega
        · omega
      have hkw := kw_le (t := t) (p := p)
      rw [if_neg (not_not_intro (e2.mpr k4)), h8]
      by_cases k5 : kw t p = 20
      · have hm : kN t p = -1 := by rw [hN]; unfold kNw; rw [if_pos k5]
        rw [hm, if_pos (show (-1 : Int32) < 4 by decide), t67_57 _ _ _ hG, if_neg (show ¬ ¬ (0 : Int32) = 0 by decide), if_neg (show ¬ (kk t p = 257 ∧ 4 ≤ kw t p ∧ kw t p ≤ 14) by omega)]
        exact bad 0 75 _ _ (by omega) (b75 _ _)
      · have hm : kN t p = Int32.ofNat (kw t p) := by rw [hN]; unfold kNw; rw [if_neg k5]
        have l4 : (kN t p < 4) ↔ kw t p < 4 := by rw [hm]; exact of_lt (k := 4) (by omega) (by omega)
        have l14 : (14 < kN t p) ↔ 14 < kw t p := by rw [hm]; exact of_lt (j := 14) (by omega) (by omega)
        by_cases k6 : kw t p < 4
        · rw [if_pos (l4.mpr k6), t67_57 _ _ _ hG, if_neg (show ¬ ¬ (0 : Int32) = 0 by decide), if_neg (show ¬ (kk t p = 257 ∧ 4 ≤ kw t p ∧ kw t p ≤ 14) by omega)]
          exact bad 0 75 _ _ (by omega) (b75 _ _)
        · rw [if_neg (mt l4.mp k6)]
          by_cases k7 : 14 < kw t p
          · rw [if_pos (l14.mpr k7), t67_57 _ _ _ hG, if_neg (show ¬ ¬ (0 : Int32) = 0 by decide), if_neg (show ¬ (kk t p = 257 ∧ 4 ≤ kw t p ∧ kw t p ≤ 14) by omega)]
            exact bad 0 75 _ _ (by omega) (b75 _ _)
          · have hm1 : ¬ kN t p = -1 := by
              rw [hm]
              intro h0
              have := congrArg Int32.toInt h0
              rw [Int32.toInt_ofNat_of_lt (by omega)] at this
              have h1 : (-1 : Int32).toInt = -1 := rfl
              omega
            rw [if_neg (mt l14.mp k7), t67_58 _ _ _ _ hG, if_neg (show ¬ ¬ (0 : Int32) = 0 by decide), if_pos (show ¬ (1 : Int32) = 0 by decide), h8, if_pos hm1, if_pos (show kk t p = 257 ∧ 4 ≤ kw t p ∧ kw t p ≤ 14 by omega)]
            by_cases k3 : 60 ≤ c
            · rw [if_neg (mt c60.mp (by omega)), if_pos k3]
              exact bad 3 113 _ _ (by omega) (b113 _ _)
            · rw [if_pos (c60.mpr (by omega)), if_pos rfl, if_neg k3]
              exact good 1 _ 257 _ _ rfl (by rw [hm, pwd, if_neg (by decide), if_pos rfl]; congr 1; omega)
    · rw [if_pos (mt e2.mp k4), t67_57 _ _ _ hG, if_neg (show ¬ ¬ (0 : Int32) = 0 by decide), if_neg (show ¬ (kk t p = 257 ∧ 4 ≤ kw t p ∧ kw t p ≤ 14) by omega)]
      exact bad 0 75 _ _ (by omega) (b75 _ _)
theorem cS_7 {t : zTx} {b p c : Nat} {e : List zOp} {M : zM} (h : cS t b p c e M) : M.1 1 7 = kI (kk t p) := by
  obtain ⟨-, -, ⟨n, i, -, -, -, -, h7, -⟩, -⟩ := h
  exact h7
theorem cS_k {t : zTx} {b p c j : Nat} {e : List zOp} {M : zM} (h : cS t b p c e M) (hj : j ≤ 260) : (kI (kk t p) = kI j) ↔ kk t p = j := kI_inj (kk_le (fun k hk => (h.2.1.2.2 k hk).1)) hj
/-- the sign that is kept -/
def sgc (x : Nat) : Int32 := if x = 0 then 0 else pcd x
theorem sgc_n {x : Nat} (h : okT2 x ∨ okP2 x) (hx : ¬ x = 0) : ¬ sgc x = 0 ∧ sgc x = pcd x := by
  unfold okT2 okP2 at h
  rcases (show x = 13 ∨ x = 14 ∨ x = 15 ∨ x = 2 ∨ x = 3 by omega) with rfl | rfl | rfl | rfl | rfl
  all_goals exact ⟨by decide, rfl⟩
theorem zsn_n {x : Nat} {e : List zOp} : (zsn x e).length = e.length + phi x := by
  unfold zsn phi
  by_cases c : x = 0
  · rw [if_pos c, if_pos c]; rfl
  · rw [if_neg c, if_neg c, List.length_append]; rfl
theorem s66 {X : (Nat → Int32) × Nat} {d b : Nat} {t : zTx} : ∀ k {tm pl p c j : Nat} {e : List zOp} {M : zM}, j + k = 400 → okT2 tm → okP2 pl → cS t b p c e M → c ≤ 60 → p ≤ t.1 → 2 * (b + e.length + phi tm + phi pl) ≤ p + 2 * c → cR t b M (pSmL t k tm pl p c e) (zR X (d + 2) 66 (6, [.ref 34, .int (sgc tm), .int (sgc pl), .int (Int32.ofNat j)], [], M)) := by
  intro k
  induction k with
  | zero =>
    intro tm pl p c j e M hj ht hp h hc hpl hr
    have e4 : j = 400 := by omega
    subst e4
    have hL := h.2.1.1
    obtain ⟨M2, w1, w2, w3⟩ := c_fail (X := X) (d := d + 1) (w := 0) h (by omega) (by omega)
    rw [t66_6 _ _ _ _ h.1, if_pos (by decide), pSmL, show (0 : Int32) = Int32.ofNat 0 from rfl, w1, Option.bind_some]
    dsimp only [zps]
    rw [t66_163 _ _ _ _ _ (cF_g w2 h.1) (Or.inl rfl)]
    exact ⟨M2, rfl, w2, w3⟩
  | succ k ih =>
    intro tm pl p c j e M hj ht hp h hc hpl hr
    have hL := h.2.1.1
    have hle : ¬ (400 : Int32) ≤ Int32.ofNat j := by rw [show (400 : Int32) = Int32.ofNat 400 from rfl, of_le (by omega) (by omega)]; omega
    have hv := s67 (X := X) (d := d) h hc (by omega)
    rw [t66_6 _ _ _ _ h.1, if_neg hle, pSmL]
    cases hpv : pVal t p c e with
    | inl f =>
      rw [hpv] at hv
      obtain ⟨M2, w1, w2, w3⟩ := hv
      rw [w1, Option.bind_some]
      dsimp only [zps]
      rw [t66_17 _ _ _ _ _ (cF_g w2 h.1), if_neg (by decide)]
      exact ⟨M2, rfl, w2, w3⟩
    | inr s =>
      rw [hpv] at hv
      obtain ⟨M2, w1, w2, w3⟩ := hv
      obtain ⟨d1, d2, d3, d4, d5, l, d6, d7, d8, d9⟩ := pVal_d hpv
      have hlen : s.2.2.length = e.length + l.length := by rw [d6, List.length_append]
      rw [w1, Option.bind_some]
      dsimp only [zps]
      rw [t66_17 _ _ _ _ _ w3.1, if_pos (show ¬ (1 : Int32) = 0 by decide)]
      -- the sign between the last two
      have step1 : ∃ M3, (if sgc tm = 0 then zR X (d + 2) 66 (35, [.ref 34, .int (sgc tm), .int (sgc pl), .int (Int32.ofNat j)], [], M2) else (zC X (d + 1) 58 [.ref 35, .int (sgc tm), .int 0] M2).bind fun o => zR X (d + 2) 66 (35, [.ref 34, .int (sgc tm), .int (sgc pl), .int (Int32.ofNat j)], zps o.1 [], o.2)) = zR X (d + 2) 66 (35, [.ref 34, .int (sgc tm), .int (sgc pl), .int (Int32.ofNat j)], [], M3) ∧ cF b M M3 ∧ cS t b s.1 s.2.1 (zsn tm s.2.2) M3 := by
        by_cases c0 : tm = 0
        · rw [if_pos (by rw [c0]; rfl)]
          refine ⟨M2, rfl, w2, ?_⟩
          unfold zsn
          rw [if_pos c0]
          exact w3
        · obtain ⟨n1, n2⟩ := sgc_n (Or.inl ht) c0
          obtain ⟨M3, y1, y2, y3⟩ := c_sgn (X := X) (d := d + 1) (k := tm) (x := sgc tm) w3 c0 (by unfold okT2 at ht; omega) (by omega) n2
          rw [if_neg n1, y1, Option.bind_some]
          exact ⟨M3, rfl, cF_t w2 y2, y3⟩
      obtain ⟨M3, v1, v2, v3⟩ := step1
      have hl3 := zsn_n (x := tm) (e := s.2.2)
      rw [v1, t66_35 _ _ _ _ v3.1, cS_7 v3]
      have q : ∀ {j : Nat}, j ≤ 260 → ((kI (kk t s.1) = kI j) ↔ kk t s.1 = j) := fun hj => cS_k v3 hj
      have q42 : (kI (kk t s.1) = 42) ↔ kk t s.1 = 42 := q (j := 42) (by omega)
      have q47 : (kI (kk t s.1) = 47) ↔ kk t s.1 = 47 := q (j := 47) (by omega)
      have q37 : (kI (kk t s.1) = 37) ↔ kk t s.1 = 37 := q (j := 37) (by omega)
      have q43 : (kI (kk t s.1) = 43) ↔ kk t s.1 = 43 := q (j := 43) (by omega)
      have q45 : (kI (kk t s.1) = 45) ↔ kk t s.1 = 45 := q (j := 45) (by omega)
      have q0 : (kI (kk t s.1) = 0) ↔ kk t s.1 = 0 := q (j := 0) (by omega)
      by_cases cT : opT (kk t s.1) = 0
      · rw [if_neg (not_not_intro cT)]
        have n42 : ¬ kk t s.1 = 42 := fun h0 => by rw [h0] at cT; exact absurd cT (by decide)
        have n47 : ¬ kk t s.1 = 47 := fun h0 => by rw [h0] at cT; exact absurd cT (by decide)
        have n37 : ¬ kk t s.1 = 37 := fun h0 => by rw [h0] at cT; exact absurd cT (by decide)
        rw [if_neg (mt q42.mp n42), if_neg (mt q47.mp n47), if_pos (mt q37.mp n37), t66_82 _ _ _ _ _ v3.1, if_neg (show ¬ ¬ (0 : Int32) = 0 by decide), cS_7 v3]
        -- the end of a term
        have tail : ∀ M4, cF b M M4 → cS t b s.1 s.2.1 (zsn pl (zsn tm s.2.2)) M4 → cR t b M (if ¬ opP (kk t s.1) = 0 then pSmL t k 0 (opP (kk t s.1)) (kA t s.1) s.2.1 (zsn pl (zsn tm s.2.2)) else .inr (s.1, s.2.1, zsn pl (zsn tm s.2.2))) (if kI (kk t s.1) = 43 then if ¬ kI (kk t s.1) = 0 then (zC X (d + 1) 95 [.ref 1] M4).bind fun o => zR X (d + 2) 66 (149, [.ref 34, .int 0, .int (kI (kk t s.1)), .int (Int32.ofNat j)], zps o.1 [], o.2) else some (some (.int 1), M4) else if ¬ kI (kk t s.1) = 45 then some (some (.int 1), M4) else if ¬ kI (kk t s.1) = 0 then (zC X (d + 1) 95 [.ref 1] M4).bind fun o => zR X (d + 2) 66 (149, [.ref 34, .int 0, .int (kI (kk t s.1)), .int (Int32.ofNat j)], zps o.1 [], o.2) else some (some (.int 1), M4)) := by
          intro M4 hF4 h4
          have hl4 := zsn_n (x := pl) (e := zsn tm s.2.2)
          by_cases cP : opP (kk t s.1) = 0
          · rw [if_neg (not_not_intro cP)]
            have n43 : ¬ kk t s.1 = 43 := fun h0 => by rw [h0] at cP; exact absurd cP (by decide)
            have n45 : ¬ kk t s.1 = 45 := fun h0 => by rw [h0] at cP; exact absurd cP (by decide)
            rw [if_neg (mt q43.mp n43), if_pos (mt q45.mp n45)]
            exact ⟨M4, rfl, hF4, h4⟩
          · rw [if_pos cP]
            obtain ⟨a1, a2⟩ := kA_b (t := t) (p := s.1) (kk_p (fun h0 => cP (by rw [h0]; rfl)))
            obtain ⟨M5, y1, y2, y3⟩ := c_adv (X := X) (d := d + 1) h4
            have hs : sgc (opP (kk t s.1)) = kI (kk t s.1) ∧ ¬ kI (kk t s.1) = 0 := by
              by_cases e43 : kk t s.1 = 43
              · rw [e43]; exact ⟨rfl, by decide⟩
              · by_cases e45 : kk t s.1 = 45
                · rw [e45]; exact ⟨rfl, by decide⟩
                · exact absurd (by unfold opP; rw [if_neg e43, if_neg e45]) cP
            have hph : phi (opP (kk t s.1)) = 1 := if_neg cP
            have go : cR t b M (pSmL t k 0 (opP (kk t s.1)) (kA t s.1) s.2.1 (zsn pl (zsn tm s.2.2))) ((zC X (d + 1) 95 [.ref 1] M4).bind fun o => zR X (d + 2) 66 (149, [.ref 34, .int 0, .int (kI (kk t s.1)), .int (Int32.ofNat j)], zps o.1 [], o.2)) := by
              rw [y1, Option.bind_some]
              dsimp only [zps]
              rw [t66_149 _ _ _ _ y3.1, of_succ, ← hs.1]
              exact cR_t (cF_t hF4 y2) (ih (tm := 0) (j := j + 1) (by omega) (Or.inl rfl) opP_v y3 d5 a2 (by rw [hph, show phi 0 = 0 from rfl]; omega))
            by_cases e43 : kI (kk t s.1) = 43
            · rw [if_pos e43, if_pos hs.2]; exact go
            · rw [if_neg e43]
              by_cases e45 : kI (kk t s.1) = 45
              · rw [if_neg (not_not_intro e45), if_pos hs.2]; exact go
              · exfalso
                apply cP
                unfold opP
                rw [if_neg (fun h0 => e43 (q43.mpr h0)), if_neg (fun h0 => e45 (q45.mpr h0))]
        by_cases c0 : pl = 0
        · rw [if_pos (show sgc pl = 0 by rw [c0]; rfl)]
          exact tail M3 v2 (by unfold zsn; rw [if_pos c0]; exact v3)
        · obtain ⟨n1, n2⟩ := sgc_n (Or.inr hp) c0
          obtain ⟨M4, y1, y2, y3⟩ := c_sgn (X := X) (d := d + 1) (k := pl) (x := sgc pl) v3 c0 (by unfold okP2 at hp; omega) (by rw [hl3]; omega) n2
          rw [if_neg n1, y1, Option.bind_some]
          dsimp only [zps]
          rw [t66_100 _ _ _ _ y3.1, cS_7 y3]
          exact tail M4 (cF_t v2 y2) y3
      · rw [if_pos cT]
        obtain ⟨a1, a2⟩ := kA_b (t := t) (p := s.1) (kk_p (fun h0 => cT (by rw [h0]; rfl)))
        obtain ⟨M5, y1, y2, y3⟩ := c_adv (X := X) (d := d + 1) v3
        have hs : sgc (opT (kk t s.1)) = kI (kk t s.1) ∧ ¬ kI (kk t s.1) = 0 ∧ (kk t s.1 = 42 ∨ kk t s.1 = 47 ∨ kk t s.1 = 37) := by
          by_cases e42 : kk t s.1 = 42
          · rw [e42]; exact ⟨rfl, by decide, Or.inl rfl⟩
          · by_cases e47 : kk t s.1 = 47
            · rw [e47]; exact ⟨rfl, by decide, Or.inr (Or.inl rfl)⟩
            · by_cases e37 : kk t s.1 = 37
              · rw [e37]; exact ⟨rfl, by decide, Or.inr (Or.inr rfl)⟩
              · exact absurd (by unfold opT; rw [if_neg e42, if_neg e47, if_neg e37]) cT
        have hph : phi (opT (kk t s.1)) = 1 := if_neg cT
        have go : cR t b M (pSmL t k (opT (kk t s.1)) pl (kA t s.1) s.2.1 (zsn tm s.2.2)) (zR X (d + 2) 66 (71, [.ref 34, .int (sgc tm), .int (sgc pl), .int (Int32.ofNat j)], [], M3)) := by
          rw [t66_71 _ _ _ _ v3.1, cS_7 v3, if_pos hs.2.1, y1, Option.bind_some]
          dsimp only [zps]
          rw [t66_149 _ _ _ _ y3.1, of_succ, ← hs.1]
          exact cR_t (cF_t v2 y2) (ih (j := j + 1) (by omega) opT_v hp y3 d5 a2 (by rw [hph, hl3]; omega))
        rcases hs.2.2 with e0 | e0 | e0
        · rw [if_pos (q42.mpr e0)]; exact go
        · rw [if_neg (show ¬ kI (kk t s.1) = 42 from fun h0 => by have := q42.mp h0; omega), if_pos (q47.mpr e0)]; exact go
        · rw [if_neg (show ¬ kI (kk t s.1) = 42 from fun h0 => by have := q42.mp h0; omega), if_neg (show ¬ kI (kk t s.1) = 47 from fun h0 => by have := q47.mp h0; omega), if_neg (not_not_intro (q37.mpr e0))]; exact go
theorem s66z {X : (Nat → Int32) × Nat} {d b p c : Nat} {t : zTx} {e : List zOp} {M : zM} (h : cS t b p c e M) (hc : c ≤ 60) (hpl : p ≤ t.1) (hr : 2 * (b + e.length) ≤ p + 2 * c) : cR t b M (pSum t p c e) (zC X (d + 2) 66 [.ref 34] M) := by
  show cR t b M (pSum t p c e) (zR X (d + 2) 66 (0, [.ref 34, zjk, zjk, zjk], [], M))
  rw [t66_0 _ _ _ _ h.1]
  exact s66 (d := d) 400 (j := 0) (tm := 0) (pl := 0) rfl (Or.inl rfl) (Or.inl rfl) h hc hpl hr
/-- a fact made of a sign -/
theorem s65 {X : (Nat → Int32) × Nat} {d b p c : Nat} {t : zTx} {e : List zOp} {M : zM} (h : cS t b p c e M) (hc : c ≤ 60) (hpl : p ≤ t.1) (hr : 2 * (b + e.length) ≤ p + 2 * c) : cR t b M (pCmp t p c e) (zC X (d + 3) 65 [.ref 34] M) := by
  have hL := h.2.1.1
  have hv := s66z (X := X) (d := d) h hc hpl hr
  show cR t b M (pCmp t p c e) (zR X (d + 3) 65 (0, [.ref 34, zjk], [], M))
  rw [t65_0 _ _ h.1, pCmp]
  cases hpv : pSum t p c e with
  | inl f =>
    rw [hpv] at hv
    obtain ⟨M2, w1, w2, w3⟩ := hv
    rw [w1, Option.bind_some]
    dsimp only [zps]
    rw [t65_4 _ _ _ (cF_g w2 h.1), if_neg (by decide)]
    exact ⟨M2, rfl, w2, w3⟩
  | inr s =>
    rw [hpv] at hv
    obtain ⟨M2, w1, w2, w3⟩ := hv
    obtain ⟨d1, d2, d3, d4, d5, l, d6, d7, d8, d9⟩ := pSum_d hpv
    have hlen : s.2.2.length = e.length + l.length := by rw [d6, List.length_append]
    rw [w1, Option.bind_some]
    dsimp only [zps]
    rw [t65_4 _ _ _ w3.1, if_pos (show ¬ (1 : Int32) = 0 by decide), cS_7 w3]
    have q60 : (kI (kk t s.1) = 60) ↔ kk t s.1 = 60 := cS_k w3 (j := 60) (by omega)
    have q61 : (kI (kk t s.1) = 61) ↔ kk t s.1 = 61 := cS_k w3 (j := 61) (by omega)
    have q62 : (kI (kk t s.1) = 62) ↔ kk t s.1 = 62 := cS_k w3 (j := 62) (by omega)
    have q59 : (kI (kk t s.1) = -4) ↔ kk t s.1 = 259 := cS_k w3 (j := 259) (by omega)
    have q58 : (kI (kk t s.1) = -5) ↔ kk t s.1 = 260 := cS_k w3 (j := 260) (by omega)
    have c60 : (M2.1 34 2 < 60) ↔ s.2.1 < 60 := by rw [w3.2.2.2.2.1]; exact of_lt (k := 60) (by omega) (by omega)
    by_cases cC : cop (kk t s.1) = 0
    · have n60 : ¬ kk t s.1 = 60 := fun h0 => by rw [h0] at cC; exact absurd cC (by decide)
      have n61 : ¬ kk t s.1 = 61 := fun h0 => by rw [h0] at cC; exact absurd cC (by decide)
      have n62 : ¬ kk t s.1 = 62 := fun h0 => by rw [h0] at cC; exact absurd cC (by decide)
      have n59 : ¬ kk t s.1 = 259 := fun h0 => by rw [h0] at cC; exact absurd cC (by decide)
      have n58 : ¬ kk t s.1 = 260 := fun h0 => by rw [h0] at cC; exact absurd cC (by decide)
      obtain ⟨M3, y1, y2, y3⟩ := c_fail (X := X) (d := d + 2) (w := 0) w3 (by omega) (by omega)
      rw [if_neg (mt q60.mp n60), if_neg (mt q61.mp n61), if_neg (mt q62.mp n62), if_neg (mt q59.mp n59), if_neg (mt q58.mp n58), if_pos cC, show (0 : Int32) = Int32.ofNat 0 from rfl, y1, Option.bind_some]
      dsimp only [zps]
      rw [t65_55 _ _ _ (cF_g y2 w3.1) (Or.inl rfl)]
      exact ⟨M3, rfl, cF_t w2 y2, y3⟩
    · have hk : (kk t s.1 = 60 ∨ kk t s.1 = 61 ∨ kk t s.1 = 62 ∨ kk t s.1 = 259 ∨ kk t s.1 = 260) ∧ kI (kk t s.1) = pcd (cop (kk t s.1)) := by
        by_cases e1 : kk t s.1 = 60
        · rw [e1]; exact ⟨Or.inl rfl, rfl⟩
        · by_cases e2 : kk t s.1 = 259
          · rw [e2]; exact ⟨Or.inr (Or.inr (Or.inr (Or.inl rfl))), rfl⟩
          · by_cases e3 : kk t s.1 = 61
            · rw [e3]; exact ⟨Or.inr (Or.inl rfl), rfl⟩
            · by_cases e4 : kk t s.1 = 260
              · rw [e4]; exact ⟨Or.inr (Or.inr (Or.inr (Or.inr rfl))), rfl⟩
              · by_cases e5 : kk t s.1 = 62
                · rw [e5]; exact ⟨Or.inr (Or.inr (Or.inl rfl)), rfl⟩
                · exact absurd (by unfold cop; rw [if_neg e1, if_neg e2, if_neg e3, if_neg e4, if_neg e5]) cC
      rw [if_neg cC]
      have go : cR t b M (if 60 ≤ s.2.1 then .inl (1 + 8 * s.1 + 3) else match pSum t (kA t s.1) (s.2.1 + 1) s.2.2 with
          | .inl f => .inl f
          | .inr s2 => .inr (s2.1, s2.2.1, s2.2.2 ++ [(cop (kk t s.1), 0)])) (zR X (d + 3) 65 (56, [.ref 34, .int (kI (kk t s.1))], [], M2)) := by
        rw [t65_56 _ _ w3.1]
        by_cases k3 : 60 ≤ s.2.1
        · obtain ⟨M3, y1, y2, y3⟩ := c_fail (X := X) (d := d + 2) (w := 3) w3 (by omega) (by omega)
          rw [if_neg (mt c60.mp (by omega)), if_pos k3, show (3 : Int32) = Int32.ofNat 3 from rfl, y1, Option.bind_some]
          dsimp only [zps]
          rw [t65_73 _ _ _ (cF_g y2 w3.1) (Or.inl rfl)]
          exact ⟨M3, rfl, cF_t w2 y2, y3⟩
        · obtain ⟨a1, a2⟩ := kA_b (t := t) (p := s.1) (kk_p (fun h0 => cC (by rw [h0]; rfl)))
          obtain ⟨f1, f2⟩ := c_cnt w3
          obtain ⟨M3, y1, y2, y3⟩ := c_adv (X := X) (d := d + 2) f2
          rw [if_pos (c60.mpr (by omega)), if_neg k3, y1, Option.bind_some]
          dsimp only [zps]
          have hv2 := s66z (X := X) (d := d) y3 (by omega) a2 (by omega)
          rw [t65_91 _ _ y3.1]
          cases hpw : pSum t (kA t s.1) (s.2.1 + 1) s.2.2 with
          | inl f =>
            rw [hpw] at hv2
            obtain ⟨M4, z1, z2, z3⟩ := hv2
            rw [z1, Option.bind_some]
            dsimp only [zps]
            rw [t65_95 _ _ _ (cF_g z2 y3.1), if_neg (by decide)]
            exact ⟨M4, rfl, cF_t (cF_t (cF_t w2 f1) y2) z2, z3⟩
          | inr s2 =>
            rw [hpw] at hv2
            obtain ⟨M4, z1, z2, z3⟩ := hv2
            obtain ⟨g1, g2, g3, g4, g5, l2, g6, g7, g8, g9⟩ := pSum_d hpw
            have hlen2 : s2.2.2.length = s.2.2.length + l2.length := by rw [g6, List.length_append]
            rw [z1, Option.bind_some]
            dsimp only [zps]
            have hcv := cop_v cC
            obtain ⟨M5, x1, x2, x3⟩ := c_add (X := X) (d := d + 2) (k := cop (kk t s.1)) (v := 0) (y := 0) z3 (by omega) hk.2 (by unfold pwd; rw [if_neg (by omega), if_neg (by omega)])
            rw [t65_95 _ _ _ z3.1, if_pos (show ¬ (1 : Int32) = 0 by decide), x1, Option.bind_some]
            dsimp only [zps]
            rw [t65_109 _ _ x3.1]
            exact ⟨M5, rfl, cF_t (cF_t (cF_t (cF_t w2 f1) y2) z2) x2, x3⟩
      rcases hk.1 with e0 | e0 | e0 | e0 | e0
      · rw [if_pos (q60.mpr e0)]; exact go
      · rw [if_neg (show ¬ kI (kk t s.1) = 60 from fun h0 => by have := q60.mp h0; omega), if_pos (q61.mpr e0)]; exact go
      · rw [if_neg (show ¬ kI (kk t s.1) = 60 from fun h0 => by have := q60.mp h0; omega), if_neg (show ¬ kI (kk t s.1) = 61 from fun h0 => by have := q61.mp h0; omega), if_pos (q62.mpr e0)]; exact go
      · rw [if_neg (show ¬ kI (kk t s.1) = 60 from fun h0 => by have := q60.mp h0; omega), if_neg (show ¬ kI (kk t s.1) = 61 from fun h0 => by have := q61.mp h0; omega), if_neg (show ¬ kI (kk t s.1) = 62 from fun h0 => by have := q62.mp h0; omega), if_pos (q59.mpr e0)]; exact go
      · rw [if_neg (show ¬ kI (kk t s.1) = 60 from fun h0 => by have := q60.mp h0; omega), if_neg (show ¬ kI (kk t s.1) = 61 from fun h0 => by have := q61.mp h0; omega), if_neg (show ¬ kI (kk t s.1) = 62 from fun h0 => by have := q62.mp h0; omega), if_neg (show ¬ kI (kk t s.1) = -4 from fun h0 => by have := q59.mp h0; omega), if_pos (q58.mpr e0)]; exact go
