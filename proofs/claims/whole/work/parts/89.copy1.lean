/-! ===== realms copied, in the class ===== -/
theorem cpy_lt {f g : Nat → Int32} {n j : Nat} (h : j < n) : va_cpy f g 0 0 n j = f j := by
  unfold va_cpy
  rw [if_pos ⟨Nat.zero_le _, by omega⟩, Nat.zero_add, Nat.sub_zero]
theorem zfr_R {lo hi a : Nat} {f : Nat → Int32} {M M' : zM} (h : zfr lo hi M M') (h1 : lo ≤ a) (h2 : a < hi) : zfr lo hi M (zrI M' a f) :=
  ⟨h.1, fun b hb => ⟨by rw [zr_n (by omega)]; exact (h.2 b hb).1, (h.2 b hb).2⟩⟩
/-- rows of an empire, copied -/
def cpE (a b m : Nat) (M M1 : zM) : Prop := (∀ j, j < 5 → M1.1 (a + 1) j = M.1 (b + 1) j) ∧ ∀ o, o < m → o ≠ 15 → ∀ j, j < 8 → M1.1 (a + 3 + o) j = M.1 (b + 3 + o) j
theorem cpE_s {a b m : Nat} {M M1 : zM} (h : cpE a b m M M1) (hz : zfr a (a + 27) M M1) (hd : a + 27 ≤ b ∨ b + 27 ≤ a) (hm : m < 24) (h15 : m ≠ 15) : cpE a b (m + 1) M (zrI M1 (a + 3 + m) (va_cpy (M1.1 (b + 3 + m)) (M1.1 (a + 3 + m)) 0 0 8)) ∧ zfr a (a + 27) M (zrI M1 (a + 3 + m) (va_cpy (M1.1 (b + 3 + m)) (M1.1 (a + 3 + m)) 0 0 8)) := by
  refine ⟨⟨fun j hj => by rw [zr_n (by omega)]; exact h.1 j hj, fun o ho h5 j hj => ?_⟩, zfr_R hz (by omega) (by omega)⟩
  by_cases e : o = m
  · rw [e, zr_s, cpy_lt hj, (hz.2 (b + 3 + m) (by omega)).1]
  · rw [zr_n (by omega)]
    exact h.2 o (by omega) h5 j hj
theorem s15 {X : (Nat → Int32) × Nat} {d a b : Nat} {M : zM} (hG : zGE M) (ha : zqk a 1 = true) (hb : zqk b 1 = true) (hd : a + 27 ≤ b ∨ b + 27 ≤ a) : ∃ M', zC X d 15 [.ref a, .ref b] M = some (none, M') ∧ zfr a (a + 27) M M' ∧ cpE a b 24 M M' := by
  show ∃ M', zR X d 15 (0, [.ref a, .ref b, zjk], [], M) = some (none, M') ∧ _
  have two : ∀ m k M1, k + m = 8 → zfr a (a + 27) M M1 → cpE a b (16 + k) M M1 → ∃ M', zR X d 15 (49, [.ref a, .ref b, .int (Int32.ofNat k)], [], M1) = some (none, M') ∧ zfr a (a + 27) M M' ∧ cpE a b 24 M M' := by
    intro m
    induction m with
    | zero =>
      intro k M1 hk hz h
      have hle : (8 : Int32) ≤ Int32.ofNat k := by rw [show (8 : Int32) = Int32.ofNat 8 from rfl, of_le (by omega) (by omega)]; omega
      rw [t15_49 _ _ _ _ (zfr_G hz hG) ha hb (fun h => absurd hle h) (fun h => absurd hle h), if_pos hle]
      rw [show 16 + k = 24 by omega] at h
      exact ⟨M1, rfl, hz, h⟩
    | succ m ih =>
      intro k M1 hk hz h
      have hle : ¬ (8 : Int32) ≤ Int32.ofNat k := by rw [show (8 : Int32) = Int32.ofNat 8 from rfl, of_le (by omega) (by omega)]; omega
      have kk : (Int32.ofNat k).toNatClampNeg = k := toNat_of (by omega)
      have ea : a + 19 + k = a + 3 + (16 + k) := by omega
      have eb : b + 19 + k = b + 3 + (16 + k) := by omega
      rw [t15_49 _ _ _ _ (zfr_G hz hG) ha hb (fun _ => vp_of (by omega) (by omega)) (fun _ => by omega), if_neg hle, kk, of_succ, ea, eb]
      obtain ⟨c1, c2⟩ := cpE_s h hz hd (by omega) (by omega)
      exact ih (k + 1) _ (by omega) c2 c1
  have one : ∀ m k M1, k + m = 15 → zfr a (a + 27) M M1 → cpE a b k M M1 → ∃ M', zR X d 15 (16, [.ref a, .ref b, .int (Int32.ofNat k)], [], M1) = some (none, M') ∧ zfr a (a + 27) M M' ∧ cpE a b 24 M M' := by
    intro m
    induction m with
    | zero =>
      intro k M1 hk hz h
      have hle : (15 : Int32) ≤ Int32.ofNat k := by rw [show (15 : Int32) = Int32.ofNat 15 from rfl, of_le (by omega) (by omega)]; omega
      rw [t15_16 _ _ _ _ (zfr_G hz hG) ha hb (fun h => absurd hle h) (fun h => absurd hle h), if_pos hle]
      exact two 8 0 M1 (by omega) hz ⟨h.1, fun o ho h5 j hj => h.2 o (by omega) h5 j hj⟩
    | succ m ih =>
      intro k M1 hk hz h
      have hle : ¬ (15 : Int32) ≤ Int32.ofNat k := by rw [show (15 : Int32) = Int32.ofNat 15 from rfl, of_le (by omega) (by omega)]; omega
      have kk : (Int32.ofNat k).toNatClampNeg = k := toNat_of (by omega)
      rw [t15_16 _ _ _ _ (zfr_G hz hG) ha hb (fun _ => vp_of (by omega) (by omega)) (fun _ => by omega), if_neg hle, kk, of_succ]
      obtain ⟨c1, c2⟩ := cpE_s h hz hd (by omega) (by omega)
      exact ih (k + 1) _ (by omega) c2 c1
  rw [t15_0 _ _ _ _ hG ha hb (by omega)]
  refine one 15 0 _ (by omega) (zfr_R zfr_rf (by omega) (by omega)) ⟨fun j hj => ?_, fun o ho => absurd ho (Nat.not_lt_zero o)⟩
  rw [zr_s, cpy_lt hj]
theorem rwD_c {f f' t t' g g' : Nat → Int32} {a b : Nat} : ∀ n, (∀ j, j < n → f j = f' j ∧ t j = t' j ∧ g j = g' j) → rwD f t g a b n = rwD f' t' g' a b n
  | 0, _ => rfl
  | n + 1, h => by
    obtain ⟨h1, h2, h3⟩ := h n (by omega)
    rw [rwD, rwD, rwD_c n (fun j hj => h j (by omega)), h1, h2, h3]
theorem emD_cnt {e c : Nat} {M : zM} (h : okE (emD e M)) (h8 : (M.1 (e + 1) 3).toNatClampNeg ≤ 8) (hc : c < 5) : (M.1 (e + 1) c).toNatClampNeg ≤ 8 := by
  obtain ⟨⟨k0, b0, e0⟩, ⟨k1, b1, e1⟩, ⟨k2, b2, e2⟩, -, ⟨k4, b4, e4⟩, -⟩ := h
  rw [emD_0 (by omega)] at e0 e1 e2 e4
  rcases (show c = 0 ∨ c = 1 ∨ c = 2 ∨ c = 3 ∨ c = 4 by omega) with rfl | rfl | rfl | rfl | rfl
  · rw [e0, toNat_of (by omega)]; omega
  · rw [e1, toNat_of (by omega)]; omega
  · rw [e2, toNat_of (by omega)]; omega
  · exact h8
  · rw [e4, toNat_of (by omega)]; omega
theorem emD_mv {a b : Nat} {M M1 : zM} (hE : okE (emD b M)) (h8 : (M.1 (b + 1) 3).toNatClampNeg ≤ 8) (h : cpE a b 24 M M1) : emD a M1 = emD b M := by
  obtain ⟨h1, h2⟩ := h
  have hct : ∀ c, c < 5 → (M.1 (b + 1) c).toNatClampNeg ≤ 8 := fun c hc => emD_cnt hE h8 hc
  funext r j
  unfold emD
  by_cases g0 : r = 0
  · rw [if_pos g0, if_pos g0]
    by_cases g1 : j < 5
    · rw [if_pos g1, if_pos g1, h1 j g1]
    · rw [if_neg g1, if_neg g1]
  · rw [if_neg g0, if_neg g0]
    by_cases g1 : r < 16
    · rw [if_pos g1, if_pos g1, h1 _ (by omega)]
      by_cases g2 : r = 10 ∨ r = 11 ∨ r = 12 ∨ r = 3 ∨ r = 15
      · rw [if_pos g2, if_pos g2]
      · rw [if_neg g2, if_neg g2]
        by_cases g3 : j < (M.1 (b + 1) ((r - 1) / 3)).toNatClampNeg
        · have := hct ((r - 1) / 3) (by omega)
          rw [if_pos g3, if_pos g3, show a + 2 + r = a + 3 + (r - 1) by omega, show b + 2 + r = b + 3 + (r - 1) by omega]
          exact h2 (r - 1) (by omega) (by omega) j (by omega)
        · rw [if_neg g3, if_neg g3]
    · rw [if_neg g1, if_neg g1]
      by_cases g2 : r < 24
      · rw [if_pos g2, if_pos g2]
        by_cases g3 : j < 8
        · rw [if_pos g3, if_pos g3]
          exact h2 r (by omega) (by omega) j g3
        · rw [if_neg g3, if_neg g3]
      · rw [if_neg g2, if_neg g2]
        by_cases g3 : r < 32
        · rw [if_pos g3, if_pos g3]
          by_cases g4 : j < 8
          · rw [if_pos g4, if_pos g4, h1 0 (by omega), h1 3 (by omega), rwD_c (M.1 (b + 1) 3).toNatClampNeg (fun i hi => ⟨h2 9 (by omega) (by omega) i (by omega), h2 10 (by omega) (by omega) i (by omega), h2 11 (by omega) (by omega) i (by omega)⟩)]
          · rw [if_neg g4, if_neg g4]
        · rw [if_neg g3, if_neg g3]
theorem zq_realm : ∀ r, zqk r 6 = true → r = 39 ∨ r = 168 ∨ r = 241 ∨ r = 314 ∨ r = 387 := by
  have h : ∀ r, r < 505 → zqk r 6 = true → r = 39 ∨ r = 168 ∨ r = 241 ∨ r = 314 ∨ r = 387 := by decide +kernel
  exact fun r hr => h r (zqk_lt hr) hr
theorem zq_rpast {r j : Nat} (hr : zqk r 6 = true) (hj : j < 20) : zqk (r + 33 + 2 * j) 9 = true := by
  have h1 : ∀ j, j < 20 → zqk (39 + 33 + 2 * j) 9 = true := by decide +kernel
  have h2 : ∀ j, j < 20 → zqk (168 + 33 + 2 * j) 9 = true := by decide +kernel
  have h3 : ∀ j, j < 20 → zqk (241 + 33 + 2 * j) 9 = true := by decide +kernel
  have h4 : ∀ j, j < 20 → zqk (314 + 33 + 2 * j) 9 = true := by decide +kernel
  have h5 : ∀ j, j < 20 → zqk (387 + 33 + 2 * j) 9 = true := by decide +kernel
  rcases zq_realm r hr with rfl | rfl | rfl | rfl | rfl
  · exact h1 j hj
  · exact h2 j hj
  · exact h3 j hj
  · exact h4 j hj
  · exact h5 j hj
theorem zq_remp {r : Nat} (hr : zqk r 6 = true) : zqk (r + 1) 1 = true ∧ zqk (r + 28) 9 = true := by
  rcases zq_realm r hr with rfl | rfl | rfl | rfl | rfl <;> decide +kernel
/-- a realm, copied -/
def cpR (n p a b m : Nat) (M M1 : zM) : Prop := zfr a (a + 73) M M1 ∧ cpE (a + 1) (b + 1) 24 M M1 ∧ stD n (a + 28) M1 = stD n (b + 28) M ∧ M1.1 a 2 = M.1 b 2 ∧ M1.1 a 3 = M.1 b 3 ∧ M1.1 a 5 = Int32.ofNat p ∧ ∀ j, j < m → stD n (M.2.2.1 (a + 30) j) M1 = stD n (M.2.2.1 (b + 30) j) M
theorem s53 {X : (Nat → Int32) × Nat} {d n p a b : Nat} {M : zM} (hG : zGE M) (ha : zqk a 6 = true) (hb : zqk b 6 = true) (hd : a + 73 ≤ b ∨ b + 73 ≤ a) (hn : n ≤ 4) (hp : p ≤ 20) (h5 : M.1 b 5 = Int32.ofNat p) : ∃ M', zC X (d + 1) 53 [.ref a, .ref b] M = some (none, M') ∧ cpR n p a b p M M' ∧ M'.1 a 8 = M.1 b 8 ∧ (∀ j, j < 10 → M'.1 (a + 31) j = M.1 (b + 31) j) ∧ ∀ j, j < 10 → M'.1 (a + 32) j = M.1 (b + 32) j := by
  show ∃ M', zR X (d + 1) 53 (0, [.ref a, .ref b, zjk], [], M) = some (none, M') ∧ _
  obtain ⟨qa1, qa2⟩ := zq_remp ha
  obtain ⟨qb1, qb2⟩ := zq_remp hb
  obtain ⟨M1, s1, s2, s3⟩ := s15 (X := X) (d := d) hG qa1 qb1 (by omega)
  have hG1 := zfr_G s2 hG
  obtain ⟨M2, w1, w2, w3⟩ := s70 (X := X) (d := d) (n := n) (s := a + 28) (t := b + 28) hG1 qa2 qb2 (by omega) hn
  have hG2 := zfr_G w2 hG1
  have hz2 : zfr a (a + 73) M M2 := zfr_tr (zfr_up s2 (by omega) (by omega)) (zfr_up w2 (by omega) (by omega))
  have loop : ∀ m k N, k + m = p → cpR n p a b k M N → ∃ M', zR X (d + 1) 53 (48, [.ref a, .ref b, .int (Int32.ofNat k)], [], N) = some (none, M') ∧ cpR n p a b p M M' ∧ M'.1 a 8 = M.1 b 8 ∧ (∀ j, j < 10 → M'.1 (a + 31) j = M.1 (b + 31) j) ∧ ∀ j, j < 10 → M'.1 (a + 32) j = M.1 (b + 32) j := by
    intro m
    induction m with
    | zero =>
      intro k N hk h
      have e : k = p := by omega
      subst e
      obtain ⟨z, r1, r2, r3, r4, r5, r6⟩ := h
      have hle : N.1 a 5 ≤ Int32.ofNat k := by rw [r5]; exact Int32.le_refl _
      rw [t53_48 _ _ _ _ (zfr_G z hG) ha hb (by omega) (by omega) (by omega) (by omega) (fun h => absurd hle h) (fun h => absurd hle h) (fun h => absurd hle h) (fun h => absurd hle h), if_pos hle]
      refine ⟨_, rfl, ⟨zfr_R (zfr_R (zfr_I z (by omega) (by omega)) (by omega) (by omega)) (by omega) (by omega), ⟨fun j hj => ?_, fun o ho h15 j hj => ?_⟩, ?_, ?_, ?_, ?_, fun j hj => ?_⟩, ?_, fun j hj => ?_, fun j hj => ?_⟩
      · rw [zr_n (by omega), zr_n (by omega), zI_n1 (by omega)]; exact r1.1 j hj
      · rw [zr_n (by omega), zr_n (by omega), zI_n1 (by omega)]; exact r1.2 o ho h15 j hj
      · rw [← r2]
        exact stD_cells (by rw [zr_n (by omega), zr_n (by omega), zI_n1 (by omega)]) (by rw [zr_n (by omega), zr_n (by omega), zI_n1 (by omega)])
      · rw [zr_n (by omega), zr_n (by omega), zI_s, if_neg (by decide)]; exact r3
      · rw [zr_n (by omega), zr_n (by omega), zI_s, if_neg (by decide)]; exact r4
      · rw [zr_n (by omega), zr_n (by omega), zI_s, if_neg (by decide)]; exact r5
      · rw [← r6 j hj]
        obtain ⟨jj, u1, u2⟩ := (hG.2.2 a ha).1 j (by omega)
        rw [u2]
        exact stD_cells (by rw [zr_n (by omega), zr_n (by omega), zI_n1 (by omega)]) (by rw [zr_n (by omega), zr_n (by omega), zI_n1 (by omega)])
      · rw [zr_n (by omega), zr_n (by omega), zI_s, if_pos rfl, (z.2 b (by omega)).1]
      · rw [zr_n (by omega), zr_s, cpy_lt hj, (z.2 (b + 31) (by omega)).1]
      · rw [zr_s, cpy_lt hj, (z.2 (b + 32) (by omega)).1]
    | succ m ih =>
      intro k N hk h
      obtain ⟨z, r1, r2, r3, r4, r5, r6⟩ := h
      have hle : ¬ N.1 a 5 ≤ Int32.ofNat k := by rw [r5, of_le (by omega) (by omega)]; omega
      have kk : (Int32.ofNat k).toNatClampNeg = k := toNat_of (by omega)
      have hGN := zfr_G z hG
      obtain ⟨ja, u1, u2⟩ := (hG.2.2 a ha).1 k (by omega)
      obtain ⟨jb, v1, v2⟩ := (hG.2.2 b hb).1 k (by omega)
      have u2' : N.2.2.1 (a + 30) k = a + 33 + 2 * ja := by rw [z.1]; exact u2
      have v2' : N.2.2.1 (b + 30) k = b + 33 + 2 * jb := by rw [z.1]; exact v2
      have la := zqk_lt (zq_rpast ha u1)
      have lb := zqk_lt (zq_rpast hb v1)
      have lem := t53_48 (X := X) (d := d) a b (Int32.ofNat k) N hGN ha hb (by omega) (by omega) (by omega) (by omega)
      rw [kk, u2', v2'] at lem
      rw [lem (fun _ => vp_of (by omega) (by omega)) (fun _ => by omega) (fun _ => by omega) (fun _ => zis_q hGN (zq_rpast ha u1)), if_neg hle]
      obtain ⟨N1, x1, x2, x3⟩ := s70 (X := X) (d := d) (n := n) (s := a + 33 + 2 * ja) (t := b + 33 + 2 * jb) hGN (zq_rpast ha u1) (zq_rpast hb v1) (by omega) hn
      rw [x1, Option.bind_some]
      dsimp only [zps]
      rw [t53_71 _ _ _ _ (zfr_G x2 hGN) ha hb, of_succ]
      have oth : ∀ c, c < a + 33 → N1.1 c = N.1 c := fun c hc => (x2.2 c (by omega)).1
      refine ih (k + 1) N1 (by omega) ⟨zfr_tr z (zfr_up x2 (by omega) (by omega)), ⟨fun j hj => by rw [oth _ (by omega)]; exact r1.1 j hj, fun o ho h15 j hj => by rw [oth _ (by omega)]; exact r1.2 o ho h15 j hj⟩, ?_, by rw [oth _ (by omega)]; exact r3, by rw [oth _ (by omega)]; exact r4, by rw [oth _ (by omega)]; exact r5, fun j hj => ?_⟩
      · rw [← r2]
        exact stD_cells (oth _ (by omega)) (oth _ (by omega))
      · by_cases e : j = k
        · rw [e, u2, v2, x3]
          exact stD_cells (z.2 _ (by omega)).1 (z.2 _ (by omega)).1
        · rw [← r6 j (by omega)]
          obtain ⟨jj, y1, y2⟩ := (hG.2.2 a ha).1 j (by omega)
          have hne : jj ≠ ja := fun h => e ((hG.2.2 a ha).2 j k (by omega) (by omega) (by rw [y2, u2, h]))
          rw [y2]
          exact stD_cells (x2.2 _ (by omega)).1 (x2.2 _ (by omega)).1
  rw [t53_0 _ _ _ _ hG ha hb, s1, Option.bind_some]
  dsimp only [zps]
  rw [t53_11 _ _ _ _ hG1 ha hb, w1, Option.bind_some]
  dsimp only [zps]
  rw [t53_22 _ _ _ _ hG2 ha hb (by omega)]
  have eb : M2.1 b = M.1 b := (hz2.2 b (by omega)).1
  rw [eb]
  refine loop p 0 _ (by omega) ⟨zfr_I (zfr_I (zfr_I hz2 (by omega) (by omega)) (by omega) (by omega)) (by omega) (by omega), ⟨fun j hj => ?_, fun o ho h15 j hj => ?_⟩, ?_, ?_, ?_, ?_, fun j hj => absurd hj (Nat.not_lt_zero j)⟩
  · rw [zI_n1 (by omega), zI_n1 (by omega), zI_n1 (by omega), (w2.2 _ (by omega)).1]
    exact s3.1 j hj
  · rw [zI_n1 (by omega), zI_n1 (by omega), zI_n1 (by omega), (w2.2 _ (by omega)).1]
    exact s3.2 o ho h15 j hj
  · refine (stD_cells (by rw [zI_n1 (by omega), zI_n1 (by omega), zI_n1 (by omega)]) (by rw [zI_n1 (by omega), zI_n1 (by omega), zI_n1 (by omega)])).trans (w3.trans ?_)
    exact stD_cells (s2.2 _ (by omega)).1 (s2.2 _ (by omega)).1
  · rw [zI_s, if_neg (by decide), zI_s, if_neg (by decide), zI_s, if_pos rfl]
  · rw [zI_s, if_neg (by decide), zI_s, if_pos rfl]
  · rw [zI_s, if_pos rfl]; exact h5
/-- the copied realm holds what was copied -/
theorem iRl_mv {nr n p a b : Nat} {M M' N : zM} (hG : zGE M) (hn : nD (emR N) = n) (hp5 : M.1 b 5 = Int32.ofNat p) (hp : p ≤ 20) (hc : cpR n p a b p M M') (h8 : M'.1 a 8 = M.1 b 8) (h31 : ∀ j, j < 10 → M'.1 (a + 31) j = M.1 (b + 31) j) (h32 : ∀ j, j < 10 → M'.1 (a + 32) j = M.1 (b + 32) j) (h : iRl nr b M N) : iRl nr a M' N := by
  obtain ⟨z, r1, r2, r3, r4, r5, r6⟩ := hc
  obtain ⟨⟨a1, a2, a3, a4, a5, a6, a7⟩, ⟨b1, b2⟩, ⟨i, e1, e2, e3⟩, ⟨x, f1, f2, f3⟩, j1, ⟨g, g1, g2, g3⟩, ⟨q, q1, q2, q3, q4⟩⟩ := h
  have eq : q = p := (of_inj (by omega) (by omega)).1 (q2.symm.trans hp5)
  subst eq
  subst hn
  refine ⟨⟨?_, a2, a3, a4, ?_, a6, a7⟩, ⟨r2.trans b1, b2⟩, ⟨i, e1, r3.trans e2, e3⟩, ⟨x, f1, r4.trans f2, f3⟩, (r1.2 1 (by omega) (by omega) 0 (by omega)).trans j1, ⟨g, g1, ⟨h8.trans g2.1, fun k hk => ?_⟩, g3⟩, ⟨q, q1, r5, q3, fun j hj => ?_⟩⟩
  · rw [emD_mv (by rw [a1]; exact a2) a5.1 r1]; exact a1
  · unfold okRd at a5 ⊢
    rw [r1.1 3 (by omega)]
    refine ⟨a5.1, fun i hi => ?_⟩
    have := a5.1
    obtain ⟨f, t, dd, k1, k2, k3, k4, k5, k6, k7, k8⟩ := a5.2 i hi
    exact ⟨f, t, dd, k1, k2, k3, k4, k5, (r1.2 9 (by omega) (by omega) i (by omega)).trans k6, (r1.2 10 (by omega) (by omega) i (by omega)).trans k7, (r1.2 11 (by omega) (by omega) i (by omega)).trans k8⟩
  · have := g1.1
    rw [h31 k (by omega), h32 k (by omega)]
    exact g2.2 k hk
  · obtain ⟨u1, u2⟩ := q4 j hj
    refine ⟨?_, u2⟩
    rw [z.1, r6 j hj]
    exact u1
