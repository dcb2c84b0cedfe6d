/-! ===== the reference reads values, terms, sums, signs ===== -/
theorem r151g {X : (Nat → Int32) × Nat} {d p : Nat} {t : zTx} {M : zM} (hG : zGE M) (hT : tqR t M) (hp : M.1 460 27 = Int32.ofNat p) (hd : p < t.1 ∧ isD (t.2 p) = true) : zC X (d + 2) 151 [.ref 460, .int (Int32.ofNat 99999)] M = some (some (.int (Int32.ofNat (kdv t.2 p (min 5 (ken isD t p - p))))), if 5 < ken isD t p - p then fM 1 p (zp M (ken isD t p)) else zp M (ken isD t p)) := by
  have hL := hT.1
  obtain ⟨b1, b2, b3, b4⟩ := ken_b (P := isD) (t := t) (p := p)
  have b5 := b2 (by omega)
  have loop : ∀ m k, p + k + m = ken isD t p → zR X (d + 2) 151 (25, [.ref 460, .int (Int32.ofNat 99999), .int (Int32.ofNat p), .int (Int32.ofNat (kdv t.2 p (min 5 k)))], [], zp M (p + k)) = some (some (.int (Int32.ofNat (kdv t.2 p (min 5 (ken isD t p - p))))), if 5 < ken isD t p - p then fM 1 p (zp M (ken isD t p)) else zp M (ken isD t p)) := by
    intro m
    induction m with
    | zero =>
      intro k hk
      have ek : ken isD t p = p + k := by omega
      have hkk : ken isD t p - p = k := by omega
      have hG1 : zGE (zp M (p + k)) := hG
      have h27 : (zp M (p + k)).1 460 27 = Int32.ofNat (p + k) := by rw [zI_s, if_pos rfl]
      have hnd : ¬ (p + k < t.1 ∧ isD (t.2 (p + k)) = true) := fun h => by
        have := b4 (by omega)
        rw [ek, h.2] at this
        cases this
      rw [t151_25 _ _ _ _ hG1, r146 hG1 (tqR_I (by omega) hT) h27 (by omega), if_neg hnd, Option.bind_some]
      dsimp only [zps]
      have hv : kdv t.2 p (min 5 k) ≤ 99999 := by
        have h := kdv_b (T := t.2) (p := p) (min 5 k) (fun j hj => b3 (p + j) (by omega) (by omega))
        have : 10 ^ (min 5 k) ≤ 10 ^ 5 := Nat.pow_le_pow_right (by omega) (by omega)
        omega
      rw [t151_29 _ _ _ _ _ hG1, if_pos rfl, h27, of_sub (by omega), show p + k - p = k by omega, show (5 : Int32) = Int32.ofNat 5 from rfl, fi_lt (by omega) (by omega), hkk]
      by_cases c : 5 < k
      · rw [if_pos c, if_pos c, show (1 : Int32) = Int32.ofNat 1 from rfl, r143 hG1, Option.bind_some]
        dsimp only [zps]
        rw [t151_93 _ _ _ _ (fM_G hG1), ek]
      · rw [if_neg c, if_neg c, fi_le (by omega) (by omega), if_pos hv, ek]
    | succ m ih =>
      intro k hk
      have hG1 : zGE (zp M (p + k)) := hG
      have h27 : (zp M (p + k)).1 460 27 = Int32.ofNat (p + k) := by rw [zI_s, if_pos rfl]
      have hdk := b3 (p + k) (by omega) (by omega)
      have hT1 : tqR t (zp M (p + k)) := tqR_I (by omega) hT
      have hz : zsI (zp M (p + k)) 460 27 (Int32.ofNat (p + k) + 1) = zp M (p + (k + 1)) := by rw [of_succ, zp, zI_zI]; rfl
      rw [t151_25 _ _ _ _ hG1, r146 hG1 hT1 h27 (by omega), if_pos ⟨by omega, hdk⟩, Option.bind_some]
      dsimp only [zps]
      rw [t151_29 _ _ _ _ _ hG1, if_neg (show ¬ (1 : Int32) = 0 by decide), h27, of_sub (by omega), show p + k - p = k by omega, show (5 : Int32) = Int32.ofNat 5 from rfl, fi_le (by omega) (by omega)]
      by_cases c : 5 ≤ k
      · rw [if_pos c, hz]
        have := ih (k + 1) (by omega)
        rw [show min 5 (k + 1) = min 5 k by omega] at this
        exact this
      · have hd1 := isD_i.mp hdk
        have hv : 10 * Int32.ofNat (kdv t.2 p (min 5 k)) + sgR t (p + k) - 48 = Int32.ofNat (kdv t.2 p (min 5 (k + 1))) := by
          unfold sgR
          rw [if_neg (by omega), show min 5 (k + 1) = k + 1 by omega, show min 5 k = k by omega, kdv, show (10 : Int32) = Int32.ofNat 10 from rfl, of_mul, ← Int32.ofNat_add, show (48 : Int32) = Int32.ofNat 48 from rfl, of_sub (by omega)]
          congr 1; omega
        rw [if_neg c, r144 hG1 hT1 h27 (by omega), Option.bind_some]
        dsimp only [zps]
        rw [t151_50 _ _ _ _ _ _ hG1, h27, hz, hv]
        exact ih (k + 1) (by omega)
  show zR X (d + 2) 151 (0, [.ref 460, .int (Int32.ofNat 99999), zjk, zjk], [], M) = _
  rw [t151_0 _ _ _ _ hG, r146 hG hT hp (by omega), if_pos hd, Option.bind_some]
  dsimp only [zps]
  rw [t151_4 _ _ _ _ _ hG, if_pos (show ¬ (1 : Int32) = 0 by decide), hp]
  have := loop (ken isD t p - p) 0 (by omega)
  rw [show zp M (p + 0) = M from zI_id hp] at this
  exact this
theorem r151 {X : (Nat → Int32) × Nat} {d p sl : Nat} {t : zTx} {M : zM} (hB : rB t sl M) (hp : M.1 460 27 = Int32.ofNat p) (hd : p < t.1 ∧ isD (t.2 p) = true) : zC X (d + 2) 151 [.ref 460, .int (Int32.ofNat 99999)] M = some (some (.int (Int32.ofNat (kdv t.2 p (min 5 (ken isD t p - p))))), if 5 < ken isD t p - p then fM 1 p (zp M (ken isD t p)) else zp M (ken isD t p)) := r151g hB.1 hB.2.1 hp hd
def jv (k : Nat) : Nat := if k = 0 then 3 else k + 6
theorem jv_f : ∀ k, k < 11 → jv k < 21 ∧ jv k ≠ 0 ∧ jw (jv k) = k + 4 := by decide
theorem r142 {X : (Nat → Int32) × Nat} {d k : Nat} {M : zM} (hG : zGE M) (hk : k < 11) : zC X d 142 [.int (Int32.ofNat k)] M = some (some (.retAddr (jv k)), M) := by
  show zR X d 142 (0, [.int (Int32.ofNat k)], [], M) = _
  rw [t142_0 _ _ hG]
  rcases (show k = 0 ∨ k = 1 ∨ k = 2 ∨ k = 3 ∨ k = 4 ∨ k = 5 ∨ k = 6 ∨ k = 7 ∨ k = 8 ∨ k = 9 ∨ k = 10 by omega) with rfl | rfl | rfl | rfl | rfl | rfl | rfl | rfl | rfl | rfl | rfl
  · rw [show zsw 1 85 0 9 #[55, 58, 61, 64, 67, 70, 73, 76, 79, 82] (Int32.ofNat 0) = 56 from rfl, t142_56 _ _ hG]; rfl
  · rw [show zsw 1 85 0 9 #[55, 58, 61, 64, 67, 70, 73, 76, 79, 82] (Int32.ofNat 1) = 59 from rfl, t142_59 _ _ hG]; rfl
  · rw [show zsw 1 85 0 9 #[55, 58, 61, 64, 67, 70, 73, 76, 79, 82] (Int32.ofNat 2) = 62 from rfl, t142_62 _ _ hG]; rfl
  · rw [show zsw 1 85 0 9 #[55, 58, 61, 64, 67, 70, 73, 76, 79, 82] (Int32.ofNat 3) = 65 from rfl, t142_65 _ _ hG]; rfl
  · rw [show zsw 1 85 0 9 #[55, 58, 61, 64, 67, 70, 73, 76, 79, 82] (Int32.ofNat 4) = 68 from rfl, t142_68 _ _ hG]; rfl
  · rw [show zsw 1 85 0 9 #[55, 58, 61, 64, 67, 70, 73, 76, 79, 82] (Int32.ofNat 5) = 71 from rfl, t142_71 _ _ hG]; rfl
  · rw [show zsw 1 85 0 9 #[55, 58, 61, 64, 67, 70, 73, 76, 79, 82] (Int32.ofNat 6) = 74 from rfl, t142_74 _ _ hG]; rfl
  · rw [show zsw 1 85 0 9 #[55, 58, 61, 64, 67, 70, 73, 76, 79, 82] (Int32.ofNat 7) = 77 from rfl, t142_77 _ _ hG]; rfl
  · rw [show zsw 1 85 0 9 #[55, 58, 61, 64, 67, 70, 73, 76, 79, 82] (Int32.ofNat 8) = 80 from rfl, t142_80 _ _ hG]; rfl
  · rw [show zsw 1 85 0 9 #[55, 58, 61, 64, 67, 70, 73, 76, 79, 82] (Int32.ofNat 9) = 83 from rfl, t142_83 _ _ hG]; rfl
  · rw [show zsw 1 85 0 9 #[55, 58, 61, 64, 67, 70, 73, 76, 79, 82] (Int32.ofNat 10) = 86 from rfl, t142_86 _ _ hG]; rfl
def dM (t : zTx) (p : Nat) (M : zM) : zM := if 5 < ken isD t p - p then fM 1 p (zp M (ken isD t p)) else zp M (ken isD t p)
def VM (t : zTx) (p : Nat) (M : zM) : zM := if p < t.1 ∧ isD (t.2 p) = true then eM 0 (Int32.ofNat (kdv t.2 p (min 5 (ken isD t p - p)))) (nM p (dM t p M)) else if 4 ≤ kw t p ∧ kw t p ≤ 14 then eM 1 (Int32.ofNat (kw t p - 4)) (zp (nM p (zp M p)) (p + (kwd (kw t p)).length)) else fM 0 p (zp M p)
/-- what a function on memories leaves -/
def kp2 (M M' : zM) : Prop := M'.1 460 27 = M.1 460 27 ∧ M'.1 460 29 = M.1 460 29 ∧ M'.1 460 31 = M.1 460 31 ∧ (M'.1 460 28 = 0 → M.1 460 28 = 0) ∧ (zGE M → zGE M')
theorem fM_k {w p : Nat} {M : zM} : kp2 M (fM w p M) := by
  unfold fM
  by_cases c : M.1 460 28 = 0
  · rw [if_pos c]
    exact ⟨by rw [zI_s, if_neg (by omega)], by rw [zI_s, if_neg (by omega)], by rw [zI_s, if_neg (by omega)], fun _ => c, fun h => h⟩
  · rw [if_neg c]
    exact ⟨rfl, rfl, rfl, fun h => h, fun h => h⟩
theorem nM_k {p : Nat} {M : zM} : kp2 M (nM p M) := by
  unfold nM
  by_cases c : M.1 460 33 = 60
  · rw [if_pos c]
    obtain ⟨h1, h2, h3, h4, h5⟩ := fM_k (w := 3) (p := p) (M := M)
    exact ⟨by rw [zI_s, if_neg (by omega)]; exact h1, by rw [zI_s, if_neg (by omega)]; exact h2, by rw [zI_s, if_neg (by omega)]; exact h3, fun h => by rw [zI_s, if_neg (by omega)] at h; exact h4 h, h5⟩
  · rw [if_neg c]
    exact ⟨by rw [zI_s, if_neg (by omega)], by rw [zI_s, if_neg (by omega)], by rw [zI_s, if_neg (by omega)], fun h => by rw [zI_s, if_neg (by omega)] at h; exact h, fun h => h⟩
theorem r152c {X : (Nat → Int32) × Nat} {d p q0 sl : Nat} {t : zTx} {M : zM} (hB : rB t sl M) (h27 : M.1 460 27 = Int32.ofNat q0) (hq : q0 < 1000) (hp : ken isB t q0 = p) (hv : M.1 460 28 = 0 → vp_in (300 * M.1 460 29 + M.1 460 31) 1800) : zC X (d + 5) 152 [.ref 460] M = some (none, VM t p M) := by
  have hB1 : rB t sl (zp M p) := qF_B (qF_I (b := 0) (by omega)) hB
  obtain ⟨hG, hT, -, -, h35⟩ := id hB1
  have hp1 : (zp M p).1 460 27 = Int32.ofNat p := by rw [zI_s, if_pos rfl]
  have hpb : p < 1000 := by
    have h1 := (ken_b (P := isB) (t := t) (p := q0)).2.1
    have := hT.1
    by_cases c : q0 ≤ t.1
    · have := h1 c; omega
    · rw [ken_l (by omega)] at hp; omega
  have ent : ∀ {k v : Int32} {M2 : zM}, zGE M2 → M2.1 460 29 = M.1 460 29 → M2.1 460 31 = M.1 460 31 → (M2.1 460 28 = 0 → M.1 460 28 = 0) → zC X (d + 4) 149 [.ref 460, .int k, .int v] M2 = some (none, eM k v M2) := fun g q1 q2 q3 => r149 g (fun h => by rw [q1, q2]; exact hv (q3 h))
  have z29 : (zp M p).1 460 29 = M.1 460 29 := by rw [zI_s, if_neg (by omega)]
  have z31 : (zp M p).1 460 31 = M.1 460 31 := by rw [zI_s, if_neg (by omega)]
  have z28 : (zp M p).1 460 28 = M.1 460 28 := by rw [zI_s, if_neg (by omega)]
  show zR X (d + 5) 152 (0, [.ref 460, zjk, zjk], [], M) = _
  rw [t152_0 _ _ _ hB.1, r145z hB.1 hB.2.1 h27 hq, hp, Option.bind_some]
  dsimp only [zps]
  rw [t152_4 _ _ _ hG, r146 hG hT hp1 hpb, hp1, Option.bind_some]
  dsimp only [zps]
  unfold VM
  by_cases c1 : p < t.1 ∧ isD (t.2 p) = true
  · rw [if_pos c1, if_pos c1, t152_13 _ _ _ _ hG, if_neg (show ¬ (1 : Int32) = 0 by decide), r151 hB1 hp1 c1, Option.bind_some]
    dsimp only [zps]
    have e2 : (if 5 < ken isD t p - p then fM 1 p (zp (zp M p) (ken isD t p)) else zp (zp M p) (ken isD t p)) = dM t p M := by
      unfold dM
      rw [show zp (zp M p) (ken isD t p) = zp M (ken isD t p) from zI_zI]
    rw [e2]
    have kd : (dM t p M).1 460 29 = M.1 460 29 ∧ (dM t p M).1 460 31 = M.1 460 31 ∧ ((dM t p M).1 460 28 = 0 → M.1 460 28 = 0) ∧ zGE (dM t p M) := by
      unfold dM
      by_cases c2 : 5 < ken isD t p - p
      · rw [if_pos c2]
        obtain ⟨h1, h2, h3, h4, h5⟩ := fM_k (w := 1) (p := p) (M := zp M (ken isD t p))
        exact ⟨by rw [h2, zI_s, if_neg (by omega)], by rw [h3, zI_s, if_neg (by omega)], fun h => by have := h4 h; rw [zI_s, if_neg (by omega)] at this; exact this, h5 hG⟩
      · rw [if_neg c2]
        exact ⟨by rw [zI_s, if_neg (by omega)], by rw [zI_s, if_neg (by omega)], fun h => by rw [zI_s, if_neg (by omega)] at h; exact h, hG⟩
    obtain ⟨n1, n2, n3, n4, n5⟩ := nM_k (p := p) (M := dM t p M)
    have hG3 := n5 kd.2.2.2
    rw [t152_22 _ _ _ _ kd.2.2.2, r150 kd.2.2.2, Option.bind_some]
    dsimp only [zps]
    rw [t152_28 _ _ _ hG3, ent hG3 (n2.trans kd.1) (n3.trans kd.2.1) (fun h => kd.2.2.1 (n4 h)), Option.bind_some]
    dsimp only [zps]
    have hG4 : zGE (eM 0 (Int32.ofNat (kdv t.2 p (min 5 (ken isD t p - p)))) (nM p (dM t p M))) := by
      unfold eM
      split
      · exact hG3
      · exact hG3
    rw [t152_34 _ _ _ hG4]
  · rw [if_neg c1, if_neg c1, t152_13 _ _ _ _ hG, if_pos rfl]
    have loop : ∀ m k, k + m = 11 → (∀ j, j < k → ¬ kw t p = j + 4) → zR X (d + 5) 152 (37, [.ref 460, .int (Int32.ofNat p), .int (Int32.ofNat k)], [], zp M p) = some (none, if 4 ≤ kw t p ∧ kw t p ≤ 14 then eM 1 (Int32.ofNat (kw t p - 4)) (zp (nM p (zp M p)) (p + (kwd (kw t p)).length)) else fM 0 p (zp M p)) := by
      intro m
      induction m with
      | zero =>
        intro k hk hn
        have ek : k = 11 := by omega
        subst ek
        have hle : (zp M p).1 460 35 ≤ Int32.ofNat 11 := by rw [h35]; decide
        have hkw : ¬ (4 ≤ kw t p ∧ kw t p ≤ 14) := fun h => hn (kw t p - 4) (by omega) (by omega)
        rw [t152_37 _ _ _ hG, if_pos hle, if_neg (not_not_intro (show Int32.ofNat 11 = (zp M p).1 460 35 by rw [h35]; rfl)), if_neg hkw, show (0 : Int32) = Int32.ofNat 0 from rfl, r143 hG, Option.bind_some]
        dsimp only [zps]
        rw [t152_76 _ _ _ (fM_G hG)]
      | succ m ih =>
        intro k hk hn
        have hle : ¬ (zp M p).1 460 35 ≤ Int32.ofNat k := by rw [h35, show (11 : Int32) = Int32.ofNat 11 from rfl, of_le (by omega) (by omega)]; omega
        obtain ⟨j1, j2, j3⟩ := jv_f k (by omega)
        rw [t152_37 _ _ _ hG, if_neg hle, r142 hG (by omega), Option.bind_some]
        dsimp only [zps]
        rw [t152_50 _ _ _ _ hG, r147 hG hT hp1 hpb j1 j2, j3, Option.bind_some]
        dsimp only [zps]
        rw [t152_53 _ _ _ _ hG]
        by_cases c2 : kw t p = k + 4
        · have hki := (kw_is (t := t) (p := p) (i := k + 4) (by omega)).mpr c2
          have hne : ¬ Int32.ofNat k = (zp M p).1 460 35 := by rw [h35, show (11 : Int32) = Int32.ofNat 11 from rfl, of_inj (by omega) (by omega)]; omega
          obtain ⟨n1, n2, n3, n4, n5⟩ := nM_k (p := p) (M := zp M p)
          have hG3 := n5 hG
          obtain ⟨w1, w2, w3, w4, -⟩ := jw_f (jv k) j1 j2
          rw [hki, cond_true, if_pos (show ¬ (1 : Int32) = 0 by decide), if_pos hne, r150 hG, Option.bind_some]
          dsimp only [zps]
          rw [t152_82 _ _ _ hG3, r142 hG3 (by omega), n1, hp1, Option.bind_some]
          dsimp only [zps]
          rw [t152_91 _ _ _ _ _ hG3 j1, j242 hG3 j1, w2, j3, Option.bind_some]
          dsimp only [zps]
          have hG4 : zGE (zsI (nM p (zp M p)) 460 27 (Int32.ofNat p + Int32.ofNat (kwd (k + 4)).length)) := hG3
          rw [t152_94 _ _ _ _ _ hG3, ent hG4 (by rw [zI_s, if_neg (by omega), n2, z29]) (by rw [zI_s, if_neg (by omega), n3, z31]) (fun h => by rw [zI_s, if_neg (by omega)] at h; have := n4 h; rw [z28] at this; exact this), Option.bind_some]
          dsimp only [zps]
          have hG5 : zGE (eM 1 (Int32.ofNat k) (zsI (nM p (zp M p)) 460 27 (Int32.ofNat p + Int32.ofNat (kwd (k + 4)).length))) := by
            unfold eM
            split
            · exact hG3
            · exact hG3
          rw [t152_104 _ _ _ hG5, if_pos (show 4 ≤ kw t p ∧ kw t p ≤ 14 by omega), c2, show k + 4 - 4 = k by omega, ← Int32.ofNat_add]
        · have hki : kis t p (k + 4) = false := by
            cases h : kis t p (k + 4) with
            | true => exact absurd ((kw_is (by omega)).mp h) c2
            | false => rfl
          rw [hki, cond_false, if_neg (show ¬ ¬ (0 : Int32) = 0 by decide), of_succ]
          exact ih (k + 1) (by omega) (fun j hj => by
            by_cases e : j = k
            · rw [e]; exact c2
            · exact hn j (by omega))
    exact loop 11 0 rfl (fun j hj => absurd hj (Nat.not_lt_zero j))
/-- how a part ends -/
def rR (t : zTx) (sl o : Nat) (M0 : zM) (r : zPs) (z : Option zO) : Prop := match r with
  | .inl f => ∃ M', z = some (none, M') ∧ qF (300 * sl + o) M0 M' ∧ rX t sl f M'
  | .inr s => ∃ M' q, z = some (none, M') ∧ qF (300 * sl + o) M0 M' ∧ rS t sl o q s.2.1 s.2.2 M' ∧ ken isB t q = s.1
theorem kk_258 {t : zTx} {p : Nat} (hb : ∀ k, k < t.1 → t.2 k < 256) : kk t p = 258 ↔ p < t.1 ∧ isD (t.2 p) = true := by
  constructor
  · intro h0
    rcases kcs (p := p) hb with h | h | h | h | h
    · omega
    · omega
    · exact ⟨h.1, isD_i.mpr h.2.1⟩
    · have := h.2.2.1; split at this <;> omega
    · omega
  · intro h0
    have hd := isD_i.mp h0.2
    rcases kcs (p := p) hb with h | h | h | h | h
    · omega
    · omega
    · exact h.2.2.1
    · omega
    · omega
theorem kw_257 {t : zTx} {p : Nat} (h : kw t p < 20) : p < t.1 ∧ kk t p = 257 ∧ kX t p = p + (kwd (kw t p)).length := by
  have hk := (kw_is (t := t) (p := p) (i := kw t p) h).mpr rfl
  have hp : p < t.1 := by
    rcases Nat.lt_or_ge p t.1 with c | c
    · exact c
    · exfalso
      unfold kis at hk
      rw [Bool.and_eq_true, Nat.beq_eq, ken_l c] at hk
      obtain ⟨x, l, e1, -⟩ := kwd_0 (kw t p) h
      rw [e1, List.length_cons] at hk
      omega
  obtain ⟨h1, h2, h3⟩ := kX_w h hp hk
  exact ⟨hp, h3, h1⟩
theorem r152 {X : (Nat → Int32) × Nat} {d sl o q0 c : Nat} {t : zTx} {e : List zOp} {M : zM} {p : Nat} (h : rS t sl o q0 c e M) (hp : ken isB t q0 = p) (hc : c ≤ 60) (hr : o + e.length < 300) : rR t sl o M (pVal t p c e) (zC X (d + 5) 152 [.ref 460] M) := by
  have hB := h.1
  have hL := hB.2.1.1
  have hb : ∀ k, k < t.1 → t.2 k < 256 := fun k hk => (hB.2.1.2.2 k hk).1
  have hpl : p ≤ t.1 := by rw [← hp]; exact ken_b.2.1 h.2.1
  rw [r152c (X := X) (d := d) hB h.2.2.1 (by have := h.2.1; omega) hp (fun _ => (rS_v h hr).1)]
  unfold pVal VM
  by_cases k1 : kk t p = 258
  · have k1' := (kk_258 hb).mp k1
    obtain ⟨b1, b2, -, -⟩ := ken_b (P := isD) (t := t) (p := p)
    have b3 := b2 hpl
    have hX : kX t p = ken isD t p := by
      rcases kcs (p := p) hb with g | g | g | g | g
      · omega
      · omega
      · exact g.2.2.2.1
      · have := g.2.2.1; split at this <;> omega
      · omega
    rw [if_pos k1, if_pos k1']
    unfold dM
    have hp2 := rS_p h b3
    by_cases k2 : 5 < ken isD t p - p
    · rw [if_pos k2, if_pos k2]
      have hf := rS_f (w := 1) hp2 hpl (by omega)
      have hn := rX_n (p := p) hf
      rw [rX_e hn]
      exact ⟨_, rfl, qF_t (qF_I (by omega)) (qF_t fM_q nM_q), hn⟩
    · rw [if_neg k2, if_neg k2]
      by_cases k3 : 60 ≤ c
      · have e60 : c = 60 := by omega
        subst e60
        have hn := rS_n60 hp2 hpl
        rw [if_pos k3, rX_e hn]
        exact ⟨_, rfl, qF_t (qF_I (by omega)) nM_q, hn⟩
      · have hn := rS_n (p := p) hp2 (by omega)
        rw [if_neg k3, show min 5 (ken isD t p - p) = ken isD t p - p by omega]
        obtain ⟨f1, f2⟩ := rS_e (k := 0) (v := kdv t.2 p (ken isD t p - p)) (x := 0) (y := Int32.ofNat (kdv t.2 p (ken isD t p - p))) hn hr rfl rfl
        exact ⟨_, ken isD t p, rfl, qF_t (qF_t (qF_I (by omega)) nM_q) f1, f2, by unfold kA; rw [hX]⟩
  · have k1' : ¬ (p < t.1 ∧ isD (t.2 p) = true) := fun h => k1 ((kk_258 hb).mpr h)
    rw [if_neg k1, if_neg k1']
    have hp2 := rS_p h hpl
    by_cases k4 : 4 ≤ kw t p ∧ kw t p ≤ 14
    · obtain ⟨w1, w2, w3⟩ := kw_257 (t := t) (p := p) (by omega)
      have w4 := (kX_b w1).2
      rw [if_pos ⟨w2, k4⟩, if_pos k4]
      by_cases k3 : 60 ≤ c
      · have e60 : c = 60 := by omega
        subst e60
        have hn := rX_p (q := p + (kwd (kw t p)).length) (rS_n60 hp2 hpl) (by omega)
        rw [if_pos k3, rX_e hn]
        exact ⟨_, rfl, qF_t (qF_t (qF_I (by omega)) nM_q) (qF_I (by omega)), hn⟩
      · have hn := rS_p (q' := p + (kwd (kw t p)).length) (rS_n (p := p) hp2 (by omega)) (by omega)
        rw [if_neg k3]
        obtain ⟨f1, f2⟩ := rS_e (k := 1) (v := kw t p - 4) (x := 1) (y := Int32.ofNat (kw t p - 4)) hn hr rfl rfl
        exact ⟨_, p + (kwd (kw t p)).length, rfl, qF_t (qF_t (qF_t (qF_I (by omega)) nM_q) (qF_I (by omega))) f1, f2, by unfold kA; rw [w3]⟩
    · rw [if_neg (fun h => k4 h.2), if_neg k4]
      exact ⟨_, rfl, qF_t (qF_I (by omega)) fM_q, rS_f (w := 0) hp2 hpl (by omega)⟩
theorem rX_b {X : (Nat → Int32) × Nat} {d b sl f : Nat} {t : zTx} {M : zM} (h : rX t sl f M) : ∃ M', zC X (d + 1) 145 [.ref 460] M = some (none, M') ∧ qF b M M' ∧ rX t sl f M' := by
  obtain ⟨hB, h28, f1, f2, q, hq, h27⟩ := id h
  have hL := hB.2.1.1
  refine ⟨_, r145z hB.1 hB.2.1 h27 (by omega), qF_I (by omega), rX_p h ?_⟩
  by_cases c : q ≤ t.1
  · have := (ken_b (P := isB) (t := t) (p := q)).2.1 c
    omega
  · rw [ken_l (by omega)]; omega
theorem r152x {X : (Nat → Int32) × Nat} {d b sl f : Nat} {t : zTx} {M : zM} (h : rX t sl f M) : ∃ M', zC X (d + 5) 152 [.ref 460] M = some (none, M') ∧ qF b M M' ∧ rX t sl f M' := by
  obtain ⟨hB, h28, f1, f2, q, hq, h27⟩ := id h
  have hL := hB.2.1.1
  have hqb : ken isB t q ≤ 410 := by
    by_cases c : q ≤ t.1
    · have := (ken_b (P := isB) (t := t) (p := q)).2.1 c
      omega
    · rw [ken_l (by omega)]; omega
  refine ⟨_, r152c (X := X) (d := d) hB h27 (by omega) rfl (fun h0 => absurd h0 (rX_0 h)), ?_⟩
  generalize ken isB t q = p at hqb
  unfold VM
  by_cases k1 : p < t.1 ∧ isD (t.2 p) = true
  · have hk := (ken_b (P := isD) (t := t) (p := p)).2.1 (by omega)
    have hd : rX t sl f (dM t p M) ∧ qF b M (dM t p M) := by
      unfold dM
      have h2 := rX_p (q := ken isD t p) h (by omega)
      split
      · rw [rX_f h2]; exact ⟨h2, qF_I (by omega)⟩
      · exact ⟨h2, qF_I (by omega)⟩
    have hn := rX_n (p := p) hd.1
    rw [if_pos k1, rX_e hn]
    exact ⟨qF_t hd.2 nM_q, hn⟩
  · have h2 := rX_p (q := p) h hqb
    rw [if_neg k1]
    by_cases k4 : 4 ≤ kw t p ∧ kw t p ≤ 14
    · obtain ⟨w1, w2, w3⟩ := kw_257 (t := t) (p := p) (by omega)
      have w4 := (kX_b w1).2
      have hn := rX_p (q := p + (kwd (kw t p)).length) (rX_n (p := p) h2) (by omega)
      rw [if_pos k4, rX_e hn]
      exact ⟨qF_t (qF_t (qF_I (by omega)) nM_q) (qF_I (by omega)), hn⟩
    · rw [if_neg k4, rX_f h2]
      exact ⟨qF_I (by omega), h2⟩
