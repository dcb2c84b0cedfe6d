/-! ===== plain questions ===== -/
def pPick (n : Nat) (V : List Int32) (no x : Int32) : Int32 := if x < 0 ∨ Int32.ofNat n < x then no else V.getD x.toNatClampNeg no
theorem zsw_o {pc : Nat} {df hi : Int} {offs : Array Int} {x : Int32} (h : x.toInt < 0 ∨ hi < x.toInt) : zsw pc df 0 hi offs x = ((pc : Int) + df).toNat := if_pos h
theorem out_of {n : Nat} {x : Int32} (hn : n < 2147483648) (h : x < 0 ∨ Int32.ofNat n < x) : x.toInt < 0 ∨ (n : Int) < x.toInt := by
  rw [Int32.lt_iff_toInt_lt, Int32.lt_iff_toInt_lt, Int32.toInt_ofNat_of_lt hn] at h
  exact h
theorem s12y {X : (Nat → Int32) × Nat} {d e c : Nat} {x y : Int32} {M : zM} (hy : y = Int32.ofNat c) (hG : zGE M) (he : zqk e 1 = true) (hc : c < 5) : zC X d 12 [.ref e, .int y, .int x] M = some (some (.int (if x < 0 ∨ emD e M 0 c ≤ x then 0 else 1)), M) := by
  subst hy
  exact s12 hG he hc
theorem s130 {X : (Nat → Int32) × Nat} {d : Nat} {x : Int32} {M : zM} (hG : zGE M) (hE : okE (emD 40 M)) : zC X (d + 2) 130 [.ref 0, .int x] M = some (some (.int (pPick 17 [M.1 67 0, M.1 44 0, M.1 41 1, M.1 41 4, M.1 41 2, M.1 41 3, M.1 0 4, M.1 39 2, M.1 67 2, M.1 67 3, pMen (emD 40 M) (aD 40 67 M), M.1 67 4, M.1 67 1, M.1 67 5, M.1 39 8, M.1 39 5, M.1 39 3, M.1 1 1] (-1) x)), M) := by
  show zR X (d + 2) 130 (0, [.ref 0, .int x], [], M) = _
  rw [t130_0 _ _ hG]
  unfold pPick
  by_cases c : x < 0 ∨ Int32.ofNat 17 < x
  · rw [zsw_o (hi := 17) (out_of (n := 17) (by omega) c), if_pos c, show ((1 : Nat) + 283 : Int).toNat = 284 from rfl, t130_284 _ _ hG]
  · obtain ⟨g1, g2, g3⟩ := of_range (x := x) (a := 0) (b := 17) (by omega) (by omega) c
    rw [if_neg c]
    generalize x.toNatClampNeg = k at g1 g2 g3 ⊢
    subst g1
    rcases (show k = 0 ∨ k = 1 ∨ k = 2 ∨ k = 3 ∨ k = 4 ∨ k = 5 ∨ k = 6 ∨ k = 7 ∨ k = 8 ∨ k = 9 ∨ k = 10 ∨ k = 11 ∨ k = 12 ∨ k = 13 ∨ k = 14 ∨ k = 15 ∨ k = 16 ∨ k = 17 by omega) with rfl | rfl | rfl | rfl | rfl | rfl | rfl | rfl | rfl | rfl | rfl | rfl | rfl | rfl | rfl | rfl | rfl | rfl
    · rw [show zsw 1 283 0 17 #[87, 98, 113, 126, 139, 152, 165, 170, 178, 189, 200, 218, 229, 240, 251, 259, 267, 275] (Int32.ofNat 0) = 88 from rfl, t130_88 _ _ hG]
      rfl
    · rw [show zsw 1 283 0 17 #[87, 98, 113, 126, 139, 152, 165, 170, 178, 189, 200, 218, 229, 240, 251, 259, 267, 275] (Int32.ofNat 1) = 99 from rfl, t130_99 _ _ hG]
      rfl
    · rw [show zsw 1 283 0 17 #[87, 98, 113, 126, 139, 152, 165, 170, 178, 189, 200, 218, 229, 240, 251, 259, 267, 275] (Int32.ofNat 2) = 114 from rfl, t130_114 _ _ hG]
      rfl
    · rw [show zsw 1 283 0 17 #[87, 98, 113, 126, 139, 152, 165, 170, 178, 189, 200, 218, 229, 240, 251, 259, 267, 275] (Int32.ofNat 3) = 127 from rfl, t130_127 _ _ hG]
      rfl
    · rw [show zsw 1 283 0 17 #[87, 98, 113, 126, 139, 152, 165, 170, 178, 189, 200, 218, 229, 240, 251, 259, 267, 275] (Int32.ofNat 4) = 140 from rfl, t130_140 _ _ hG]
      rfl
    · rw [show zsw 1 283 0 17 #[87, 98, 113, 126, 139, 152, 165, 170, 178, 189, 200, 218, 229, 240, 251, 259, 267, 275] (Int32.ofNat 5) = 153 from rfl, t130_153 _ _ hG]
      rfl
    · rw [show zsw 1 283 0 17 #[87, 98, 113, 126, 139, 152, 165, 170, 178, 189, 200, 218, 229, 240, 251, 259, 267, 275] (Int32.ofNat 6) = 166 from rfl, t130_166 _ _ hG]
      rfl
    · rw [show zsw 1 283 0 17 #[87, 98, 113, 126, 139, 152, 165, 170, 178, 189, 200, 218, 229, 240, 251, 259, 267, 275] (Int32.ofNat 7) = 171 from rfl, t130_171 _ _ hG]
      rfl
    · rw [show zsw 1 283 0 17 #[87, 98, 113, 126, 139, 152, 165, 170, 178, 189, 200, 218, 229, 240, 251, 259, 267, 275] (Int32.ofNat 8) = 179 from rfl, t130_179 _ _ hG]
      rfl
    · rw [show zsw 1 283 0 17 #[87, 98, 113, 126, 139, 152, 165, 170, 178, 189, 200, 218, 229, 240, 251, 259, 267, 275] (Int32.ofNat 9) = 190 from rfl, t130_190 _ _ hG]
      rfl
    · rw [show zsw 1 283 0 17 #[87, 98, 113, 126, 139, 152, 165, 170, 178, 189, 200, 218, 229, 240, 251, 259, 267, 275] (Int32.ofNat 10) = 201 from rfl, t130_201 _ _ hG, s71 (n := nD (emD 40 M)) hG zq_67 zq_40 hE, Option.bind_some]
      dsimp only [zps]
      rw [t130_218 _ _ _ hG]
      rfl
    · rw [show zsw 1 283 0 17 #[87, 98, 113, 126, 139, 152, 165, 170, 178, 189, 200, 218, 229, 240, 251, 259, 267, 275] (Int32.ofNat 11) = 219 from rfl, t130_219 _ _ hG]
      rfl
    · rw [show zsw 1 283 0 17 #[87, 98, 113, 126, 139, 152, 165, 170, 178, 189, 200, 218, 229, 240, 251, 259, 267, 275] (Int32.ofNat 12) = 230 from rfl, t130_230 _ _ hG]
      rfl
    · rw [show zsw 1 283 0 17 #[87, 98, 113, 126, 139, 152, 165, 170, 178, 189, 200, 218, 229, 240, 251, 259, 267, 275] (Int32.ofNat 13) = 241 from rfl, t130_241 _ _ hG]
      rfl
    · rw [show zsw 1 283 0 17 #[87, 98, 113, 126, 139, 152, 165, 170, 178, 189, 200, 218, 229, 240, 251, 259, 267, 275] (Int32.ofNat 14) = 252 from rfl, t130_252 _ _ hG]
      rfl
    · rw [show zsw 1 283 0 17 #[87, 98, 113, 126, 139, 152, 165, 170, 178, 189, 200, 218, 229, 240, 251, 259, 267, 275] (Int32.ofNat 15) = 260 from rfl, t130_260 _ _ hG]
      rfl
    · rw [show zsw 1 283 0 17 #[87, 98, 113, 126, 139, 152, 165, 170, 178, 189, 200, 218, 229, 240, 251, 259, 267, 275] (Int32.ofNat 16) = 268 from rfl, t130_268 _ _ hG]
      rfl
    · rw [show zsw 1 283 0 17 #[87, 98, 113, 126, 139, 152, 165, 170, 178, 189, 200, 218, 229, 240, 251, 259, 267, 275] (Int32.ofNat 17) = 276 from rfl, t130_276 _ _ hG]
      rfl
theorem r237 {X : (Nat → Int32) × Nat} {d : Nat} {x : Int32} {M : zM} (hG : zGE M) (hE : okE (emR M)) : zC X (d + 2) 237 [.ref 460, .int x] M = some (some (.int (pPick 17 [M.1 461 0, M.1 461 1, M.1 461 2, M.1 461 3, M.1 461 4, M.1 461 5, M.1 460 30, M.1 461 17, M.1 461 6, M.1 461 7, pMen (emR M) (aR M), M.1 461 10, M.1 461 11, M.1 461 8, M.1 461 15, M.1 460 55, M.1 461 16, M.1 460 26] (-1) x)), M) := by
  show zR X (d + 2) 237 (0, [.ref 460, .int x], [], M) = _
  rw [t237_0 _ _ hG]
  unfold pPick
  by_cases c : x < 0 ∨ Int32.ofNat 17 < x
  · rw [zsw_o (hi := 17) (out_of (n := 17) (by omega) c), if_pos c, show ((1 : Nat) + 213 : Int).toNat = 214 from rfl, t237_214 _ _ hG]
  · obtain ⟨g1, g2, g3⟩ := of_range (x := x) (a := 0) (b := 17) (by omega) (by omega) c
    rw [if_neg c]
    generalize x.toNatClampNeg = k at g1 g2 g3 ⊢
    subst g1
    rcases (show k = 0 ∨ k = 1 ∨ k = 2 ∨ k = 3 ∨ k = 4 ∨ k = 5 ∨ k = 6 ∨ k = 7 ∨ k = 8 ∨ k = 9 ∨ k = 10 ∨ k = 11 ∨ k = 12 ∨ k = 13 ∨ k = 14 ∨ k = 15 ∨ k = 16 ∨ k = 17 by omega) with rfl | rfl | rfl | rfl | rfl | rfl | rfl | rfl | rfl | rfl | rfl | rfl | rfl | rfl | rfl | rfl | rfl | rfl
    · rw [show zsw 1 213 0 17 #[87, 94, 101, 108, 115, 122, 129, 134, 142, 150, 158, 163, 171, 179, 187, 195, 200, 208] (Int32.ofNat 0) = 88 from rfl, t237_88 _ _ hG]
      rfl
    · rw [show zsw 1 213 0 17 #[87, 94, 101, 108, 115, 122, 129, 134, 142, 150, 158, 163, 171, 179, 187, 195, 200, 208] (Int32.ofNat 1) = 95 from rfl, t237_95 _ _ hG]
      rfl
    · rw [show zsw 1 213 0 17 #[87, 94, 101, 108, 115, 122, 129, 134, 142, 150, 158, 163, 171, 179, 187, 195, 200, 208] (Int32.ofNat 2) = 102 from rfl, t237_102 _ _ hG]
      rfl
    · rw [show zsw 1 213 0 17 #[87, 94, 101, 108, 115, 122, 129, 134, 142, 150, 158, 163, 171, 179, 187, 195, 200, 208] (Int32.ofNat 3) = 109 from rfl, t237_109 _ _ hG]
      rfl
    · rw [show zsw 1 213 0 17 #[87, 94, 101, 108, 115, 122, 129, 134, 142, 150, 158, 163, 171, 179, 187, 195, 200, 208] (Int32.ofNat 4) = 116 from rfl, t237_116 _ _ hG]
      rfl
    · rw [show zsw 1 213 0 17 #[87, 94, 101, 108, 115, 122, 129, 134, 142, 150, 158, 163, 171, 179, 187, 195, 200, 208] (Int32.ofNat 5) = 123 from rfl, t237_123 _ _ hG]
      rfl
    · rw [show zsw 1 213 0 17 #[87, 94, 101, 108, 115, 122, 129, 134, 142, 150, 158, 163, 171, 179, 187, 195, 200, 208] (Int32.ofNat 6) = 130 from rfl, t237_130 _ _ hG]
      rfl
    · rw [show zsw 1 213 0 17 #[87, 94, 101, 108, 115, 122, 129, 134, 142, 150, 158, 163, 171, 179, 187, 195, 200, 208] (Int32.ofNat 7) = 135 from rfl, t237_135 _ _ hG]
      rfl
    · rw [show zsw 1 213 0 17 #[87, 94, 101, 108, 115, 122, 129, 134, 142, 150, 158, 163, 171, 179, 187, 195, 200, 208] (Int32.ofNat 8) = 143 from rfl, t237_143 _ _ hG]
      rfl
    · rw [show zsw 1 213 0 17 #[87, 94, 101, 108, 115, 122, 129, 134, 142, 150, 158, 163, 171, 179, 187, 195, 200, 208] (Int32.ofNat 9) = 151 from rfl, t237_151 _ _ hG]
      rfl
    · rw [show zsw 1 213 0 17 #[87, 94, 101, 108, 115, 122, 129, 134, 142, 150, 158, 163, 171, 179, 187, 195, 200, 208] (Int32.ofNat 10) = 159 from rfl, t237_159 _ _ hG, r181 (n := nD (emR M)) hG hE, Option.bind_some]
      dsimp only [zps]
      rw [t237_163 _ _ _ hG]
      rfl
    · rw [show zsw 1 213 0 17 #[87, 94, 101, 108, 115, 122, 129, 134, 142, 150, 158, 163, 171, 179, 187, 195, 200, 208] (Int32.ofNat 11) = 164 from rfl, t237_164 _ _ hG]
      rfl
    · rw [show zsw 1 213 0 17 #[87, 94, 101, 108, 115, 122, 129, 134, 142, 150, 158, 163, 171, 179, 187, 195, 200, 208] (Int32.ofNat 12) = 172 from rfl, t237_172 _ _ hG]
      rfl
    · rw [show zsw 1 213 0 17 #[87, 94, 101, 108, 115, 122, 129, 134, 142, 150, 158, 163, 171, 179, 187, 195, 200, 208] (Int32.ofNat 13) = 180 from rfl, t237_180 _ _ hG]
      rfl
    · rw [show zsw 1 213 0 17 #[87, 94, 101, 108, 115, 122, 129, 134, 142, 150, 158, 163, 171, 179, 187, 195, 200, 208] (Int32.ofNat 14) = 188 from rfl, t237_188 _ _ hG]
      rfl
    · rw [show zsw 1 213 0 17 #[87, 94, 101, 108, 115, 122, 129, 134, 142, 150, 158, 163, 171, 179, 187, 195, 200, 208] (Int32.ofNat 15) = 196 from rfl, t237_196 _ _ hG]
      rfl
    · rw [show zsw 1 213 0 17 #[87, 94, 101, 108, 115, 122, 129, 134, 142, 150, 158, 163, 171, 179, 187, 195, 200, 208] (Int32.ofNat 16) = 201 from rfl, t237_201 _ _ hG]
      rfl
    · rw [show zsw 1 213 0 17 #[87, 94, 101, 108, 115, 122, 129, 134, 142, 150, 158, 163, 171, 179, 187, 195, 200, 208] (Int32.ofNat 17) = 209 from rfl, t237_209 _ _ hG]
      rfl
def pBit (x : Int32) (k : Nat) : Int32 := bif pb x k then 1 else 0
theorem pBit_e {x : Int32} {k : Nat} : (x >>> (Int32.ofNat k &&& 31)) &&& (1 : Int32) = pBit x k := by
  unfold pBit
  cases h : pb x k
  · rw [pb_f h]; rfl
  · rw [pb_t1 h]; rfl
def pAsk (q : Nat) (n : Int32) (V : Nat → List Int32) (no b w : Int32) : Int32 := if b < 0 ∨ n ≤ b then no else pPick q (V b.toNatClampNeg) no w
theorem s105 {X : (Nat → Int32) × Nat} {d : Nat} {x w : Int32} {M : zM} (hG : zGE M) (hE : okE (emD 40 M)) : zC X (d + 1) 105 [.ref 0, .int x, .int w] M = some (some (.int (pAsk 3 (emD 40 M 0 1) (fun b => [emD 40 M 4 b, emD 40 M 5 b, emD 40 M 6 b, pBit (aD 40 67 M 7) b]) (-1) x w)), M) := by
  show zR X (d + 1) 105 (0, [.ref 0, .int x, .int w], [], M) = _
  obtain ⟨hn, hc⟩ := okE_G hE
  have hc' : emD 40 M 0 1 = Int32.ofNat (nG (emD 40 M)) := (emD_0 (by decide)).trans hc
  unfold pAsk
  rw [t105_0 _ _ _ hG, s12y (c := 1) (y := 1) rfl hG zq_40 (by omega), Option.bind_some]
  dsimp only [zps]
  rw [t105_12 _ _ _ _ hG]
  by_cases c0 : x < 0 ∨ emD 40 M 0 1 ≤ x
  · rw [if_pos c0, if_pos c0, if_neg (by decide)]
  · obtain ⟨e1, e2⟩ := of_has (c := 1) (by omega) hc' c0
    rw [if_neg c0, if_neg c0, if_pos (by decide)]
    unfold pPick
    generalize x.toNatClampNeg = b at e1 e2 ⊢
    subst e1
    have bb : (Int32.ofNat b).toNatClampNeg = b := toNat_of (by omega)
    by_cases c : w < 0 ∨ Int32.ofNat 3 < w
    · rw [zsw_o (hi := 3) (out_of (n := 3) (by omega) c), if_pos c, show ((18 : Nat) + 90 : Int).toNat = 108 from rfl, t105_108 _ _ _ hG]
    · obtain ⟨g1, g2, g3⟩ := of_range (x := w) (a := 0) (b := 3) (by omega) (by omega) c
      rw [if_neg c]
      generalize w.toNatClampNeg = k at g1 g2 g3 ⊢
      subst g1
      rcases (show k = 0 ∨ k = 1 ∨ k = 2 ∨ k = 3 by omega) with rfl | rfl | rfl | rfl
      · rw [show zsw 18 90 0 3 #[30, 45, 60, 75] (Int32.ofNat 0) = 48 from rfl, t105_48 _ _ _ hG (vp_of (by omega) (by omega)), bb]
        have e : emD 40 M 4 b = M.1 46 b := emD_G (by omega) (by omega)
        rw [← e]
        rfl
      · rw [show zsw 18 90 0 3 #[30, 45, 60, 75] (Int32.ofNat 1) = 63 from rfl, t105_63 _ _ _ hG (vp_of (by omega) (by omega)), bb]
        have e : emD 40 M 5 b = M.1 47 b := emD_G (by omega) (by omega)
        rw [← e]
        rfl
      · rw [show zsw 18 90 0 3 #[30, 45, 60, 75] (Int32.ofNat 2) = 78 from rfl, t105_78 _ _ _ hG (vp_of (by omega) (by omega)), bb]
        have e : emD 40 M 6 b = M.1 48 b := emD_G (by omega) (by omega)
        rw [← e]
        rfl
      · rw [show zsw 18 90 0 3 #[30, 45, 60, 75] (Int32.ofNat 3) = 93 from rfl, t105_93 _ _ _ hG, pBit_e]
        rfl
theorem s106 {X : (Nat → Int32) × Nat} {d : Nat} {x w : Int32} {M : zM} (hG : zGE M) (hE : okE (emD 40 M)) : zC X (d + 1) 106 [.ref 0, .int x, .int w] M = some (some (.int (pAsk 2 (emD 40 M 0 4) (fun b => [aD 40 67 M (10 + b), emD 40 M 14 b, if aD 40 67 M 3 = Int32.ofNat b then 1 else 0]) (-1) x w)), M) := by
  show zR X (d + 1) 106 (0, [.ref 0, .int x, .int w], [], M) = _
  obtain ⟨hn, hc⟩ := emD_D hE
  have hc' : emD 40 M 0 4 = Int32.ofNat (nD (emD 40 M)) := (emD_0 (by decide)).trans hc
  unfold pAsk
  rw [t106_0 _ _ _ hG, s12y (c := 4) (y := 4) rfl hG zq_40 (by omega), Option.bind_some]
  dsimp only [zps]
  rw [t106_12 _ _ _ _ hG]
  by_cases c0 : x < 0 ∨ emD 40 M 0 4 ≤ x
  · rw [if_pos c0, if_pos c0, if_neg (by decide)]
  · obtain ⟨e1, e2⟩ := of_has (c := 4) (by omega) hc' c0
    rw [if_neg c0, if_neg c0, if_pos (by decide)]
    unfold pPick
    generalize x.toNatClampNeg = b at e1 e2 ⊢
    subst e1
    have bb : (Int32.ofNat b).toNatClampNeg = b := toNat_of (by omega)
    by_cases c : w < 0 ∨ Int32.ofNat 2 < w
    · rw [zsw_o (hi := 2) (out_of (n := 2) (by omega) c), if_pos c, show ((18 : Nat) + 75 : Int).toNat = 93 from rfl, t106_93 _ _ _ hG]
    · obtain ⟨g1, g2, g3⟩ := of_range (x := w) (a := 0) (b := 2) (by omega) (by omega) c
      rw [if_neg c]
      generalize w.toNatClampNeg = k at g1 g2 g3 ⊢
      subst g1
      rcases (show k = 0 ∨ k = 1 ∨ k = 2 by omega) with rfl | rfl | rfl
      · rw [show zsw 18 75 0 2 #[26, 39, 55] (Int32.ofNat 0) = 44 from rfl, t106_44 _ _ _ hG (vp_of (by omega) (by omega)), bb]
        have e : aD 40 67 M (10 + b) = M.1 68 b := stD_p e2
        rw [← e]
        rfl
      · rw [show zsw 18 75 0 2 #[26, 39, 55] (Int32.ofNat 1) = 57 from rfl, t106_57 _ _ _ hG (vp_of (by omega) (by omega)), bb]
        have e : emD 40 M 14 b = M.1 56 b := emD_B e2
        rw [← e]
        rfl
      · rw [show zsw 18 75 0 2 #[26, 39, 55] (Int32.ofNat 2) = 73 from rfl, t106_73 _ _ _ hG]
        show _ = some (some (Value.int (if M.1 67 3 = Int32.ofNat b then 1 else 0)), M)
        by_cases cc : M.1 67 3 = Int32.ofNat b
        · rw [if_neg (not_not_intro cc), if_pos cc]
        · rw [if_pos cc, if_neg cc]
theorem s107 {X : (Nat → Int32) × Nat} {d : Nat} {x w : Int32} {M : zM} (hG : zGE M) (hE : okE (emD 40 M)) : zC X (d + 3) 107 [.ref 0, .int x, .int w] M = some (some (.int (pAsk 5 (emD 40 M 0 2) (fun b => [emD 40 M 7 b, emD 40 M 8 b, emD 40 M 9 b, pBit (aD 40 67 M 8) b, pBit (aD 40 67 M 9) b, pComes (emD 40 M) (aD 40 67 M) b]) (-2) x w)), M) := by
  show zR X (d + 3) 107 (0, [.ref 0, .int x, .int w], [], M) = _
  obtain ⟨hn, hc⟩ := okE_N hE
  have hc' : emD 40 M 0 2 = Int32.ofNat (nN (emD 40 M)) := (emD_0 (by decide)).trans hc
  unfold pAsk
  rw [t107_0 _ _ _ hG, s12y (c := 2) (y := 2) rfl hG zq_40 (by omega), Option.bind_some]
  dsimp only [zps]
  rw [t107_12 _ _ _ _ hG]
  by_cases c0 : x < 0 ∨ emD 40 M 0 2 ≤ x
  · rw [if_pos c0, if_pos c0, if_neg (by decide)]
  · obtain ⟨e1, e2⟩ := of_has (c := 2) (by omega) hc' c0
    rw [if_neg c0, if_neg c0, if_pos (by decide)]
    unfold pPick
    generalize x.toNatClampNeg = b at e1 e2 ⊢
    subst e1
    have bb : (Int32.ofNat b).toNatClampNeg = b := toNat_of (by omega)
    by_cases c : w < 0 ∨ Int32.ofNat 5 < w
    · rw [zsw_o (hi := 5) (out_of (n := 5) (by omega) c), if_pos c, show ((19 : Nat) + 134 : Int).toNat = 153 from rfl, t107_153 _ _ _ hG]
    · obtain ⟨g1, g2, g3⟩ := of_range (x := w) (a := 0) (b := 5) (by omega) (by omega) c
      rw [if_neg c]
      generalize w.toNatClampNeg = k at g1 g2 g3 ⊢
      subst g1
      rcases (show k = 0 ∨ k = 1 ∨ k = 2 ∨ k = 3 ∨ k = 4 ∨ k = 5 by omega) with rfl | rfl | rfl | rfl | rfl | rfl
      · rw [show zsw 19 134 0 5 #[37, 53, 69, 85, 100, 115] (Int32.ofNat 0) = 56 from rfl, t107_56 _ _ _ hG (vp_of (by omega) (by omega)), bb]
        have e : emD 40 M 7 b = M.1 49 b := emD_N (by omega) e2
        rw [← e]
        rfl
      · rw [show zsw 19 134 0 5 #[37, 53, 69, 85, 100, 115] (Int32.ofNat 1) = 72 from rfl, t107_72 _ _ _ hG (vp_of (by omega) (by omega)), bb]
        have e : emD 40 M 8 b = M.1 50 b := emD_N (by omega) e2
        rw [← e]
        rfl
      · rw [show zsw 19 134 0 5 #[37, 53, 69, 85, 100, 115] (Int32.ofNat 2) = 88 from rfl, t107_88 _ _ _ hG (vp_of (by omega) (by omega)), bb]
        have e : emD 40 M 9 b = M.1 51 b := emD_N (by omega) e2
        rw [← e]
        rfl
      · rw [show zsw 19 134 0 5 #[37, 53, 69, 85, 100, 115] (Int32.ofNat 3) = 104 from rfl, t107_104 _ _ _ hG, pBit_e]
        rfl
      · rw [show zsw 19 134 0 5 #[37, 53, 69, 85, 100, 115] (Int32.ofNat 4) = 119 from rfl, t107_119 _ _ _ hG, pBit_e]
        rfl
      · rw [show zsw 19 134 0 5 #[37, 53, 69, 85, 100, 115] (Int32.ofNat 5) = 134 from rfl, t107_134 _ _ _ hG, s77 (n := nD (emD 40 M)) hG zq_67 zq_40 hE e2, Option.bind_some]
        dsimp only [zps]
        rw [t107_152 _ _ _ _ hG]
        rfl
theorem r135c {X : (Nat → Int32) × Nat} {d n : Nat} {x : Int32} {M : zM} (hG : zGE M) (hn : n < 2147483648) : zC X d 135 [.long x.toInt64, .long 0, .long (Int32.ofNat n - 1).toInt64] M = some (some (.int (if x < 0 ∨ Int32.ofNat n ≤ x then 0 else 1)), M) := by
  rw [r135i (y := 0) (a := 0) (b := Int32.ofNat n - 1) hG rfl rfl]
  simp only [cnt_lt hn]
theorem r185 {X : (Nat → Int32) × Nat} {d : Nat} {x w : Int32} {M : zM} (hM : okM M) : zC X (d + 1) 185 [.ref 460, .int x, .int w] M = some (some (.int (pAsk 3 (emR M 0 1) (fun b => [emR M 4 b, emR M 5 b, emR M 6 b, pBit (aR M 7) b]) (-1) x w)), M) := by
  show zR X (d + 1) 185 (0, [.ref 460, .int x, .int w], [], M) = _
  have hG := hM.1
  obtain ⟨hn, hc'⟩ := okR_G hM.2.1
  have h4 : M.1 461 2 = emR M 0 1 := rfl
  unfold pAsk
  rw [t185_0 _ _ _ hG, hc', r135c hG (by omega), ← hc', h4, Option.bind_some]
  dsimp only [zps]
  rw [t185_15 _ _ _ _ hG]
  by_cases c0 : x < 0 ∨ emR M 0 1 ≤ x
  · rw [if_pos c0, if_pos c0, if_neg (by decide)]
  · obtain ⟨e1, e2⟩ := of_has (c := 1) (by omega) (h4.symm.trans hc') c0
    rw [if_neg c0, if_neg c0, if_pos (by decide)]
    unfold pPick
    generalize x.toNatClampNeg = b at e1 e2 ⊢
    subst e1
    have bb : (Int32.ofNat b).toNatClampNeg = b := toNat_of (by omega)
    by_cases c : w < 0 ∨ Int32.ofNat 3 < w
    · rw [zsw_o (hi := 3) (out_of (n := 3) (by omega) c), if_pos c, show ((21 : Nat) + 72 : Int).toNat = 93 from rfl, t185_93 _ _ _ hG]
    · obtain ⟨g1, g2, g3⟩ := of_range (x := w) (a := 0) (b := 3) (by omega) (by omega) c
      rw [if_neg c]
      generalize w.toNatClampNeg = k at g1 g2 g3 ⊢
      subst g1
      rcases (show k = 0 ∨ k = 1 ∨ k = 2 ∨ k = 3 by omega) with rfl | rfl | rfl | rfl
      · rw [show zsw 21 72 0 3 #[31, 38, 45, 52] (Int32.ofNat 0) = 52 from rfl, t185_52 _ _ _ hG (vp_of (by omega) (by omega)), bb]
        have e : emR M 4 b = M.1 463 b := emR_G (by omega) e2
        rw [← e]
        rfl
      · rw [show zsw 21 72 0 3 #[31, 38, 45, 52] (Int32.ofNat 1) = 59 from rfl, t185_59 _ _ _ hG (vp_of (by omega) (by omega)), bb]
        have e : emR M 5 b = M.1 464 b := emR_G (by omega) e2
        rw [← e]
        rfl
      · rw [show zsw 21 72 0 3 #[31, 38, 45, 52] (Int32.ofNat 2) = 66 from rfl, t185_66 _ _ _ hG (vp_of (by omega) (by omega)), bb]
        have e : emR M 6 b = M.1 465 b := emR_G (by omega) e2
        rw [← e]
        rfl
      · rw [show zsw 21 72 0 3 #[31, 38, 45, 52] (Int32.ofNat 3) = 73 from rfl, t185_73 _ _ _ hG, r136 hG, Option.bind_some]
        dsimp only [zps]
        rw [t185_84 _ _ _ _ hG]
        show _ = some (some (Value.int (pBit (M.1 461 12) b)), M)
        unfold pBit
        cases pb (M.1 461 12) b
        · rw [cond_false, if_pos rfl]
        · rw [cond_true, if_neg (by decide)]
theorem r186 {X : (Nat → Int32) × Nat} {d : Nat} {x w : Int32} {M : zM} (hM : okM M) : zC X (d + 2) 186 [.ref 460, .int x, .int w] M = some (some (.int (pAsk 2 (emR M 0 4) (fun b => [aR M (10 + b), emR M 14 b, if aR M 3 = Int32.ofNat b then 1 else 0]) (-1) x w)), M) := by
  show zR X (d + 2) 186 (0, [.ref 460, .int x, .int w], [], M) = _
  have hG := hM.1
  obtain ⟨hn, hc'⟩ := okR_D hM.2.1
  unfold pAsk
  rw [t186_0 _ _ _ hG, r137 hG hM.2.1, Option.bind_some]
  dsimp only [zps]
  rw [t186_5 _ _ _ _ hG]
  by_cases c0 : x < 0 ∨ emR M 0 4 ≤ x
  · rw [if_pos c0, if_pos c0, if_neg (by decide)]
  · obtain ⟨e1, e2⟩ := of_has (c := 4) (by omega) hc' c0
    rw [if_neg c0, if_neg c0, if_pos (by decide)]
    unfold pPick
    generalize x.toNatClampNeg = b at e1 e2 ⊢
    subst e1
    have bb : (Int32.ofNat b).toNatClampNeg = b := toNat_of (by omega)
    by_cases c : w < 0 ∨ Int32.ofNat 2 < w
    · rw [zsw_o (hi := 2) (out_of (n := 2) (by omega) c), if_pos c, show ((11 : Nat) + 56 : Int).toNat = 67 from rfl, t186_67 _ _ _ hG]
    · obtain ⟨g1, g2, g3⟩ := of_range (x := w) (a := 0) (b := 2) (by omega) (by omega) c
      rw [if_neg c]
      generalize w.toNatClampNeg = k at g1 g2 g3 ⊢
      subst g1
      rcases (show k = 0 ∨ k = 1 ∨ k = 2 by omega) with rfl | rfl | rfl
      · rw [show zsw 11 56 0 2 #[25, 32, 39] (Int32.ofNat 0) = 36 from rfl, t186_36 _ _ _ hG (vp_of (by omega) (by omega)), bb]
        have e : aR M (10 + b) = M.1 462 b := stR_p e2
        rw [← e]
        rfl
      · rw [show zsw 11 56 0 2 #[25, 32, 39] (Int32.ofNat 1) = 43 from rfl, t186_43 _ _ _ hG (vp_of (by omega) (by omega)), bb]
        have e : emR M 14 b = M.1 466 b := emR_B e2
        rw [← e]
        rfl
      · rw [show zsw 11 56 0 2 #[25, 32, 39] (Int32.ofNat 2) = 50 from rfl, t186_50 _ _ _ hG]
        show _ = some (some (Value.int (if M.1 461 7 = Int32.ofNat b then 1 else 0)), M)
        by_cases cc : M.1 461 7 = Int32.ofNat b
        · rw [if_neg (not_not_intro cc), if_pos cc]
        · rw [if_pos cc, if_neg cc]
theorem r187 {X : (Nat → Int32) × Nat} {d : Nat} {x w : Int32} {M : zM} (hM : okM M) : zC X (d + 2) 187 [.ref 460, .int x, .int w] M = some (some (.int (pAsk 5 (emR M 0 2) (fun b => [emR M 7 b, emR M 8 b, emR M 9 b, pBit (aR M 8) b, pBit (aR M 9) b, pComes (emR M) (aR M) b]) (-2) x w)), M) := by
  show zR X (d + 2) 187 (0, [.ref 460, .int x, .int w], [], M) = _
  have hG := hM.1
  obtain ⟨hn, hc'⟩ := okR_N hM.2.1
  unfold pAsk
  rw [t187_0 _ _ _ hG, r138 hG hM.2.1, Option.bind_some]
  dsimp only [zps]
  rw [t187_5 _ _ _ _ hG]
  by_cases c0 : x < 0 ∨ emR M 0 2 ≤ x
  · rw [if_pos c0, if_pos c0, if_neg (by decide)]
  · obtain ⟨e1, e2⟩ := of_has (c := 2) (by omega) hc' c0
    rw [if_neg c0, if_neg c0, if_pos (by decide)]
    unfold pPick
    generalize x.toNatClampNeg = b at e1 e2 ⊢
    subst e1
    have bb : (Int32.ofNat b).toNatClampNeg = b := toNat_of (by omega)
    by_cases c : w < 0 ∨ Int32.ofNat 5 < w
    · rw [zsw_o (hi := 5) (out_of (n := 5) (by omega) c), if_pos c, show ((12 : Nat) + 107 : Int).toNat = 119 from rfl, t187_119 _ _ _ hG]
    · obtain ⟨g1, g2, g3⟩ := of_range (x := w) (a := 0) (b := 5) (by omega) (by omega) c
      rw [if_neg c]
      generalize w.toNatClampNeg = k at g1 g2 g3 ⊢
      subst g1
      rcases (show k = 0 ∨ k = 1 ∨ k = 2 ∨ k = 3 ∨ k = 4 ∨ k = 5 by omega) with rfl | rfl | rfl | rfl | rfl | rfl
      · rw [show zsw 12 107 0 5 #[40, 47, 54, 61, 81, 101] (Int32.ofNat 0) = 52 from rfl, t187_52 _ _ _ hG (vp_of (by omega) (by omega)), bb]
        have e : emR M 7 b = M.1 467 b := emR_N (by omega) e2
        rw [← e]
        rfl
      · rw [show zsw 12 107 0 5 #[40, 47, 54, 61, 81, 101] (Int32.ofNat 1) = 59 from rfl, t187_59 _ _ _ hG (vp_of (by omega) (by omega)), bb]
        have e : emR M 8 b = M.1 468 b := emR_N (by omega) e2
        rw [← e]
        rfl
      · rw [show zsw 12 107 0 5 #[40, 47, 54, 61, 81, 101] (Int32.ofNat 2) = 66 from rfl, t187_66 _ _ _ hG (vp_of (by omega) (by omega)), bb]
        have e : emR M 9 b = M.1 469 b := emR_N (by omega) e2
        rw [← e]
        rfl
      · rw [show zsw 12 107 0 5 #[40, 47, 54, 61, 81, 101] (Int32.ofNat 3) = 73 from rfl, t187_73 _ _ _ hG, r136 hG, Option.bind_some]
        dsimp only [zps]
        rw [t187_84 _ _ _ _ hG]
        show _ = some (some (Value.int (pBit (M.1 461 13) b)), M)
        unfold pBit
        cases pb (M.1 461 13) b
        · rw [cond_false, if_pos rfl]
        · rw [cond_true, if_neg (by decide)]
      · rw [show zsw 12 107 0 5 #[40, 47, 54, 61, 81, 101] (Int32.ofNat 4) = 93 from rfl, t187_93 _ _ _ hG, r136 hG, Option.bind_some]
        dsimp only [zps]
        rw [t187_104 _ _ _ _ hG]
        show _ = some (some (Value.int (pBit (M.1 461 14) b)), M)
        unfold pBit
        cases pb (M.1 461 14) b
        · rw [cond_false, if_pos rfl]
        · rw [cond_true, if_neg (by decide)]
      · rw [show zsw 12 107 0 5 #[40, 47, 54, 61, 81, 101] (Int32.ofNat 5) = 113 from rfl, t187_113 _ _ _ hG, r184 (n := nD (emR M)) hG hM.2.1 hM.2.2 e2, Option.bind_some]
        dsimp only [zps]
        rw [t187_118 _ _ _ _ hG]
        rfl
