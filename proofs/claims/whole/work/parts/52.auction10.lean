/-! ===== a sale as both hold it ===== -/
/-- what the reference may use while it tries things out -/
def zwk (M M' : zM) : Prop := M'.2.2 = M.2.2 ∧ (∀ a, ¬ (460 ≤ a ∧ a ≤ 462) → ¬ (494 ≤ a ∧ a ≤ 496) → ¬ (498 ≤ a ∧ a ≤ 502) → M'.1 a = M.1 a ∧ M'.2.1 a = M.2.1 a) ∧ (∀ k, ¬ (47 ≤ k ∧ k ≤ 51) → ¬ (56 ≤ k ∧ k ≤ 57) → ¬ 64 ≤ k → M'.1 460 k = M.1 460 k) ∧ (∀ k, (∀ i, i < 10 → prm i ≠ k) → k ≠ 16 → k ≠ 17 → M'.1 461 k = M.1 461 k) ∧ ∀ k, k < 2200 → M'.1 502 k = M.1 502 k
theorem zwk_rf {M : zM} : zwk M M := ⟨rfl, fun _ _ _ _ => ⟨rfl, rfl⟩, fun _ _ _ _ => rfl, fun _ _ _ _ => rfl, fun _ _ => rfl⟩
theorem zwk_tr {M M' M'' : zM} (h1 : zwk M M') (h2 : zwk M' M'') : zwk M M'' :=
  ⟨h2.1.trans h1.1, fun a q1 q2 q3 => ⟨(h2.2.1 a q1 q2 q3).1.trans (h1.2.1 a q1 q2 q3).1, (h2.2.1 a q1 q2 q3).2.trans (h1.2.1 a q1 q2 q3).2⟩, fun k q1 q2 q3 => (h2.2.2.1 k q1 q2 q3).trans (h1.2.2.1 k q1 q2 q3), fun k q1 q2 q3 => (h2.2.2.2.1 k q1 q2 q3).trans (h1.2.2.2.1 k q1 q2 q3), fun k hk => (h2.2.2.2.2 k hk).trans (h1.2.2.2.2 k hk)⟩
theorem zwk_G {M M' : zM} (h : zwk M M') (hG : zGE M) : zGE M' := zGE_of hG h.1
theorem zwk_s {M M' : zM} (h : zfs M M') : zwk M M' :=
  ⟨h.1.1, fun a q1 q2 q3 => h.1.2 a (by omega), fun k _ _ _ => by rw [(h.1.2 460 (by omega)).1], fun k q1 _ _ => h.2 k q1, fun k _ => by rw [(h.1.2 502 (by omega)).1]⟩
theorem zwk_q {M M' : zM} (h : zfq M M') : zwk M M' :=
  ⟨h.1, fun a q1 q2 q3 => h.2.1 a (by omega) (by omega) (by omega), fun k q1 q2 q3 => h.2.2 k (by omega), fun k _ _ _ => by rw [zfq_c h (by decide) (by decide) (by decide)], fun k _ => by rw [zfq_c h (by decide) (by decide) (by decide)]⟩
theorem zwk_c {M M' : zM} (h : zwk M M') {a : Nat} (q1 : ¬ (460 ≤ a ∧ a ≤ 462)) (q2 : ¬ (494 ≤ a ∧ a ≤ 496)) (q3 : ¬ (498 ≤ a ∧ a ≤ 502)) : M'.1 a = M.1 a := (h.2.1 a q1 q2 q3).1
theorem zwk_k {M M' : zM} (h : zwk M M') {k : Nat} (hk : k = 1 ∨ k = 2 ∨ k = 3 ∨ k = 4 ∨ k = 5 ∨ k = 15) : M'.1 461 k = M.1 461 k := by
  refine h.2.2.2.1 k (fun i hi e => ?_) (by omega) (by omega)
  have : ∀ i, i < 10 → prm i = 0 ∨ (6 ≤ prm i ∧ prm i < 15) := by decide
  have := this i hi
  omega
theorem zwk_em {M M' : zM} (h : zwk M M') : emR M' = emR M := by
  have hrc : ∀ r, r < 16 → rcn r = 0 ∨ (463 ≤ rcn r ∧ rcn r ≤ 493) := by decide
  have e25 : M'.1 460 25 = M.1 460 25 := h.2.2.1 25 (by omega) (by omega) (by omega)
  have e70 : M'.1 470 = M.1 470 := zwk_c h (by decide) (by decide) (by decide)
  have e93 : M'.1 493 = M.1 493 := zwk_c h (by decide) (by decide) (by decide)
  have k1 := zwk_k h (k := 1) (by omega)
  have k2 := zwk_k h (k := 2) (by omega)
  have k3 := zwk_k h (k := 3) (by omega)
  have k4 := zwk_k h (k := 4) (by omega)
  have k5 := zwk_k h (k := 5) (by omega)
  have hct : ∀ r, rct M' r = rct M r := fun r => by unfold rct; rw [e25, k2, k3, k4]
  funext r j
  unfold emR
  rw [hct, e25, k1, k2, k3, k4, k5, e70, e93]
  by_cases g2 : r < 16
  · rw [zwk_c h (show ¬ (460 ≤ rcn r ∧ rcn r ≤ 462) by have := hrc r g2; omega) (show ¬ (494 ≤ rcn r ∧ rcn r ≤ 496) by have := hrc r g2; omega) (show ¬ (498 ≤ rcn r ∧ rcn r ≤ 502) by have := hrc r g2; omega)]
  · rw [if_neg g2, if_neg g2]
theorem zwk_W {M M' : zM} (h : zwk M M') (hW : okW M) : okW M' := fun c hc => by
  rw [zwk_c h (a := 470) (by decide) (by decide) (by decide)]
  exact hW c hc
theorem zwk_96 {M M' : zM} (h2 : M'.2 = M.2) (hc : ∀ c, c ≠ 496 → M'.1 c = M.1 c) : zwk M M' :=
  ⟨by rw [h2], fun a q1 q2 q3 => ⟨hc a (by omega), by rw [h2]⟩, fun k _ _ _ => by rw [hc 460 (by decide)], fun k _ _ _ => by rw [hc 461 (by decide)], fun k _ => by rw [hc 502 (by decide)]⟩
/-- by what is bid: none, what they dare; else a rule -/
def pBid (o : Option (List zCl)) (P D : Nat → Int32) (j men tr day : Int32) (n : Nat) : zS → Nat → Int64 := match o with
  | none => pDare D j
  | some cls => fun S b => pTold (pW P D j men tr day n S b) cls
def pWon (E : zE) (A : zA) (D : Nat → Int32) (o : Option (List zCl)) : zS :=
  pSale (nD E) (E 2 0) (pBid o (fun b => A (10 + b)) D (E 2 0) (pMen E A) (A 0) (A 2) (nD E)) 7992 0 pS0
/-- an empire that is told -/
def okT (E : zE) : Prop := E 0 0 = 1 ∧ ∃ jj, 1 ≤ jj ∧ jj ≤ 9 ∧ E 2 0 = Int32.ofNat jj
theorem pWc {P P' D D' : Nat → Int32} {j men tr day : Int32} {n : Nat} {S : zS} {b : Nat} (hP : P b = P' b) (hD : D b = D' b) : pW P D j men tr day n S b = pW P' D' j men tr day n S b := by
  funext w
  unfold pW
  rw [hP, hD]
theorem pBid_c {o : Option (List zCl)} {P P' D D' : Nat → Int32} {j men tr day : Int32} {n : Nat} (hP : ∀ b, b < n → P b = P' b) (hD : ∀ b, b < n → D b = D' b) : ∀ S b, b < n → pBid o P D j men tr day n S b = pBid o P' D' j men tr day n S b := by
  intro S b hb
  cases o with
  | none =>
    show pDare D j S b = pDare D' j S b
    unfold pDare
    rw [hD b hb]
  | some cls =>
    show pTold (pW P D j men tr day n S b) cls = pTold (pW P' D' j men tr day n S b) cls
    rw [pWc (hP b hb) (hD b hb)]
theorem emD_T {e : Nat} {M : zM} (hT : okT (emD e M)) : M.1 (e + 4) 0 = emD e M 2 0 := by
  have h0 : M.1 (e + 1) 0 = 1 := by rw [← hT.1]; exact (emD_0 (by decide)).symm
  refine (emD_c (r := 2) (by decide) (by decide) (by decide) ?_).symm
  rw [show (2 - 1) / 3 = 0 from rfl, h0]
  decide
theorem emR_T {M : zM} (hT : okT (emR M)) : M.1 461 1 = emR M 2 0 := by
  have h0 : M.1 460 25 = 1 := hT.1
  unfold emR
  rw [if_neg (by decide), if_pos (by decide), if_neg (by decide), if_pos (by unfold rct; rw [if_pos (by decide), h0]; decide), if_pos rfl]
/-- the class' sale, by what they dare -/
theorem s3n {X : (Nat → Int32) × Nat} {d a e s : Nat} {M : zM} {D : Nat → Int32} (hG : zGE M) (ha : zqk a 0 = true) (he : zqk e 1 = true) (hs : zqk s 9 = true) (hap : e + 27 ≤ a ∨ a + 5 ≤ e) (hap2 : s + 2 ≤ a ∨ a + 5 ≤ s) (hE : okE (emD e M)) (hT : okT (emD e M)) (hD : ∀ b, b < nD (emD e M) → M.1 (a + 1) b = D b) : ∃ M', zC X (d + 2) 3 [.ref a, .ref e, .ref s, .null] M = some (none, M') ∧ zfr a (a + 5) M M' ∧ auD a M' = pWon (emD e M) (stD (nD (emD e M)) s M) D none ∧ M'.1 (a + 1) = M.1 (a + 1) := by
  have h0 := emD_T hT
  obtain ⟨jj, j1, j2, j3⟩ := hT.2
  obtain ⟨M', q1, q2, q3, q4⟩ := s3 (X := X) (d := d) hG ha he hs hap hap2 hE rfl (h0.trans j3) j1 j2
  refine ⟨M', q1, q2, ?_, q4⟩
  rw [q3]
  unfold pWon
  rw [j3]
  exact pSale_congr (pBid_c (o := none) (P := fun b => stD (nD (emD e M)) s M (10 + b)) (j := Int32.ofNat jj) (men := pMen (emD e M) (stD (nD (emD e M)) s M)) (tr := stD (nD (emD e M)) s M 0) (day := stD (nD (emD e M)) s M 2) (fun _ _ => rfl) hD) _ _ _
/-- .. by a rule -/
theorem s3r {X : (Nat → Int32) × Nat} {d a e s q : Nat} {M : zM} {D : Nat → Int32} {cls : List zCl} (hG : zGE M) (ha : zqk a 0 = true) (he : zqk e 1 = true) (hs : zqk s 9 = true) (hq : zqk q 7 = true) (hap : e + 27 ≤ a ∨ a + 5 ≤ e) (hap2 : s + 2 ≤ a ∨ a + 5 ≤ s) (hap3 : q + 3 ≤ a ∨ a + 5 ≤ q) (hE : okE (emD e M)) (hT : okT (emD e M)) (hD : ∀ b, b < nD (emD e M) → M.1 (a + 1) b = D b) (hcl : ruD M q 0 cls) (hok : ∀ c, c ∈ cls → okC c) : ∃ M', zC X (d + 2) 3 [.ref a, .ref e, .ref s, .ref q] M = some (none, M') ∧ zfr a (a + 5) M M' ∧ auD a M' = pWon (emD e M) (stD (nD (emD e M)) s M) D (some cls) ∧ M'.1 (a + 1) = M.1 (a + 1) := by
  have h0 := emD_T hT
  obtain ⟨jj, j1, j2, j3⟩ := hT.2
  have hn4 := (emD_D hE).1
  obtain ⟨M', q1, q2, q3, q4⟩ := s3R (X := X) (d := d) (bid := fun S b => pTold (pW (M.1 (s + 1)) (M.1 (a + 1)) (Int32.ofNat jj) (pMen (emD e M) (stD (nD (emD e M)) s M)) (M.1 s 0) (M.1 s 2) (nD (emD e M)) S b) cls) hG ha he hs hq hap hap2 hE rfl (h0.trans j3) j1 j2 (by
    intro M1 hf k1 k4 k5 k6 k7 k8 k9 b hb
    have hG1 := zfr_G hf hG
    have hr : ruD M1 q 0 cls := ruD_c (hf.2 q (by omega)).1 (hf.2 (q + 1) (by omega)).1 (hf.2 (q + 2) (by omega)).1 hcl
    obtain ⟨M2, w1, w2, w3⟩ := s7 (X := X) (d := d) (W := pWD a b M1) hG1 ha hq (show b < 4 by omega) (fun _ _ => rfl) hr hok
    refine ⟨M2, ?_, w3⟩
    rw [w1]
    have e : pWD a b M1 = pW (M.1 (s + 1)) (M.1 (a + 1)) (Int32.ofNat jj) (pMen (emD e M) (stD (nD (emD e M)) s M)) (M.1 s 0) (M.1 s 2) (nD (emD e M)) (auD a M1) b := by
      funext w
      unfold pWD pW
      rw [k9 b (by omega), k1, k4, k5, k6, k7, k8]
      rfl
    rw [e])
  refine ⟨M', q1, q2, ?_, q4⟩
  rw [q3]
  unfold pWon
  rw [j3]
  exact pSale_congr (fun S b hb => by
    show pTold _ cls = pTold _ cls
    have e1 : stD (nD (emD e M)) s M 0 = M.1 s 0 := rfl
    have e2 : stD (nD (emD e M)) s M 2 = M.1 s 2 := rfl
    rw [e1, e2]
    exact congrArg (fun q => pTold q cls) (pWc (stD_p hb).symm (hD b hb))) _ _ _
/-- what the reference bids by its rule -/
theorem r188r {X : (Nat → Int32) × Nat} {d n b r : Nat} {cls : List zCl} {M : zM} (hG : zGE M) (hE : okE (emR M)) (hn : nD (emR M) = n) (hb : b < n) (hp : M.1 460 51 = 0) (hr : r < 6) (hc : M.1 461 17 = Int32.ofNat r) (hcl : ruR M r 0 cls) (hok : ∀ c, c ∈ cls → okC c) : ∃ M', zC X (d + 4) 188 [.ref 460, .int (Int32.ofNat b)] M = some (some (.long (pTold (pW (M.1 462) (M.1 496) (M.1 461 1) (pMen (emR M) (stR n M)) (M.1 461 0) (M.1 461 6) n (auR M) b) cls)), M') ∧ zfr 494 496 M M' := by
  show ∃ M', zR X (d + 4) 188 (0, [.ref 460, .int (Int32.ofNat b)], [], M) = some (some (.long _), M') ∧ _
  obtain ⟨hn4, hcn⟩ := okR_D hE
  rw [hn] at hn4 hcn
  rw [t188_0 _ _ hG (fun _ => vp_of (by omega) (by omega)) (fun _ => vp_of (by omega) (by omega)), if_pos hp, toNat_of (by omega)]
  have f1 : zfr 494 496 M (zsL (zsL (zsL (zsL (zsL (zsL M 494 0 (Int32.ofNat b).toInt64) 494 1 (M.1 462 b).toInt64) 494 2 (M.1 496 b).toInt64) 494 3 (M.1 460 47).toInt64) 494 4 (M.1 460 48).toInt64) 494 5 (M.1 461 1).toInt64) := zfr_L (zfr_L (zfr_L (zfr_L (zfr_L (zfr_L zfr_rf (by omega) (by omega)) (by omega) (by omega)) (by omega) (by omega)) (by omega) (by omega)) (by omega) (by omega)) (by omega) (by omega)
  have hG1 := zfr_G f1 hG
  generalize hM1 : (zsL (zsL (zsL (zsL (zsL (zsL M 494 0 (Int32.ofNat b).toInt64) 494 1 (M.1 462 b).toInt64) 494 2 (M.1 496 b).toInt64) 494 3 (M.1 460 47).toInt64) 494 4 (M.1 460 48).toInt64) 494 5 (M.1 461 1).toInt64) = M1 at f1 hG1
  have e1 : M1.1 = M.1 := by rw [← hM1]; rfl
  have em : emR M1 = emR M := by unfold emR rct; rw [e1]
  have est : stR n M1 = stR n M := by unfold stR; rw [e1]
  rw [r181 (n := n) hG1 (by rw [em]; exact hE), Option.bind_some, em, est]
  dsimp only [zps]
  rw [t188_123 _ _ _ _ _ hG1 (zis_q hG1 zq_494) (by rw [zl_494]; exact vp_of (k := 6) (by omega) (by omega)), e1]
  have f2 : zfr 494 496 M (zsL (zsL (zsL M1 494 (6 : Int32).toNatClampNeg (pMen (emR M) (stR n M)).toInt64) 494 7 (M.1 461 0).toInt64) 494 8 (M.1 460 49).toInt64) := zfr_L (zfr_L (zfr_L f1 (by omega) (by omega)) (by omega) (by omega)) (by omega) (by omega)
  have hG2 := zfr_G f2 hG
  generalize hM2 : (zsL (zsL (zsL M1 494 (6 : Int32).toNatClampNeg (pMen (emR M) (stR n M)).toInt64) 494 7 (M.1 461 0).toInt64) 494 8 (M.1 460 49).toInt64) = M2 at f2 hG2
  have e2 : M2.1 = M.1 := by rw [← hM2]; exact e1
  have hpo : pOut (pb (M.1 460 50)) n = pOut (auR M).2.2.2 n := (pOut_c n (fun k hk => auR_f (by omega))).symm
  rw [r189 hG2 hn4 (by rw [e2]; exact hcn), Option.bind_some, e2, hpo]
  dsimp only [zps]
  rw [t188_161 _ _ _ _ _ hG2 (zis_q hG2 zq_494) (by rw [zl_494]; exact vp_of (k := 9) (by omega) (by omega)), e2]
  have f3 : zfr 494 496 M (zsL (zsL M2 494 (9 : Int32).toNatClampNeg (Int32.ofNat (pOut (auR M).2.2.2 n)).toInt64) 494 10 (M.1 461 6).toInt64) := zfr_L (zfr_L f2 (by omega) (by omega)) (by omega) (by omega)
  have hG3 := zfr_G f3 hG
  generalize hM3 : (zsL (zsL M2 494 (9 : Int32).toNatClampNeg (Int32.ofNat (pOut (auR M).2.2.2 n)).toInt64) 494 10 (M.1 461 6).toInt64) = M3 at f3 hG3
  have e3 : M3.1 = M.1 := by rw [← hM3]; exact e2
  obtain ⟨M4, w1, w2, w3⟩ := r177 (X := X) (d := d) (M := M3) (W := pW (M.1 462) (M.1 496) (M.1 461 1) (pMen (emR M) (stR n M)) (M.1 461 0) (M.1 461 6) n (auR M) b) hG3 hr (by rw [e3]; exact hc) (by
    intro w hw
    unfold pW
    have a47 : (auR M).1 = M.1 460 47 := rfl
    have a48 : (auR M).2.1 = M.1 460 48 := rfl
    have a49 : (auR M).2.2.1 = M.1 460 49 := rfl
    rw [← hM3, ← hM2, ← hM1, a47, a48, a49]
    have t6 : (6 : Int32).toNatClampNeg = 6 := by decide
    have t9 : (9 : Int32).toNatClampNeg = 9 := by decide
    simp only [zL_s, t6, t9]
    rcases (show w = 0 ∨ w = 1 ∨ w = 2 ∨ w = 3 ∨ w = 4 ∨ w = 5 ∨ w = 6 ∨ w = 7 ∨ w = 8 ∨ w = 9 ∨ w = 10 by omega) with rfl | rfl | rfl | rfl | rfl | rfl | rfl | rfl | rfl | rfl | rfl <;> rfl) (ruR_c e3 hcl) hok
  have hG4 := zfr_G w3 hG3
  rw [w1, Option.bind_some]
  dsimp only [zps]
  rw [t188_182 _ _ _ hG4]
  exact ⟨M4, rfl, zfr_tr f3 (zfr_up w3 (by omega) (by omega))⟩
/-- the reference's sale, by what they dare -/
theorem r191n {X : (Nat → Int32) × Nat} {d : Nat} {x : Int32} {M : zM} {D : Nat → Int32} (hG : zGE M) (hE : okE (emR M)) (hT : okT (emR M)) (hx : ¬ x = 0 ∨ M.1 461 17 = -1) (hD : ∀ b, b < nD (emR M) → M.1 496 b = D b) : ∃ M', zC X (d + 3) 191 [.ref 460, .int x] M = some (some (.int (pWon (emR M) (stR (nD (emR M)) M) D none).2.1), M') ∧ zfq M M' ∧ auR M' = pWon (emR M) (stR (nD (emR M)) M) D none := by
  have h0 := emR_T hT
  obtain ⟨jj, j1, j2, j3⟩ := hT.2
  obtain ⟨hn4, hcn⟩ := okR_D hE
  have e : pWon (emR M) (stR (nD (emR M)) M) D none = pSale (nD (emR M)) (Int32.ofNat jj) (pDare (M.1 496) (Int32.ofNat jj)) 7992 0 pS0 := by
    unfold pWon
    rw [j3]
    exact (pSale_congr (pBid_c (o := none) (P := fun b => stR (nD (emR M)) M (10 + b)) (j := Int32.ofNat jj) (men := pMen (emR M) (stR (nD (emR M)) M)) (tr := stR (nD (emR M)) M 0) (day := stR (nD (emR M)) M 2) (fun _ _ => rfl) hD) _ _ _).symm
  rw [e]
  exact r191 hG hn4 hcn (h0.trans j3) j1 j2 hx
/-- .. by a rule -/
theorem r191r {X : (Nat → Int32) × Nat} {d r : Nat} {M : zM} {D : Nat → Int32} {cls : List zCl} (hG : zGE M) (hE : okE (emR M)) (hT : okT (emR M)) (hr : r < 6) (hc : M.1 461 17 = Int32.ofNat r) (hD : ∀ b, b < nD (emR M) → M.1 496 b = D b) (hcl : ruR M r 0 cls) (hok : ∀ c, c ∈ cls → okC c) : ∃ M', zC X (d + 6) 191 [.ref 460, .int 0] M = some (some (.int (pWon (emR M) (stR (nD (emR M)) M) D (some cls)).2.1), M') ∧ zfq M M' ∧ auR M' = pWon (emR M) (stR (nD (emR M)) M) D (some cls) := by
  show ∃ M', zR X (d + 6) 191 (0, [.ref 460, .int 0], [], M) = some (some (.int _), M') ∧ _
  have h0 := emR_T hT
  obtain ⟨jj, j1, j2, j3⟩ := hT.2
  obtain ⟨hn4, hcn⟩ := okR_D hE
  have hf : zfq M (zsI M 460 51 0) := zfq_I zfq_rf (by omega) (by omega)
  have hG1 := zfq_G hf hG
  have hre : ∀ M1 : zM, zfq M M1 → ruR M1 r 0 cls := by
    intro M1 h
    have e1 := zfq_c h (a := 488) (by decide) (by decide) (by decide)
    have e2 := zfq_c h (a := 489) (by decide) (by decide) (by decide)
    have e3 := zfq_c h (a := 490) (by decide) (by decide) (by decide)
    have e4 := zfq_c h (a := 491) (by decide) (by decide) (by decide)
    have e5 := zfq_c h (a := 486) (by decide) (by decide) (by decide)
    have e6 := zfq_c h (a := 487) (by decide) (by decide) (by decide)
    exact ruR_q e1 e2 e3 e4 e5 e6 hcl
  obtain ⟨M', w1, w2, w3⟩ := r190 (X := X) (d := d + 3) (n := nD (emR M)) (jj := jj) (bid := pBid (some cls) (fun b => stR (nD (emR M)) M (10 + b)) D (emR M 2 0) (pMen (emR M) (stR (nD (emR M)) M)) (stR (nD (emR M)) M 0) (stR (nD (emR M)) M 2) (nD (emR M))) hG1 hn4 (by rw [zfq_c hf (by decide) (by decide) (by decide)]; exact hcn) (by rw [zfq_c hf (by decide) (by decide) (by decide)]; exact h0.trans j3) j1 j2 (by
    intro M1 hf1 h51 b hb
    have hf2 := zfq_tr hf hf1
    have em := zfq_em hf2
    have est := zfq_st hf2 (n := nD (emR M))
    have e61 : M1.1 461 = M.1 461 := zfq_c hf2 (by decide) (by decide) (by decide)
    have e62 : M1.1 462 = M.1 462 := zfq_c hf2 (by decide) (by decide) (by decide)
    have e96 : M1.1 496 = M.1 496 := zfq_c hf2 (by decide) (by decide) (by decide)
    obtain ⟨M2, q1, q2⟩ := r188r (X := X) (d := d) (n := nD (emR M)) (b := b) (r := r) (cls := cls) (M := M1) (zfq_G hf1 hG1) (by rw [em]; exact hE) (by rw [em]) hb (by rw [h51, zI_s, if_pos rfl]) hr (by rw [e61]; exact hc) (hre M1 hf2) hok
    refine ⟨M2, ?_, q2⟩
    rw [q1, em, est, e61, e62, e96, h0]
    show (some (some (Value.long (pTold _ cls)), M2) : Option zO) = some (some (Value.long (pTold _ cls)), M2)
    have e1 : stR (nD (emR M)) M 0 = M.1 461 0 := rfl
    have e2 : stR (nD (emR M)) M 2 = M.1 461 6 := rfl
    rw [e1, e2, pWc (stR_p hb) (hD b hb).symm])
  rw [t191_0 _ _ hG, if_neg (not_not_intro rfl), if_pos (by rw [hc]; exact ne_m1 (by omega)), w1, Option.bind_some]
  dsimp only [zps]
  rw [t191_28 _ _ _ (zfq_G w2 hG1)]
  have e : pWon (emR M) (stR (nD (emR M)) M) D (some cls) = pSale (nD (emR M)) (Int32.ofNat jj) (pBid (some cls) (fun b => stR (nD (emR M)) M (10 + b)) D (emR M 2 0) (pMen (emR M) (stR (nD (emR M)) M)) (stR (nD (emR M)) M 0) (stR (nD (emR M)) M 2) (nD (emR M))) 7992 0 pS0 := by
    unfold pWon
    rw [j3]
  rw [e]
  exact ⟨M', rfl, zfq_tr hf w2, w3⟩
