/-! ===== acts on how an empire stands ===== -/
theorem zu_c {A : zA} {j k : Nat} {a b : Int32} (h : ¬ j = k) : zu (zu A j a) k b = zu (zu A k b) j a := by
  funext i
  unfold zu
  by_cases h1 : i = k
  · rw [if_pos h1, if_neg (by omega), if_pos h1]
  · rw [if_neg h1]
    by_cases h2 : i = j
    · rw [if_pos h2, if_pos h2]
    · rw [if_neg h2, if_neg h2, if_neg h1]
def pCrown (A : zA) (who price : Int32) : zA := zu (zu (zu (zu A 3 who) 6 price) 5 (A 2)) 4 0
theorem s72 {X : (Nat → Int32) × Nat} {d n s : Nat} {w p : Int32} {M : zM} (hG : zGE M) (hs : zqk s 9 = true) : ∃ M', zC X d 72 [.ref s, .int w, .int p] M = some (none, M') ∧ zfr s (s + 2) M M' ∧ stD n s M' = pCrown (stD n s M) w p := by
  show ∃ M', zR X d 72 (0, [.ref s, .int w, .int p], [], M) = some (none, M') ∧ _
  rw [t72_0 _ _ _ _ hG hs]
  refine ⟨_, rfl, zfr_I (zfr_I (zfr_I (zfr_I zfr_rf (by omega) (by omega)) (by omega) (by omega)) (by omega) (by omega)) (by omega) (by omega), ?_⟩
  rw [stD_I (by decide), stD_I (by decide), stD_I (by decide), stD_I (by decide)]
  unfold pCrown
  rw [stD_f (show 2 < 10 by decide)]
theorem r193 {X : (Nat → Int32) × Nat} {d n : Nat} {w : Int32} {M : zM} (hG : zGE M) : ∃ M', zC X d 193 [.ref 460, .int w] M = some (none, M') ∧ zfs M M' ∧ stR n M' = pCrown (stR n M) w (M.1 460 47) := by
  show ∃ M', zR X d 193 (0, [.ref 460, .int w], [], M) = some (none, M') ∧ _
  rw [t193_0 _ _ hG]
  refine ⟨_, rfl, zfs_I (i := 4) (zfs_I (i := 6) (zfs_I (i := 5) (zfs_I (i := 3) zfs_rf (by decide)) (by decide)) (by decide)) (by decide), ?_⟩
  refine (stR_I (n := n) (k := 4) (by decide)).trans ?_
  refine (congrArg (fun q => zu q 4 0) (stR_I (n := n) (k := 6) (by decide))).trans ?_
  refine (congrArg (fun q => zu (zu q 6 _) 4 0) (stR_I (n := n) (k := 5) (by decide))).trans ?_
  refine (congrArg (fun q => zu (zu (zu q 5 _) 6 _) 4 0) (stR_I (n := n) (k := 3) (by decide))).trans ?_
  unfold pCrown
  rw [zu_c (j := 6) (k := 5) (by decide)]
  rfl
def pThin (A : zA) : zA := zu (zu A 0 (if Int32.ofNat 99999 < A 0 * A 1 / (A 1 - 10) then Int32.ofNat 99999 else A 0 * A 1 / (A 1 - 10))) 1 (A 1 - 10)
theorem s74 {X : (Nat → Int32) × Nat} {d n s : Nat} {M : zM} (hG : zGE M) (hs : zqk s 9 = true) : zC X d 74 [.ref s] M = some (some (.int (if stD n s M 1 ≤ 10 then 0 else 1)), M) := by
  show zR X d 74 (0, [.ref s], [], M) = _
  rw [t74_0 _ _ hG hs, stD_f (show 1 < 10 by decide)]
  by_cases h : M.1 s 1 ≤ 10
  · rw [if_pos h, if_pos h]
  · rw [if_neg h, if_neg h]
theorem s75 {X : (Nat → Int32) × Nat} {d n s : Nat} {M : zM} (hG : zGE M) (hs : zqk s 9 = true) (h1 : ¬ stD n s M 1 - 10 ≤ 0) : ∃ M', zC X d 75 [.ref s] M = some (none, M') ∧ zfr s (s + 2) M M' ∧ stD n s M' = pThin (stD n s M) := by
  show ∃ M', zR X d 75 (0, [.ref s, zjk], [], M) = some (none, M') ∧ _
  rw [stD_f (show 1 < 10 by decide)] at h1
  rw [t75_0 _ _ _ hG hs (fun _ h => h1 (by rw [h]; decide)), if_neg h1]
  refine ⟨_, rfl, zfr_I (zfr_I zfr_rf (by omega) (by omega)) (by omega) (by omega), ?_⟩
  rw [stD_I (by decide), stD_I (by decide)]
  unfold pThin
  rw [stD_f (show 0 < 10 by decide), stD_f (show 1 < 10 by decide)]
theorem r208 {X : (Nat → Int32) × Nat} {d n : Nat} {M : zM} (hG : zGE M) (h1 : ¬ stR n M 1 - 10 ≤ 0) : ∃ M', zC X d 208 [.ref 460] M = some (none, M') ∧ zfs M M' ∧ stR n M' = pThin (stR n M) := by
  show ∃ M', zR X d 208 (0, [.ref 460, zjk], [], M) = some (none, M') ∧ _
  have e0 : stR n M 0 = M.1 461 0 := rfl
  have e1 : stR n M 1 = M.1 461 11 := rfl
  rw [e1] at h1
  rw [t208_0 _ _ hG (fun h => h1 (by rw [h]; decide))]
  have fin : ∀ v : Int32, v = (if Int32.ofNat 99999 < M.1 461 0 * M.1 461 11 / (M.1 461 11 - 10) then Int32.ofNat 99999 else M.1 461 0 * M.1 461 11 / (M.1 461 11 - 10)) → ∃ M', (some (none, zsI (zsI M 461 0 v) 461 11 (M.1 461 11 - 10)) : Option zO) = some (none, M') ∧ zfs M M' ∧ stR n M' = pThin (stR n M) := by
    intro v hv
    refine ⟨_, rfl, zfs_I (i := 1) (zfs_I (i := 0) zfs_rf (by decide)) (by decide), ?_⟩
    refine (stR_I (n := n) (k := 1) (by decide)).trans ?_
    refine (congrArg (fun q => zu q 1 _) (stR_I (n := n) (k := 0) (by decide))).trans ?_
    unfold pThin
    rw [e0, e1, ← hv]
  by_cases c : M.1 461 0 * M.1 461 11 / (M.1 461 11 - 10) ≤ Int32.ofNat 99999
  · rw [if_pos c]
    exact fin _ (by rw [if_neg (Int32.not_lt.mpr c)])
  · rw [if_neg c]
    exact fin _ (by rw [if_pos (Int32.not_le.mp c)])
/-- as the text told it -/
def pBegin (n : Nat) (E : zE) : zA := fun k => if k = 0 then E 1 0 else if k = 1 then 100 else if k = 3 ∨ k = 5 then -1 else if k < 10 then 0 else if k < 10 + n then E 13 (k - 10) else 0
theorem s69 {X : (Nat → Int32) × Nat} {d s e : Nat} {M : zM} (hG : zGE M) (hs : zqk s 9 = true) (he : zqk e 1 = true) (hap : e + 27 ≤ s ∨ s + 2 ≤ e) (hE : okE (emD e M)) (hT : emD e M 0 0 = 1) : ∃ M', zC X d 69 [.ref s, .ref e] M = some (none, M') ∧ zfr s (s + 2) M M' ∧ stD (nD (emD e M)) s M' = pBegin (nD (emD e M)) (emD e M) := by
  show ∃ M', zR X d 69 (0, [.ref s, .ref e], [], M) = some (none, M') ∧ _
  have hn := okE_D hE
  have hT' : M.1 (e + 1) 0 = 1 := by rw [← hT]; exact (emD_0 (by decide)).symm
  have h0 : emD e M 1 0 = M.1 (e + 3) 0 := emD_c (by decide) (by decide) (by decide) (by rw [show (1 - 1) / 3 = 0 from rfl, hT']; decide)
  have hp : ∀ j, j < nD (emD e M) → emD e M 13 j = M.1 (e + 15) j := fun j hj => emD_c (by decide) (by decide) (by decide) (by
    have e1 : nD (emD e M) = (M.1 (e + 1) 4).toNatClampNeg := emD_n (by omega)
    rw [show (13 - 1) / 3 = 4 from rfl]
    omega)
  rw [t69_0 _ _ _ hG hs he (by omega) (by omega)]
  have f : ∀ {M' : zM} {a k : Nat} {x : Int32}, s ≤ a → a < s + 2 → zfr s (s + 2) M M' → zfr s (s + 2) M (zsI M' a k x) := fun h1 h2 h => zfr_I h h1 h2
  refine ⟨_, rfl, zfr_r (f (by omega) (by omega) (f (by omega) (by omega) (f (by omega) (by omega) (f (by omega) (by omega) (f (by omega) (by omega) (f (by omega) (by omega) (f (by omega) (by omega) (f (by omega) (by omega) (f (by omega) (by omega) (f (by omega) (by omega) zfr_rf)))))))))) (by omega) (by omega), ?_⟩
  funext j
  unfold stD pBegin
  by_cases h : j < 10
  · rw [if_pos h, zr_n (show ¬ s = s + 1 by omega)]
    simp only [zI_s, h0]
    rcases (show j = 0 ∨ j = 1 ∨ j = 2 ∨ j = 3 ∨ j = 4 ∨ j = 5 ∨ j = 6 ∨ j = 7 ∨ j = 8 ∨ j = 9 by omega) with rfl | rfl | rfl | rfl | rfl | rfl | rfl | rfl | rfl | rfl <;> rfl
  · rw [if_neg h, zr_s, if_neg (show ¬ j = 0 by omega), if_neg (show ¬ j = 1 by omega), if_neg (show ¬ (j = 3 ∨ j = 5) by omega), if_neg h]
    by_cases h2 : j < 10 + nD (emD e M)
    · rw [if_pos h2, if_pos h2, hp _ (by omega)]
      unfold va_cpy
      rw [if_pos (by omega), show 0 + (j - 10 - 0) = j - 10 by omega]
    · rw [if_neg h2, if_neg h2]
/-- a row copied whole -/
theorem r167 {X : (Nat → Int32) × Nat} {d a b n : Nat} {M : zM} (hG : zGE M) (ha : zqk a 20 = true) (hb : zqk b 20 = true) (hab : ¬ a = b) (hna : zln a = n) (hnb : n ≤ zln b) (hn : n ≤ 3000) : ∃ M', zC X d 167 [.ref a, .ref b] M = some (none, M') ∧ M'.2 = M.2 ∧ (∀ c, c ≠ b → M'.1 c = M.1 c) ∧ ∀ j, M'.1 b j = if j < n then M.1 a j else M.1 b j := by
  show ∃ M', zR X d 167 (0, [.ref a, .ref b, zjk], [], M) = some (none, M') ∧ _
  have loop : ∀ m i M1, i + m = n → M1.2 = M.2 → (∀ c, c ≠ b → M1.1 c = M.1 c) → (∀ j, M1.1 b j = if j < i then M.1 a j else M.1 b j) → ∃ M', zR X d 167 (2, [.ref a, .ref b, .int (Int32.ofNat i)], [], M1) = some (none, M') ∧ M'.2 = M.2 ∧ (∀ c, c ≠ b → M'.1 c = M.1 c) ∧ ∀ j, M'.1 b j = if j < n then M.1 a j else M.1 b j := by
    intro m i M1 hi h1 h2 h3
    have hG1 : zGE M1 := zGE_of hG (congrArg Prod.snd h1)
    have hk := zqk_sh ha
    have hT := t167_2 (X := X) (d := d) a b (Int32.ofNat i) M1 hG1 (zlt_s hG1 ha) (by omega) (by omega) (fun _ => zis_q hG1 ha)
    induction m generalizing i M1 with
    | zero =>
      rw [hT (fun h => absurd ((of_le (by omega) (by omega)).mpr (by omega)) h) (fun _ => zis_q hG1 hb) (fun h => absurd ((of_le (by omega) (by omega)).mpr (by omega)) h), if_pos ((of_le (by omega) (by omega)).mpr (by omega))]
      exact ⟨M1, rfl, h1, h2, by rw [show n = i by omega]; exact h3⟩
    | succ m ih =>
      have hlt : ¬ Int32.ofNat (zln a) ≤ Int32.ofNat i := by rw [of_le (by omega) (by omega)]; omega
      rw [hT (fun _ => vp_of (by omega) (by omega)) (fun _ => zis_q hG1 hb) (fun _ => by
        rw [vp_iff, toNat_of (by omega)]
        refine ⟨?_, by omega⟩
        rw [show (0 : Int32) = Int32.ofNat 0 from rfl, of_lt (by omega) (by omega)]
        omega), if_neg hlt, of_succ, toNat_of (by omega)]
      have hG2 : zGE (zsI M1 b i (M1.1 a i)) := hG1
      refine ih (i + 1) (zsI M1 b i (M1.1 a i)) (by omega) h1 (fun c hc => by rw [zI_n1 hc]; exact h2 c hc) (fun j => ?_) hG2 (t167_2 (X := X) (d := d) a b (Int32.ofNat (i + 1)) _ hG2 (zlt_s hG2 ha) (by omega) (by omega) (fun _ => zis_q hG2 ha))
      rw [zI_s]
      by_cases e : j = i
      · subst e
        rw [if_pos rfl, if_pos (by omega), h2 a hab]
      · rw [if_neg e, h3 j]
        by_cases e2 : j < i
        · rw [if_pos e2, if_pos (by omega)]
        · rw [if_neg e2, if_neg (by omega)]
  rw [t167_0 _ _ _ _ hG]
  exact loop n 0 M (by omega) rfl (fun _ _ => rfl) (fun j => by rw [if_neg (by omega)])
