/-! ===== by which rules it was sold: plainly, and the class' courses ===== -/
def pAft (E : zE) (o : Option (List zCl)) : zA :=
  if (pWon E (pBegin (nD E) E) (E 14) o).2.1 = -1 then pBegin (nD E) E else pCrown (pBegin (nD E) E) (pWon E (pBegin (nD E) E) (E 14) o).2.1 (pWon E (pBegin (nD E) E) (E 14) o).1
def pCs (E : zE) (o : Option (List zCl)) (n : Nat) : Int32 := pIt E (n + 1) (pAft E o) 3
theorem pBegin_3 {n : Nat} {E : zE} : pBegin n E 3 = -1 := rfl
theorem pBegin_2 {n : Nat} {E : zE} : pBegin n E 2 = 0 := rfl
theorem okR_aft {E : zE} {o : Option (List zCl)} (hT : okT E) : okR E (pAft E o 3) := by
  unfold pAft
  by_cases c : (pWon E (pBegin (nD E) E) (E 14) o).2.1 = -1
  · rw [if_pos c]; exact Or.inl rfl
  · rw [if_neg c, pCrown_3]
    rcases (okH_won (E := E) (A := pBegin (nD E) E) (D := E 14) (o := o) hT).2 with h | ⟨⟨b, hb, e⟩, _⟩
    · exact absurd h c
    · rw [e]; exact okR_b hb
theorem pAft_2 {E : zE} {o : Option (List zCl)} : pAft E o 2 = Int32.ofNat 0 := by
  unfold pAft
  split
  · rfl
  · rw [pCrown_2]; rfl
/-- a course followed: only the trial, the auction and the row r have changed -/
def fo (r : Nat) (M M' : zM) : Prop := M'.2.2 = M.2.2 ∧ ∀ c, ¬ (139 ≤ c ∧ c < 146) → c ≠ r → M'.1 c = M.1 c ∧ M'.2.1 c = M.2.1 c
theorem fo_z {r : Nat} {M M' : zM} (h : zfr 139 146 M M') : fo r M M' := ⟨h.1, fun c h1 _ => h.2 c (by omega)⟩
theorem fo_tr {r : Nat} {M M' M'' : zM} (h : fo r M M') (h2 : fo r M' M'') : fo r M M'' := ⟨h2.1.trans h.1, fun c q1 q2 => ⟨(h2.2 c q1 q2).1.trans (h.2 c q1 q2).1, (h2.2 c q1 q2).2.trans (h.2 c q1 q2).2⟩⟩
theorem fo_I {r k : Nat} {x : Int32} {M M' : zM} (h : fo r M M') : fo r M (zsI M' r k x) := ⟨h.1, fun c q1 q2 => ⟨(zI_n1 q2).trans (h.2 c q1 q2).1, (h.2 c q1 q2).2⟩⟩
theorem fo_zf {r : Nat} {M M' : zM} (h : fo r M M') (h1 : 129 ≤ r) (h2 : r < 146) : zfr 129 146 M M' := ⟨h.1, fun c hc => h.2 c (by omega) (by omega)⟩
theorem s40N {X : (Nat → Int32) × Nat} {d r : Nat} {M : zM} (hG : zGE M) (hE : okE (emD 40 M)) (hT : okT (emD 40 M)) (hr1 : 131 ≤ r) (hr2 : r < 138) : ∃ M', zC X (d + 4) 40 [.ref 129, .ref 40, .null, .ref r] M = some (none, M') ∧ fo r M M' ∧ ∀ n, n < 61 → M'.1 r n = pCs (emD 40 M) none n := by
  show ∃ M', zR X (d + 4) 40 (0, [.ref 129, .ref 40, .null, .ref r, zjk], [], M) = some (none, M') ∧ _
  have hn4 := (emD_D hE).1
  have hqr : zqk r 20 = true ∧ zln r = 61 := by
    rcases (show r = 131 ∨ r = 132 ∨ r = 133 ∨ r = 134 ∨ r = 135 ∨ r = 136 ∨ r = 137 by omega) with rfl | rfl | rfl | rfl | rfl | rfl | rfl
    · exact ⟨zq_131, zl_131⟩
    · exact ⟨zq_132, zl_132⟩
    · exact ⟨zq_133, zl_133⟩
    · exact ⟨zq_134, zl_134⟩
    · exact ⟨zq_135, zl_135⟩
    · exact ⟨zq_136, zl_136⟩
    · exact ⟨zq_137, zl_137⟩
  have loop : ∀ m k M1, k + m = 61 → fo r M M1 → stD (nD (emD 40 M)) 139 M1 = pIt (emD 40 M) k (pAft (emD 40 M) none) → (∀ n, n < k → M1.1 r n = pCs (emD 40 M) none n) → ∃ M', zR X (d + 4) 40 (64, [.ref 129, .ref 40, .null, .ref r, .int (Int32.ofNat k)], [], M1) = some (none, M') ∧ fo r M M' ∧ ∀ n, n < 61 → M'.1 r n = pCs (emD 40 M) none n := by
    intro m
    induction m with
    | zero =>
      intro k M1 hk hf hs hv
      have hG1 : zGE M1 := zGE_of hG hf.1
      rw [t40_64N _ _ _ _ hG1 zq_40, if_pos (by rw [show (61 : Int32) = Int32.ofNat 61 from rfl, of_le (by omega) (by omega)]; omega)]
      exact ⟨M1, rfl, hf, fun n hn => hv n (by omega)⟩
    | succ m ih =>
      intro k M1 hk hf hs hv
      have hG1 : zGE M1 := zGE_of hG hf.1
      have em : emD 40 M1 = emD 40 M := zfr_em (fo_zf hf (by omega) (by omega)) (by omega)
      obtain ⟨M2, q1, q2, q3⟩ := s78 (X := X) (d := d) (n := nD (emD 40 M)) (s := 139) (e := 40) hG1 zq_139 zq_40 (by rw [em]; exact Nat.le_refl _) (by omega) (by rw [em]; exact hE) (by rw [em, hs]; exact okR_it (okR_aft hT) _)
      rw [em, hs] at q3
      have hf2 : fo r M M2 := fo_tr hf (fo_z (zfr_up q2 (by omega) (by omega)))
      have hG2 := zfr_G q2 hG1
      have e3 : M2.1 139 3 = pCs (emD 40 M) none k := by
        have h := congrFun q3 3
        rw [stD_f (by decide)] at h
        exact h
      have er : M2.1 r = M1.1 r := (q2.2 r (by omega)).1
      rw [t40_64N _ _ _ _ hG1 zq_40, if_neg (by rw [show (61 : Int32) = Int32.ofNat 61 from rfl, of_le (by omega) (by omega)]; omega), q1, Option.bind_some]
      dsimp only [zps]
      rw [t40_79N _ _ _ _ hG2 zq_40 (zis_q hG2 hqr.1) (by rw [hqr.2]; exact vp_of (by omega) (by omega)), of_succ, toNat_of (by omega), e3]
      refine ih (k + 1) _ (by omega) (fo_I hf2) ?_ (fun n hn => ?_)
      · rw [stD_K (by omega) (by omega), q3]
        rfl
      · rw [zI_s]
        by_cases e : n = k
        · rw [if_pos e, e]
        · rw [if_neg e, er]; exact hv n (by omega)
  obtain ⟨M1, q1, q2, q3⟩ := s69 (X := X) (d := d + 3) (s := 139) (e := 40) hG zq_139 zq_40 (by omega) hE hT.1
  have hG1 := zfr_G q2 hG
  have em1 : emD 40 M1 = emD 40 M := zfr_em q2 (by omega)
  obtain ⟨M2, w1, w2, w3⟩ := s2 (X := X) (d := d + 3) (a := 141) (e := 40) hG1 zq_141 zq_40 (by omega)
  have hG2 := zfr_G w2 hG1
  have f2 : zfr 139 146 M M2 := zfr_tr (zfr_up q2 (by omega) (by omega)) (zfr_up w2 (by omega) (by omega))
  have em2 : emD 40 M2 = emD 40 M := zfr_em f2 (by omega)
  have est2 : stD (nD (emD 40 M)) 139 M2 = pBegin (nD (emD 40 M)) (emD 40 M) := by rw [zfr_st w2 (by omega), q3]
  obtain ⟨M3, y1, y2, y3, -⟩ := s3n (X := X) (d := d + 1) (a := 141) (e := 40) (s := 139) (M := M2) (D := emD 40 M 14) hG2 zq_141 zq_40 zq_139 (by omega) (by omega) (by rw [em2]; exact hE) (by rw [em2]; exact hT) (by rw [em2]; intro j hj; rw [emD_B hj]; refine (w3 j (by omega)).trans ?_; rw [(q2.2 56 (by omega)).1])
  rw [em2, est2] at y3
  have hG3 := zfr_G y2 hG2
  have f3 : zfr 139 146 M M3 := zfr_tr f2 (zfr_up y2 (by omega) (by omega))
  have est3 : stD (nD (emD 40 M)) 139 M3 = pBegin (nD (emD 40 M)) (emD 40 M) := by rw [zfr_st y2 (by omega), est2]
  have g1 : M3.1 141 1 = (pWon (emD 40 M) (pBegin (nD (emD 40 M)) (emD 40 M)) (emD 40 M 14) none).2.1 := by rw [← y3]; rfl
  have g2 : M3.1 141 2 = (pWon (emD 40 M) (pBegin (nD (emD 40 M)) (emD 40 M)) (emD 40 M 14) none).1 := by rw [← y3]; rfl
  rw [t40_0N _ _ _ _ hG zq_40, q1, Option.bind_some]
  dsimp only [zps]
  rw [t40_8N _ _ _ _ hG1 zq_40, w1, Option.bind_some]
  dsimp only [zps]
  rw [t40_16N _ _ _ _ hG2 zq_40, y1, Option.bind_some]
  dsimp only [zps]
  rw [t40_29N _ _ _ _ hG3 zq_40, g1, g2]
  by_cases c : (pWon (emD 40 M) (pBegin (nD (emD 40 M)) (emD 40 M)) (emD 40 M 14) none).2.1 = -1
  · rw [if_pos c]
    refine loop 61 0 M3 (by omega) (fo_z f3) ?_ (fun n hn => absurd hn (Nat.not_lt_zero _))
    show _ = pAft (emD 40 M) none
    unfold pAft
    rw [if_pos c, est3]
  · obtain ⟨M4, z1, z2, z3⟩ := s72 (X := X) (d := d + 3) (n := nD (emD 40 M)) (s := 139) (w := (pWon (emD 40 M) (pBegin (nD (emD 40 M)) (emD 40 M)) (emD 40 M 14) none).2.1) (p := (pWon (emD 40 M) (pBegin (nD (emD 40 M)) (emD 40 M)) (emD 40 M 14) none).1) hG3 zq_139
    have hG4 := zfr_G z2 hG3
    rw [if_neg c, z1, Option.bind_some]
    dsimp only [zps]
    rw [t40_61N _ _ _ _ hG4 zq_40]
    refine loop 61 0 M4 (by omega) (fo_z (zfr_tr f3 (zfr_up z2 (by omega) (by omega)))) ?_ (fun n hn => absurd hn (Nat.not_lt_zero _))
    show _ = pAft (emD 40 M) none
    unfold pAft
    rw [if_neg c, z3, est3]
theorem s40R {X : (Nat → Int32) × Nat} {d r q : Nat} {cls : List zCl} {M : zM} (hG : zGE M) (hE : okE (emD 40 M)) (hT : okT (emD 40 M)) (hr1 : 131 ≤ r) (hr2 : r < 138) (hq : zqk q 7 = true) (hq2 : q + 3 ≤ 139 ∨ 146 ≤ q) (hcl : ruD M q 0 cls) (hok : ∀ c, c ∈ cls → okC c) : ∃ M', zC X (d + 4) 40 [.ref 129, .ref 40, .ref q, .ref r] M = some (none, M') ∧ fo r M M' ∧ ∀ n, n < 61 → M'.1 r n = pCs (emD 40 M) (some cls) n := by
  show ∃ M', zR X (d + 4) 40 (0, [.ref 129, .ref 40, .ref q, .ref r, zjk], [], M) = some (none, M') ∧ _
  have hn4 := (emD_D hE).1
  have hqr : zqk r 20 = true ∧ zln r = 61 := by
    rcases (show r = 131 ∨ r = 132 ∨ r = 133 ∨ r = 134 ∨ r = 135 ∨ r = 136 ∨ r = 137 by omega) with rfl | rfl | rfl | rfl | rfl | rfl | rfl
    · exact ⟨zq_131, zl_131⟩
    · exact ⟨zq_132, zl_132⟩
    · exact ⟨zq_133, zl_133⟩
    · exact ⟨zq_134, zl_134⟩
    · exact ⟨zq_135, zl_135⟩
    · exact ⟨zq_136, zl_136⟩
    · exact ⟨zq_137, zl_137⟩
  have loop : ∀ m k M1, k + m = 61 → fo r M M1 → stD (nD (emD 40 M)) 139 M1 = pIt (emD 40 M) k (pAft (emD 40 M) (some cls)) → (∀ n, n < k → M1.1 r n = pCs (emD 40 M) (some cls) n) → ∃ M', zR X (d + 4) 40 (64, [.ref 129, .ref 40, .ref q, .ref r, .int (Int32.ofNat k)], [], M1) = some (none, M') ∧ fo r M M' ∧ ∀ n, n < 61 → M'.1 r n = pCs (emD 40 M) (some cls) n := by
    intro m
    induction m with
    | zero =>
      intro k M1 hk hf hs hv
      have hG1 : zGE M1 := zGE_of hG hf.1
      rw [t40_64R _ _ _ _ _ hG1 zq_40 hq, if_pos (by rw [show (61 : Int32) = Int32.ofNat 61 from rfl, of_le (by omega) (by omega)]; omega)]
      exact ⟨M1, rfl, hf, fun n hn => hv n (by omega)⟩
    | succ m ih =>
      intro k M1 hk hf hs hv
      have hG1 : zGE M1 := zGE_of hG hf.1
      have em : emD 40 M1 = emD 40 M := zfr_em (fo_zf hf (by omega) (by omega)) (by omega)
      obtain ⟨M2, q1, q2, q3⟩ := s78 (X := X) (d := d) (n := nD (emD 40 M)) (s := 139) (e := 40) hG1 zq_139 zq_40 (by rw [em]; exact Nat.le_refl _) (by omega) (by rw [em]; exact hE) (by rw [em, hs]; exact okR_it (okR_aft hT) _)
      rw [em, hs] at q3
      have hf2 : fo r M M2 := fo_tr hf (fo_z (zfr_up q2 (by omega) (by omega)))
      have hG2 := zfr_G q2 hG1
      have e3 : M2.1 139 3 = pCs (emD 40 M) (some cls) k := by
        have h := congrFun q3 3
        rw [stD_f (by decide)] at h
        exact h
      have er : M2.1 r = M1.1 r := (q2.2 r (by omega)).1
      rw [t40_64R _ _ _ _ _ hG1 zq_40 hq, if_neg (by rw [show (61 : Int32) = Int32.ofNat 61 from rfl, of_le (by omega) (by omega)]; omega), q1, Option.bind_some]
      dsimp only [zps]
      rw [t40_79R _ _ _ _ _ hG2 zq_40 hq (zis_q hG2 hqr.1) (by rw [hqr.2]; exact vp_of (by omega) (by omega)), of_succ, toNat_of (by omega), e3]
      refine ih (k + 1) _ (by omega) (fo_I hf2) ?_ (fun n hn => ?_)
      · rw [stD_K (by omega) (by omega), q3]
        rfl
      · rw [zI_s]
        by_cases e : n = k
        · rw [if_pos e, e]
        · rw [if_neg e, er]; exact hv n (by omega)
  obtain ⟨M1, q1, q2, q3⟩ := s69 (X := X) (d := d + 3) (s := 139) (e := 40) hG zq_139 zq_40 (by omega) hE hT.1
  have hG1 := zfr_G q2 hG
  have em1 : emD 40 M1 = emD 40 M := zfr_em q2 (by omega)
  obtain ⟨M2, w1, w2, w3⟩ := s2 (X := X) (d := d + 3) (a := 141) (e := 40) hG1 zq_141 zq_40 (by omega)
  have hG2 := zfr_G w2 hG1
  have f2 : zfr 139 146 M M2 := zfr_tr (zfr_up q2 (by omega) (by omega)) (zfr_up w2 (by omega) (by omega))
  have em2 : emD 40 M2 = emD 40 M := zfr_em f2 (by omega)
  have est2 : stD (nD (emD 40 M)) 139 M2 = pBegin (nD (emD 40 M)) (emD 40 M) := by rw [zfr_st w2 (by omega), q3]
  obtain ⟨M3, y1, y2, y3, -⟩ := s3r (X := X) (d := d + 1) (q := q) (cls := cls) (a := 141) (e := 40) (s := 139) (M := M2) (D := emD 40 M 14) hG2 zq_141 zq_40 zq_139 hq (by omega) (by omega) (by omega) (by rw [em2]; exact hE) (by rw [em2]; exact hT) (by rw [em2]; intro j hj; rw [emD_B hj]; refine (w3 j (by omega)).trans ?_; rw [(q2.2 56 (by omega)).1]) (ruD_c (f2.2 q (by omega)).1 (f2.2 (q + 1) (by omega)).1 (f2.2 (q + 2) (by omega)).1 hcl) hok
  rw [em2, est2] at y3
  have hG3 := zfr_G y2 hG2
  have f3 : zfr 139 146 M M3 := zfr_tr f2 (zfr_up y2 (by omega) (by omega))
  have est3 : stD (nD (emD 40 M)) 139 M3 = pBegin (nD (emD 40 M)) (emD 40 M) := by rw [zfr_st y2 (by omega), est2]
  have g1 : M3.1 141 1 = (pWon (emD 40 M) (pBegin (nD (emD 40 M)) (emD 40 M)) (emD 40 M 14) (some cls)).2.1 := by rw [← y3]; rfl
  have g2 : M3.1 141 2 = (pWon (emD 40 M) (pBegin (nD (emD 40 M)) (emD 40 M)) (emD 40 M 14) (some cls)).1 := by rw [← y3]; rfl
  rw [t40_0R _ _ _ _ _ hG zq_40 hq, q1, Option.bind_some]
  dsimp only [zps]
  rw [t40_8R _ _ _ _ _ hG1 zq_40 hq, w1, Option.bind_some]
  dsimp only [zps]
  rw [t40_16R _ _ _ _ _ hG2 zq_40 hq, y1, Option.bind_some]
  dsimp only [zps]
  rw [t40_29R _ _ _ _ _ hG3 zq_40 hq, g1, g2]
  by_cases c : (pWon (emD 40 M) (pBegin (nD (emD 40 M)) (emD 40 M)) (emD 40 M 14) (some cls)).2.1 = -1
  · rw [if_pos c]
    refine loop 61 0 M3 (by omega) (fo_z f3) ?_ (fun n hn => absurd hn (Nat.not_lt_zero _))
    show _ = pAft (emD 40 M) (some cls)
    unfold pAft
    rw [if_pos c, est3]
  · obtain ⟨M4, z1, z2, z3⟩ := s72 (X := X) (d := d + 3) (n := nD (emD 40 M)) (s := 139) (w := (pWon (emD 40 M) (pBegin (nD (emD 40 M)) (emD 40 M)) (emD 40 M 14) (some cls)).2.1) (p := (pWon (emD 40 M) (pBegin (nD (emD 40 M)) (emD 40 M)) (emD 40 M 14) (some cls)).1) hG3 zq_139
    have hG4 := zfr_G z2 hG3
    rw [if_neg c, z1, Option.bind_some]
    dsimp only [zps]
    rw [t40_61R _ _ _ _ _ hG4 zq_40 hq]
    refine loop 61 0 M4 (by omega) (fo_z (zfr_tr f3 (zfr_up z2 (by omega) (by omega)))) ?_ (fun n hn => absurd hn (Nat.not_lt_zero _))
    show _ = pAft (emD 40 M) (some cls)
    unfold pAft
    rw [if_neg c, z3, est3]
