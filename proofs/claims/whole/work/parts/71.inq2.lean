/-! ===== by which rules it was sold: the class ===== -/
def pRl (rs : Nat → List zCl) (i : Nat) : Option (List zCl) := if i = 0 then none else some (rs (i - 1))
def pFit (c : Nat → Int32) (dy : Nat → Nat) (wh : Nat → Int32) : Nat → Bool
  | 0 => true
  | k + 1 => pFit c dy wh k && decide (c (dy k) = wh k)
theorem pFit_f {c : Nat → Int32} {dy : Nat → Nat} {wh : Nat → Int32} {k : Nat} (h : pFit c dy wh k = false) : ∀ m, pFit c dy wh (k + m) = false
  | 0 => h
  | m + 1 => by
    show (pFit c dy wh (k + m) && _) = false
    rw [pFit_f h m, Bool.false_and]
/-- the logs: so many, on which days, who -/
abbrev zLg : Type := Nat × (Nat → Nat) × (Nat → Int32)
def okL (g : zLg) : Prop := g.1 ≤ 10 ∧ ∀ k, k < g.1 → g.2.1 k ≤ 60
def lgD (M : zM) (g : zLg) : Prop := M.1 39 8 = Int32.ofNat g.1 ∧ ∀ k, k < g.1 → M.1 70 k = Int32.ofNat (g.2.1 k) ∧ M.1 71 k = g.2.2 k
/-- the rules -/
abbrev zRul : Type := Nat × (Nat → List zCl)
def okRs (r : zRul) : Prop := r.1 ≤ 6 ∧ ∀ i, i < r.1 → ∀ c, c ∈ r.2 i → okC c
def rsD (M : zM) (r : zRul) : Prop := M.1 0 4 = Int32.ofNat r.1 ∧ ∀ i, i < r.1 → ruD M (150 + 3 * i) 0 (r.2 i)
def pAg (E : zE) (r : zRul) (g : zLg) (i : Nat) : Bool := pFit (pCs E (pRl r.2 i)) g.2.1 g.2.2 g.1
def pRu (ag : Nat → Bool) : Nat → Int32 × Int32
  | 0 => (0, -2)
  | i + 1 => bif ag i then ((pRu ag i).1 + 1, if (pRu ag i).1 = 0 then Int32.ofNat i - 1 else (pRu ag i).2) else pRu ag i
theorem s41 {X : (Nat → Int32) × Nat} {d r : Nat} {c : Nat → Int32} {g : zLg} {M : zM} (hG : zGE M) (hr1 : 131 ≤ r) (hr2 : r < 138) (hg : okL g) (hl : lgD M g) (hc : ∀ n, n < 61 → M.1 r n = c n) : zC X d 41 [.ref 39, .ref r] M = some (some (.int (bif pFit c g.2.1 g.2.2 g.1 then 1 else 0)), M) := by
  show zR X d 41 (0, [.ref 39, .ref r, zjk, zjk], [], M) = _
  have hqr : zqk r 20 = true ∧ zln r = 61 := by
    rcases (show r = 131 ∨ r = 132 ∨ r = 133 ∨ r = 134 ∨ r = 135 ∨ r = 136 ∨ r = 137 by omega) with rfl | rfl | rfl | rfl | rfl | rfl | rfl
    · exact ⟨zq_131, zl_131⟩
    · exact ⟨zq_132, zl_132⟩
    · exact ⟨zq_133, zl_133⟩
    · exact ⟨zq_134, zl_134⟩
    · exact ⟨zq_135, zl_135⟩
    · exact ⟨zq_136, zl_136⟩
    · exact ⟨zq_137, zl_137⟩
  have hz := zis_q hG hqr.1
  obtain ⟨hg1, hg2⟩ := hg
  have loop : ∀ m k v, k + m = g.1 → pFit c g.2.1 g.2.2 k = true → zR X d 41 (2, [.ref 39, .ref r, .int (Int32.ofNat k), v], [], M) = some (some (.int (bif pFit c g.2.1 g.2.2 g.1 then 1 else 0)), M) := by
    intro m
    induction m with
    | zero =>
      intro k v hk hf
      have hle : M.1 39 8 ≤ Int32.ofNat k := by rw [hl.1, of_le (by omega) (by omega)]; omega
      rw [t41_2 _ _ _ _ _ hG zq_39 (fun h => absurd hle h) (fun h => absurd hle h) (fun h => absurd hle h) (fun h => absurd hle h) (fun h => absurd hle h) (fun h => absurd hle h), if_pos hle, show g.1 = k by omega, hf]
      rfl
    | succ m ih =>
      intro k v hk hf
      have hnle : ¬ M.1 39 8 ≤ Int32.ofNat k := by rw [hl.1, of_le (by omega) (by omega)]; omega
      have kk : (Int32.ofNat k).toNatClampNeg = k := toNat_of (by omega)
      obtain ⟨l1, l2⟩ := hl.2 k (by omega)
      have hd := hg2 k (by omega)
      have dd : (Int32.ofNat (g.2.1 k)).toNatClampNeg = g.2.1 k := toNat_of (by omega)
      have lem := t41_2 (X := X) (d := d) 39 r (Int32.ofNat k) v M hG zq_39
      have e70 : M.1 (39 + 31) k = Int32.ofNat (g.2.1 k) := l1
      have e71 : M.1 (39 + 32) k = g.2.2 k := l2
      rw [kk, e70, e71, hqr.2, dd, hc _ (by omega)] at lem
      have n0 : ¬ Int32.ofNat (g.2.1 k) < 0 := by rw [show (0 : Int32) = Int32.ofNat 0 from rfl, of_lt (by omega) (by omega)]; omega
      have n61 : ¬ Int32.ofNat 61 ≤ Int32.ofNat (g.2.1 k) := by rw [of_le (by omega) (by omega)]; omega
      rw [lem (fun _ => vp_of (by omega) (by omega)) (fun _ _ => hz.1) (fun _ _ => by rw [hz.2]; omega) (fun _ _ => by rw [hz.2]; omega) (fun _ _ _ => hz) (fun _ _ _ => vp_of (by omega) (by omega)), if_neg hnle, if_neg n0, if_neg n61, of_succ]
      by_cases e : c (g.2.1 k) = g.2.2 k
      · rw [if_pos e]
        exact ih (k + 1) _ (by omega) (by rw [pFit, hf, decide_eq_true e]; rfl)
      · rw [if_neg e]
        have h1 : pFit c g.2.1 g.2.2 (k + 1) = false := by rw [pFit, decide_eq_false e, Bool.and_false]
        have h2 := pFit_f h1 (g.1 - (k + 1))
        rw [show k + 1 + (g.1 - (k + 1)) = g.1 by omega] at h2
        rw [h2]
        rfl
  rw [t41_0 _ _ _ _ _ hG zq_39]
  exact loop g.1 0 zjk (by omega) rfl
theorem hrul {M : zM} (h : zGE M) {i : Nat} (hi : i < 6) : M.2.2.1 38 i = 150 + 3 * i ∧ zqk (150 + 3 * i) 7 = true := by
  rcases (show i = 0 ∨ i = 1 ∨ i = 2 ∨ i = 3 ∨ i = 4 ∨ i = 5 by omega) with rfl | rfl | rfl | rfl | rfl | rfl
  · exact ⟨zge_rd h rfl (by decide), zq_150⟩
  · exact ⟨zge_rd h rfl (by decide), zq_153⟩
  · exact ⟨zge_rd h rfl (by decide), zq_156⟩
  · exact ⟨zge_rd h rfl (by decide), zq_159⟩
  · exact ⟨zge_rd h rfl (by decide), zq_162⟩
  · exact ⟨zge_rd h rfl (by decide), zq_165⟩
theorem rsD_c {M M' : zM} {r : zRul} (h : ∀ c, c = 0 ∨ (150 ≤ c ∧ c < 168) → M'.1 c = M.1 c) (h6 : r.1 ≤ 6) (hr : rsD M r) : rsD M' r := ⟨by rw [h 0 (by omega)]; exact hr.1, fun i hi => ruD_c (h _ (by omega)) (h _ (by omega)) (h _ (by omega)) (hr.2 i hi)⟩
theorem lgD_c {M M' : zM} {g : zLg} (h1 : M'.1 39 = M.1 39) (h2 : M'.1 70 = M.1 70) (h3 : M'.1 71 = M.1 71) (hl : lgD M g) : lgD M' g := by
  unfold lgD
  rw [h1, h2, h3]
  exact hl
theorem s39 {X : (Nat → Int32) × Nat} {d : Nat} {r : zRul} {g : zLg} {M : zM} (hG : zGE M) (hE : okE (emD 40 M)) (hT : okT (emD 40 M)) (hg : okL g) (hl : lgD M g) (hr : okRs r) (hrs : rsD M r) : ∃ M', zC X (d + 5) 39 [.ref 129, .ref 39, .ref 38, .int (Int32.ofNat r.1)] M = some (none, M') ∧ zfr 114 150 M M' ∧ M'.1 129 2 = Int32.ofNat (r.1 + 1) ∧ M'.1 129 5 = (pRu (pAg (emD 40 M) r g) (r.1 + 1)).1 ∧ M'.1 129 6 = (pRu (pAg (emD 40 M) r g) (r.1 + 1)).2 ∧ (∀ j, j < r.1 + 1 → M'.1 138 j = (bif pAg (emD 40 M) r g j then 1 else 0) ∧ ∀ n, n < 61 → M'.1 (131 + j) n = pCs (emD 40 M) (pRl r.2 j) n) := by
  show ∃ M', zR X (d + 5) 39 (0, [.ref 129, .ref 39, .ref 38, .int (Int32.ofNat r.1), zjk], [], M) = some (none, M') ∧ _
  obtain ⟨hr6, hrok⟩ := hr
  have loop : ∀ m i M1, i + m = r.1 + 1 → zfr 114 150 M M1 → M1.1 129 2 = Int32.ofNat (r.1 + 1) → M1.1 129 5 = (pRu (pAg (emD 40 M) r g) i).1 → M1.1 129 6 = (pRu (pAg (emD 40 M) r g) i).2 → (∀ j, j < i → M1.1 138 j = (bif pAg (emD 40 M) r g j then 1 else 0) ∧ ∀ n, n < 61 → M1.1 (131 + j) n = pCs (emD 40 M) (pRl r.2 j) n) → ∃ M', zR X (d + 5) 39 (26, [.ref 129, .ref 39, .ref 38, .int (Int32.ofNat r.1), .int (Int32.ofNat i)], [], M1) = some (none, M') ∧ zfr 114 150 M M' ∧ M'.1 129 2 = Int32.ofNat (r.1 + 1) ∧ M'.1 129 5 = (pRu (pAg (emD 40 M) r g) (r.1 + 1)).1 ∧ M'.1 129 6 = (pRu (pAg (emD 40 M) r g) (r.1 + 1)).2 ∧ (∀ j, j < r.1 + 1 → M'.1 138 j = (bif pAg (emD 40 M) r g j then 1 else 0) ∧ ∀ n, n < 61 → M'.1 (131 + j) n = pCs (emD 40 M) (pRl r.2 j) n) := by
    intro m
    induction m with
    | zero =>
      intro i M1 hi hf h2 h5 h6 hj
      have hG1 := zfr_G hf hG
      have hle : M1.1 129 2 ≤ Int32.ofNat i := by rw [h2, of_le (by omega) (by omega)]; omega
      rw [t39_26 _ _ _ _ _ hG1 zq_39 (fun h => absurd hle h) (fun h => absurd hle h) (fun h => absurd hle h) (fun h => absurd hle h) (fun h => absurd hle h) (fun h => absurd hle h) (fun h => absurd hle h) (fun h => absurd hle h) (fun h => absurd hle h), if_pos hle]
      rw [show i = r.1 + 1 by omega] at h5 h6 hj
      exact ⟨M1, rfl, hf, h2, h5, h6, hj⟩
    | succ m ih =>
      intro i M1 hi hf h2 h5 h6 hj
      have hG1 := zfr_G hf hG
      have em : emD 40 M1 = emD 40 M := zfr_em hf (by omega)
      have hnle : ¬ M1.1 129 2 ≤ Int32.ofNat i := by rw [h2, of_le (by omega) (by omega)]; omega
      have ii : (Int32.ofNat i).toNatClampNeg = i := toNat_of (by omega)
      have hz38 := zis_q hG1 zq_38
      have hst : pRu (pAg (emD 40 M) r g) (i + 1) = bif pAg (emD 40 M) r g i then ((pRu (pAg (emD 40 M) r g) i).1 + 1, if (pRu (pAg (emD 40 M) r g) i).1 = 0 then Int32.ofNat i - 1 else (pRu (pAg (emD 40 M) r g) i).2) else pRu (pAg (emD 40 M) r g) i := rfl
      have tail : ∀ M2, fo (131 + i) M1 M2 → (∀ n, n < 61 → M2.1 (131 + i) n = pCs (emD 40 M) (pRl r.2 i) n) → ∃ M', zR X (d + 5) 39 (72, [.ref 129, .ref 39, .ref 38, .int (Int32.ofNat r.1), .int (Int32.ofNat i)], [], M2) = some (none, M') ∧ zfr 114 150 M M' ∧ M'.1 129 2 = Int32.ofNat (r.1 + 1) ∧ M'.1 129 5 = (pRu (pAg (emD 40 M) r g) (r.1 + 1)).1 ∧ M'.1 129 6 = (pRu (pAg (emD 40 M) r g) (r.1 + 1)).2 ∧ (∀ j, j < r.1 + 1 → M'.1 138 j = (bif pAg (emD 40 M) r g j then 1 else 0) ∧ ∀ n, n < 61 → M'.1 (131 + j) n = pCs (emD 40 M) (pRl r.2 j) n) := by
        intro M2 f2 hrow
        have hf2 : zfr 114 150 M M2 := zfr_tr hf (zfr_up (fo_zf f2 (by omega) (by omega)) (by omega) (by omega))
        have hG2 := zfr_G hf2 hG
        have e129 : M2.1 129 = M1.1 129 := (f2.2 129 (by omega) (by omega)).1
        have e138 : M2.1 138 = M1.1 138 := (f2.2 138 (by omega) (by omega)).1
        have hl2 : lgD M2 g := lgD_c (hf2.2 39 (by omega)).1 (hf2.2 70 (by omega)).1 (hf2.2 71 (by omega)).1 hl
        have hag : pFit (pCs (emD 40 M) (pRl r.2 i)) g.2.1 g.2.2 g.1 = pAg (emD 40 M) r g i := rfl
        rw [t39_72 _ _ _ _ _ hG2 zq_39 (vp_of (by omega) (by omega)), ii, s41 hG2 (by omega) (by omega) hg hl2 hrow, Option.bind_some, hag]
        dsimp only [zps]
        have b01 : ∀ b : Bool, ((bif b then 1 else 0 : Int32) &&& 1) = bif b then 1 else 0 := by decide
        have lem := t39_89 (X := X) (d := d + 5) 39 38 (Int32.ofNat r.1) (Int32.ofNat i) 138 (Int32.ofNat i) (bif pAg (emD 40 M) r g i then 1 else 0) M2 hG2 zq_39 (zis_q hG2 zq_138) (by rw [zl_138]; exact vp_of (by omega) (by omega)) (vp_of (by omega) (by omega))
        rw [ii, b01] at lem
        have x1 : (zsI M2 138 i (bif pAg (emD 40 M) r g i then 1 else 0)).1 138 i = (bif pAg (emD 40 M) r g i then 1 else 0) := by rw [zI_s, if_pos rfl]
        have x2 : (zsI M2 138 i (bif pAg (emD 40 M) r g i then 1 else 0)).1 129 5 = (pRu (pAg (emD 40 M) r g) i).1 := by rw [zI_n (by decide), e129, h5]
        have x3 : (zsI M2 138 i (bif pAg (emD 40 M) r g i then 1 else 0)).1 129 6 = (pRu (pAg (emD 40 M) r g) i).2 := by rw [zI_n (by decide), e129, h6]
        rw [x1, x2, x3, of_succ] at lem
        rw [lem]
        clear lem
        have fa : zfr 114 150 M (zsI M2 138 i (bif pAg (emD 40 M) r g i then 1 else 0)) := zfr_I hf2 (by omega) (by omega)
        have rows : ∀ j, j < i + 1 → (zsI M2 138 i (bif pAg (emD 40 M) r g i then 1 else 0)).1 138 j = (bif pAg (emD 40 M) r g j then 1 else 0) ∧ ∀ n, n < 61 → (zsI M2 138 i (bif pAg (emD 40 M) r g i then 1 else 0)).1 (131 + j) n = pCs (emD 40 M) (pRl r.2 j) n := by
          intro j hj2
          by_cases e : j = i
          · rw [e]
            exact ⟨x1, fun n hn => by rw [zI_n (by omega)]; exact hrow n hn⟩
          · obtain ⟨a1, a2⟩ := hj j (by omega)
            refine ⟨by rw [zI_s, if_neg e, e138]; exact a1, fun n hn => ?_⟩
            rw [zI_n (by omega), (f2.2 (131 + j) (by omega) (by omega)).1]
            exact a2 n hn
        cases hA : pAg (emD 40 M) r g i
        · rw [hA, cond_false] at hst
          rw [cond_false, if_pos rfl]
          rw [hA, cond_false] at fa rows
          exact ih (i + 1) _ (by omega) fa (by rw [zI_n (by decide), e129]; exact h2) (by rw [zI_n (by decide), e129, hst]; exact h5) (by rw [zI_n (by decide), e129, hst]; exact h6) rows
        · rw [hA, cond_true] at hst
          rw [cond_true, if_neg (by decide)]
          rw [hA, cond_true] at fa rows
          by_cases c0 : (pRu (pAg (emD 40 M) r g) i).1 = 0
          · rw [if_pos c0] at hst
            rw [if_neg (not_not_intro c0)]
            exact ih (i + 1) _ (by omega) (zfr_I (zfr_I fa (by omega) (by omega)) (by omega) (by omega)) (by rw [zI_s, if_neg (by decide), zI_s, if_neg (by decide), zI_n (by decide), e129]; exact h2) (by rw [zI_s, if_pos rfl, hst]) (by rw [zI_s, if_neg (by decide), zI_s, if_pos rfl, hst]) (fun j hj2 => ⟨by rw [zI_n (by decide), zI_n (by decide)]; exact (rows j hj2).1, fun n hn => by rw [zI_n (by omega), zI_n (by omega)]; exact (rows j hj2).2 n hn⟩)
          · rw [if_neg c0] at hst
            rw [if_pos c0]
            exact ih (i + 1) _ (by omega) (zfr_I (zfr_I fa (by omega) (by omega)) (by omega) (by omega)) (by rw [zI_s, if_neg (by decide), zI_s, if_neg (by decide), zI_n (by decide), e129]; exact h2) (by rw [zI_s, if_pos rfl, hst]) (by rw [zI_s, if_neg (by decide), zI_s, if_pos rfl, hst]) (fun j hj2 => ⟨by rw [zI_n (by decide), zI_n (by decide)]; exact (rows j hj2).1, fun n hn => by rw [zI_n (by omega), zI_n (by omega)]; exact (rows j hj2).2 n hn⟩)
      have lem := t39_26 (X := X) (d := d + 4) 39 38 (Int32.ofNat r.1) (Int32.ofNat i) M1 hG1 zq_39
      rw [ii, zl_38] at lem
      rcases Nat.eq_zero_or_pos i with h0 | h0
      · have hle : Int32.ofNat i ≤ 0 := by rw [h0]; exact Int32.le_refl _
        obtain ⟨M2, q1, q2, q3⟩ := s40N (X := X) (d := d) (r := 131 + i) hG1 (by rw [em]; exact hE) (by rw [em]; exact hT) (by omega) (by omega)
        rw [em] at q3
        rw [lem (fun _ _ => vp_of (by omega) (by omega)) (fun _ h => absurd hle h) (fun _ h => absurd hle h) (fun _ h => absurd hle h) (fun _ h => absurd hle h) (fun _ h => absurd hle h) (fun _ h => absurd hle h) (fun _ h => absurd hle h) (fun _ h => absurd hle h), if_neg hnle, if_pos hle]
        show ∃ M', ((zC X (d + 4) 40 [.ref 129, .ref 40, .null, .ref (131 + i)] M1).bind _) = some (none, M') ∧ _
        rw [q1, Option.bind_some]
        dsimp only [zps]
        refine tail M2 q2 (fun n hn => ?_)
        rw [q3 n hn]
        unfold pRl
        rw [if_pos h0]
      · have hnle0 : ¬ Int32.ofNat i ≤ 0 := by rw [show (0 : Int32) = Int32.ofNat 0 from rfl, of_le (by omega) (by omega)]; omega
        have n6 : ¬ Int32.ofNat 6 < Int32.ofNat i := by rw [of_lt (by omega) (by omega)]; omega
        have ip : Int32.ofNat i - 1 = Int32.ofNat (i - 1) := of_pred h0
        have ipp : (Int32.ofNat (i - 1)).toNatClampNeg = i - 1 := toNat_of (by omega)
        obtain ⟨u1, u2⟩ := hrul hG1 (i := i - 1) (by omega)
        have hrs1 : rsD M1 r := rsD_c (fun c hc => (hf.2 c (by omega)).1) hr6 hrs
        rw [ip, ipp, u1] at lem
        obtain ⟨M2, q1, q2, q3⟩ := s40R (X := X) (d := d) (r := 131 + i) (q := 150 + 3 * (i - 1)) (cls := r.2 (i - 1)) hG1 (by rw [em]; exact hE) (by rw [em]; exact hT) (by omega) (by omega) u2 (by omega) (hrs1.2 (i - 1) (by omega)) (hrok (i - 1) (by omega))
        rw [em] at q3
        rw [lem (fun _ h => absurd h hnle0) (fun _ _ => hz38.1) (fun _ _ => by rw [hz38.2]; omega) (fun _ _ => by rw [hz38.2]; omega) (fun _ _ h => absurd h n6) (fun _ _ _ => hz38) (fun _ _ _ => vp_of (by omega) (by omega)) (fun _ _ _ => by omega) (fun _ _ _ => vp_of (by omega) (by omega)), if_neg hnle, if_neg hnle0, if_neg n6]
        show ∃ M', ((zC X (d + 4) 40 [.ref 129, .ref 40, .ref (150 + 3 * (i - 1)), .ref (131 + i)] M1).bind _) = some (none, M') ∧ _
        rw [q1, Option.bind_some]
        dsimp only [zps]
        refine tail M2 q2 (fun n hn => ?_)
        rw [q3 n hn]
        unfold pRl
        rw [if_neg (by omega)]
  have e6 : (if (6 : Int32) < Int32.ofNat r.1 then (6 : Int32) else Int32.ofNat r.1) = Int32.ofNat r.1 := if_neg (by rw [show (6 : Int32) = Int32.ofNat 6 from rfl, of_lt (by omega) (by omega)]; omega)
  rw [t39_0 _ _ _ _ _ hG zq_39, e6, of_succ]
  exact loop (r.1 + 1) 0 _ (by omega) (zfr_I (zfr_I (zfr_I zfr_rf (by omega) (by omega)) (by omega) (by omega)) (by omega) (by omega)) (by rw [zI_s, if_neg (by decide), zI_s, if_neg (by decide), zI_s, if_pos rfl]) (by rw [zI_s, if_neg (by decide), zI_s, if_pos rfl]; rfl) (by rw [zI_s, if_pos rfl]; rfl) (fun j hj => absurd hj (Nat.not_lt_zero _))
