/-! ===== on which day to look next: plainly, and the class ===== -/
def pAS (ag : Nat → Bool) : Nat → Nat → List Nat
  | 0, _ => []
  | m + 1, k => bif ag k then k :: pAS ag m (k + 1) else pAS ag m (k + 1)
def pEq (f : Nat → Int32) (v : Int32) : List Nat → Nat → Nat
  | [], c => c
  | j :: L, c => pEq f v L (if f j = v then c + 1 else c)
def pMx (f : Nat → Int32) (A : List Nat) : List Nat → Nat → Nat
  | [], m => m
  | i :: L, m => pMx f A L (if m < pEq f (f i) A 0 then pEq f (f i) A 0 else m)
theorem pEq_le {f : Nat → Int32} {v : Int32} : ∀ {L : List Nat} {c : Nat}, pEq f v L c ≤ c + L.length
  | [], c => Nat.le_refl _
  | j :: L, c => by
    rw [pEq, List.length_cons]
    have h1 := pEq_le (f := f) (v := v) (L := L) (c := c + 1)
    have h2 := pEq_le (f := f) (v := v) (L := L) (c := c)
    split <;> omega
theorem pMx_le {f : Nat → Int32} {A : List Nat} : ∀ {L : List Nat} {m : Nat}, m ≤ A.length → pMx f A L m ≤ A.length
  | [], m, h => h
  | i :: L, m, h => by
    rw [pMx]
    refine pMx_le ?_
    have := pEq_le (f := f) (v := f i) (L := A) (c := 0)
    split <;> omega
theorem pAS_le {ag : Nat → Bool} : ∀ {m k : Nat}, (pAS ag m k).length ≤ m
  | 0, k => Nat.le_refl _
  | m + 1, k => by
    rw [pAS]
    have := pAS_le (ag := ag) (m := m) (k := k + 1)
    cases ag k
    · rw [cond_false]; omega
    · rw [cond_true, List.length_cons]; omega
/-- how many are most alike on day n -/
def pMA (cs : Nat → Nat → Int32) (A : List Nat) (n : Nat) : Nat := pMx (fun j => cs j n) A A 0
def pDy (cs : Nat → Nat → Int32) (A : List Nat) : Nat → Nat × Nat
  | 0 => (0, 8)
  | n + 1 => if pMA cs A n < (pDy cs A n).2 then (n, pMA cs A n) else pDy cs A n
/-- the class' rows and marks of who agrees -/
def inqD (M : zM) (t : Nat) (ag : Nat → Bool) (cs : Nat → Nat → Int32) : Prop := zGE M ∧ t ≤ 7 ∧ M.1 129 2 = Int32.ofNat t ∧ ∀ j, j < t → M.1 138 j = (bif ag j then 1 else 0) ∧ ∀ n, n < 61 → M.1 (131 + j) n = cs j n
theorem s43 {X : (Nat → Int32) × Nat} {d t n : Nat} {ag : Nat → Bool} {cs : Nat → Nat → Int32} {M : zM} (h : inqD M t ag cs) (hn : n < 61) : zC X d 43 [.ref 129, .int (Int32.ofNat n)] M = some (some (.int (Int32.ofNat (pMA cs (pAS ag t 0) n))), M) := by
  show zR X d 43 (0, [.ref 129, .int (Int32.ofNat n), zjk, zjk, zjk, zjk], [], M) = _
  obtain ⟨hG, ht, h2, hr⟩ := h
  have nn : (Int32.ofNat n).toNatClampNeg = n := toNat_of (by omega)
  have hA := pAS_le (ag := ag) (m := t) (k := 0)
  have inner : ∀ (i mo : Nat), i < t → ag i = true → ∀ m j c, j + m = t → c ≤ j → ∃ v4 v5 : Int32, zR X d 43 (18, [.ref 129, .int (Int32.ofNat n), .int (Int32.ofNat mo), .int (Int32.ofNat i), .int (Int32.ofNat c), .int (Int32.ofNat j)], [], M) = zR X d 43 (4, [.ref 129, .int (Int32.ofNat n), .int (if Int32.ofNat mo < Int32.ofNat (pEq (fun j => cs j n) (cs i n) (pAS ag m j) c) then Int32.ofNat (pEq (fun j => cs j n) (cs i n) (pAS ag m j) c) else Int32.ofNat mo), .int (Int32.ofNat (i + 1)), .int v4, .int v5], [], M) := by
    intro i mo hi hai m
    have ii : (Int32.ofNat i).toNatClampNeg = i := toNat_of (by omega)
    have ai : M.1 138 i = 1 := by rw [(hr i hi).1, hai]; rfl
    induction m with
    | zero =>
      intro j c hj hcj
      have jj : (Int32.ofNat j).toNatClampNeg = j := toNat_of (by omega)
      have hle : M.1 129 2 ≤ Int32.ofNat j := by rw [h2, of_le (by omega) (by omega)]; omega
      have lem := t43_18 (X := X) (d := d) (Int32.ofNat n) (Int32.ofNat mo) (Int32.ofNat i) (Int32.ofNat c) (Int32.ofNat j) M hG
      rw [ii, ai] at lem
      rw [lem (vp_of (by omega) (by omega)) (fun _ h => absurd hle h) (fun _ h => absurd hle h), if_neg (by decide), if_pos hle, of_succ]
      exact ⟨_, _, rfl⟩
    | succ m ih =>
      intro j c hj hcj
      have jj : (Int32.ofNat j).toNatClampNeg = j := toNat_of (by omega)
      have hnle : ¬ M.1 129 2 ≤ Int32.ofNat j := by rw [h2, of_le (by omega) (by omega)]; omega
      have lem := t43_18 (X := X) (d := d) (Int32.ofNat n) (Int32.ofNat mo) (Int32.ofNat i) (Int32.ofNat c) (Int32.ofNat j) M hG
      rw [ii, jj, nn, ai, (hr j (by omega)).2 n hn, (hr i hi).2 n hn, (hr j (by omega)).1] at lem
      rw [lem (vp_of (by omega) (by omega)) (fun _ _ => vp_of (by omega) (by omega)) (fun _ _ _ => vp_of (by omega) (by omega)), if_neg (by decide), if_neg hnle, of_succ, of_succ, pAS]
      cases hb : ag j
      · rw [cond_false, if_pos rfl, cond_false]
        exact ih (j + 1) c (by omega) (by omega)
      · rw [cond_true, if_neg (by decide), cond_true, pEq]
        by_cases e : cs j n = cs i n
        · rw [if_neg (not_not_intro e), if_pos e]
          exact ih (j + 1) (c + 1) (by omega) (by omega)
        · rw [if_pos e, if_neg e]
          exact ih (j + 1) c (by omega) (by omega)
  have outer : ∀ m i mo v4 v5, i + m = t → mo ≤ 7 → zR X d 43 (4, [.ref 129, .int (Int32.ofNat n), .int (Int32.ofNat mo), .int (Int32.ofNat i), v4, v5], [], M) = some (some (.int (Int32.ofNat (pMx (fun j => cs j n) (pAS ag t 0) (pAS ag m i) mo))), M) := by
    intro m
    induction m with
    | zero =>
      intro i mo v4 v5 hi hmo
      rw [t43_4 _ _ _ _ _ _ hG, h2, if_pos (by rw [of_le (by omega) (by omega)]; omega)]
      rfl
    | succ m ih =>
      intro i mo v4 v5 hi hmo
      have ii : (Int32.ofNat i).toNatClampNeg = i := toNat_of (by omega)
      rw [t43_4 _ _ _ _ _ _ hG, h2, if_neg (by rw [of_le (by omega) (by omega)]; omega), pAS]
      cases hb : ag i
      · have ai : M.1 138 i = 0 := by rw [(hr i (by omega)).1, hb]; rfl
        have lem := t43_18 (X := X) (d := d) (Int32.ofNat n) (Int32.ofNat mo) (Int32.ofNat i) 0 0 M hG
        rw [ii, ai] at lem
        rw [lem (vp_of (by omega) (by omega)) (fun h => absurd rfl h) (fun h => absurd rfl h), if_pos rfl, of_succ, if_neg (by rw [show (0 : Int32) = Int32.ofNat 0 from rfl, of_lt (by omega) (by omega)]; omega), cond_false]
        exact ih (i + 1) mo _ _ (by omega) hmo
      · obtain ⟨w4, w5, q⟩ := inner i mo (by omega) hb t 0 0 (by omega) (Nat.le_refl _)
        have q' : zR X d 43 (18, [.ref 129, .int (Int32.ofNat n), .int (Int32.ofNat mo), .int (Int32.ofNat i), .int 0, .int 0], [], M) = _ := q
        have hpe := pEq_le (f := fun j => cs j n) (v := cs i n) (L := pAS ag t 0) (c := 0)
        rw [q', fi_lt (by omega) (by omega), cond_true, pMx]
        by_cases c : mo < pEq (fun j => cs j n) (cs i n) (pAS ag t 0) 0
        · rw [if_pos c, if_pos c]
          exact ih (i + 1) _ _ _ (by omega) (by omega)
        · rw [if_neg c, if_neg c]
          exact ih (i + 1) _ _ _ (by omega) hmo
  rw [t43_0 _ _ _ _ _ _ hG]
  exact outer t 0 0 zjk zjk (by omega) (by omega)
theorem pDy_le {cs : Nat → Nat → Int32} {A : List Nat} (hA : A.length ≤ 7) : ∀ c, (pDy cs A c).2 ≤ 8 ∧ (pDy cs A c).1 ≤ c
  | 0 => ⟨Nat.le_refl _, Nat.le_refl _⟩
  | c + 1 => by
    have h := pDy_le (cs := cs) hA c
    have h2 : pMA cs A c ≤ A.length := pMx_le (Nat.zero_le _)
    rw [pDy]
    split
    · exact ⟨by show pMA cs A c ≤ 8; omega, by show c ≤ c + 1; omega⟩
    · omega
theorem inqD_I {M : zM} {t k : Nat} {ag : Nat → Bool} {cs : Nat → Nat → Int32} {x : Int32} (h : inqD M t ag cs) (hk : k ≠ 2) : inqD (zsI M 129 k x) t ag cs := by
  obtain ⟨h1, h2, h3, h4⟩ := h
  refine ⟨h1, h2, by rw [zI_s, if_neg (fun e => hk e.symm)]; exact h3, fun j hj => ⟨by rw [zI_n (by decide)]; exact (h4 j hj).1, fun n hn => by rw [zI_n (by omega)]; exact (h4 j hj).2 n hn⟩⟩
theorem s42 {X : (Nat → Int32) × Nat} {d t : Nat} {ag : Nat → Bool} {cs : Nat → Nat → Int32} {M : zM} (h : inqD M t ag cs) : ∃ M', zC X (d + 1) 42 [.ref 129] M = some (none, M') ∧ zfr 114 150 M M' ∧ M'.1 129 7 = Int32.ofNat (pDy cs (pAS ag t 0) 61).1 ∧ M'.1 129 8 = Int32.ofNat (pDy cs (pAS ag t 0) 61).2 := by
  show ∃ M', zR X (d + 1) 42 (0, [.ref 129, zjk, zjk], [], M) = some (none, M') ∧ _
  have hA : (pAS ag t 0).length ≤ 7 := Nat.le_trans pAS_le h.2.1
  have loop : ∀ m c v M1, c + m = 61 → inqD M1 t ag cs → zfr 114 150 M M1 → M1.1 129 7 = Int32.ofNat (pDy cs (pAS ag t 0) c).1 → M1.1 129 8 = Int32.ofNat (pDy cs (pAS ag t 0) c).2 → ∃ M', zR X (d + 1) 42 (13, [.ref 129, .int (Int32.ofNat c), v], [], M1) = some (none, M') ∧ zfr 114 150 M M' ∧ M'.1 129 7 = Int32.ofNat (pDy cs (pAS ag t 0) 61).1 ∧ M'.1 129 8 = Int32.ofNat (pDy cs (pAS ag t 0) 61).2 := by
    intro m
    induction m with
    | zero =>
      intro c v M1 hc h1 hf h7 h8
      rw [t42_13 _ _ _ h1.1, if_pos (by rw [show (61 : Int32) = Int32.ofNat 61 from rfl, of_le (by omega) (by omega)]; omega)]
      rw [show c = 61 by omega] at h7 h8
      exact ⟨M1, rfl, hf, h7, h8⟩
    | succ m ih =>
      intro c v M1 hc h1 hf h7 h8
      have hst : pDy cs (pAS ag t 0) (c + 1) = if pMA cs (pAS ag t 0) c < (pDy cs (pAS ag t 0) c).2 then (c, pMA cs (pAS ag t 0) c) else pDy cs (pAS ag t 0) c := rfl
      have hd := pDy_le (cs := cs) hA c
      have h2 : pMA cs (pAS ag t 0) c ≤ (pAS ag t 0).length := pMx_le (Nat.zero_le _)
      rw [t42_13 _ _ _ h1.1, if_neg (by rw [show (61 : Int32) = Int32.ofNat 61 from rfl, of_le (by omega) (by omega)]; omega), s43 h1 (by omega), Option.bind_some]
      dsimp only [zps]
      rw [t42_24 _ _ _ _ h1.1, h8, fi_le (by omega) (by omega), of_succ]
      by_cases e : (pDy cs (pAS ag t 0) c).2 ≤ pMA cs (pAS ag t 0) c
      · rw [if_neg (by omega)] at hst
        rw [if_pos e]
        exact ih (c + 1) _ M1 (by omega) h1 hf (by rw [hst]; exact h7) (by rw [hst]; exact h8)
      · rw [if_pos (by omega)] at hst
        rw [if_neg e]
        exact ih (c + 1) _ _ (by omega) (inqD_I (inqD_I h1 (by omega)) (by omega)) (zfr_I (zfr_I hf (by omega) (by omega)) (by omega) (by omega)) (by rw [zI_s, if_pos rfl, hst]) (by rw [zI_s, if_neg (by decide), zI_s, if_pos rfl, hst])
  rw [t42_0 _ _ _ h.1]
  exact loop 61 0 zjk _ (by omega) (inqD_I (inqD_I h (by omega)) (by omega)) (zfr_I (zfr_I zfr_rf (by omega) (by omega)) (by omega) (by omega)) (by rw [zI_s, if_neg (by decide), zI_s, if_pos rfl]; rfl) (by rw [zI_s, if_pos rfl]; rfl)
def pRuled (E : zE) (r : zRul) (g : zLg) (x : Int32) : Int32 := if E 0 0 = 0 then -3 else if x < 0 ∨ 1 < x then -3 else if x = 0 then (pRu (pAg E r g) (r.1 + 1)).1 else (pRu (pAg E r g) (r.1 + 1)).2
def pLook (E : zE) (r : zRul) (g : zLg) (x : Int32) : Int32 := if E 0 0 = 0 then -1 else if x < 0 ∨ 1 < x then -1 else if (pRu (pAg E r g) (r.1 + 1)).1 = 0 then -2 else if x = 0 then Int32.ofNat (pDy (fun j n => pCs E (pRl r.2 j) n) (pAS (pAg E r g) (r.1 + 1) 0) 61).1 else Int32.ofNat (pDy (fun j n => pCs E (pRl r.2 j) n) (pAS (pAg E r g) (r.1 + 1) 0) 61).2
theorem tld {E : zE} (hE : okE E) (h : ¬ E 0 0 = 0) : E 0 0 = 1 := by
  obtain ⟨k, hk, h1⟩ := hE.1
  rw [h1] at h ⊢
  rcases (show k = 0 ∨ k = 1 by omega) with rfl | rfl
  · exact absurd rfl h
  · rfl
theorem s126 {X : (Nat → Int32) × Nat} {d : Nat} {x : Int32} {r : zRul} {g : zLg} {M : zM} (hG : zGE M) (hE : okE (emD 40 M)) (hT : emD 40 M 0 0 = 1 → okT (emD 40 M)) (hg : okL g) (hl : lgD M g) (hr : okRs r) (hrs : rsD M r) : ∃ M', zC X (d + 6) 126 [.ref 0, .int x] M = some (some (.int (pRuled (emD 40 M) r g x)), M') ∧ zfr 114 150 M M' := by
  show ∃ M', zR X (d + 6) 126 (0, [.ref 0, .int x], [], M) = some (some (.int _), M') ∧ _
  unfold pRuled
  rw [t126_0 _ _ hG, s11 hG zq_40 hE, Option.bind_some]
  dsimp only [zps]
  rw [t126_10 _ _ _ hG]
  by_cases c0 : emD 40 M 0 0 = 0
  · rw [if_pos c0, if_pos c0, if_pos rfl]
    exact ⟨M, rfl, zfr_rf⟩
  · rw [if_neg c0, if_neg c0, if_neg (by decide)]
    by_cases c1 : x < 0
    · rw [if_pos c1, if_pos (Or.inl c1)]
      exact ⟨M, rfl, zfr_rf⟩
    · rw [if_neg c1]
      by_cases c2 : 1 < x
      · rw [if_neg (Int32.not_le.mpr c2), if_pos (Or.inr c2)]
        exact ⟨M, rfl, zfr_rf⟩
      · obtain ⟨M', q1, q2, q3, q4, q5, q6⟩ := s39 (X := X) (d := d) hG hE (hT (tld hE c0)) hg hl hr hrs
        rw [if_pos (Int32.not_lt.mp c2), if_neg (not_or.mpr ⟨c1, c2⟩), hrs.1, q1, Option.bind_some]
        dsimp only [zps]
        rw [t126_44 _ _ (zfr_G q2 hG), q4, q5]
        refine ⟨M', ?_, q2⟩
        by_cases c4 : x = 0
        · rw [if_neg (not_not_intro c4), if_pos c4]
        · rw [if_pos c4, if_neg c4]
theorem s127 {X : (Nat → Int32) × Nat} {d : Nat} {x : Int32} {r : zRul} {g : zLg} {M : zM} (hG : zGE M) (hE : okE (emD 40 M)) (hT : emD 40 M 0 0 = 1 → okT (emD 40 M)) (hg : okL g) (hl : lgD M g) (hr : okRs r) (hrs : rsD M r) : ∃ M', zC X (d + 6) 127 [.ref 0, .int x] M = some (some (.int (pLook (emD 40 M) r g x)), M') ∧ zfr 114 150 M M' := by
  show ∃ M', zR X (d + 6) 127 (0, [.ref 0, .int x], [], M) = some (some (.int _), M') ∧ _
  have hr6 := hr.1
  unfold pLook
  rw [t127_0 _ _ hG, s11 hG zq_40 hE, Option.bind_some]
  dsimp only [zps]
  rw [t127_10 _ _ _ hG]
  by_cases c0 : emD 40 M 0 0 = 0
  · rw [if_pos c0, if_pos c0, if_pos rfl]
    exact ⟨M, rfl, zfr_rf⟩
  · rw [if_neg c0, if_neg c0, if_neg (by decide)]
    by_cases c1 : x < 0
    · rw [if_pos c1, if_pos (Or.inl c1)]
      exact ⟨M, rfl, zfr_rf⟩
    · rw [if_neg c1]
      by_cases c2 : 1 < x
      · rw [if_neg (Int32.not_le.mpr c2), if_pos (Or.inr c2)]
        exact ⟨M, rfl, zfr_rf⟩
      · obtain ⟨M', q1, q2, q3, q4, q5, q6⟩ := s39 (X := X) (d := d) hG hE (hT (tld hE c0)) hg hl hr hrs
        have hG1 := zfr_G q2 hG
        rw [if_pos (Int32.not_lt.mp c2), if_neg (not_or.mpr ⟨c1, c2⟩), hrs.1, q1, Option.bind_some]
        dsimp only [zps]
        rw [t127_43 _ _ hG1, q4]
        by_cases c3 : (pRu (pAg (emD 40 M) r g) (r.1 + 1)).1 = 0
        · rw [if_neg (not_not_intro c3), if_pos c3]
          exact ⟨M', rfl, q2⟩
        · obtain ⟨M2, w1, w2, w3, w4⟩ := s42 (X := X) (d := d + 4) (t := r.1 + 1) (ag := pAg (emD 40 M) r g) (cs := fun j n => pCs (emD 40 M) (pRl r.2 j) n) (M := M') ⟨hG1, by omega, q3, q6⟩
          rw [if_pos c3, if_neg c3, w1, Option.bind_some]
          dsimp only [zps]
          rw [t127_63 _ _ (zfr_G w2 hG1), w3, w4]
          refine ⟨M2, ?_, zfr_tr q2 w2⟩
          by_cases c4 : x = 0
          · rw [if_neg (not_not_intro c4), if_pos c4]
          · rw [if_pos c4, if_neg c4]
