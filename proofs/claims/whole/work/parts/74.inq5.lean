/-! ===== on which day to look next: the reference ===== -/
def rwP (M : zM) (cs : Nat → Nat → Int32) : Nat → List Nat → Prop
  | _, [] => True
  | a, x :: P => (∀ n, n < 61 → M.1 501 (61 * a + n) = cs x n) ∧ rwP M cs (a + 1) P
theorem rwP_c {M M' : zM} {cs : Nat → Nat → Int32} : ∀ {P : List Nat} {a : Nat}, (∀ k, k < 61 * (a + P.length) → M'.1 501 k = M.1 501 k) → rwP M cs a P → rwP M' cs a P
  | [], _, _, _ => True.intro
  | x :: P, a, h, h1 => by
    rw [List.length_cons] at h
    exact ⟨fun n hn => by rw [h _ (by rw [Nat.mul_add]; omega)]; exact h1.1 n hn, rwP_c (fun k hk => h k (by rw [show a + (P.length + 1) = a + 1 + P.length by omega]; exact hk)) h1.2⟩
theorem rwP_app {M : zM} {cs : Nat → Nat → Int32} {x : Nat} : ∀ {P : List Nat} {a : Nat}, rwP M cs a P → (∀ n, n < 61 → M.1 501 (61 * (a + P.length) + n) = cs x n) → rwP M cs a (P ++ [x])
  | [], a, _, h => ⟨h, True.intro⟩
  | y :: P, a, h, h2 => ⟨h.1, rwP_app h.2 (by rw [List.length_cons, show a + (P.length + 1) = a + 1 + P.length by omega] at h2; exact h2)⟩
theorem of_61 (r o : Nat) : 61 * Int32.ofNat r + Int32.ofNat o = Int32.ofNat (61 * r + o) := by rw [Int32.ofNat_add, Int32.ofNat_mul]; rfl
theorem r232 {X : (Nat → Int32) × Nat} {d n : Nat} {cs : Nat → Nat → Int32} {A : List Nat} {M : zM} (hG : zGE M) (hA : A.length ≤ 7) (hn : n < 61) (hr : rwP M cs 0 A) : zC X d 232 [.ref 460, .int (Int32.ofNat n), .int (Int32.ofNat A.length)] M = some (some (.int (Int32.ofNat (pMA cs A n))), M) := by
  show zR X d 232 (0, [.ref 460, .int (Int32.ofNat n), .int (Int32.ofNat A.length), zjk, zjk, zjk, zjk], [], M) = _
  have inner : ∀ (a mo i : Nat), a < A.length → M.1 501 (61 * a + n) = cs i n → ∀ (L : List Nat) (b c : Nat), b + L.length = A.length → rwP M cs b L → c ≤ b → ∃ v5 v6 : Int32, zR X d 232 (17, [.ref 460, .int (Int32.ofNat n), .int (Int32.ofNat A.length), .int (Int32.ofNat mo), .int (Int32.ofNat a), .int (Int32.ofNat c), .int (Int32.ofNat b)], [], M) = zR X d 232 (5, [.ref 460, .int (Int32.ofNat n), .int (Int32.ofNat A.length), .int (if Int32.ofNat (pEq (fun j => cs j n) (cs i n) L c) ≤ Int32.ofNat mo then Int32.ofNat mo else Int32.ofNat (pEq (fun j => cs j n) (cs i n) L c)), .int (Int32.ofNat (a + 1)), .int v5, .int v6], [], M) := by
    intro a mo i ha hai L
    induction L with
    | nil =>
      intro b c hb hr hc
      rw [List.length_nil] at hb
      have hle : Int32.ofNat A.length ≤ Int32.ofNat b := by rw [of_le (by omega) (by omega)]; omega
      rw [t232_17 _ _ _ _ _ _ _ hG (fun h => absurd hle h) (fun h => absurd hle h), if_pos hle, of_succ]
      show ∃ v5 v6 : Int32, _ = zR X d 232 (5, [.ref 460, .int (Int32.ofNat n), .int (Int32.ofNat A.length), .int (if Int32.ofNat c ≤ Int32.ofNat mo then Int32.ofNat mo else Int32.ofNat c), .int (Int32.ofNat (a + 1)), .int v5, .int v6], [], M)
      by_cases e : Int32.ofNat c ≤ Int32.ofNat mo
      · rw [if_pos e, if_pos e]; exact ⟨_, _, rfl⟩
      · rw [if_neg e, if_neg e]; exact ⟨_, _, rfl⟩
    | cons j L ih =>
      intro b c hb hr hc
      rw [List.length_cons] at hb
      have hnle : ¬ Int32.ofNat A.length ≤ Int32.ofNat b := by rw [of_le (by omega) (by omega)]; omega
      have e1 : (Int32.ofNat (61 * a + n)).toNatClampNeg = 61 * a + n := toNat_of (by omega)
      have e2 : (Int32.ofNat (61 * b + n)).toNatClampNeg = 61 * b + n := toNat_of (by omega)
      have lem := t232_17 (X := X) (d := d) (Int32.ofNat n) (Int32.ofNat A.length) (Int32.ofNat mo) (Int32.ofNat a) (Int32.ofNat c) (Int32.ofNat b) M hG
      rw [of_61, of_61, e1, e2, hai, hr.1 n hn] at lem
      rw [lem (fun _ => vp_of (by omega) (by omega)) (fun _ => vp_of (by omega) (by omega)), if_neg hnle, of_succ, of_succ, Int32.add_zero, pEq]
      by_cases e : cs j n = cs i n
      · rw [if_neg (not_not_intro e.symm), if_pos e]
        exact ih (b + 1) (c + 1) (by omega) hr.2 (by omega)
      · rw [if_pos (fun h => e h.symm), if_neg e]
        exact ih (b + 1) c (by omega) hr.2 (by omega)
  have outer : ∀ (L : List Nat) (a mo : Nat) (v5 v6 : Value), a + L.length = A.length → rwP M cs a L → mo ≤ 7 → zR X d 232 (5, [.ref 460, .int (Int32.ofNat n), .int (Int32.ofNat A.length), .int (Int32.ofNat mo), .int (Int32.ofNat a), v5, v6], [], M) = some (some (.int (Int32.ofNat (pMx (fun j => cs j n) A L mo))), M) := by
    intro L
    induction L with
    | nil =>
      intro a mo v5 v6 ha hr2 hmo
      rw [List.length_nil] at ha
      rw [t232_5 _ _ _ _ _ _ _ hG, if_pos (by rw [of_le (by omega) (by omega)]; omega)]
      rfl
    | cons i L ih =>
      intro a mo v5 v6 ha hr2 hmo
      rw [List.length_cons] at ha
      obtain ⟨w5, w6, q⟩ := inner a mo i (by omega) (hr2.1 n hn) A 0 0 (by omega) hr (Nat.le_refl _)
      have q' : zR X d 232 (17, [.ref 460, .int (Int32.ofNat n), .int (Int32.ofNat A.length), .int (Int32.ofNat mo), .int (Int32.ofNat a), .int 0, .int 0], [], M) = _ := q
      have hpe := pEq_le (f := fun j => cs j n) (v := cs i n) (L := A) (c := 0)
      rw [t232_5 _ _ _ _ _ _ _ hG, if_neg (by rw [of_le (by omega) (by omega)]; omega), q', fi_le (by omega) (by omega), pMx]
      by_cases e : pEq (fun j => cs j n) (cs i n) A 0 ≤ mo
      · rw [if_pos e, if_neg (by omega)]
        exact ih (a + 1) mo _ _ (by omega) hr2.2 hmo
      · rw [if_neg e, if_pos (by omega)]
        exact ih (a + 1) _ _ _ (by omega) hr2.2 (by omega)
  rw [t232_0 _ _ _ _ _ _ _ hG]
  exact outer A 0 0 zjk zjk (by omega) hr (by omega)
theorem pRu_l {ag : Nat → Bool} : ∀ i, ∃ P : List Nat, P.length ≤ i ∧ (pRu ag i).1 = Int32.ofNat P.length ∧ ∀ m, pAS ag (i + m) 0 = P ++ pAS ag m i
  | 0 => ⟨[], Nat.le_refl _, rfl, fun m => by rw [Nat.zero_add]; rfl⟩
  | i + 1 => by
    obtain ⟨P, h1, h2, h3⟩ := pRu_l (ag := ag) i
    rw [pRu]
    cases hA : ag i
    · refine ⟨P, by omega, h2, fun m => ?_⟩
      have := h3 (m + 1)
      rw [pAS, hA, cond_false] at this
      rw [show i + 1 + m = i + (m + 1) by omega]
      exact this
    · refine ⟨P ++ [i], by rw [List.length_append]; show P.length + 1 ≤ i + 1; omega, ?_, fun m => ?_⟩
      · rw [cond_true, List.length_append, h2, of_succ]
        rfl
      · have := h3 (m + 1)
        rw [pAS, hA, cond_true] at this
        rw [show i + 1 + m = i + (m + 1) by omega, this, List.append_assoc]
        rfl
theorem bk_I {K M : zM} {k : Nat} {x : Int32} (h : bk K M) : bk K (zsI M 501 k x) := ⟨zwk_I h.1 (by omega) (by omega), kp_w h.2.1 (zI_n1 (by decide)), fun k hk => by rw [zI_n (by decide)]; exact h.2.2.1 k hk, fun k hk => by rw [zI_n (by decide)]; exact h.2.2.2 k hk⟩
theorem r233 {X : (Nat → Int32) × Nat} {d : Nat} {x : Int32} {r : zRul} {g : zLg} {M : zM} (hM : okM M) (hT : emR M 0 0 = 1 → okT (emR M)) (hg : okL g) (hl : lgR M g) (hr : okRs r) (hrs : rsR M r) : ∃ M', zC X (d + 8) 233 [.ref 460, .int x] M = some (some (.int (pLook (emR M) r g x)), M') ∧ rsm M M' := by
  show ∃ M', zR X (d + 8) 233 (0, [.ref 460, .int x, zjk, zjk, zjk], [], M) = some (some (.int _), M') ∧ _
  have hG := hM.1
  have hr6 := hr.1
  have h0 : M.1 460 25 = emR M 0 0 := rfl
  unfold pLook
  rw [t233_0 _ _ _ _ _ hG, h0]
  by_cases c0 : emR M 0 0 = 0
  · rw [if_pos c0, if_pos c0]
    exact ⟨M, rfl, rsm_rf⟩
  · rw [if_neg c0, if_neg c0, r135i (y := 0) (z := 1) (a := 0) (b := 1) hG rfl rfl, Option.bind_some]
    dsimp only [zps]
    rw [t233_14 _ _ _ _ _ _ hG]
    by_cases c : x < 0 ∨ 1 < x
    · rw [if_pos c, if_pos c, if_neg (by decide)]
      exact ⟨M, rfl, rsm_rf⟩
    · obtain ⟨M1, w1, w2, w3, w4, w5, w6⟩ := r211 (X := X) (d := d + 5) hG
      have ht := hT (tld hM.2.1 c0)
      rw [if_neg c, if_neg c, if_pos (by decide), w1, Option.bind_some]
      dsimp only [zps]
      rw [t233_23 _ _ _ _ _ (zwk_G w2 hG)]
      generalize hcs : (fun j n => pCs (emR M) (pRl r.2 j) n : Nat → Nat → Int32) = cs
      have hcsa : ∀ j n, pCs (emR M) (pRl r.2 j) n = cs j n := fun j n => by rw [← hcs]
      -- the days
      have days : ∀ (A : List Nat) (M1 : zM), A.length ≤ 7 → bk M M1 → rwP M1 cs 0 A → ∀ m c b, c + m = 61 → 1 ≤ c → pDy cs A c = (b, pMA cs A b) → b < 61 → ∃ M', zR X (d + 8) 233 (99, [.ref 460, .int x, .int (Int32.ofNat A.length), .int (Int32.ofNat b), .int (Int32.ofNat c)], [], M1) = some (some (.int (if x = 0 then Int32.ofNat (pDy cs A 61).1 else Int32.ofNat (pDy cs A 61).2)), M') ∧ rsm M M' := by
        intro A M1 hA hb hrw m
        have hG1 := zwk_G hb.1 hG
        induction m with
        | zero =>
          intro c b hc h1 hd hb61
          rw [show c = 61 by omega] at hd
          refine ⟨M1, ?_, hb.1, hb.2.2.1, hb.2.2.2⟩
          rw [t233_99 _ _ _ _ _ hG1, if_pos (by rw [show (60 : Int32) = Int32.ofNat 60 from rfl, of_lt (by omega) (by omega)]; omega), hd]
          by_cases c4 : x = 0
          · rw [if_neg (not_not_intro c4), if_pos c4]
          · rw [if_pos c4, if_neg c4, r232 hG1 hA hb61 hrw, Option.bind_some]
            dsimp only [zps]
            rw [t233_149 _ _ _ _ _ _ hG1]
        | succ m ih =>
          intro c b hc h1 hd hb61
          have hst : pDy cs A (c + 1) = if pMA cs A c < (pDy cs A c).2 then (c, pMA cs A c) else pDy cs A c := rfl
          have l1 : pMA cs A c ≤ A.length := pMx_le (Nat.zero_le _)
          have l2 : pMA cs A b ≤ A.length := pMx_le (Nat.zero_le _)
          rw [hd] at hst
          rw [t233_99 _ _ _ _ _ hG1, if_neg (by rw [show (60 : Int32) = Int32.ofNat 60 from rfl, of_lt (by omega) (by omega)]; omega), r232 hG1 hA (by omega) hrw, Option.bind_some]
          dsimp only [zps]
          rw [t233_113 _ _ _ _ _ _ hG1, r232 hG1 hA hb61 hrw, Option.bind_some]
          dsimp only [zps]
          rw [t233_119 _ _ _ _ _ _ _ hG1, fi_le (by omega) (by omega), of_succ]
          by_cases e : pMA cs A b ≤ pMA cs A c
          · rw [if_pos e]
            rw [if_neg (by show ¬ pMA cs A c < pMA cs A b; omega)] at hst
            exact ih (c + 1) b (by omega) (by omega) hst hb61
          · rw [if_neg e]
            rw [if_pos (by show pMA cs A c < pMA cs A b; omega)] at hst
            exact ih (c + 1) c (by omega) (by omega) hst (by omega)
      have copy : ∀ (P : List Nat) (i : Nat) (M1 : zM), P.length ≤ 6 → bk M M1 → rwP M1 cs 0 P → (∀ n, n < 61 → M1.1 500 n = cs i n) → ∀ m c M2, c + m = 61 → bk M M2 → M2.1 500 = M1.1 500 → (∀ k, k < 61 * P.length → M2.1 501 k = M1.1 501 k) → (∀ n, n < c → M2.1 501 (61 * P.length + n) = cs i n) → ∃ M3 v, zR X (d + 8) 233 (46, [.ref 460, .int x, .int (Int32.ofNat P.length), .int (rv i), .int (Int32.ofNat c)], [], M2) = zR X (d + 8) 233 (27, [.ref 460, .int x, .int (Int32.ofNat (P.length + 1)), .int (rv (i + 1)), v], [], M3) ∧ bk M M3 ∧ rwP M3 cs 0 (P ++ [i]) := by
        intro P i M1 hP hb hrw hrow m
        induction m with
        | zero =>
          intro c M2 hc hb2 e5 e1 hn
          have hG2 := zwk_G hb2.1 hG
          have hlt : (60 : Int32) < Int32.ofNat c := by rw [show (60 : Int32) = Int32.ofNat 60 from rfl, of_lt (by omega) (by omega)]; omega
          rw [t233_46 _ _ _ _ _ hG2 (fun h => absurd hlt h) (fun h => absurd hlt h), if_pos hlt, of_succ, rv_s]
          refine ⟨M2, _, rfl, hb2, rwP_app (rwP_c (fun k hk => e1 k (by rw [Nat.zero_add] at hk; exact hk)) hrw) (fun n hn2 => ?_)⟩
          rw [Nat.zero_add]
          exact hn n (by omega)
        | succ m ih =>
          intro c M2 hc hb2 e5 e1 hn
          have hG2 := zwk_G hb2.1 hG
          have hnlt : ¬ (60 : Int32) < Int32.ofNat c := by rw [show (60 : Int32) = Int32.ofNat 60 from rfl, of_lt (by omega) (by omega)]; omega
          have cc : (Int32.ofNat c).toNatClampNeg = c := toNat_of (by omega)
          have e3 : (Int32.ofNat (61 * P.length + c)).toNatClampNeg = 61 * P.length + c := toNat_of (by omega)
          rw [t233_46 _ _ _ _ _ hG2 (fun _ => vp_of (by omega) (by omega)) (fun _ => by rw [of_61]; exact vp_of (by omega) (by omega)), if_neg hnlt, of_61, e3, cc, of_succ, e5, hrow c (by omega)]
          refine ih (c + 1) _ (by omega) (bk_I hb2) (by rw [zI_n1 (by decide)]; exact e5) (fun k hk => by rw [zI_s, if_neg (by omega)]; exact e1 k hk) (fun n hn2 => ?_)
          rw [zI_s]
          by_cases e : n = c
          · rw [if_pos (by omega), e]
          · rw [if_neg (by omega)]; exact hn n (by omega)
      have loop : ∀ m i (P : List Nat) v M1, i + m = r.1 + 1 → bk M M1 → P.length ≤ i → (pRu (pAg (emR M) r g) i).1 = Int32.ofNat P.length → pAS (pAg (emR M) r g) (r.1 + 1) 0 = P ++ pAS (pAg (emR M) r g) m i → rwP M1 cs 0 P → ∃ M', zR X (d + 8) 233 (27, [.ref 460, .int x, .int (Int32.ofNat P.length), .int (rv i), v], [], M1) = some (some (.int (if (pRu (pAg (emR M) r g) (r.1 + 1)).1 = 0 then -2 else if x = 0 then Int32.ofNat (pDy cs (pAS (pAg (emR M) r g) (r.1 + 1) 0) 61).1 else Int32.ofNat (pDy cs (pAS (pAg (emR M) r g) (r.1 + 1) 0) 61).2)), M') ∧ rsm M M' := by
        intro m
        induction m with
        | zero =>
          intro i P v M1 hi hb hP hc hA hrw
          have hG1 := zwk_G hb.1 hG
          have hrs1 := rsR_w hb.1 hrs
          rw [show i = r.1 + 1 by omega] at hc
          have hAP : pAS (pAg (emR M) r g) (r.1 + 1) 0 = P := by rw [hA]; exact List.append_nil P
          have l1 : pMA cs P 0 ≤ P.length := pMx_le (Nat.zero_le _)
          rw [t233_27 _ _ _ _ _ hG1, hrs1.1, if_pos (by rw [rv_p (by omega), of_le (by omega) (by omega)]; omega), hc, hAP]
          by_cases e : Int32.ofNat P.length = 0
          · rw [if_neg (not_not_intro e), if_pos e]
            exact ⟨M1, rfl, hb.1, hb.2.2.1, hb.2.2.2⟩
          · rw [if_pos e, if_neg e]
            exact days P M1 (by omega) hb hrw 60 1 0 (by omega) (by omega) (by rw [pDy, pDy, if_pos (by show pMA cs P 0 < 8; omega)]) (by omega)
        | succ m ih =>
          intro i P v M1 hi hb hP hc hA hrw
          have hG1 := zwk_G hb.1 hG
          have hrs1 := rsR_w hb.1 hrs
          have hst : pRu (pAg (emR M) r g) (i + 1) = bif pAg (emR M) r g i then ((pRu (pAg (emR M) r g) i).1 + 1, if (pRu (pAg (emR M) r g) i).1 = 0 then Int32.ofNat i - 1 else (pRu (pAg (emR M) r g) i).2) else pRu (pAg (emR M) r g) i := rfl
          have hnle : ¬ Int32.ofNat r.1 ≤ rv i := by
            rcases Nat.eq_zero_or_pos i with h0 | h0
            · rw [h0, rv_0, Int32.le_iff_toInt_le, Int32.toInt_ofNat_of_lt (by omega), show (-1 : Int32).toInt = -1 from rfl]; omega
            · rw [rv_p h0, of_le (by omega) (by omega)]; omega
          obtain ⟨M2, q1, q2, q3, q4⟩ := r230 (X := X) (d := d) (i := i) (K := M) (M := M1) hM ht hg hl hr hrs (by omega) hb
          have hG2 := zwk_G q2.1 hG
          have hrw2 : rwP M2 cs 0 P := rwP_c (fun k _ => by rw [q4]) hrw
          rw [show pAS (pAg (emR M) r g) (m + 1) i = bif pAg (emR M) r g i then i :: pAS (pAg (emR M) r g) m (i + 1) else pAS (pAg (emR M) r g) m (i + 1) from rfl] at hA
          rw [t233_27 _ _ _ _ _ hG1, hrs1.1, if_neg hnle, q1, Option.bind_some]
          dsimp only [zps]
          rw [t233_40 _ _ _ _ _ _ hG2]
          cases hAg : pAg (emR M) r g i
          · rw [hAg, cond_false] at hst hA
            rw [cond_false, if_pos rfl, rv_s]
            exact ih (i + 1) P v M2 (by omega) q2 (by omega) (by rw [hst]; exact hc) hA hrw2
          · rw [hAg, cond_true] at hst hA
            rw [cond_true, if_neg (by decide)]
            obtain ⟨M3, v3, y1, y2, y3⟩ := copy P i M2 (by omega) q2 hrw2 (fun n hn => by rw [q3 n hn, hcsa]) 61 0 M2 (by omega) q2 rfl (fun _ _ => rfl) (fun n hn => absurd hn (Nat.not_lt_zero _))
            have y1' : zR X (d + 8) 233 (46, [.ref 460, .int x, .int (Int32.ofNat P.length), .int (rv i), .int 0], [], M2) = _ := y1
            have hlen : (P ++ [i]).length = P.length + 1 := by rw [List.length_append]; rfl
            rw [y1', ← hlen]
            exact ih (i + 1) (P ++ [i]) v3 M3 (by omega) y2 (by rw [hlen]; omega) (by rw [hst, hlen, hc, of_succ]) (by rw [hA, List.append_assoc]; rfl) y3
      exact loop (r.1 + 1) 0 [] zjk M1 (by omega) ⟨w2, w6, fun k _ => by rw [w3], fun k _ => by rw [w4]⟩ (Nat.le_refl _) rfl rfl True.intro
