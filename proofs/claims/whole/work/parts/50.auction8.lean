/-! ===== the reference's answers to a rule ===== -/
theorem of_300 (r o : Nat) : 300 * Int32.ofNat r + Int32.ofNat o = Int32.ofNat (300 * r + o) := by rw [Int32.ofNat_add, Int32.ofNat_mul]; rfl
theorem of_12 (r o : Nat) : 12 * Int32.ofNat r + Int32.ofNat o = Int32.ofNat (12 * r + o) := by rw [Int32.ofNat_add, Int32.ofNat_mul]; rfl
theorem of_m1 {n : Nat} (h0 : 0 < n) : Int32.ofNat n + (-1) = Int32.ofNat (n - 1) := by
  rw [← of_pred h0]
  exact (Int32.sub_eq_add_neg _ _).symm
theorem zL_f {M : zM} {a k : Nat} {x : Int64} : (zsL M a k x).2.1 a = fun j => if j = k then x else M.2.1 a j := by
  funext j
  exact zL_s
theorem stk_push {M : zM} {a : Nat} {x : Int64} {st : List Int64} (h : stk (M.2.1 a) st) : stk ((zsL M a st.length x).2.1 a) (x :: st) := by
  rw [zL_f]
  exact ⟨if_pos rfl, stk_up (fun k hk => if_neg (by omega)) h⟩
theorem stk_bin {M : zM} {a : Nat} {x y z : Int64} {st : List Int64} (h : stk (M.2.1 a) (y :: x :: st)) : stk ((zsL M a st.length z).2.1 a) (z :: st) := stk_push h.2.2
theorem stk_not {M : zM} {a : Nat} {x z : Int64} {st : List Int64} (h : stk (M.2.1 a) (x :: st)) : stk ((zsL M a st.length z).2.1 a) (z :: st) := stk_push h.2
/-- only longs have changed -/
theorem zqL {M M' : zM} {a k : Nat} {x : Int64} (h : M'.1 = M.1) : (zsL M' a k x).1 = M.1 := h
def idc (k : Nat) : Int32 := Int32.ofNat k
def idw (_ v : Nat) : Int32 := Int32.ofNat v
theorem r180 {X : (Nat → Int32) × Nat} {d r : Nat} {M : zM} {W : Nat → Int64} (hG : zGE M) (hr : r < 6) (hW : ∀ w, w < 11 → M.2.1 494 w = W w) : ∀ (l : List zOp) (o un : Nat) (st : List Int64) (ts ts' : List Bool) (v6 v7 : Value) (fr : Int32) (M1 : zM), zsg idc idw (M.1 486) (M.1 487) (300 * r + o) l → un = o + l.length → un ≤ 300 → pty l ts = some ts' → pok ts st → st.length ≤ o → M1.1 = M.1 → zfr 495 496 M M1 → stk (M1.2.1 495) st → ∃ M2 v6' v7', zR X (d + 2) 180 (6, [.ref 460, .int (Int32.ofNat r), .int fr, .int (Int32.ofNat un), .int (Int32.ofNat st.length), .int (Int32.ofNat o), v6, v7], [], M1) = zR X (d + 2) 180 (6, [.ref 460, .int (Int32.ofNat r), .int fr, .int (Int32.ofNat un), .int (Int32.ofNat (pv W l st).length), .int (Int32.ofNat un), v6', v7'], [], M2) ∧ M2.1 = M.1 ∧ zfr 495 496 M M2 ∧ stk (M2.2.1 495) (pv W l st) := by
  intro l
  induction l with
  | nil =>
    intro o un st ts ts' v6 v7 fr M1 hs hu h3 ht hp hle h1 hf hk
    rw [List.length_nil, Nat.add_zero] at hu
    subst hu
    exact ⟨M1, v6, v7, rfl, h1, hf, hk⟩
  | cons p l ih =>
    intro o un st ts ts' v6 v7 fr M1 hs hu h3 ht hp hle h1 hf hk
    have hG1 := zfr_G hf hG
    obtain ⟨hs1, hs2, hs3⟩ := hs
    rw [List.length_cons] at hu
    rw [pty] at ht
    cases ht1 : pt1 p ts with
    | none => rw [ht1] at ht; cases ht
    | some t1 =>
      rw [ht1, Option.bind_some] at ht
      have hok := pst_ok (W := W) ht1 hp
      have hL := pok_len hp
      have hW1 : ∀ w, w < 11 → M1.2.1 494 w = W w := fun w hw => by rw [(hf.2 494 (by omega)).2]; exact hW w hw
      have e0 : (Int32.ofNat (300 * r + o)).toNatClampNeg = 300 * r + o := toNat_of (by omega)
      have eS : M1.1 486 (300 * Int32.ofNat r + Int32.ofNat o).toNatClampNeg = Int32.ofNat p.1 := by rw [of_300, e0, h1]; exact hs1
      have eN : M1.1 487 (300 * Int32.ofNat r + Int32.ofNat o).toNatClampNeg = Int32.ofNat p.2 := by rw [of_300, e0, h1]; exact hs2
      have g0 : vp_in (300 * Int32.ofNat r + Int32.ofNat o) 1800 := by rw [of_300]; exact vp_of (by omega) (by omega)
      have gt : vp_in (Int32.ofNat st.length) 300 := vp_of (by omega) (by omega)
      have hne : ¬ Int32.ofNat un ≤ Int32.ofNat o := by rw [of_le (by omega) (by omega)]; omega
      have hkk : p.1 < 16 := by rcases pt1_k ht1 with h | h | h | h | h | h <;> omega
      have z0 : (Int32.ofNat p.1 = 0) ↔ p.1 = 0 := of_inj (k := 0) (by omega) (by omega)
      have z1 : (Int32.ofNat p.1 = 1) ↔ p.1 = 1 := of_inj (k := 1) (by omega) (by omega)
      have z9 : (Int32.ofNat p.1 = 9) ↔ p.1 = 9 := of_inj (k := 9) (by omega) (by omega)
      have hlen2 : ¬ p.1 = 0 → ¬ p.1 = 1 → ¬ p.1 = 9 → 2 ≤ st.length := by
        intro k0 k1 k9
        rcases pt1_k ht1 with h | h | h | h | h | h
        · omega
        · omega
        · omega
        · obtain ⟨q, e, _⟩ := ptB_of h.2; rw [e] at hL; rw [← hL, List.length_cons, List.length_cons]; omega
        · obtain ⟨q, e, _⟩ := ptB_of h.2; rw [e] at hL; rw [← hL, List.length_cons, List.length_cons]; omega
        · obtain ⟨q, e, _⟩ := ptB_of h.2; rw [e] at hL; rw [← hL, List.length_cons, List.length_cons]; omega
      have hlen1 : p.1 = 9 → 1 ≤ st.length := by
        intro k9
        rcases pt1_k ht1 with h | h | h | h | h | h
        · omega
        · omega
        · obtain ⟨q, e, _⟩ := ptN_of h.2; rw [e] at hL; rw [← hL, List.length_cons]; omega
        · omega
        · omega
        · omega
      have hv11 : p.1 = 1 → p.2 < 11 := by
        intro k1
        rcases pt1_k ht1 with h | h | h | h | h | h <;> omega
      have lem := t180_6 (X := X) (d := d + 1) (Int32.ofNat r) fr (Int32.ofNat un) (Int32.ofNat st.length) (Int32.ofNat o) v6 v7 M1 hG1
      simp only [eS, eN, z0, z1, z9] at lem
      have lem2 := lem (fun _ => g0) (fun _ h h' => absurd h h') (fun _ h h' => absurd h h') (fun _ _ _ => gt)
        (fun _ k0 k1 k9 => by have := hlen2 k0 k1 k9; rw [of_m1 (by omega), of_pred (by omega)]; exact vp_of (by omega) (by omega))
        (fun _ k0 k1 k9 => by have := hlen2 k0 k1 k9; rw [of_m1 (by omega)]; exact vp_of (by omega) (by omega))
        (fun _ k0 k1 k9 => by have := hlen1 (by omega); rw [of_pred (by omega)]; exact vp_of (by omega) (by omega))
        (fun _ _ k1 _ => vp_of (hv11 (by omega)) (by omega)) (fun _ _ _ _ => gt) (fun _ _ _ _ => gt)
      clear lem
      have z2 : (Int32.ofNat un ≤ Int32.ofNat o) ↔ un ≤ o := of_le (by omega) (by omega)
      rw [lem2, if_neg hne]
      clear lem2
      by_cases k0 : p.1 = 0
      · rw [if_pos k0, if_neg (not_not_intro k0), of_succ, of_succ, toNat_of (by omega)]
        have e : pst W p st = (Int32.ofNat p.2).toInt64 :: st := by unfold pst; rw [if_pos k0]
        obtain ⟨M2, v6', v7', q1, q2, q3, q4⟩ := ih (o + 1) un (pst W p st) t1 ts' (.int (Int32.ofNat p.1)) (.int (Int32.ofNat p.2)) fr (zsL M1 495 st.length (Int32.ofNat p.2).toInt64) hs3 (by omega) h3 ht hok.1 (by rw [e, List.length_cons]; omega) (zqL h1) (zfr_L hf (by omega) (by omega)) (by rw [e]; exact stk_push hk)
        exact ⟨M2, v6', v7', Eq.trans (by rw [e]; rfl) q1, q2, q3, q4⟩
      · rw [if_neg k0]
        by_cases k1 : p.1 = 1
        · rw [if_neg (not_not_intro k1), if_pos k0, of_succ, of_succ, toNat_of (by omega), toNat_of (by have := hv11 k1; omega), hW1 _ (hv11 k1)]
          have e : pst W p st = W p.2 :: st := by unfold pst; rw [if_neg k0, if_pos k1]
          obtain ⟨M2, v6', v7', q1, q2, q3, q4⟩ := ih (o + 1) un (pst W p st) t1 ts' (.int (Int32.ofNat p.1)) (.int (Int32.ofNat p.2)) fr (zsL M1 495 st.length (W p.2)) hs3 (by omega) h3 ht hok.1 (by rw [e, List.length_cons]; omega) (zqL h1) (zfr_L hf (by omega) (by omega)) (by rw [e]; exact stk_push hk)
          exact ⟨M2, v6', v7', Eq.trans (by rw [e]; rfl) q1, q2, q3, q4⟩
        · rw [if_pos k1]
          by_cases k9 : p.1 = 9
          · have l1 := hlen1 k9
            rw [if_neg (not_not_intro k9), of_succ, of_pred (by omega), toNat_of (by omega)]
            obtain ⟨y, s, rfl⟩ : ∃ y s, st = y :: s := by
              match st, l1 with
              | y :: s, _ => exact ⟨y, s, rfl⟩
            have e : pst W p (y :: s) = (1 - y) :: s := by unfold pst pstN; rw [if_neg k0, if_neg k1, if_pos k9]
            rw [List.length_cons, Nat.add_sub_cancel, hk.1]
            obtain ⟨M2, v6', v7', q1, q2, q3, q4⟩ := ih (o + 1) un (pst W p (y :: s)) t1 ts' (.int (Int32.ofNat p.1)) (.int (Int32.ofNat p.2)) fr (zsL M1 495 s.length (1 - y)) hs3 (by omega) h3 ht hok.1 (by rw [e, List.length_cons]; rw [List.length_cons] at hle; omega) (zqL h1) (zfr_L hf (by omega) (by omega)) (by rw [e]; exact stk_not (z := 1 - y) hk)
            exact ⟨M2, v6', v7', Eq.trans (by rw [e]; rfl) q1, q2, q3, q4⟩
          · have l2 := hlen2 k0 k1 k9
            have hK : okK p.1 := by
              unfold okK
              rcases pt1_k ht1 with h | h | h | h | h | h <;> omega
            rw [if_pos k9, of_m1 (by omega), of_pred (by omega), toNat_of (by omega), toNat_of (by omega)]
            obtain ⟨y, x, s, rfl⟩ : ∃ y x s, st = y :: x :: s := by
              match st, l2 with
              | y :: x :: s, _ => exact ⟨y, x, s, rfl⟩
            have e : pst W p (y :: x :: s) = pBoth p.1 x y :: s := by unfold pst pstB; rw [if_neg k0, if_neg k1, if_neg k9]
            have m1 : (y :: x :: s).length - 1 - 1 = s.length := by rw [List.length_cons, List.length_cons]; omega
            have m2 : (y :: x :: s).length - 1 = s.length + 1 := by rw [List.length_cons, List.length_cons]; omega
            have f1 : M1.2.1 495 s.length = x := hk.2.1
            have f2 : M1.2.1 495 (s.length + 1) = y := hk.1
            rw [m1, m2, f1, f2, r179 hG1 hK, Option.bind_some]
            dsimp only [zps]
            rw [t180_146 _ _ _ _ _ _ _ _ _ _ _ hG1 (zis_q hG1 zq_495) (vp_of (by rw [zl_495]; rw [List.length_cons, List.length_cons] at hle; omega) (by rw [zl_495]; omega)), of_succ, toNat_of (by rw [List.length_cons, List.length_cons] at hle; omega)]
            obtain ⟨M2, v6', v7', q1, q2, q3, q4⟩ := ih (o + 1) un (pst W p (y :: x :: s)) t1 ts' (.int (Int32.ofNat p.1)) (.int (Int32.ofNat p.2)) fr (zsL M1 495 s.length (pBoth p.1 x y)) hs3 (by omega) h3 ht hok.1 (by rw [e, List.length_cons]; rw [List.length_cons, List.length_cons] at hle; omega) (zqL h1) (zfr_L hf (by omega) (by omega)) (by rw [e]; exact stk_bin (z := pBoth p.1 x y) hk)
            exact ⟨M2, v6', v7', Eq.trans (by rw [e]; rfl) q1, q2, q3, q4⟩
theorem r180v {X : (Nat → Int32) × Nat} {d r fr un : Nat} {b : Bool} {l : List zOp} {M : zM} {W : Nat → Int64} (hG : zGE M) (hr : r < 6) (hW : ∀ w, w < 11 → M.2.1 494 w = W w) (hs : zsg idc idw (M.1 486) (M.1 487) (300 * r + fr) l) (hu : un = fr + l.length) (h3 : un ≤ 300) (ht : pty l [] = some [b]) : ∃ M', zC X (d + 2) 180 [.ref 460, .int (Int32.ofNat r), .int (Int32.ofNat fr), .int (Int32.ofNat un)] M = some (some (.long (pvl W l)), M') ∧ M'.1 = M.1 ∧ zfr 495 496 M M' := by
  show ∃ M', zR X (d + 2) 180 (0, [.ref 460, .int (Int32.ofNat r), .int (Int32.ofNat fr), .int (Int32.ofNat un), zjk, zjk, zjk, zjk], [], M) = some (some (.long (pvl W l)), M') ∧ _
  obtain ⟨M2, v6', v7', q1, q2, q3, q4⟩ := r180 (X := X) (d := d) hG hr hW l fr un [] [] [b] zjk zjk (Int32.ofNat fr) M hs hu h3 ht True.intro (Nat.zero_le _) rfl zfr_rf True.intro
  have h1 := (pv_ok (W := W) ht (st := []) True.intro).1
  have hG2 := zfr_G q3 hG
  obtain ⟨x, s, e, _, e2⟩ := pok_1 h1
  have e3 : s = [] := by
    match s, e2 with
    | [], _ => rfl
  subst e3
  refine ⟨M2, ?_, q2, q3⟩
  rw [t180_0 _ _ _ _ _ _ _ _ hG]
  refine q1.trans ?_
  have hx : pvl W l = x := by unfold pvl; rw [e]; rfl
  rw [e] at q4
  have hle : Int32.ofNat un ≤ Int32.ofNat un := Int32.le_refl _
  rw [t180_6 _ _ _ _ _ _ _ _ hG2 (fun h => absurd hle h) (fun h => absurd hle h) (fun h => absurd hle h) (fun h => absurd hle h) (fun h => absurd hle h) (fun h => absurd hle h) (fun h => absurd hle h) (fun h => absurd hle h) (fun h => absurd hle h) (fun h => absurd hle h), if_pos hle, hx]
  have : M2.2.1 495 0 = x := q4.1
  rw [this]
/-- a rule in the reference's cells, from clause c on -/
def ruR (M : zM) (r : Nat) : Nat → List zCl → Prop
  | c, [] => M.1 488 r = Int32.ofNat c ∧ c ≤ 12
  | c, q :: rest => (∃ o, M.1 489 (12 * r + c) = Int32.ofNat o ∧ M.1 490 (12 * r + c) = Int32.ofNat (o + q.1.length) ∧ M.1 491 (12 * r + c) = Int32.ofNat (o + q.1.length + q.2.length) ∧ o + q.1.length + q.2.length ≤ 300 ∧ zsg idc idw (M.1 486) (M.1 487) (300 * r + o) (q.1 ++ q.2)) ∧ ruR M r (c + 1) rest
theorem ruR_n {M : zM} {r : Nat} : ∀ {cl : List zCl} {c : Nat}, ruR M r c cl → M.1 488 r = Int32.ofNat (c + cl.length) ∧ c + cl.length ≤ 12
  | [], c, h => h
  | q :: rest, c, h => by
    have := ruR_n h.2
    rw [List.length_cons, show c + (rest.length + 1) = c + 1 + rest.length by omega]
    exact this
theorem ruR_c {M M' : zM} {r : Nat} (h : M'.1 = M.1) : ∀ {cl : List zCl} {c : Nat}, ruR M r c cl → ruR M' r c cl
  | [], c, h1 => by unfold ruR at h1 ⊢; rw [h]; exact h1
  | q :: rest, c, h1 => by
    unfold ruR at h1 ⊢
    rw [h]
    exact ⟨h1.1, ruR_c h h1.2⟩
theorem ruR_q {M M' : zM} {r : Nat} (e1 : M'.1 488 = M.1 488) (e2 : M'.1 489 = M.1 489) (e3 : M'.1 490 = M.1 490) (e4 : M'.1 491 = M.1 491) (e5 : M'.1 486 = M.1 486) (e6 : M'.1 487 = M.1 487) : ∀ {cl : List zCl} {c : Nat}, ruR M r c cl → ruR M' r c cl
  | [], c, h1 => by unfold ruR at h1 ⊢; rw [e1]; exact h1
  | q :: rest, c, h1 => by
    unfold ruR at h1 ⊢
    rw [e2, e3, e4, e5, e6]
    exact ⟨h1.1, ruR_q e1 e2 e3 e4 e5 e6 h1.2⟩
theorem r177 {X : (Nat → Int32) × Nat} {d r : Nat} {cls : List zCl} {M : zM} {W : Nat → Int64} (hG : zGE M) (hr : r < 6) (hc : M.1 461 17 = Int32.ofNat r) (hW : ∀ w, w < 11 → M.2.1 494 w = W w) (hcl : ruR M r 0 cls) (hok : ∀ c, c ∈ cls → okC c) : ∃ M', zC X (d + 3) 177 [.ref 460] M = some (some (.long (pTold W cls)), M') ∧ M'.1 = M.1 ∧ zfr 495 496 M M' := by
  show ∃ M', zR X (d + 3) 177 (0, [.ref 460, zjk, zjk], [], M) = some (some (.long (pTold W cls)), M') ∧ _
  have loop : ∀ (cl : List zCl) (c : Nat) (M1 : zM), ruR M r c cl → (∀ c, c ∈ cl → okC c) → M1.1 = M.1 → zfr 495 496 M M1 → ∃ M', zR X (d + 3) 177 (13, [.ref 460, .int (Int32.ofNat r), .int (Int32.ofNat (12 * r + c))], [], M1) = some (some (.long (pTold W cl)), M') ∧ M'.1 = M.1 ∧ zfr 495 496 M M' := by
    intro cl
    induction cl with
    | nil =>
      intro c M1 h hok h1 hf
      have hG1 := zfr_G hf hG
      have hn : M1.1 488 r = Int32.ofNat c := by rw [h1]; exact h.1
      have hc12 := h.2
      have e : (12 * Int32.ofNat r + M1.1 488 (Int32.ofNat r).toNatClampNeg) ≤ Int32.ofNat (12 * r + c) := by rw [toNat_of (by omega), hn, of_12]; exact Int32.le_refl _
      rw [t177_13 _ _ _ hG1 (vp_of hr (by omega)) (fun h => absurd e h), if_pos e]
      exact ⟨M1, rfl, h1, hf⟩
    | cons q rest ih =>
      intro c M1 h hok h1 hf
      have hG1 := zfr_G hf hG
      obtain ⟨hn, hn2⟩ := ruR_n h
      rw [List.length_cons] at hn hn2
      obtain ⟨⟨o, a1, a2, a3, a4, a5⟩, h2⟩ := h
      have hq := hok q (List.mem_cons_self ..)
      have hW1 : ∀ w, w < 11 → M1.2.1 494 w = W w := fun w hw => by rw [(hf.2 494 (by omega)).2]; exact hW w hw
      have e : ¬ (12 * Int32.ofNat r + M1.1 488 (Int32.ofNat r).toNatClampNeg) ≤ Int32.ofNat (12 * r + c) := by rw [toNat_of (by omega), h1, hn, of_12, of_le (by omega) (by omega)]; omega
      have e2 : (Int32.ofNat (12 * r + c)).toNatClampNeg = 12 * r + c := toNat_of (by omega)
      rw [zsg_app] at a5
      obtain ⟨M2, q1, q2, q3⟩ := r180v (X := X) (d := d) (M := M1) (W := W) hG1 hr hW1 (by rw [h1]; exact a5.1) rfl (by omega) hq.1
      have hrest := ih (c + 1)
      rw [t177_13 _ _ _ hG1 (vp_of hr (by omega)) (fun _ => vp_of (by omega) (by omega)), if_neg e, e2, h1, a1, a2, a3]
      by_cases c1 : q.2 = []
      · have eq : Int32.ofNat (o + q.1.length) = Int32.ofNat (o + q.1.length + q.2.length) := by rw [c1]; rfl
        rw [if_pos eq, q1, Option.bind_some]
        dsimp only [zps]
        rw [t177_82 _ _ _ _ (zfr_G q3 hG1), pTold, if_pos (Or.inl c1)]
        exact ⟨M2, rfl, q2.trans h1, zfr_tr hf q3⟩
      · have hl : 0 < q.2.length := by
          rcases Nat.eq_zero_or_pos q.2.length with h0 | h0
          · exact absurd (List.length_eq_zero_iff.mp h0) c1
          · exact h0
        have ne : ¬ Int32.ofNat (o + q.1.length) = Int32.ofNat (o + q.1.length + q.2.length) := by rw [of_inj (by omega) (by omega)]; omega
        obtain ⟨M3, w1, w2, w3⟩ := r180v (X := X) (d := d) (M := M1) (W := W) (fr := o + q.1.length) (un := o + q.1.length + q.2.length) hG1 hr hW1 (by rw [h1, ← Nat.add_assoc]; exact a5.2) rfl a4 (hq.2.1.resolve_left c1)
        have hG3 := zfr_G w3 hG1
        rw [if_neg ne, w1, Option.bind_some]
        dsimp only [zps]
        rw [t177_60 _ _ _ _ hG3 (fun _ => vp_of (by omega) (by omega))]
        simp only [lgc_eq]
        by_cases c2 : pvl W q.2 = 1
        · obtain ⟨M4, y1, y2, y3⟩ := r180v (X := X) (d := d) (M := M3) (W := W) (fr := o) (un := o + q.1.length) hG3 hr (fun w hw => by rw [(w3.2 494 (by omega)).2]; exact hW1 w hw) (by rw [w2, h1]; exact a5.1) rfl (by omega) hq.1
          rw [if_neg (not_not_intro c2), e2, w2, h1, a1, a2, y1, Option.bind_some]
          dsimp only [zps]
          rw [t177_82 _ _ _ _ (zfr_G y3 hG3), pTold, if_pos (Or.inr c2)]
          exact ⟨M4, rfl, y2.trans (w2.trans h1), zfr_tr hf (zfr_tr w3 y3)⟩
        · rw [if_pos c2, of_succ, pTold, if_neg (not_or.mpr ⟨c1, c2⟩)]
          exact hrest M3 h2 (fun x hx => hok x (List.mem_cons_of_mem _ hx)) (w2.trans h1) (zfr_tr hf w3)
  rw [t177_0 _ _ _ hG, hc]
  have e : 12 * Int32.ofNat r = Int32.ofNat (12 * r + 0) := by rw [← of_12]; exact (Int32.add_zero _).symm
  rw [e]
  exact loop cls 0 M hcl hok rfl zfr_rf
