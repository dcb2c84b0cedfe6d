/-! ===== the reference's tests: a stack of what is open ===== -/
def rk (f : Nat → Int32) : List Nat → Prop
  | [] => True
  | x :: r => f r.length = Int32.ofNat x ∧ rk f r
theorem rk_up {f g : Nat → Int32} : ∀ {S : List Nat}, (∀ k, k < S.length → g k = f k) → rk f S → rk g S
  | [], _, _ => True.intro
  | x :: r, h, h1 => ⟨(h r.length (Nat.lt_succ_self _)).trans h1.1, rk_up (fun k hk => h k (Nat.lt_succ_of_lt hk)) h1.2⟩
def rT (S : List Nat) (dp : Nat) (M : zM) : Prop := M.1 460 32 = Int32.ofNat dp ∧ M.1 460 34 = Int32.ofNat S.length ∧ rk (M.1 492) S
def tF (b : Nat) (M M' : zM) : Prop := M'.2 = M.2 ∧ (∀ a, a ≠ 460 → a ≠ 486 → a ≠ 487 → a ≠ 492 → M'.1 a = M.1 a) ∧ (∀ k, k ≠ 27 → k ≠ 28 → k ≠ 31 → k ≠ 32 → k ≠ 33 → k ≠ 34 → M'.1 460 k = M.1 460 k) ∧ ∀ k, k < b → M'.1 486 k = M.1 486 k ∧ M'.1 487 k = M.1 487 k
theorem tF_q {b : Nat} {M M' : zM} (h : qF b M M') : tF b M M' := ⟨h.1, fun a q1 q2 q3 _ => h.2.1 a q1 q2 q3, fun k q1 q2 q3 q4 q5 q6 => h.2.2.1 k q1 q2 q3 q5, h.2.2.2⟩
theorem tF_r {b : Nat} {M : zM} : tF b M M := tF_q qF_r
theorem tF_t {b : Nat} {M M1 M2 : zM} (h : tF b M M1) (h' : tF b M1 M2) : tF b M M2 := ⟨h'.1.trans h.1, fun a q1 q2 q3 q4 => (h'.2.1 a q1 q2 q3 q4).trans (h.2.1 a q1 q2 q3 q4), fun k q1 q2 q3 q4 q5 q6 => (h'.2.2.1 k q1 q2 q3 q4 q5 q6).trans (h.2.2.1 k q1 q2 q3 q4 q5 q6), fun k hk => ⟨(h'.2.2.2 k hk).1.trans (h.2.2.2 k hk).1, (h'.2.2.2 k hk).2.trans (h.2.2.2 k hk).2⟩⟩
theorem tF_w {b b' : Nat} {M M1 : zM} (hb : b ≤ b') (h : tF b' M M1) : tF b M M1 := ⟨h.1, h.2.1, h.2.2.1, fun k hk => h.2.2.2 k (by omega)⟩
theorem tF_B {b sl : Nat} {t : zTx} {M M' : zM} (h : tF b M M') (hB : rB t sl M) : rB t sl M' := by
  obtain ⟨hG, hT, h29, hs, h35⟩ := hB
  refine ⟨zGE_of hG (by rw [h.1]), ⟨hT.1, by rw [h.2.2.1 26 (by omega) (by omega) (by omega) (by omega) (by omega) (by omega)]; exact hT.2.1, fun k hk => ?_⟩, by rw [h.2.2.1 29 (by omega) (by omega) (by omega) (by omega) (by omega) (by omega)]; exact h29, hs, by rw [h.2.2.1 35 (by omega) (by omega) (by omega) (by omega) (by omega) (by omega)]; exact h35⟩
  rw [h.2.1 485 (by omega) (by omega) (by omega) (by omega)]
  exact hT.2.2 k hk
theorem rT_q {b : Nat} {S : List Nat} {dp : Nat} {M M' : zM} (h : qF b M M') (hT : rT S dp M) : rT S dp M' := ⟨by rw [h.2.2.1 32 (by omega) (by omega) (by omega) (by omega)]; exact hT.1, by rw [h.2.2.1 34 (by omega) (by omega) (by omega) (by omega)]; exact hT.2.1, by rw [h.2.1 492 (by omega) (by omega) (by omega)]; exact hT.2.2⟩
/-- what is opened -/
def oM (k n dp : Nat) (M : zM) : zM := zsI (zsI (if k = 9 ∨ k = 12 then zsI M 460 32 (Int32.ofNat (dp + 1)) else M) 492 n (Int32.ofNat k)) 460 34 (Int32.ofNat (n + 1))
theorem oM_c {k n dp a j : Nat} {M : zM} (h1 : a ≠ 492) (h2 : a = 460 → j ≠ 32 ∧ j ≠ 34) : (oM k n dp M).1 a j = M.1 a j := by
  unfold oM
  by_cases c : k = 9 ∨ k = 12
  · rw [if_pos c]
    by_cases e : a = 460
    · subst e
      obtain ⟨q1, q2⟩ := h2 rfl
      rw [zI_s, if_neg q2, zI_n h1, zI_s, if_neg q1]
    · rw [zI_n e, zI_n h1, zI_n e]
  · rw [if_neg c]
    by_cases e : a = 460
    · subst e
      obtain ⟨q1, q2⟩ := h2 rfl
      rw [zI_s, if_neg q2, zI_n h1]
    · rw [zI_n e, zI_n h1]
theorem oM_F {b k n dp : Nat} {M : zM} : tF b M (oM k n dp M) := by
  refine ⟨?_, fun a q1 q2 q3 q4 => ?_, fun j q1 q2 q3 q4 q5 q6 => oM_c (by omega) (fun _ => ⟨q4, q6⟩), fun j _ => ⟨oM_c (by omega) (fun h => absurd h (by omega)), oM_c (by omega) (fun h => absurd h (by omega))⟩⟩
  · unfold oM
    split
    · rfl
    · rfl
  · funext j
    exact oM_c q4 (fun h => absurd h q1)
theorem oM_T {k dp : Nat} {S : List Nat} {M : zM} (h : rT S dp M) : rT (k :: S) (if k = 9 ∨ k = 12 then dp + 1 else dp) (oM k S.length dp M) := by
  refine ⟨?_, ?_, ?_, ?_⟩
  · unfold oM
    by_cases c : k = 9 ∨ k = 12
    · rw [if_pos c, if_pos c, zI_s, if_neg (by omega), zI_n (by omega), zI_s, if_pos rfl]
    · rw [if_neg c, if_neg c, zI_s, if_neg (by omega), zI_n (by omega)]
      exact h.1
  · unfold oM
    rw [zI_s, if_pos rfl, List.length_cons]
  · unfold oM
    rw [zI_n (by omega), zI_s, if_pos rfl]
  · refine rk_up (fun j hj => ?_) h.2.2
    unfold oM
    rw [zI_n (by omega), zI_s, if_neg (by omega)]
    split
    · rw [zI_n (by omega)]
    · rfl
theorem oM_S {t : zTx} {sl o q c k n dp : Nat} {e : List zOp} {M : zM} (h : rS t sl o q c e M) : rS t sl o q c e (oM k n dp M) := by
  obtain ⟨hB, h1, h27, h28, h31, h33, hz⟩ := h
  refine ⟨tF_B (oM_F (b := 0)) hB, h1, by rw [oM_c (by omega) (fun _ => ⟨by omega, by omega⟩)]; exact h27, by rw [oM_c (by omega) (fun _ => ⟨by omega, by omega⟩)]; exact h28, by rw [oM_c (by omega) (fun _ => ⟨by omega, by omega⟩)]; exact h31, by rw [oM_c (by omega) (fun _ => ⟨by omega, by omega⟩)]; exact h33, zsg_k (fun j _ _ => ⟨oM_c (by omega) (fun h => absurd h (by omega)), oM_c (by omega) (fun h => absurd h (by omega))⟩) hz⟩
theorem oM_X {t : zTx} {sl f k n dp : Nat} {M : zM} (h : rX t sl f M) : rX t sl f (oM k n dp M) := by
  obtain ⟨hB, h28, f1, f2, q, hq, h27⟩ := h
  exact ⟨tF_B (oM_F (b := 0)) hB, by rw [oM_c (by omega) (fun _ => ⟨by omega, by omega⟩)]; exact h28, f1, f2, q, hq, by rw [oM_c (by omega) (fun _ => ⟨by omega, by omega⟩)]; exact h27⟩
theorem r157 {X : (Nat → Int32) × Nat} {d sl o q c k dp : Nat} {t : zTx} {S : List Nat} {e : List zOp} {M : zM} (h : rS t sl o q c e M) (hT : rT S dp M) (hS : S.length < 400) (hk : k < 16) (hdp : dp ≤ 10) (hd : (k = 9 ∨ k = 12) → dp < 10) : zC X (d + 1) 157 [.ref 460, .int (Int32.ofNat k)] M = some (none, oM k S.length dp M) := by
  show zR X (d + 1) 157 (0, [.ref 460, .int (Int32.ofNat k)], [], M) = _
  obtain ⟨h32, h34, -⟩ := hT
  have hv : vp_in (M.1 460 34) 402 := by rw [h34]; exact vp_of (by omega) (by omega)
  have e9 : (Int32.ofNat k = 9) ↔ k = 9 := of_inj (k := 9) (by omega) (by omega)
  have e12 : (Int32.ofNat k = 12) ↔ k = 12 := of_inj (k := 12) (by omega) (by omega)
  have e10 : (M.1 460 32 = 10) ↔ dp = 10 := by rw [h32]; exact of_inj (k := 10) (by omega) (by omega)
  rw [t157_0 _ _ (rS_g h) (fun _ _ => hv) (fun _ _ => hv) (fun _ _ _ => hv), h34, toNat_of (by omega), of_succ]
  unfold oM
  by_cases c9 : k = 9
  · have := hd (Or.inl c9)
    rw [if_pos (e9.mpr c9), if_pos (mt e10.mp (by omega)), if_pos (Or.inl c9), h32, of_succ]
  · rw [if_neg (mt e9.mp c9)]
    by_cases c12 : k = 12
    · have := hd (Or.inr c12)
      rw [if_neg (not_not_intro (e12.mpr c12)), if_pos (mt e10.mp (by omega)), if_pos (Or.inr c12), h32, of_succ]
    · rw [if_pos (mt e12.mp c12), if_neg (by omega)]
theorem r157x {X : (Nat → Int32) × Nat} {d sl o q c k : Nat} {t : zTx} {S : List Nat} {e : List zOp} {M : zM} (h : rS t sl o q c e M) (hT : rT S 10 M) (hS : S.length < 400) (hk : k = 9 ∨ k = 12) : ∃ M', zC X (d + 1) 157 [.ref 460, .int (Int32.ofNat k)] M = some (none, M') ∧ tF (300 * sl + o) M M' ∧ rX t sl (1 + 8 * q + 2) M' ∧ M'.1 460 27 = Int32.ofNat q := by
  show ∃ M', zR X (d + 1) 157 (0, [.ref 460, .int (Int32.ofNat k)], [], M) = some (none, M') ∧ _
  obtain ⟨h32, h34, -⟩ := hT
  have hv : vp_in (M.1 460 34) 402 := by rw [h34]; exact vp_of (by omega) (by omega)
  have hf := rS_f (w := 2) h h.2.1 (by omega)
  have hf34 : (fM 2 q M).1 460 34 = Int32.ofNat S.length ∧ (fM 2 q M).1 460 32 = Int32.ofNat 10 ∧ (fM 2 q M).1 460 27 = Int32.ofNat q := by
    unfold fM
    rw [if_pos h.2.2.2.1, zI_s, zI_s, zI_s, if_neg (by omega), if_neg (by omega), if_neg (by omega)]
    exact ⟨h34, h32, h.2.2.1⟩
  have tail : ((zC X d 143 [.ref 460, .int 2, .int (M.1 460 27)] M).bind fun z => zR X (d + 1) 157 (30, [.ref 460, .int (Int32.ofNat k)], zps z.1 [], z.2)) = some (none, oM k S.length 10 (fM 2 q M)) := by
    rw [h.2.2.1, show (2 : Int32) = Int32.ofNat 2 from rfl, r143 (rS_g h), Option.bind_some]
    dsimp only [zps]
    rw [t157_30 _ _ (rX_g hf) (by rw [hf34.1]; exact vp_of (by omega) (by omega)), hf34.1, hf34.2.1, toNat_of (by omega), of_succ, of_succ]
    unfold oM
    rw [if_pos hk]
  refine ⟨oM k S.length 10 (fM 2 q M), ?_, tF_t (tF_q fM_q) oM_F, oM_X hf, by rw [oM_c (by omega) (fun _ => ⟨by omega, by omega⟩)]; exact hf34.2.2⟩
  rw [t157_0 _ _ (rS_g h) (fun _ _ => hv) (fun _ _ => hv) (fun _ _ _ => hv)]
  have e10 : ¬ ¬ M.1 460 32 = 10 := not_not_intro h32
  rcases hk with rfl | rfl
  · rw [if_pos (show Int32.ofNat 9 = 9 from rfl), if_neg e10]
    exact tail
  · rw [if_neg (show ¬ Int32.ofNat 12 = 9 by decide), if_neg (show ¬ ¬ Int32.ofNat 12 = 12 by decide), if_neg e10]
    exact tail
def tpS : List Nat → Int32
  | [] => -1
  | x :: _ => Int32.ofNat x
theorem r156 {X : (Nat → Int32) × Nat} {d dp : Nat} {S : List Nat} {M : zM} (hG : zGE M) (hT : rT S dp M) (hS : S.length < 400) : zC X d 156 [.ref 460] M = some (some (.int (tpS S)), M) := by
  show zR X d 156 (0, [.ref 460], [], M) = _
  obtain ⟨h32, h34, h92⟩ := hT
  cases S with
  | nil =>
    have e : M.1 460 34 = 0 := h34
    rw [t156_0 _ hG (fun h => absurd e h), if_neg (not_not_intro e)]
    rfl
  | cons x r =>
    rw [List.length_cons] at h34 hS
    have e : ¬ M.1 460 34 = 0 := by rw [h34, show (0 : Int32) = Int32.ofNat 0 from rfl, of_inj (by omega) (by omega)]; omega
    have e1 : M.1 460 34 - 1 = Int32.ofNat r.length := by rw [h34, of_pred (by omega)]; rfl
    rw [t156_0 _ hG (fun _ => by rw [e1]; exact vp_of (by omega) (by omega)), if_pos e, e1, toNat_of (by omega), h92.1]
    rfl
/-- nothing to answer -/
theorem r158n {X : (Nat → Int32) × Nat} {d dp k : Nat} {S : List Nat} {M : zM} (hG : zGE M) (hT : rT S dp M) (hS : S.length < 400) (hk : k < 100) (hS2 : ∀ x r, S = x :: r → x ≠ k ∧ x < 100) : zC X (d + 1) 158 [.ref 460, .int (Int32.ofNat k)] M = some (none, M) := by
  show zR X (d + 1) 158 (0, [.ref 460, .int (Int32.ofNat k)], [], M) = _
  rw [t158_0 _ _ hG, r156 hG hT hS, Option.bind_some]
  dsimp only [zps]
  have hne : ¬ tpS S = Int32.ofNat k := by
    cases S with
    | nil =>
      intro h
      have h : (-1 : Int32) = Int32.ofNat k := h
      have := congrArg Int32.toInt h
      rw [Int32.toInt_ofNat_of_lt (by omega)] at this
      have h1 : (-1 : Int32).toInt = -1 := rfl
      omega
    | cons x r =>
      obtain ⟨q1, q2⟩ := hS2 x r rfl
      show ¬ Int32.ofNat x = Int32.ofNat k
      rw [of_inj (by omega) (by omega)]
      exact q1
  rw [t158_4 _ _ _ hG, if_pos hne]
/-- one is answered -/
def aM (k dp n : Nat) (M : zM) : zM := zsI (zsI (eM (Int32.ofNat k) 0 M) 460 34 (Int32.ofNat n)) 460 32 (Int32.ofNat (if k = 9 then dp - 1 else dp))
theorem r158s {X : (Nat → Int32) × Nat} {d sl o q c k dp : Nat} {t : zTx} {S : List Nat} {e : List zOp} {M : zM} (h : rS t sl o q c e M) (hT : rT (k :: S) dp M) (hS : S.length < 399) (hk : k < 16) (hdp : k = 9 → 0 < dp) (hr : o + e.length < 300) : zC X (d + 1) 158 [.ref 460, .int (Int32.ofNat k)] M = zC X (d + 1) 158 [.ref 460, .int (Int32.ofNat k)] (aM k dp S.length M) ∧ tF (300 * sl + o) M (aM k dp S.length M) ∧ rS t sl o q c (e ++ [(k, 0)]) (aM k dp S.length M) ∧ rT S (if k = 9 then dp - 1 else dp) (aM k dp S.length M) := by
  obtain ⟨f1, f2⟩ := rS_e (k := k) (v := 0) (x := Int32.ofNat k) (y := 0) h hr rfl rfl
  obtain ⟨g32, g34, g92⟩ := rT_q f1 hT
  have a460 : ∀ j, j ≠ 32 → j ≠ 34 → (aM k dp S.length M).1 460 j = (eM (Int32.ofNat k) 0 M).1 460 j := fun j j1 j2 => by
    unfold aM
    rw [zI_s, if_neg j1, zI_s, if_neg j2]
  have aO : ∀ a, a ≠ 460 → (aM k dp S.length M).1 a = (eM (Int32.ofNat k) 0 M).1 a := fun a ha => by
    unfold aM
    rw [zI_n1 ha, zI_n1 ha]
  have hF : tF (300 * sl + o) (eM (Int32.ofNat k) 0 M) (aM k dp S.length M) := ⟨by unfold aM; rw [z2_I, z2_I], fun a q1 _ _ _ => aO a q1, fun j _ _ _ q4 _ q6 => a460 j q4 q6, fun j _ => ⟨by rw [aO 486 (by omega)], by rw [aO 487 (by omega)]⟩⟩
  refine ⟨?_, tF_t (tF_q f1) hF, ?_, ?_⟩
  · show zR X (d + 1) 158 (0, [.ref 460, .int (Int32.ofNat k)], [], M) = zR X (d + 1) 158 (0, [.ref 460, .int (Int32.ofNat k)], [], aM k dp S.length M)
    rw [t158_0 _ _ (rS_g h), r156 (rS_g h) hT (by rw [List.length_cons]; omega), Option.bind_some]
    dsimp only [zps]
    rw [t158_4 _ _ _ (rS_g h), if_neg (not_not_intro (show tpS (k :: S) = Int32.ofNat k from rfl)), if_neg (not_not_intro h.2.2.2.1), r149g h hr, Option.bind_some]
    dsimp only [zps]
    rw [List.length_cons] at g34
    rw [t158_21 _ _ (rS_g f2), g34, g32, of_pred (by omega), show S.length + 1 - 1 = S.length by omega]
    unfold aM
    have e9 : (Int32.ofNat k = 9) ↔ k = 9 := of_inj (k := 9) (by omega) (by omega)
    by_cases c : k = 9
    · rw [if_neg (not_not_intro (e9.mpr c)), if_pos c, of_pred (hdp c)]
    · rw [if_pos (mt e9.mp c), if_neg c, Int32.sub_zero]
  · obtain ⟨hB, h1, h27, h28, h31, h33, hz⟩ := f2
    exact ⟨tF_B hF hB, h1, by rw [a460 27 (by omega) (by omega)]; exact h27, by rw [a460 28 (by omega) (by omega)]; exact h28, by rw [a460 31 (by omega) (by omega)]; exact h31, by rw [a460 33 (by omega) (by omega)]; exact h33, by rw [aO 486 (by omega), aO 487 (by omega)]; exact hz⟩
  · refine ⟨?_, ?_, ?_⟩
    · unfold aM
      rw [zI_s, if_pos rfl]
    · unfold aM
      rw [zI_s, if_neg (by omega), zI_s, if_pos rfl]
    · rw [aO 492 (by omega)]
      exact g92.2
/-- and what is below is something else -/
theorem r158o {X : (Nat → Int32) × Nat} {d sl o q c k dp : Nat} {t : zTx} {S : List Nat} {e : List zOp} {M : zM} (hx : k = 0 ∨ (10 ≤ k ∧ k < 16)) {y : Nat} (hy : y = 10 ∨ y = 11) (hxy : k = 0 ∨ k = y) (h : rS t sl o q c e M) (hT : rT (if k = 0 then S else k :: S) dp M) (hS : S.length < 399) (hr : o + (zsn k e).length < 300) (hS2 : ∀ x r, S = x :: r → x ≠ y ∧ x < 100) : ∃ M', zC X (d + 1) 158 [.ref 460, .int (Int32.ofNat y)] M = some (none, M') ∧ tF (300 * sl + o) M M' ∧ rS t sl o q c (zsn k e) M' ∧ rT S dp M' := by
  by_cases c0 : k = 0
  · rw [if_pos c0] at hT
    refine ⟨M, r158n (rS_g h) hT (by omega) (by omega) hS2, tF_r, ?_, hT⟩
    rw [show zsn k e = e from if_pos c0]
    exact h
  · rw [if_neg c0] at hT
    have hky : k = y := hxy.resolve_left c0
    subst hky
    rw [zsn_n, show phi k = 1 from if_neg c0] at hr
    have hk9 : ¬ k = 9 := by omega
    obtain ⟨w1, w2, w3, w4⟩ := r158s (X := X) (d := d) h hT hS (by omega) (fun h9 => absurd h9 hk9) (by omega)
    rw [if_neg hk9] at w4
    refine ⟨_, w1.trans (r158n (rS_g w3) w4 (by omega) (by omega) hS2), w2, ?_, w4⟩
    rw [show zsn k e = e ++ [(k, 0)] from if_neg c0]
    exact w3
