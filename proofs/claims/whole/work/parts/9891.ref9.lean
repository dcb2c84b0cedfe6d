/-! ===== a rule: both calls ===== -/
def ruP (M : zM) (r : Nat) : Nat → List zCl → Prop
  | _, [] => True
  | c, q :: rest => (∃ o, M.1 489 (12 * r + c) = Int32.ofNat o ∧ M.1 490 (12 * r + c) = Int32.ofNat (o + q.1.length) ∧ M.1 491 (12 * r + c) = Int32.ofNat (o + q.1.length + q.2.length) ∧ o + q.1.length + q.2.length ≤ 300 ∧ zsg idc idw (M.1 486) (M.1 487) (300 * r + o) (q.1 ++ q.2)) ∧ ruP M r (c + 1) rest
def r175R (X : (Nat → Int32) × Nat) (D sl o n : Nat) (M : zM) (r : Nat ⊕ List zCl) : Prop := match r with
  | .inl f => ∃ M' n', zR X (D + 12) 175 (27, [.ref 460, .int (Int32.ofNat n), .int 1], [], M) = zR X (D + 12) 175 (27, [.ref 460, .int n', .int 0], [], M') ∧ uF (300 * sl + o) (12 * sl + n) M M' ∧ M'.1 460 28 = Int32.ofNat f ∧ 0 < f ∧ f < 4000
  | .inr l => ∃ M', zR X (D + 12) 175 (27, [.ref 460, .int (Int32.ofNat n), .int 1], [], M) = zR X (D + 12) 175 (27, [.ref 460, .int (Int32.ofNat (n + l.length)), .int 0], [], M') ∧ uF (300 * sl + o) (12 * sl + n) M M' ∧ M'.1 460 28 = 0 ∧ ruP M' sl n l
theorem r175l {X : (Nat → Int32) × Nat} {D sl : Nat} {t : zTx} : ∀ m {n q0 p c o : Nat} {M : zM}, n + m = 12 → rS t sl o q0 c [] M → M.1 460 32 = 0 → ken isB t q0 = p → c ≤ 60 → 2 * o ≤ p + 2 * c → r175R X D sl o n M (pRul t m n p c) := by
  intro m
  induction m using Nat.strongRecOn with
  | _ m ih =>
    intro n q0 p c o M hn h h32 hp hc hr
    have hv := r174 (X := X) (D := D) (n := n) h h32 hp hc (by omega) hr
    have hu : zR X (D + 12) 175 (27, [.ref 460, .int (Int32.ofNat n), .int 1], [], M) = (zC X (D + 11) 174 [.ref 460, .int (Int32.ofNat n)] M).bind fun z => zR X (D + 12) 175 (36, [.ref 460, .int (Int32.ofNat n), .int 1], zps z.1 [], z.2) := by
      rw [t175_27 _ _ _ (rS_g h) (fun h => absurd h (by decide)), if_neg (by decide)]
    cases hpv : pCla t n p c with
    | inl f =>
      have e : pRul t m n p c = .inl f := by
        cases m with
        | zero => rw [pRul, hpv]
        | succ m => rw [pRul, hpv]
      rw [e]
      rw [hpv] at hv
      obtain ⟨M2, w1, w2, w3⟩ := hv
      obtain ⟨q, y1⟩ := r168x (X := X) (d := D + 9) w3
      have hG3 : zGE (zp M2 q) := (rX_g w3 : zGE M2)
      refine ⟨zp M2 q, Int32.ofNat (n + 1), ?_, uF_t w2 (uF_q (tF_q (qF_I (by omega)))), by rw [zI_s, if_neg (by omega)]; exact w3.2.1, w3.2.2.1, w3.2.2.2.1⟩
      rw [hu, w1, Option.bind_some]
      dsimp only [zps]
      rw [t175_36 _ _ _ (rX_g w3), y1, Option.bind_some]
      dsimp only [zps]
      rw [t175_43 _ _ _ _ hG3, of_succ]
    | inr s =>
      rw [hpv] at hv
      obtain ⟨M2, w1, w2, w3, w4, w5, w6, w7, w8⟩ := hv
      obtain ⟨g0, g1, g2, g3, g4, g5, g6, g7⟩ := pCla_d hpv
      obtain ⟨m', rfl⟩ : ∃ m', m = m' + 1 := ⟨m - 1, by omega⟩
      have hL := h.1.2.1.1
      have hb := rS_hb h
      have h168 := r168 (X := X) (d := D + 9) w3 g3
      have k59 := kk_b (t := t) (p := s.1) (x := 59) hb (by omega) (by omega) (by omega) (by omega) (by omega)
      have e1 : zR X (D + 12) 175 (27, [.ref 460, .int (Int32.ofNat n), .int 1], [], M) = (zC X (D + 11) 168 [.ref 460] M2).bind fun z => zR X (D + 12) 175 (43, [.ref 460, .int (Int32.ofNat n + 1), .int 1], zps z.1 [], z.2) := by
        rw [hu, w1, Option.bind_some]
        dsimp only [zps]
        rw [t175_36 _ _ _ (rS_g w3)]
        rfl
      have hq : ∃ o', M2.1 489 (12 * sl + n) = Int32.ofNat o' ∧ M2.1 490 (12 * sl + n) = Int32.ofNat (o' + s.2.2.1.length) ∧ M2.1 491 (12 * sl + n) = Int32.ofNat (o' + s.2.2.1.length + s.2.2.2.length) ∧ o' + s.2.2.1.length + s.2.2.2.length ≤ 300 ∧ zsg idc idw (M2.1 486) (M2.1 487) (300 * sl + o') (s.2.2.1 ++ s.2.2.2) := ⟨o, w5, w6, w7, by omega, w8⟩
      rw [pRul, hpv]
      dsimp only
      by_cases c1 : kk t s.1 = 59
      · rw [if_pos c1] at h168 ⊢
        have u3 := k59.2 c1
        obtain ⟨u4, u5⟩ := kX_b (t := t) (p := s.1) (kk_p (by omega))
        have hS3 := rS_p (q' := s.1 + 1) w3 (by omega)
        have hF3 : uF (300 * sl + o) (12 * sl + n) M (zp M2 (s.1 + 1)) := uF_t w2 (uF_q (tF_q (qF_I (by omega))))
        have hA : ken isB t (s.1 + 1) = kA t s.1 := by unfold kA; rw [u3]
        have hA2 : s.1 + 1 ≤ kA t s.1 := by rw [← hA]; exact ken_b.1
        have hi := ih m' (by omega) (n := n + 1) (by omega) hS3 (by rw [zI_s, if_neg (by omega)]; exact w4) hA g5 (by omega)
        have e2 : zR X (D + 12) 175 (27, [.ref 460, .int (Int32.ofNat n), .int 1], [], M) = zR X (D + 12) 175 (27, [.ref 460, .int (Int32.ofNat (n + 1)), .int 1], [], zp M2 (s.1 + 1)) := by
          rw [e1, h168, Option.bind_some]
          dsimp only [zps]
          rw [t175_43 _ _ _ _ (rS_g hS3), of_succ]
        cases hpw : pRul t m' (n + 1) (kA t s.1) s.2.1 with
        | inl f =>
          rw [hpw] at hi
          obtain ⟨M4, n', y1, y2, y3⟩ := hi
          exact ⟨M4, n', e2.trans y1, uF_t hF3 (uF_w (by omega) (by omega) y2), y3⟩
        | inr l =>
          rw [hpw] at hi
          obtain ⟨M4, y1, y2, y3, y4⟩ := hi
          refine ⟨M4, ?_, uF_t hF3 (uF_w (by omega) (by omega) y2), y3, ?_, y4⟩
          · rw [e2, y1, List.length_cons, show n + 1 + l.length = n + (l.length + 1) by omega]
          · obtain ⟨o', v1, v2, v3, v4, v5⟩ := hq
            have e489 := y2.2.2.2.2 (12 * sl + n) (by omega)
            have eo : o' = o := (of_inj (by omega) (by omega)).mp (v1.symm.trans w5)
            subst eo
            refine ⟨o', ?_, ?_, ?_, v4, ?_⟩
            · rw [e489.1, zI_n (by omega)]; exact v1
            · rw [e489.2.1, zI_n (by omega)]; exact v2
            · rw [e489.2.2, zI_n (by omega)]; exact v3
            · refine zsg_k (fun k q1 q2 => ?_) v5
              have := y2.2.2.2.1 k (by rw [List.length_append] at q2; omega)
              rw [this.1, this.2, zI_n (by omega), zI_n (by omega)]
              exact ⟨rfl, rfl⟩
      · rw [if_neg c1] at h168 ⊢
        by_cases c2 : kk t s.1 = 256
        · rw [if_pos c2] at h168 ⊢
          have hG3 : zGE (zp M2 (s.1 + 1)) := (rS_g w3 : zGE M2)
          refine ⟨zp M2 (s.1 + 1), ?_, uF_t w2 (uF_q (tF_q (qF_I (by omega)))), by rw [zI_s, if_neg (by omega)]; exact w3.2.2.2.1, ?_, True.intro⟩
          · rw [e1, h168, Option.bind_some]
            dsimp only [zps]
            rw [t175_43 _ _ _ _ hG3, of_succ]
            rfl
          · obtain ⟨o', v1, v2, v3, v4, v5⟩ := hq
            exact ⟨o', by rw [zI_n (by omega)]; exact v1, by rw [zI_n (by omega)]; exact v2, by rw [zI_n (by omega)]; exact v3, v4, by rw [zI_n1 (by omega), zI_n1 (by omega)]; exact v5⟩
        · rw [if_neg c2] at h168 ⊢
          have hG3 : zGE (zp (zsI M2 460 28 (Int32.ofNat (1 + 8 * s.1 + 0))) (s.1 + 1)) := (rS_g w3 : zGE M2)
          refine ⟨_, Int32.ofNat (n + 1), ?_, uF_t w2 (uF_t (uF_q (tF_q (qF_I (k := 28) (x := Int32.ofNat (1 + 8 * s.1 + 0)) (by omega)))) (uF_q (tF_q (qF_I (k := 27) (x := Int32.ofNat (s.1 + 1)) (by omega))))), by rw [zI_s, if_neg (by omega), zI_s, if_pos rfl], by omega, by omega⟩
          rw [e1, h168, Option.bind_some]
          dsimp only [zps]
          rw [t175_43 _ _ _ _ hG3, of_succ]
/-- cells that reading the rule nr may use -/
def vF (nr : Nat) (M M' : zM) : Prop := M'.2 = M.2 ∧ (∀ a, a ≠ 460 → ¬ (486 ≤ a ∧ a ≤ 492) → M'.1 a = M.1 a) ∧ (∀ k, ¬ (26 ≤ k ∧ k ≤ 34) → M'.1 460 k = M.1 460 k) ∧ (∀ k, k < 300 * nr → M'.1 486 k = M.1 486 k ∧ M'.1 487 k = M.1 487 k) ∧ (∀ k, k < 12 * nr → M'.1 489 k = M.1 489 k ∧ M'.1 490 k = M.1 490 k ∧ M'.1 491 k = M.1 491 k) ∧ ∀ k, k < nr → M'.1 488 k = M.1 488 k
theorem ruR_P {M M' : zM} {r : Nat} (h6 : M'.1 486 = M.1 486) (h7 : M'.1 487 = M.1 487) (h9 : M'.1 489 = M.1 489) (h0 : M'.1 490 = M.1 490) (h1 : M'.1 491 = M.1 491) : ∀ {cl : List zCl} {c : Nat}, ruP M r c cl → M'.1 488 r = Int32.ofNat (c + cl.length) → c + cl.length ≤ 12 → ruR M' r c cl
  | [], c, _, h, h12 => ⟨h, h12⟩
  | q :: rest, c, hp, h, h12 => by
    obtain ⟨⟨o, a1, a2, a3, a4, a5⟩, hp2⟩ := hp
    rw [List.length_cons] at h h12
    exact ⟨⟨o, by rw [h9]; exact a1, by rw [h0]; exact a2, by rw [h1]; exact a3, a4, by rw [h6, h7]; exact a5⟩, ruR_P h6 h7 h9 h0 h1 hp2 (by rw [h, show c + (rest.length + 1) = c + 1 + rest.length by omega]) (by omega)⟩
theorem r175 {X : (Nat → Int32) × Nat} {D nr : Nat} {t : zTx} {M : zM} (hG : zGE M) (hT : tqR t M) (h30 : M.1 460 30 = Int32.ofNat nr) (hnr : nr < 6) (h35 : M.1 460 35 = 11) :
    (∀ f, pRul t 12 0 (kS t 0) 0 = .inl f → ∃ M', zC X (D + 12) 175 [.ref 460] M = some (some (.int (-2 - Int32.ofNat f)), M') ∧ vF nr M M' ∧ M'.1 460 26 = 0 ∧ M'.1 460 30 = Int32.ofNat nr) ∧
    (∀ l, pRul t 12 0 (kS t 0) 0 = .inr l → ∃ M', zC X (D + 12) 175 [.ref 460] M = some (some (.int (Int32.ofNat nr)), M') ∧ vF nr M M' ∧ M'.1 460 26 = 0 ∧ M'.1 460 30 = Int32.ofNat (nr + 1) ∧ ruR M' nr 0 l) := by
  have hu : zC X (D + 12) 175 [.ref 460] M = zR X (D + 12) 175 (0, [.ref 460, zjk, zjk], [], M) := rfl
  let K : zM := zsI (zsI (zsI (zsI (zsI (zsI M 460 29 (Int32.ofNat nr)) 460 27 0) 460 28 0) 460 31 0) 460 32 0) 460 33 0
  have hGK : zGE K := hG
  have kO : ∀ a, a ≠ 460 → K.1 a = M.1 a := fun a ha => by
    show (zsI _ 460 33 0).1 a = _
    rw [zI_n1 ha, zI_n1 ha, zI_n1 ha, zI_n1 ha, zI_n1 ha, zI_n1 ha]
  have kk0 : ∀ k, k ≠ 27 → k ≠ 28 → k ≠ 29 → k ≠ 31 → k ≠ 32 → k ≠ 33 → K.1 460 k = M.1 460 k := fun k q1 q2 q3 q4 q5 q6 => by
    show (zsI _ 460 33 0).1 460 k = _
    rw [zI_s, if_neg q6, zI_s, if_neg q5, zI_s, if_neg q4, zI_s, if_neg q2, zI_s, if_neg q1, zI_s, if_neg q3]
  have k29 : K.1 460 29 = Int32.ofNat nr := by
    show (zsI _ 460 33 0).1 460 29 = _
    rw [zI_s, if_neg (by omega), zI_s, if_neg (by omega), zI_s, if_neg (by omega), zI_s, if_neg (by omega), zI_s, if_neg (by omega), zI_s, if_pos rfl]
  have k27 : K.1 460 27 = 0 := by
    show (zsI _ 460 33 0).1 460 27 = _
    rw [zI_s, if_neg (by omega), zI_s, if_neg (by omega), zI_s, if_neg (by omega), zI_s, if_neg (by omega), zI_s, if_pos rfl]
  have k28 : K.1 460 28 = 0 := by
    show (zsI _ 460 33 0).1 460 28 = _
    rw [zI_s, if_neg (by omega), zI_s, if_neg (by omega), zI_s, if_neg (by omega), zI_s, if_pos rfl]
  have k31 : K.1 460 31 = 0 := by
    show (zsI _ 460 33 0).1 460 31 = _
    rw [zI_s, if_neg (by omega), zI_s, if_neg (by omega), zI_s, if_pos rfl]
  have k32 : K.1 460 32 = 0 := by
    show (zsI _ 460 33 0).1 460 32 = _
    rw [zI_s, if_neg (by omega), zI_s, if_pos rfl]
  have k33 : K.1 460 33 = 0 := by
    show (zsI _ 460 33 0).1 460 33 = _
    rw [zI_s, if_pos rfl]
  have hS : rS t nr 0 0 0 [] K := ⟨⟨hGK, ⟨hT.1, by rw [kk0 26 (by omega) (by omega) (by omega) (by omega) (by omega) (by omega)]; exact hT.2.1, fun k hk => by rw [kO 485 (by omega)]; exact hT.2.2 k hk⟩, k29, hnr, by rw [kk0 35 (by omega) (by omega) (by omega) (by omega) (by omega) (by omega)]; exact h35⟩, Nat.zero_le _, k27, k28, k31, k33, True.intro⟩
  have hv := r175l (X := X) (D := D) 12 (n := 0) (p := kS t 0) rfl hS k32 rfl (by omega) (by omega)
  have h169 : zC X (D + 11) 169 [.ref 460] (zsI M 460 29 (M.1 460 30)) = some (none, K) := by
    show zR X (D + 11) 169 (0, [.ref 460], [], zsI M 460 29 (M.1 460 30)) = _
    rw [t169_0 _ (show zGE (zsI M 460 29 (M.1 460 30)) from hG), h30]
  have e0 : zC X (D + 12) 175 [.ref 460] M = zR X (D + 12) 175 (27, [.ref 460, .int (Int32.ofNat 0), .int 1], [], K) := by
    rw [hu, t175_0 _ _ _ hG, if_pos (show ¬ M.1 460 30 = 6 by rw [h30, show (6 : Int32) = Int32.ofNat 6 from rfl, of_inj (by omega) (by omega)]; omega), h169, Option.bind_some]
    dsimp only [zps]
    rw [t175_23 _ _ _ hGK]
    rfl
  -- the last step
  have last : ∀ (M2 : zM) (n' : Int32) (x : Int32), uF (300 * nr + 0) (12 * nr + 0) K M2 → vF nr M (zsI (zsI (zsI M2 460 26 0) 488 nr n') 460 30 x) ∧ (zsI (zsI (zsI M2 460 26 0) 488 nr n') 460 30 x).1 460 26 = 0 ∧ (zsI (zsI (zsI M2 460 26 0) 488 nr n') 460 30 x).1 460 30 = x := by
    intro M2 n' x hF
    have o : ∀ a, a ≠ 460 → a ≠ 488 → (zsI (zsI (zsI M2 460 26 0) 488 nr n') 460 30 x).1 a = M2.1 a := fun a q1 q2 => by rw [zI_n1 q1, zI_n1 q2, zI_n1 q1]
    have o460 : ∀ k, k ≠ 26 → k ≠ 30 → (zsI (zsI (zsI M2 460 26 0) 488 nr n') 460 30 x).1 460 k = M2.1 460 k := fun k q1 q2 => by rw [zI_s, if_neg q2, zI_n (by omega), zI_s, if_neg q1]
    refine ⟨⟨by rw [z2_I, z2_I, z2_I, hF.1]; rfl, fun a q1 q2 => by rw [o a q1 (by omega), hF.2.1 a q1 (by omega) (by omega) (by omega) (by omega) (by omega) (by omega), kO a q1], fun k hk => by rw [o460 k (by omega) (by omega), hF.2.2.1 k (by omega) (by omega) (by omega) (by omega) (by omega) (by omega), kk0 k (by omega) (by omega) (by omega) (by omega) (by omega) (by omega)], fun k hk => ?_, fun k hk => ?_, fun k hk => ?_⟩, ?_, ?_⟩
    · have := hF.2.2.2.1 k (by omega)
      rw [o 486 (by omega) (by omega), o 487 (by omega) (by omega), this.1, this.2, kO 486 (by omega), kO 487 (by omega)]
      exact ⟨rfl, rfl⟩
    · have := hF.2.2.2.2 k (by omega)
      rw [o 489 (by omega) (by omega), o 490 (by omega) (by omega), o 491 (by omega) (by omega), this.1, this.2.1, this.2.2, kO 489 (by omega), kO 490 (by omega), kO 491 (by omega)]
      exact ⟨rfl, rfl, rfl⟩
    · rw [zI_n (by omega), zI_s, if_neg (by omega), zI_n (by omega), hF.2.1 488 (by omega) (by omega) (by omega) (by omega) (by omega) (by omega) (by omega), kO 488 (by omega)]
    · rw [zI_s, if_neg (by omega), zI_n (by omega), zI_s, if_pos rfl]
    · rw [zI_s, if_pos rfl]
  refine ⟨fun f hf => ?_, fun l hl => ?_⟩
  · rw [hf] at hv
    obtain ⟨M2, n', y1, y2, y3, y4, y5⟩ := hv
    have hG2 : zGE M2 := zGE_of hGK (by rw [y2.1])
    have h29 : M2.1 460 29 = Int32.ofNat nr := by rw [y2.2.2.1 29 (by omega) (by omega) (by omega) (by omega) (by omega) (by omega)]; exact k29
    have h30' : M2.1 460 30 = Int32.ofNat nr := by rw [y2.2.2.1 30 (by omega) (by omega) (by omega) (by omega) (by omega) (by omega), kk0 30 (by omega) (by omega) (by omega) (by omega) (by omega) (by omega)]; exact h30
    obtain ⟨l1, l2, l3⟩ := last M2 n' (Int32.ofNat nr) y2
    refine ⟨_, ?_, l1, l2, l3⟩
    rw [e0, y1, t175_27 _ _ _ hG2 (fun _ => by rw [h29]; exact vp_of hnr (by omega)), if_pos rfl, y3, if_pos (f_ne y4 y5), if_neg (show ¬ Int32.ofNat f ≤ 0 by rw [show (0 : Int32) = Int32.ofNat 0 from rfl, of_le (by omega) (by omega)]; omega), h29, toNat_of (by omega), h30', Int32.add_zero]
  · rw [hl] at hv
    obtain ⟨M2, y1, y2, y3, y4⟩ := hv
    obtain ⟨g1, g2, g3⟩ := pRul_d 12 rfl hl
    have hG2 : zGE M2 := zGE_of hGK (by rw [y2.1])
    have h29 : M2.1 460 29 = Int32.ofNat nr := by rw [y2.2.2.1 29 (by omega) (by omega) (by omega) (by omega) (by omega) (by omega)]; exact k29
    have h30' : M2.1 460 30 = Int32.ofNat nr := by rw [y2.2.2.1 30 (by omega) (by omega) (by omega) (by omega) (by omega) (by omega), kk0 30 (by omega) (by omega) (by omega) (by omega) (by omega) (by omega)]; exact h30
    obtain ⟨l1, l2, l3⟩ := last M2 (Int32.ofNat (0 + l.length)) (Int32.ofNat (nr + 1)) y2
    refine ⟨_, ?_, l1, l2, l3, ?_⟩
    · rw [e0, y1, t175_27 _ _ _ hG2 (fun _ => by rw [h29]; exact vp_of hnr (by omega)), if_pos rfl, y3, if_neg (show ¬ ¬ (0 : Int32) = 0 by decide), if_pos (show (0 : Int32) ≤ 0 by decide), h29, toNat_of (by omega), h30', of_succ, of_pred (by omega), show nr + 1 - 1 = nr by omega]
    · refine ruR_P (M := M2) ?_ ?_ ?_ ?_ ?_ y4 ?_ (by omega)
      · rw [zI_n1 (by omega), zI_n1 (by omega), zI_n1 (by omega)]
      · rw [zI_n1 (by omega), zI_n1 (by omega), zI_n1 (by omega)]
      · rw [zI_n1 (by omega), zI_n1 (by omega), zI_n1 (by omega)]
      · rw [zI_n1 (by omega), zI_n1 (by omega), zI_n1 (by omega)]
      · rw [zI_n1 (by omega), zI_n1 (by omega), zI_n1 (by omega)]
      · rw [zI_n (by omega), zI_s, if_pos rfl]
