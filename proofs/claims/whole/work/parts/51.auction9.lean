/-! ===== the class' bid by a rule ===== -/
def pcd (k : Nat) : Int32 := ([256, 257, 43, 45, 60, -4, 61, -5, 62, 258, 259, 260, 0, 42, 47, 37] : List Int32).getD k 0
def pwd (k v : Nat) : Int32 := if k = 0 then Int32.ofNat v else if k = 1 then Int32.ofNat (v + 4) else 0
theorem s9 {X : (Nat → Int32) × Nat} {d k : Nat} {a b : Int64} {M : zM} (hG : zGE M) (hk : okK k) : zC X d 9 [.int (pcd k), .long a, .long b] M = some (some (.long (pBoth k a b)), M) := by
  show zR X d 9 (0, [.int (pcd k), .long a, zjk, .long b, zjk], [], M) = _
  rw [t9_0 _ _ _ _ hG]
  unfold pBoth
  rcases hk with rfl | rfl | rfl | rfl | rfl | rfl | rfl | rfl | rfl | rfl | rfl | rfl
  · rw [show zlk 1 203 #[(-5, 175), (-4, 151), (37, 125), (42, 107), (43, 99), (45, 103), (47, 111), (60, 139), (61, 163), (62, 187), (259, 199)] (pcd 2) = 100 from rfl, t9_100 _ _ _ _ hG]
    rfl
  · rw [show zlk 1 203 #[(-5, 175), (-4, 151), (37, 125), (42, 107), (43, 99), (45, 103), (47, 111), (60, 139), (61, 163), (62, 187), (259, 199)] (pcd 3) = 104 from rfl, t9_104 _ _ _ _ hG]
    rfl
  · rw [show zlk 1 203 #[(-5, 175), (-4, 151), (37, 125), (42, 107), (43, 99), (45, 103), (47, 111), (60, 139), (61, 163), (62, 187), (259, 199)] (pcd 4) = 140 from rfl, t9_140 _ _ _ _ hG]
    simp only [lgc_ge, Nat.reduceEqDiff, reduceIte]
    by_cases c : a < b
    · rw [if_neg (not_not_intro c), if_pos c]
    · rw [if_pos c, if_neg c]
  · rw [show zlk 1 203 #[(-5, 175), (-4, 151), (37, 125), (42, 107), (43, 99), (45, 103), (47, 111), (60, 139), (61, 163), (62, 187), (259, 199)] (pcd 5) = 152 from rfl, t9_152 _ _ _ _ hG]
    simp only [lgc_gt, Nat.reduceEqDiff, reduceIte]
    by_cases c : b < a
    · rw [if_pos c, if_pos c]
    · rw [if_neg c, if_neg c]
  · rw [show zlk 1 203 #[(-5, 175), (-4, 151), (37, 125), (42, 107), (43, 99), (45, 103), (47, 111), (60, 139), (61, 163), (62, 187), (259, 199)] (pcd 6) = 164 from rfl, t9_164 _ _ _ _ hG]
    simp only [lgc_eq, Nat.reduceEqDiff, reduceIte]
    by_cases c : a = b
    · rw [if_neg (not_not_intro c), if_pos c]
    · rw [if_pos c, if_neg c]
  · rw [show zlk 1 203 #[(-5, 175), (-4, 151), (37, 125), (42, 107), (43, 99), (45, 103), (47, 111), (60, 139), (61, 163), (62, 187), (259, 199)] (pcd 7) = 176 from rfl, t9_176 _ _ _ _ hG]
    simp only [lgc_lt, Nat.reduceEqDiff, reduceIte]
    by_cases c : a < b
    · rw [if_pos c, if_pos c]
    · rw [if_neg c, if_neg c]
  · rw [show zlk 1 203 #[(-5, 175), (-4, 151), (37, 125), (42, 107), (43, 99), (45, 103), (47, 111), (60, 139), (61, 163), (62, 187), (259, 199)] (pcd 8) = 188 from rfl, t9_188 _ _ _ _ hG]
    simp only [lgc_le, Nat.reduceEqDiff, reduceIte]
    by_cases c : b < a
    · rw [if_neg (not_not_intro c), if_pos c]
    · rw [if_pos c, if_neg c]
  · rw [show zlk 1 203 #[(-5, 175), (-4, 151), (37, 125), (42, 107), (43, 99), (45, 103), (47, 111), (60, 139), (61, 163), (62, 187), (259, 199)] (pcd 10) = 200 from rfl, t9_200 _ _ _ _ hG]
    rfl
  · rw [show zlk 1 203 #[(-5, 175), (-4, 151), (37, 125), (42, 107), (43, 99), (45, 103), (47, 111), (60, 139), (61, 163), (62, 187), (259, 199)] (pcd 11) = 204 from rfl, t9_204 _ _ _ _ hG]
    rfl
  · rw [show zlk 1 203 #[(-5, 175), (-4, 151), (37, 125), (42, 107), (43, 99), (45, 103), (47, 111), (60, 139), (61, 163), (62, 187), (259, 199)] (pcd 13) = 108 from rfl, t9_108 _ _ _ _ hG]
    rfl
  · rw [show zlk 1 203 #[(-5, 175), (-4, 151), (37, 125), (42, 107), (43, 99), (45, 103), (47, 111), (60, 139), (61, 163), (62, 187), (259, 199)] (pcd 14) = 112 from rfl, t9_112 _ _ _ _ hG (fun h => by rw [lgc_eq] at h; exact h)]
    simp only [lgc_eq, Nat.reduceEqDiff, reduceIte]
    split <;> rfl
  · rw [show zlk 1 203 #[(-5, 175), (-4, 151), (37, 125), (42, 107), (43, 99), (45, 103), (47, 111), (60, 139), (61, 163), (62, 187), (259, 199)] (pcd 15) = 126 from rfl, t9_126 _ _ _ _ hG (fun h => by rw [lgc_eq] at h; exact h)]
    simp only [lgc_eq, Nat.reduceEqDiff, reduceIte]
    split <;> rfl
def pW (P D : Nat → Int32) (j men tr day : Int32) (n : Nat) (S : zS) (b w : Nat) : Int64 := (([Int32.ofNat b, P b, D b, S.1, S.2.1, j, men, tr, S.2.2.1, Int32.ofNat (pOut S.2.2.2 n), day] : List Int32).getD w 0).toInt64
def pWD (a b : Nat) (M : zM) (w : Nat) : Int64 := (([Int32.ofNat b, M.1 (a + 3) b, M.1 (a + 1) b, M.1 a 2, M.1 a 1, M.1 a 5, M.1 a 6, M.1 a 7, M.1 a 3, M.1 a 4, M.1 a 8] : List Int32).getD w 0).toInt64
theorem s8 {X : (Nat → Int32) × Nat} {d a b w : Nat} {M : zM} (hG : zGE M) (ha : zqk a 0 = true) (hb : b < 4) (hw : w < 11) : zC X d 8 [.ref a, .int (Int32.ofNat b), .int (Int32.ofNat (w + 4))] M = some (some (.long (pWD a b M w)), M) := by
  show zR X d 8 (0, [.ref a, .int (Int32.ofNat b), .int (Int32.ofNat (w + 4))], [], M) = _
  rw [t8_0 _ _ _ _ hG ha]
  have hv : vp_in (Int32.ofNat b) 4 := vp_of hb (by decide)
  have hbb : (Int32.ofNat b).toNatClampNeg = b := toNat_of (by omega)
  rcases (show w = 0 ∨ w = 1 ∨ w = 2 ∨ w = 3 ∨ w = 4 ∨ w = 5 ∨ w = 6 ∨ w = 7 ∨ w = 8 ∨ w = 9 ∨ w = 10 by omega) with rfl | rfl | rfl | rfl | rfl | rfl | rfl | rfl | rfl | rfl | rfl
  · rw [show zsw 1 116 4 13 #[55, 58, 66, 74, 80, 86, 92, 98, 104, 110] (Int32.ofNat (0 + 4)) = 56 from rfl, t8_56 _ _ _ _ hG ha]
    rfl
  · rw [show zsw 1 116 4 13 #[55, 58, 66, 74, 80, 86, 92, 98, 104, 110] (Int32.ofNat (1 + 4)) = 59 from rfl, t8_59 _ _ _ _ hG ha hv, hbb]
    rfl
  · rw [show zsw 1 116 4 13 #[55, 58, 66, 74, 80, 86, 92, 98, 104, 110] (Int32.ofNat (2 + 4)) = 67 from rfl, t8_67 _ _ _ _ hG ha hv, hbb]
    rfl
  · rw [show zsw 1 116 4 13 #[55, 58, 66, 74, 80, 86, 92, 98, 104, 110] (Int32.ofNat (3 + 4)) = 75 from rfl, t8_75 _ _ _ _ hG ha]
    rfl
  · rw [show zsw 1 116 4 13 #[55, 58, 66, 74, 80, 86, 92, 98, 104, 110] (Int32.ofNat (4 + 4)) = 81 from rfl, t8_81 _ _ _ _ hG ha]
    rfl
  · rw [show zsw 1 116 4 13 #[55, 58, 66, 74, 80, 86, 92, 98, 104, 110] (Int32.ofNat (5 + 4)) = 87 from rfl, t8_87 _ _ _ _ hG ha]
    rfl
  · rw [show zsw 1 116 4 13 #[55, 58, 66, 74, 80, 86, 92, 98, 104, 110] (Int32.ofNat (6 + 4)) = 93 from rfl, t8_93 _ _ _ _ hG ha]
    rfl
  · rw [show zsw 1 116 4 13 #[55, 58, 66, 74, 80, 86, 92, 98, 104, 110] (Int32.ofNat (7 + 4)) = 99 from rfl, t8_99 _ _ _ _ hG ha]
    rfl
  · rw [show zsw 1 116 4 13 #[55, 58, 66, 74, 80, 86, 92, 98, 104, 110] (Int32.ofNat (8 + 4)) = 105 from rfl, t8_105 _ _ _ _ hG ha]
    rfl
  · rw [show zsw 1 116 4 13 #[55, 58, 66, 74, 80, 86, 92, 98, 104, 110] (Int32.ofNat (9 + 4)) = 111 from rfl, t8_111 _ _ _ _ hG ha]
    rfl
  · rw [show zsw 1 116 4 13 #[55, 58, 66, 74, 80, 86, 92, 98, 104, 110] (Int32.ofNat (10 + 4)) = 117 from rfl, t8_117 _ _ _ _ hG ha]
    rfl
/-- a rule in the class' cells, from step o on -/
def ruD (M : zM) (q : Nat) : Nat → List zCl → Prop
  | o, [] => M.1 q 2 = Int32.ofNat o ∧ o ≤ 400
  | o, c :: rest => zsg pcd pwd (M.1 (q + 1)) (M.1 (q + 2)) o (c.1 ++ c.2) ∧ M.1 (q + 1) (o + (c.1 ++ c.2).length) = (if c.2 = [] then 261 else 262) ∧ ruD M q (o + (c.1 ++ c.2).length + 1) rest
theorem ruD_z {M : zM} {q : Nat} : ∀ {cl : List zCl} {o : Nat}, ruD M q o cl → ∃ z, M.1 q 2 = Int32.ofNat z ∧ z ≤ 400
  | [], o, h => ⟨o, h.1, h.2⟩
  | _ :: _, _, h => ruD_z h.2.2
theorem ruD_n {M : zM} {q z : Nat} (hz : M.1 q 2 = Int32.ofNat z) (hz4 : z ≤ 400) : ∀ {cl : List zCl} {o : Nat}, ruD M q o cl → o ≤ z
  | [], o, h => by
    have h2 := h.2
    have e := (of_inj (by omega) (by omega)).mp (h.1.symm.trans hz)
    omega
  | c :: rest, o, h => by
    have := ruD_n hz hz4 h.2.2
    omega
theorem ruD_c {M M' : zM} {q : Nat} (h0 : M'.1 q = M.1 q) (h1 : M'.1 (q + 1) = M.1 (q + 1)) (h2 : M'.1 (q + 2) = M.1 (q + 2)) : ∀ {cl : List zCl} {o : Nat}, ruD M q o cl → ruD M' q o cl
  | [], o, h => by unfold ruD at h ⊢; rw [h0]; exact h
  | c :: rest, o, h => by
    unfold ruD at h ⊢
    rw [h1, h2]
    exact ⟨h.1, h.2.1, ruD_c h0 h1 h2 h.2.2⟩
theorem pcd_0 (k : Nat) (hk : k < 16) (hk2 : k ≠ 12) : (pcd k = 256 ↔ k = 0) ∧ (pcd k = 257 ↔ k = 1) ∧ ¬ pcd k = 261 ∧ ¬ pcd k = 262 ∧ (pcd k = 258 ↔ k = 9) := by
  rcases (show k = 0 ∨ k = 1 ∨ k = 2 ∨ k = 3 ∨ k = 4 ∨ k = 5 ∨ k = 6 ∨ k = 7 ∨ k = 8 ∨ k = 9 ∨ k = 10 ∨ k = 11 ∨ k = 13 ∨ k = 14 ∨ k = 15 by omega) with rfl | rfl | rfl | rfl | rfl | rfl | rfl | rfl | rfl | rfl | rfl | rfl | rfl | rfl | rfl <;> decide
theorem s7_run {X : (Nat → Int32) × Nat} {d a q b z : Nat} {M : zM} {W : Nat → Int64} (hG : zGE M) (ha : zqk a 0 = true) (hq : zqk q 7 = true) (hb : b < 4) (hW : ∀ w, w < 11 → pWD a b M w = W w) (hz : M.1 q 2 = Int32.ofNat z) (hz4 : z ≤ 400) : ∀ (l : List zOp) (o : Nat) (st : List Int64) (ts ts' : List Bool) (v : Value) (M1 : zM), zsg pcd pwd (M.1 (q + 1)) (M.1 (q + 2)) o l → o + l.length ≤ z → pty l ts = some ts' → pok ts st → st.length + pcn l ≤ 63 → M1.1 = M.1 → zfr (a + 4) (a + 5) M M1 → stk (M1.2.1 (a + 4)) st → ∃ M2 v', zR X (d + 1) 7 (5, [.ref a, .int (Int32.ofNat b), .ref q, .int (Int32.ofNat st.length), .int (Int32.ofNat o), v], [], M1) = zR X (d + 1) 7 (5, [.ref a, .int (Int32.ofNat b), .ref q, .int (Int32.ofNat (pv W l st).length), .int (Int32.ofNat (o + l.length)), v'], [], M2) ∧ M2.1 = M.1 ∧ zfr (a + 4) (a + 5) M M2 ∧ stk (M2.2.1 (a + 4)) (pv W l st) := by
  intro l
  induction l with
  | nil =>
    intro o st ts ts' v M1 hs h3 ht hp hle h1 hf hk
    exact ⟨M1, v, rfl, h1, hf, hk⟩
  | cons p l ih =>
    intro o st ts ts' v M1 hs h3 ht hp hle h1 hf hk
    have hG1 := zfr_G hf hG
    obtain ⟨hs1, hs2, hs3⟩ := hs
    rw [List.length_cons] at h3
    rw [pty] at ht
    rw [pcn] at hle
    cases ht1 : pt1 p ts with
    | none => rw [ht1] at ht; cases ht
    | some t1 =>
      rw [ht1, Option.bind_some] at ht
      have hok := pst_ok (W := W) ht1 hp
      have hL := pok_len hp
      have hkk : p.1 < 16 ∧ p.1 ≠ 12 := by rcases pt1_k ht1 with h | h | h | h | h | h <;> omega
      obtain ⟨z0, z1, z2, z3, z4⟩ := pcd_0 p.1 hkk.1 hkk.2
      have e0 : (Int32.ofNat o).toNatClampNeg = o := toNat_of (by omega)
      have eS : M1.1 (q + 1) (Int32.ofNat o).toNatClampNeg = pcd p.1 := by rw [e0, h1]; exact hs1
      have eN : M1.1 (q + 2) (Int32.ofNat o).toNatClampNeg = pwd p.1 p.2 := by rw [e0, h1]; exact hs2
      have hne : ¬ M1.1 q 2 ≤ Int32.ofNat o := by rw [h1, hz, of_le (by omega) (by omega)]; omega
      have hlen2 : ¬ p.1 = 0 → ¬ p.1 = 1 → ¬ p.1 = 9 → 2 ≤ st.length := by
        intro k0 k1 k9
        rcases pt1_k ht1 with h | h | h | h | h | h
        · omega
        · omega
        · omega
        · obtain ⟨q, e, _⟩ := ptB_of h.2; rw [e] at hL; rw [← hL, List.length_cons, List.length_cons]; omega
        · obtain ⟨q, e, _⟩ := ptB_of h.2; rw [e] at hL; rw [← hL, List.length_cons, List.length_cons]; omega
        · obtain ⟨q, e, _⟩ := ptB_of h.2; rw [e] at hL; rw [← hL, List.length_cons, List.length_cons]; omega
      have hlen1 : p.1 = 9 → 1 ≤ st.length := by
        intro k9
        rcases pt1_k ht1 with h | h | h | h | h | h
        · omega
        · omega
        · obtain ⟨q, e, _⟩ := ptN_of h.2; rw [e] at hL; rw [← hL, List.length_cons]; omega
        · omega
        · omega
        · omega
      have g400 : vp_in (Int32.ofNat o) 400 := vp_of (by omega) (by omega)
      have hvv : (p.1 = 0 → p.2 ≤ 99999) ∧ (p.1 = 1 → p.2 < 11) := by
        rcases pt1_k ht1 with h | h | h | h | h | h <;> omega
      have two : (2 : Int32) = Int32.ofNat 2 := rfl
      have one : (1 : Int32) = Int32.ofNat 1 := rfl
      have s64 : (64 : Int32) = Int32.ofNat 64 := rfl
      have lem := t7_5 (X := X) (d := d) a (Int32.ofNat b) q (Int32.ofNat st.length) (Int32.ofNat o) v M1 hG1 ha hq
      simp only [eS, z0, z1, z4, eq_false z2, eq_false z3] at lem
      have lem2 := lem (fun _ => g400)
        (fun _ k0 k1 _ _ k9 _ => by have := hlen2 k0 k1 k9; rw [of_m1 (by omega), of_pred (by omega)]; exact vp_of (by omega) (by omega))
        (fun _ k0 k1 _ _ k9 _ => by have := hlen2 k0 k1 k9; rw [of_m1 (by omega)]; exact vp_of (by omega) (by omega))
        (fun _ _ _ _ _ k9 _ => by have := hlen1 (Decidable.not_not.mp k9); rw [of_pred (by omega)]; exact vp_of (by omega) (by omega))
      clear lem
      rw [lem2, if_neg hne]
      clear lem2
      have eL : o + (p :: l).length = o + 1 + l.length := by rw [List.length_cons]; omega
      have hpc : (p.1 ≤ 1 → st.length + 1 + pcn l ≤ 63) ∧ st.length + pcn l ≤ 63 := by
        by_cases c : p.1 ≤ 1
        · rw [if_pos c] at hle; omega
        · rw [if_neg c] at hle; omega
      have h64 : p.1 ≤ 1 → ¬ (64 : Int32) ≤ Int32.ofNat st.length := by
        intro c
        have := hpc.1 c
        rw [s64, of_le (by omega) (by omega)]
        omega
      have hW1 : ∀ w, w < 11 → pWD a b M1 w = W w := fun w hw => by
        have e : pWD a b M1 w = pWD a b M w := by unfold pWD; rw [h1]
        rw [e]; exact hW w hw
      rw [eL]
      by_cases k0 : p.1 = 0
      · have hpc := hpc.1 (by omega)
        rw [if_pos k0, t7_39 _ _ _ _ _ _ _ hG1 ha hq (fun _ _ => g400) (fun _ _ => g400) (fun _ _ => vp_of (by omega) (by omega)), if_neg (h64 (by omega)), if_neg (not_not_intro (z0.mpr k0)), eN, of_succ, of_succ, toNat_of (by omega)]
        have e : pst W p st = (Int32.ofNat p.2).toInt64 :: st := by unfold pst; rw [if_pos k0]
        have e2 : pwd p.1 p.2 = Int32.ofNat p.2 := by unfold pwd; rw [if_pos k0]
        obtain ⟨M2, v', q1, q2, q3, q4⟩ := ih (o + 1) (pst W p st) t1 ts' (.int (pcd p.1)) (zsL M1 (a + 4) st.length (Int32.ofNat p.2).toInt64) hs3 (by omega) ht hok.1 (by rw [e, List.length_cons]; omega) (zqL h1) (zfr_L hf (by omega) (by omega)) (by rw [e]; exact stk_push hk)
        exact ⟨M2, v', Eq.trans (by rw [e, e2]; rfl) q1, q2, q3, q4⟩
      · rw [if_neg k0]
        by_cases k1 : p.1 = 1
        · have hpc := hpc.1 (by omega)
          have e2 : pwd p.1 p.2 = Int32.ofNat (p.2 + 4) := by unfold pwd; rw [if_neg k0, if_pos k1]
          rw [if_neg (not_not_intro k1), t7_39 _ _ _ _ _ _ _ hG1 ha hq (fun _ _ => g400) (fun _ _ => g400) (fun _ _ => vp_of (by omega) (by omega)), if_neg (h64 (by omega)), if_pos (by rw [z0]; exact k0), eN, e2, s8 hG1 ha hb (hvv.2 k1), Option.bind_some, hW1 _ (hvv.2 k1)]
          dsimp only [zps]
          rw [t7_81 _ _ _ _ _ _ _ _ _ _ hG1 ha hq (zis_q hG1 (hq0_4 ha)) (vp_of (by rw [hl0_4 ha]; omega) (by rw [hl0_4 ha]; omega)), of_succ, of_succ, toNat_of (by omega)]
          have e : pst W p st = W p.2 :: st := by unfold pst; rw [if_neg k0, if_pos k1]
          obtain ⟨M2, v', q1, q2, q3, q4⟩ := ih (o + 1) (pst W p st) t1 ts' (.int (pcd p.1)) (zsL M1 (a + 4) st.length (W p.2)) hs3 (by omega) ht hok.1 (by rw [e, List.length_cons]; omega) (zqL h1) (zfr_L hf (by omega) (by omega)) (by rw [e]; exact stk_push hk)
          exact ⟨M2, v', Eq.trans (by rw [e]; rfl) q1, q2, q3, q4⟩
        · rw [if_pos k1, if_neg not_false, if_pos not_false]
          have hpc := hpc.2
          by_cases k9 : p.1 = 9
          · have l1 := hlen1 k9
            rw [if_neg (not_not_intro k9), if_neg (by rw [one, of_lt (by omega) (by omega)]; omega), t7_209 _ _ _ _ _ _ _ (zfr_G (zfr_L hf (by omega) (by omega)) hG) ha hq, of_succ, of_pred (by omega), toNat_of (by omega)]
            obtain ⟨y, s, rfl⟩ : ∃ y s, st = y :: s := by
              match st, l1 with
              | y :: s, _ => exact ⟨y, s, rfl⟩
            have e : pst W p (y :: s) = (1 - y) :: s := by unfold pst pstN; rw [if_neg k0, if_neg k1, if_pos k9]
            rw [List.length_cons] at hpc
            obtain ⟨M2, v', q1, q2, q3, q4⟩ := ih (o + 1) (pst W p (y :: s)) t1 ts' (.int (pcd p.1)) (zsL M1 (a + 4) s.length (1 - y)) hs3 (by omega) ht hok.1 (by rw [e, List.length_cons]; omega) (zqL h1) (zfr_L hf (by omega) (by omega)) (by rw [e]; exact stk_not (z := 1 - y) hk)
            refine ⟨M2, v', Eq.trans ?_ q1, q2, q3, q4⟩
            rw [e, List.length_cons, Nat.add_sub_cancel, hk.1]
            rfl
          · have l2 := hlen2 k0 k1 k9
            have hK : okK p.1 := by
              unfold okK
              rcases pt1_k ht1 with h | h | h | h | h | h <;> omega
            rw [if_pos k9, if_neg (by rw [two, of_lt (by omega) (by omega)]; omega), of_m1 (by omega), of_pred (by omega), toNat_of (by omega), toNat_of (by omega)]
            obtain ⟨y, x, s, rfl⟩ : ∃ y x s, st = y :: x :: s := by
              match st, l2 with
              | y :: x :: s, _ => exact ⟨y, x, s, rfl⟩
            have e : pst W p (y :: x :: s) = pBoth p.1 x y :: s := by unfold pst pstB; rw [if_neg k0, if_neg k1, if_neg k9]
            have m1 : (y :: x :: s).length - 1 - 1 = s.length := by rw [List.length_cons, List.length_cons]; omega
            have m2 : (y :: x :: s).length - 1 = s.length + 1 := by rw [List.length_cons, List.length_cons]; omega
            have f1 : M1.2.1 (a + 4) s.length = x := hk.2.1
            have f2 : M1.2.1 (a + 4) (s.length + 1) = y := hk.1
            rw [List.length_cons, List.length_cons] at hpc
            rw [m1, m2, f1, f2, s9 hG1 hK, Option.bind_some]
            dsimp only [zps]
            rw [t7_208 _ _ _ _ _ _ _ _ _ _ hG1 ha hq (zis_q hG1 (hq0_4 ha)) (vp_of (by rw [hl0_4 ha]; omega) (by rw [hl0_4 ha]; omega)), of_succ, toNat_of (by omega)]
            obtain ⟨M2, v', q1, q2, q3, q4⟩ := ih (o + 1) (pst W p (y :: x :: s)) t1 ts' (.int (pcd p.1)) (zsL M1 (a + 4) s.length (pBoth p.1 x y)) hs3 (by omega) ht hok.1 (by rw [e, List.length_cons]; omega) (zqL h1) (zfr_L hf (by omega) (by omega)) (by rw [e]; exact stk_bin (z := pBoth p.1 x y) hk)
            exact ⟨M2, v', Eq.trans (by rw [e]; rfl) q1, q2, q3, q4⟩
theorem pt1_app {p : zOp} {ts ts' b : List Bool} (h : pt1 p ts = some ts') : pt1 p (ts ++ b) = some (ts' ++ b) := by
  unfold pt1
  rcases pt1_k h with ⟨c, c2, rfl⟩ | ⟨c, c2, rfl⟩ | ⟨c, h2⟩ | ⟨c, h2⟩ | ⟨c, h2⟩ | ⟨c, h2⟩
  · rw [if_pos c, if_pos c2]; rfl
  · rw [if_neg (by omega), if_pos c, if_pos c2]; rfl
  · obtain ⟨r, rfl, rfl⟩ := ptN_of h2
    rw [if_neg (by omega), if_neg (by omega), if_pos c]; rfl
  · obtain ⟨r, rfl, rfl⟩ := ptB_of h2
    rw [if_neg (by omega), if_neg (by omega), if_neg (by omega), if_pos c]; rfl
  · obtain ⟨r, rfl, rfl⟩ := ptB_of h2
    rw [if_neg (by omega), if_neg (by omega), if_neg (by omega), if_neg (by omega), if_pos c]; rfl
  · obtain ⟨r, rfl, rfl⟩ := ptB_of h2
    rw [if_neg (by omega), if_neg (by omega), if_neg (by omega), if_neg (by omega), if_neg (by omega), if_pos c]; rfl
theorem pty_app {b : List Bool} : ∀ {l : List zOp} {ts ts' : List Bool}, pty l ts = some ts' → pty l (ts ++ b) = some (ts' ++ b)
  | [], ts, ts', h => by cases Option.some.inj h; rfl
  | p :: l, ts, ts', h => by
    rw [pty] at h ⊢
    cases h1 : pt1 p ts with
    | none => rw [h1] at h; cases h
    | some t1 =>
      rw [h1, Option.bind_some] at h
      rw [pt1_app h1, Option.bind_some]
      exact pty_app h
theorem pok_e1 {b : Bool} {st : List Int64} (h : pok [b] st) : ∃ x, st = [x] ∧ (b = true → x = 0 ∨ x = 1) := by
  obtain ⟨x, s, e, h1, h2⟩ := pok_1 h
  match s, h2 with
  | [], _ => exact ⟨x, e, h1⟩
theorem s7 {X : (Nat → Int32) × Nat} {d a q b : Nat} {cls : List zCl} {M : zM} {W : Nat → Int64} (hG : zGE M) (ha : zqk a 0 = true) (hq : zqk q 7 = true) (hb : b < 4) (hW : ∀ w, w < 11 → pWD a b M w = W w) (hcl : ruD M q 0 cls) (hok : ∀ c, c ∈ cls → okC c) : ∃ M', zC X (d + 1) 7 [.ref a, .int (Int32.ofNat b), .ref q] M = some (some (.long (pTold W cls)), M') ∧ M'.1 = M.1 ∧ zfr (a + 4) (a + 5) M M' := by
  show ∃ M', zR X (d + 1) 7 (0, [.ref a, .int (Int32.ofNat b), .ref q, zjk, zjk, zjk], [], M) = some (some (.long (pTold W cls)), M') ∧ _
  obtain ⟨z, hz, hz4⟩ := ruD_z hcl
  have loop : ∀ (cl : List zCl) (o : Nat) (v : Value) (M1 : zM), ruD M q o cl → (∀ c, c ∈ cl → okC c) → M1.1 = M.1 → zfr (a + 4) (a + 5) M M1 → ∃ M', zR X (d + 1) 7 (5, [.ref a, .int (Int32.ofNat b), .ref q, .int 0, .int (Int32.ofNat o), v], [], M1) = some (some (.long (pTold W cl)), M') ∧ M'.1 = M.1 ∧ zfr (a + 4) (a + 5) M M' := by
    intro cl
    induction cl with
    | nil =>
      intro o v M1 h hok h1 hf
      have hG1 := zfr_G hf hG
      have hle : M1.1 q 2 ≤ Int32.ofNat o := by rw [h1, h.1]; exact Int32.le_refl _
      rw [t7_5 _ _ _ _ _ _ _ hG1 ha hq (fun h => absurd hle h) (fun h => absurd hle h) (fun h => absurd hle h) (fun h => absurd hle h), if_pos hle]
      exact ⟨M1, rfl, h1, hf⟩
    | cons c rest ih =>
      intro o v M1 h hok h1 hf
      have hc := hok c (List.mem_cons_self ..)
      have hz2 := ruD_n hz hz4 h.2.2
      obtain ⟨hs, hcode, hr⟩ := h
      rw [List.length_append] at hz2 hcode
      rw [zsg_app] at hs
      have hcn := hc.2.2
      have hW1 : ∀ M2 : zM, M2.1 = M.1 → ∀ w, w < 11 → pWD a b M2 w = W w := fun M2 h2 w hw => by
        have e : pWD a b M2 w = pWD a b M w := by unfold pWD; rw [h2]
        rw [e]; exact hW w hw
      obtain ⟨M2, v2, w1, w2, w3, w4⟩ := s7_run (X := X) (d := d) (a := a) (q := q) (b := b) (z := z) (W := W) hG ha hq hb hW hz hz4 c.1 o [] [] [false] v M1 hs.1 (by omega) hc.1 True.intro (by show 0 + pcn c.1 ≤ 63; omega) h1 hf True.intro
      obtain ⟨vs, e1, -⟩ := pok_e1 (pv_ok (W := W) hc.1 (st := []) True.intro).1
      have hvs : pvl W c.1 = vs := by unfold pvl; rw [e1]; rfl
      rw [e1] at w1 w4
      have hG2 := zfr_G w3 hG
      have w1' : zR X (d + 1) 7 (5, [.ref a, .int (Int32.ofNat b), .ref q, .int 0, .int (Int32.ofNat o), v], [], M1) = _ := w1
      rw [w1']
      have tail : ∀ (k : Nat) (v2 : Value) (M3 : zM), M3.1 = M.1 → zGE M3 → 0 < k → (c.2 = [] ∨ k = 2) → ∃ u : Int32, u = (if c.2 = [] then 261 else 262) ∧ zR X (d + 1) 7 (5, [.ref a, .int (Int32.ofNat b), .ref q, .int (Int32.ofNat k), .int (Int32.ofNat (o + (c.1.length + c.2.length))), v2], [], M3) = zR X (d + 1) 7 (104, [.ref a, .int (Int32.ofNat b), .ref q, .int (Int32.ofNat k), .int (Int32.ofNat (o + (c.1.length + c.2.length))), .int u], [], M3) := by
        intro k v2 M3 h3 hG3 hk hk2
        refine ⟨_, rfl, ?_⟩
        have e0 : (Int32.ofNat (o + (c.1.length + c.2.length))).toNatClampNeg = o + (c.1.length + c.2.length) := toNat_of (by omega)
        have hS : M3.1 (q + 1) (Int32.ofNat (o + (c.1.length + c.2.length))).toNatClampNeg = (if c.2 = [] then 261 else 262) := by rw [e0, h3]; exact hcode
        have hne : ¬ M3.1 q 2 ≤ Int32.ofNat (o + (c.1.length + c.2.length)) := by rw [h3, hz, of_le (by omega) (by omega)]; omega
        have lem := t7_5 (X := X) (d := d) a (Int32.ofNat b) q (Int32.ofNat k) (Int32.ofNat (o + (c.1.length + c.2.length))) v2 M3 hG3 ha hq (fun _ => vp_of (by omega) (by omega))
        rw [hS] at lem
        by_cases c2 : c.2 = []
        · rw [if_pos c2] at lem ⊢
          rw [lem (fun _ _ _ h => absurd rfl h) (fun _ _ _ h => absurd rfl h) (fun _ _ _ h => absurd rfl h), if_neg hne, if_neg (by decide), if_pos (by decide), if_pos rfl]
        · rw [if_neg c2] at lem ⊢
          rw [lem (fun _ _ _ _ h => absurd rfl h) (fun _ _ _ _ h => absurd rfl h) (fun _ _ _ _ h => absurd rfl h), if_neg hne, if_neg (by decide), if_pos (by decide), if_neg (by decide), if_neg (by decide)]
      by_cases c2 : c.2 = []
      · obtain ⟨u, hu, ht⟩ := tail 1 v2 M2 w2 hG2 (by omega) (Or.inl c2)
        rw [show o + (c.1.length + c.2.length) = o + c.1.length by rw [c2, List.length_nil]; omega] at ht
        rw [if_pos c2] at hu
        show ∃ M', zR X (d + 1) 7 (5, [.ref a, .int (Int32.ofNat b), .ref q, .int (Int32.ofNat 1), .int (Int32.ofNat (o + c.1.length)), v2], [], M2) = _ ∧ _
        rw [ht, hu, t7_104 _ _ _ _ _ _ _ hG2 ha hq, if_pos rfl, pTold, if_pos (Or.inl c2), hvs]
        exact ⟨M2, by rw [show M2.2.1 (a + 4) 0 = vs from w4.1], w2, w3⟩
      · have ht2 := hc.2.1.resolve_left c2
        have ht3 : pty c.2 [false] = some ([true] ++ [false]) := pty_app (b := [false]) ht2
        have hs2 := hs.2
        obtain ⟨M4, v4, y1, y2, y3, y4⟩ := s7_run (X := X) (d := d) (a := a) (q := q) (b := b) (z := z) (W := W) hG ha hq hb hW hz hz4 c.2 (o + c.1.length) [vs] [false] _ v2 M2 hs2 (by omega) ht3 ⟨fun e => (Bool.false_ne_true e).elim, True.intro⟩ (by show 1 + pcn c.2 ≤ 63; omega) w2 w3 w4
        obtain ⟨vt, e2, hvt⟩ := pok_e1 (pv_ok (W := W) ht2 (st := []) True.intro).1
        have e3 : pv W c.2 [vs] = [vt, vs] := by
          have := (pv_ok (W := W) ht2 (st := []) True.intro).2 [vs]
          rw [List.nil_append, e2] at this
          exact this
        have hvt2 : pvl W c.2 = vt := by unfold pvl; rw [e2]; rfl
        rw [e3] at y1 y4
        have hG4 := zfr_G y3 hG
        rw [y1]
        obtain ⟨u, hu, ht⟩ := tail 2 v4 M4 y2 hG4 (by omega) (Or.inr rfl)
        rw [if_neg c2] at hu
        show ∃ M', zR X (d + 1) 7 (5, [.ref a, .int (Int32.ofNat b), .ref q, .int (Int32.ofNat 2), .int (Int32.ofNat (o + c.1.length + c.2.length)), v4], [], M4) = _ ∧ _
        rw [Nat.add_assoc, ht, hu, t7_104 _ _ _ _ _ _ _ hG4 ha hq, if_neg (by decide), if_neg (by decide)]
        simp only [lgc_eq]
        have f1 : M4.2.1 (a + 4) 1 = vt := y4.1
        have f0 : M4.2.1 (a + 4) 0 = vs := y4.2.1
        rw [f1, f0]
        by_cases c3 : vt = 0
        · rw [if_pos c3, of_succ, pTold, if_neg (by rw [hvt2, c3]; intro h; rcases h with h | h; exact c2 h; exact absurd h (by decide))]
          have := ih (o + (c.1.length + c.2.length) + 1) (.int u) M4 (by rw [List.length_append] at hr; exact hr) (fun x hx => hok x (List.mem_cons_of_mem _ hx)) y2 y3
          rw [hu] at this
          exact this
        · rw [if_neg c3, pTold, if_pos (Or.inr (hvt2.trans ((hvt rfl).resolve_left c3))), hvs]
          exact ⟨M4, rfl, y2, y3⟩
  rw [t7_0 _ _ _ _ _ _ _ hG ha hq]
  exact loop cls 0 zjk M hcl hok rfl zfr_rf
