/-! ===== the reference's terms and sums ===== -/
/-- the same, and the reference stands at the next piece -/
def rRx (t : zTx) (sl o : Nat) (M0 : zM) (r : zPs) (z : Option zO) : Prop := match r with
  | .inl f => ∃ M', z = some (none, M') ∧ qF (300 * sl + o) M0 M' ∧ rX t sl f M'
  | .inr s => ∃ M', z = some (none, M') ∧ qF (300 * sl + o) M0 M' ∧ rS t sl o s.1 s.2.1 s.2.2 M'
theorem rRx_t {t : zTx} {sl o : Nat} {M0 M : zM} {r : zPs} {z : Option zO} (h : qF (300 * sl + o) M0 M) (hr : rRx t sl o M r z) : rRx t sl o M0 r z := by
  cases r with
  | inl f => obtain ⟨M', w1, w2, w3⟩ := hr; exact ⟨M', w1, qF_t h w2, w3⟩
  | inr s => obtain ⟨M', w1, w2, w3⟩ := hr; exact ⟨M', w1, qF_t h w2, w3⟩
theorem rS_g {t : zTx} {sl o q c : Nat} {e : List zOp} {M : zM} (h : rS t sl o q c e M) : zGE M := h.1.1
theorem rX_g {t : zTx} {sl f : Nat} {M : zM} (h : rX t sl f M) : zGE M := h.1.1
theorem rS_hb {t : zTx} {sl o q c : Nat} {e : List zOp} {M : zM} (h : rS t sl o q c e M) : ∀ k, k < t.1 → t.2 k < 256 := fun k hk => (h.1.2.1.2.2 k hk).1
theorem rS_4 {X : (Nat → Int32) × Nat} {d sl o q c : Nat} {t : zTx} {e : List zOp} {M : zM} (h : rS t sl o q c e M) : zC X d 144 [.ref 460] M = some (some (.int (sgR t q)), M) := r144 h.1.1 h.1.2.1 h.2.2.1 (by have := h.2.1; have := h.1.2.1.1; omega)
theorem rS_b {X : (Nat → Int32) × Nat} {d sl o q c : Nat} {t : zTx} {e : List zOp} {M : zM} (h : rS t sl o q c e M) : zC X (d + 1) 145 [.ref 460] M = some (none, zp M (ken isB t q)) := r145z h.1.1 h.1.2.1 h.2.2.1 (by have := h.2.1; have := h.1.2.1.1; omega)
theorem r149g {X : (Nat → Int32) × Nat} {d sl o q c : Nat} {t : zTx} {e : List zOp} {M : zM} {k v : Int32} (h : rS t sl o q c e M) (hr : o + e.length < 300) : zC X d 149 [.ref 460, .int k, .int v] M = some (none, eM k v M) := r149 h.1.1 (fun _ => (rS_v h hr).1)
theorem r149x {X : (Nat → Int32) × Nat} {d sl f : Nat} {t : zTx} {M : zM} {k v : Int32} (h : rX t sl f M) : zC X d 149 [.ref 460, .int k, .int v] M = some (none, M) := by
  rw [r149 h.1.1 (fun h0 => absurd h0 (rX_0 h)), rX_e h]
/-- raw signs -/
theorem kk_b {t : zTx} {p x : Nat} (hb : ∀ k, k < t.1 → t.2 k < 256) (hx : x < 256) (h1 : ¬ (97 ≤ x ∧ x ≤ 122)) (h2 : ¬ (48 ≤ x ∧ x ≤ 57)) (h3 : x ≠ 60) (h4 : x ≠ 62) : (kk t p = x ↔ p < t.1 ∧ t.2 p = x) ∧ (kk t p = x → kX t p = p + 1) := by
  rcases kcs (p := p) hb with h | h | h | h | h
  · exact ⟨⟨fun h0 => by omega, fun h0 => by omega⟩, fun h0 => by omega⟩
  · exact ⟨⟨fun h0 => by omega, fun h0 => by omega⟩, fun h0 => by omega⟩
  · exact ⟨⟨fun h0 => by omega, fun h0 => by omega⟩, fun h0 => by omega⟩
  · obtain ⟨g1, g2, g3, g4, g5⟩ := h
    refine ⟨⟨fun h0 => ?_, fun h0 => by omega⟩, fun h0 => ?_⟩
    · rw [g3] at h0; split at h0 <;> omega
    · rw [g3] at h0; split at h0 <;> omega
  · exact ⟨⟨fun h0 => by omega, fun h0 => by omega⟩, fun h0 => by omega⟩
def pSmC (t : zTx) (k pl : Nat) (s : Nat × Nat × List zOp) : zPs := if ¬ opP (kk t s.1) = 0 then pSmL t k 0 (opP (kk t s.1)) (kA t s.1) s.2.1 (zsn pl s.2.2) else .inr (s.1, s.2.1, zsn pl s.2.2)
/-- how a term ends -/
def rTm (t : zTx) (sl o k pl : Nat) (M0 : zM) (r : zPs) (z : Option zO) : Prop :=
  (∃ f M', z = some (none, M') ∧ qF (300 * sl + o) M0 M' ∧ rX t sl f M' ∧ r = .inl f) ∨
  ∃ k' s M', k' < k ∧ z = some (none, M') ∧ qF (300 * sl + o) M0 M' ∧ rS t sl o s.1 s.2.1 s.2.2 M' ∧ r = pSmC t k' pl s ∧ opT (kk t s.1) = 0 ∧ s.2.1 ≤ 60 ∧ t.1 < s.1 + k' + 1 ∧ 2 * (o + s.2.2.length + phi pl) + 1 ≤ s.1 + 2 * s.2.1 ∧ ken isB t s.1 = s.1
theorem rTm_t {t : zTx} {sl o k pl : Nat} {M0 M : zM} {r : zPs} {z : Option zO} (h : qF (300 * sl + o) M0 M) (hr : rTm t sl o k pl M r z) : rTm t sl o k pl M0 r z := by
  rcases hr with ⟨f, M', w1, w2, w3⟩ | ⟨k', s, M', w0, w1, w2, w3⟩
  · exact Or.inl ⟨f, M', w1, qF_t h w2, w3⟩
  · exact Or.inr ⟨k', s, M', w0, w1, qF_t h w2, w3⟩
noncomputable def tmA (X : (Nat → Int32) × Nat) (d tm : Nat) (v1 : Value) (M : zM) : Option zO := if tm = 0 then zR X (d + 1) 153 (4, [.ref 460, v1], [], M) else zR X (d + 1) 153 (87, [.ref 460, .int (Int32.ofNat tm)], [], M)
theorem r153a {X : (Nat → Int32) × Nat} {d sl o pl : Nat} {t : zTx} : ∀ k {tm q0 p c : Nat} {e : List zOp} {M : zM} {v1 : Value}, okT2 tm → okP2 pl → rS t sl o q0 c e M → ken isB t q0 = p → c ≤ 60 → t.1 < p + k → 2 * (o + e.length + phi tm + phi pl) ≤ p + 2 * c → rTm t sl o k pl M (pSmL t k tm pl p c e) ((zC X (d + 5) 152 [.ref 460] M).bind fun z => tmA X (d + 5) tm v1 z.2) := by
  intro k
  induction k with
  | zero =>
    intro tm q0 p c e M v1 ht hpl h hp hc hk hr
    have := (ken_b (P := isB) (t := t) (p := q0)).2.1 h.2.1
    omega
  | succ k ih =>
    intro tm q0 p c e M v1 ht hpl h hp hc hk hr
    have hL := h.1.2.1.1
    have hb := rS_hb h
    have hpt : p ≤ t.1 := by rw [← hp]; exact ken_b.2.1 h.2.1
    have hv := r152 (X := X) (d := d) h hp hc (by omega)
    -- a fault goes through
    have flt : ∀ f M2, rX t sl f M2 → ∃ M', tmA X (d + 5) tm v1 M2 = some (none, M') ∧ qF (300 * sl + o) M2 M' ∧ rX t sl f M' := by
      intro f M2 h2
      have end8 : ∀ v f M3, rX t sl f M3 → zR X (d + 6) 153 (8, [.ref 460, v], [], M3) = some (none, M3) := fun v f M3 h3 => by
        rw [t153_8 _ _ (rX_g h3), if_pos (rX_0 h3)]
      unfold tmA
      by_cases c0 : tm = 0
      · obtain ⟨M3, y1, y2, y3⟩ := rX_b (X := X) (d := d + 4) (b := 300 * sl + o) h2
        rw [if_pos c0, t153_4 _ _ (rX_g h2), y1, Option.bind_some]
        dsimp only [zps]
        exact ⟨M3, end8 _ _ _ y3, y2, y3⟩
      · obtain ⟨M3, y1, y2, y3⟩ := rX_b (X := X) (d := d + 4) (b := 300 * sl + o) h2
        rw [if_neg c0, t153_87 _ _ (rX_g h2), r149x h2, Option.bind_some]
        dsimp only [zps]
        rw [t153_93 _ _ (rX_g h2), y1, Option.bind_some]
        dsimp only [zps]
        rw [t153_97 _ _ (rX_g y3)]
        exact ⟨M3, end8 _ _ _ y3, y2, y3⟩
    cases hpv : pVal t p c e with
    | inl f =>
      rw [hpv] at hv
      obtain ⟨M2, w1, w2, w3⟩ := hv
      obtain ⟨M3, y1, y2, y3⟩ := flt f M2 w3
      refine Or.inl ⟨f, M3, ?_, qF_t w2 y2, y3, by rw [pSmL, hpv]⟩
      rw [w1, Option.bind_some]
      exact y1
    | inr s =>
      rw [hpv] at hv
      obtain ⟨M2, q2, w1, w2, w3, w4⟩ := hv
      obtain ⟨d1, d2, d3, d4, d5, l, d6, d7, d8, d9⟩ := pVal_d hpv
      have hlen : s.2.2.length = e.length + l.length := by rw [d6, List.length_append]
      have hl3 := zsn_n (x := tm) (e := s.2.2)
      -- behind the sign
      have step1 : ∃ M3 v, tmA X (d + 5) tm v1 M2 = zR X (d + 6) 153 (8, [.ref 460, v], [], M3) ∧ qF (300 * sl + o) M2 M3 ∧ rS t sl o s.1 s.2.1 (zsn tm s.2.2) M3 := by
        unfold tmA
        by_cases c0 : tm = 0
        · rw [if_pos c0, t153_4 _ _ (rS_g w3), rS_b w3, w4, Option.bind_some]
          dsimp only [zps]
          refine ⟨_, _, rfl, qF_I (by omega), ?_⟩
          rw [show zsn tm s.2.2 = s.2.2 from if_pos c0]
          exact rS_p w3 d2
        · obtain ⟨f1, f2⟩ := rS_e (k := tm) (v := 0) (x := Int32.ofNat tm) (y := 0) w3 (by omega) rfl rfl
          rw [if_neg c0, t153_87 _ _ (rS_g w3), r149g w3 (by omega), Option.bind_some]
          dsimp only [zps]
          rw [t153_93 _ _ (rS_g f2), rS_b f2, w4, Option.bind_some]
          dsimp only [zps]
          rw [t153_97 _ _ (rS_g (rS_p f2 d2))]
          refine ⟨_, _, rfl, qF_t f1 (qF_I (by omega)), ?_⟩
          rw [show zsn tm s.2.2 = s.2.2 ++ [(tm, 0)] from if_neg c0]
          exact rS_p f2 d2
      obtain ⟨M3, v, u1, u2, u3⟩ := step1
      have hz : ((zC X (d + 5) 152 [.ref 460] M).bind fun z => tmA X (d + 5) tm v1 z.2) = zR X (d + 6) 153 (8, [.ref 460, v], [], M3) := by
        rw [w1, Option.bind_some]
        exact u1
      have k42 := kk_b (t := t) (p := s.1) (x := 42) hb (by omega) (by omega) (by omega) (by omega) (by omega)
      have k47 := kk_b (t := t) (p := s.1) (x := 47) hb (by omega) (by omega) (by omega) (by omega) (by omega)
      have k37 := kk_b (t := t) (p := s.1) (x := 37) hb (by omega) (by omega) (by omega) (by omega) (by omega)
      have q42 : (sgR t s.1 = 42) ↔ kk t s.1 = 42 := (sgR_k (x := 42) hb (by omega)).trans k42.1.symm
      have q47 : (sgR t s.1 = 47) ↔ kk t s.1 = 47 := (sgR_k (x := 47) hb (by omega)).trans k47.1.symm
      have q37 : (sgR t s.1 = 37) ↔ kk t s.1 = 37 := (sgR_k (x := 37) hb (by omega)).trans k37.1.symm
      rw [hz, pSmL, hpv]
      rw [t153_8 _ _ (rS_g u3), if_neg (not_not_intro u3.2.2.2.1), rS_4 u3, Option.bind_some]
      dsimp only [zps]
      by_cases cT : opT (kk t s.1) = 0
      · have n42 : ¬ kk t s.1 = 42 := fun h0 => by rw [h0] at cT; exact absurd cT (by decide)
        have n47 : ¬ kk t s.1 = 47 := fun h0 => by rw [h0] at cT; exact absurd cT (by decide)
        have n37 : ¬ kk t s.1 = 37 := fun h0 => by rw [h0] at cT; exact absurd cT (by decide)
        rw [if_neg (not_not_intro cT), t153_19 _ _ _ (rS_g u3), if_neg (mt q42.mp n42), rS_4 u3, Option.bind_some]
        dsimp only [zps]
        rw [t153_28 _ _ _ (rS_g u3), if_neg (mt q47.mp n47), rS_4 u3, Option.bind_some]
        dsimp only [zps]
        rw [t153_37 _ _ _ (rS_g u3), if_pos (mt q37.mp n37)]
        exact Or.inr ⟨k, (s.1, s.2.1, zsn tm s.2.2), M3, by omega, rfl, qF_t w2 u2, u3, rfl, cT, d5, by show t.1 < s.1 + k + 1; omega, by show 2 * (o + (zsn tm s.2.2).length + phi pl) + 1 ≤ s.1 + 2 * s.2.1; omega, d3⟩
      · rw [if_pos cT]
        obtain ⟨a1, a2⟩ := kA_b (t := t) (p := s.1) (kk_p (fun h0 => cT (by rw [h0]; rfl)))
        have hs : kk t s.1 = 42 ∨ kk t s.1 = 47 ∨ kk t s.1 = 37 := by
          by_cases e42 : kk t s.1 = 42
          · exact Or.inl e42
          · by_cases e47 : kk t s.1 = 47
            · exact Or.inr (Or.inl e47)
            · by_cases e37 : kk t s.1 = 37
              · exact Or.inr (Or.inr e37)
              · exact absurd (by unfold opT; rw [if_neg e42, if_neg e47, if_neg e37]) cT
        have hX : kX t s.1 = s.1 + 1 := by
          rcases hs with e0 | e0 | e0
          · exact k42.2 e0
          · exact k47.2 e0
          · exact k37.2 e0
        have hph : phi (opT (kk t s.1)) = 1 := if_neg cT
        have h46 : rTm t sl o (k + 1) pl M (pSmL t k (opT (kk t s.1)) pl (kA t s.1) s.2.1 (zsn tm s.2.2)) ((zC X (d + 5) 152 [.ref 460] (zsI M3 460 27 (M3.1 460 27 + 1))).bind fun z => zR X (d + 6) 153 (87, [.ref 460, .int (Int32.ofNat (opT (kk t s.1)))], [], z.2)) := by
          rw [u3.2.2.1, of_succ]
          have hi := ih (tm := opT (kk t s.1)) (q0 := s.1 + 1) (p := kA t s.1) (v1 := .int 0) opT_v hpl (rS_p (q' := s.1 + 1) u3 (by omega)) (by unfold kA; rw [hX]) d5 (by omega) (by rw [hph]; omega)
          have hi2 := rTm_t (qF_t (qF_t w2 u2) (qF_I (k := 27) (x := Int32.ofNat (s.1 + 1)) (by omega))) hi
          have he : (fun z : zO => tmA X (d + 5) (opT (kk t s.1)) (.int 0) z.2) = fun z => zR X (d + 6) 153 (87, [.ref 460, .int (Int32.ofNat (opT (kk t s.1)))], [], z.2) := by
            funext z
            unfold tmA
            rw [if_neg cT]
          rw [he] at hi2
          rcases hi2 with g | ⟨k', s', M', g0, g⟩
          · exact Or.inl g
          · exact Or.inr ⟨k', s', M', by omega, g⟩
        have zz : ∀ o' : zO, o'.1 = none → zps o'.1 [] = [] := fun o' h0 => by rw [h0]; rfl
        -- the three signs
        have b46 : ∀ x, (kk t s.1 = 42 ∧ x = 13) ∨ (kk t s.1 = 47 ∧ x = 14) ∨ (kk t s.1 = 37 ∧ x = 15) → zR X (d + 6) 153 (46, [.ref 460, v], [.int (sgR t s.1)], M3) = ((zC X (d + 5) 152 [.ref 460] (zsI M3 460 27 (M3.1 460 27 + 1))).bind fun z => zR X (d + 6) 153 (87, [.ref 460, .int (Int32.ofNat (opT (kk t s.1)))], [], z.2)) := by
          intro x hx
          have hnone : ∀ y : Int32, y = Int32.ofNat (opT (kk t s.1)) → ((zC X (d + 5) 152 [.ref 460] (zsI M3 460 27 (M3.1 460 27 + 1))).bind fun z => zR X (d + 6) 153 (87, [.ref 460, .int y], zps z.1 [], z.2)) = ((zC X (d + 5) 152 [.ref 460] (zsI M3 460 27 (M3.1 460 27 + 1))).bind fun z => zR X (d + 6) 153 (87, [.ref 460, .int (Int32.ofNat (opT (kk t s.1)))], [], z.2)) := by
            intro y hy
            rw [u3.2.2.1, of_succ]
            have hv2 := r152 (X := X) (d := d) (rS_p (q' := s.1 + 1) u3 (by omega)) rfl d5 (by omega)
            cases hpw : pVal t (ken isB t (s.1 + 1)) s.2.1 (zsn tm s.2.2) with
            | inl f =>
              rw [hpw] at hv2
              obtain ⟨M4, z1, -⟩ := hv2
              rw [z1, Option.bind_some, Option.bind_some, hy]
              rfl
            | inr s' =>
              rw [hpw] at hv2
              obtain ⟨M4, q4, z1, -⟩ := hv2
              rw [z1, Option.bind_some, Option.bind_some, hy]
              rfl
          rcases hx with ⟨e0, e1⟩ | ⟨e0, e1⟩ | ⟨e0, e1⟩
          · rw [t153_46 _ _ _ (rS_g u3), if_neg (not_not_intro (q42.mpr e0))]
            exact hnone 13 (by rw [e0]; rfl)
          · rw [t153_46 _ _ _ (rS_g u3), if_pos (mt q42.mp (by omega)), rS_4 u3, Option.bind_some]
            dsimp only [zps]
            rw [t153_60 _ _ _ (rS_g u3), if_neg (not_not_intro (q47.mpr e0))]
            exact hnone 14 (by rw [e0]; rfl)
          · rw [t153_46 _ _ _ (rS_g u3), if_pos (mt q42.mp (by omega)), rS_4 u3, Option.bind_some]
            dsimp only [zps]
            rw [t153_60 _ _ _ (rS_g u3), if_pos (mt q47.mp (by omega))]
            exact hnone 15 (by rw [e0]; rfl)
        rcases hs with e0 | e0 | e0
        · rw [t153_19 _ _ _ (rS_g u3), if_pos (q42.mpr e0), rS_4 u3, Option.bind_some]
          dsimp only [zps]
          rw [b46 13 (Or.inl ⟨e0, rfl⟩)]
          exact h46
        · rw [t153_19 _ _ _ (rS_g u3), if_neg (mt q42.mp (by omega)), rS_4 u3, Option.bind_some]
          dsimp only [zps]
          rw [t153_28 _ _ _ (rS_g u3), if_pos (q47.mpr e0), rS_4 u3, Option.bind_some]
          dsimp only [zps]
          rw [b46 14 (Or.inr (Or.inl ⟨e0, rfl⟩))]
          exact h46
        · rw [t153_19 _ _ _ (rS_g u3), if_neg (mt q42.mp (by omega)), rS_4 u3, Option.bind_some]
          dsimp only [zps]
          rw [t153_28 _ _ _ (rS_g u3), if_neg (mt q47.mp (by omega)), rS_4 u3, Option.bind_some]
          dsimp only [zps]
          rw [t153_37 _ _ _ (rS_g u3), if_neg (not_not_intro (q37.mpr e0)), rS_4 u3, Option.bind_some]
          dsimp only [zps]
          rw [b46 15 (Or.inr (Or.inr ⟨e0, rfl⟩))]
          exact h46
noncomputable def smB (X : (Nat → Int32) × Nat) (d pl : Nat) (v1 : Value) (M : zM) : Option zO := if pl = 0 then zR X (d + 1) 154 (4, [.ref 460, v1], [], M) else zR X (d + 1) 154 (58, [.ref 460, .int (Int32.ofNat pl)], [], M)
theorem r153z {X : (Nat → Int32) × Nat} {d sl o pl k q0 p c : Nat} {t : zTx} {e : List zOp} {M : zM} (hpl : okP2 pl) (h : rS t sl o q0 c e M) (hp : ken isB t q0 = p) (hc : c ≤ 60) (hk : t.1 < p + k) (hr : 2 * (o + e.length + phi pl) ≤ p + 2 * c) : rTm t sl o k pl M (pSmL t k 0 pl p c e) (zC X (d + 6) 153 [.ref 460] M) := by
  have hv := r153a (X := X) (d := d) k (tm := 0) (v1 := zjk) (Or.inl rfl) hpl h hp hc hk (by show 2 * (o + e.length + 0 + phi pl) ≤ _; omega)
  have he : zC X (d + 6) 153 [.ref 460] M = ((zC X (d + 5) 152 [.ref 460] M).bind fun z => tmA X (d + 5) 0 zjk z.2) := by
    show zR X (d + 6) 153 (0, [.ref 460, zjk], [], M) = _
    have hz : ∃ M2, zC X (d + 5) 152 [.ref 460] M = some (none, M2) := by
      have hv2 := r152 (X := X) (d := d) h hp hc (by have := h.1.2.1.1; have := h.2.1; have := (ken_b (P := isB) (t := t) (p := q0)).2.1 h.2.1; omega)
      cases hpw : pVal t p c e with
      | inl f => rw [hpw] at hv2; obtain ⟨M4, z1, -⟩ := hv2; exact ⟨M4, z1⟩
      | inr s' => rw [hpw] at hv2; obtain ⟨M4, q4, z1, -⟩ := hv2; exact ⟨M4, z1⟩
    obtain ⟨M2, hz⟩ := hz
    rw [t153_0 _ _ (rS_g h), hz, Option.bind_some, Option.bind_some]
    rfl
  rw [he]
  exact hv
theorem r154a {X : (Nat → Int32) × Nat} {d sl o : Nat} {t : zTx} : ∀ k {pl q0 p c : Nat} {e : List zOp} {M : zM} {v1 : Value}, okP2 pl → rS t sl o q0 c e M → ken isB t q0 = p → c ≤ 60 → t.1 < p + k → 2 * (o + e.length + phi pl) ≤ p + 2 * c → rRx t sl o M (pSmL t k 0 pl p c e) ((zC X (d + 6) 153 [.ref 460] M).bind fun z => smB X (d + 6) pl v1 z.2) := by
  intro k
  induction k using Nat.strongRecOn with
  | _ k ih =>
    intro pl q0 p c e M v1 hpl h hp hc hk hr
    have hL := h.1.2.1.1
    have hb := rS_hb h
    rcases r153z (X := X) (d := d) hpl h hp hc hk hr with ⟨f, M2, w1, w2, w3, w4⟩ | ⟨k', s, M2, w0, w1, w2, w3, w4, w5, w6, w7, w8, w9⟩
    · rw [w4, w1, Option.bind_some]
      unfold smB
      by_cases c0 : pl = 0
      · refine ⟨M2, ?_, w2, w3⟩
        rw [if_pos c0, t154_4 _ _ (rX_g w3), if_pos (rX_0 w3)]
      · refine ⟨M2, ?_, w2, w3⟩
        rw [if_neg c0, t154_58 _ _ (rX_g w3), r149x w3, Option.bind_some]
        dsimp only [zps]
        rw [t154_64 _ _ (rX_g w3), t154_4 _ _ (rX_g w3), if_pos (rX_0 w3)]
    · have hl3 := zsn_n (x := pl) (e := s.2.2)
      have hs1 := w3.2.1
      have step1 : ∃ M3 v, smB X (d + 6) pl v1 M2 = zR X (d + 7) 154 (4, [.ref 460, v], [], M3) ∧ qF (300 * sl + o) M2 M3 ∧ rS t sl o s.1 s.2.1 (zsn pl s.2.2) M3 := by
        unfold smB
        by_cases c0 : pl = 0
        · rw [if_pos c0]
          refine ⟨_, _, rfl, qF_r, ?_⟩
          rw [show zsn pl s.2.2 = s.2.2 from if_pos c0]
          exact w3
        · obtain ⟨f1, f2⟩ := rS_e (k := pl) (v := 0) (x := Int32.ofNat pl) (y := 0) w3 (by omega) rfl rfl
          rw [if_neg c0, t154_58 _ _ (rS_g w3), r149g w3 (by omega), Option.bind_some]
          dsimp only [zps]
          rw [t154_64 _ _ (rS_g f2)]
          refine ⟨_, _, rfl, f1, ?_⟩
          rw [show zsn pl s.2.2 = s.2.2 ++ [(pl, 0)] from if_neg c0]
          exact f2
      obtain ⟨M3, v, u1, u2, u3⟩ := step1
      have k43 := kk_b (t := t) (p := s.1) (x := 43) hb (by omega) (by omega) (by omega) (by omega) (by omega)
      have k45 := kk_b (t := t) (p := s.1) (x := 45) hb (by omega) (by omega) (by omega) (by omega) (by omega)
      have q43 : (sgR t s.1 = 43) ↔ kk t s.1 = 43 := (sgR_k (x := 43) hb (by omega)).trans k43.1.symm
      have q45 : (sgR t s.1 = 45) ↔ kk t s.1 = 45 := (sgR_k (x := 45) hb (by omega)).trans k45.1.symm
      rw [w4, w1, Option.bind_some]
      dsimp only
      rw [u1, t154_4 _ _ (rS_g u3), if_neg (not_not_intro u3.2.2.2.1), rS_4 u3, Option.bind_some]
      dsimp only [zps]
      unfold pSmC
      by_cases cP : opP (kk t s.1) = 0
      · have n43 : ¬ kk t s.1 = 43 := fun h0 => by rw [h0] at cP; exact absurd cP (by decide)
        have n45 : ¬ kk t s.1 = 45 := fun h0 => by rw [h0] at cP; exact absurd cP (by decide)
        rw [if_neg (not_not_intro cP), t154_15 _ _ _ (rS_g u3), if_neg (mt q43.mp n43), rS_4 u3, Option.bind_some]
        dsimp only [zps]
        rw [t154_24 _ _ _ (rS_g u3), if_pos (mt q45.mp n45)]
        exact ⟨M3, rfl, qF_t w2 u2, u3⟩
      · rw [if_pos cP]
        obtain ⟨a1, a2⟩ := kA_b (t := t) (p := s.1) (kk_p (fun h0 => cP (by rw [h0]; rfl)))
        have hs : kk t s.1 = 43 ∨ kk t s.1 = 45 := by
          by_cases e43 : kk t s.1 = 43
          · exact Or.inl e43
          · by_cases e45 : kk t s.1 = 45
            · exact Or.inr e45
            · exact absurd (by unfold opP; rw [if_neg e43, if_neg e45]) cP
        have hX : kX t s.1 = s.1 + 1 := by
          rcases hs with e0 | e0
          · exact k43.2 e0
          · exact k45.2 e0
        have hph : phi (opP (kk t s.1)) = 1 := if_neg cP
        have hS' := rS_p (q' := s.1 + 1) u3 (by omega)
        have hp' : ken isB t (s.1 + 1) = kA t s.1 := by unfold kA; rw [hX]
        have hi := ih k' w0 (pl := opP (kk t s.1)) (q0 := s.1 + 1) (p := kA t s.1) (v1 := .int 0) opP_v hS' hp' w6 (by omega) (by rw [hph]; omega)
        have hi2 := rRx_t (qF_t (qF_t w2 u2) (qF_I (k := 27) (x := Int32.ofNat (s.1 + 1)) (by omega))) hi
        have b33 : zR X (d + 7) 154 (33, [.ref 460, v], [.int (sgR t s.1)], M3) = ((zC X (d + 6) 153 [.ref 460] (zp M3 (s.1 + 1))).bind fun z => smB X (d + 6) (opP (kk t s.1)) (.int 0) z.2) := by
          have hz : ∃ M4, zC X (d + 6) 153 [.ref 460] (zp M3 (s.1 + 1)) = some (none, M4) := by
            rcases r153z (X := X) (d := d) (pl := opP (kk t s.1)) (k := k') opP_v hS' hp' w6 (by omega) (by rw [hph]; omega) with ⟨f, M4, z1, -⟩ | ⟨k'', s', M4, -, z1, -⟩
            · exact ⟨M4, z1⟩
            · exact ⟨M4, z1⟩
          obtain ⟨M4, hz⟩ := hz
          unfold smB
          rw [hz, Option.bind_some]
          dsimp only
          rw [if_neg cP, t154_33 _ _ _ (rS_g u3), u3.2.2.1, of_succ, hz, Option.bind_some, Option.bind_some]
          dsimp only [zps]
          rcases hs with e0 | e0
          · rw [if_neg (not_not_intro (q43.mpr e0)), e0]; rfl
          · rw [if_pos (mt q43.mp (by omega)), e0]; rfl
        rcases hs with e0 | e0
        · rw [t154_15 _ _ _ (rS_g u3), if_pos (q43.mpr e0), rS_4 u3, Option.bind_some]
          dsimp only [zps]
          rw [b33]
          exact hi2
        · rw [t154_15 _ _ _ (rS_g u3), if_neg (mt q43.mp (by omega)), rS_4 u3, Option.bind_some]
          dsimp only [zps]
          rw [t154_24 _ _ _ (rS_g u3), if_neg (not_not_intro (q45.mpr e0)), rS_4 u3, Option.bind_some]
          dsimp only [zps]
          rw [b33]
          exact hi2
theorem r154 {X : (Nat → Int32) × Nat} {d sl o q0 p c : Nat} {t : zTx} {e : List zOp} {M : zM} (h : rS t sl o q0 c e M) (hp : ken isB t q0 = p) (h0 : 0 < p) (hc : c ≤ 60) (hr : 2 * (o + e.length) ≤ p + 2 * c) : rRx t sl o M (pSum t p c e) (zC X (d + 7) 154 [.ref 460] M) := by
  have hL := h.1.2.1.1
  have hv := r154a (X := X) (d := d) 400 (pl := 0) (v1 := zjk) (Or.inl rfl) h hp hc (by omega) (by show 2 * (o + e.length + 0) ≤ _; omega)
  have he : zC X (d + 7) 154 [.ref 460] M = ((zC X (d + 6) 153 [.ref 460] M).bind fun z => smB X (d + 6) 0 zjk z.2) := by
    show zR X (d + 7) 154 (0, [.ref 460, zjk], [], M) = _
    have hz : ∃ M4, zC X (d + 6) 153 [.ref 460] M = some (none, M4) := by
      rcases r153z (X := X) (d := d) (pl := 0) (k := 400) (Or.inl rfl) h hp hc (by omega) (by show 2 * (o + e.length + 0) ≤ _; omega) with ⟨f, M4, z1, -⟩ | ⟨k'', s', M4, -, z1, -⟩
      · exact ⟨M4, z1⟩
      · exact ⟨M4, z1⟩
    obtain ⟨M2, hz⟩ := hz
    rw [t154_0 _ _ (rS_g h), hz, Option.bind_some, Option.bind_some]
    rfl
  rw [he]
  exact hv
theorem r154x {X : (Nat → Int32) × Nat} {d b sl f : Nat} {t : zTx} {M : zM} (h : rX t sl f M) : ∃ M', zC X (d + 7) 154 [.ref 460] M = some (none, M') ∧ qF b M M' ∧ rX t sl f M' := by
  obtain ⟨M2, w1, w2, w3⟩ := r152x (X := X) (d := d) (b := b) h
  obtain ⟨M3, y1, y2, y3⟩ := rX_b (X := X) (d := d + 4) (b := b) w3
  have h153 : zC X (d + 6) 153 [.ref 460] M = some (none, M3) := by
    show zR X (d + 6) 153 (0, [.ref 460, zjk], [], M) = _
    rw [t153_0 _ _ (rX_g h), w1, Option.bind_some]
    dsimp only [zps]
    rw [t153_4 _ _ (rX_g w3), y1, Option.bind_some]
    dsimp only [zps]
    rw [t153_8 _ _ (rX_g y3), if_pos (rX_0 y3)]
  refine ⟨M3, ?_, qF_t w2 y2, y3⟩
  show zR X (d + 7) 154 (0, [.ref 460, zjk], [], M) = _
  rw [t154_0 _ _ (rX_g h), h153, Option.bind_some]
  dsimp only [zps]
  rw [t154_4 _ _ (rX_g y3), if_pos (rX_0 y3)]
