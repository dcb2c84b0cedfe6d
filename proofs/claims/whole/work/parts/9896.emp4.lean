/-! ===== the reference reads an empire's numbers ===== -/
def gB (t : zTx) (M : zM) : Prop := zGE M ∧ tqR t M
def gX (t : zTx) (f : Nat) (M : zM) : Prop := gB t M ∧ M.1 460 28 = Int32.ofNat f ∧ 0 < f ∧ f < 4000 ∧ ∃ q, q ≤ 410 ∧ M.1 460 27 = Int32.ofNat q
def gQ (t : zTx) (q : Nat) (M : zM) : Prop := gB t M ∧ q ≤ t.1 ∧ M.1 460 27 = Int32.ofNat q ∧ M.1 460 28 = 0
def pF (M M' : zM) : Prop := M'.2 = M.2 ∧ (∀ a, a ≠ 460 → M'.1 a = M.1 a) ∧ ∀ k, k ≠ 27 → k ≠ 28 → M'.1 460 k = M.1 460 k
def nF (M M' : zM) : Prop := M'.2 = M.2 ∧ (∀ a, a ≠ 460 → ¬ (475 ≤ a ∧ a ≤ 484) → M'.1 a = M.1 a) ∧ ∀ k, k ≠ 27 → k ≠ 28 → M'.1 460 k = M.1 460 k
theorem pF_r {M : zM} : pF M M := ⟨rfl, fun _ _ => rfl, fun _ _ _ => rfl⟩
theorem pF_t {M M1 M2 : zM} (h : pF M M1) (h' : pF M1 M2) : pF M M2 := ⟨h'.1.trans h.1, fun a q => (h'.2.1 a q).trans (h.2.1 a q), fun k q1 q2 => (h'.2.2 k q1 q2).trans (h.2.2 k q1 q2)⟩
theorem pF_I {M : zM} {k : Nat} {x : Int32} (hk : k = 27 ∨ k = 28) : pF M (zsI M 460 k x) := ⟨z2_I, fun a q => zI_n1 q, fun j q1 q2 => by rw [zI_s, if_neg (by omega)]⟩
theorem nF_p {M M' : zM} (h : pF M M') : nF M M' := ⟨h.1, fun a q _ => h.2.1 a q, h.2.2⟩
theorem nF_t {M M1 M2 : zM} (h : nF M M1) (h' : nF M1 M2) : nF M M2 := ⟨h'.1.trans h.1, fun a q1 q2 => (h'.2.1 a q1 q2).trans (h.2.1 a q1 q2), fun k q1 q2 => (h'.2.2 k q1 q2).trans (h.2.2 k q1 q2)⟩
theorem nF_I {M : zM} {a k : Nat} {x : Int32} (ha : 475 ≤ a ∧ a ≤ 484) : nF M (zsI M a k x) := ⟨z2_I, fun c _ q => zI_n1 (by omega), fun j _ _ => by rw [zI_n (by omega)]⟩
theorem gB_F {t : zTx} {M M' : zM} (h : nF M M') (hB : gB t M) : gB t M' := ⟨zGE_of hB.1 (by rw [h.1]), hB.2.1, by rw [h.2.2 26 (by omega) (by omega)]; exact hB.2.2.1, fun k hk => by rw [h.2.1 485 (by omega) (by omega)]; exact hB.2.2.2 k hk⟩
theorem gX_I {t : zTx} {f a k : Nat} {M : zM} {x : Int32} (h : gX t f M) (ha : 475 ≤ a ∧ a ≤ 484) : gX t f (zsI M a k x) := by
  obtain ⟨hB, h28, f1, f2, q, hq, h27⟩ := h
  exact ⟨gB_F (nF_I ha) hB, by rw [zI_n (by omega)]; exact h28, f1, f2, q, hq, by rw [zI_n (by omega)]; exact h27⟩
theorem gQ_I {t : zTx} {q a k : Nat} {M : zM} {x : Int32} (h : gQ t q M) (ha : 475 ≤ a ∧ a ≤ 484) : gQ t q (zsI M a k x) := by
  obtain ⟨hB, hq, h27, h28⟩ := h
  exact ⟨gB_F (nF_I ha) hB, hq, by rw [zI_n (by omega)]; exact h27, by rw [zI_n (by omega)]; exact h28⟩
theorem gX_0 {t : zTx} {f : Nat} {M : zM} (h : gX t f M) : ¬ M.1 460 28 = 0 := by rw [h.2.1]; exact f_ne h.2.2.1 h.2.2.2.1
theorem gX_b {X : (Nat → Int32) × Nat} {d f : Nat} {t : zTx} {M : zM} (h : gX t f M) : ∃ M', zC X (d + 1) 145 [.ref 460] M = some (none, M') ∧ pF M M' ∧ gX t f M' := by
  obtain ⟨hB, h28, f1, f2, q, hq, h27⟩ := h
  have hL := hB.2.1
  have hF : pF M (zp M (ken isB t q)) := pF_I (by omega)
  refine ⟨_, r145z hB.1 hB.2 h27 (by omega), hF, gB_F (nF_p hF) hB, by rw [zI_s, if_neg (by omega)]; exact h28, f1, f2, ken isB t q, ?_, by rw [zI_s, if_pos rfl]⟩
  by_cases c : q ≤ t.1
  · have := (ken_b (P := isB) (t := t) (p := q)).2.1 c
    omega
  · rw [ken_l (by omega)]; omega
theorem r161x {X : (Nat → Int32) × Nat} {d f : Nat} {t : zTx} {M : zM} {lo hi : Int32} (h : gX t f M) : ∃ M', zC X (d + 4) 161 [.ref 460, .int lo, .int hi] M = some (some (.int 0), M') ∧ pF M M' ∧ gX t f M' := by
  obtain ⟨M2, w1, w2, w3⟩ := gX_b (X := X) (d := d + 2) h
  refine ⟨M2, ?_, w2, w3⟩
  show zR X (d + 4) 161 (0, [.ref 460, .int lo, .int hi, zjk, zjk], [], M) = _
  rw [t161_0 _ _ _ _ _ h.1.1, w1, Option.bind_some]
  dsimp only [zps]
  rw [t161_4 _ _ _ _ _ w3.1.1, if_pos (gX_0 w3)]
theorem gQ_f {t : zTx} {q p w : Nat} {M : zM} (h : gQ t q M) (hp : p ≤ t.1) (hw : w ≤ 4) : gX t (1 + 8 * p + w) (zsI M 460 28 (Int32.ofNat (1 + 8 * p + w))) := by
  obtain ⟨hB, hq, h27, h28⟩ := h
  have hL := hB.2.1
  exact ⟨gB_F (nF_p (pF_I (by omega))) hB, by rw [zI_s, if_pos rfl], by omega, by omega, q, by omega, by rw [zI_s, if_neg (by omega)]; exact h27⟩
theorem gQ_p {t : zTx} {q q' : Nat} {M : zM} (h : gQ t q M) (hq : q' ≤ t.1) : gQ t q' (zp M q') := ⟨gB_F (nF_p (pF_I (by omega))) h.1, hq, by rw [zI_s, if_pos rfl], by rw [zI_s, if_neg (by omega)]; exact h.2.2.2⟩
theorem gQ_f2 {M : zM} {w p : Nat} (h : M.1 460 28 = 0) : fM w p M = zsI M 460 28 (Int32.ofNat (1 + 8 * p + w)) := if_pos h
theorem r161 {X : (Nat → Int32) × Nat} {d q0 p lo hi : Nat} {t : zTx} {M : zM} (h : gQ t q0 M) (hp : ken isB t q0 = p) (hlo : lo < 10000) (hhi : hi < 10000) :
    (¬ kk t p = 258 → ∃ v M', zC X (d + 4) 161 [.ref 460, .int (Int32.ofNat lo), .int (Int32.ofNat hi)] M = some (some (.int v), M') ∧ pF M M' ∧ gX t (1 + 8 * p + 0) M') ∧
    (kk t p = 258 → (5 < ken isD t p - p ∨ dvl t p < lo ∨ hi < dvl t p) → ∃ v M', zC X (d + 4) 161 [.ref 460, .int (Int32.ofNat lo), .int (Int32.ofNat hi)] M = some (some (.int v), M') ∧ pF M M' ∧ gX t (1 + 8 * p + 1) M') ∧
    (kk t p = 258 → ¬ (5 < ken isD t p - p ∨ dvl t p < lo ∨ hi < dvl t p) → ∃ M' q, zC X (d + 4) 161 [.ref 460, .int (Int32.ofNat lo), .int (Int32.ofNat hi)] M = some (some (.int (Int32.ofNat (dvl t p))), M') ∧ pF M M' ∧ gQ t q M' ∧ ken isB t q = kA t p) := by
  have hB := h.1
  have hL := hB.2.1
  have hb : ∀ k, k < t.1 → t.2 k < 256 := fun k hk => (hB.2.2.2 k hk).1
  have hpt : p ≤ t.1 := by rw [← hp]; exact ken_b.2.1 h.2.1
  have h1 := gQ_p h hpt
  have hF1 : pF M (zp M p) := pF_I (by omega)
  have hu : zC X (d + 4) 161 [.ref 460, .int (Int32.ofNat lo), .int (Int32.ofNat hi)] M = (zC X (d + 3) 151 [.ref 460, .int (Int32.ofNat 99999)] (zp M p)).bind fun o => zR X (d + 4) 161 (22, [.ref 460, .int (Int32.ofNat lo), .int (Int32.ofNat hi), .int (Int32.ofNat p), zjk], zps o.1 [], o.2) := by
    show zR X (d + 4) 161 (0, [.ref 460, .int (Int32.ofNat lo), .int (Int32.ofNat hi), zjk, zjk], [], M) = _
    rw [t161_0 _ _ _ _ _ hB.1, r145z hB.1 hB.2 h.2.2.1 (by have := h.2.1; omega), hp, Option.bind_some]
    dsimp only [zps]
    rw [t161_4 _ _ _ _ _ h1.1.1, if_neg (not_not_intro h1.2.2.2), h1.2.2.1]
    rfl
  have h146 := r146 (X := X) (d := d + 1) h1.1.1 h1.1.2 h1.2.2.1 (by omega)
  refine ⟨fun c1 => ?_, fun c1 c2 => ?_, fun c1 c2 => ?_⟩
  · have hnd : ¬ (p < t.1 ∧ isD (t.2 p) = true) := fun g => c1 ((kk_258 hb).mpr g)
    have hf := gQ_f (w := 0) h1 hpt (by omega)
    refine ⟨0, _, ?_, pF_t hF1 (pF_I (k := 28) (x := Int32.ofNat (1 + 8 * p + 0)) (by omega)), hf⟩
    have h151 : zC X (d + 3) 151 [.ref 460, .int (Int32.ofNat 99999)] (zp M p) = some (some (.int 0), zsI (zp M p) 460 28 (Int32.ofNat (1 + 8 * p + 0))) := by
      show zR X (d + 3) 151 (0, [.ref 460, .int (Int32.ofNat 99999), zjk, zjk], [], zp M p) = _
      rw [t151_0 _ _ _ _ h1.1.1, h146, if_neg hnd, Option.bind_some]
      dsimp only [zps]
      rw [t151_4 _ _ _ _ _ h1.1.1, if_neg (show ¬ ¬ (0 : Int32) = 0 by decide), h1.2.2.1, show zC X (d + 2) 143 [.ref 460, .int 0, .int (Int32.ofNat p)] (zp M p) = zC X (d + 2) 143 [.ref 460, .int (Int32.ofNat 0), .int (Int32.ofNat p)] (zp M p) from rfl, r143 h1.1.1, gQ_f2 h1.2.2.2, Option.bind_some]
      dsimp only [zps]
      rw [t151_16 _ _ _ _ hf.1.1]
    rw [hu, h151, Option.bind_some]
    dsimp only [zps]
    rw [t161_22 _ _ _ _ _ _ hf.1.1, if_pos (gX_0 hf)]
  all_goals
    have hd := (kk_258 hb).mp c1
    obtain ⟨b1, b2, -, -⟩ := ken_b (P := isD) (t := t) (p := p)
    have b3 := b2 hpt
    have hq := gQ_p h1 b3
    have hX : kX t p = ken isD t p := by
      rcases kcs (p := p) hb with g | g | g | g | g
      · omega
      · omega
      · exact g.2.2.2.1
      · have := g.2.2.1; split at this <;> omega
      · omega
    -- the digits
    have h151 : zC X (d + 3) 151 [.ref 460, .int (Int32.ofNat 99999)] (zp M p) = some (some (.int (Int32.ofNat (kdv t.2 p (min 5 (ken isD t p - p))))), if 5 < ken isD t p - p then fM 1 p (zp (zp M p) (ken isD t p)) else zp (zp M p) (ken isD t p)) := by
      exact r151g (X := X) (d := d + 1) h1.1.1 h1.1.2 h1.2.2.1 hd
  · by_cases k2 : 5 < ken isD t p - p
    · have hf := gQ_f (w := 1) hq hpt (by omega)
      refine ⟨Int32.ofNat (kdv t.2 p (min 5 (ken isD t p - p))), _, ?_, pF_t (pF_t hF1 (pF_I (k := 27) (x := Int32.ofNat (ken isD t p)) (by omega))) (pF_I (k := 28) (x := Int32.ofNat (1 + 8 * p + 1)) (by omega)), hf⟩
      rw [hu, h151, if_pos k2, gQ_f2 hq.2.2.2, Option.bind_some]
      dsimp only [zps]
      rw [t161_22 _ _ _ _ _ _ hf.1.1, if_pos (gX_0 hf)]
    · have hv : dvl t p ≤ 99999 := dig (t := t) (p := p) k2
      have hf := gQ_f (w := 1) hq hpt (by omega)
      have l1 : (Int32.ofNat (dvl t p) < Int32.ofNat lo ∨ Int32.ofNat hi < Int32.ofNat (dvl t p)) := by rw [of_lt (by omega) (by omega), of_lt (by omega) (by omega)]; omega
      refine ⟨Int32.ofNat (dvl t p), _, ?_, pF_t (pF_t hF1 (pF_I (k := 27) (x := Int32.ofNat (ken isD t p)) (by omega))) (pF_I (k := 28) (x := Int32.ofNat (1 + 8 * p + 1)) (by omega)), hf⟩
      rw [hu, h151, if_neg k2, show min 5 (ken isD t p - p) = ken isD t p - p by omega, show kdv t.2 p (ken isD t p - p) = dvl t p from rfl, Option.bind_some]
      dsimp only [zps]
      rw [t161_22 _ _ _ _ _ _ hq.1.1, if_neg (not_not_intro hq.2.2.2), r135i (a := Int32.ofNat lo) (b := Int32.ofNat hi) hq.1.1 rfl rfl, if_pos l1, Option.bind_some]
      dsimp only [zps]
      rw [t161_45 _ _ _ _ _ _ hq.1.1, if_neg (show ¬ ¬ (0 : Int32) = 0 by decide), show (1 : Int32) = Int32.ofNat 1 from rfl, r143 hq.1.1, gQ_f2 hq.2.2.2, Option.bind_some]
      dsimp only [zps]
      rw [t161_54 _ _ _ _ _ hf.1.1]
  · have k2 : ¬ 5 < ken isD t p - p := fun g => c2 (Or.inl g)
    have hv : dvl t p ≤ 99999 := dig (t := t) (p := p) k2
    have l1 : ¬ (Int32.ofNat (dvl t p) < Int32.ofNat lo ∨ Int32.ofNat hi < Int32.ofNat (dvl t p)) := by rw [of_lt (by omega) (by omega), of_lt (by omega) (by omega)]; omega
    refine ⟨_, ken isD t p, ?_, pF_t hF1 (pF_I (k := 27) (x := Int32.ofNat (ken isD t p)) (by omega)), hq, by unfold kA; rw [hX]⟩
    rw [hu, h151, if_neg k2, show min 5 (ken isD t p - p) = ken isD t p - p by omega, show kdv t.2 p (ken isD t p - p) = dvl t p from rfl, Option.bind_some]
    dsimp only [zps]
    rw [t161_22 _ _ _ _ _ _ hq.1.1, if_neg (not_not_intro hq.2.2.2), r135i (a := Int32.ofNat lo) (b := Int32.ofNat hi) hq.1.1 rfl rfl, if_neg l1, Option.bind_some]
    dsimp only [zps]
    rw [t161_45 _ _ _ _ _ _ hq.1.1, if_pos (show ¬ (1 : Int32) = 0 by decide)]
