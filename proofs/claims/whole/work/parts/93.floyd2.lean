/-! ===== the class finds the ways ===== -/
theorem rwV {fr to da : Nat → Int32} {a b : Nat} : ∀ n, (∀ j, j < n → ∃ dd, 1 ≤ dd ∧ dd ≤ 30 ∧ da j = Int32.ofNat dd) → ∃ v, rwD fr to da a b n = Int32.ofNat v ∧ (v = 100000 ∨ (1 ≤ v ∧ v ≤ 30))
  | 0, _ => ⟨100000, rfl, Or.inl rfl⟩
  | n + 1, h => by
    obtain ⟨v, h1, h2⟩ := rwV (fr := fr) (to := to) (a := a) (b := b) n (fun j hj => h j (by omega))
    obtain ⟨dd, h3, h4, h5⟩ := h n (by omega)
    rw [rwD]
    split
    · exact ⟨dd, h5, Or.inr ⟨h3, h4⟩⟩
    · exact ⟨v, h1, h2⟩
theorem rwD_sym {fr to da : Nat → Int32} {a b : Nat} : ∀ n, rwD fr to da a b n = rwD fr to da b a n
  | 0 => rfl
  | n + 1 => by
    rw [rwD, rwD, rwD_sym n]
    exact ifq (and_congr ⟨fun h => h.elim Or.inr Or.inl, fun h => h.elim Or.inr Or.inl⟩ Iff.rfl) rfl rfl
def rD (e : Nat) (M : zM) (n a b : Nat) : Nat := if a = b then 0 else (rwD (M.1 (e + 12)) (M.1 (e + 13)) (M.1 (e + 14)) a b n).toNatClampNeg
theorem rD_v {e n a b : Nat} {M : zM} (hR : okRd e M) (hn : n ≤ (M.1 (e + 1) 3).toNatClampNeg) (hab : a ≠ b) : rwD (M.1 (e + 12)) (M.1 (e + 13)) (M.1 (e + 14)) a b n = Int32.ofNat (rD e M n a b) ∧ (rD e M n a b = 100000 ∨ (1 ≤ rD e M n a b ∧ rD e M n a b ≤ 30)) := by
  obtain ⟨v, v1, v2⟩ := rwV (fr := M.1 (e + 12)) (to := M.1 (e + 13)) (da := M.1 (e + 14)) (a := a) (b := b) n (fun j hj => by
    obtain ⟨f, t, dd, k1, k2, k3, k4, k5, k6, k7, k8⟩ := hR.2 j (by omega)
    exact ⟨dd, k4, k5, k8⟩)
  have e1 : rD e M n a b = v := by
    unfold rD
    rw [if_neg hab, v1, toNat_of (by omega)]
  rw [e1]
  exact ⟨v1, v2⟩
def wmD (e : Nat) (M : zM) (W : Nat → Nat → Nat) : Prop := ∀ i j, i < 8 → j < 8 → M.1 (e + 19 + i) j = Int32.ofNat (W i j)
theorem s16 {X : (Nat → Int32) × Nat} {d e n : Nat} {M : zM} (hG : zGE M) (he : zqk e 1 = true) (hn : M.1 (e + 1) 3 = Int32.ofNat n) (hn8 : n ≤ 8) (hR : okRd e M) : ∃ M', zC X (d + 1) 16 [.ref e] M = some (none, M') ∧ zfr (e + 19) (e + 27) M M' ∧ wmD e M' (cap (fwN (rD e M n) 8)) := by
  show ∃ M', zR X (d + 1) 16 (0, [.ref e, zjk, zjk, zjk], [], M) = some (none, M') ∧ _
  have lit8 : (8 : Int32) = Int32.ofNat 8 := rfl
  have gG : ∀ {M1}, zfr (e + 19) (e + 27) M M1 → zGE M1 := fun h => zfr_G h hG
  have hnn : (M.1 (e + 1) 3).toNatClampNeg = n := by rw [hn, toNat_of (by omega)]
  -- nothing told
  have ini2 : ∀ m j i v3 M1, j + m = 8 → i < 8 → zfr (e + 19) (e + 27) M M1 → (∀ x y, x < 8 → y < 8 → (x < i ∨ (x = i ∧ y < j)) → M1.1 (e + 19 + x) y = Int32.ofNat (if x = y then 0 else 1000)) → ∃ M2, zR X (d + 1) 16 (10, [.ref e, .int (Int32.ofNat i), .int (Int32.ofNat j), v3], [], M1) = zR X (d + 1) 16 (2, [.ref e, .int (Int32.ofNat (i + 1)), .int (Int32.ofNat 8), v3], [], M2) ∧ zfr (e + 19) (e + 27) M M2 ∧ ∀ x y, x < 8 → y < 8 → x < i + 1 → M2.1 (e + 19 + x) y = Int32.ofNat (if x = y then 0 else 1000) := by
    intro m
    induction m with
    | zero =>
      intro j i v3 M1 hj hi hz h
      have e8 : j = 8 := by omega
      subst e8
      have hle : (8 : Int32) ≤ Int32.ofNat 8 := by decide
      rw [t16_10 _ _ _ _ _ (gG hz) he (fun h => absurd hle h) (fun h => absurd hle h) (fun h => absurd hle h), if_pos hle, of_succ]
      exact ⟨M1, rfl, hz, fun x y hx hy h1 => h x y hx hy (by omega)⟩
    | succ m ih =>
      intro j i v3 M1 hj hi hz h
      have hle : ¬ (8 : Int32) ≤ Int32.ofNat j := by rw [lit8, of_le (by omega) (by omega)]; omega
      have ii : (Int32.ofNat i).toNatClampNeg = i := toNat_of (by omega)
      have jj : (Int32.ofNat j).toNatClampNeg = j := toNat_of (by omega)
      rw [t16_10 _ _ _ _ _ (gG hz) he (fun _ => vp_of hi (by omega)) (fun _ _ => vp_of (by omega) (by omega)) (fun _ _ => vp_of (by omega) (by omega)), if_neg hle, ii, jj, of_succ, fi_ne (by omega) (by omega)]
      have st : ∀ (v : Int32), v = Int32.ofNat (if i = j then 0 else 1000) → ∃ M2, zR X (d + 1) 16 (10, [.ref e, .int (Int32.ofNat i), .int (Int32.ofNat (j + 1)), v3], [], zsI M1 (e + 19 + i) j v) = zR X (d + 1) 16 (2, [.ref e, .int (Int32.ofNat (i + 1)), .int (Int32.ofNat 8), v3], [], M2) ∧ zfr (e + 19) (e + 27) M M2 ∧ ∀ x y, x < 8 → y < 8 → x < i + 1 → M2.1 (e + 19 + x) y = Int32.ofNat (if x = y then 0 else 1000) := fun v hv => by
        refine ih (j + 1) i v3 _ (by omega) hi (zfr_I hz (by omega) (by omega)) (fun x y hx hy hxy => ?_)
        by_cases ex : x = i
        · subst ex
          rw [zI_s]
          by_cases ey : y = j
          · rw [if_pos ey, hv, ey]
          · rw [if_neg ey]; exact h x y hx hy (by omega)
        · rw [zI_n (by omega)]; exact h x y hx hy (by omega)
      by_cases c : i = j
      · rw [if_neg (not_not_intro c)]
        exact st 0 (by rw [if_pos c]; rfl)
      · rw [if_pos c]
        exact st 1000 (by rw [if_neg c]; rfl)
  have ini1 : ∀ m i v2 v3 M1, i + m = 8 → zfr (e + 19) (e + 27) M M1 → (∀ x y, x < 8 → y < 8 → x < i → M1.1 (e + 19 + x) y = Int32.ofNat (if x = y then 0 else 1000)) → ∃ v2' M2, zR X (d + 1) 16 (2, [.ref e, .int (Int32.ofNat i), v2, v3], [], M1) = zR X (d + 1) 16 (50, [.ref e, .int (Int32.ofNat 0), v2', v3], [], M2) ∧ zfr (e + 19) (e + 27) M M2 ∧ wmD e M2 (cap (rD e M 0)) := by
    intro m
    induction m with
    | zero =>
      intro i v2 v3 M1 hi hz h
      have e8 : i = 8 := by omega
      subst e8
      rw [t16_2 _ _ _ _ _ (gG hz) he, if_pos (by decide)]
      refine ⟨v2, M1, rfl, hz, fun x y hx hy => ?_⟩
      rw [h x y hx hy hx]
      unfold cap rD
      by_cases c : x = y
      · rw [if_pos c, if_pos c]; rfl
      · rw [if_neg c, if_neg c]; rfl
    | succ m ih =>
      intro i v2 v3 M1 hi hz h
      have hle : ¬ (8 : Int32) ≤ Int32.ofNat i := by rw [lit8, of_le (by omega) (by omega)]; omega
      rw [t16_2 _ _ _ _ _ (gG hz) he, if_neg hle]
      obtain ⟨M2, u1, u2, u3⟩ := ini2 8 0 i v3 M1 (by omega) (by omega) hz (fun x y hx hy hxy => h x y hx hy (by omega))
      obtain ⟨v2', M3, w1, w2, w3⟩ := ih (i + 1) (.int (Int32.ofNat 8)) v3 M2 (by omega) u2 u3
      exact ⟨v2', M3, u1.trans w1, w2, w3⟩
  -- the roads
  have rds : ∀ m k v2 v3 M1, k + m = n → zfr (e + 19) (e + 27) M M1 → wmD e M1 (cap (rD e M k)) → ∃ v2' v3' M2, zR X (d + 1) 16 (50, [.ref e, .int (Int32.ofNat k), v2, v3], [], M1) = zR X (d + 1) 16 (146, [.ref e, .int (Int32.ofNat 0), v2', v3'], [], M2) ∧ zfr (e + 19) (e + 27) M M2 ∧ wmD e M2 (cap (rD e M n)) := by
    intro m
    induction m with
    | zero =>
      intro k v2 v3 M1 hk hz h
      have ek : k = n := by omega
      subst ek
      have e3 : M1.1 (e + 1) 3 = Int32.ofNat k := by rw [(hz.2 (e + 1) (by omega)).1]; exact hn
      have hle : M1.1 (e + 1) 3 ≤ Int32.ofNat k := by rw [e3]; exact Int32.le_refl _
      rw [t16_50 _ _ _ _ _ (gG hz) he (fun h => absurd hle h), if_pos hle]
      exact ⟨v2, v3, M1, rfl, hz, h⟩
    | succ m ih =>
      intro k v2 v3 M1 hk hz h
      have e3 : M1.1 (e + 1) 3 = Int32.ofNat n := by rw [(hz.2 (e + 1) (by omega)).1]; exact hn
      have hle : ¬ M1.1 (e + 1) 3 ≤ Int32.ofNat k := by rw [e3, of_le (by omega) (by omega)]; omega
      have kk : (Int32.ofNat k).toNatClampNeg = k := toNat_of (by omega)
      obtain ⟨f, t, dd, k1, k2, k3, k4, k5, k6, k7, k8⟩ := hR.2 k (by omega)
      have f6 : M1.1 (e + 12) k = Int32.ofNat f := by rw [(hz.2 (e + 12) (by omega)).1]; exact k6
      have f7 : M1.1 (e + 13) k = Int32.ofNat t := by rw [(hz.2 (e + 13) (by omega)).1]; exact k7
      have f8 : M1.1 (e + 14) k = Int32.ofNat dd := by rw [(hz.2 (e + 14) (by omega)).1]; exact k8
      have ff : (Int32.ofNat f).toNatClampNeg = f := toNat_of (by omega)
      have tt : (Int32.ofNat t).toNatClampNeg = t := toNat_of (by omega)
      have hGz := gG hz
      rw [t16_50 _ _ _ _ _ hGz he (fun _ => vp_of (by omega) (by omega)), if_neg hle, kk, f6, f7, s13 hGz k1, Option.bind_some]
      dsimp only [zps]
      rw [t16_84 _ _ _ _ _ _ hGz he, if_neg (by decide), s13 hGz k2, Option.bind_some]
      dsimp only [zps]
      rw [t16_91 _ _ _ _ _ _ hGz he (fun _ => vp_of k1 (by omega)) (fun _ => vp_of k2 (by omega)) (fun _ => vp_of (by omega) (by omega)), if_neg (by decide), ff, tt, kk, f8, of_succ, h f t k1 k2]
      obtain ⟨v1, v2'⟩ := rD_v (a := f) (b := t) hR (show k ≤ _ by omega) k3
      have hw : (if Int32.ofNat dd < Int32.ofNat (cap (rD e M k) f t) then Int32.ofNat dd else Int32.ofNat (cap (rD e M k) f t)) = Int32.ofNat (cap (rD e M (k + 1)) f t) := by
        have hc : cap (rD e M k) f t ≤ 1000 := by unfold cap; split <;> omega
        rw [fi_lt (by omega) (by omega)]
        have e1 : rD e M (k + 1) f t = if dd < rD e M k f t then dd else rD e M k f t := by
          rw [rD, if_neg k3, rwD, v1, k6, k7, k8, ff, tt]
          by_cases c : dd < rD e M k f t
          · rw [if_pos ⟨Or.inl ⟨rfl, rfl⟩, (of_lt (by omega) (by omega)).2 c⟩, if_pos c, toNat_of (by omega)]
          · rw [if_neg (fun h => c ((of_lt (by omega) (by omega)).1 h.2)), if_neg c, toNat_of (by omega)]
        have e2 : cap (rD e M (k + 1)) f t = if dd < cap (rD e M k) f t then dd else cap (rD e M k) f t := by
          unfold cap
          rw [e1]
          repeat' split
          all_goals omega
        rw [e2]
        split <;> rfl
      rw [hw]
      refine ih (k + 1) _ _ _ (by omega) (zfr_I (zfr_I hz (by omega) (by omega)) (by omega) (by omega)) (fun x y hx hy => ?_)
      have hsym : cap (rD e M (k + 1)) t f = cap (rD e M (k + 1)) f t := by
        have q : rD e M (k + 1) t f = rD e M (k + 1) f t := by
          unfold rD
          rw [if_neg (show ¬ t = f from fun h => k3 h.symm), if_neg (show ¬ f = t from k3), rwD_sym]
        unfold cap
        rw [q]
      have hoth : ¬ (x = f ∧ y = t) → ¬ (x = t ∧ y = f) → cap (rD e M (k + 1)) x y = cap (rD e M k) x y := fun h1 h2 => by
        have : rD e M (k + 1) x y = rD e M k x y := by
          unfold rD
          by_cases c : x = y
          · rw [if_pos c, if_pos c]
          · rw [if_neg c, if_neg c, rwD, k6, k7, ff, tt, if_neg (fun h => h.1.elim (fun q => h1 ⟨q.1.symm, q.2.symm⟩) (fun q => h2 ⟨q.2.symm, q.1.symm⟩))]
        unfold cap
        rw [this]
      by_cases cx : x = t
      · by_cases cy : y = f
        · rw [cx, cy, zI_s, if_pos rfl, hsym]
        · have q := hoth (by omega) (by omega)
          rw [cx] at q
          rw [cx, zI_s, if_neg cy, zI_n (by omega), h t y k2 hy, q]
      · rw [zI_n (by omega)]
        by_cases cx2 : x = f
        · by_cases cy : y = t
          · rw [cx2, cy, zI_s, if_pos rfl]
          · have q := hoth (by omega) (by omega)
            rw [cx2] at q
            rw [cx2, zI_s, if_neg cy, h f y k1 hy, q]
        · rw [zI_n (by omega), h x y hx hy, hoth (by omega) (by omega)]
  -- the rounds
  have hcap : ∀ o x y, fwN (cap (rD e M n)) o x y ≤ 1000 := fun o x y => by
    rw [fwN_cap]
    unfold cap
    split <;> omega
  have h00 : ∀ x, x < 8 → cap (rD e M n) x x = 0 := fun x _ => by
    unfold cap rD
    rw [if_pos rfl]
    rfl
  have hU : ∀ o a b x y, fwU o (fwN (cap (rD e M n)) o) a b x y ≤ 1000 := fun o a b x y => by
    have h1 := hcap o x y
    have h2 := (fwF_le (o := o) (D := fwN (cap (rD e M n)) o) (a := x) (b := y)).1
    unfold fwU
    split <;> omega
  have lp3 : ∀ m b o a M1, b + m = 8 → o < 8 → a < 8 → zfr (e + 19) (e + 27) M M1 → wmD e M1 (fwU o (fwN (cap (rD e M n)) o) a b) → ∃ M2, zR X (d + 1) 16 (162, [.ref e, .int (Int32.ofNat o), .int (Int32.ofNat a), .int (Int32.ofNat b)], [], M1) = zR X (d + 1) 16 (154, [.ref e, .int (Int32.ofNat o), .int (Int32.ofNat (a + 1)), .int (Int32.ofNat 8)], [], M2) ∧ zfr (e + 19) (e + 27) M M2 ∧ wmD e M2 (fwU o (fwN (cap (rD e M n)) o) (a + 1) 0) := by
    intro m
    induction m with
    | zero =>
      intro b o a M1 hb ho ha hz h
      have e8 : b = 8 := by omega
      subst e8
      have hle : (8 : Int32) ≤ Int32.ofNat 8 := by decide
      rw [t16_162 _ _ _ _ _ (gG hz) he (fun h => absurd hle h) (fun h => absurd hle h) (fun h => absurd hle h), if_pos hle, of_succ]
      refine ⟨M1, rfl, hz, fun x y hx hy => ?_⟩
      rw [h x y hx hy]
      unfold fwU
      rw [ifq (show (x < a ∨ x = a ∧ y < 8) ↔ (x < a + 1 ∨ x = a + 1 ∧ y < 0) by omega) rfl rfl]
    | succ m ih =>
      intro b o a M1 hb ho ha hz h
      have hle : ¬ (8 : Int32) ≤ Int32.ofNat b := by rw [lit8, of_le (by omega) (by omega)]; omega
      have oo : (Int32.ofNat o).toNatClampNeg = o := toNat_of (by omega)
      have aa : (Int32.ofNat a).toNatClampNeg = a := toNat_of (by omega)
      have bb : (Int32.ofNat b).toNatClampNeg = b := toNat_of (by omega)
      have hoo : fwN (cap (rD e M n)) o o o = 0 := fwN_0 h00 o o ho
      have hab : fwU o (fwN (cap (rD e M n)) o) a b a b = fwN (cap (rD e M n)) o a b := by
        unfold fwU
        rw [if_neg (by omega)]
      have c1 := hcap o a o
      have c2 := hcap o o b
      have c3 := hcap o a b
      rw [t16_162 _ _ _ _ _ (gG hz) he (fun _ => vp_of ha (by omega)) (fun _ => vp_of (by omega) (by omega)) (fun _ => vp_of ho (by omega)), if_neg hle, oo, aa, bb, of_succ, h a o ha ho, h o b ho (by omega), h a b ha (by omega), hab, (fwU_o hoo a b a).1, (fwU_o hoo a b b).2, ← Int32.ofNat_add, fi_lt (by omega) (by omega)]
      have hv : (if fwN (cap (rD e M n)) o a o + fwN (cap (rD e M n)) o o b < fwN (cap (rD e M n)) o a b then Int32.ofNat (fwN (cap (rD e M n)) o a o + fwN (cap (rD e M n)) o o b) else Int32.ofNat (fwN (cap (rD e M n)) o a b)) = Int32.ofNat (fwF o (fwN (cap (rD e M n)) o) a b) := by
        unfold fwF
        split <;> rfl
      rw [hv]
      refine ih (b + 1) o a _ (by omega) ho ha (zfr_I hz (by omega) (by omega)) (fun x y hx hy => ?_)
      by_cases ex : x = a
      · subst ex
        rw [zI_s]
        by_cases ey : y = b
        · rw [if_pos ey]
          unfold fwU
          rw [if_pos (by omega), ey]
        · rw [if_neg ey, h x y hx hy]
          unfold fwU
          rw [ifq (show (x < x ∨ x = x ∧ y < b) ↔ (x < x ∨ x = x ∧ y < b + 1) by omega) rfl rfl]
      · rw [zI_n (by omega), h x y hx hy]
        unfold fwU
        rw [ifq (show (x < a ∨ x = a ∧ y < b) ↔ (x < a ∨ x = a ∧ y < b + 1) by omega) rfl rfl]
  have lp2 : ∀ m a o v3 M1, a + m = 8 → o < 8 → zfr (e + 19) (e + 27) M M1 → wmD e M1 (fwU o (fwN (cap (rD e M n)) o) a 0) → ∃ v3' M2, zR X (d + 1) 16 (154, [.ref e, .int (Int32.ofNat o), .int (Int32.ofNat a), v3], [], M1) = zR X (d + 1) 16 (146, [.ref e, .int (Int32.ofNat (o + 1)), .int (Int32.ofNat 8), v3'], [], M2) ∧ zfr (e + 19) (e + 27) M M2 ∧ wmD e M2 (fwN (cap (rD e M n)) (o + 1)) := by
    intro m
    induction m with
    | zero =>
      intro a o v3 M1 ha ho hz h
      have e8 : a = 8 := by omega
      subst e8
      rw [t16_154 _ _ _ _ _ (gG hz) he, if_pos (by decide), of_succ]
      refine ⟨v3, M1, rfl, hz, fun x y hx hy => ?_⟩
      rw [h x y hx hy]
      unfold fwU
      rw [if_pos (Or.inl hx)]
      rfl
    | succ m ih =>
      intro a o v3 M1 ha ho hz h
      have hle : ¬ (8 : Int32) ≤ Int32.ofNat a := by rw [lit8, of_le (by omega) (by omega)]; omega
      rw [t16_154 _ _ _ _ _ (gG hz) he, if_neg hle]
      obtain ⟨M2, u1, u2, u3⟩ := lp3 8 0 o a M1 (by omega) ho (by omega) hz h
      obtain ⟨v3', M3, w1, w2, w3⟩ := ih (a + 1) o (.int (Int32.ofNat 8)) M2 (by omega) ho u2 u3
      exact ⟨v3', M3, u1.trans w1, w2, w3⟩
  have lp1 : ∀ m o v2 v3 M1, o + m = 8 → zfr (e + 19) (e + 27) M M1 → wmD e M1 (fwN (cap (rD e M n)) o) → ∃ M2, zR X (d + 1) 16 (146, [.ref e, .int (Int32.ofNat o), v2, v3], [], M1) = some (none, M2) ∧ zfr (e + 19) (e + 27) M M2 ∧ wmD e M2 (fwN (cap (rD e M n)) 8) := by
    intro m
    induction m with
    | zero =>
      intro o v2 v3 M1 ho hz h
      have e8 : o = 8 := by omega
      subst e8
      rw [t16_146 _ _ _ _ _ (gG hz) he, if_pos (by decide)]
      exact ⟨M1, rfl, hz, h⟩
    | succ m ih =>
      intro o v2 v3 M1 ho hz h
      have hle : ¬ (8 : Int32) ≤ Int32.ofNat o := by rw [lit8, of_le (by omega) (by omega)]; omega
      rw [t16_146 _ _ _ _ _ (gG hz) he, if_neg hle]
      obtain ⟨v3', M2, u1, u2, u3⟩ := lp2 8 0 o v3 M1 (by omega) (by omega) hz (fun x y hx hy => by
        rw [h x y hx hy]
        unfold fwU
        rw [if_neg (by omega)])
      obtain ⟨M3, w1, w2, w3⟩ := ih (o + 1) (.int (Int32.ofNat 8)) v3' M2 (by omega) u2 u3
      exact ⟨M3, u1.trans w1, w2, w3⟩
  rw [t16_0 _ _ _ _ _ hG he]
  obtain ⟨v2, M1, a1, a2, a3⟩ := ini1 8 0 zjk zjk M (by omega) zfr_rf (fun x y _ _ h => absurd h (Nat.not_lt_zero x))
  obtain ⟨v2', v3', M2, b1, b2, b3⟩ := rds n 0 v2 zjk M1 (by omega) a2 a3
  obtain ⟨M3, c1, c2, c3⟩ := lp1 8 0 v2' v3' M2 (by omega) b2 b3
  refine ⟨M3, a1.trans (b1.trans c1), c2, ?_⟩
  rw [← fwN_cap]
  exact c3
